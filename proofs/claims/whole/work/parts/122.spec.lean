/-! PURE: the town as one table of ints: kind, number, field. Kinds: 0 counts (0 quarter, 1 houses, 2 lanes, 3 bees, 4 letters), 1 hives, 2 lanes (a b length from till), 3 bees (0 place 1 left 2 strength 3 honour 4 rests 5 houses of its route 6 delivered 7 onward), 4 routes, 5 letters (to lies carrier arrived taken), 6 ways (1000: none) -/
abbrev Sg : Type := Nat → Nat → Nat → Int32
def su (s : Sg) (t i k : Nat) (v : Int32) : Sg := fun t' i' k' => if t' = t ∧ i' = i ∧ k' = k then v else s t' i' k'
abbrev cl (x : Int32) : Nat := Int32.toNatClampNeg x
theorem su_s {s : Sg} {t i k : Nat} {v : Int32} : su s t i k v t i k = v := if_pos ⟨rfl, rfl, rfl⟩
theorem su_t {s : Sg} {t i k t' i' k' : Nat} {v : Int32} (h : t' ≠ t) : su s t i k v t' i' k' = s t' i' k' := if_neg fun q => h q.1
theorem su_i {s : Sg} {t i k t' i' k' : Nat} {v : Int32} (h : i' ≠ i) : su s t i k v t' i' k' = s t' i' k' := if_neg fun q => h q.2.1
theorem su_k {s : Sg} {t i k t' i' k' : Nat} {v : Int32} (h : k' ≠ k) : su s t i k v t' i' k' = s t' i' k' := if_neg fun q => h q.2.2
def wy (s : Sg) (x y : Int32) : Int32 := if inR (s 0 0 1) x ∧ inR (s 0 0 1) y then s 6 (cl x) (cl y) else 1000
def tgF (s : Sg) (b : Nat) (to : Int32) : Nat → Int32 × Int32
  | 0 => (-1, 1000)
  | k + 1 => if wy s (s 4 b k) to < (tgF s b to k).2 then (s 4 b k, wy s (s 4 b k) to) else tgF s b to k
def tg (s : Sg) (b : Nat) (to : Int32) : Int32 := (tgF s b to (cl (s 3 b 5))).1
def slF (s : Sg) (a b : Int32) : Nat → Int32
  | 0 => -1
  | i + 1 => if ((s 2 i 0 = a ∧ s 2 i 1 = b) ∨ (s 2 i 0 = b ∧ s 2 i 1 = a)) ∧ (slF s a b i = -1 ∨ s 2 i 2 < s 2 (cl (slF s a b i)) 2) then nI i else slF s a b i
def sl (s : Sg) (a b : Int32) : Int32 := slF s a b (cl (s 0 0 2))
/-- how many letters a bee carries -/
def carF (s : Sg) (b : Nat) : Nat → Int32
  | 0 => 0
  | i + 1 => carF s b i + (if s 5 i 2 = nI b then 1 else 0)
def car (s : Sg) (b : Nat) : Int32 := carF s b (cl (s 0 0 4))
/-- how many letters have arrived -/
def arrF (s : Sg) : Nat → Int32
  | 0 => 0
  | i + 1 => arrF s i + (if s 5 i 3 = -1 then 0 else 1)
def arr (s : Sg) : Int32 := arrF s (cl (s 0 0 4))
def clip (x : Int32) : Int32 := if (0 : Int32) < (if x < (20 : Int32) then x else (20 : Int32)) then (if x < (20 : Int32) then x else (20 : Int32)) else (0 : Int32)
def strong (x : Int32) : Int32 := if x < (30 : Int32) then x else (30 : Int32)
/-- a letter at hand is handed over -/
def hoS (s : Sg) (b : Nat) (here : Int32) (i : Nat) : Sg :=
  if s 5 i 2 = nI b then
    if s 5 i 0 = here then su (su (su (su s 5 i 2 (-1)) 5 i 3 (s 0 0 0)) 3 b 6 (s 3 b 6 + 1)) 3 b 3 (clip (s 3 b 3 + 1))
    else if tg s b (s 5 i 0) = here then su (su s 5 i 2 (-1)) 5 i 1 here else s
  else s
def hoF (s : Sg) (b : Nat) (here : Int32) : Nat → Sg
  | 0 => s
  | i + 1 => hoS (hoF s b here i) b here i
def takeS (s : Sg) (b i : Nat) : Sg := su (su (su s 5 i 1 (-1)) 5 i 2 (nI b)) 5 i 4 (s 5 i 4 + 1)
def coS (s : Sg) (b : Nat) (here : Int32) (i : Nat) : Sg :=
  if s 5 i 1 = here ∧ ¬ (3 : Int32) ≤ car s b ∧ wy s (tg s b (s 5 i 0)) (s 5 i 0) < wy s here (s 5 i 0) then takeS s b i else s
def coF (s : Sg) (b : Nat) (here : Int32) : Nat → Sg
  | 0 => s
  | i + 1 => coS (coF s b here i) b here i
def hourS (s : Sg) : Int32 := s 0 0 0 - s 0 0 0 / (24 : Int32) * (24 : Int32)
/-- is the gate of lane l open? -/
def opS (s : Sg) (l : Nat) : Prop := ¬ hourS s < s 2 l 3 ∧ ¬ s 2 l 4 ≤ hourS s
def onS (s : Sg) (b : Nat) : Int32 := if s 3 b 0 = (if s 3 b 7 = 0 then 0 else s 3 b 5 - 1) then (if s 3 b 7 = 0 then 1 else 0) else s 3 b 7
def nextS (s : Sg) (b : Nat) : Int32 := if onS s b = 0 then s 3 b 0 + -1 else s 3 b 0 + 1
def flyS (s : Sg) (b : Nat) (here : Int32) : Sg :=
  let l := sl s here (s 4 b (cl (nextS s b)))
  if (¬ hourS s < s 2 (cl l) 3 ∧ ¬ s 2 (cl l) 4 ≤ hourS s) ∧ ¬ s 3 b 2 < s 2 (cl l) 2 then su (su (su (su s 3 b 7 (onS s b)) 3 b 2 (s 3 b 2 - s 2 (cl l) 2)) 3 b 1 (s 2 (cl l) 2)) 3 b 0 (nextS s b)
  else su (su s 3 b 7 (onS s b)) 3 b 2 (strong (s 3 b 2 + 1))
def mvS (s : Sg) (b : Nat) (here : Int32) : Sg :=
  if ¬ s 3 b 4 = 0 then su (su s 3 b 2 (strong (s 3 b 2 + 3))) 3 b 4 (if (20 : Int32) ≤ strong (s 3 b 2 + 3) then 0 else 1)
  else if ¬ s 1 (cl here) 0 = 0 ∧ ¬ (10 : Int32) ≤ s 3 b 2 then su s 3 b 4 1
  else if s 3 b 5 = 1 then s
  else flyS s b here
/-- a bee's part of a quarter -/
def beeS (s : Sg) (b : Nat) : Sg :=
  let s1 := if 0 < s 3 b 1 then su s 3 b 1 (s 3 b 1 - 1) else s
  if s1 3 b 1 = 0 then
    let here := s1 4 b (cl (s1 3 b 0))
    let s2 := hoF s1 b here (cl (s1 0 0 4))
    let s3 := coF s2 b here (cl (s1 0 0 4))
    mvS s3 b here
  else s1
def beeF (s : Sg) : Nat → Sg
  | 0 => s
  | b + 1 => beeS (beeF s b) b
def quS (s : Sg) : Sg := let s1 := beeF s (cl (s 0 0 3)); su s1 0 0 0 (s1 0 0 0 + 1)
def quF (s : Sg) : Nat → Sg
  | 0 => s
  | k + 1 => quS (quF s k)
