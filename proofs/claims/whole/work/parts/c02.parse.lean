/-! ===== the one recursive descent, pure ===== -/
section ParseP
abbrev PSt : Type := List Tk × Nat × (Nat → PD) × Option Nat × Nat × Nat
def q_l (s : PSt) : List Tk := s.1
def q_c (s : PSt) : Nat := s.2.1
def q_D (s : PSt) : Nat → PD := s.2.2.1
def q_o (s : PSt) : Option Nat := s.2.2.2.1
def q_b (s : PSt) : Nat := s.2.2.2.2.1
def q_m (s : PSt) : Nat := s.2.2.2.2.2
abbrev PRt : Type := Nat ⊕ (Nat × PSt)
def s0D : SD := (none, fun _ => 0, 0, 0)
def adN (S : SD) (n : Nat) : SD := (s_r S, fun k => if k = n then s_t S k + 1 else s_t S k, s_n S, s_s S ||| 2 ^ n)
def blO : Option Nat → Nat → Option Nat
  | none, p => some p
  | some q, p => some (min p q)
def puD (D : Nat → PD) (c : Nat) (P : PD) : Nat → PD := fun j => if j = c then P else D j
/-- behind the first token -/
def tlS (s : PSt) : PSt := ((q_l s).tail, q_c s, q_D s, q_o s, q_b s, q_m s)
/-- a part has ended -/
def enP (s : PSt) (P : PD) : PSt := (q_l s, q_c s + 1, puD (q_D s) (q_c s) P, q_o s, q_b s, q_m s)
abbrev TRt : Type := Nat ⊕ (SD × List Tk × Option Nat)
def tT (L most : Nat) (S : SD) (l : List Tk) (o : Option Nat) : TRt :=
  if kdT l = 2 then .inr ((s_r S, s_t S, s_n S + woT l, s_s S), l.tail, if s_n S + woT l ≤ most then o else blO o (plT L l))
  else if kdT l = 3 then .inr (adN S (woT l), l.tail, o)
  else .inl (plT L l)
def tS (L : Nat) : Nat → SD → List Tk → Option Nat → TRt
  | 0, _, l, _ => .inl (plT L l)
  | n + 1, S, l, o => match tT L 99 S l o with
    | .inl p => .inl p
    | .inr (S', l', o') => if kdT l' = 15 then tS L n S' l'.tail o' else .inr (S', l', o')
abbrev ERt : Type := Nat ⊕ (SD × List Tk × Option Nat × Nat)
def tEz (L rc : Nat) (wd : Nat → Nat) (w p : Nat) (more : Bool) (S : SD) (l : List Tk) (o : Option Nat) (nm : Nat) : ERt :=
  if kdT l = 14 then (if rc ≤ w ∨ (more = true ∧ 6 < wd w) then .inr (S, l.tail, blO o p, nm) else .inr (S, l.tail, o, nm ||| 2 ^ w))
  else .inl (plT L l)
def tEn (L rc : Nat) (wd : Nat → Nat) (l : List Tk) (o : Option Nat) (nm : Nat) : ERt :=
  if kdT l = 4 then
    if kdT l.tail = 13 then
      if kdT l.tail.tail = 3 then
        if kdT l.tail.tail.tail = 15 then
          match tT L 3 (adN (some (woT l), fun _ => 0, 0, 0) (woT l.tail.tail)) l.tail.tail.tail.tail o with
          | .inl p => .inl p
          | .inr (S, l', o') => tEz L rc wd (woT l) (plT L l) true S l' o' nm
        else tEz L rc wd (woT l) (plT L l) false (adN (some (woT l), fun _ => 0, 0, 0) (woT l.tail.tail)) l.tail.tail.tail o nm
      else .inl (plT L l.tail.tail)
    else .inl (plT L l.tail)
  else .inl (plT L l)
/-- an atom of rows -/
def raP (L rc : Nat) (wd : Nat → Nat) (s : PSt) : PRt :=
  match tEn L rc wd (q_l s) (q_o s) (q_m s) with
  | .inl p => .inl p
  | .inr (A, l, o, nm) =>
    if kdT l = 16 then
      if kdT l.tail = 2 then .inr (q_c s, enP (l.tail.tail, q_c s, q_D s, (if woT l.tail < 8 then o else blO o (plT L l.tail)), q_b s, nm) (1, plT L l, 0, 0, 16, s_s A ||| 0, A, (none, fun _ => 0, woT l.tail, 0)))
      else match tEn L rc wd l.tail o nm with
        | .inl p => .inl p
        | .inr (B, l', o', nm') => .inr (q_c s, enP (l', q_c s, q_D s, o', q_b s, nm') (1, plT L l, 0, 0, 16, s_s A ||| s_s B, A, B))
    else .inl (plT L l)
/-- an atom of sums -/
def saP (L : Nat) (s : PSt) : PRt :=
  match tS L 121 s0D (q_l s) (q_o s) with
  | .inl p => .inl p
  | .inr (A, l, o) =>
    if kdT l = 16 ∨ kdT l = 17 ∨ kdT l = 18 then
      match tS L 121 s0D l.tail o with
      | .inl p => .inl p
      | .inr (B, l', o') => .inr (q_c s, enP (l', q_c s, q_D s, o', q_b s, q_m s) (0, plT L l, 0, 0, kdT l, s_s A ||| s_s B, A, B))
    else .inl (plT L l)
def jnP (f p a b : Nat) (s : PSt) : PSt := enP s (f, p, a, b, 0, p_s (q_D s a) ||| p_s (q_D s b), s0D, s0D)
def lpG (L : Nat) (sub : PSt → PRt) (key form : Nat) : Nat → Nat → PSt → PRt
  | 0, a, s => .inr (a, s)
  | n + 1, a, s => if kdT (q_l s) = key then
      match sub (tlS s) with
      | .inl p => .inl p
      | .inr (b, s1) => lpG L sub key form n (q_c s1) (jnP form (plT L (q_l s)) a b s1)
    else .inr (a, s)
def anG (L : Nat) (sub : PSt → PRt) (s : PSt) : PRt :=
  match sub s with
  | .inl p => .inl p
  | .inr (a, s1) => lpG L sub 8 3 120 a s1
def orG (L : Nat) (sub : PSt → PRt) (s : PSt) : PRt :=
  match anG L sub s with
  | .inl p => .inl p
  | .inr (a, s1) => lpG L (anG L sub) 9 4 120 a s1
def soG (L : Nat) (sub : PSt → PRt) : Nat → PSt → PRt
  | 0, s => .inl (plT L (q_l s))
  | n + 1, s => match orG L sub s with
    | .inl p => .inl p
    | .inr (a, s1) => if kdT (q_l s1) = 10 then
        match soG L sub n (tlS s1) with
        | .inl p => .inl p
        | .inr (b, s2) => .inr (q_c s2, jnP 5 (plT L (q_l s1)) a b s2)
      else .inr (a, s1)
/-- a NOT, out of what reads the ones in it -/
def pcS (L rc : Nat) (wd : Nat → Nat) (sub : PSt → PRt) (s : PSt) : PRt :=
  if kdT (q_l s) = 7 then
    match sub (tlS s) with
    | .inl p => .inl p
    | .inr (a, s1) => .inr (q_c s1, enP s1 (2, plT L (q_l s), a, 0, 0, p_s (q_D s1 a), s0D, s0D))
  else if kdT (q_l s) = 5 ∨ kdT (q_l s) = 6 then
    if kdT (q_l s).tail = 3 then
      match sub ((q_l s).tail.tail, q_c s, q_D s, (if bt (q_b s) (woT (q_l s).tail) = 1 then blO (q_o s) (plT L (q_l s).tail) else q_o s), q_b s ||| 2 ^ woT (q_l s).tail, q_m s) with
      | .inl p => .inl p
      | .inr (a, s1) => .inr (q_c s1, enP (q_l s1, q_c s1, q_D s1, q_o s1, q_b s, q_m s1) (kdT (q_l s) + 1, plT L (q_l s), a, 0, 0, clr (p_s (q_D s1 a)) (woT (q_l s).tail), s0D, s0D))
    else .inl (plT L (q_l s).tail)
  else if kdT (q_l s) = 11 then
    match soG L sub 122 (tlS s) with
    | .inl p => .inl p
    | .inr (a, s1) => if kdT (q_l s1) = 12 then .inr (a, tlS s1) else .inl (plT L (q_l s1))
  else if kdT (q_l s) = 4 then raP L rc wd s
  else if kdT (q_l s) = 2 ∨ kdT (q_l s) = 3 then saP L s
  else .inl (plT L (q_l s))
def pcP (L rc : Nat) (wd : Nat → Nat) : Nat → PSt → PRt
  | 0 => fun s => .inl (plT L (q_l s))
  | n + 1 => pcS L rc wd (pcP L rc wd n)
/-- a whole text -/
def rdP (L rc : Nat) (wd : Nat → Nat) (l : List Tk) : PRt :=
  match soG L (pcP L rc wd 10) 122 (l, 0, fun _ => (0, 0, 0, 0, 0, 0, s0D, s0D), none, 0, 0) with
  | .inl p => .inl p
  | .inr (a, s) => if kdT (q_l s) = 0 then .inr (a, s) else .inl (plT L (q_l s))
end ParseP
