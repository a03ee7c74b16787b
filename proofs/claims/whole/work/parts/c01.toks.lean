/-! ===== a text's tokens, pure ===== -/
section ToksP
/-- the byte at i of a text t of L bytes; 256: none -/
def byA (t : Nat → Nat) (L i : Nat) : Nat := if i < L then t i else 256
abbrev isLe (c : Nat) : Prop := 97 ≤ c ∧ c ≤ 122
abbrev isDi (c : Nat) : Prop := 48 ≤ c ∧ c ≤ 57
variable {t : Nat → Nat} {L i lo hi : Nat}
theorem byA_in (h : i < L) : byA t L i = t i := if_pos h
theorem byA_out (h : L ≤ i) : byA t L i = 256 := if_neg (by omega)
theorem byA_lt {j : Nat} (hj : j < 256) (h : byA t L i ≤ j) : i < L := by
  rcases Nat.lt_or_ge i L with c | c
  · exact c
  · rw [byA_out c] at h; omega
/-- behind the bytes from i on that are lo to hi -/
def rnE (lo hi : Nat) (t : Nat → Nat) (L : Nat) : Nat → Nat → Nat
  | 0, i => i
  | n + 1, i => if lo ≤ byA t L i ∧ byA t L i ≤ hi then rnE lo hi t L n (i + 1) else i
def enE (lo hi : Nat) (t : Nat → Nat) (L i : Nat) : Nat := rnE lo hi t L (L - i) i
theorem enE_s (hh : hi < 256) (h : lo ≤ byA t L i ∧ byA t L i ≤ hi) : enE lo hi t L i = enE lo hi t L (i + 1) := by
  have hL : i < L := byA_lt hh h.2
  unfold enE
  rw [show L - i = (L - (i + 1)) + 1 by omega]
  exact if_pos h
theorem enE_z (h : ¬ (lo ≤ byA t L i ∧ byA t L i ≤ hi)) : enE lo hi t L i = i := by
  unfold enE
  cases L - i with
  | zero => rfl
  | succ n => exact if_neg h
theorem rnE_ge : ∀ n i, i ≤ rnE lo hi t L n i
  | 0, i => Nat.le_refl i
  | n + 1, i => by
    show i ≤ (if _ then _ else _)
    split
    · exact Nat.le_of_succ_le (rnE_ge n (i + 1))
    · exact Nat.le_refl i
theorem rnE_le (hh : hi < 256) : ∀ n i, i ≤ L → rnE lo hi t L n i ≤ L
  | 0, i, h => h
  | n + 1, i, h => by
    show (if _ then _ else _) ≤ L
    split
    · rename_i c
      have := byA_lt hh c.2
      exact rnE_le hh n (i + 1) (by omega)
    · exact h
theorem enE_ge : i ≤ enE lo hi t L i := rnE_ge _ _
theorem enE_le (hh : hi < 256) (h : i ≤ L) : enE lo hi t L i ≤ L := rnE_le hh _ _ h
theorem enE_gt (hh : hi < 256) (h : lo ≤ byA t L i ∧ byA t L i ≤ hi) : i < enE lo hi t L i := by
  rw [enE_s hh h]
  exact enE_ge
abbrev enL (t : Nat → Nat) (L i : Nat) : Nat := enE 97 122 t L i
abbrev enD (t : Nat → Nat) (L i : Nat) : Nat := enE 48 57 t L i
/-- the kinds of tokens: the class's own numbers -/
def kyK (t : Nat → Nat) (s e : Nat) : Nat :=
  if e = s + 3 ∧ t s = 97 ∧ t (s + 1) = 108 ∧ t (s + 2) = 108 then 5
  else if e = s + 2 ∧ t s = 105 ∧ t (s + 1) = 115 then 6
  else if e = s + 3 ∧ t s = 110 ∧ t (s + 1) = 111 ∧ t (s + 2) = 116 then 7
  else if e = s + 3 ∧ t s = 97 ∧ t (s + 1) = 110 ∧ t (s + 2) = 100 then 8
  else if e = s + 2 ∧ t s = 111 ∧ t (s + 1) = 114 then 9
  else if e = s + 2 ∧ t s = 115 ∧ t (s + 1) = 111 then 10 else 1
def sgK (c : Nat) : Nat := if c = 40 then 11 else if c = 41 then 12 else if c = 91 then 13 else if c = 93 then 14 else if c = 43 then 15 else if c = 61 then 16 else if c = 60 then 17 else 1
abbrev isRo (t : Nat → Nat) (L s : Nat) : Prop := enL t L s = s + 1 ∧ t s = 114 ∧ isDi (byA t L (s + 1))
abbrev isUp (t : Nat → Nat) (L s : Nat) : Prop := t s = 60 ∧ byA t L (s + 1) = 61
def tkK (t : Nat → Nat) (L s : Nat) : Nat :=
  if isLe (t s) then (if isRo t L s then 4 else if enL t L s = s + 1 ∧ t s ≤ 104 then 3 else kyK t s (enL t L s))
  else if isDi (t s) then (if enD t L s ≤ s + 2 then 2 else 1)
  else if isUp t L s then 18 else sgK (t s)
def tkN (t : Nat → Nat) (L s : Nat) : Nat :=
  if isLe (t s) then (if isRo t L s then s + 2 else enL t L s)
  else if isDi (t s) then enD t L s
  else if isUp t L s then s + 2 else s + 1
def tkW (t : Nat → Nat) (L s : Nat) : Nat :=
  if isLe (t s) then (if isRo t L s then byA t L (s + 1) - 48 else t s - 97)
  else if isDi (t s) then (if enD t L s = s + 1 then t s - 48 else (t s - 48) * 10 + (t (s + 1) - 48)) else 0
abbrev Tk : Type := Nat × Nat × Nat
/-- how many bytes a token of this kind has at least -/
def lnK (k : Nat) : Nat := if k = 5 ∨ k = 7 ∨ k = 8 then 3 else if k = 4 ∨ k = 6 ∨ k = 9 ∨ k = 10 ∨ k = 18 then 2 else 1
def tkOK (x : Tk) : Prop := 1 ≤ x.1 ∧ x.1 ≤ 18 ∧ (x.1 = 2 → x.2.2 < 100) ∧ (x.1 = 3 → x.2.2 < 8) ∧ (x.1 = 4 → x.2.2 < 10)
theorem tkOK_of {k p w : Nat} (h1 : 1 ≤ k) (h2 : k ≤ 18) (h3 : k = 2 → w < 100) (h4 : k = 3 → w < 8) (h5 : k = 4 → w < 10) : tkOK (k, p, w) := ⟨h1, h2, h3, h4, h5⟩
theorem ky_ok {s e : Nat} (h : s < e) : 1 ≤ kyK t s e ∧ kyK t s e ≤ 10 ∧ (kyK t s e = 1 ∨ 5 ≤ kyK t s e) ∧ s + lnK (kyK t s e) ≤ e := by
  unfold kyK
  split
  · rename_i c; exact ⟨by decide, by decide, by decide, by rw [c.1]; exact Nat.le_refl _⟩
  split
  · rename_i c; exact ⟨by decide, by decide, by decide, by rw [c.1]; exact Nat.le_refl _⟩
  split
  · rename_i c; exact ⟨by decide, by decide, by decide, by rw [c.1]; exact Nat.le_refl _⟩
  split
  · rename_i c; exact ⟨by decide, by decide, by decide, by rw [c.1]; exact Nat.le_refl _⟩
  split
  · rename_i c; exact ⟨by decide, by decide, by decide, by rw [c.1]; exact Nat.le_refl _⟩
  split
  · rename_i c; exact ⟨by decide, by decide, by decide, by rw [c.1]; exact Nat.le_refl _⟩
  · exact ⟨by decide, by decide, by decide, h⟩
theorem sg_ok (c : Nat) : 1 ≤ sgK c ∧ sgK c ≤ 17 ∧ (sgK c = 1 ∨ 11 ≤ sgK c) ∧ lnK (sgK c) = 1 := by
  unfold sgK
  split
  · decide
  split
  · decide
  split
  · decide
  split
  · decide
  split
  · decide
  split
  · decide
  split
  · decide
  · decide
theorem tk_ok {s : Nat} (h : s < L) : tkOK (tkK t L s, s, tkW t L s) ∧ s + lnK (tkK t L s) ≤ tkN t L s ∧ tkN t L s ≤ L := by
  have hb : byA t L s = t s := byA_in h
  by_cases c1 : isLe (t s)
  · have e1 : s < enL t L s := enE_gt (by decide) (by rw [hb]; exact c1)
    have e2 : enL t L s ≤ L := enE_le (by decide) (Nat.le_of_lt h)
    by_cases c2 : isRo t L s
    · have k : tkK t L s = 4 := by unfold tkK; rw [if_pos c1, if_pos c2]
      have n : tkN t L s = s + 2 := by unfold tkN; rw [if_pos c1, if_pos c2]
      have w : tkW t L s = byA t L (s + 1) - 48 := by unfold tkW; rw [if_pos c1, if_pos c2]
      have hl := byA_lt (t := t) (by decide) c2.2.2.2
      rw [k, n, w]
      have := c2.2.2.2
      exact ⟨tkOK_of (by decide) (by decide) (fun q => absurd q (by decide)) (fun q => absurd q (by decide)) (fun _ => by omega), Nat.le_refl _, by omega⟩
    · have n : tkN t L s = enL t L s := by unfold tkN; rw [if_pos c1, if_neg c2]
      have w : tkW t L s = t s - 97 := by unfold tkW; rw [if_pos c1, if_neg c2]
      by_cases c3 : enL t L s = s + 1 ∧ t s ≤ 104
      · have k : tkK t L s = 3 := by unfold tkK; rw [if_pos c1, if_neg c2, if_pos c3]
        rw [k, n, w]
        have := c3.2
        exact ⟨tkOK_of (by decide) (by decide) (fun q => absurd q (by decide)) (fun _ => by omega) (fun q => absurd q (by decide)), e1, e2⟩
      · have k : tkK t L s = kyK t s (enL t L s) := by unfold tkK; rw [if_pos c1, if_neg c2, if_neg c3]
        obtain ⟨k1, k2, k3, k4⟩ := ky_ok (t := t) e1
        rw [k, n, w]
        exact ⟨⟨k1, Nat.le_trans k2 (by decide), fun q => by simp only at q; omega, fun q => by simp only at q; omega, fun q => by simp only at q; omega⟩, k4, e2⟩
  · by_cases c2 : isDi (t s)
    · have e1 : s < enD t L s := enE_gt (by decide) (by rw [hb]; exact c2)
      have e2 : enD t L s ≤ L := enE_le (by decide) (Nat.le_of_lt h)
      have n : tkN t L s = enD t L s := by unfold tkN; rw [if_neg c1, if_pos c2]
      by_cases c3 : enD t L s ≤ s + 2
      · have k : tkK t L s = 2 := by unfold tkK; rw [if_neg c1, if_pos c2, if_pos c3]
        rw [k, n]
        refine ⟨tkOK_of (by decide) (by decide) (fun _ => ?_) (fun q => absurd q (by decide)) (fun q => absurd q (by decide)), e1, e2⟩
        show tkW t L s < 100
        unfold tkW
        rw [if_neg c1, if_pos c2]
        by_cases c4 : enD t L s = s + 1
        · rw [if_pos c4]; omega
        · rw [if_neg c4]
          have c5 : 48 ≤ byA t L (s + 1) ∧ byA t L (s + 1) ≤ 57 := Classical.byContradiction fun c => c4 (by
            show enE 48 57 t L s = s + 1
            rw [enE_s (by decide) (by rw [hb]; exact c2)]
            exact enE_z c)
          rw [byA_in (byA_lt (t := t) (by decide) c5.2)] at c5
          omega
      · have k : tkK t L s = 1 := by unfold tkK; rw [if_neg c1, if_pos c2, if_neg c3]
        rw [k, n]
        exact ⟨tkOK_of (by decide) (by decide) (fun q => absurd q (by decide)) (fun q => absurd q (by decide)) (fun q => absurd q (by decide)), e1, e2⟩
    · by_cases c3 : isUp t L s
      · have k : tkK t L s = 18 := by unfold tkK; rw [if_neg c1, if_neg c2, if_pos c3]
        have n : tkN t L s = s + 2 := by unfold tkN; rw [if_neg c1, if_neg c2, if_pos c3]
        have hl := byA_lt (t := t) (L := L) (i := s + 1) (j := 61) (by decide) (by rw [c3.2]; exact Nat.le_refl _)
        rw [k, n]
        exact ⟨tkOK_of (by decide) (by decide) (fun q => absurd q (by decide)) (fun q => absurd q (by decide)) (fun q => absurd q (by decide)), Nat.le_refl _, by omega⟩
      · have k : tkK t L s = sgK (t s) := by unfold tkK; rw [if_neg c1, if_neg c2, if_neg c3]
        have n : tkN t L s = s + 1 := by unfold tkN; rw [if_neg c1, if_neg c2, if_neg c3]
        obtain ⟨k1, k2, k3, k4⟩ := sg_ok (t s)
        rw [k, n, k4]
        exact ⟨⟨k1, Nat.le_trans k2 (by decide), fun q => by simp only at q; omega, fun q => by simp only at q; omega, fun q => by simp only at q; omega⟩, Nat.le_refl _, h⟩
theorem tk_gt {s : Nat} (h : s < L) : s < tkN t L s := by
  have := (tk_ok (t := t) h).2.1
  have h2 : 1 ≤ lnK (tkK t L s) := by unfold lnK; split; decide; split <;> decide
  omega
/-- the tokens from s on -/
def tkl (t : Nat → Nat) (L : Nat) : Nat → Nat → List Tk
  | 0, _ => []
  | n + 1, s => if L ≤ s then [] else if t s = 32 then tkl t L n (s + 1) else (tkK t L s, s, tkW t L s) :: tkl t L n (tkN t L s)
theorem tkl_fuel : ∀ n n' s, L - s ≤ n → L - s ≤ n' → tkl t L n s = tkl t L n' s
  | 0, 0, s, _, _ => rfl
  | 0, n' + 1, s, h, _ => by
    show [] = (if L ≤ s then _ else _)
    rw [if_pos (by omega)]
  | n + 1, 0, s, _, h => by
    show (if L ≤ s then _ else _) = []
    rw [if_pos (by omega)]
  | n + 1, n' + 1, s, h, h' => by
    show (if L ≤ s then _ else _) = (if L ≤ s then _ else _)
    by_cases c : L ≤ s
    · rw [if_pos c, if_pos c]
    · rw [if_neg c, if_neg c]
      have := tk_gt (t := t) (show s < L by omega)
      rw [tkl_fuel n n' (s + 1) (by omega) (by omega), tkl_fuel n n' (tkN t L s) (by omega) (by omega)]
def tl (t : Nat → Nat) (L s : Nat) : List Tk := tkl t L (L - s) s
theorem tl_end {s : Nat} (h : L ≤ s) : tl t L s = [] := by
  unfold tl
  rw [show L - s = 0 by omega]
  rfl
theorem tl_sp {s : Nat} (h : s < L) (c : t s = 32) : tl t L s = tl t L (s + 1) := by
  unfold tl
  rw [show L - s = (L - (s + 1)) + 1 by omega]
  show (if L ≤ s then _ else _) = _
  rw [if_neg (by omega), if_pos c]
theorem tl_tk {s : Nat} (h : s < L) (c : t s ≠ 32) : tl t L s = (tkK t L s, s, tkW t L s) :: tl t L (tkN t L s) := by
  have := tk_gt (t := t) h
  unfold tl
  rw [show L - s = (L - (s + 1)) + 1 by omega]
  show (if L ≤ s then _ else _) = _
  rw [if_neg (by omega), if_neg c, tkl_fuel (L - (s + 1)) (L - tkN t L s) _ (by omega) (Nat.le_refl _)]
/-- the place of the first of these tokens; the text's length, if there is none -/
def plT (L : Nat) : List Tk → Nat
  | [] => L
  | x :: _ => x.2.1
def kdT : List Tk → Nat
  | [] => 0
  | x :: _ => x.1
def woT : List Tk → Nat
  | [] => 0
  | x :: _ => x.2.2
/-- the tokens are such as a text has, and stand one behind the other -/
def GdT (L : Nat) : List Tk → Prop
  | [] => True
  | x :: l => tkOK x ∧ x.2.1 + lnK x.1 ≤ plT L l ∧ GdT L l
theorem gd_tl : ∀ n s, L - s ≤ n → s ≤ L → GdT L (tl t L s) ∧ s ≤ plT L (tl t L s)
  | 0, s, h, hs => by
    rw [tl_end (by omega)]
    exact ⟨trivial, hs⟩
  | n + 1, s, h, hs => by
    by_cases c : L ≤ s
    · rw [tl_end c]
      exact ⟨trivial, hs⟩
    · by_cases c2 : t s = 32
      · rw [tl_sp (by omega) c2]
        obtain ⟨h1, h2⟩ := gd_tl n (s + 1) (by omega) (by omega)
        exact ⟨h1, by omega⟩
      · rw [tl_tk (by omega) c2]
        obtain ⟨h1, h2, h3⟩ := tk_ok (t := t) (show s < L by omega)
        have h4 := tk_gt (t := t) (show s < L by omega)
        obtain ⟨h5, h6⟩ := gd_tl n (tkN t L s) (by omega) h3
        exact ⟨⟨h1, Nat.le_trans h2 h6, h5⟩, Nat.le_refl _⟩
theorem gd_le : ∀ l, GdT L l → plT L l ≤ L
  | [], _ => Nat.le_refl _
  | x :: l, h => by
    have h1 := gd_le l h.2.2
    have h2 := h.2.1
    show x.2.1 ≤ L
    omega
theorem ln_pos (k : Nat) : 1 ≤ lnK k := by
  unfold lnK
  split
  · decide
  split <;> decide
theorem gd_len : ∀ l, GdT L l → l.length + plT L l ≤ L
  | [], _ => by simp [plT]
  | x :: l, h => by
    have h1 := gd_len l h.2.2
    have h2 := h.2.1
    have h3 := ln_pos x.1
    show l.length + 1 + x.2.1 ≤ L
    omega
end ToksP
