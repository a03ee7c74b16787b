/-! ===== small ints and longs, as rules for simp ===== -/
section Kit2
theorem s_lit (n : Nat) : (no_index (OfNat.ofNat n : Int32)) = nI (no_index (OfNat.ofNat n)) := rfl
theorem s_m1 : Int32.ofInt (-1) = - nI 1 := by decide
theorem s_add (a b : Nat) : nI a + nI b = nI (a + b) := nI_add a b
theorem s_mul (a b : Nat) : nI a * nI b = nI (a * b) := pk_mul a b
theorem s_sub {a b : Nat} (h : b ≤ a) : nI a - nI b = nI (a - b) := pk_sub h
theorem s_lt {a b : Nat} (ha : a < 2 ^ 31) (hb : b < 2 ^ 31) : nI a < nI b ↔ a < b := nI_ltI ha hb
theorem s_le {a b : Nat} (ha : a < 2 ^ 31) (hb : b < 2 ^ 31) : nI a ≤ nI b ↔ a ≤ b := nI_leI ha hb
theorem s_eq {a b : Nat} (ha : a < 2 ^ 31) (hb : b < 2 ^ 31) : nI a = nI b ↔ a = b := nI_eq ha hb
theorem s_toM1 : (-nI 1 : Int32).toInt = -1 := by decide
theorem s_eqm1 {a : Nat} (ha : a < 2 ^ 31) : nI a = -nI 1 ↔ False := by
  refine ⟨fun h => ?_, False.elim⟩
  have := congrArg Int32.toInt h
  rw [nI_toInt ha, s_toM1] at this
  omega
theorem s_m1n {a : Nat} (ha : a < 2 ^ 31) : -nI 1 = nI a ↔ False := ⟨fun h => (s_eqm1 ha).mp h.symm, False.elim⟩
theorem s_nm1 {a : Nat} (ha : a < 2 ^ 31) : -nI 1 < nI a ↔ True := by
  refine ⟨fun _ => trivial, fun _ => ?_⟩
  rw [Int32.lt_iff_toInt_lt, s_toM1, nI_toInt ha]
  omega
theorem s_ltm1 {a : Nat} (ha : a < 2 ^ 31) : nI a < -nI 1 ↔ False := by
  refine ⟨fun h => ?_, False.elim⟩
  rw [Int32.lt_iff_toInt_lt, s_toM1, nI_toInt ha] at h
  omega
theorem s_cl {a : Nat} (ha : a < 2 ^ 31) : (nI a).toNatClampNeg = a := nI_clamp ha
theorem s_in {i n : Nat} (h : i < n) (hn : n < 2 ^ 31) : vp_in (nI i) n ↔ True := iff_true_intro (vp_in_nI h hn)
theorem s_div {a d : Nat} (h0 : 0 < d) (ha : a < 2 ^ 31) (hd : d < 2 ^ 31) : nI a / nI d = nI (a / d) := pk_div ha h0 hd
theorem s_rem {a d : Nat} (h0 : 0 < d) (ha : a < 2 ^ 31) (hd : d < 2 ^ 31) : nI a - nI a / nI d * nI d = nI (a % d) := pk_rem ha h0 hd
theorem s_rem2 {a d : Nat} (h0 : 0 < d) (ha : a < 2 ^ 31) (hd : d < 2 ^ 31) : nI a - nI (a / d * d) = nI (a % d) := by
  rw [pk_sub (Nat.div_mul_le_self a d)]
  congr 1
  have := Nat.div_add_mod a d
  rw [Nat.mul_comm] at this
  omega
theorem s_k18 : (1 ≤ 1 ∧ 1 < 8) ↔ True := iff_true_intro k18
theorem s_hsi {M : Mem} {a k : Nat} {v : Int32} : x_h (x_si M a k v) = x_h M := rfl
theorem s_rsi {M : Mem} {a k : Nat} {v : Int32} : x_r (x_si M a k v) = x_r M := rfl
theorem s_lsi {M : Mem} {a k : Nat} {v : Int32} : x_l (x_si M a k v) = x_l M := rfl
theorem s_nsi {M : Mem} {a k : Nat} {v : Int32} : x_n (x_si M a k v) = x_n M := rfl
theorem s_hsl {M : Mem} {a k : Nat} {v : Int64} : x_h (x_sl M a k v) = x_h M := rfl
theorem s_rsl {M : Mem} {a k : Nat} {v : Int64} : x_r (x_sl M a k v) = x_r M := rfl
theorem s_isl {M : Mem} {a k : Nat} {v : Int64} : x_i (x_sl M a k v) = x_i M := rfl
theorem s_nsl {M : Mem} {a k : Nat} {v : Int64} : x_n (x_sl M a k v) = x_n M := rfl
theorem xl_na {M : Mem} {a k b j : Nat} {v : Int64} (h : b ≠ a) : x_l (x_sl M a k v) b j = x_l M b j := if_neg (fun e => h e.1)
theorem xl_nk {M : Mem} {a k b j : Nat} {v : Int64} (h : j ≠ k) : x_l (x_sl M a k v) b j = x_l M b j := if_neg (fun e => h e.2)
theorem xl_eq {M : Mem} {a k : Nat} {v : Int64} : x_l (x_sl M a k v) a k = v := if_pos ⟨rfl, rfl⟩
/-- other ints and longs -/
def x_wl (M : Mem) (f : Nat → Nat → Int32) (g : Nat → Nat → Int64) : Mem := (M.1, M.2.1, f, g, M.2.2.2.2)
/-- M' is M, but that the ints and longs of the cells of A are others -/
def Fr (M M' : Mem) (A : List Nat) : Prop := ∃ f g, M' = x_wl M f g ∧ ∀ q, q ∉ A → f q = x_i M q ∧ g q = x_l M q
theorem Fr.rf {M : Mem} {A : List Nat} : Fr M M A := ⟨x_i M, x_l M, rfl, fun _ _ => ⟨rfl, rfl⟩⟩
theorem Fr.si {M M' : Mem} {A : List Nat} {a k : Nat} {v : Int32} (h : Fr M M' A) (ha : a ∈ A) : Fr M (x_si M' a k v) A := by
  obtain ⟨f, g, rfl, hf⟩ := h
  refine ⟨up2 f a k v, g, rfl, fun q hq => ?_⟩
  rw [up2_ne (fun e => hq (by rw [e]; exact ha))]
  exact hf q hq
theorem Fr.sl {M M' : Mem} {A : List Nat} {a k : Nat} {v : Int64} (h : Fr M M' A) (ha : a ∈ A) : Fr M (x_sl M' a k v) A := by
  obtain ⟨f, g, rfl, hf⟩ := h
  refine ⟨f, up2 g a k v, rfl, fun q hq => ?_⟩
  rw [up2_ne (fun e => hq (by rw [e]; exact ha))]
  exact hf q hq
theorem Fr.tr {M M' M'' : Mem} {A B : List Nat} (h : Fr M M' A) (h2 : Fr M' M'' B) (hB : ∀ q ∈ B, q ∈ A) : Fr M M'' A := by
  obtain ⟨f, g, rfl, hf⟩ := h
  obtain ⟨f2, g2, rfl, hg⟩ := h2
  refine ⟨f2, g2, rfl, fun q hq => ?_⟩
  have h1 := hg q (fun h => hq (hB q h))
  have h2 := hf q hq
  exact ⟨h1.1.trans h2.1, h1.2.trans h2.2⟩
theorem Fr.wk {M M' : Mem} {A B : List Nat} (h : Fr M M' A) (hB : ∀ q ∈ A, q ∈ B) : Fr M M' B := Fr.tr Fr.rf h hB
theorem Fr.h {M M' : Mem} {A : List Nat} (h : Fr M M' A) : x_h M' = x_h M := by obtain ⟨f, g, rfl, -⟩ := h; rfl
theorem Fr.r {M M' : Mem} {A : List Nat} (h : Fr M M' A) : x_r M' = x_r M := by obtain ⟨f, g, rfl, -⟩ := h; rfl
theorem Fr.n {M M' : Mem} {A : List Nat} (h : Fr M M' A) : x_n M' = x_n M := by obtain ⟨f, g, rfl, -⟩ := h; rfl
theorem Fr.i {M M' : Mem} {A : List Nat} (h : Fr M M' A) {q : Nat} (hq : q ∉ A) : x_i M' q = x_i M q := by obtain ⟨f, g, rfl, hf⟩ := h; exact (hf q hq).1
theorem Fr.l {M M' : Mem} {A : List Nat} (h : Fr M M' A) {q : Nat} (hq : q ∉ A) : x_l M' q = x_l M q := by obtain ⟨f, g, rfl, hf⟩ := h; exact (hf q hq).2
theorem FrI.fr {M M' : Mem} {A : List Nat} (h : FrI M M' A) : Fr M M' A := by
  obtain ⟨f, rfl, hf⟩ := h
  exact ⟨f, x_l M, rfl, fun q hq => ⟨hf q hq, rfl⟩⟩
variable {G : GG} {M : Mem}
theorem w_within (d : Nat) {i n : Nat} {Q : Option Value → Mem → Prop} (hi : i < 2 ^ 31) (hn : n < 2 ^ 31) (hQ : Q (some (.int (nI (if i < n then 1 else 0)))) M) : Call G (d + 1) 0 0 mX11_within [.int (nI i), .int (nI n)] M Q := by
  by_cases h : i < n
  · rw [if_pos h] at hQ
    refine Call.mono (k_within_t d h hn) ?_
    rintro r M' ⟨rfl, rfl⟩
    exact hQ
  · rw [if_neg h] at hQ
    refine Call.mono (k_within_f d (by omega) hi) ?_
    rintro r M' ⟨rfl, rfl⟩
    exact hQ
theorem w_min (d : Nat) {i n : Nat} {Q : Option Value → Mem → Prop} (hi : i < 2 ^ 31) (hn : n < 2 ^ 31) (hQ : Q (some (.int (nI (min i n)))) M) : Call G (d + 1) 0 0 mJ9_min_7cf53 [.int (nI i), .int (nI n)] M Q := by
  refine Call.mono (k_min d hi hn) ?_
  rintro r M' ⟨rfl, rfl⟩
  exact hQ
theorem w_max (d : Nat) {i n : Nat} {Q : Option Value → Mem → Prop} (hi : i < 2 ^ 31) (hn : n < 2 ^ 31) (hQ : Q (some (.int (nI (max i n)))) M) : Call G (d + 1) 0 0 mJ9_max_7cf53 [.int (nI i), .int (nI n)] M Q := by
  refine Call.mono (k_max d hi hn) ?_
  rintro r M' ⟨rfl, rfl⟩
  exact hQ
end Kit2
