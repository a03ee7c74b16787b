/-! ===== bits of longs (rows of kit/laws/BITS.to-paste begin this part), sets of states ===== -/
section LBits
theorem wb_tb (n : Nat) : (lN n).toBitVec = BitVec.ofNat 64 n := rfl
theorem wb_inj {a b : Int64} (h : a.toBitVec = b.toBitVec) : a = b := Int64.toBitVec_inj.mp h
theorem wb_tn {n : Nat} (h : n < 2 ^ 64) : (lN n).toBitVec.toNat = n := by rw [wb_tb, BitVec.toNat_ofNat, Nat.mod_eq_of_lt h]
theorem wb_of (x : Int64) : ∃ n, n < 2 ^ 64 ∧ x = lN n := ⟨x.toBitVec.toNat, x.toBitVec.isLt, wb_inj (by rw [wb_tb]; simp)⟩
theorem wb_of32 (x : Int32) : ∃ n, n < 2 ^ 32 ∧ x = nI n := ⟨x.toBitVec.toNat, x.toBitVec.isLt, Int32.toBitVec_inj.mp (by show _ = BitVec.ofNat 32 _; simp)⟩
theorem wb_c : ∀ k, k < 64 → ((nI k).toInt64 &&& 63) = lN k := by decide +kernel
theorem wb_cu : ∀ k, k < 64 → ((nI k).toInt64.toUInt64 &&& Int64.toUInt64 63) = UInt64.ofNat k := by decide +kernel
theorem wb_sm : ∀ k, k < 64 → (BitVec.ofNat 64 k).smod 64 = BitVec.ofNat 64 k := by decide +kernel
theorem wb_pw {a b : Nat} (h : a ≤ b) : 2 ^ b = 2 ^ a * 2 ^ (b - a) := by rw [← Nat.pow_add]; congr 1; omega
theorem wb_lt2 {a b : Nat} (h : a < b) : 2 ^ a < 2 ^ b := Nat.pow_lt_pow_right (by decide) h
theorem wb_mod (n : Nat) : lN n = lN (n % 2 ^ 64) := wb_inj (by rw [wb_tb, wb_tb]; apply BitVec.eq_of_toNat_eq; rw [BitVec.toNat_ofNat, BitVec.toNat_ofNat, Nat.mod_mod])
theorem wb_shr {n k : Nat} (hn : n < 2 ^ 64) (hk : k < 64) : ((lN n).toUInt64 >>> ((nI k).toInt64.toUInt64 &&& Int64.toUInt64 63)).toInt64 = lN (n / 2 ^ k) := by
  rw [wb_cu k hk]
  apply wb_inj
  apply BitVec.eq_of_toNat_eq
  show ((lN n).toUInt64 >>> UInt64.ofNat k).toNat = (BitVec.ofNat 64 _).toNat
  have h1 : (UInt64.ofNat k).toNat = k := by
    show (BitVec.ofNat 64 k).toNat = k
    rw [BitVec.toNat_ofNat, Nat.mod_eq_of_lt (by omega)]
  have h2 : (lN n).toUInt64.toNat = n := wb_tn hn
  rw [UInt64.toNat_shiftRight, h1, h2, Nat.mod_eq_of_lt hk, Nat.shiftRight_eq_div_pow, BitVec.toNat_ofNat, Nat.mod_eq_of_lt (Nat.lt_of_le_of_lt (Nat.div_le_self _ _) hn)]
theorem wb_shl (n : Nat) {k : Nat} (hk : k < 64) : lN n <<< ((nI k).toInt64 &&& 63) = lN (n * 2 ^ k) := by
  rw [wb_c k hk]
  apply wb_inj
  rw [Int64.toBitVec_shiftLeft, wb_tb, wb_tb, wb_tb, wb_sm k hk]
  apply BitVec.eq_of_toNat_eq
  rw [BitVec.shiftLeft_eq', BitVec.toNat_shiftLeft, BitVec.toNat_ofNat, BitVec.toNat_ofNat, BitVec.toNat_ofNat, Nat.mod_eq_of_lt (show k < 2 ^ 64 by omega), Nat.shiftLeft_eq, Nat.mul_mod, Nat.mod_mod, ← Nat.mul_mod]
theorem wb_and {a b : Nat} (ha : a < 2 ^ 64) (hb : b < 2 ^ 64) : lN a &&& lN b = lN (a &&& b) := by
  apply wb_inj
  rw [Int64.toBitVec_and, wb_tb, wb_tb, wb_tb]
  apply BitVec.eq_of_toNat_eq
  rw [BitVec.toNat_and, BitVec.toNat_ofNat, BitVec.toNat_ofNat, BitVec.toNat_ofNat, Nat.mod_eq_of_lt ha, Nat.mod_eq_of_lt hb, Nat.mod_eq_of_lt (Nat.and_lt_two_pow _ hb)]
theorem wb_or {a b : Nat} (ha : a < 2 ^ 64) (hb : b < 2 ^ 64) : lN a ||| lN b = lN (a ||| b) := by
  apply wb_inj
  rw [Int64.toBitVec_or, wb_tb, wb_tb, wb_tb]
  apply BitVec.eq_of_toNat_eq
  rw [BitVec.toNat_or, BitVec.toNat_ofNat, BitVec.toNat_ofNat, BitVec.toNat_ofNat, Nat.mod_eq_of_lt ha, Nat.mod_eq_of_lt hb, Nat.mod_eq_of_lt (Nat.or_lt_two_pow ha hb)]
theorem wb_mask {n k : Nat} (hn : n < 2 ^ 64) (hk : k < 64) : lN n &&& lN (2 ^ k - 1) = lN (n % 2 ^ k) := by
  rw [wb_and hn (by have := wb_lt2 hk; omega), Nat.and_two_pow_sub_one_eq_mod]
theorem wb_a1 {n : Nat} (hn : n < 2 ^ 64) : lN n &&& 1 = lN (n % 2) := wb_mask (k := 1) hn (by decide)
theorem wb_bit {n k : Nat} (hn : n < 2 ^ 64) (hk : k < 64) : ((lN n).toUInt64 >>> ((nI k).toInt64.toUInt64 &&& Int64.toUInt64 63)).toInt64 &&& 1 = lN (n / 2 ^ k % 2) := by
  rw [wb_shr hn hk, wb_a1 (Nat.lt_of_le_of_lt (Nat.div_le_self _ _) hn)]
theorem pf_lI {a : Nat} (h : a < 2 ^ 63) : (lN a).toInt = (a : Int) := lg_ofNat_toInt h
theorem pf_shr {a d : Nat} {D : Int64} (hD : (D.toBitVec.smod 64).toNat = d) (h : a < 2 ^ 62) : lN a >>> D = lN (a / 2 ^ d) := by
  have hd : a / 2 ^ d ≤ a := Nat.div_le_self _ _
  apply Int64.toInt_inj.mp
  have e : (lN a >>> D).toInt = (lN a).toInt >>> d := by
    rw [← hD]
    exact BitVec.toInt_sshiftRight ..
  rw [e, Int.shiftRight_eq_div_pow, pf_lI (by omega), pf_lI (by omega)]
  rfl
theorem lsm_s : ∀ n, n < 64 → (((nI n).toInt64 &&& 63).toBitVec.smod 64).toNat = n := by decide +kernel
/-- a bit of a long -/
theorem lsb {x n : Nat} (hx : x < 2 ^ 62) (hn : n < 64) : (lN x >>> ((nI n).toInt64 &&& 63)) &&& 1 = lN (bt x n) := by
  rw [pf_shr (lsm_s n hn) hx, wb_a1 (Nat.lt_of_le_of_lt (Nat.div_le_self _ _) (Nat.lt_trans hx (by decide)))]
  rfl
theorem lN_eq0 {x : Nat} (hx : x < 2 ^ 63) : lN x = 0 ↔ x = 0 := pk_lEQ (b := 0) hx (by omega)
theorem tb_lt {S n j : Nat} (h : S < 2 ^ n) (hj : S.testBit j = true) : j < n := by
  rcases Nat.lt_or_ge j n with c | c
  · exact c
  · rw [Nat.testBit_lt_two_pow (Nat.lt_of_lt_of_le h (Nat.pow_le_pow_right (by omega) c))] at hj
    cases hj
theorem lt_tb {S n : Nat} (h : ∀ j, S.testBit j = true → j < n) : S < 2 ^ n := by
  refine Nat.lt_pow_two_of_testBit S (fun i hi => ?_)
  cases e : S.testBit i with
  | false => rfl
  | true => have := h i e; omega
theorem tb_ext {S T : Nat} (h : ∀ j, S.testBit j = true ↔ T.testBit j = true) : S = T := Nat.eq_of_testBit_eq (fun j => by
  have := h j
  cases e1 : S.testBit j <;> cases e2 : T.testBit j <;> simp_all)
theorem tb_or {S T j : Nat} : (S ||| T).testBit j = true ↔ S.testBit j = true ∨ T.testBit j = true := by rw [Nat.testBit_or]; simp
theorem tb_and {S T j : Nat} : (S &&& T).testBit j = true ↔ S.testBit j = true ∧ T.testBit j = true := by rw [Nat.testBit_and]; simp
theorem tb_pow {i j : Nat} : (2 ^ i).testBit j = true ↔ i = j := by rw [Nat.testBit_two_pow]; simp
theorem tb_0 {j : Nat} : (0 : Nat).testBit j = true ↔ False := by simp
theorem tb_btI {x n : Nat} : x.testBit n = true ↔ bt x n = 1 := by rw [tb_bt]; simp
theorem tb_zero {S : Nat} : S = 0 ↔ ∀ j, ¬ S.testBit j = true := by
  constructor
  · rintro rfl j h; exact tb_0.mp h
  · intro h; exact tb_ext (fun j => ⟨fun e => absurd e (h j), fun e => absurd e (by simp)⟩)
/-- nothing of S lies outside T -/
theorem l_out {S T : Nat} (hS : S < 2 ^ 62) (hT : T < 2 ^ 62) : (lN S &&& (lN T ^^^ (-1))) = 0 ↔ ∀ j, S.testBit j = true → T.testBit j = true := by
  have e : lN S &&& (lN T ^^^ (-1)) = lN (S &&& (2 ^ 64 - 1 - T)) := by
    apply wb_inj
    apply BitVec.eq_of_getLsbD_eq
    intro i hi
    show ((BitVec.ofNat 64 S) &&& ((BitVec.ofNat 64 T) ^^^ (-1 : Int64).toBitVec)).getLsbD i = (BitVec.ofNat 64 (S &&& (2 ^ 64 - 1 - T))).getLsbD i
    have e1 : (-1 : Int64).toBitVec = BitVec.allOnes 64 := by decide
    have e2 : 2 ^ 64 - 1 - T = 2 ^ 64 - (T + 1) := by omega
    rw [e1, e2]
    simp only [BitVec.getLsbD_and, BitVec.getLsbD_xor, BitVec.getLsbD_allOnes, BitVec.getLsbD_ofNat, Nat.testBit_and]
    rw [Nat.testBit_two_pow_sub_succ (by omega)]
    simp [hi]
  rw [e, lN_eq0 (Nat.lt_of_le_of_lt Nat.and_le_left (by omega)), tb_zero]
  constructor
  · intro h j hj
    cases ht : T.testBit j with
    | true => rfl
    | false =>
      refine absurd (tb_and.mpr ⟨hj, ?_⟩) (h j)
      have hj62 := tb_lt hS hj
      rw [show 2 ^ 64 - 1 - T = 2 ^ 64 - (T + 1) by omega, Nat.testBit_two_pow_sub_succ (by omega), ht]
      simp
      omega
  · intro h j hj
    obtain ⟨h1, h2⟩ := tb_and.mp hj
    have := h j h1
    rw [show 2 ^ 64 - 1 - T = 2 ^ 64 - (T + 1) by omega, Nat.testBit_two_pow_sub_succ (by omega), this] at h2
    simp at h2
theorem l_in {S T : Nat} (hS : S < 2 ^ 62) (hT : T < 2 ^ 62) : (lN S &&& lN T) = 0 ↔ ¬ ∃ j, S.testBit j = true ∧ T.testBit j = true := by
  rw [wb_and (by omega) (by omega), lN_eq0 (Nat.lt_of_le_of_lt Nat.and_le_left (by omega)), tb_zero]
  exact ⟨fun h ⟨j, h1, h2⟩ => h j (tb_and.mpr ⟨h1, h2⟩), fun h j hj => h ⟨j, tb_and.mp hj⟩⟩
theorem l_1sh {n : Nat} (hn : n < 62) : (1 : Int64) <<< ((nI n).toInt64 &&& 63) = lN (2 ^ n) := by
  have := wb_shl 1 (k := n) (by omega)
  rw [Nat.one_mul] at this
  exact this
theorem pow_62 {n : Nat} (hn : n < 62) : 2 ^ n < 2 ^ 62 := Nat.pow_lt_pow_right (by omega) hn
theorem or_62 {a b : Nat} (ha : a < 2 ^ 62) (hb : b < 2 ^ 62) : a ||| b < 2 ^ 62 := Nat.or_lt_two_pow ha hb
theorem l_or {a b : Nat} (ha : a < 2 ^ 62) (hb : b < 2 ^ 62) : lN a ||| lN b = lN (a ||| b) := wb_or (by omega) (by omega)
/-- the states of a machine whose mark is 1 -/
def tkm (mr : Nat → Nat) : Nat → Nat
  | 0 => 0
  | i + 1 => if mr i = 1 then tkm mr i ||| 2 ^ i else tkm mr i
theorem tkm_tb {mr : Nat → Nat} {j : Nat} : ∀ i, (tkm mr i).testBit j = true ↔ j < i ∧ mr j = 1
  | 0 => by
    show (0 : Nat).testBit j = true ↔ _
    rw [tb_0]
    exact ⟨False.elim, fun h => absurd h.1 (Nat.not_lt_zero j)⟩
  | i + 1 => by
    have ih := tkm_tb (mr := mr) (j := j) i
    show (if mr i = 1 then tkm mr i ||| 2 ^ i else tkm mr i).testBit j = true ↔ _
    by_cases h : mr i = 1
    · rw [if_pos h, tb_or, tb_pow, ih]
      constructor
      · rintro (⟨h1, h2⟩ | rfl)
        · exact ⟨by omega, h2⟩
        · exact ⟨by omega, h⟩
      · rintro ⟨h1, h2⟩
        by_cases e : i = j
        · exact Or.inr e
        · exact Or.inl ⟨by omega, h2⟩
    · rw [if_neg h, ih]
      constructor
      · rintro ⟨h1, h2⟩; exact ⟨by omega, h2⟩
      · rintro ⟨h1, h2⟩
        by_cases e : j = i
        · rw [e] at h2; exact absurd h2 h
        · exact ⟨by omega, h2⟩
theorem tkm_lt {mr : Nat → Nat} {i : Nat} (hi : i ≤ 62) : tkm mr i < 2 ^ 62 := Nat.lt_of_lt_of_le (lt_tb (n := i) (fun j h => ((tkm_tb i).mp h).1)) (Nat.pow_le_pow_right (by omega) hi)
/-- where the states of S step for the digits g of the others -/
def spd (st : Nat → Nat → Nat) (F : Nat) (vf : Nat → Nat) (S g : Nat) : Nat → Nat → Nat
  | 0, _ => 0
  | i + 1, 0 => spd st F vf S g i F
  | i + 1, k + 1 => if bt S i = 1 ∧ vf k = g then spd st F vf S g (i + 1) k ||| 2 ^ st i k else spd st F vf S g (i + 1) k
termination_by i k => (i, k)
theorem spd_tb {st : Nat → Nat → Nat} {F : Nat} {vf : Nat → Nat} {S g j : Nat} : ∀ i k, (spd st F vf S g i k).testBit j = true ↔ ∃ a c, ((a + 1 < i ∧ c < F) ∨ (a + 1 = i ∧ c < k)) ∧ bt S a = 1 ∧ vf c = g ∧ st a c = j
  | 0, k => by
    rw [spd, tb_0]
    exact ⟨False.elim, fun ⟨a, c, h, _⟩ => by omega⟩
  | i + 1, 0 => by
    rw [spd, spd_tb i F]
    constructor
    · rintro ⟨a, c, h, h2⟩
      exact ⟨a, c, by omega, h2⟩
    · rintro ⟨a, c, h, h2⟩
      exact ⟨a, c, by omega, h2⟩
  | i + 1, k + 1 => by
    rw [spd]
    have ih := spd_tb (st := st) (F := F) (vf := vf) (S := S) (g := g) (j := j) (i + 1) k
    by_cases h : bt S i = 1 ∧ vf k = g
    · rw [if_pos h, tb_or, tb_pow, ih]
      constructor
      · rintro (⟨a, c, h1, h2⟩ | e)
        · exact ⟨a, c, by omega, h2⟩
        · exact ⟨i, k, by omega, h.1, h.2, e⟩
      · rintro ⟨a, c, h1, h2⟩
        by_cases e : a = i ∧ c = k
        · exact Or.inr (by rw [← e.1, ← e.2]; exact h2.2.2)
        · exact Or.inl ⟨a, c, by omega, h2⟩
    · rw [if_neg h, ih]
      constructor
      · rintro ⟨a, c, h1, h2⟩
        exact ⟨a, c, by omega, h2⟩
      · rintro ⟨a, c, h1, h2⟩
        by_cases e : a = i ∧ c = k
        · rw [e.1, e.2] at h2; exact absurd ⟨h2.1, h2.2.1⟩ h
        · exact ⟨a, c, by omega, h2⟩
termination_by i k => (i, k)
/-- all states of S have stepped -/
def sp (st : Nat → Nat → Nat) (n F : Nat) (vf : Nat → Nat) (S g : Nat) : Nat := spd st F vf S g n F
theorem sp_tb {st : Nat → Nat → Nat} {n F : Nat} {vf : Nat → Nat} {S g j : Nat} : (sp st n F vf S g).testBit j = true ↔ ∃ a c, a < n ∧ c < F ∧ bt S a = 1 ∧ vf c = g ∧ st a c = j := by
  unfold sp
  rw [spd_tb]
  constructor
  · rintro ⟨a, c, h, h2⟩
    exact ⟨a, c, by omega, by omega, h2⟩
  · rintro ⟨a, c, h1, h2, h3⟩
    exact ⟨a, c, by omega, h3⟩
theorem spd_lt {st : Nat → Nat → Nat} {n F : Nat} {vf : Nat → Nat} {S g i k : Nat} (hk : k ≤ F) (hi : i ≤ n) (hn : n ≤ 62) (hc : ∀ a, a < n → ∀ c, c < F → st a c < n) : spd st F vf S g i k < 2 ^ 62 :=
  Nat.lt_of_lt_of_le (lt_tb (n := n) (fun j h => by
    obtain ⟨a, c, h1, h2, h3, h4⟩ := (spd_tb i k).mp h
    rw [← h4]
    exact hc a (by omega) c (by omega))) (Nat.pow_le_pow_right (by omega) hn)
theorem sp_lt {st : Nat → Nat → Nat} {n F : Nat} {vf : Nat → Nat} {S g : Nat} (hc : ∀ a, a < n → ∀ c, c < F → st a c < n) : sp st n F vf S g < 2 ^ n :=
  lt_tb (fun j h => by
    obtain ⟨a, c, h1, h2, h3, h4, h5⟩ := sp_tb.mp h
    rw [← h5]
    exact hc a h1 c h2)
theorem bt_hi {S n a : Nat} (h : S < 2 ^ n) (hb : bt S a = 1) : a < n := tb_lt h (tb_btI.mpr hb)
/-- what noughts of all but one name lead to -/
def cl0 (st : Nat → Nat → Nat) (n F : Nat) (vf : Nat → Nat) : Nat → Nat
  | 0 => 1
  | k + 1 => cl0 st n F vf k ||| sp st n F vf (cl0 st n F vf k) 0
theorem cl0_lt {st : Nat → Nat → Nat} {n F : Nat} {vf : Nat → Nat} (hn : 0 < n) (hc : ∀ a, a < n → ∀ c, c < F → st a c < n) : ∀ k, cl0 st n F vf k < 2 ^ n
  | 0 => by
    show 1 < 2 ^ n
    exact Nat.one_lt_two_pow (by omega)
  | k + 1 => Nat.or_lt_two_pow (cl0_lt hn hc k) (sp_lt hc)
/-- how many of the first n bits stand -/
def cb (S : Nat) : Nat → Nat
  | 0 => 0
  | i + 1 => cb S i + bt S i
theorem cb_le {S : Nat} : ∀ n, cb S n ≤ n
  | 0 => Nat.le_refl 0
  | n + 1 => by have := cb_le (S := S) n; have := bt_le (x := S) (n := n); show cb S n + bt S n ≤ n + 1; omega
theorem cb_mono {S T : Nat} (h : ∀ j, bt S j = 1 → bt T j = 1) : ∀ n, cb S n ≤ cb T n ∧ ((∃ j, j < n ∧ bt S j ≠ bt T j) → cb S n < cb T n)
  | 0 => ⟨Nat.le_refl 0, fun ⟨j, hj, _⟩ => absurd hj (Nat.not_lt_zero j)⟩
  | n + 1 => by
    obtain ⟨h1, h2⟩ := cb_mono h n
    have a1 := bt_le (x := S) (n := n)
    have a2 := bt_le (x := T) (n := n)
    have a3 := h n
    refine ⟨by show cb S n + bt S n ≤ cb T n + bt T n; omega, fun ⟨j, hj, hne⟩ => ?_⟩
    show cb S n + bt S n < cb T n + bt T n
    by_cases e : j = n
    · subst e; omega
    · have := h2 ⟨j, by omega, hne⟩
      omega
/-- from some place on nothing more is met; there is but one such set -/
theorem cl0_stop {st : Nat → Nat → Nat} {n F : Nat} {vf : Nat → Nat} (hn : 0 < n) (hc : ∀ a, a < n → ∀ c, c < F → st a c < n) : ∀ k, cl0 st n F vf (k + 1) ≠ cl0 st n F vf k → (∀ i, i < k → cl0 st n F vf (i + 1) ≠ cl0 st n F vf i) → k + 2 ≤ cb (cl0 st n F vf (k + 1)) n := by
  intro k
  have grow : ∀ i, cl0 st n F vf (i + 1) ≠ cl0 st n F vf i → cb (cl0 st n F vf i) n < cb (cl0 st n F vf (i + 1)) n := by
    intro i hne
    have hsub : ∀ j, bt (cl0 st n F vf i) j = 1 → bt (cl0 st n F vf (i + 1)) j = 1 := fun j hj => tb_btI.mp (tb_or.mpr (Or.inl (tb_btI.mpr hj)))
    refine (cb_mono hsub n).2 ?_
    refine Classical.byContradiction (fun hno => hne (tb_ext (fun j => ?_)))
    constructor
    · intro hj
      have hjn := tb_lt (cl0_lt hn hc (i + 1)) hj
      refine Classical.byContradiction (fun h2 => hno ⟨j, hjn, fun e => h2 ?_⟩)
      rw [tb_btI, e]
      exact tb_btI.mp hj
    · intro hj
      exact tb_or.mpr (Or.inl hj)
  induction k with
  | zero =>
    intro hne _
    have h1 := grow 0 hne
    have h0 : 1 ≤ cb (cl0 st n F vf 0) n := by
      have : ∀ m, 0 < m → 1 ≤ cb 1 m := by
        intro m hm
        induction m with
        | zero => omega
        | succ m ih =>
          show 1 ≤ cb 1 m + bt 1 m
          by_cases e : m = 0
          · subst e; decide
          · have := ih (by omega); omega
      exact this n hn
    omega
  | succ k ih =>
    intro hne hall
    have h1 := grow (k + 1) hne
    have h2 := ih (hall k (by omega)) (fun i hi => hall i (by omega))
    omega
theorem cl0_fix {st : Nat → Nat → Nat} {n F : Nat} {vf : Nat → Nat} {k : Nat} (h : cl0 st n F vf (k + 1) = cl0 st n F vf k) : ∀ e, cl0 st n F vf (k + e) = cl0 st n F vf k
  | 0 => rfl
  | e + 1 => by
    have ih := cl0_fix h e
    show cl0 st n F vf (k + e) ||| sp st n F vf (cl0 st n F vf (k + e)) 0 = _
    rw [ih]
    exact h
theorem cl0_one {st : Nat → Nat → Nat} {n F : Nat} {vf : Nat → Nat} {k k' : Nat} (h : cl0 st n F vf (k + 1) = cl0 st n F vf k) (h' : cl0 st n F vf (k' + 1) = cl0 st n F vf k') : cl0 st n F vf k = cl0 st n F vf k' := by
  rcases Nat.le_total k k' with c | c
  · obtain ⟨e, rfl⟩ := Nat.exists_eq_add_of_le c
    exact (cl0_fix h e).symm
  · obtain ⟨e, rfl⟩ := Nat.exists_eq_add_of_le c
    exact cl0_fix h' e
end LBits
