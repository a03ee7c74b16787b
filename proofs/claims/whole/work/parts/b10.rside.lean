/-! ===== the reference: tuples, the letters of a side ===== -/
section RSideC
variable {G : GG} {M : Mem} {m b L : Nat} {Q : Option Value → Mem → Prop}
theorem e60_ (i k : Nat) : (60 : Int32) * nI i + nI k = nI (60 * i + k) := by rw [show (60 : Int32) = nI 60 from rfl, pk_mul, nI_add]
theorem e40_ (i k : Nat) : (40 : Int32) * nI i + nI k = nI (40 * i + k) := by rw [show (40 : Int32) = nI 40 from rfl, pk_mul, nI_add]
theorem e4_ (i k : Nat) : (4 : Int32) * nI i + nI k = nI (4 * i + k) := by rw [show (4 : Int32) = nI 4 from rfl, pk_mul, nI_add]
theorem e3_ (i k : Nat) : (3 : Int32) * nI i + nI k = nI (3 * i + k) := by rw [show (3 : Int32) = nI 3 from rfl, pk_mul, nI_add]
theorem ur_rowTo (d : Nat) (hs : ReS M m) {r i k : Nat} {mc : Mc} (h : ReR M m r b mc) (hr : r < 10) (hn : m_n mc ≤ 60) (hb : b ≤ 3) (hi : i < m_n mc) (hk : k < b) (hQ : Q (some (.int (nI (m_s mc i k)))) M) : Call G (d + 1) 0 0 mX12_rowTo [.ref m, .int (nI r), .int (nI i), .int (nI k)] M Q := by
  refine eX12_rowTo m _ _ _ ⟨hs.1, m + 3, hs.r3, by rw [hs.h3], by rw [e60_, e3_, hs.h3]; exact vp_in_nI (show 3 * (60 * r + i) + k < 1800 by omega) (by omega), ?_⟩
  rw [e60_, e3_, nI_clamp (by omega), h.2.2 i hi k hk]
  exact hQ
/-- a number is its digits -/
theorem kh_self {B : Nat} (hB : 0 < B) : ∀ (c s x : Nat), x / B ^ s < B ^ c → kh B (fun j => x / B ^ j % B) c s = x / B ^ s
  | 0, s, x, h => by
    rw [Nat.pow_zero] at h
    show 0 = x / B ^ s
    exact (Nat.lt_one_iff.mp h).symm
  | c + 1, s, x, h => by
    have ih := kh_self hB c (s + 1) x (by
      rw [Nat.pow_succ, ← Nat.div_div_eq_div_mul]
      exact Nat.div_lt_of_lt_mul (by rw [Nat.mul_comm, ← Nat.pow_succ]; exact h))
    show kh B (fun j => x / B ^ j % B) c (s + 1) * B + x / B ^ s % B = x / B ^ s
    rw [ih, Nat.pow_succ, ← Nat.div_div_eq_div_mul]
    have := Nat.div_add_mod (x / B ^ s) B
    rw [Nat.mul_comm] at this
    exact this
theorem kh_inj {x y : Nat} (hx : x < 60 ^ (L + 1)) (hy : y < 60 ^ (L + 1)) (h : ∀ j, j ≤ L → x / 60 ^ j % 60 = y / 60 ^ j % 60) : x = y := by
  have h1 := kh_self (B := 60) (by omega) (L + 1) 0 x (by rw [Nat.pow_zero, Nat.div_one]; exact hx)
  have h2 := kh_self (B := 60) (by omega) (L + 1) 0 y (by rw [Nat.pow_zero, Nat.div_one]; exact hy)
  rw [Nat.pow_zero, Nat.div_one] at h1 h2
  rw [← h1, ← h2]
  exact kh_ext _ _ (fun j hj => by rw [Nat.zero_add]; exact h j (by omega))
/-- the tuples met so far -/
def TuI (M : Mem) (m L : Nat) (K : List Nat) : Prop := x_i M m 25 = nI K.length ∧ (∀ t, t < K.length → ∀ j, j ≤ L → x_i M (m + 56) (4 * t + j) = nI (K.getD t 0 / 60 ^ j % 60)) ∧ K.Nodup ∧ (∀ x ∈ K, x < 60 ^ (L + 1))
theorem TuI.fr {M' : Mem} {K : List Nat} {F A : List Nat} (h : TuI M m L K) (g : FrM M M' m F A) (h0 : 25 ∉ F) (h1 : 56 ∉ A) : TuI M' m L K := by
  unfold TuI
  rw [g.fm h0, g.i (by decide) h1]
  exact h
theorem ur_tupleOf (d : Nat) (hs : ReS M m) (hL : L ≤ 3) {K : List Nat} (h : TuI M m L K) (hl : K.length < 8000) {P : Nat → Nat} (hP : ∀ j, j ≤ L → x_i M (m + 57) j = nI (P j) ∧ P j < 60) (hQ : ∀ M', FrM M M' m [25] [56] → TuI M' m L (ins K (kh 60 P (L + 1) 0)) → Q (some (.int (nI ((ins K (kh 60 P (L + 1) 0)).idxOf (kh 60 P (L + 1) 0))))) M') : Call G (d + 1) 0 0 mX12_tupleOf [.ref m, .int (nI (L + 1))] M Q := by
  have h0 := h
  obtain ⟨h1, h2, h3, h4⟩ := h
  have hkl : kh 60 P (L + 1) 0 < 60 ^ (L + 1) := kh_lt _ _ (fun j hj => by rw [Nat.zero_add]; exact (hP j (by omega)).2)
  have hka : ∀ j, j ≤ L → kh 60 P (L + 1) 0 / 60 ^ j % 60 = P j := fun j hj => by
    rw [kh_at (L + 1) 0 j (fun j hj => by rw [Nat.zero_add]; exact (hP j (by omega)).2) (by omega), Nat.zero_add]
  generalize hk : kh 60 P (L + 1) 0 = k at hkl hka hQ
  refine eX12_tupleOf m _ ?_
  -- a new tuple
  have new : k ∉ K → ∀ z z', c1 z = true → c1 z' = true → LX12_tupleOf_72 G d 0 0 m (nI (L + 1)) 0 z z' M Q := by
    intro hno z z' hz hz'
    have e : ins K k = K ++ [k] := if_neg hno
    have key : ∀ r j, j + r = L + 1 → ∀ M', FrM M M' m [] [56] → (∀ t, t < 4 * K.length → x_i M' (m + 56) t = x_i M (m + 56) t) → (∀ j', j' < j → x_i M' (m + 56) (4 * K.length + j') = nI (P j')) → LX12_tupleOf_72 G d 0 0 m (nI (L + 1)) (nI j) z z' M' Q := by
      intro r
      induction r with
      | zero =>
        intro j hj M' hfr ho hn
        have q1 := hfr.S hs
        have h25 : x_i M' m 25 = nI K.length := by rw [hfr.fm (by decide)]; exact h1
        refine vX12_tupleOf_72 _ _ _ _ _ hz hz' ⟨fun _ => ⟨q1.1, ?_⟩, fun c => absurd (by rw [show j = L + 1 by omega]; exact nI_le (Nat.le_refl _) (by omega)) c⟩
        rintro M3 rfl
        rw [h25, nI_1, xi_eq, nI_pred]
        have g2 := (hfr.wk (F := [25]) (A := [56]) (by decide) (by decide)).sm (k := 25) (v := nI (K.length + 1)) (by decide)
        have := hQ _ g2 (by
          rw [e]
          refine ⟨by rw [xi_eq, List.length_append]; rfl, fun t ht j' hj' => ?_, List.nodup_append.mpr ⟨h3, by simp, fun a ha b' hb' e => hno (by rw [List.mem_singleton] at hb'; rw [← hb', ← e]; exact ha)⟩, fun x hx => ?_⟩
          · rw [List.length_append] at ht
            simp at ht
            rw [xm_om (by decide)]
            by_cases et : t = K.length
            · rw [et, getD_last, hn j' (by omega), hka j' hj']
            · rw [getD_app (by omega), ho _ (by omega)]; exact h2 t (by omega) j' hj'
          · rcases List.mem_append.mp hx with q | q
            · exact h4 x q
            · rw [List.mem_singleton.mp q]; exact hkl)
        have ei : (ins K k).idxOf k = K.length := by rw [e, List.idxOf_append, if_neg hno]; simp
        rw [ei] at this
        exact this
      | succ r ih =>
        intro j hj M' hfr ho hn
        have q1 := hfr.S hs
        have h25 : x_i M' m 25 = nI K.length := by rw [hfr.fm (by decide)]; exact h1
        refine vX12_tupleOf_72 _ _ _ _ _ hz hz' ⟨fun c => absurd c (nI_ge (by omega) (by omega)), fun _ => ⟨q1.1, m + 56, q1.r56, m + 57, q1.r57, by rw [q1.h57], by rw [q1.h57]; exact vp_in_nI (show j < 4 by omega) (by omega), by rw [q1.h56], by rw [h25, e4_, q1.h56]; exact vp_in_nI (show 4 * K.length + j < 33600 by omega) (by omega), ?_⟩⟩
        rintro M3 rfl
        rw [h25, e4_, nI_clamp (by omega), nI_clamp (by omega), hfr.i (o := 57) (by decide) (by decide), (hP j (by omega)).1, nI_1]
        refine ih (j + 1) (by omega) _ (hfr.si (by decide) (by decide)) (fun t ht => by rw [xi_nk (by omega)]; exact ho t ht) (fun j' hj' => ?_)
        by_cases ej : j' = j
        · rw [ej, xi_eq]
        · rw [xi_nk (by omega)]; exact hn j' (by omega)
    exact key (L + 1) 0 (by omega) M FrM.rf (fun t _ => rfl) (fun j' hj' => absurd hj' (Nat.not_lt_zero j'))
  have key : ∀ r i, i + r = K.length → (∀ j, j < i → K.getD j 0 ≠ k) → ∀ z z', c1 z = true → c1 z' = true → LX12_tupleOf_2 G d 0 0 m (nI (L + 1)) (nI i) z z' M Q := by
    intro r
    induction r with
    | zero =>
      intro i hi hne z z' hz hz'
      have hno : k ∉ K := fun q => hne (K.idxOf k) (by have := idx_lt q; omega) (getD_idx q)
      exact vX12_tupleOf_2 _ _ _ _ _ hz hz' ⟨hs.1, fun _ => new hno z z' hz hz', fun c => absurd (by rw [h1, show i = K.length by omega]; exact nI_le (Nat.le_refl _) (by omega)) c⟩
    | succ r ih =>
      intro i hi hne z z' hz hz'
      have hKi := h4 _ (getD_mem (K := K) (i := i) (by omega))
      -- the places of the tuple
      have pl : ∀ r j, j + r = L + 1 → ∀ v : Nat, v ≤ 1 → (v = 1 ↔ ∀ j', j' < j → K.getD i 0 / 60 ^ j' % 60 = P j') → LX12_tupleOf_15 G d 0 0 m (nI (L + 1)) (nI i) (nI v) (nI j) M Q := by
        intro r
        induction r with
        | zero =>
          intro j hj v hv hv1
          have ev0 : nI v = 0 ↔ v = 0 := nI_eq (b := 0) (by omega) (by omega)
          refine vX12_tupleOf_15 _ _ _ _ _ ⟨fun _ => ?_, fun c => absurd (by rw [show j = L + 1 by omega]; exact nI_le (Nat.le_refl _) (by omega)) c⟩
          rw [ev0, nI_1]
          refine ⟨fun c => ih (i + 1) (by omega) (fun j' hj' => ?_) _ _ rfl rfl, fun c => ?_⟩
          · by_cases e : j' = i
            · rw [e]
              intro e2
              have : v = 1 := hv1.mpr (fun j'' hj'' => by rw [e2]; exact hka j'' (by omega))
              omega
            · exact hne j' (by omega)
          · have hall := hv1.mp (by omega)
            have e2 : K.getD i 0 = k := kh_inj hKi hkl (fun j' hj' => by rw [hall j' (by omega), hka j' hj'])
            have hin : k ∈ K := by rw [← e2]; exact getD_mem (by omega)
            have e : ins K k = K := if_pos hin
            rw [e] at hQ
            have := hQ M FrM.rf h0
            rw [← e2, idx_getD h3 (by omega)] at this
            exact this
        | succ r ih2 =>
          intro j hj v hv hv1
          have ev0 : nI v = 0 ↔ v = 0 := nI_eq (b := 0) (by omega) (by omega)
          refine vX12_tupleOf_15 _ _ _ _ _ ⟨fun c => absurd c (nI_ge (by omega) (by omega)), fun _ => ?_⟩
          rw [ev0, nI_1]
          refine ⟨fun c => ih2 (j + 1) (by omega) 0 (by omega) ⟨fun q => by omega, fun q => ?_⟩, fun c => ⟨hs.1, m + 56, hs.r56, by rw [hs.h56], by rw [e4_, hs.h56]; exact vp_in_nI (show 4 * i + j < 33600 by omega) (by omega), m + 57, hs.r57, by rw [hs.h57], by rw [hs.h57]; exact vp_in_nI (show j < 4 by omega) (by omega), ?_⟩⟩
          · have := hv1.mpr (fun j' hj' => q j' (by omega))
            omega
          · have hmod : K.getD i 0 / 60 ^ j % 60 < 60 := Nat.mod_lt _ (by omega)
            have hPj := hP j (by omega)
            rw [e4_, nI_clamp (by omega), nI_clamp (by omega), h2 i (by omega) j (by omega), hPj.1, nI_eq (by omega) (by omega)]
            have hall := hv1.mp (by omega)
            refine ⟨fun c2 => ih2 (j + 1) (by omega) 0 (by omega) ⟨fun q => by omega, fun q => absurd (q j (by omega)) c2⟩, fun c2 => ih2 (j + 1) (by omega) 1 (by omega) ⟨fun _ j' hj' => ?_, fun _ => rfl⟩⟩
            by_cases e : j' = j
            · rw [e]; exact c2
            · exact hall j' (by omega)
      refine vX12_tupleOf_2 _ _ _ _ _ hz hz' ⟨hs.1, fun c => absurd (by rw [h1] at c; exact c) (nI_ge (a := i) (b := K.length) (by omega) (by omega)), fun _ => ?_⟩
      exact pl (L + 1) 0 (by omega) 1 (Nat.le_refl 1) ⟨fun _ j' hj' => absurd hj' (Nat.not_lt_zero j'), fun _ => rfl⟩
  exact key K.length 0 (by omega) (fun j hj => absurd hj (Nat.not_lt_zero j)) none none rfl rfl
theorem le_tells2 {n B : Nat} {st : Nat → Nat → Nat} {mr : Nat → Nat} {lf : Nat → Nat} {c : Nat} (hnB : n ≤ B) (hb : 1 < b) (hc : ∀ i, i < n → ∀ g, g < b → st i g < n) (hlf : ∀ g, lf g + L < (L + 1) * b) (hcL : c ≤ L) :
    ∀ (u : List Nat) (x : Nat) (P : Nat → Nat), (∀ j, j ≤ L → P j < n) → (∀ j, j ≤ L → x / B ^ j % B = P j) → leM mr B c (dl (leD st b B L lf) x u) = mr (tz st b lf P u c)
  | [], x, P, _, h => by
    show mr (x / B ^ c % B) = mr (P c)
    rw [h c hcL]
  | g :: u, x, P, hP, h => by
    have hpl : ∀ j, j ≤ L → (lf g + j) / b ≤ L := fun j hj => by
      have := hlf g
      have : (lf g + j) / b < L + 1 := Nat.div_lt_of_lt_mul (by rw [Nat.mul_comm]; omega)
      omega
    have hlt : ∀ j, j ≤ L → tpD st b P (lf g) j < n := fun j hj => hc _ (hP _ (hpl j hj)) _ (Nat.mod_lt _ (by omega))
    have he : ∀ j, j ≤ L → tpD st b (fun j => x / B ^ j % B) (lf g) j = tpD st b P (lf g) j := fun j hj => by
      show st (x / B ^ ((lf g + j) / b) % B) _ = st (P ((lf g + j) / b)) _
      rw [h _ (hpl j hj)]
    refine le_tells2 hnB hb hc hlf hcL u _ _ hlt (fun j hj => ?_)
    show kh B (tpD st b (fun j => x / B ^ j % B) (lf g)) (L + 1) 0 / B ^ j % B = _
    rw [kh_at (L + 1) 0 j (fun j hj => by rw [Nat.zero_add, he j (by omega)]; have := hlt j (by omega); omega) (by omega), Nat.zero_add, he j hj]
/-- how often each of one or two names -/
def tfAB (a : Nat) (mb : Option Nat) (n : Nat) : Nat := (if n = a then 1 else 0) + (if mb = some n then 1 else 0)
def nsAB (a : Nat) (mb : Option Nat) : Nat := match mb with
  | none => 2 ^ a
  | some c => 2 ^ a ||| 2 ^ c
def dgN (b al k n : Nat) : Nat := k / b ^ ab al (7 - n) % b
theorem bt_pow : ∀ a, a < 8 → ∀ n, n < 8 → bt (2 ^ a) n = if n = a then 1 else 0 := by decide
theorem ns_lt : ∀ a, a < 8 → ∀ c, c < 8 → 2 ^ a ||| 2 ^ c < 256 ∧ 2 ^ a < 256 ∧ pc (2 ^ a ||| 2 ^ c) ≤ 2 ∧ pc (2 ^ a) ≤ 1 := by decide
theorem nsAB_lt {a : Nat} {mb : Option Nat} (ha : a < 8) (hb : ∀ c, mb = some c → c < 8) : nsAB a mb < 256 := by
  cases mb with
  | none => exact (ns_lt a ha a ha).2.1
  | some c => exact (ns_lt a ha c (hb c rfl)).1
theorem nsAB_bt {a n : Nat} {mb : Option Nat} (ha : a < 8) (hb : ∀ c, mb = some c → c < 8) (hn : n < 8) : bt (nsAB a mb) n = 1 ↔ n = a ∨ mb = some n := by
  cases mb with
  | none =>
    show bt (2 ^ a) n = 1 ↔ _
    rw [bt_pow a ha n hn]
    constructor
    · intro h; split at h; exact Or.inl (by assumption); omega
    · rintro (h | h)
      · rw [if_pos h]
      · cases h
  | some c =>
    show bt (2 ^ a ||| 2 ^ c) n = 1 ↔ _
    rw [bt_or, bt_pow a ha n hn, bt_pow c (hb c rfl) n hn]
    constructor
    · rintro (h | h)
      · split at h; exact Or.inl (by assumption); omega
      · split at h
        · rename_i e; exact Or.inr (by rw [e])
        · omega
    · rintro (h | h)
      · exact Or.inl (by rw [if_pos h])
      · cases h; exact Or.inr (if_pos rfl)
theorem ldn_AB {a k : Nat} {mb : Option Nat} (ha : a < 8) (hb : ∀ c, mb = some c → c < 8) : ldn b (nsAB a mb) (tfAB a mb) k = dgN b (nsAB a mb) k a + (match mb with | none => 0 | some c => dgN b (nsAB a mb) k c) := by
  have key : ∀ n, n ≤ 8 → lr b (nsAB a mb) (fun n => (tfAB a mb n : Int)) k n = (((if a < n then dgN b (nsAB a mb) k a else 0) + (match mb with | none => 0 | some c => if c < n then dgN b (nsAB a mb) k c else 0) : Nat) : Int) := by
    intro n
    induction n with
    | zero =>
      intro _
      cases mb with
      | none => rfl
      | some c => rfl
    | succ n ih =>
      intro hn
      have l1 : lr b (nsAB a mb) (fun n => (tfAB a mb n : Int)) k (n + 1) = lr b (nsAB a mb) (fun n => (tfAB a mb n : Int)) k n + (if bt (nsAB a mb) n = 1 then (tfAB a mb n : Int) * ((k / b ^ ab (nsAB a mb) (7 - n) % b : Nat) : Int) else 0) := rfl
      rw [l1, ih (by omega)]
      have hbn := nsAB_bt (n := n) ha hb (by omega)
      have hdg : k / b ^ ab (nsAB a mb) (7 - n) % b = dgN b (nsAB a mb) k n := rfl
      rw [hdg]
      by_cases c : bt (nsAB a mb) n = 1
      · rw [if_pos c]
        cases mb with
        | none =>
          have e : n = a := (hbn.mp c).resolve_right (by simp)
          subst e
          have ht : tfAB n none n = 1 := by unfold tfAB; rw [if_pos rfl, if_neg (by simp)]
          rw [ht, if_neg (by omega), if_pos (by omega)]
          simp
        | some q =>
          have ht : tfAB a (some q) n = (if n = a then 1 else 0) + (if q = n then 1 else 0) := by unfold tfAB; simp
          rw [ht]
          generalize hA : nsAB a (some q) = al at *
          by_cases e1 : n = a
          · by_cases e2 : q = n
            · rw [if_pos e1, if_pos e2, if_neg (by omega), if_pos (by omega)]
              show ((0 + (if q < n then dgN b al k q else 0) : Nat) : Int) + _ = ((dgN b al k a + (if q < n + 1 then dgN b al k q else 0) : Nat) : Int)
              rw [if_neg (by omega), if_pos (by omega), e1.symm, e2]
              omega
            · rw [if_pos e1, if_neg e2, if_neg (by omega), if_pos (by omega)]
              show ((0 + (if q < n then dgN b al k q else 0) : Nat) : Int) + _ = ((dgN b al k a + (if q < n + 1 then dgN b al k q else 0) : Nat) : Int)
              rw [← e1]
              by_cases e3 : q < n
              · rw [if_pos e3, if_pos (by omega)]; omega
              · rw [if_neg e3, if_neg (by omega)]; omega
          · have e2 : q = n := by
              rcases hbn.mp c with h | h
              · exact absurd h e1
              · exact Option.some.inj h
            rw [if_neg e1, if_pos e2]
            show (((if a < n then dgN b al k a else 0) + (if q < n then dgN b al k q else 0) : Nat) : Int) + _ = (((if a < n + 1 then dgN b al k a else 0) + (if q < n + 1 then dgN b al k q else 0) : Nat) : Int)
            rw [if_neg (show ¬ q < n by omega), if_pos (show q < n + 1 by omega), e2]
            by_cases e3 : a < n
            · rw [if_pos e3, if_pos (by omega)]; omega
            · rw [if_neg e3, if_neg (by omega)]; omega
      · rw [if_neg c]
        have na : n ≠ a := fun e => c (hbn.mpr (Or.inl e))
        cases mb with
        | none =>
          show (((if a < n then dgN b (nsAB a none) k a else 0) + 0 : Nat) : Int) + 0 = (((if a < n + 1 then dgN b (nsAB a none) k a else 0) + 0 : Nat) : Int)
          by_cases e3 : a < n
          · rw [if_pos e3, if_pos (by omega)]; omega
          · rw [if_neg e3, if_neg (by omega)]; omega
        | some q =>
          have nq : q ≠ n := fun e => c (hbn.mpr (Or.inr (by rw [e])))
          generalize nsAB a (some q) = al at *
          show (((if a < n then dgN b al k a else 0) + (if q < n then dgN b al k q else 0) : Nat) : Int) + 0 = (((if a < n + 1 then dgN b al k a else 0) + (if q < n + 1 then dgN b al k q else 0) : Nat) : Int)
          by_cases e3 : a < n
          · rw [if_pos e3, if_pos (show a < n + 1 by omega)]
            by_cases e4 : q < n
            · rw [if_pos e4, if_pos (show q < n + 1 by omega)]; omega
            · rw [if_neg e4, if_neg (show ¬ q < n + 1 by omega)]; omega
          · rw [if_neg e3, if_neg (show ¬ a < n + 1 by omega)]
            by_cases e4 : q < n
            · rw [if_pos e4, if_pos (show q < n + 1 by omega)]; omega
            · rw [if_neg e4, if_neg (show ¬ q < n + 1 by omega)]; omega
  have h8 := key 8 (Nat.le_refl 8)
  rw [lr_ld, if_pos ha] at h8
  unfold ldn
  rw [h8]
  cases mb with
  | none => rfl
  | some c =>
    have := hb c rfl
    show ((dgN b (nsAB a (some c)) k a + (if c < 8 then dgN b (nsAB a (some c)) k c else 0) : Nat) : Int).toNat = _
    rw [if_pos this]
    rfl
end RSideC
