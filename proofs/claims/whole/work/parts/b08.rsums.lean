/-! ===== the reference: sums ===== -/
section RSumsC
def lI (z : Int) : Int64 := Int64.ofInt z
theorem lI_add (a b : Int) : lI a + lI b = lI (a + b) := (Int64.ofInt_add a b).symm
theorem lI_sub (a b : Int) : lI a - lI b = lI (a - b) := (Int64.ofInt_sub a b).symm
theorem lI_mul (a b : Int) : lI a * lI b = lI (a * b) := (Int64.ofInt_mul a b).symm
theorem lI_toInt {a : Int} (h1 : -9223372036854775808 ≤ a) (h2 : a < 9223372036854775808) : (lI a).toInt = a := Int64.toInt_ofInt_of_le (by simpa using h1) (by simpa using h2)
theorem iI_l {a : Int} (h1 : -2147483648 ≤ a) (h2 : a < 2147483648) : (iI a).toInt64 = lI a := Int64.toInt_inj.mp (by rw [Int32.toInt_toInt64, iI_toInt h1 h2, lI_toInt (by omega) (by omega)])
theorem lI_i {a : Int} (h1 : -2147483648 ≤ a) (h2 : a < 2147483648) : (lI a).toInt32 = iI a := Int32.toInt_inj.mp (by rw [Int64.toInt_toInt32, lI_toInt (by omega) (by omega), iI_toInt h1 h2]; exact Int.bmod_eq_of_le (by omega) (by omega))
theorem lI_le {a b : Int} (h1 : -9223372036854775808 ≤ a) (h2 : a < 9223372036854775808) (h3 : -9223372036854775808 ≤ b) (h4 : b < 9223372036854775808) : lI a ≤ lI b ↔ a ≤ b := by
  rw [Int64.le_iff_toInt_le, lI_toInt h1 h2, lI_toInt h3 h4]
variable {G : GG} {M : Mem} {m b : Nat} {Q : Option Value → Mem → Prop}
/-- the differences met so far: d stands for d - far - 1 -/
def DiI (M : Mem) (m far : Nat) (K : List Nat) : Prop := x_i M m 25 = nI K.length ∧ Tab M (m + 52) (2 * far + 3) K ∧ (∀ t, t < K.length → x_i M (m + 28) t = iI ((K.getD t 0 : Int) - far - 1)) ∧ (∀ x ∈ K, x < 2 * far + 3) ∧ K.Nodup ∧ x_i M m 78 = nI far
theorem DiI.len {far : Nat} {K : List Nat} (h : DiI M m far K) : K.length ≤ 2 * far + 3 := nd_len _ K h.2.2.2.2.1 h.2.2.2.1
theorem DiI.fr {M' : Mem} {far : Nat} {K : List Nat} {F A : List Nat} (h : DiI M m far K) (g : FrM M M' m F A) (h0 : 25 ∉ F ∧ 78 ∉ F) (h1 : 52 ∉ A ∧ 28 ∉ A) : DiI M' m far K := by
  unfold DiI Tab
  rw [g.fm h0.1, g.fm h0.2, g.i (by decide) h1.1, g.i (by decide) h1.2]
  exact h
/-- a difference, cut -/
def cutD (far : Nat) (v : Int) : Int := if v > far then far + 1 else if v < -(far : Int) then -(far : Int) - 1 else v
theorem cutD_bd {far : Nat} {v : Int} : -(far : Int) - 1 ≤ cutD far v ∧ cutD far v ≤ far + 1 := by
  unfold cutD
  split
  · omega
  split <;> omega
theorem ur_difference (d : Nat) (hs : ReS M m) {far : Nat} {K : List Nat} (h : DiI M m far K) (hf : far ≤ 2000) {v : Int} (hv : -100000 ≤ v) (hv2 : v ≤ 100000) {k : Nat} (hk : (k : Int) = cutD far v + far + 1) (hQ : ∀ M', FrM M M' m [25] [28, 52] → DiI M' m far (ins K k) → Q (some (.int (nI ((ins K k).idxOf k)))) M') : Call G (d + 1) 0 0 mX12_difference [.ref m, .long (lI v)] M Q := by
  have hlen := h.len
  have h0 := h
  obtain ⟨h1, h2, h3, h4, h5, h6⟩ := h
  have hb := cutD_bd (far := far) (v := v)
  have hk2 : k < 2 * far + 3 := by omega
  have hid := h2 k hk2
  have go : LX12_difference_43 G d 0 0 m (lI v) (lI (cutD far v)) M Q := by
    have ed : ((lI (cutD far v)).toInt32 + x_i M m 78) + 1 = nI k := by
      rw [lI_i (by omega) (by omega), h6, iI_n far, iI_add, show (1 : Int32) = iI 1 from by decide, iI_add, iI_n k, hk]
    refine vX12_difference_43 _ _ _ ⟨hs.1, m + 52, hs.r52, by rw [hs.h52], by rw [ed, hs.h52]; exact vp_in_nI (show k < 8400 by omega) (by omega), ?_⟩
    rw [ed, nI_clamp (by omega), hid]
    by_cases c : k ∈ K
    · rw [if_pos c]
      have e : ins K k = K := if_pos c
      rw [e] at hQ
      exact ⟨fun _ => hQ M FrM.rf h0, fun q => absurd q (nI_m1 (by have := idx_lt c; omega))⟩
    · rw [if_neg c]
      have e : ins K k = K ++ [k] := if_neg c
      have hl2 : K.length < 2 * far + 3 := by
        have := nd_len (2 * far + 3) (k :: K) (List.nodup_cons.mpr ⟨c, h5⟩) (fun z hz => (List.mem_cons.mp hz).elim (fun e => e ▸ hk2) (h4 z))
        rw [List.length_cons] at this
        omega
      refine ⟨fun q => absurd rfl q, fun _ => ?_⟩
      rintro M6 rfl
      refine ⟨m + 28, hs.r28, by rw [hs.h28], by rw [xm_mo (by decide), h1, hs.h28]; exact vp_in_nI (show K.length < 8400 by omega) (by omega), ?_⟩
      rintro M10 rfl M11 rfl
      simp only [xm_mo (show (52 : Nat) ≠ 0 by decide), xm_mo (show (28 : Nat) ≠ 0 by decide), h1, h6]
      rw [nI_clamp (by omega), nI_1]
      have ev : nI k - nI far - 1 = iI ((k : Int) - far - 1) := by rw [iI_n, iI_n, iI_sub, show (1 : Int32) = iI 1 from by decide, iI_sub]
      rw [ev]
      have g1 : FrM M (x_si M (m + 52) k (nI K.length)) m [25] [28, 52] := FrM.rf.si (by decide) (by decide)
      have g3 := (g1.si (o := 28) (k := K.length) (v := iI ((k : Int) - far - 1)) (by decide) (by decide)).sm (k := 25) (v := nI (K.length + 1)) (by decide)
      have hgo := hQ _ g3 (by
        have hin := h2.add c
        rw [e] at hin ⊢
        refine ⟨by rw [xi_eq, List.length_append]; rfl, hin.to (by funext j; rw [xm_om (by decide), xm_oo (by decide)]), fun t ht => ?_, fun z hz => ?_, List.nodup_append.mpr ⟨h5, by simp, fun a ha b' hb' e => c (by rw [List.mem_singleton] at hb'; rw [← hb', ← e]; exact ha)⟩, by rw [xi_nk (by decide), xm_mo (by decide), xm_mo (by decide)]; exact h6⟩
        · rw [List.length_append] at ht
          simp at ht
          rw [xm_om (by decide)]
          by_cases et : t = K.length
          · rw [et, xi_eq, getD_last]
          · rw [xi_nk et, xm_oo (by decide), getD_app (by omega)]; exact h3 t (by omega)
        · rcases List.mem_append.mp hz with q | q
          · exact h4 z q
          · rw [List.mem_singleton.mp q]; exact hk2)
      have ei : (ins K k).idxOf k = K.length := by rw [e, List.idxOf_append, if_neg c]; simp
      rw [ei] at hgo
      rw [xm_om (by decide), xm_oo (by decide), xi_eq]
      exact hgo
  have efar : (x_i M m 78).toInt64 = lI far := by rw [h6, iI_n]; exact iI_l (by omega) (by omega)
  have enfar : (-(x_i M m 78)).toInt64 = lI (-(far : Int)) := by rw [h6, iI_n, iI_neg]; exact iI_l (by omega) (by omega)
  refine eX12_difference m _ ⟨hs.1, ?_⟩
  rw [efar, enfar, lg_cmp_le, lI_le (by omega) (by omega) (by omega) (by omega), lg_cmp_ge, lI_le (by omega) (by omega) (by omega) (by omega)]
  refine ⟨fun c => ⟨fun c2 => ?_, fun c2 => ?_⟩, fun c => ?_⟩
  · have : cutD far v = v := by unfold cutD; rw [if_neg (by omega), if_neg (by omega)]
    rw [this] at go; exact go
  · have : cutD far v = -(far : Int) - 1 := by unfold cutD; rw [if_neg (by omega), if_pos (by omega)]
    rw [this] at go
    rw [show (1 : Int64) = lI 1 from by decide, lI_sub]
    exact go
  · have : cutD far v = far + 1 := by unfold cutD; rw [if_pos (by omega)]
    rw [this] at go
    rw [show (1 : Int64) = lI 1 from by decide, lI_add]
    exact go
def dfv (far x : Nat) : Int := (x : Int) - far - 1
def dfD (b al : Nat) (wt : Nat → Int) (far x g : Nat) : Nat := if dfv far x > far ∨ dfv far x < -(far : Int) then x else (cutD far ((b : Int) * dfv far x + ld b al wt g) + far + 1).toNat
def dfM (sg far : Nat) (less : Int) (x : Nat) : Nat := if dfv far x > far ∨ dfv far x < -(far : Int) then (if dfv far x < 0 ∧ sg > 16 then 1 else 0) else cmpI sg (dfv far x + less)
theorem dfM_le {sg far x : Nat} {less : Int} : dfM sg far less x ≤ 1 := by
  unfold dfM
  split
  · split <;> omega
  · exact cmpI_le
theorem df_tells {al sg far : Nat} {wt : Nat → Int} {less : Int} (hb : b = 2 ∨ b = 3) (hsg : sg = 16 ∨ sg = 17 ∨ sg = 18) (h1 : -(far : Int) ≤ lowS wt 8) (h2 : higS wt 8 ≤ far) (h3 : -(far : Int) ≤ less) (h4 : less ≤ far) :
    ∀ (u : List Nat) (x : Nat) (D : Int), dfv far x = cutD far D → dfM sg far less (dl (dfD b al wt far) x u) = cmpI sg (dz (smZ b al wt) D u + less)
  | [], x, D, h => by
    show dfM sg far less x = cmpI sg (D + less)
    unfold dfM
    rw [h]
    unfold cutD
    by_cases c1 : D > far
    · rw [if_pos c1, if_pos (Or.inl (by omega)), if_neg (by omega)]
      unfold cmpI
      have a1 : ¬ D + less = 0 := by omega
      have a2 : ¬ D + less < 0 := by omega
      have a3 : ¬ D + less ≤ 0 := by omega
      rw [if_neg a1, if_neg a2, if_neg a3]
      split
      · rfl
      · split <;> rfl
    · rw [if_neg c1]
      by_cases c2 : D < -(far : Int)
      · rw [if_pos c2, if_pos (Or.inr (by omega))]
        unfold cmpI
        rcases hsg with e | e | e
        · rw [if_neg (by omega), if_pos e, if_neg (by omega)]
        · rw [if_pos ⟨by omega, by omega⟩, if_neg (by omega), if_pos e, if_pos (by omega)]
        · rw [if_pos ⟨by omega, by omega⟩, if_neg (by omega), if_neg (by omega), if_pos (by omega)]
      · rw [if_neg c2, if_neg (by omega)]
  | g :: u, x, D, h => by
    show dfM sg far less (dl (dfD b al wt far) (dfD b al wt far x g) u) = cmpI sg (dz (smZ b al wt) (smZ b al wt D g) u + less)
    refine df_tells hb hsg h1 h2 h3 h4 u _ _ ?_
    have hl := (ld_bd (al := al) (wt := wt) (k := g) hb).2
    unfold dfD smZ
    rw [h]
    generalize ld b al wt g = L at hl ⊢
    have hcb := cutD_bd (far := far) (v := D)
    unfold cutD at *
    by_cases c1 : D > far
    · rw [if_pos c1] at *
      rw [if_pos (Or.inl (by omega)), h]
      rcases hb with rfl | rfl
      · rw [if_pos (by omega)]
      · rw [if_pos (by omega)]
    · rw [if_neg c1] at *
      by_cases c2 : D < -(far : Int)
      · rw [if_pos c2] at *
        rw [if_pos (Or.inr (by omega)), h]
        rcases hb with rfl | rfl
        · rw [if_neg (by omega), if_pos (by omega)]
        · rw [if_neg (by omega), if_pos (by omega)]
      · rw [if_neg c2] at *
        rw [if_neg (by omega)]
        unfold dfv
        generalize (b : Int) * D + L = E
        split
        · omega
        · split <;> omega
/-- what digits add, from the first name on -/
def lr (b al : Nat) (wt : Nat → Int) (k : Nat) : Nat → Int
  | 0 => 0
  | n + 1 => lr b al wt k n + (if bt al n = 1 then wt n * ((k / b ^ ab al (7 - n) % b : Nat) : Int) else 0)
theorem lr_ld {al k : Nat} {wt : Nat → Int} : lr b al wt k 8 = ld b al wt k := by
  have key : ∀ r j, j + r = 8 → ls b al wt k j + lr b al wt k r = lr b al wt k 8 := by
    intro r j hj
    induction j generalizing r with
    | zero =>
      have : r = 8 := by omega
      rw [this]
      show 0 + _ = _
      omega
    | succ j ih =>
      have h1 := ih (r + 1) (by omega)
      have e : 7 - j = r := by omega
      have e2 : 7 - r = j := by omega
      have l1 : lr b al wt k (r + 1) = lr b al wt k r + (if bt al r = 1 then wt r * ((k / b ^ ab al (7 - r) % b : Nat) : Int) else 0) := rfl
      have l2 : ls b al wt k (j + 1) = if bt al (7 - j) = 1 then ls b al wt k j + wt (7 - j) * ((k / b ^ ab al j % b : Nat) : Int) else ls b al wt k j := rfl
      rw [e] at l2
      rw [e2] at l1
      rw [← h1, l1, l2]
      split <;> omega
  have := key 0 8 rfl
  rw [← this]
  show _ + 0 = _
  rw [Int.add_zero]
  rfl
end RSumsC
