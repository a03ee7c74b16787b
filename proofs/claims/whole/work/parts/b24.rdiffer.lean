/-! ===== the reference: differ ===== -/
section RDifferC
variable {G : GG} {M : Mem} {m b : Nat} {Q : Option Value → Mem → Prop}
/-- a number one digit longer; above the top all are one -/
def lgr (b v d : Nat) : Nat := if v ≤ (4611686018427387904 - d) / b then b * v + d else 4611686018427387905
theorem lgr_le {v d : Nat} (hb1 : 1 < b) (hd : d < b) (hb3 : b ≤ 3) : lgr b v d ≤ 4611686018427387905 := by
  unfold lgr
  split
  · rename_i h
    have h1 := Nat.mul_le_mul_left b h
    have h2 := Nat.mul_div_le (4611686018427387904 - d) b
    omega
  · exact Nat.le_refl _
theorem ur_longer (d : Nat) (hs : ReS M m) (hb1 : 1 < b) (hb3 : b ≤ 3) (h0 : x_i M m 0 = nI b) {v g : Nat} (hv : v < 2 ^ 63) (hg : g < b) (hQ : Q (some (.long (lN (lgr b v g)))) M) : Call G (d + 1) 0 0 mX12_longer [.ref m, .long (lN v), .int (nI g)] M Q := by
  refine eX12_longer m _ _ ⟨hs.1, ?_⟩
  have e1 : (4611686018427387904 : Int64) - (nI g).toInt64 = lN (4611686018427387904 - g) := by
    rw [nI_l (by omega), show (4611686018427387904 : Int64) = lN 4611686018427387904 from rfl, lN_sub (by omega)]
  have hq : (4611686018427387904 - g) / b < 2 ^ 63 := Nat.lt_of_le_of_lt (Nat.div_le_self _ _) (by omega)
  rw [h0, lg_cmp_le, e1, nI_l (n := b) (by omega), nI_l (n := g) (by omega), pk_lDiv (by omega) (by omega) (by omega), pk_lLE hv hq, lN_mul, lN_add]
  refine ⟨fun e => absurd ((lN_eq0 (by omega)).mp e) (by omega), fun c => ?_, fun c => ?_⟩
  · unfold lgr at hQ
    rw [if_pos c] at hQ
    exact hQ
  · unfold lgr at hQ
    rw [if_neg c] at hQ
    exact hQ
/-- the least numbers that lead to the keys met -/
def wl (δ : Nat → Nat → Nat) (b k0 : Nat) : Nat → List Nat
  | 0 => [0]
  | c + 1 => if (ex δ b k0 (c + 1)).length ≤ (ex δ b k0 c).length then wl δ b k0 c else wl δ b k0 c ++ [lgr b ((wl δ b k0 c).getD (c / b) 0) (c % b)]
theorem wl_len {δ : Nat → Nat → Nat} {k0 : Nat} : ∀ c, (wl δ b k0 c).length = (ex δ b k0 c).length
  | 0 => rfl
  | c + 1 => by
    have ih := wl_len (δ := δ) (k0 := k0) c
    have h1 := ex_le (δ := δ) (f := b) (k0 := k0) c 1
    have h2 : (ex δ b k0 (c + 1)).length ≤ (ex δ b k0 c).length + 1 := (ins_len).2
    show (if (ex δ b k0 (c + 1)).length ≤ (ex δ b k0 c).length then wl δ b k0 c else wl δ b k0 c ++ [lgr b ((wl δ b k0 c).getD (c / b) 0) (c % b)]).length = _
    split
    · omega
    · rw [List.length_append, ih]
      show (ex δ b k0 c).length + 1 = _
      omega
theorem wl_le {δ : Nat → Nat → Nat} {k0 : Nat} (hb1 : 1 < b) (hb3 : b ≤ 3) : ∀ c, ∀ x ∈ wl δ b k0 c, x ≤ 4611686018427387905
  | 0, x, hx => by rw [List.mem_singleton.mp hx]; omega
  | c + 1, x, hx => by
    have ih := wl_le (δ := δ) (k0 := k0) hb1 hb3 c
    have hx' : x ∈ (if (ex δ b k0 (c + 1)).length ≤ (ex δ b k0 c).length then wl δ b k0 c else wl δ b k0 c ++ [lgr b ((wl δ b k0 c).getD (c / b) 0) (c % b)]) := hx
    split at hx'
    · exact ih x hx'
    · rcases List.mem_append.mp hx' with q | q
      · exact ih x q
      · rw [List.mem_singleton.mp q]; exact lgr_le hb1 (Nat.mod_lt _ (by omega)) hb3
def dfA (v : Nat) : Int64 := if v ≤ 4611686018427387904 then lN v else -3
/-- what differ tells: the number of the first pair met whose marks differ -/
def DfR (δ : Nat → Nat → Nat) (b : Nat) (P : Nat → Prop) (res : Int64) : Prop :=
  (∃ i, exV δ b 0 (i * b) ∧ i < (ex δ b 0 (i * b)).length ∧ (∀ t, t < i → P ((ex δ b 0 (i * b)).getD t 0)) ∧ ¬ P ((ex δ b 0 (i * b)).getD i 0) ∧ res = dfA ((wl δ b 0 (i * b)).getD i 0)) ∨
  (res = -1 ∧ ∃ i, exV δ b 0 (i * b) ∧ (ex δ b 0 (i * b)).length = i ∧ ∀ t, t < i → P ((ex δ b 0 (i * b)).getD t 0))
theorem DfR.one {δ : Nat → Nat → Nat} {P : Nat → Prop} {r r' : Int64} (h : DfR δ b P r) (h' : DfR δ b P r') : r = r' := by
  have ext : ∀ i j t, i ≤ j → t < (ex δ b 0 (i * b)).length → (ex δ b 0 (j * b)).getD t 0 = (ex δ b 0 (i * b)).getD t 0 := fun i j t hij ht => by
    have e : j * b = i * b + (j - i) * b := by rw [← Nat.add_mul]; congr 1; omega
    rw [e]; exact ex_getD _ _ ht
  rcases h with ⟨i, h1, h2, h3, h4, h5⟩ | ⟨h1, i, h2, h3, h4⟩
  · rcases h' with ⟨j, g1, g2, g3, g4, g5⟩ | ⟨g1, j, g2, g3, g4⟩
    · rcases Nat.lt_trichotomy i j with c | c | c
      · exact absurd (by have := g3 i c; rw [ext i j i (by omega) h2] at this; exact this) h4
      · subst c; rw [h5, g5]
      · exact absurd (by have := h3 j c; rw [ext j i j (by omega) g2] at this; exact this) g4
    · rcases Nat.lt_or_ge i j with c | c
      · exact absurd (by have := g4 i c; rw [ext i j i (by omega) h2] at this; exact this) h4
      · exfalso
        rcases Nat.lt_or_ge j i with c2 | c2
        · have e : (ex δ b 0 (j * b)).length = j := g3
          have h6 := h1 (j * b) (by
            have : (j + 1) * b ≤ i * b := Nat.mul_le_mul_right b c2
            rw [Nat.succ_mul] at this
            have hb : 0 < b := by
              rcases Nat.eq_zero_or_pos b with q | q
              · subst q
                have h7 : ∀ n, (ex δ 0 0 (n * 0)).length = 1 := fun n => by rw [Nat.mul_zero]; rfl
                have := h7 i
                have := h7 j
                omega
              · exact q
            omega)
          rcases Nat.eq_zero_or_pos b with q | q
          · subst q
            have h7 : ∀ n, (ex δ 0 0 (n * 0)).length = 1 := fun n => by rw [Nat.mul_zero]; rfl
            have := h7 i
            have := h7 j
            omega
          · rw [Nat.mul_div_cancel _ q] at h6
            omega
        · have : i = j := by omega
          subst this
          omega
  · rcases h' with ⟨j, g1, g2, g3, g4, g5⟩ | ⟨g1, j, g2, g3, g4'⟩
    · exfalso
      rcases Nat.lt_or_ge j i with c | c
      · exact absurd (by have := h4 j c; rw [ext j i j (by omega) g2] at this; exact this) g4
      · rcases Nat.lt_or_ge i j with c2 | c2
        · rcases Nat.eq_zero_or_pos b with q | q
          · subst q
            have h7 : ∀ n, (ex δ 0 0 (n * 0)).length = 1 := fun n => by rw [Nat.mul_zero]; rfl
            have := h7 i
            have := h7 j
            omega
          · have h6 := g1 (i * b) (by
              have : (i + 1) * b ≤ j * b := Nat.mul_le_mul_right b c2
              rw [Nat.succ_mul] at this
              omega)
            rw [Nat.mul_div_cancel _ q] at h6
            omega
        · have : i = j := by omega
          subst this
          omega
    · rw [h1, g1]
/-- the worths stand -/
def WoI (M : Mem) (m : Nat) (W : List Nat) : Prop := ∀ t, t < W.length → x_l M (m + 59) t = lN (W.getD t 0)
theorem ur_bDiffer (d : Nat) (hs : ReS M m) (hb1 : 1 < b) (hb3 : b ≤ 3) (h0 : x_i M m 0 = nI b) {ra rb : Nat} {ma mb : Mc} (hra : ra < 10) (hrb : rb < 10) (hA : ReR M m ra b ma) (hB : ReR M m rb b mb) (hna : 0 < m_n ma ∧ m_n ma ≤ 60) (hnb : 0 < m_n mb ∧ m_n mb ≤ 60) (hca : ∀ i, i < m_n ma → ∀ g, g < b → m_s ma i g < m_n ma) (hcb : ∀ i, i < m_n mb → ∀ g, g < b → m_s mb i g < m_n mb) (hka : ∀ i, i < m_n ma → m_k ma i < 8) (hkb : ∀ i, i < m_n mb → m_k mb i < 8) (ha0 : m_s ma 0 0 = 0) (hb0 : m_s mb 0 0 = 0) (hpr : PrI M m [0]) (hwo : WoI M m [0])
    (hQ : ∀ M' res, FrM M M' m [25] [27, 28, 29, 59] → DfR (ppD (m_s ma) (m_s mb)) b (fun x => m_k ma (x / 60) = m_k mb (x % 60)) res → Q (some (.long res)) M') :
    LX12_differ_33 G (d + 4) 0 0 m (nI ra) (nI rb) (nI 0) none none M Q := by
  have hd0 : ppD (m_s ma) (m_s mb) 0 0 = 0 := by
    show m_s ma (0 / 60) 0 * 60 + m_s mb (0 % 60) 0 = 0
    rw [Nat.zero_div, Nat.zero_mod, ha0, hb0]
  generalize hδ : ppD (m_s ma) (m_s mb) = δ at *
  have hδx : ∀ x g, δ x g = m_s ma (x / 60) g * 60 + m_s mb (x % 60) g := fun x g => by rw [← hδ]; rfl
  have hKn : ∀ c, exV δ b 0 c → ∀ x ∈ ex δ b 0 c, x / 60 < m_n ma ∧ x % 60 < m_n mb := fun c hV => ex_all (P := fun x => x / 60 < m_n ma ∧ x % 60 < m_n mb) (by omega) ⟨hna.1, hnb.1⟩ (fun x hx g hg => by
    have h1 := hca _ hx.1 g hg
    have h2 := hcb _ hx.2 g hg
    rw [hδx]
    generalize m_s ma (x / 60) g = X at h1 ⊢
    generalize m_s mb (x % 60) g = Y at h2 ⊢
    constructor <;> omega) c hV
  have fr0 : ∀ {M' : Mem}, FrM M M' m [25] [27, 28, 29, 59] → ReS M' m ∧ x_i M' m 0 = nI b ∧ ReR M' m ra b ma ∧ ReR M' m rb b mb := fun g => ⟨g.S hs, by rw [g.fm (by decide)]; exact h0, hA.fr g (by decide), hB.fr g (by decide)⟩
  have inner : ∀ i, i < 3600 → (∀ M' z z1, FrM M M' m [25] [27, 28, 29, 59] → PrI M' m (ex δ b 0 (i * b + b)) → WoI M' m (wl δ b 0 (i * b + b)) → exV δ b 0 (i * b + b) → i < (ex δ b 0 (i * b + b)).length → c1 z = true → c1 z1 = true → LX12_differ_33 G (d + 4) 0 0 m (nI ra) (nI rb) (nI (i + 1)) z z1 M' Q) →
      ∀ k j, j + k = b → ∀ M', FrM M M' m [25] [27, 28, 29, 59] → PrI M' m (ex δ b 0 (i * b + j)) → WoI M' m (wl δ b 0 (i * b + j)) → exV δ b 0 (i * b + j) → i < (ex δ b 0 (i * b + j)).length → ∀ z, c1 z = true → LX12_differ_113 G (d + 4) 0 0 m (nI ra) (nI rb) (nI i) (nI j) z M' Q := by
    intro i hi36 hout k
    induction k with
    | zero =>
      intro j hj M' hfr hpr hwo hV hil z hz
      have e : j = b := by omega
      rw [e] at hpr hwo hV hil ⊢
      obtain ⟨q1, q2, -⟩ := fr0 hfr
      refine vX12_differ_113 _ _ _ _ _ _ hz ⟨q1.1, fun _ => ?_, fun c => absurd (by rw [q2]; exact nI_le (Nat.le_refl b) (by omega)) c⟩
      rw [nI_1]
      exact hout M' _ _ hfr hpr hwo hV hil rfl hz
    | succ k ih =>
      intro j hj M' hfr hpr hwo hV hil z hz
      have hjf : j < b := by omega
      have hlen := hpr.len
      have hwl := wl_len (δ := δ) (b := b) (k0 := 0) (i * b + j)
      obtain ⟨q1, q2, q5, q6⟩ := fr0 hfr
      obtain ⟨t1, t2⟩ := hpr.2.2.1 i hil
      obtain ⟨kn1, kn2⟩ := hKn _ hV _ (getD_mem hil)
      have hW : (wl δ b 0 (i * b + j)).getD i 0 ≤ 4611686018427387905 := wl_le hb1 hb3 _ _ (getD_mem (by omega))
      have hx59 := hwo i (by omega)
      generalize hxe : (ex δ b 0 (i * b + j)).getD i 0 = x at t1 t2 kn1 kn2
      have e1 : (i * b + j) / b = i := by rw [Nat.mul_comm, Nat.mul_add_div (by omega), Nat.div_eq_of_lt hjf]; rfl
      have e2 : (i * b + j) % b = j := by rw [Nat.mul_comm, Nat.mul_add_mod]; exact Nat.mod_eq_of_lt hjf
      have hkey : δ ((ex δ b 0 (i * b + j)).getD ((i * b + j) / b) 0) ((i * b + j) % b) = m_s ma (x / 60) j * 60 + m_s mb (x % 60) j := by rw [e1, e2, hxe, hδx]
      have hex : ex δ b 0 (i * b + j + 1) = ins (ex δ b 0 (i * b + j)) (m_s ma (x / 60) j * 60 + m_s mb (x % 60) j) := by rw [← hkey]; rfl
      have hwx : wl δ b 0 (i * b + j + 1) = if (ex δ b 0 (i * b + j + 1)).length ≤ (ex δ b 0 (i * b + j)).length then wl δ b 0 (i * b + j) else wl δ b 0 (i * b + j) ++ [lgr b ((wl δ b 0 (i * b + j)).getD i 0) j] := by
        show (if _ then _ else _ ++ [lgr b ((wl δ b 0 (i * b + j)).getD ((i * b + j) / b) 0) ((i * b + j) % b)]) = _
        rw [e1, e2]
      have hV' : exV δ b 0 (i * b + j + 1) := fun p hp => by
        by_cases e : p = i * b + j
        · rw [e, e1]; exact hil
        · exact hV p (by omega)
      have hsa := hca _ kn1 j hjf
      have hsb := hcb _ kn2 j hjf
      have vin : vp_in (nI i) 8400 := vp_in_nI (show i < 8400 by omega) (by omega)
      have hcli : (nI i).toNatClampNeg = i := nI_clamp (by omega)
      refine vX12_differ_113 _ _ _ _ _ _ hz ⟨q1.1, fun c => absurd (by rw [q2] at c; exact c) (nI_ge (a := j) (b := b) (by omega) (by omega)), fun _ => ⟨m + 28, q1.r28, by rw [q1.h28], by rw [q1.h28]; exact vin, ?_⟩⟩
      rw [hcli, t1]
      refine ur_rowTo (d + 3) q1 q5 hra hna.2 hb3 kn1 hjf ⟨_, rfl, q1.1, m + 29, q1.r29, by rw [q1.h29], by rw [q1.h29]; exact vin, ?_⟩
      rw [t2]
      refine ur_rowTo (d + 3) q1 q6 hrb hnb.2 hb3 kn2 hjf ⟨_, rfl, q1.1, ?_⟩
      refine ur_paired (d + 3) q1 hpr (by omega) (by omega) (fun M1 g1 g2 => ?_)
      rw [← hex] at g2
      have s1 := g1.S q1
      have hlen1 := g2.len
      have hle1 := ex_le (δ := δ) (f := b) (k0 := 0) (i * b + j) 1
      have hw1 : WoI M1 m (wl δ b 0 (i * b + j)) := fun t ht => by rw [g1.l (by decide) (by decide)]; exact hwo t ht
      refine ⟨_, rfl, s1.1, m + 59, s1.r59, ?_⟩
      rw [g2.1, hpr.1, nI_leI (by omega) (by omega), nI_clamp (n := (ex δ b 0 (i * b + j)).length) (by omega), nI_1]
      have vinL : vp_in (nI (ex δ b 0 (i * b + j)).length) (x_h M1 (m + 59)).2 := by rw [s1.h59]; exact vp_in_nI (show (ex δ b 0 (i * b + j)).length < 8400 by omega) (by omega)
      refine ⟨fun c => ⟨by rw [s1.h59], vinL, ?_⟩, fun c => ⟨by rw [s1.h59], by rw [s1.h59]; exact vin, ?_⟩⟩
      · rintro M2 rfl
        have g3 : FrM M1 (x_sl M1 (m + 59) (ex δ b 0 (i * b + j)).length (x_l M1 (m + 59) (ex δ b 0 (i * b + j)).length)) m [] [59] := FrM.rf.sl (by decide) (by decide)
        refine ih (j + 1) (by omega) _ ((hfr.tr g1 (by decide) (by decide)).tr g3 (by decide) (by decide)) (g2.fr g3 (by decide) (by decide)) ?_ hV' (by rw [← Nat.add_assoc]; omega) _ rfl
        rw [← Nat.add_assoc, hwx, if_pos c]
        intro t ht
        rw [xl_nk (by omega)]
        exact hw1 t ht
      · rw [hw1 i (by omega)]
        refine ur_longer (d + 3) s1 hb1 hb3 (by rw [g1.fm (by decide)]; exact q2) (by omega) hjf ⟨_, rfl, by rw [s1.h59], vinL, ?_⟩
        rintro M2 rfl
        have g3 : FrM M1 (x_sl M1 (m + 59) (ex δ b 0 (i * b + j)).length (lN (lgr b ((wl δ b 0 (i * b + j)).getD i 0) j))) m [] [59] := FrM.rf.sl (by decide) (by decide)
        refine ih (j + 1) (by omega) _ ((hfr.tr g1 (by decide) (by decide)).tr g3 (by decide) (by decide)) (g2.fr g3 (by decide) (by decide)) ?_ hV' (by rw [← Nat.add_assoc]; omega) _ rfl
        rw [← Nat.add_assoc, hwx, if_neg c]
        intro t ht
        rw [List.length_append] at ht
        have ht' : t < (wl δ b 0 (i * b + j)).length + 1 := ht
        by_cases et : t = (ex δ b 0 (i * b + j)).length
        · rw [et, xl_eq, ← hwl, getD_last]
        · rw [xl_nk et, getD_app (by omega)]
          exact hw1 t (by omega)
  have outer : ∀ k i, i + k = 3600 → ∀ M', FrM M M' m [25] [27, 28, 29, 59] → PrI M' m (ex δ b 0 (i * b)) → WoI M' m (wl δ b 0 (i * b)) → exV δ b 0 (i * b) → i ≤ (ex δ b 0 (i * b)).length → (∀ t, t < i → m_k ma ((ex δ b 0 (i * b)).getD t 0 / 60) = m_k mb ((ex δ b 0 (i * b)).getD t 0 % 60)) → ∀ z z1, c1 z = true → c1 z1 = true → LX12_differ_33 G (d + 4) 0 0 m (nI ra) (nI rb) (nI i) z z1 M' Q := by
    intro k
    induction k with
    | zero =>
      intro i hi M' hfr hpr hwo hV hle hP z z1 hz hz1
      have hlen := hpr.len
      have el : (ex δ b 0 (i * b)).length = i := by omega
      exact vX12_differ_33 _ _ _ _ _ _ hz hz1 ⟨(fr0 hfr).1.1, fun _ => hQ M' (-1) hfr (Or.inr ⟨rfl, i, hV, el, hP⟩), fun c => absurd (by rw [hpr.1, el]; exact nI_le (Nat.le_refl i) (by omega)) c⟩
    | succ k ih =>
      intro i hi M' hfr hpr hwo hV hle hP z z1 hz hz1
      have hlen := hpr.len
      have hwl := wl_len (δ := δ) (b := b) (k0 := 0) (i * b)
      obtain ⟨q1, q2, q5, q6⟩ := fr0 hfr
      refine vX12_differ_33 _ _ _ _ _ _ hz hz1 ⟨q1.1, fun c => ?_, fun c => ?_⟩
      · rw [hpr.1] at c
        have := (nI_leI (a := (ex δ b 0 (i * b)).length) (b := i) (by omega) (by omega)).mp c
        exact hQ M' (-1) hfr (Or.inr ⟨rfl, i, hV, by omega, hP⟩)
      · rw [hpr.1] at c
        have hil : i < (ex δ b 0 (i * b)).length := by
          rcases Nat.lt_or_ge i (ex δ b 0 (i * b)).length with q | q
          · exact q
          · exact absurd (nI_le q (by omega)) c
        obtain ⟨t1, t2⟩ := hpr.2.2.1 i hil
        obtain ⟨kn1, kn2⟩ := hKn _ hV _ (getD_mem hil)
        have hW : (wl δ b 0 (i * b)).getD i 0 ≤ 4611686018427387905 := wl_le hb1 hb3 _ _ (getD_mem (by omega))
        have hx59 := hwo i (by omega)
        have vin : vp_in (nI i) 8400 := vp_in_nI (show i < 8400 by omega) (by omega)
        have hcli : (nI i).toNatClampNeg = i := nI_clamp (by omega)
        have ha := hka _ kn1
        have hb' := hkb _ kn2
        have hA' := q5.2.1 _ kn1
        have hB' := q6.2.1 _ kn2
        have ei0 : nI i = 0 ↔ i = 0 := nI_eq (b := 0) (by omega) (by omega)
        have eAB : nI (m_k ma ((ex δ b 0 (i * b)).getD i 0 / 60)) = nI (m_k mb ((ex δ b 0 (i * b)).getD i 0 % 60)) ↔ m_k ma ((ex δ b 0 (i * b)).getD i 0 / 60) = m_k mb ((ex δ b 0 (i * b)).getD i 0 % 60) := nI_eq (by omega) (by omega)
        refine ⟨m + 4, q1.r4, m + 28, q1.r28, by rw [q1.h28], by rw [q1.h28]; exact vin, by rw [q1.h4], ?_⟩
        rw [hcli, t1, e60_, nI_clamp (n := 60 * ra + (ex δ b 0 (i * b)).getD i 0 / 60) (by omega), hA']
        refine ⟨by rw [q1.h4]; exact vp_in_nI (show 60 * ra + (ex δ b 0 (i * b)).getD i 0 / 60 < 600 by omega) (by omega), m + 29, q1.r29, by rw [q1.h29], by rw [q1.h29]; exact vin, ?_⟩
        rw [t2, e60_, nI_clamp (n := 60 * rb + (ex δ b 0 (i * b)).getD i 0 % 60) (by omega), hB', eAB, ei0]
        have cont : m_k ma ((ex δ b 0 (i * b)).getD i 0 / 60) = m_k mb ((ex δ b 0 (i * b)).getD i 0 % 60) → ∀ k j, j + k = b → ∀ M', FrM M M' m [25] [27, 28, 29, 59] → PrI M' m (ex δ b 0 (i * b + j)) → WoI M' m (wl δ b 0 (i * b + j)) → exV δ b 0 (i * b + j) → i < (ex δ b 0 (i * b + j)).length → ∀ z, c1 z = true → LX12_differ_113 G (d + 4) 0 0 m (nI ra) (nI rb) (nI i) (nI j) z M' Q := fun hPi => inner i (by omega) (fun M4 z z1 b1 b2 b3 b4 b5 hz hz1 => ih (i + 1) (by omega) M4 b1 (by rw [Nat.succ_mul]; exact b2) (by rw [Nat.succ_mul]; exact b3) (by rw [Nat.succ_mul]; exact b4) (by rw [Nat.succ_mul]; exact b5) (fun t ht => by
          rw [Nat.succ_mul, ex_getD (i * b) b (by omega)]
          by_cases e : t = i
          · rw [e]; exact hPi
          · exact hP t (by omega)) z z1 hz hz1)
        refine ⟨by rw [q1.h4]; exact vp_in_nI (show 60 * rb + (ex δ b 0 (i * b)).getD i 0 % 60 < 600 by omega) (by omega), fun cm => ⟨fun ci => cont cm b 0 (by omega) M' hfr hpr hwo hV hil z1 hz1, fun ci => ?_⟩, fun cm => ⟨m + 59, q1.r59, by rw [q1.h59], by rw [q1.h59]; exact vin, ?_⟩⟩
        · subst ci
          rw [Nat.zero_mul] at hpr hwo hV hil
          have x1 : ex δ b 0 (0 * b + 1) = [0] := by
            rw [Nat.zero_mul]
            show ins [0] (δ (List.getD [0] (0 / b) 0) (0 % b)) = [0]
            rw [Nat.zero_div, Nat.zero_mod]
            show ins [0] (δ 0 0) = [0]
            rw [hd0]
            rfl
          have x2 : wl δ b 0 (0 * b + 1) = [0] := by
            have e0 : wl δ b 0 (0 * b + 1) = if (ex δ b 0 (0 * b + 1)).length ≤ 1 then [0] else [0] ++ [lgr b (List.getD [0] (0 / b) 0) (0 % b)] := by rw [Nat.zero_mul]; rfl
            rw [e0, x1]
            rfl
          exact cont cm (b - 1) 1 (by omega) M' hfr (by rw [x1]; exact hpr) (by rw [x2]; exact hwo) (fun p hp => by
            have : p = 0 := by omega
            subst this
            rw [Nat.zero_div]; show 0 < 1; omega) (by rw [x1]; show 0 < 1; omega) z1 hz1
        · rw [lg_cmp_le, hx59, show (4611686018427387904 : Int64) = lN 4611686018427387904 from rfl, pk_lLE (by omega) (by omega)]
          refine ⟨fun cl => ?_, fun cl => ?_⟩
          · have := hQ M' (dfA ((wl δ b 0 (i * b)).getD i 0)) hfr (Or.inl ⟨i, hV, hil, hP, cm, rfl⟩)
            unfold dfA at this
            rw [if_pos cl] at this
            exact this
          · have := hQ M' (dfA ((wl δ b 0 (i * b)).getD i 0)) hfr (Or.inl ⟨i, hV, hil, hP, cm, rfl⟩)
            unfold dfA at this
            rw [if_neg cl] at this
            exact this
  exact outer 3600 0 (by omega) M FrM.rf (by rw [Nat.zero_mul]; exact hpr) (by rw [Nat.zero_mul]; exact hwo) (by rw [Nat.zero_mul]; exact fun p hp => absurd hp (Nat.not_lt_zero p)) (Nat.zero_le _) (fun t ht => absurd ht (Nat.not_lt_zero t)) none none rfl rfl
end RDifferC
