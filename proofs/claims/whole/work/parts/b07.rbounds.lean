/-! ===== the reference: all and is ===== -/
section RBoundsC
variable {G : GG} {M : Mem} {m b : Nat} {Q : Option Value → Mem → Prop}
/-- the mark of a set ahead of the turning -/
def bdP (fm T S : Nat) : Nat := if fm = 7 then bdM fm T S else 1 - bdM fm T S
/-- the mark of one set -/
theorem ur_bmark (d : Nat) (hs : ReS M m) {p a n fm N i S T : Nat} {mc : Mc} (hp : p < 130) (ha : a < 130) (hfm : fm = 6 ∨ fm = 7) (o30 : x_i M (m + 30) p = nI fm) (o48 : x_i M (m + 48) a = nI N) (o50 : ∀ t, t < N → x_i M (m + 50) (40 * a + t) = nI (m_k mc t)) (hk : ∀ t, t < N → m_k mc t ≤ 1) (hN : N ≤ 40) (hTtb : ∀ j, T.testBit j = true ↔ j < N ∧ m_k mc j = 1) (hS62 : S < 2 ^ 62) (hSN : S < 2 ^ N) (hi : i < 302) (o51 : x_l M (m + 51) i = lN S) {l4 l6 : Int64} {x8 : Int32}
    (hQ : ∀ M' z, FrM M M' m [] [21] → x_i M' (m + 21) i = nI (bdP fm T S) → (∀ t, t ≠ i → x_i M' (m + 21) t = x_i M (m + 21) t) → c1 z = true → LX12_bounds_229 G d 0 0 m (nI p) (nI a) (nI n) l4 l6 x8 (nI i) 0 z M' Q) :
    ∀ r t v, t + r = N → v ≤ 1 → (v = 1 ↔ ∃ j, j < t ∧ bt S j = 1 ∧ (m_k mc j = 1 ↔ fm = 7)) → ∀ M', FrM M M' m [] [21] → (∀ t, t ≠ i → x_i M' (m + 21) t = x_i M (m + 21) t) → x_i M' (m + 21) i = nI v → ∀ z, c1 z = true → LX12_bounds_131 G d 0 0 m (nI p) (nI a) (nI n) l4 l6 x8 (nI i) (nI t) z M' Q := by
  have e40 : ∀ i : Nat, (40 : Int32) * nI a + nI i = nI (40 * a + i) := fun i => by rw [show (40 : Int32) = nI 40 from rfl, pk_mul, nI_add]
  have hclamp : ∀ x, x < 2 ^ 31 → (nI x).toNatClampNeg = x := fun x hx => nI_clamp hx
  have e7 : nI fm = 7 ↔ fm = 7 := nI_eq (b := 7) (by omega) (by omega)
  have ek : ∀ x : Nat, x ≤ 1 → (nI x = 0 ↔ x = 0) ∧ (nI x = 1 ↔ x = 1) := fun x hx => ⟨nI_eq (b := 0) (by omega) (by omega), nI_eq (b := 1) (by omega) (by omega)⟩
  intro r
  induction r with
  | zero =>
    intro t v ht hv hv1 M' hfr hot h21 z hz
    have et : t = N := by omega
    have q1 := hfr.S hs
    have o48' : x_i M' (m + 48) a = nI N := by rw [hfr.i (by decide) (by decide)]; exact o48
    refine vX12_bounds_131 _ _ _ _ _ _ _ _ _ _ hz ⟨q1.1, m + 48, q1.r48, by rw [q1.h48], by rw [q1.h48]; exact vp_in_nI ha (by omega), fun _ => ?_, fun c => absurd (by rw [hclamp a (by omega), o48', et]; exact nI_le (Nat.le_refl N) (by omega)) c⟩
    refine hQ M' z hfr ?_ hot hz
    rw [h21]
    congr 1
    show v = bdP fm T S
    unfold bdP bdM
    have hall : ∀ j, S.testBit j = true → j < N := fun j hj => tb_lt hSN hj
    rcases hfm with e6 | e7
    · rw [if_neg (by omega), if_neg (by omega)]
      by_cases hA : S &&& T = S
      · rw [if_pos hA]
        have := and_S.mp hA
        rcases Nat.lt_or_ge v 1 with q | q
        · omega
        · obtain ⟨j, j1, j2, j3⟩ := hv1.mp (by omega)
          have := (hTtb j).mp (this j (tb_btI.mpr j2))
          exact absurd (j3.mp this.2) (by omega)
      · rw [if_neg hA]
        have : ∃ j, S.testBit j = true ∧ ¬ T.testBit j = true := Classical.byContradiction (fun hno => hA (and_S.mpr (fun j hj => Classical.byContradiction (fun hT' => hno ⟨j, hj, hT'⟩))))
        obtain ⟨j, j1, j2⟩ := this
        have : v = 1 := hv1.mpr ⟨j, by rw [et]; exact hall j j1, tb_btI.mp j1, ⟨fun e => absurd ((hTtb j).mpr ⟨hall j j1, e⟩) j2, fun e => by omega⟩⟩
        omega
    · rw [if_pos e7, if_pos e7]
      by_cases hA : S &&& T = 0
      · rw [if_pos hA]
        rcases Nat.lt_or_ge v 1 with q | q
        · omega
        · obtain ⟨j, j1, j2, j3⟩ := hv1.mp (by omega)
          exact absurd ⟨j, tb_btI.mpr j2, (hTtb j).mpr ⟨by omega, j3.mpr e7⟩⟩ (and_0.mp hA)
      · rw [if_neg hA]
        have : ∃ j, S.testBit j = true ∧ T.testBit j = true := Classical.byContradiction (fun hno => hA (and_0.mpr hno))
        obtain ⟨j, j1, j2⟩ := this
        exact hv1.mpr ⟨j, by rw [et]; exact hall j j1, tb_btI.mp j1, ⟨fun _ => e7, fun _ => ((hTtb j).mp j2).2⟩⟩
  | succ r2 ih2 =>
    intro t v ht hv hv1 M' hfr hot h21 z hz
    have q1 := hfr.S hs
    have o48' : x_i M' (m + 48) a = nI N := by rw [hfr.i (by decide) (by decide)]; exact o48
    have o30' : x_i M' (m + 30) p = nI fm := by rw [hfr.i (by decide) (by decide)]; exact o30
    have o50' : x_i M' (m + 50) (40 * a + t) = nI (m_k mc t) := by rw [hfr.i (by decide) (by decide)]; exact o50 t (by omega)
    have o51' : x_l M' (m + 51) i = lN S := by rw [hfr.l (by decide) (by decide)]; exact o51
    have hkt := hk t (by omega)
    have hbtS := bt_le (x := S) (n := t)
    have vin : vp_in (nI i) (x_h M' (m + 21)).2 := by rw [q1.h21]; exact vp_in_nI (show i < 8400 by omega) (by omega)
    have gon : ∀ (u0 w : Int32) (v' : Nat), w = nI v' → v' ≤ 1 → (v' = 1 ↔ ∃ j, j < t + 1 ∧ bt S j = 1 ∧ (m_k mc j = 1 ↔ fm = 7)) → LX12_bounds_131 G d 0 0 m (nI p) (nI a) (nI n) l4 l6 x8 (nI i) (nI (t + 1)) (some (.int u0)) (x_si M' (m + 21) i w) Q := by
      intro u0 w v' hw hv' hv1'
      have g3 : FrM M' (x_si M' (m + 21) i w) m [] [21] := FrM.rf.si (by decide) (by decide)
      exact ih2 (t + 1) v' (by omega) hv' hv1' _ (hfr.tr g3 (by decide) (by decide)) (fun t' ht' => by rw [xi_nk ht']; exact hot t' ht') (by rw [xi_eq, hw]) _ rfl
    have keep : (v = 1 ↔ ∃ j, j < t + 1 ∧ bt S j = 1 ∧ (m_k mc j = 1 ↔ fm = 7)) ∨ (bt S t = 1 ∧ (m_k mc t = 1 ↔ fm = 7)) := by
      by_cases c : bt S t = 1 ∧ (m_k mc t = 1 ↔ fm = 7)
      · exact Or.inr c
      · refine Or.inl ⟨fun e => ?_, fun ⟨j, h1, h2, h3⟩ => ?_⟩
        · obtain ⟨j, h1, h2⟩ := hv1.mp e
          exact ⟨j, by omega, h2⟩
        · by_cases ej : j = t
          · rw [ej] at h2 h3; exact absurd ⟨h2, h3⟩ c
          · exact hv1.mpr ⟨j, by omega, h2, h3⟩
    have nx : ∀ (u0 : Int32), (u0 = 0 ∨ u0 = 1) → (u0 = 1 ↔ (m_k mc t = 1 ↔ fm = 7)) → LX12_bounds_178 G d 0 0 m (nI p) (nI a) (nI n) l4 l6 x8 (nI i) (nI t) z u0 M' Q := by
      intro u0 hu hu1
      refine vX12_bounds_178 _ _ _ _ _ _ _ _ _ _ _ hz ⟨q1.1, m + 21, q1.r21, m + 51, q1.r51, by rw [q1.h51], by rw [q1.h51]; exact vp_in_nI hi (by omega), ?_⟩
      rw [hclamp i (by omega), o51', lsb hS62 (by omega), lg_cmp_eq, show (1 : Int64) = lN 1 from rfl, pk_lEQ (by omega) (by omega), h21, nI_1]
      refine ⟨fun c => ⟨by rw [q1.h21], vin, ?_⟩, fun c => ⟨fun c2 => ⟨by rw [q1.h21], vin, ?_⟩, fun c2 => ⟨by rw [q1.h21], vin, ?_⟩⟩⟩
      · rintro M3 rfl
        exact gon _ _ v rfl hv (keep.resolve_right (fun q => c q.1))
      · rintro M3 rfl
        exact gon _ _ v rfl hv (keep.resolve_right (fun q => absurd (hu1.mpr q.2) (by rw [c2]; decide)))
      · rintro M3 rfl
        refine gon _ _ 1 rfl (Nat.le_refl 1) ⟨fun _ => ⟨t, Nat.lt_succ_self t, c, hu1.mp ?_⟩, fun _ => rfl⟩
        rcases hu with e | e
        · exact absurd e c2
        · exact e
    have ek0 := (ek (m_k mc t) hkt).1
    have ek1 := (ek (m_k mc t) hkt).2
    refine vX12_bounds_131 _ _ _ _ _ _ _ _ _ _ hz ⟨q1.1, m + 48, q1.r48, by rw [q1.h48], by rw [q1.h48]; exact vp_in_nI ha (by omega), fun c => absurd (by rw [hclamp a (by omega), o48'] at c; exact c) (nI_ge (a := t) (b := N) (by omega) (by omega)), fun _ => ⟨m + 50, q1.r50, by rw [q1.h50], by rw [e40, q1.h50]; exact vp_in_nI (show 40 * a + t < 5200 by omega) (by omega), m + 30, q1.r30, by rw [q1.h30], by rw [q1.h30]; exact vp_in_nI hp (by omega), ?_⟩⟩
    rw [hclamp p (by omega), o30', e40, hclamp (40 * a + t) (by omega), o50', e7, ek0, ek1]
    refine ⟨fun c7 => ⟨fun c => nx 0 (Or.inl rfl) ⟨fun e => absurd e (by decide), fun e => ?_⟩, fun c => nx 1 (Or.inr rfl) ⟨fun _ => ?_, fun _ => rfl⟩⟩, fun c7 => ⟨fun c => nx 0 (Or.inl rfl) ⟨fun e => absurd e (by decide), fun e => ?_⟩, fun c => nx 1 (Or.inr rfl) ⟨fun _ => ?_, fun _ => rfl⟩⟩⟩
    · exact absurd (e.mp (by omega)) c7
    · exact ⟨fun q => by omega, fun q => absurd q c7⟩
    · exact absurd (e.mpr c7) c
    · exact ⟨fun _ => c7, fun _ => c⟩
set_option maxHeartbeats 4000000 in
theorem ur_bounds (d : Nat) (hs : ReS M m) (hb : x_i M m 0 = nI b) (hb1 : 1 < b) (hb3 : b ≤ 3) {p a n fm sC sP : Nat} {mc : Mc} (hp : p < 130) (ha : a < 130) (hn : n < 8) (hfm : fm = 6 ∨ fm = 7)
    (o31 : x_i M (m + 31) p = nI a) (o33 : x_i M (m + 33) p = nI n) (o30 : x_i M (m + 30) p = nI fm) (o35a : x_i M (m + 35) a = nI sC) (o35 : x_i M (m + 35) p = nI sP) (hsC : sC < 256) (hsP : sP = clr sC n) (h27 : fn b sC ≤ 27)
    (hP : ReP M m a (fn b sC) mc) (hn0 : 0 < m_n mc) (hnn : m_n mc ≤ 40) (hc : ∀ i, i < m_n mc → ∀ g, g < fn b sC → m_s mc i g < m_n mc) (hk : ∀ i, i < m_n mc → m_k mc i ≤ 1)
    (hQ : ∀ M' res, FrM M M' m [25, 26, 29] [20, 21, 22, 23, 24, 25, 26, 48, 49, 50, 51] → RePk M M' m p →
      (sP = sC → LRes (fn b sP) 40 (m_b mc) res) →
      (sP ≠ sC → ∃ k, cl0 (m_s mc) (m_n mc) (fn b sC) (vw b sC sP) (k + 1) = cl0 (m_s mc) (m_n mc) (fn b sC) (vw b sC sP) k ∧ ((exOver (sp (m_s mc) (m_n mc) (fn b sC) (vw b sC sP)) (fn b sP) (cl0 (m_s mc) (m_n mc) (fn b sC) (vw b sC sP) k) ∧ res = none) ∨ (exDone (sp (m_s mc) (m_n mc) (fn b sC) (vw b sC sP)) (fn b sP) (cl0 (m_s mc) (m_n mc) (fn b sC) (vw b sC sP) k) ∧ LRes (fn b sP) 40 (bdB fm mc (sp (m_s mc) (m_n mc) (fn b sC) (vw b sC sP)) (cl0 (m_s mc) (m_n mc) (fn b sC) (vw b sC sP) k)) res))) →
      (∀ mc, res = some mc → ReP M' m p (fn b sP) mc) → Q (some (.int (nI (if res.isSome = true then 1 else 0)))) M') :
    Call G (d + 7) 0 0 mX12_bounds [.ref m, .int (nI p)] M Q := by
  have hsP2 : sP < 256 := by rw [hsP]; exact (clr_I sC hsC n hn).2
  have hbt := bt_le (x := sC) (n := n)
  have hne : sP = sC ↔ bt sC n = 0 := by
    constructor
    · intro e
      have := clr_bt sC hsC n hn n hn
      rw [if_pos rfl, ← hsP, e] at this
      exact this
    · intro e
      rw [hsP]; unfold clr; rw [if_neg (by omega)]
  have hsub : ∀ k, k < 8 → bt sP k = 1 → bt sC k = 1 := fun k hk2 h1 => by
    rw [hsP, clr_bt sC hsC n hn k hk2] at h1
    split at h1
    · omega
    · exact h1
  have hf0 : 0 < fn b sP := fn_pos (by omega)
  have hfF : fn b sP ≤ fn b sC := fn_mono (by omega) hsub
  have hclamp : ∀ x, x < 2 ^ 31 → (nI x).toNatClampNeg = x := fun x hx => nI_clamp hx
  refine eX12_bounds m _ ⟨hs.1, m + 31, hs.r31, by rw [hs.h31], by rw [hs.h31]; exact vp_in_nI hp (by omega), m + 33, hs.r33, by rw [hs.h33], by rw [hs.h33]; exact vp_in_nI hp (by omega), m + 35, hs.r35, by rw [hs.h35], by rw [nI_clamp (by omega), o31, hs.h35]; exact vp_in_nI ha (by omega), ?_⟩
  rw [nI_clamp (by omega), o31, nI_clamp (by omega), o35a, o33, sb (by omega) (by omega), sb0]
  refine ⟨fun cb => ?_, fun cb => ?_⟩
  · -- sets of states
    have hneq : sP ≠ sC := fun e => cb (hne.mp e)
    have hvlt : ∀ k, vw b sC sP k < fn b sP := fun k => vw_lt (by omega)
    have hvP : clr sC n = sP := hsP.symm
    generalize hF : fn b sC = F at *
    generalize hvf : vw b sC sP = vf at *
    generalize hfg : fn b sP = f at *
    generalize hst : m_s mc = st at *
    generalize hnm : m_n mc = N at *
    have h62 : ∀ k, cl0 st N F vf k < 2 ^ 62 := fun k => Nat.lt_of_lt_of_le (cl0_lt hn0 hc k) (Nat.pow_le_pow_right (by omega) (by omega))
    have hsp62 : ∀ S g, sp st N F vf S g < 2 ^ 62 := fun S g => Nat.lt_of_lt_of_le (sp_lt hc) (Nat.pow_le_pow_right (by omega) (by omega))
    have steps : ∀ (M' : Mem) (S g : Nat) (Q' : Option Value → Mem → Prop), ReS M' m → x_i M' m 0 = nI b → x_i M' (m + 35) a = nI sC → ReP M' m a F mc → S < 2 ^ 62 → g < 2 ^ 30 → Q' (some (.long (lN (sp st N F vf S g)))) M' → Call G (d + 6) 0 0 mX12_steps [.ref m, .int (nI a), .long (lN S), .int (nI g), .int (nI n)] M' Q' := by
      intro M' S g Q' q1 q2 q3 q4 hS hg hq
      refine ur_steps (d + 1) q1 q2 hb1 hb3 ha hn q3 hsC (by rw [hF]; exact h27) (by rw [hF]; exact q4) (by rw [hnm]; exact hnn) (by rw [hnm, hst, hF]; exact hc) hS hg ?_
      rw [hst, hnm, hF, hvP, hvf]
      exact hq
    -- behind the first set
    have behind : ∀ kk, cl0 st N F vf (kk + 1) = cl0 st N F vf kk → ∀ (l6 : Int64), LX12_bounds_45 G (d + 6) 0 0 m (nI p) (nI a) (nI n) (lN (cl0 st N F vf kk)) l6 M Q ∨ True → (lg_cmp (lN (cl0 st N F vf kk)) l6) = 0 → (x_h M m).1 = 28 ∧ (∀ M3, M3 = x_si M m 25 0 → Call G (d + 6) 0 0 mX12_setOf [.ref m, .long (lN (cl0 st N F vf kk))] M3 (fun r4 M5 => ∃ v6 : Int32, r4 = some (.int v6) ∧ (x_h M5 m).1 = 28 ∧ (∃ b8, x_r M5 m 53 = some b8 ∧ (x_h M5 b8).1 = 1 ∧ vp_in (nI p) (x_h M5 b8).2 ∧ Call G (d + 6) 0 0 mX12_across [.ref m, .int (x_i M5 b8 (nI p).toNatClampNeg)] M5 (fun r11 M12 => ∃ v13 : Int32, r11 = some (.int v13) ∧ LX12_bounds_101 G (d + 6) 0 0 m (nI p) (nI a) (nI n) (lN (cl0 st N F vf kk)) l6 v13 0 none none M12 Q)))) := by
      intro kk hstop l6 _ _
      generalize hk0 : cl0 st N F vf kk = k0
      have hk062 : k0 < 2 ^ 62 := by rw [← hk0]; exact h62 kk
      have hk0N : k0 < 2 ^ N := by rw [← hk0]; exact cl0_lt hn0 hc kk
      generalize hδ : sp st N F vf = δ
      have hδ62 : ∀ S g, δ S g < 2 ^ 62 := fun S g => by rw [← hδ]; exact hsp62 S g
      have hδN : ∀ S g, δ S g < 2 ^ N := fun S g => by rw [← hδ]; exact sp_lt hc
      have hQov : ∀ M', FrM M M' m [25, 26, 29] [20, 21, 22, 23, 24, 25, 26, 48, 49, 50, 51] → RePk M M' m p → exOver δ f k0 → Q (some (.int 0)) M' := fun M' h1 h2 h3 => hQ M' none h1 h2 (fun e => absurd e hneq) (fun _ => ⟨kk, hstop, Or.inl ⟨by rw [hδ, hk0]; exact h3, rfl⟩⟩) (fun mc e => by cases e)
      have hKN : ∀ c, ∀ x ∈ ex δ f k0 c, x < 2 ^ N := by
        intro c
        induction c with
        | zero => intro x hx; rw [List.mem_singleton.mp hx]; exact hk0N
        | succ c ih =>
          intro x hx
          rcases ins_of.mp hx with q | q
          · exact ih x q
          · rw [q]; exact hδN _ _
      generalize hT : tkm (m_k mc) N = T
      have hTtb : ∀ j, T.testBit j = true ↔ j < N ∧ m_k mc j = 1 := fun j => by rw [← hT]; exact tkm_tb N
      have fr0 : ∀ {M' : Mem}, FrM M M' m [25, 26] [20, 21, 51] → ReS M' m ∧ x_i M' m 0 = nI b ∧ x_i M' (m + 30) p = nI fm ∧ x_i M' (m + 35) a = nI sC ∧ x_i M' (m + 35) p = nI sP ∧ ReP M' m a F mc ∧ RePk M M' m p := fun q => ⟨q.S hs, by rw [q.fm (by decide)]; exact hb, by rw [q.i (by decide) (by decide)]; exact o30, by rw [q.i (by decide) (by decide)]; exact o35a, by rw [q.i (by decide) (by decide)]; exact o35, hP.fr q (by decide), fun p' f' mc' _ _ _ hR => hR.fr q (by decide)⟩
      have e40 : ∀ i : Nat, (40 : Int32) * nI a + nI i = nI (40 * a + i) := fun i => by rw [show (40 : Int32) = nI 40 from rfl, pk_mul, nI_add]
      -- the marks are turned, the machine is drawn
      have fin : ∀ i l4 l6 (M' : Mem), FrM M M' m [25, 26] [20, 21, 51] → SoI M' m (ex δ f k0 (i * f)) → i ≤ 300 → RxI M' m f δ k0 (bdP fm T) (i * f) i → (ex δ f k0 (i * f)).length = i → ∀ z z1, c1 z = true → c1 z1 = true → LX12_bounds_305 G (d + 6) 0 0 m (nI p) (nI a) (nI n) l4 l6 (nI f) 0 z z1 M' Q := by
        intro i l4 l6 M' hfr hso hi hrx el z z1 hz hz1
        have last : ∀ M', FrM M M' m [25, 26] [20, 21, 51] → x_i M' m 25 = nI i → RxI M' m f δ k0 (bdM fm T) (i * f) i → Call G (d + 6) 0 0 mX12_becomes [.ref m, .int (nI p)] (x_si M' m 26 (nI f)) (fun r4 M5 => ∃ v6 : Int32, r4 = some (.int v6) ∧ (v6 = 0 ∨ v6 = 1) ∧ Q (some (.int v6)) M5) := by
          intro M' hfr h25 hrx
          have g1 : FrM M' (x_si M' m 26 (nI f)) m [26] [] := FrM.rf.sm (by decide)
          have hfr1 : FrM M (x_si M' m 26 (nI f)) m [25, 26] [20, 21, 51] := hfr.tr g1 (by decide) (by decide)
          obtain ⟨w1, w2⟩ := (hrx.fr g1 (by decide)).raw hf0 (by omega) el (by rw [xi_nk (by decide)]; exact h25) (by rw [xi_eq]) (by omega) (fun x hx => by have := bdM_le (fm := fm) (T := T) (S := x); omega)
          refine ur_becomes (d + 1) (fr0 hfr1).1 w1 hp (fun t _ => bdM_le) (fun M1 res r1 r2 r3 r4 => ⟨_, rfl, ?_, hQ M1 res ((hfr1.wk (by decide) (by decide)).tr r1 (by decide) (by decide)) (fun p' f' mc' x1 x2 x3 x4 => r2 p' f' mc' x1 x2 x3 (x4.fr hfr1 (by decide))) (fun e => absurd e hneq) (fun _ => ⟨kk, hstop, Or.inr ⟨?_, ?_⟩⟩) r4⟩)
          · cases res with
            | none => exact Or.inl rfl
            | some mc => exact Or.inr rfl
          · rw [hδ, hk0]; exact ⟨i * f, by rw [el], hrx.2.2.1, by omega⟩
          · rw [hδ, hk0]
            refine r3.congr (fun u hu => (w2 u hu).trans ?_)
            unfold bdB
            rw [hnm, hT]
        have e6 : nI fm = 6 ↔ fm = 6 := nI_eq (b := 6) (by omega) (by omega)
        -- marks below j are turned
        have loop : ∀ r j, j + r = i → fm = 6 → ∀ M', FrM M M' m [25, 26] [20, 21, 51] → x_i M' m 25 = nI i → (∀ a d, d < f → a * f + d < i * f → x_i M' (m + 20) (27 * a + d) = nI (exl δ f k0 (a * f + d))) → (∀ t, t < j → x_i M' (m + 21) t = nI (bdM fm T ((ex δ f k0 (i * f)).getD t 0))) → (∀ t, j ≤ t → t < i → x_i M' (m + 21) t = nI (bdP fm T ((ex δ f k0 (i * f)).getD t 0))) → LX12_bounds_305 G (d + 6) 0 0 m (nI p) (nI a) (nI n) l4 l6 (nI f) (nI j) z z1 M' Q := by
          intro r
          induction r with
          | zero =>
            intro j hj e M' hfr h25 h20 hlo hhi
            have ej : j = i := by omega
            rw [ej] at hlo ⊢
            refine vX12_bounds_305 _ _ _ _ _ _ _ _ _ _ hz hz1 ⟨(fr0 hfr).1.1, fun _ => ?_, fun c => absurd (by rw [h25]; exact nI_le (Nat.le_refl i) (by omega)) c⟩
            rintro M3 rfl
            exact last M' hfr h25 ⟨h20, hlo, hrx.2.2.1, hrx.2.2.2⟩
          | succ r ih =>
            intro j hj e M' hfr h25 h20 hlo hhi
            obtain ⟨q1, q2, q3, q4, q5, q6, q7⟩ := fr0 hfr
            have vin : vp_in (nI j) (x_h M' (m + 21)).2 := by rw [q1.h21]; exact vp_in_nI (show j < 8400 by omega) (by omega)
            refine vX12_bounds_305 _ _ _ _ _ _ _ _ _ _ hz hz1 ⟨q1.1, fun c => absurd (by rw [h25] at c; exact c) (nI_ge (a := j) (b := i) (by omega) (by omega)), fun _ => ⟨m + 30, q1.r30, by rw [q1.h30], by rw [q1.h30]; exact vp_in_nI hp (by omega), ?_⟩⟩
            rw [hclamp p (by omega), q3, e6]
            refine ⟨fun c => absurd e c, fun _ => ⟨m + 21, q1.r21, by rw [q1.h21], vin, ?_⟩⟩
            rintro M3 rfl
            have hbd := bdM_le (fm := fm) (T := T) (S := (ex δ f k0 (i * f)).getD j 0)
            rw [hclamp j (by omega), hhi j (Nat.le_refl j) (by omega), nI_1]
            unfold bdP
            rw [if_neg (by omega), nI_1sub (by omega)]
            refine ih (j + 1) (by omega) e _ (hfr.si (by decide) (by decide)) (by rw [xm_mo (by decide)]; exact h25) (fun a d hd h => by rw [xm_oo (by decide)]; exact h20 a d hd h) (fun t ht => ?_) (fun t ht1 ht2 => by rw [xi_nk (by omega)]; exact hhi t (by omega) ht2)
            by_cases et : t = j
            · rw [et, xi_eq]; congr 1; omega
            · rw [xi_nk et]; exact hlo t (by omega)
        obtain ⟨h20, h21, h22, h23⟩ := id hrx
        have h25 : x_i M' m 25 = nI i := by rw [hso.1, el]
        rcases hfm with e | e
        · exact loop i 0 (by omega) e M' hfr h25 h20 (fun t ht => absurd ht (Nat.not_lt_zero t)) (fun t _ ht => h21 t ht)
        · obtain ⟨q1, q2, q3, q4, q5, q6, q7⟩ := fr0 hfr
          have hrx' : RxI M' m f δ k0 (bdM fm T) (i * f) i := ⟨h20, fun t ht => by rw [h21 t ht]; unfold bdP; rw [if_pos e], h22, h23⟩
          refine vX12_bounds_305 _ _ _ _ _ _ _ _ _ _ hz hz1 ⟨q1.1, fun _ => ?_, fun _ => ⟨m + 30, q1.r30, by rw [q1.h30], by rw [q1.h30]; exact vp_in_nI hp (by omega), ?_⟩⟩
          · rintro M3 rfl
            exact last M' hfr h25 hrx'
          · rw [hclamp p (by omega), q3, e6]
            refine ⟨fun _ => ?_, fun c => absurd c (by omega)⟩
            rintro M3 rfl
            exact last M' hfr h25 hrx'
      -- too many sets
      have over : ∀ i l4 l6 (M' : Mem) c, FrM M M' m [25, 26] [20, 21, 51] → x_i M' m 25 = nI (ex δ f k0 c).length → exV δ f k0 c → 300 < (ex δ f k0 c).length → (ex δ f k0 c).length ≤ 301 → ∀ z z1, c1 z = true → c1 z1 = true → LX12_bounds_101 G (d + 6) 0 0 m (nI p) (nI a) (nI n) l4 l6 (nI f) i z z1 M' Q := by
        intro i l4 l6 M' c hfr h25 hV hl hl2 z z1 hz hz1
        have hno : ¬ x_i M' m 25 ≤ 300 := by rw [h25]; exact nI_ge (a := 300) (b := (ex δ f k0 c).length) hl (by omega)
        have hq := hQov M' (hfr.wk (by decide) (by decide)) (fr0 hfr).2.2.2.2.2.2 ⟨c, hV, hl⟩
        exact vX12_bounds_101 _ _ _ _ _ _ _ _ _ _ hz hz1 ⟨(fr0 hfr).1.1, fun _ => ⟨fun c => absurd c hno, fun _ => hq⟩, fun _ => ⟨fun _ => ⟨fun c => absurd c hno, fun _ => hq⟩, fun cq => absurd (by rw [h25]; exact nI_lt (a := 300) (b := (ex δ f k0 c).length) hl (by omega)) cq⟩⟩
      -- the digits of a set
      have inner : ∀ i l4 l6, (∀ M' z z1, FrM M M' m [25, 26] [20, 21, 51] → SoI M' m (ex δ f k0 (i * f + f)) → RxI M' m f δ k0 (bdP fm T) (i * f + f) (i + 1) → c1 z = true → c1 z1 = true → LX12_bounds_101 G (d + 6) 0 0 m (nI p) (nI a) (nI n) l4 l6 (nI f) (nI (i + 1)) z z1 M' Q) →
          ∀ r j, j + r = f → ∀ M', FrM M M' m [25, 26] [20, 21, 51] → SoI M' m (ex δ f k0 (i * f + j)) → RxI M' m f δ k0 (bdP fm T) (i * f + j) (i + 1) → ∀ z, c1 z = true → LX12_bounds_229 G (d + 6) 0 0 m (nI p) (nI a) (nI n) l4 l6 (nI f) (nI i) (nI j) z M' Q := by
        intro i l4 l6 hout r
        induction r with
        | zero =>
          intro j hj M' hfr hso hrx z hz
          have e : j = f := by omega
          rw [e] at hso hrx ⊢
          refine vX12_bounds_229 _ _ _ _ _ _ _ _ _ _ hz ⟨fun _ => ?_, fun c => absurd (nI_le (Nat.le_refl f) (by omega)) c⟩
          rw [nI_1]
          exact hout M' _ _ hfr hso hrx rfl hz
        | succ r ih =>
          intro j hj M' hfr hso hrx z hz
          have hjf : j < f := by omega
          have hil : i < (ex δ f k0 (i * f + j)).length := hrx.2.2.2
          obtain ⟨q1, q2, q3, q4, q5, q6, q7⟩ := fr0 hfr
          refine vX12_bounds_229 _ _ _ _ _ _ _ _ _ _ hz ⟨fun c => absurd c (nI_ge (by omega) (by omega)), fun _ => ⟨q1.1, fun c => ?_, fun c => ?_⟩⟩
          · rw [hso.1] at c
            have := (nI_ltI (a := 300) (b := (ex δ f k0 (i * f + j)).length) (by omega) (by have := hso.2.1; omega)).mp c
            rw [nI_1]
            exact over _ l4 l6 M' _ hfr hso.1 hrx.2.2.1 this hso.2.1 _ _ rfl hz
          · rw [hso.1] at c
            have hl300 : (ex δ f k0 (i * f + j)).length ≤ 300 := by
              rcases Nat.lt_or_ge 300 (ex δ f k0 (i * f + j)).length with q | q
              · exact absurd (nI_lt (a := 300) (b := (ex δ f k0 (i * f + j)).length) q (by have := hso.2.1; omega)) c
              · exact q
            have e1 : (i * f + j) / f = i := by rw [Nat.mul_comm, Nat.mul_add_div hf0, Nat.div_eq_of_lt hjf]; rfl
            have e2 : (i * f + j) % f = j := by rw [Nat.mul_comm, Nat.mul_add_mod]; exact Nat.mod_eq_of_lt hjf
            have hS62 := hso.2.2.2.2 _ (getD_mem hil)
            generalize hS : (ex δ f k0 (i * f + j)).getD i 0 = S at hS62
            have hex : ex δ f k0 (i * f + j + 1) = ins (ex δ f k0 (i * f + j)) (δ S j) := by
              show ins _ _ = _
              rw [e1, e2, hS]
            have hexl : exl δ f k0 (i * f + j) = (ins (ex δ f k0 (i * f + j)) (δ S j)).idxOf (δ S j) := by
              unfold exl
              rw [e1, e2, hS, hex]
            refine ⟨m + 20, q1.r20, m + 51, q1.r51, by rw [q1.h51], by rw [q1.h51]; exact vp_in_nI (show i < 302 by omega) (by omega), ?_⟩
            rw [hclamp i (by omega), hso.2.2.1 i hil, hS]
            refine steps M' S j _ q1 q2 q4 q6 hS62 (by omega) ⟨_, rfl, q1.1, ?_⟩
            rw [hδ]
            refine ur_setOf (d + 5) q1 hso hl300 (hδ62 S j) (fun M1 g1 g2 => ⟨_, rfl, by rw [(g1.S q1).h20], ?_, ?_⟩)
            · rw [show (27 : Int32) = nI 27 from rfl, pk_mul, nI_add, (g1.S q1).h20]; exact vp_in_nI (show 27 * i + j < 226800 by omega) (by omega)
            · rintro M2 rfl
              rw [← hex] at g2
              rw [← hexl, show (27 : Int32) = nI 27 from rfl, pk_mul, nI_add, hclamp (27 * i + j) (by omega), nI_1]
              have g3 : FrM M1 (x_si M1 (m + 20) (27 * i + j) (nI (exl δ f k0 (i * f + j)))) m [] [20] := FrM.rf.si (by decide) (by decide)
              exact ih (j + 1) (by omega) _ ((hfr.tr g1 (by decide) (by decide)).tr g3 (by decide) (by decide)) (g2.fr g3 (by decide) (by decide)) ((hrx.fr g1 (by decide)).link hf0 (by omega) rfl hjf hil rfl) z hz
      have outer : ∀ r i l4 l6, i + r = 301 → ∀ M', FrM M M' m [25, 26] [20, 21, 51] → SoI M' m (ex δ f k0 (i * f)) → RxI M' m f δ k0 (bdP fm T) (i * f) i → ∀ z z1, c1 z = true → c1 z1 = true → LX12_bounds_101 G (d + 6) 0 0 m (nI p) (nI a) (nI n) l4 l6 (nI f) (nI i) z z1 M' Q := by
        intro r
        induction r with
        | zero =>
          intro i l4 l6 hi M' hfr hso hrx z z1 hz hz1
          have hle := hrx.2.2.2
          exact over _ l4 l6 M' _ hfr hso.1 hrx.2.2.1 (by omega) hso.2.1 z z1 hz hz1
        | succ r ih =>
          intro i l4 l6 hi M' hfr hso hrx z z1 hz hz1
          have hle := hrx.2.2.2
          have h301 := hso.2.1
          obtain ⟨q1, q2, q3, q4, q5, q6, q7⟩ := fr0 hfr
          by_cases cov : 300 < (ex δ f k0 (i * f)).length
          · exact over _ l4 l6 M' _ hfr hso.1 hrx.2.2.1 cov hso.2.1 z z1 hz hz1
          refine vX12_bounds_101 _ _ _ _ _ _ _ _ _ _ hz hz1 ⟨q1.1, fun c => ⟨fun _ => ?_, fun c2 => ?_⟩, fun c => ⟨fun c2 => ?_, fun _ => ?_⟩⟩
          · rw [hso.1] at c
            have := (nI_leI (a := (ex δ f k0 (i * f)).length) (b := i) (by omega) (by omega)).mp c
            exact fin i l4 l6 M' hfr hso (by omega) hrx (by omega) z z1 hz hz1
          · rw [hso.1] at c2
            exact absurd (nI_le (a := (ex δ f k0 (i * f)).length) (b := 300) (by omega) (by omega)) c2
          · rw [hso.1] at c2
            exact absurd ((nI_ltI (a := 300) (b := (ex δ f k0 (i * f)).length) (by omega) (by omega)).mp c2) cov
          · rw [hso.1] at c
            have hil : i < (ex δ f k0 (i * f)).length := by
              rcases Nat.lt_or_ge i (ex δ f k0 (i * f)).length with q | q
              · exact q
              · exact absurd (nI_le q (by omega)) c
            have hS62 := hso.2.2.2.2 _ (getD_mem hil)
            have hSN := hKN _ _ (getD_mem hil)
            have hSl := hso.2.2.1 i hil
            generalize hS : (ex δ f k0 (i * f)).getD i 0 = S at hS62 hSN hSl
            have vin : vp_in (nI i) (x_h M' (m + 21)).2 := by rw [q1.h21]; exact vp_in_nI (show i < 8400 by omega) (by omega)
            have vinp : vp_in (nI p) (x_h M' (m + 30)).2 := by rw [q1.h30]; exact vp_in_nI hp (by omega)
            refine ⟨m + 21, q1.r21, by rw [q1.h21], vin, ?_⟩
            rintro M2 rfl
            rw [hclamp i (by omega)]
            have g3 : FrM M' (x_si M' (m + 21) i 0) m [] [21] := FrM.rf.si (by decide) (by decide)
            have q1' := g3.S q1
            refine ur_bmark (d + 6) q1' (N := N) (T := T) (S := S) hp ha hfm (by rw [xm_oo (by decide)]; exact q3) (by rw [xm_oo (by decide), q6.1, hnm]) (fun t ht => by rw [xm_oo (by decide)]; exact q6.2.1 t (by rw [hnm]; exact ht)) hk hnn hTtb hS62 hSN (by omega) (by rw [g3.l (by decide) (by decide)]; exact hSl) (fun M3 z' b1 b2 b3 hz' => ?_) N 0 0 (Nat.zero_add N) (Nat.zero_le 1) ⟨fun e => absurd e (by decide), fun ⟨j, h1, _⟩ => absurd h1 (Nat.not_lt_zero j)⟩ _ FrM.rf (fun t _ => rfl) (by rw [xi_eq]; rfl) z1 hz1
            have g4 : FrM M' M3 m [] [21] := g3.tr b1 (by decide) (by decide)
            refine inner i l4 l6 (fun M3 z z1 b1 b2 b3 hz hz1 => ih (i + 1) l4 l6 (by omega) M3 b1 (by rw [Nat.succ_mul]; exact b2) (by rw [Nat.succ_mul]; exact b3) z z1 hz hz1) f 0 (Nat.zero_add f) M3 (hfr.tr g4 (by decide) (by decide)) (hso.fr g4 (by decide) (by decide)) ⟨fun a' d' h1 h2 => by rw [g4.i (by decide) (by decide)]; exact hrx.1 a' d' h1 h2, fun t' ht' => ?_, hrx.2.2.1, hil⟩ z' hz'
            by_cases e : t' = i
            · rw [e, b2, Nat.add_zero, hS]
            · rw [b3 t' e, xi_nk e]; exact hrx.2.1 t' (by omega)
      refine ⟨hs.1, ?_⟩
      rintro M3 rfl
      have g1 : FrM M (x_si M m 25 0) m [25, 26] [20, 21, 51] := FrM.rf.sm (by decide)
      refine ur_setOf (K := []) (d + 5) (g1.S hs) ⟨by rw [xi_eq]; rfl, by simp, fun i hi => absurd hi (Nat.not_lt_zero i), List.nodup_nil, fun x hx => absurd hx List.not_mem_nil⟩ (by simp) hk062 (fun M1 g2 so1 => ?_)
      have hfr1 : FrM M M1 m [25, 26] [20, 21, 51] := g1.tr g2 (by decide) (by decide)
      obtain ⟨q1, q2, q3, q4, q5, q6, q7⟩ := fr0 hfr1
      refine ⟨_, rfl, q1.1, m + 35, q1.r35, by rw [q1.h35], by rw [q1.h35]; exact vp_in_nI hp (by omega), ?_⟩
      rw [hclamp p (by omega), q5]
      refine u_across (d + 4) q1 q2 hsP2 ⟨_, rfl, ?_⟩
      rw [hfg]
      exact outer 301 0 _ _ (by omega) M1 hfr1 (by rw [Nat.zero_mul]; exact so1) (by rw [Nat.zero_mul]; exact RxI.start) none none rfl rfl
    have clos : ∀ r k, k + r = 41 → (∀ i, i < k → cl0 st N F vf (i + 1) ≠ cl0 st N F vf i) → LX12_bounds_45 G (d + 6) 0 0 m (nI p) (nI a) (nI n) (lN (cl0 st N F vf k)) (lN (if k = 0 then 0 else cl0 st N F vf (k - 1))) M Q := by
      intro r
      induction r with
      | zero =>
        intro k hk41 hne'
        have e : k = 40 + 1 := by omega
        have h1 := cl0_stop (vf := vf) hn0 hc 40 (hne' 40 (by omega)) (fun i hi => hne' i (by omega))
        have h2 := cb_le (S := cl0 st N F vf (40 + 1)) N
        omega
      | succ r ih =>
        intro k hk41 hne'
        refine vX12_bounds_45 _ _ _ _ _ _ ⟨fun c => ?_, fun c => ⟨hs.1, ?_⟩⟩
        · have hce := c
          rw [lg_cmp_eq, pk_lEQ (by have := h62 k; omega) (by split; omega; have := h62 (k - 1); omega)] at c
          by_cases e0 : k = 0
          · rw [if_pos e0, e0] at c
            exact absurd c (by show ¬ (1 : Nat) = 0; decide)
          · rw [if_neg e0] at c hce ⊢
            have ek : cl0 st N F vf (k - 1 + 1) = cl0 st N F vf (k - 1) := by rw [show k - 1 + 1 = k by omega]; exact c
            have := behind (k - 1) ek (lN (cl0 st N F vf (k - 1))) (Or.inr trivial) ((lg_cmp_eq _ _).mpr rfl)
            rw [c]
            exact this
        · refine steps M (cl0 st N F vf k) 0 _ hs hb o35a hP (h62 k) (by omega) ⟨_, rfl, ?_⟩
          rw [l_or (h62 k) (hsp62 _ _)]
          by_cases e0 : cl0 st N F vf (k + 1) = cl0 st N F vf k
          · have e1 : cl0 st N F vf k ||| sp st N F vf (cl0 st N F vf k) 0 = cl0 st N F vf k := e0
            rw [e1]
            exact vX12_bounds_45 _ _ _ _ _ _ ⟨fun c => behind k e0 _ (Or.inr trivial) c, fun c => absurd ((lg_cmp_eq _ _).mpr rfl) c⟩
          · have := ih (k + 1) (by omega) (fun i hi => by
              by_cases e : i = k
              · rw [e]; exact e0
              · exact hne' i (by omega))
            rw [if_neg (by omega), Nat.add_sub_cancel] at this
            exact this
    exact clos 41 0 (by omega) (fun i hi => absurd hi (Nat.not_lt_zero i))
  · -- the name isn't free there
    have he : sP = sC := hne.mpr cb
    refine ur_copy (d + 3) hs hb ha o35a hsC (by omega) h27 hP hn0 hnn hc hk (t := 0) (by omega) (fun M1 g1 g2 => ⟨rfl, (g1.S hs).1, ?_⟩)
    refine ur_becomes (d + 1) (g1.S hs) g2 hp (fun i hi => by rw [if_neg (by decide)]; exact hk i hi) (fun M2 res r1 r2 r3 r4 => ⟨_, rfl, ?_, hQ M2 res ((g1.wk (by decide) (by decide)).tr r1 (by decide) (by decide)) (fun p' f' mc' x1 x2 x3 x4 => r2 p' f' mc' x1 x2 x3 (x4.fr g1 (by decide))) (fun _ => by rw [he]; exact r3.congr (fun u _ => by rw [if_neg (by decide)]; rfl)) (fun e => absurd he e) (fun mc' e => by rw [he]; exact r4 mc' e)⟩)
    cases res with
    | none => exact Or.inl rfl
    | some mc => exact Or.inr rfl
end RBoundsC
