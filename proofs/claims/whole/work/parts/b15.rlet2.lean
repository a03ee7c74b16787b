/-! ===== the reference: an atom of rows ===== -/
section RLet2C
variable {G : GG} {M : Mem} {m b : Nat} {Q : Option Value → Mem → Prop}
theorem sumT_AB1 : ∀ a, a < 8 → sumT (tfAB a none) 8 = 1 := by decide
theorem sumT_AB2 : ∀ a, a < 8 → ∀ c, c < 8 → sumT (tfAB a (some c)) 8 = 2 := by decide
/-- the data of a side in the reference's arrays -/
def SdR (M : Mem) (m o1 o2 o3 o4 p : Nat) (S : SD) : Prop := x_i M (m + o1) p = nbI (s_r S) ∧ (∀ r, s_r S = some r → ∃ a mb, a < 8 ∧ (∀ c, mb = some c → c < 8) ∧ x_i M (m + o2) p = nI a ∧ x_i M (m + o3) p = nbI mb ∧ s_t S = tfAB a mb ∧ s_s S = nsAB a mb) ∧ x_i M (m + o4) p = nI (s_n S)
theorem SdR.fr {M' : Mem} {o1 o2 o3 o4 p : Nat} {S : SD} {F A : List Nat} (h : SdR M m o1 o2 o3 o4 p S) (g : FrM M M' m F A) (h0 : o1 ≠ 0 ∧ o2 ≠ 0 ∧ o3 ≠ 0 ∧ o4 ≠ 0) (h1 : o1 ∉ A ∧ o2 ∉ A ∧ o3 ∉ A ∧ o4 ∉ A) : SdR M' m o1 o2 o3 o4 p S := by
  unfold SdR
  rw [g.i h0.1 h1.1, g.i h0.2.1 h1.2.1, g.i h0.2.2.1 h1.2.2.1, g.i h0.2.2.2 h1.2.2.2]
  exact h
theorem nbI_r {o : Option Nat} (h : ∀ c, o = some c → c < 2 ^ 20) : nbI o = -1 ↔ o = none := by
  cases o with
  | none => exact ⟨fun _ => rfl, fun _ => rfl⟩
  | some c => exact ⟨fun e => absurd e (nI_m1 (by have := h c rfl; omega)), fun e => by cases e⟩
theorem ur_sideS (d : Nat) (hs : ReS M m) (hb : b = 2 ∨ b = 3) {w r rc a : Nat} {mb : Option Nat} {S : SD} {R : Nat → Mc} (hw : w ≤ 1) (hrc : rc ≤ 10) (hr : s_r S = some r) (hSw : SWf R rc S) (hg : RowG b (R r)) (hR : ReR M m r b (R r)) (ha : a < 8) (hmb : ∀ c, mb = some c → c < 8) (e1 : s_t S = tfAB a mb) (e2 : s_s S = nsAB a mb) (h0 : x_i M m 0 = nI b)
    (hQ : ∀ M' res, FrM M M' m [25, 26, 29] [20, 21, 22, 23, 24, 25, 26, 53, 54, 55, 56, 57] → SiK M M' m w → LRes (fn b (s_s S)) 40 (letB b R r S) res → (∀ mc', res = some mc' → SiR M' m w (fn b (s_s S)) mc') → Q (some (.int (nI (if res.isSome = true then 1 else 0)))) M') :
    Call G (d + 5) 0 0 mX12_side [.ref m, .int (nI w), .int (nI r), .int (nI a), .int (nbI mb), .int (nI (s_n S))] M Q := by
  obtain ⟨⟨β, hcan⟩, hn60, hk8, h00⟩ := hg
  obtain ⟨k1, k2, k3, k4⟩ := hSw.num hb hr hcan.1 hn60
  obtain ⟨w1, w2, w3, w4, w5, w6, w7, w8⟩ := hSw r hr
  have hsum : (mb = none → sumT (s_t S) 8 = 1) ∧ (mb ≠ none → sumT (s_t S) 8 = 2) := by
    rw [e1]
    cases mb with
    | none => exact ⟨fun _ => sumT_AB1 a ha, fun e => absurd rfl e⟩
    | some c => exact ⟨fun e => (by cases e), fun _ => sumT_AB2 a ha c (hmb c rfl)⟩
  refine ur_side d hs hb (L := max (sumT (s_t S) 8 - 1) (s_n S)) hw (by omega) ha hmb h0 hR hcan.1 hn60 hcan.2.1 h00 hk8 (fun e => ?_) (fun e => ?_) k1 k3 (fun M' res g1 g2 g3 g4 => ?_)
  · rw [hsum.1 e]; omega
  · have h1 := hsum.2 e
    have h2 := w7 h1
    rw [h1, h2]; exact ⟨rfl, rfl⟩
  · rw [← e1, ← e2] at g3
    rw [← e2] at g4
    exact hQ M' res g1 g2 g3 g4
theorem fn_0 : fn b 0 = 1 := rfl
theorem ur_lettersMachine (d : Nat) (hs : ReS M m) (hb : b = 2 ∨ b = 3) {p al r rc : Nat} {A B : SD} {R : Nat → Mc} (hp : p < 130) (h0 : x_i M m 0 = nI b) (hrc : rc ≤ 10) (hrow : ∀ i, i < rc → RowG b (R i) ∧ ReR M m i b (R i)) (hA : SdR M m 39 40 41 42 p A) (hB : SdR M m 43 44 45 46 p B) (o35 : x_i M (m + 35) p = nI al) (hr : s_r A = some r) (hAw : SWf R rc A) (hBw : SWf R rc B) (hBn : s_r B = none → s_s B = 0 ∧ s_n B < 8) (hal : al < 256) (h27 : fn b al ≤ 27)
    (hQ : ∀ M' res, FrM M M' m [25, 26, 29] [20, 21, 22, 23, 24, 25, 26, 27, 28, 29, 48, 49, 50, 53, 54, 55, 56, 57] → RePk M M' m p → (∃ rl, LRes (fn b (s_s A)) 40 (letB b R r A) rl ∧ (rl = none → res = none) ∧ ∀ ml, rl = some ml →
      (s_r B = none → LRes (fn b al) 40 (fun u => jn 0 (letB b R r A (u.map (vw b al (s_s A)))) (s_n B)) res) ∧
      (∀ r', s_r B = some r' → ∃ rr, LRes (fn b (s_s B)) 40 (letB b R r' B) rr ∧ (rr = none → res = none) ∧ ∀ mr, rr = some mr → LRes (fn b al) 40 (fun u => jn 0 (letB b R r A (u.map (vw b al (s_s A)))) (letB b R r' B (u.map (vw b al (s_s B))))) res)) → (∀ mc, res = some mc → ReP M' m p (fn b al) mc) → Q (some (.int (nI (if res.isSome = true then 1 else 0)))) M') :
    Call G (d + 6) 0 0 mX12_lettersMachine [.ref m, .int (nI p)] M Q := by
  have hb1 : 1 < b := by omega
  have hb3 : b ≤ 3 := by omega
  obtain ⟨a1, a2, a3⟩ := id hA
  obtain ⟨b1, b2, b3⟩ := id hB
  obtain ⟨na, mba, hna, hmba, a4, a5, a6, a7⟩ := a2 r hr
  obtain ⟨hrr, w2, w3, w4, w5, w6, w7, w8⟩ := hAw r hr
  obtain ⟨hgA, hRA⟩ := hrow r hrr
  have hnumA := hAw.num hb hr hgA.1.choose_spec.1 hgA.2.1
  have hclp : (nI p).toNatClampNeg = p := nI_clamp (by omega)
  have hrB : ∀ c, s_r B = some c → c < 2 ^ 20 := fun c hc => by have := (hBw c hc).1; omega
  -- from the two machines on
  have last : ∀ (M2 : Mem) (ml mr : Mc) (sr nB : Nat), FrM M M2 m [25, 26, 29] [20, 21, 22, 23, 24, 25, 26, 53, 54, 55, 56, 57] → SiR M2 m 0 (fn b (s_s A)) ml → RtI M2 m p b (nbI (s_r B)) nB sr mr → sr = s_s B → sr < 256 → fn b sr ≤ 27 → 0 < m_n ml ∧ m_n ml ≤ 40 → 0 < m_n mr ∧ m_n mr ≤ 40 → (∀ i, i < m_n ml → ∀ g, g < fn b (s_s A) → m_s ml i g < m_n ml) → (∀ i, i < m_n mr → ∀ g, g < fn b sr → m_s mr i g < m_n mr) → (∀ i, i < m_n ml → m_k ml i < 8) → (∀ i, i < m_n mr → m_k mr i < 8) →
      (∀ M' res, FrM M M' m [25, 26, 29] [20, 21, 22, 23, 24, 25, 26, 27, 28, 29, 48, 49, 50, 53, 54, 55, 56, 57] → RePk M M' m p → LRes (fn b al) 40 (fun u => jn 0 (m_b ml (u.map (vw b al (s_s A)))) (m_b mr (u.map (vw b al sr)))) res → (∀ mc, res = some mc → ReP M' m p (fn b al) mc) → Q (some (.int (nI (if res.isSome = true then 1 else 0)))) M') → LX12_lettersMachine_75 G (d + 5) 0 0 m (nI p) (nbI (s_r B)) M2 Q := by
    intro M2 ml mr sr nB g1 hml hmr hsrB hsr hfr' hnl hnr hcl hcr hkl hkr hQ2
    have q1 := g1.S hs
    have hA2 := hA.fr g1 (by decide) (by decide)
    have hB2 := hB.fr g1 (by decide) (by decide)
    have e0 : x_i M2 m 0 = nI b := by rw [g1.fm (by decide)]; exact h0
    have e35 : x_i M2 (m + 35) p = nI al := by rw [g1.i (by decide) (by decide)]; exact o35
    have e40 : x_i M2 (m + 40) p = nI na := by rw [g1.i (by decide) (by decide)]; exact a4
    have e41 : x_i M2 (m + 41) p = nbI mba := by rw [g1.i (by decide) (by decide)]; exact a5
    have end_ : Call G (d + 5) 0 0 mX12_noPairs [.ref m] M2 (fun r26 M27 => r26 = none ∧ (x_h M27 m).1 = 28 ∧ Call G (d + 5) 0 0 mX12_across [.ref m, .int (nI al)] M27 (fun r29 M30 => ∃ v31 : Int32, r29 = some (.int v31) ∧ (x_h M30 m).1 = 28 ∧ (∀ M33, M33 = x_si M30 m 26 v31 → LX12_lettersMachine_141 G (d + 5) 0 0 m (nI p) (nbI (s_r B)) (nI al) (nI (s_s A)) (nI sr) 0 none none none none none M33 Q))) := by
      refine ur_noPairs (d + 3) q1 (fun M3 g3 hpr => ⟨rfl, (g3.S q1).1, ?_⟩)
      refine u_across (d + 3) (g3.S q1) (b := b) (by rw [g3.fm (by decide)]; exact e0) hal ⟨_, rfl, (g3.S q1).1, ?_⟩
      rintro M4 rfl
      have g4 : FrM M3 (x_si M3 m 26 (nI (fn b al))) m [26] [] := FrM.rf.sm (by decide)
      refine ur_let141 d (g4.S (g3.S q1)) (by rw [g4.fm (by decide), g3.fm (by decide)]; exact e0) hb1 hb3 hp hal w2 hsr h27 (by omega) hfr' ((hml.fr g3 (by decide)).fr g4 (by decide)) ((hmr.fr g3 (by decide)).fr g4 (by decide)) hnl hnr hcl hcr hkl hkr xi_eq (hpr.fr g4 (by decide) (by decide)) (fun M5 res f1 f2 f3 f4 => ?_)
      exact hQ2 M5 res ((((g1.wk (by decide) (by decide)).tr g3 (by decide) (by decide)).tr g4 (by decide) (by decide)).tr f1 (by decide) (by decide)) (fun p' f' mc h1 h2 h3 h4 => f2 p' f' mc h1 h2 h3 (((h4.fr g1 (by decide)).fr g3 (by decide)).fr g4 (by decide))) f3 f4
    refine vX12_lettersMachine_75 _ _ _ ⟨q1.1, m + 35, q1.r35, by rw [q1.h35], by rw [q1.h35]; exact vp_in_nI hp (by omega), m + 40, q1.r40, by rw [q1.h40], by rw [q1.h40]; exact vp_in_nI hp (by omega), m + 41, q1.r41, by rw [q1.h41], by rw [q1.h41]; exact vp_in_nI hp (by omega), ?_⟩
    rw [hclp, e40, e41, e35]
    refine ur_nameSet (d + 4) hna hmba ⟨_, rfl, fun cx => ⟨q1.1, m + 44, q1.r44, by rw [q1.h44], by rw [q1.h44]; exact vp_in_nI hp (by omega), m + 45, q1.r45, by rw [q1.h45], by rw [q1.h45]; exact vp_in_nI hp (by omega), ?_⟩, fun cx => ⟨q1.1, ?_⟩⟩
    · cases hsB : s_r B with
      | none => rw [hsB] at cx; exact absurd rfl cx
      | some r' =>
        obtain ⟨nb, mbb, hnb, hmbb, b4, b5, b6, b7⟩ := hB2.2.1 r' hsB
        rw [b4, b5]
        refine ur_nameSet (d + 4) hnb hmbb ⟨_, rfl, q1.1, ?_⟩
        rw [← b7, ← a7, ← hsrB, ← hsB]
        exact end_
    · have hsB := (nbI_r hrB).mp cx
      have e0 : sr = 0 := by rw [hsrB]; exact (hBn hsB).1
      rw [e0] at end_
      rw [← a7]
      exact end_
  refine eX12_lettersMachine m _ ⟨hs.1, m + 43, hs.r43, by rw [hs.h43], by rw [hs.h43]; exact vp_in_nI hp (by omega), m + 39, hs.r39, by rw [hs.h39], by rw [hs.h39]; exact vp_in_nI hp (by omega), m + 40, hs.r40, by rw [hs.h40], by rw [hs.h40]; exact vp_in_nI hp (by omega), m + 41, hs.r41, by rw [hs.h41], by rw [hs.h41]; exact vp_in_nI hp (by omega), m + 42, hs.r42, by rw [hs.h42], by rw [hs.h42]; exact vp_in_nI hp (by omega), ?_⟩
  rw [hclp, a1, a4, a5, a3, b1, hr]
  refine ur_sideS d hs hb (w := 0) (by omega) hrc hr hAw hgA hRA hna hmba a6 a7 h0 (fun M1 rl g1 k1 l1 s1 => ⟨_, rfl, ?_⟩)
  have q1 := g1.S hs
  have gw := g1.wk (F := [25, 26, 29]) (A := [20, 21, 22, 23, 24, 25, 26, 27, 28, 29, 48, 49, 50, 53, 54, 55, 56, 57]) (by decide) (by decide)
  cases rl with
  | none =>
    refine ⟨fun c => absurd rfl c, fun _ => ?_⟩
    exact hQ M1 none gw (fun p' f' mc h1 h2 h3 h4 => h4.fr g1 (by decide)) ⟨none, l1, fun _ => rfl, fun ml e => by cases e⟩ (fun mc e => by cases e)
  | some ml =>
    have hml := s1 ml rfl
    obtain ⟨cl1, cl2⟩ := l1.some
    have hklm : ∀ i, i < m_n ml → m_k ml i < 8 := can_marks (P := fun k => k < 8) (fn_pos (by omega)) cl1 (fun u _ => letB_lt hb hAw hr hgA u)
    have hlet : ∀ u : List Nat, m_b ml (u.map (vw b al (s_s A))) = letB b R r A (u.map (vw b al (s_s A))) := fun u => mcan_b cl1 (fun y hy => by
      obtain ⟨g, _, rfl⟩ := List.mem_map.mp hy
      exact vw_lt (by omega))
    refine ⟨fun _ => ⟨fun cx => ?_, fun cx => ?_⟩, fun e => absurd e (by show ¬ nI 1 = 0; decide)⟩
    · have hsB := (nbI_r hrB).mp cx
      obtain ⟨n1, n2⟩ := hBn hsB
      refine last M1 ml (1, fun _ _ => 0, fun _ => s_n B) 0 (s_n B) g1 hml (Or.inl ⟨cx, rfl, by rw [g1.i (by decide) (by decide)]; exact b3⟩) n1.symm (by omega) (by rw [fn_0]; omega) ⟨cl1.1, cl2⟩ ⟨Nat.one_pos, by show 1 ≤ 40; omega⟩ cl1.2.1 (fun i _ g _ => Nat.one_pos) hklm (fun i _ => n2) (fun M' res f1 f2 f3 f4 => ?_)
      refine hQ M' res f1 f2 ⟨some ml, l1, fun e => (by cases e), fun ml' e => ?_⟩ f4
      cases e
      refine ⟨fun _ => f3.congr (fun u hu => ?_), fun r' e => by rw [hsB] at e; cases e⟩
      show jn 0 (m_b ml _) (s_n B) = jn 0 _ _
      rw [hlet]
    · cases hsB : s_r B with
      | none => rw [hsB] at cx; exact absurd rfl cx
      | some r' =>
        obtain ⟨nb, mbb, hnb, hmbb, b4, b5, b6, b7⟩ := b2 r' hsB
        have hrB' := hBw r' hsB
        obtain ⟨hgB, hRB⟩ := hrow r' hrB'.1
        have hnumB := hBw.num hb hsB hgB.1.choose_spec.1 hgB.2.1
        refine ⟨q1.1, m + 44, q1.r44, by rw [q1.h44], by rw [q1.h44]; exact vp_in_nI hp (by omega), m + 45, q1.r45, by rw [q1.h45], by rw [q1.h45]; exact vp_in_nI hp (by omega), m + 46, q1.r46, by rw [q1.h46], by rw [q1.h46]; exact vp_in_nI hp (by omega), ?_⟩
        rw [g1.i (o := 44) (by decide) (by decide), g1.i (o := 45) (by decide) (by decide), g1.i (o := 46) (by decide) (by decide), b4, b5, b3]
        refine ur_sideS d q1 hb (w := 1) (by omega) hrc hsB hBw hgB (hRB.fr g1 (by decide)) hnb hmbb b6 b7 (by rw [g1.fm (by decide)]; exact h0) (fun M2 rr g2 k2 l2 s2 => ⟨_, rfl, ?_⟩)
        have gw2 := gw.tr g2 (by decide) (by decide)
        cases rr with
        | none =>
          refine ⟨fun c => absurd rfl c, fun _ => ?_⟩
          refine hQ M2 none gw2 (fun p' f' mc h1 h2 h3 h4 => (h4.fr g1 (by decide)).fr g2 (by decide)) ⟨some ml, l1, fun e => (by cases e), fun ml' e => ⟨fun e2 => (by rw [hsB] at e2; cases e2), fun r2 e2 => ?_⟩⟩ (fun mc e => by cases e)
          rw [hsB] at e2
          cases e2
          exact ⟨none, l2, fun _ => rfl, fun mr e => by cases e⟩
        | some mr =>
          have hmr := s2 mr rfl
          obtain ⟨cr1, cr2⟩ := l2.some
          have hkrm : ∀ i, i < m_n mr → m_k mr i < 8 := can_marks (P := fun k => k < 8) (fn_pos (by omega)) cr1 (fun u _ => letB_lt hb hBw hsB hgB u)
          have hletr : ∀ u : List Nat, m_b mr (u.map (vw b al (s_s B))) = letB b R r' B (u.map (vw b al (s_s B))) := fun u => mcan_b cr1 (fun y hy => by
            obtain ⟨g, _, rfl⟩ := List.mem_map.mp hy
            exact vw_lt (by omega))
          refine ⟨fun _ => ?_, fun e => absurd e (by show ¬ nI 1 = 0; decide)⟩
          rw [hsB] at cx
          have := last M2 ml mr (s_s B) 0 (g1.tr g2 (by decide) (by decide)) (k2.keep (by decide) cl2 (by omega) hml) (Or.inr ⟨by rw [hsB]; exact cx, hmr⟩) rfl hrB'.2.1 (by omega) ⟨cl1.1, cl2⟩ ⟨cr1.1, cr2⟩ cl1.2.1 cr1.2.1 hklm hkrm (fun M' res f1 f2 f3 f4 => ?_)
          · rw [hsB] at this; exact this
          · refine hQ M' res f1 f2 ⟨some ml, l1, fun e => (by cases e), fun ml' e => ⟨fun e2 => (by rw [hsB] at e2; cases e2), fun r2 e2 => ?_⟩⟩ f4
            rw [hsB] at e2
            cases e2
            cases e
            refine ⟨some mr, l2, fun e => (by cases e), fun mr' e => ?_⟩
            cases e
            exact f3.congr (fun u hu => by
              show jn 0 (m_b ml _) (m_b mr _) = jn 0 _ _
              rw [hlet, hletr])
end RLet2C
