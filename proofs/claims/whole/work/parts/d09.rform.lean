/-! ===== the reference: and, or, so ===== -/
section RFormC
variable {G : GG} {M : Mem} {m L rc : Nat} {t wd : Nat → Nat} {Q : Option Value → Mem → Prop}
/-- what a reading of the reference does: as g tells -/
def ReC (G : GG) (m L rc : Nat) (t wd : Nat → Nat) (n : Nat) (md : MD) (dd : Nat) (g : PSt → PRt) : Prop := ∀ (M : Mem) (s : PSt) (Q : Option Value → Mem → Prop), RfE M m L rc t wd → RfX M m L t s → x_i M m 43 = nI (10 - n) → GdT L (q_l s) → 2 * q_c s ≤ plT L (q_l s) → (∀ M' a, FrM M M' m FRr ARr → x_i M' m 43 = x_i M m 43 → RfO M' m L t a (g s) → Q (some (.int (nI a))) M') → Call G dd 0 0 md [.ref m] M Q
theorem RfO.nxt {M' : Mem} {s : PSt} {a b : Nat} (h : RfO M' m L t a (.inr (b, s))) : a < 130 ∧ RfX M' m L t s ∧ (kdT (q_l s) ≠ 1 → a = b) := h
/-- behind a fault a part is laid down all the same -/
theorem RfG.ended {M3 : Mem} {p c : Nat} {v : Int32} (hF : RfF M m p) (g : FrM M M3 m [47] [30, 31, 32, 33, 34]) (hc : c ≤ 129) (e47 : x_i M3 m 47 = nI (if c < 129 then c + 1 else c)) : RfG (x_si M3 (m + 35) c v) m p := by
  have g2 : FrM M3 (x_si M3 (m + 35) c v) m [] [35] := FrM.rf.si (by omega) (by decide)
  exact ⟨(hF.fr g (by decide) (by decide) (by decide) (by decide)).fr g2 (by decide) (by decide) (by decide) (by decide), (if c < 129 then c + 1 else c), (by split <;> omega), by rw [g2.fm (by decide)]; exact e47⟩
theorem RfI.ended {M3 : Mem} {s : PSt} {P : PD} (hI : RfI M m L t s) (hc : q_c s < 60) (g : FrM M M3 m [47] [30, 31, 32, 33, 34]) (e47 : x_i M3 m 47 = nI (if q_c s < 129 then q_c s + 1 else q_c s)) (e30 : x_i M3 (m + 30) (q_c s) = nI (p_f P)) (e31 : x_i M3 (m + 31) (q_c s) = nI (p_l P)) (e32 : 3 ≤ p_f P ∧ p_f P ≤ 5 → x_i M3 (m + 32) (q_c s) = nI (p_r P)) (e33 : p_f P = 6 ∨ p_f P = 7 → ∃ n, n < 8 ∧ x_i M3 (m + 33) (q_c s) = nI n ∧ p_s P = clr (p_s (q_D s (p_l P))) n) (e34 : x_i M3 (m + 34) (q_c s) = nI (p_p P)) (eo : ∀ o, o ∈ [30, 31, 32, 33, 34] → ∀ j, j ≠ q_c s → x_i M3 (m + o) j = x_i M (m + o) j) (hf : 2 ≤ p_f P) (hl : p_l P < q_c s) (h8 : p_s P < 256) : RfI (x_si M3 (m + 35) (q_c s) (nI (p_s P))) m L t (enP s P) := by
  rw [if_pos (by omega)] at e47
  have g2 : FrM M3 (x_si M3 (m + 35) (q_c s) (nI (p_s P))) m [] [35] := FrM.rf.si (by omega) (by decide)
  have eP : puD (q_D s) (q_c s) P (q_c s) = P := if_pos rfl
  refine hI.en hc (fun k h1 h2 h3 => ?_) (by rw [g2.fm (by decide)]; exact e47) (fun o h1 h2 j hj => ?_) ?_ (fun _ => hl) h8
  · rw [g2.fm (by simp), g.fm (by simp only [List.mem_cons, List.not_mem_nil, or_false]; omega)]
  · by_cases c35 : o = 35
    · rw [c35, xi_nk (by omega), g.i (by omega) (by decide)]
    · rw [g2.i (by omega) (by simp only [List.mem_cons, List.not_mem_nil, or_false]; exact c35)]
      by_cases c34 : o ≤ 34
      · exact eo o (by simp only [List.mem_cons, List.not_mem_nil, or_false]; omega) j (by omega)
      · rw [g.i (by omega) (by simp only [List.mem_cons, List.not_mem_nil, or_false]; omega)]
  · have n35 : ∀ o, o ≠ 0 → o ≠ 35 → x_i (x_si M3 (m + 35) (q_c s) (nI (p_s P))) (m + o) = x_i M3 (m + o) := fun o h0 h1 => g2.i h0 (by simp only [List.mem_cons, List.not_mem_nil, or_false]; exact h1)
    unfold ReD
    rw [eP, n35 30 (by omega) (by omega), n35 31 (by omega) (by omega), n35 32 (by omega) (by omega), n35 33 (by omega) (by omega), n35 34 (by omega) (by omega), xi_eq]
    refine ⟨e30, e34, rfl, fun q => by omega, fun q => by omega, fun _ => e31, e32, fun q => ?_⟩
    obtain ⟨n, n1, n2, n3⟩ := e33 q
    exact ⟨n, n1, n2, by rw [show puD (q_D s) (q_c s) P (p_l P) = q_D s (p_l P) from if_neg (by omega)]; exact n3⟩
theorem RfI.free {s : PSt} (hI : RfI M m L t s) {j : Nat} (hj : j < q_c s) : x_i M (m + 35) j = nI (p_s (q_D s j)) := (hI.2.2 j hj).1.2.2.1
/-- and: the left ones first -/
theorem ur_and5 {n x : Nat} {g : PSt → PRt} (hg : SgP L g) (h : ∀ d, ReC G m L rc t wd n mX12_not (d + (x + 6)) g) (hn : n ≤ 10) (d : Nat) : ∀ k a a' s M z2 z3 z4, c1 z2 = true → c1 z3 = true → c1 z4 = true → (q_l s).length ≤ k → RfE M m L rc t wd → RfX M m L t s → x_i M m 43 = nI (10 - n) → GdT L (q_l s) → 2 * q_c s ≤ plT L (q_l s) → a < q_c s → a' < 130 → (kdT (q_l s) ≠ 1 → a' = a) → (∀ M' b, FrM M M' m FRr ARr → x_i M' m 43 = x_i M m 43 → RfO M' m L t b (lpG L g 8 3 k a s) → Q (some (.int (nI b))) M') → LX12_and_5 G (d + (x + 6)) 0 0 m (nI a') z2 z3 z4 M Q := by
  intro k
  induction k with
  | zero =>
    intro a a' s M z2 z3 z4 h2 h3 h4 hlen hE hX h43 hGd hpl ha ha' haa hQ
    have hk0 := kd_nil (Nat.le_zero.mp hlen)
    have hI := hX.1 (by omega)
    have kt : x_i M m 39 = 7 ↔ kdT (q_l s) = 8 := hI.tk (j := 8) (by omega) (by omega) (by omega)
    exact vX12_and_5 _ _ _ _ _ h2 h3 h4 ⟨hE.1.1.1, fun _ => hQ M a' FrM.rf rfl ⟨ha', hX, haa⟩, fun q => absurd (kt.mp q) (by omega)⟩
  | succ k ih =>
    intro a a' s M z2 z3 z4 h2 h3 h4 hlen hE hX h43 hGd hpl ha ha' haa hQ
    by_cases cb : kdT (q_l s) = 1
    · have hG := hX.2 cb
      refine vX12_and_5 _ _ _ _ _ h2 h3 h4 ⟨hE.1.1.1, fun _ => hQ M a' FrM.rf rfl ?_, fun q => absurd (hG.1.2.2.2.symm.trans q) (by decide)⟩
      have e : lpG L g 8 3 (k + 1) a s = .inr (a, s) := by
        show (if kdT (q_l s) = 8 then _ else _) = _
        rw [if_neg (by omega)]
      rw [e]
      exact ⟨ha', hX, haa⟩
    have hI := hX.1 cb
    have kt : x_i M m 39 = 7 ↔ kdT (q_l s) = 8 := hI.tk (j := 8) (by omega) (by omega) (by omega)
    have e41 : x_i M m 41 = nI (plT L (q_l s)) := hI.1.1.1
    refine vX12_and_5 _ _ _ _ _ h2 h3 h4 ⟨hE.1.1.1, fun q => hQ M a' FrM.rf rfl ?_, fun q => ?_⟩
    · have e : lpG L g 8 3 (k + 1) a s = .inr (a, s) := by
        show (if kdT (q_l s) = 8 then _ else _) = _
        rw [if_neg (fun z => q (kt.mpr z))]
      rw [e]
      exact ⟨ha', hX, haa⟩
    have hk := kt.mp q
    have estep : lpG L g 8 3 (k + 1) a s = (match g (tlS s) with | .inl p => .inl p | .inr (b, s1) => lpG L g 8 3 k (q_c s1) (jnP 3 (plT L (q_l s)) a b s1)) := by
      show (if kdT (q_l s) = 8 then _ else _) = _
      rw [if_pos hk]
      rfl
    rw [estep] at hQ
    obtain ⟨t1, t2, t3, -⟩ := gd_tail hGd (show kdT (q_l s) ≠ 0 by omega)
    rw [hk] at t2
    have kk : lnK 8 = 3 := rfl
    have hc60 := hI.2.1.1
    rw [haa cb, e41]
    refine ur_nextS (d + (x + 2)) hE hI (by omega) (fun M4 g4 hX4 => ⟨rfl, ?_⟩)
    have g4' : FrM M M4 m FRr ARr := g4.wk (by decide) (by decide)
    have hE4 := hE.fr g4'
    have f43 : x_i M4 m 43 = x_i M m 43 := g4.fm (by decide)
    refine h d M4 (tlS s) _ hE4 hX4 (by rw [f43]; exact h43) t1 (by show 2 * q_c s ≤ plT L (q_l s).tail; omega) (fun M6 b' g6 e43 hO => ⟨_, rfl, ?_⟩)
    have g6' := g4'.tr g6 (fun _ h => h) (fun _ h => h)
    have hE6 := hE.fr g6'
    have h43' : x_i M6 m 43 = x_i M m 43 := e43.trans f43
    have vp : ∀ {y : Nat}, y < 130 → vp_in (nI y) 130 := fun hy => vp_in_nI hy (by omega)
    have stop : ∀ p, RfG M6 m p → b' < 130 → (∀ M' b, FrM M M' m FRr ARr → x_i M' m 43 = x_i M m 43 → b < 130 → RfG M' m p → Q (some (.int (nI b))) M') → (x_h M6 m).1 = 28 ∧ Call G (d + (x + 6)) 0 0 mX12_ended [.ref m, .int 3, .int (nI a), .int (nI b'), .int 0, .int (nI (plT L (q_l s)))] M6 (fun r9 M10 => ∃ v11 : Int32, r9 = some (.int v11) ∧ (x_h M10 m).1 = 28 ∧ (∃ b13, x_r M10 m 53 = some b13 ∧ (x_h M10 b13).1 = 1 ∧ vp_in (nI a) (x_h M10 b13).2 ∧ vp_in (nI b') (x_h M10 b13).2 ∧ vp_in v11 (x_h M10 b13).2 ∧ (∀ M18, M18 = x_si M10 b13 v11.toNatClampNeg ((x_i M10 b13 (nI a).toNatClampNeg) ||| (x_i M10 b13 (nI b').toNatClampNeg)) → LX12_and_5 G (d + (x + 6)) 0 0 m v11 (some (.int (nI (plT L (q_l s))))) (some (.int (nI b'))) (some (.int v11)) M18 Q))) := by
      intro p f6 hb' hq
      obtain ⟨hF, c, hc, h47⟩ := f6
      refine ⟨hE6.1.1.1, ur_ended (d + (x + 5)) hE6.1.1 hc h47 (fun M10 g10 e47 e30 e31 e32 e33 e34 eo => ⟨_, rfl, ?_⟩)⟩
      have s10 := g10.S hE6.1.1
      refine ⟨s10.1, m + 35, s10.r35, by rw [s10.h35], by rw [s10.h35]; exact vp (by omega), by rw [s10.h35]; exact vp hb', by rw [s10.h35]; exact vp (by omega), ?_⟩
      rintro M18 rfl
      rw [show (nI c).toNatClampNeg = c from nI_clamp (by omega)]
      have f18 := RfG.ended (v := x_i M10 (m + 35) (nI a).toNatClampNeg ||| x_i M10 (m + 35) (nI b').toNatClampNeg) hF g10 hc e47
      have g18 : FrM M10 (x_si M10 (m + 35) c (x_i M10 (m + 35) (nI a).toNatClampNeg ||| x_i M10 (m + 35) (nI b').toNatClampNeg)) m [] [35] := FrM.rf.si (by omega) (by decide)
      have g18' : FrM M (x_si M10 (m + 35) c (x_i M10 (m + 35) (nI a).toNatClampNeg ||| x_i M10 (m + 35) (nI b').toNatClampNeg)) m FRr ARr := (g6'.tr g10 (by decide) (by decide)).tr g18 (by decide) (by decide)
      refine vX12_and_5 _ _ _ _ _ rfl rfl rfl ⟨(g18'.S hE.1.1).1, fun _ => hq _ c g18' ?_ (by omega) f18, fun z => absurd (f18.1.2.2.2.symm.trans z) (by decide)⟩
      rw [g18.fm (by decide), g10.fm (by decide)]; exact h43'
    cases hgs : g (tlS s) with
    | inl p =>
      rw [hgs] at hO hQ
      exact stop p hO.2 hO.1 (fun M' b gg e hb hf => hQ M' b gg e ⟨hb, hf⟩)
    | inr bs =>
      obtain ⟨b, s1⟩ := bs
      rw [hgs] at hO hQ
      obtain ⟨o1, o2, o3⟩ := hO
      simp only at hQ
      obtain ⟨⟨w1, w2, w3, w4, w5, w6⟩, v1, v2, v3, v4⟩ := hg (tlS s) b s1 t1 hgs
      have e4 : q_l (tlS s) = (q_l s).tail := rfl
      have e5 : q_c (tlS s) = q_c s := rfl
      simp only [e4, e5] at w2 w3 w4 w5 v1 v2 v3
      have hle1 := gd_le _ w1
      have hL := hE.1.2.2.1
      have hc1 : q_c s1 < 60 := by omega
      by_cases cb1 : kdT (q_l s1) = 1
      · refine stop (plT L (q_l s1)) (o2.2 cb1) o1 (fun M' b2 gg e hb hf => hQ M' b2 gg e ?_)
        have el : lpG L g 8 3 k (q_c s1) (jnP 3 (plT L (q_l s)) a b s1) = .inr (q_c s1, jnP 3 (plT L (q_l s)) a b s1) := by
          cases k with
          | zero => rfl
          | succ k =>
            show (if kdT (q_l s1) = 8 then _ else _) = _
            rw [if_neg (by omega)]
        rw [el]
        exact ⟨hb, ⟨fun z => absurd cb1 z, fun _ => hf⟩, fun z => absurd cb1 z⟩
      · have hI1 := o2.1 cb1
        have hbb := o3 cb1
        subst hbb
        have h47 : x_i M6 m 47 = nI (q_c s1) := hI1.1.2.2.2.2.2.2.2.2
        refine ⟨hE6.1.1.1, ur_ended (d + (x + 5)) hE6.1.1 (by omega) h47 (fun M10 g10 e47 e30 e31 e32 e33 e34 eo => ⟨_, rfl, ?_⟩)⟩
        have s10 := g10.S hE6.1.1
        refine ⟨s10.1, m + 35, s10.r35, by rw [s10.h35], by rw [s10.h35]; exact vp (by omega), by rw [s10.h35]; exact vp (by omega), by rw [s10.h35]; exact vp (by omega), ?_⟩
        rintro M18 rfl
        have ef : ∀ j, j < q_c s1 → x_i M10 (m + 35) j = nI (p_s (q_D s1 j)) := fun j hj => by rw [g10.i (by omega) (by decide)]; exact hI1.free hj
        rw [show (nI (q_c s1)).toNatClampNeg = q_c s1 from nI_clamp (by omega), show (nI a).toNatClampNeg = a from nI_clamp (by omega), show (nI b').toNatClampNeg = b' from nI_clamp (by omega), ef a (by omega), ef b' v4, nI_or]
        have h256 := or_256 (hI1.2.1.2.1 a (by omega)) (hI1.2.1.2.1 b' v4)
        have hJ : RfI (x_si M10 (m + 35) (q_c s1) (nI (p_s (q_D s1 a) ||| p_s (q_D s1 b')))) m L t (jnP 3 (plT L (q_l s)) a b' s1) :=
          RfI.ended (P := (3, plT L (q_l s), a, b', 0, p_s (q_D s1 a) ||| p_s (q_D s1 b'), s0D, s0D)) hI1 hc1 g10 e47 e30 e31 (fun _ => e32) (fun z => absurd z (by show ¬ (3 = 6 ∨ 3 = 7); omega)) e34 eo (by show 2 ≤ 3; omega) (by show a < q_c s1; omega) h256
        have g18 : FrM M10 (x_si M10 (m + 35) (q_c s1) (nI (p_s (q_D s1 a) ||| p_s (q_D s1 b')))) m [] [35] := FrM.rf.si (by omega) (by decide)
        have g18' : FrM M (x_si M10 (m + 35) (q_c s1) (nI (p_s (q_D s1 a) ||| p_s (q_D s1 b')))) m FRr ARr := (g6'.tr g10 (by decide) (by decide)).tr g18 (by decide) (by decide)
        have f18 : x_i (x_si M10 (m + 35) (q_c s1) (nI (p_s (q_D s1 a) ||| p_s (q_D s1 b')))) m 43 = x_i M m 43 := by rw [g18.fm (by decide), g10.fm (by decide)]; exact h43'
        refine ih (q_c s1) (q_c s1) (jnP 3 (plT L (q_l s)) a b' s1) _ _ _ _ rfl rfl rfl (by show (q_l s1).length ≤ k; omega) (hE.fr g18') ⟨fun _ => hJ, fun z => absurd z cb1⟩ (by rw [f18]; exact h43) w1 (by show 2 * (q_c s1 + 1) ≤ plT L (q_l s1); omega) (Nat.lt_succ_self _) (by omega) (fun _ => rfl) (fun M' b2 gg e hO2 => hQ M' b2 (g18'.tr gg (fun _ h => h) (fun _ h => h)) (e.trans f18) hO2)
theorem ur_and {n x : Nat} {g : PSt → PRt} (hg : SgP L g) (h : ∀ d, ReC G m L rc t wd n mX12_not (d + (x + 6)) g) (hn : n ≤ 10) (d : Nat) : ReC G m L rc t wd n mX12_and (d + (x + 7)) (anG L g) := by
  intro M s Q hE hX h43 hGd hpl hQ
  refine eX12_and m (h d M s _ hE hX h43 hGd hpl (fun M2 a g2 e2 hO => ⟨_, rfl, ?_⟩))
  have hE2 := hE.fr g2
  have hL := hE.1.2.2.1
  have eu : anG L g s = (match g s with | .inl p => .inl p | .inr (a, s1) => lpG L g 8 3 120 a s1) := rfl
  rw [eu] at hQ
  cases hgs : g s with
  | inl p =>
    rw [hgs] at hO hQ
    have f2 : RfG M2 m p := hO.2
    exact vX12_and_5 _ _ _ _ _ rfl rfl rfl ⟨hE2.1.1.1, fun _ => hQ M2 a g2 e2 hO, fun z => absurd (f2.1.2.2.2.symm.trans z) (by decide)⟩
  | inr bs =>
    obtain ⟨b, s1⟩ := bs
    rw [hgs] at hO hQ
    obtain ⟨o1, o2, o3⟩ := hO
    obtain ⟨⟨w1, w2, w3, w4, w5, w6⟩, v1, v2, v3, v4⟩ := hg s b s1 hGd hgs
    have hlen := gd_len _ w1
    exact ur_and5 hg h hn d 120 b a s1 M2 none none none rfl rfl rfl (by omega) hE2 o2 (by rw [e2]; exact h43) w1 (by omega) v4 o1 o3 (fun M' b2 gg e hO2 => hQ M' b2 (g2.tr gg (fun _ h => h) (fun _ h => h)) (e.trans e2) hO2)
/-- or: the left ones first -/
theorem ur_or5 {n x : Nat} {g : PSt → PRt} (hg : SgP L g) (h : ∀ d, ReC G m L rc t wd n mX12_and (d + (x + 6)) g) (hn : n ≤ 10) (d : Nat) : ∀ k a a' s M z2 z3 z4, c1 z2 = true → c1 z3 = true → c1 z4 = true → (q_l s).length ≤ k → RfE M m L rc t wd → RfX M m L t s → x_i M m 43 = nI (10 - n) → GdT L (q_l s) → 2 * q_c s ≤ plT L (q_l s) → a < q_c s → a' < 130 → (kdT (q_l s) ≠ 1 → a' = a) → (∀ M' b, FrM M M' m FRr ARr → x_i M' m 43 = x_i M m 43 → RfO M' m L t b (lpG L g 9 4 k a s) → Q (some (.int (nI b))) M') → LX12_or_5 G (d + (x + 6)) 0 0 m (nI a') z2 z3 z4 M Q := by
  intro k
  induction k with
  | zero =>
    intro a a' s M z2 z3 z4 h2 h3 h4 hlen hE hX h43 hGd hpl ha ha' haa hQ
    have hk0 := kd_nil (Nat.le_zero.mp hlen)
    have hI := hX.1 (by omega)
    have kt : x_i M m 39 = 8 ↔ kdT (q_l s) = 9 := hI.tk (j := 9) (by omega) (by omega) (by omega)
    exact vX12_or_5 _ _ _ _ _ h2 h3 h4 ⟨hE.1.1.1, fun _ => hQ M a' FrM.rf rfl ⟨ha', hX, haa⟩, fun q => absurd (kt.mp q) (by omega)⟩
  | succ k ih =>
    intro a a' s M z2 z3 z4 h2 h3 h4 hlen hE hX h43 hGd hpl ha ha' haa hQ
    by_cases cb : kdT (q_l s) = 1
    · have hG := hX.2 cb
      refine vX12_or_5 _ _ _ _ _ h2 h3 h4 ⟨hE.1.1.1, fun _ => hQ M a' FrM.rf rfl ?_, fun q => absurd (hG.1.2.2.2.symm.trans q) (by decide)⟩
      have e : lpG L g 9 4 (k + 1) a s = .inr (a, s) := by
        show (if kdT (q_l s) = 9 then _ else _) = _
        rw [if_neg (by omega)]
      rw [e]
      exact ⟨ha', hX, haa⟩
    have hI := hX.1 cb
    have kt : x_i M m 39 = 8 ↔ kdT (q_l s) = 9 := hI.tk (j := 9) (by omega) (by omega) (by omega)
    have e41 : x_i M m 41 = nI (plT L (q_l s)) := hI.1.1.1
    refine vX12_or_5 _ _ _ _ _ h2 h3 h4 ⟨hE.1.1.1, fun q => hQ M a' FrM.rf rfl ?_, fun q => ?_⟩
    · have e : lpG L g 9 4 (k + 1) a s = .inr (a, s) := by
        show (if kdT (q_l s) = 9 then _ else _) = _
        rw [if_neg (fun z => q (kt.mpr z))]
      rw [e]
      exact ⟨ha', hX, haa⟩
    have hk := kt.mp q
    have estep : lpG L g 9 4 (k + 1) a s = (match g (tlS s) with | .inl p => .inl p | .inr (b, s1) => lpG L g 9 4 k (q_c s1) (jnP 4 (plT L (q_l s)) a b s1)) := by
      show (if kdT (q_l s) = 9 then _ else _) = _
      rw [if_pos hk]
      rfl
    rw [estep] at hQ
    obtain ⟨t1, t2, t3, -⟩ := gd_tail hGd (show kdT (q_l s) ≠ 0 by omega)
    rw [hk] at t2
    have kk : lnK 9 = 2 := rfl
    have hc60 := hI.2.1.1
    rw [haa cb, e41]
    refine ur_nextS (d + (x + 2)) hE hI (by omega) (fun M4 g4 hX4 => ⟨rfl, ?_⟩)
    have g4' : FrM M M4 m FRr ARr := g4.wk (by decide) (by decide)
    have hE4 := hE.fr g4'
    have f43 : x_i M4 m 43 = x_i M m 43 := g4.fm (by decide)
    refine h d M4 (tlS s) _ hE4 hX4 (by rw [f43]; exact h43) t1 (by show 2 * q_c s ≤ plT L (q_l s).tail; omega) (fun M6 b' g6 e43 hO => ⟨_, rfl, ?_⟩)
    have g6' := g4'.tr g6 (fun _ h => h) (fun _ h => h)
    have hE6 := hE.fr g6'
    have h43' : x_i M6 m 43 = x_i M m 43 := e43.trans f43
    have vp : ∀ {y : Nat}, y < 130 → vp_in (nI y) 130 := fun hy => vp_in_nI hy (by omega)
    have stop : ∀ p, RfG M6 m p → b' < 130 → (∀ M' b, FrM M M' m FRr ARr → x_i M' m 43 = x_i M m 43 → b < 130 → RfG M' m p → Q (some (.int (nI b))) M') → (x_h M6 m).1 = 28 ∧ Call G (d + (x + 6)) 0 0 mX12_ended [.ref m, .int 4, .int (nI a), .int (nI b'), .int 0, .int (nI (plT L (q_l s)))] M6 (fun r9 M10 => ∃ v11 : Int32, r9 = some (.int v11) ∧ (x_h M10 m).1 = 28 ∧ (∃ b13, x_r M10 m 53 = some b13 ∧ (x_h M10 b13).1 = 1 ∧ vp_in (nI a) (x_h M10 b13).2 ∧ vp_in (nI b') (x_h M10 b13).2 ∧ vp_in v11 (x_h M10 b13).2 ∧ (∀ M18, M18 = x_si M10 b13 v11.toNatClampNeg ((x_i M10 b13 (nI a).toNatClampNeg) ||| (x_i M10 b13 (nI b').toNatClampNeg)) → LX12_or_5 G (d + (x + 6)) 0 0 m v11 (some (.int (nI (plT L (q_l s))))) (some (.int (nI b'))) (some (.int v11)) M18 Q))) := by
      intro p f6 hb' hq
      obtain ⟨hF, c, hc, h47⟩ := f6
      refine ⟨hE6.1.1.1, ur_ended (d + (x + 5)) hE6.1.1 hc h47 (fun M10 g10 e47 e30 e31 e32 e33 e34 eo => ⟨_, rfl, ?_⟩)⟩
      have s10 := g10.S hE6.1.1
      refine ⟨s10.1, m + 35, s10.r35, by rw [s10.h35], by rw [s10.h35]; exact vp (by omega), by rw [s10.h35]; exact vp hb', by rw [s10.h35]; exact vp (by omega), ?_⟩
      rintro M18 rfl
      rw [show (nI c).toNatClampNeg = c from nI_clamp (by omega)]
      have f18 := RfG.ended (v := x_i M10 (m + 35) (nI a).toNatClampNeg ||| x_i M10 (m + 35) (nI b').toNatClampNeg) hF g10 hc e47
      have g18 : FrM M10 (x_si M10 (m + 35) c (x_i M10 (m + 35) (nI a).toNatClampNeg ||| x_i M10 (m + 35) (nI b').toNatClampNeg)) m [] [35] := FrM.rf.si (by omega) (by decide)
      have g18' : FrM M (x_si M10 (m + 35) c (x_i M10 (m + 35) (nI a).toNatClampNeg ||| x_i M10 (m + 35) (nI b').toNatClampNeg)) m FRr ARr := (g6'.tr g10 (by decide) (by decide)).tr g18 (by decide) (by decide)
      refine vX12_or_5 _ _ _ _ _ rfl rfl rfl ⟨(g18'.S hE.1.1).1, fun _ => hq _ c g18' ?_ (by omega) f18, fun z => absurd (f18.1.2.2.2.symm.trans z) (by decide)⟩
      rw [g18.fm (by decide), g10.fm (by decide)]; exact h43'
    cases hgs : g (tlS s) with
    | inl p =>
      rw [hgs] at hO hQ
      exact stop p hO.2 hO.1 (fun M' b gg e hb hf => hQ M' b gg e ⟨hb, hf⟩)
    | inr bs =>
      obtain ⟨b, s1⟩ := bs
      rw [hgs] at hO hQ
      obtain ⟨o1, o2, o3⟩ := hO
      simp only at hQ
      obtain ⟨⟨w1, w2, w3, w4, w5, w6⟩, v1, v2, v3, v4⟩ := hg (tlS s) b s1 t1 hgs
      have e4 : q_l (tlS s) = (q_l s).tail := rfl
      have e5 : q_c (tlS s) = q_c s := rfl
      simp only [e4, e5] at w2 w3 w4 w5 v1 v2 v3
      have hle1 := gd_le _ w1
      have hL := hE.1.2.2.1
      have hc1 : q_c s1 < 60 := by omega
      by_cases cb1 : kdT (q_l s1) = 1
      · refine stop (plT L (q_l s1)) (o2.2 cb1) o1 (fun M' b2 gg e hb hf => hQ M' b2 gg e ?_)
        have el : lpG L g 9 4 k (q_c s1) (jnP 4 (plT L (q_l s)) a b s1) = .inr (q_c s1, jnP 4 (plT L (q_l s)) a b s1) := by
          cases k with
          | zero => rfl
          | succ k =>
            show (if kdT (q_l s1) = 9 then _ else _) = _
            rw [if_neg (by omega)]
        rw [el]
        exact ⟨hb, ⟨fun z => absurd cb1 z, fun _ => hf⟩, fun z => absurd cb1 z⟩
      · have hI1 := o2.1 cb1
        have hbb := o3 cb1
        subst hbb
        have h47 : x_i M6 m 47 = nI (q_c s1) := hI1.1.2.2.2.2.2.2.2.2
        refine ⟨hE6.1.1.1, ur_ended (d + (x + 5)) hE6.1.1 (by omega) h47 (fun M10 g10 e47 e30 e31 e32 e33 e34 eo => ⟨_, rfl, ?_⟩)⟩
        have s10 := g10.S hE6.1.1
        refine ⟨s10.1, m + 35, s10.r35, by rw [s10.h35], by rw [s10.h35]; exact vp (by omega), by rw [s10.h35]; exact vp (by omega), by rw [s10.h35]; exact vp (by omega), ?_⟩
        rintro M18 rfl
        have ef : ∀ j, j < q_c s1 → x_i M10 (m + 35) j = nI (p_s (q_D s1 j)) := fun j hj => by rw [g10.i (by omega) (by decide)]; exact hI1.free hj
        rw [show (nI (q_c s1)).toNatClampNeg = q_c s1 from nI_clamp (by omega), show (nI a).toNatClampNeg = a from nI_clamp (by omega), show (nI b').toNatClampNeg = b' from nI_clamp (by omega), ef a (by omega), ef b' v4, nI_or]
        have h256 := or_256 (hI1.2.1.2.1 a (by omega)) (hI1.2.1.2.1 b' v4)
        have hJ : RfI (x_si M10 (m + 35) (q_c s1) (nI (p_s (q_D s1 a) ||| p_s (q_D s1 b')))) m L t (jnP 4 (plT L (q_l s)) a b' s1) :=
          RfI.ended (P := (4, plT L (q_l s), a, b', 0, p_s (q_D s1 a) ||| p_s (q_D s1 b'), s0D, s0D)) hI1 hc1 g10 e47 e30 e31 (fun _ => e32) (fun z => absurd z (by show ¬ (4 = 6 ∨ 4 = 7); omega)) e34 eo (by show 2 ≤ 4; omega) (by show a < q_c s1; omega) h256
        have g18 : FrM M10 (x_si M10 (m + 35) (q_c s1) (nI (p_s (q_D s1 a) ||| p_s (q_D s1 b')))) m [] [35] := FrM.rf.si (by omega) (by decide)
        have g18' : FrM M (x_si M10 (m + 35) (q_c s1) (nI (p_s (q_D s1 a) ||| p_s (q_D s1 b')))) m FRr ARr := (g6'.tr g10 (by decide) (by decide)).tr g18 (by decide) (by decide)
        have f18 : x_i (x_si M10 (m + 35) (q_c s1) (nI (p_s (q_D s1 a) ||| p_s (q_D s1 b')))) m 43 = x_i M m 43 := by rw [g18.fm (by decide), g10.fm (by decide)]; exact h43'
        refine ih (q_c s1) (q_c s1) (jnP 4 (plT L (q_l s)) a b' s1) _ _ _ _ rfl rfl rfl (by show (q_l s1).length ≤ k; omega) (hE.fr g18') ⟨fun _ => hJ, fun z => absurd z cb1⟩ (by rw [f18]; exact h43) w1 (by show 2 * (q_c s1 + 1) ≤ plT L (q_l s1); omega) (Nat.lt_succ_self _) (by omega) (fun _ => rfl) (fun M' b2 gg e hO2 => hQ M' b2 (g18'.tr gg (fun _ h => h) (fun _ h => h)) (e.trans f18) hO2)
theorem ur_or {n x : Nat} {g : PSt → PRt} (hg : SgP L g) (h : ∀ d, ReC G m L rc t wd n mX12_and (d + (x + 6)) g) (hn : n ≤ 10) (d : Nat) : ReC G m L rc t wd n mX12_or (d + (x + 7)) (fun s => match g s with | .inl p => .inl p | .inr (a, s1) => lpG L g 9 4 120 a s1) := by
  intro M s Q hE hX h43 hGd hpl hQ
  refine eX12_or m (h d M s _ hE hX h43 hGd hpl (fun M2 a g2 e2 hO => ⟨_, rfl, ?_⟩))
  have hE2 := hE.fr g2
  have hL := hE.1.2.2.1
  have eu : (fun s => match g s with | .inl p => (.inl p : PRt) | .inr (a, s1) => lpG L g 9 4 120 a s1) s = (match g s with | .inl p => .inl p | .inr (a, s1) => lpG L g 9 4 120 a s1) := rfl
  rw [eu] at hQ
  cases hgs : g s with
  | inl p =>
    rw [hgs] at hO hQ
    have f2 : RfG M2 m p := hO.2
    exact vX12_or_5 _ _ _ _ _ rfl rfl rfl ⟨hE2.1.1.1, fun _ => hQ M2 a g2 e2 hO, fun z => absurd (f2.1.2.2.2.symm.trans z) (by decide)⟩
  | inr bs =>
    obtain ⟨b, s1⟩ := bs
    rw [hgs] at hO hQ
    obtain ⟨o1, o2, o3⟩ := hO
    obtain ⟨⟨w1, w2, w3, w4, w5, w6⟩, v1, v2, v3, v4⟩ := hg s b s1 hGd hgs
    have hlen := gd_len _ w1
    exact ur_or5 hg h hn d 120 b a s1 M2 none none none rfl rfl rfl (by omega) hE2 o2 (by rw [e2]; exact h43) w1 (by omega) v4 o1 o3 (fun M' b2 gg e hO2 => hQ M' b2 (g2.tr gg (fun _ h => h) (fun _ h => h)) (e.trans e2) hO2)
end RFormC
