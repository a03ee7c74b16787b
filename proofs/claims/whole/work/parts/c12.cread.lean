/-! ===== the class: a text is read ===== -/
section ReadC
variable {G : GG} {M : Mem} {r k pa p0 ra r0 L rc : Nat} {wd : Nat → Nat} {W : List Tk} {Q : Option Value → Mem → Prop}
theorem w_enclosed {n y : Nat} {sub : PSt → PRt} (hg : SgP L sub) (h : ∀ d, FmC G r k pa p0 ra r0 L rc wd W n 1 (d + (y + 2)) (orG L sub)) (hn : n < 10) (d : Nat) (hE : RdE M r k pa p0 ra r0 L rc wd W) {s : PSt} {op : Nat} (hI : RdI M r p0 rc W s) (hq : RdQ L (n + 1) op s) (hk : kdT (q_l s) = 11)
    (hQ : ∀ M', FrP M M' (RPF r p0) → RdO M' r p0 rc L W (ecP L sub s) → Q (some (.int (roV (ecP L sub s)))) M') :
    Call G (d + (y + 2) + 122 + 1) 0 0 mX5_enclosed [.ref r, .int (nI (10 - (n + 1))), .int (nI op)] M Q := by
  have hL := hE.2.2.2.2.2
  have hr : r < p0 := by have := hE.1.2.2.2.2.2.2.2; omega
  refine eX5_enclosed r _ _ ⟨hE.1.1, ?_⟩
  rintro M2 rfl
  have g2 : FrP M (x_si M r 5 (x_i M r 5 + 1)) (RPF r p0) := Fr.R1 (Fr.rf.si (by simp))
  have hI2 := hI.si5 hr (show kdT (q_l s) ≠ 0 by omega) hE.len
  obtain ⟨t1, t2, t3, -⟩ := gd_tail hq.1 (show kdT (q_l s) ≠ 0 by omega)
  have q2 := hq.2.1
  have q3 := hq.2.2
  have hlen := gd_len _ t1
  rw [nI_1, nI_1, show 10 - (n + 1) + 1 = 10 - n by omega]
  refine w_lev0 hg h 122 d _ (tlS s) (op + 1) _ (by show (q_l s).tail.length < 122; omega) (hE.fr g2) hI2 ⟨t1, by show 2 * q_c s ≤ plT L (q_l s).tail; omega, by show _ ≤ plT L (q_l s).tail + 50; omega⟩ (fun M4 g4 h4 => ?_)
  have g4' := g2.tr g4 (fun _ h => h)
  unfold ecP at hQ
  cases hgs : soG L sub 122 (tlS s) with
  | inl p =>
    rw [hgs] at h4 hQ
    exact ⟨_, rfl, fun _ => hQ M4 g4' h4, fun c => absurd (show (-1 : Int32) < 0 by decide) c⟩
  | inr bs =>
    obtain ⟨a, s1⟩ := bs
    rw [hgs] at h4 hQ
    obtain ⟨⟨⟨w1, w2, w3, w4, w5, w6⟩, v1, v2, v3, v4⟩, -⟩ := soG_pg hg 122 (tlS s) a s1 t1 hgs
    have hle1 := gd_le _ w1
    have e5 : q_c (tlS s) = q_c s := rfl
    have e4 : q_l (tlS s) = (q_l s).tail := rfl
    simp only [e4, e5] at w2 w3 w4 w5 v1 v2 v3
    have hE4 := hE.fr g4'
    simp only at hQ
    refine ⟨_, rfl, fun c => absurd c (RdI.roV0 (a := a) (by omega)).1, fun _ => ⟨hE4.1.1, w_eat (kd := 12) (d + (y + 1) + 120) hE4 h4 (by omega) (by omega) (fun e M9 g9 h9 => ⟨1, rfl, fun c => absurd c (by decide), fun _ => ?_⟩) (fun e M9 g9 f9 => ⟨0, rfl, fun _ => ?_, fun c => absurd rfl c⟩)⟩⟩
    · rw [if_pos e] at hQ
      exact hQ M9 (g4'.tr (g9.R1 (p0 := p0)) (fun _ h => h)) h9
    · rw [if_neg e] at hQ
      exact hQ M9 (g4'.tr (g9.R1 (p0 := p0)) (fun _ h => h)) f9
theorem w_pc0 (d : Nat) : PcC G r k pa p0 ra r0 L rc wd W 0 (d + 8) (pcP L rc wd 0) := by
  intro M s op Q hE hI hq hQ
  exact eX5_piece r _ _ ⟨fun c => absurd c (by decide), fun _ => ⟨hE.1.1, w_fail (d + 5) hE hI (fun M' g f => ⟨_, rfl, hQ M' (g.R1 (p0 := p0)) f⟩)⟩⟩
theorem w_pcS {n z : Nat} (hn : n < 10) (h : ∀ d, PcC G r k pa p0 ra r0 L rc wd W n (d + (z + 8)) (pcP L rc wd n)) (d : Nat) : PcC G r k pa p0 ra r0 L rc wd W (n + 1) (d + (z + 138)) (pcP L rc wd (n + 1)) := by
  intro M s op Q hE hI hq hQ
  have hg := pcP_pg (L := L) (rc := rc) (wd := wd) n
  have hL := hE.2.2.2.2.2
  have hop := hq.op hL
  have hkd := kd_le hq.1
  have hle := gd_le _ hq.1
  have f1 : ∀ d, FmC G r k pa p0 ra r0 L rc wd W n 1 (d + (z + 9 + 2)) (orG L (pcP L rc wd n)) :=
    w_lev (lev := 1) (y := z + 8) (Or.inl ⟨rfl, rfl, rfl⟩) (anG_pg hg) (w_lev (lev := 2) (y := z + 7) (Or.inr ⟨rfl, rfl, rfl⟩) hg (w_fm3 h))
  have e0 : pcP L rc wd (n + 1) s = pcS L rc wd (pcP L rc wd n) s := rfl
  have out : ∀ {M'} (res : PRt), pcP L rc wd (n + 1) s = res → FrP M M' (RPF r p0) → RdO M' r p0 rc L W res → Q (some (.int (roV res))) M' := fun res e g h => by rw [← e] at h ⊢; exact hQ _ g h
  have qk : ∀ c, c < 32 → (nI (kdT (q_l s)) = nI c ↔ kdT (q_l s) = c) := fun c hc => nI_eq (by omega) (by omega)
  have hc60 : kdT (q_l s) ≠ 0 → q_c s < 60 := fun c => by
    have h2 := hq.2.1
    obtain ⟨t1, t2, -⟩ := gd_tail hq.1 c
    have := ln_pos (kdT (q_l s))
    have := gd_le _ t1
    omega
  have bad : ¬ (kdT (q_l s) = 7) → ¬ (kdT (q_l s) = 5 ∨ kdT (q_l s) = 6) → ¬ kdT (q_l s) = 11 → ¬ kdT (q_l s) = 4 → ¬ (kdT (q_l s) = 2 ∨ kdT (q_l s) = 3) → Call G (d + (z + 137)) 0 0 mX5_fail [.ref r] M (fun r57 M58 => ∃ v59 : Int32, r57 = some (.int v59) ∧ Q (some (.int v59)) M58) := by
    intro a1 a2 a3 a4 a5
    refine w_fail (d + (z + 135)) hE hI (fun M' g f => ⟨_, rfl, out (.inl (plT L (q_l s))) ?_ (g.R1 (p0 := p0)) f⟩)
    rw [e0]
    unfold pcS
    rw [if_neg a1, if_neg a2, if_neg a3, if_neg a4, if_neg a5]
  have sumc : kdT (q_l s) = 2 ∨ kdT (q_l s) = 3 → Call G (d + (z + 137)) 0 0 mX5_sumAtom [.ref r] M (fun r57 M58 => ∃ v59 : Int32, r57 = some (.int v59) ∧ Q (some (.int v59)) M58) := by
    intro c
    refine w_sumAtom (d + (z + 131)) hE hI hq.1 (hc60 (by omega)) (fun M' g f => ⟨_, rfl, out (saP L s) ?_ g f⟩)
    rw [e0]
    unfold pcS
    rw [if_neg (by omega), if_neg (by omega), if_neg (by omega), if_neg (by omega), if_pos c]
  have bndc : kdT (q_l s) = 5 ∨ kdT (q_l s) = 6 → Call G (d + (z + 137)) 0 0 mX5_bind [.ref r, .int (nI (kdT (q_l s) + 1)), .int (nI (10 - (n + 1))), .int (nI op)] M (fun r57 M58 => ∃ v59 : Int32, r57 = some (.int v59) ∧ Q (some (.int v59)) M58) := by
    intro c
    have h' : ∀ d, PcC G r k pa p0 ra r0 L rc wd W n (d + (z + 5 + 3)) (pcP L rc wd n) := h
    refine cd_ (d' := d + 128 + (z + 5 + 4)) (show d + 128 + (z + 5 + 4) = d + (z + 137) by omega) (w_bindX hg h' hn (d + 128) hE hI hq c (fun M' g f => ⟨_, rfl, out (bnP L (pcP L rc wd n) s) ?_ g f⟩))
    rw [e0]
    unfold pcS bnP
    rw [if_neg (show ¬ kdT (q_l s) = 7 by omega), if_pos c]
    rfl
  refine eX5_piece r _ _ ⟨fun _ => ⟨hE.1.1, w_peek (d + (z + 136)) hE hI.1.2.2.1 ⟨_, rfl, ?_⟩⟩, fun c => absurd (by rw [show (10 : Int32) = nI 10 from rfl, nI_ltI (by omega) (by omega)]; omega) c⟩
  refine ⟨fun c => ⟨hE.1.1, sumc (Or.inl ((qk 2 (by omega)).mp c))⟩, fun c => ⟨hE.1.1, sumc (Or.inr ((qk 3 (by omega)).mp c))⟩, fun c => ⟨hE.1.1, ?_⟩, fun c => ⟨hE.1.1, ?_⟩, fun c => ⟨hE.1.1, ?_⟩, fun c => ⟨hE.1.1, ?_⟩, fun c => ⟨hE.1.1, ?_⟩, fun c => ⟨hE.1.1, ?_⟩, fun c => ⟨hE.1.1, ?_⟩, fun c => ⟨hE.1.1, ?_⟩, fun c => ⟨hE.1.1, ?_⟩⟩
  · have c' := (qk 4 (by omega)).mp c
    refine w_rowAtom (d + (z + 131)) hE hI hq.1 (hc60 (by omega)) (fun M' g f => ⟨_, rfl, out (raP L rc wd s) ?_ g f⟩)
    rw [e0]
    unfold pcS
    rw [if_neg (by omega), if_neg (by omega), if_neg (by omega), if_pos c']
  · have c' := (qk 5 (by omega)).mp c
    have := bndc (Or.inl c')
    rw [c'] at this
    exact this
  · have c' := (qk 6 (by omega)).mp c
    have := bndc (Or.inr c')
    rw [c'] at this
    exact this
  · have c' := (qk 7 (by omega)).mp c
    have h' : ∀ d, PcC G r k pa p0 ra r0 L rc wd W n (d + (z + 6 + 2)) (pcP L rc wd n) := h
    refine cd_ (d' := d + 128 + (z + 6 + 3)) (show d + 128 + (z + 6 + 3) = d + (z + 137) by omega) (w_contrary hg h' hn (d + 128) hE hI hq c' (fun M' g f => ⟨_, rfl, out (ntP L (pcP L rc wd n) s) ?_ g f⟩))
    rw [e0]
    unfold pcS ntP
    rw [if_pos c']
    rfl
  · have c' := (qk 8 (by omega)).mp c
    exact bad (by omega) (by omega) (by omega) (by omega) (by omega)
  · have c' := (qk 9 (by omega)).mp c
    exact bad (by omega) (by omega) (by omega) (by omega) (by omega)
  · have c' := (qk 10 (by omega)).mp c
    exact bad (by omega) (by omega) (by omega) (by omega) (by omega)
  · have c' := (qk 11 (by omega)).mp c
    refine cd_ (d' := d + 3 + (z + 9 + 2) + 122 + 1) (show d + 3 + (z + 9 + 2) + 122 + 1 = d + (z + 137) by omega) (w_enclosed hg f1 hn (d + 3) hE hI hq c' (fun M' g f => ⟨_, rfl, out (ecP L (pcP L rc wd n) s) ?_ g f⟩))
    rw [e0]
    unfold pcS ecP
    rw [if_neg (show ¬ kdT (q_l s) = 7 by omega), if_neg (show ¬ (kdT (q_l s) = 5 ∨ kdT (q_l s) = 6) by omega), if_pos c']
    rfl
  · obtain ⟨n2, n3, n4, n5, n6, n7, n8, n9, n10, n11⟩ := c
    have m2 : ¬ kdT (q_l s) = 2 := fun x => n2 ((qk 2 (by omega)).mpr x)
    have m3 : ¬ kdT (q_l s) = 3 := fun x => n3 ((qk 3 (by omega)).mpr x)
    have m4 : ¬ kdT (q_l s) = 4 := fun x => n4 ((qk 4 (by omega)).mpr x)
    have m5 : ¬ kdT (q_l s) = 5 := fun x => n5 ((qk 5 (by omega)).mpr x)
    have m6 : ¬ kdT (q_l s) = 6 := fun x => n6 ((qk 6 (by omega)).mpr x)
    have m7 : ¬ kdT (q_l s) = 7 := fun x => n7 ((qk 7 (by omega)).mpr x)
    have m11 : ¬ kdT (q_l s) = 11 := fun x => n11 ((qk 11 (by omega)).mpr x)
    exact bad m7 (by omega) m11 m4 (by omega)
theorem w_pc : ∀ n, n ≤ 10 → ∀ d, PcC G r k pa p0 ra r0 L rc wd W n (d + (130 * n + 8)) (pcP L rc wd n)
  | 0, _, d => w_pc0 d
  | n + 1, hn, d => by
    have := w_pcS (z := 130 * n) (show n < 10 by omega) (w_pc n (by omega)) d
    rw [show 130 * (n + 1) + 8 = 130 * n + 138 by omega]
    exact this
theorem w_formula0 (d : Nat) (hE : RdE M r k pa p0 ra r0 L rc wd W) {s : PSt} (hI : RdI M r p0 rc W s) (hG : GdT L (q_l s)) (hc : q_c s = 0)
    (hQ : ∀ M', FrP M M' (RPF r p0) → RdO M' r p0 rc L W (soG L (pcP L rc wd 10) 122 s) → Q (some (.int (roV (soG L (pcP L rc wd 10) 122 s)))) M') :
    Call G (d + 1440) 0 0 mX5_formula [.ref r, .int 0, .int 0, .int 0] M Q := by
  have hg := pcP_pg (L := L) (rc := rc) (wd := wd) 10
  have hlen := gd_len _ hG
  have hL := hE.2.2.2.2.2
  have f1 : ∀ d, FmC G r k pa p0 ra r0 L rc wd W 10 1 (d + (1309 + 2)) (orG L (pcP L rc wd 10)) :=
    w_lev (lev := 1) (y := 1308) (Or.inl ⟨rfl, rfl, rfl⟩) (anG_pg hg) (w_lev (lev := 2) (y := 1307) (Or.inr ⟨rfl, rfl, rfl⟩) hg (w_fm3 (w_pc 10 (Nat.le_refl _))))
  exact cd_ (d' := d + 7 + (1309 + 2) + 122) (by omega) (w_lev0 hg f1 122 (d + 7) M s 0 Q (by omega) hE hI ⟨hG, by omega, by omega⟩ hQ)
end ReadC
