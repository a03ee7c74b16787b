/-! ===== the reference: read ===== -/
section RRead2C
variable {G : GG} {M : Mem} {m L rc : Nat} {t wd : Nat → Nat} {Q : Option Value → Mem → Prop}
/-- what the reference has read -/
def RqT (M : Mem) (m : Nat) (res : PRt) : Prop := x_i M m 45 = nI (ftR res).1 ∧ x_i M m 46 = nbI (ftR res).2 ∧ (∃ c, c ≤ 129 ∧ x_i M m 47 = nI c) ∧ ∀ a s, res = .inr (a, s) → (ftR res).1 = 0 → x_i M m 47 = nI (q_c s) ∧ ∀ j, j < q_c s → ReD M m (q_D s) j
theorem ur_read64 (d : Nat) (hE : RfE M m L rc t wd) {a : Nat} {s : PSt} (hI : RfI M m L t s) (hQ : ∀ M', FrM M M' m [45, 46] [] → RqT M' m (.inr (a, s)) → Q none M') : LX12_read_64 G (d + 2) 0 0 m 0 M Q := by
  have hs := hE.1.1
  obtain ⟨hH, ⟨b1, b2, b3, b4⟩, hD⟩ := hI
  obtain ⟨h1, h2, h3, h4, h5, h6, h7, h8, h9⟩ := hH
  cases ho : q_o s with
  | some p =>
    rw [ho] at h7 h8
    rw [if_neg (by simp)] at h7
    have ef : ftR (.inr (a, s)) = (2, some p) := by
      show (match q_o s with | some p => _ | none => _) = _
      rw [ho]
    have hq := hQ M FrM.rf ⟨by rw [ef]; exact h7, by rw [ef]; exact h8, ⟨q_c s, by omega, h9⟩, fun a' s' e z => by rw [ef] at z; exact absurd z (by show ¬ 2 = 0; omega)⟩
    refine vX12_read_64 _ _ ⟨hs.1, fun _ => hq, fun _ => ⟨fun _ => hq, fun z => absurd (h7.symm.trans z) (by decide)⟩⟩
  | none =>
    rw [ho] at h7 h8
    rw [if_pos rfl] at h7
    have ef : ftR (.inr (a, s)) = (match crF (q_D s) (q_c s) 0 with | some p => (3, some p) | none => (0, none)) := by
      show (match q_o s with | some p => _ | none => _) = _
      rw [ho]
      rfl
    have key : ∀ n j, j + n = q_c s → crF (q_D s) (q_c s) 0 = crF (q_D s) n j → LX12_read_64 G (d + 2) 0 0 m (nI j) M Q := by
      intro n
      induction n with
      | zero =>
        intro j hj hf
        have ef2 : ftR (.inr (a, s)) = (0, none) := by rw [ef, hf]; rfl
        have hq := hQ M FrM.rf ⟨by rw [ef2]; exact h7, by rw [ef2]; exact h8, ⟨q_c s, by omega, h9⟩, fun a' s' e z => by cases e; exact ⟨h9, fun j hj => (hD j hj).1⟩⟩
        exact vX12_read_64 _ _ ⟨hs.1, fun _ => hq, fun z => absurd (by rw [h9, nI_leI (by omega) (by omega)]; omega) z⟩
      | succ n ih =>
        intro j hj hf
        have hP := (hD j (by omega)).1
        have h256 := b2 j (by omega)
        have hp8 := pc_le (p_s (q_D s j))
        have hcl : (nI j).toNatClampNeg = j := nI_clamp (by omega)
        refine vX12_read_64 _ _ ⟨hs.1, fun z => absurd z (by rw [h9]; exact nI_ge (a := j) (b := q_c s) (by omega) (by omega)), fun _ => ⟨fun z => absurd h7 z, fun _ => ⟨m + 35, hs.r35, by rw [hs.h35], by rw [hs.h35]; exact vp_in_nI (show j < 130 by omega) (by omega), ?_⟩⟩⟩
        rw [hcl, hP.2.2.1]
        refine u_bits (d + 1) h256 ⟨_, rfl, ?_⟩
        rw [show (3 : Int32) = nI 3 from rfl, nI_leI (by omega) (by omega)]
        refine ⟨fun c => ?_, fun c => ⟨hs.1, ?_⟩⟩
        · rw [nI_1]
          exact ih (j + 1) (by omega) (by rw [hf]; show (if _ then _ else _) = _; rw [if_neg (by omega)])
        · rintro M12 rfl
          refine ⟨m + 34, hs.r34, by rw [hs.h34], by rw [hs.h34]; exact vp_in_nI (show j < 130 by omega) (by omega), ?_⟩
          rintro M16 rfl
          have ef2 : ftR (.inr (a, s)) = (3, some (p_p (q_D s j))) := by
            rw [ef, hf]
            have : crF (q_D s) (n + 1) j = some (p_p (q_D s j)) := by show (if _ then _ else _) = _; rw [if_pos (by omega)]
            rw [this]
          have ev : x_i (x_si M m 45 (nI 3)) (m + 34) j = nI (p_p (q_D s j)) := by rw [xi_na (by omega)]; exact hP.2.1
          rw [ev]
          have g : FrM M (x_si (x_si M m 45 (nI 3)) m 46 (nI (p_p (q_D s j)))) m [45, 46] [] := (FrM.rf.sm (by decide)).sm (by decide)
          have e47 : x_i (x_si (x_si M m 45 (nI 3)) m 46 (nI (p_p (q_D s j)))) m 47 = nI (q_c s) := by rw [g.fm (by decide)]; exact h9
          have e45 : x_i (x_si (x_si M m 45 (nI 3)) m 46 (nI (p_p (q_D s j)))) m 45 = 3 := by rw [xi_nk (by omega), xi_eq]; rfl
          have hq := hQ _ g ⟨by rw [ef2]; exact e45, by rw [ef2]; exact xi_eq, ⟨q_c s, by omega, e47⟩, fun a' s' e z => by rw [ef2] at z; exact absurd z (by show ¬ 3 = 0; omega)⟩
          exact vX12_read_64 _ _ ⟨hs.1, fun _ => hq, fun _ => ⟨fun _ => hq, fun z => absurd (e45.symm.trans z) (by decide)⟩⟩
    exact key (q_c s) 0 (Nat.zero_add _) rfl
theorem ur_read64G (d : Nat) (hs : (x_h M m).1 = 28) {p : Nat} (hG : RfG M m p) (hQ : RqT M m (.inl p) → Q none M) : LX12_read_64 G (d + 2) 0 0 m 0 M Q := by
  obtain ⟨⟨f1, f2, f3, f4⟩, c, hc, h47⟩ := hG
  have hq := hQ ⟨f2, f3, ⟨c, hc, h47⟩, fun a s e => by cases e⟩
  exact vX12_read_64 _ _ ⟨hs, fun _ => hq, fun _ => ⟨fun _ => hq, fun z => absurd (f2.symm.trans z) (by decide)⟩⟩
theorem ur_read (d : Nat) (hE : RfE M m L rc t wd) (hQ : ∀ M', FrM M M' m FRr ARr → RqT M' m (rdP L rc wd (tl t L 0)) → Q none M') : Call G (d + 1470) 0 0 mX12_read [.ref m] M Q := by
  have hL := hE.1.2.2.1
  obtain ⟨gd1, gd2⟩ := gd_tl (t := t) (L := L) L 0 (by omega) (Nat.zero_le _)
  have hlen := gd_len _ gd1
  refine eX12_read m ⟨hE.1.1.1, ?_⟩
  rintro M2 rfl M3 rfl M4 rfl M5 rfl M6 rfl M7 rfl M8 rfl
  generalize hM8 : x_si (x_si (x_si (x_si (x_si (x_si (x_si M m 38 0) m 42 0) m 43 0) m 44 0) m 47 0) m 45 0) m 46 (-1) = M8
  have g8 : FrM M M8 m FRr ARr := by rw [← hM8]; exact ((((((FrM.rf.sm (by decide)).sm (by decide)).sm (by decide)).sm (by decide)).sm (by decide)).sm (by decide)).sm (by decide)
  have hE8 := hE.fr g8
  have e38 : x_i M8 m 38 = nI 0 := by rw [← hM8, xi_nk (by omega), xi_nk (by omega), xi_nk (by omega), xi_nk (by omega), xi_nk (by omega), xi_nk (by omega), xi_eq]; rfl
  have e42 : x_i M8 m 42 = 0 := by rw [← hM8, xi_nk (by omega), xi_nk (by omega), xi_nk (by omega), xi_nk (by omega), xi_nk (by omega), xi_eq]
  have e43 : x_i M8 m 43 = nI (10 - 10) := by rw [← hM8, xi_nk (by omega), xi_nk (by omega), xi_nk (by omega), xi_nk (by omega), xi_eq]; rfl
  have e44 : x_i M8 m 44 = nI 0 := by rw [← hM8, xi_nk (by omega), xi_nk (by omega), xi_nk (by omega), xi_eq]; rfl
  have e47 : x_i M8 m 47 = nI 0 := by rw [← hM8, xi_nk (by omega), xi_nk (by omega), xi_eq]; rfl
  have e45 : x_i M8 m 45 = nI 0 := by rw [← hM8, xi_nk (by omega), xi_eq]; rfl
  have e46 : x_i M8 m 46 = -1 := by rw [← hM8, xi_eq]
  clear hM8
  refine ur_next (d + 1465) hE8.1 (Nat.zero_le _) e38 e42 (fun M10 g10 hn => ⟨rfl, ?_⟩)
  have g10' : FrM M M10 m FRr ARr := g8.tr g10 (by decide) (by decide)
  have hE10 := hE.fr g10'
  have hX10 : RfX M10 m L t (st0 (tl t L 0)) := by
    refine ⟨fun q => ?_, fun q => ⟨hn.2 q, 0, by omega, by rw [g10.fm (by decide)]; exact e47⟩⟩
    obtain ⟨k1, k2, k3⟩ := hn.1 q
    exact ⟨⟨k2, q, gd1, k3, by rw [k1.fm (by decide)]; exact e42, by rw [k1.fm (by decide)]; exact e44, by rw [k1.fm (by decide)]; exact e45, by rw [k1.fm (by decide)]; exact e46, by rw [k1.fm (by decide)]; exact e47⟩, ⟨Nat.zero_le _, fun j hj => absurd hj (Nat.not_lt_zero j), (by show 0 < 256; omega), fun p hp => (by cases hp)⟩, fun j hj => absurd hj (Nat.not_lt_zero j)⟩
  have hg := pcP_pg (L := L) (rc := rc) (wd := wd) 10
  have fo : ∀ d, ReC G m L rc t wd 10 mX12_or (d + (1314 + 8)) (orG L (pcP L rc wd 10)) := ur_or (x := 1314 + 1) (anG_pg hg) (ur_and (x := 1314) hg (ur_notN 10 (Nat.le_refl _)) (by omega)) (by omega)
  have hf := ur_f (x := 1314) hg fo (Nat.le_refl 10)
  refine cd_ (d' := d + 25 + (1314 + 8) + 122) (show d + 25 + (1314 + 8) + 122 = d + 1469 by omega) (hf 122 (d + 25) M10 (st0 (tl t L 0)) _ (by show (tl t L 0).length < 122; omega) hE10 hX10 (by rw [g10.fm (by decide)]; exact e43) gd1 (Nat.zero_le _) (fun M12 a g12 e12 hO => ⟨_, rfl, ?_⟩))
  have g12' := g10'.tr g12 (fun _ h => h) (fun _ h => h)
  have hE12 := hE.fr g12'
  refine ⟨hE12.1.1.1, ?_⟩
  have eR : rdP L rc wd (tl t L 0) = (match soG L (pcP L rc wd 10) 122 (st0 (tl t L 0)) with | .inl p => .inl p | .inr (a, s) => if kdT (q_l s) = 0 then .inr (a, s) else .inl (plT L (q_l s))) := rfl
  have bad : ∀ p M', rdP L rc wd (tl t L 0) = .inl p → FrM M M' m FRr ARr → RfG M' m p → LX12_read_64 G (d + 1469) 0 0 m 0 M' Q := fun p M' er g f =>
    ur_read64G (d + 1467) (g.S hE.1.1).1 f (fun h => hQ M' g (by rw [er]; exact h))
  cases hgs : soG L (pcP L rc wd 10) 122 (st0 (tl t L 0)) with
  | inl p =>
    rw [hgs] at hO eR
    have f12 : RfG M12 m p := hO.2
    exact ⟨fun _ => bad p M12 eR g12' f12, fun z => absurd (f12.1.1.symm.trans z) (by decide)⟩
  | inr bs =>
    obtain ⟨b, s⟩ := bs
    rw [hgs] at hO eR
    simp only at eR
    obtain ⟨o1, o2, o3⟩ := hO
    by_cases cb : kdT (q_l s) = 1
    · rw [if_neg (by omega)] at eR
      have f12 := o2.2 cb
      exact ⟨fun _ => bad _ M12 eR g12' f12, fun z => absurd (f12.1.1.symm.trans z) (by decide)⟩
    · have hI := o2.1 cb
      have i42 : x_i M12 m 42 = 0 := hI.1.2.2.2.2.1
      have kt : x_i M12 m 39 = 0 ↔ kdT (q_l s) = 0 := hI.tk (j := 0) (by omega) (by omega) (by omega)
      refine ⟨fun z => absurd i42 z, fun _ => ⟨fun c => ?_, fun c => ur_cannotS (d + 1468) hE12 hI (fun M18 g18 f18 => ⟨rfl, bad _ M18 ?_ (g12'.tr g18 (by decide) (by decide)) f18⟩)⟩⟩
      · rw [if_pos (kt.mp c)] at eR
        exact ur_read64 (a := b) (d + 1467) hE12 hI (fun M' g h => hQ M' (g12'.tr g (by decide) (by decide)) (by rw [eR]; exact h))
      · rw [if_neg (fun z => c (kt.mpr z))] at eR
        exact eR
end RRead2C
