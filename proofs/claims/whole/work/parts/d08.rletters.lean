/-! ===== the reference: an atom of rows ===== -/
section RLettersC
variable {G : GG} {M : Mem} {m L rc : Nat} {t wd : Nat → Nat} {Q : Option Value → Mem → Prop}
abbrev ARl : List Nat := [30, 31, 32, 33, 34, 35, 39, 40, 41, 42, 43, 44, 45, 46]
theorem ur_la149 (d : Nat) (hs : ReS M m) {c : Nat} (hc : c ≤ 129) (h47 : x_i M m 47 = nI c) {x1 x2 x3 x4 x5 x6 : Int32}
    (hQ : ∀ M', FrM M M' m [47] ARl → x_i M' m 47 = nI (if c < 129 then c + 1 else c) → x_i M' (m + 30) c = 1 → x_i M' (m + 34) c = x5 → x_i M' (m + 35) c = x6 → x_i M' (m + 39) c = x1 → x_i M' (m + 40) c = x2 → x_i M' (m + 41) c = x3 → x_i M' (m + 42) c = x4 → x_i M' (m + 43) c = x_i M m 69 → x_i M' (m + 44) c = x_i M m 70 → x_i M' (m + 45) c = x_i M m 71 → x_i M' (m + 46) c = x_i M m 72 → (∀ o, o ∈ ARl → ∀ j, j ≠ c → x_i M' (m + o) j = x_i M (m + o) j) → Q (some (.int (nI c))) M') :
    LX12_lettersAtom_149 G (d + 1) 0 0 m x1 x2 x3 x4 x5 x6 M Q := by
  have hcl : (nI c).toNatClampNeg = c := nI_clamp (by omega)
  refine vX12_lettersAtom_149 _ _ _ _ _ _ _ ⟨hs.1, ur_ended d hs hc h47 (fun M3 g3 e47 e30 e31 e32 e33 e34 eo => ⟨_, rfl, ?_⟩)⟩
  have s3 := g3.S hs
  have e69 : x_i M3 m 69 = x_i M m 69 := g3.fm (by decide)
  have e70 : x_i M3 m 70 = x_i M m 70 := g3.fm (by decide)
  have e71 : x_i M3 m 71 = x_i M m 71 := g3.fm (by decide)
  have e72 : x_i M3 m 72 = x_i M m 72 := g3.fm (by decide)
  have iv : ∀ {o : Nat}, x_h M3 (m + o) = (1, 130) → (x_h M3 (m + o)).1 = 1 ∧ vp_in (nI c) (x_h M3 (m + o)).2 := fun h => by rw [h]; exact ⟨rfl, vp_in_nI (show c < 130 by omega) (by omega)⟩
  refine ⟨s3.1, m + 39, s3.r39, (iv s3.h39).1, (iv s3.h39).2, ?_⟩
  rintro M9 rfl
  refine ⟨m + 40, s3.r40, (iv s3.h40).1, (iv s3.h40).2, ?_⟩
  rintro M13 rfl
  refine ⟨m + 41, s3.r41, (iv s3.h41).1, (iv s3.h41).2, ?_⟩
  rintro M17 rfl
  refine ⟨m + 42, s3.r42, (iv s3.h42).1, (iv s3.h42).2, ?_⟩
  rintro M21 rfl
  refine ⟨m + 43, s3.r43, (iv s3.h43).1, (iv s3.h43).2, ?_⟩
  rintro M25 rfl
  refine ⟨m + 44, s3.r44, (iv s3.h44).1, (iv s3.h44).2, ?_⟩
  rintro M29 rfl
  refine ⟨m + 45, s3.r45, (iv s3.h45).1, (iv s3.h45).2, ?_⟩
  rintro M33 rfl
  refine ⟨m + 46, s3.r46, (iv s3.h46).1, (iv s3.h46).2, ?_⟩
  rintro M37 rfl
  refine ⟨m + 35, s3.r35, (iv s3.h35).1, (iv s3.h35).2, ?_⟩
  rintro M41 rfl
  rw [hcl]
  refine hQ _ (((((((((((g3.wk (by decide) (by decide)).si (by omega) (by decide)).si (by omega) (by decide)).si (by omega) (by decide)).si (by omega) (by decide)).si (by omega) (by decide)).si (by omega) (by decide)).si (by omega) (by decide)).si (by omega) (by decide)).si (by omega) (by decide))) ?_ ?_ ?_ xi_eq ?_ ?_ ?_ ?_ ?_ ?_ ?_ ?_ (fun o ho j hj => ?_)
  · rw [xi_na (by omega), xi_na (by omega), xi_na (by omega), xi_na (by omega), xi_na (by omega), xi_na (by omega), xi_na (by omega), xi_na (by omega), xi_na (by omega)]; exact e47
  · rw [xi_na (by omega), xi_na (by omega), xi_na (by omega), xi_na (by omega), xi_na (by omega), xi_na (by omega), xi_na (by omega), xi_na (by omega), xi_na (by omega)]; exact e30
  · rw [xi_na (by omega), xi_na (by omega), xi_na (by omega), xi_na (by omega), xi_na (by omega), xi_na (by omega), xi_na (by omega), xi_na (by omega), xi_na (by omega)]; exact e34
  · rw [xi_na (by omega), xi_na (by omega), xi_na (by omega), xi_na (by omega), xi_na (by omega), xi_na (by omega), xi_na (by omega), xi_na (by omega), xi_eq]
  · rw [xi_na (by omega), xi_na (by omega), xi_na (by omega), xi_na (by omega), xi_na (by omega), xi_na (by omega), xi_na (by omega), xi_eq]
  · rw [xi_na (by omega), xi_na (by omega), xi_na (by omega), xi_na (by omega), xi_na (by omega), xi_na (by omega), xi_eq]
  · rw [xi_na (by omega), xi_na (by omega), xi_na (by omega), xi_na (by omega), xi_na (by omega), xi_eq]
  · rw [xi_na (by omega), xi_na (by omega), xi_na (by omega), xi_na (by omega), xi_eq, xi_na (by omega), xi_na (by omega), xi_na (by omega), xi_na (by omega), e69]
  · rw [xi_na (by omega), xi_na (by omega), xi_na (by omega), xi_eq, xi_na (by omega), xi_na (by omega), xi_na (by omega), xi_na (by omega), xi_na (by omega), e70]
  · rw [xi_na (by omega), xi_na (by omega), xi_eq, xi_na (by omega), xi_na (by omega), xi_na (by omega), xi_na (by omega), xi_na (by omega), xi_na (by omega), e71]
  · rw [xi_na (by omega), xi_eq, xi_na (by omega), xi_na (by omega), xi_na (by omega), xi_na (by omega), xi_na (by omega), xi_na (by omega), xi_na (by omega), e72]
  · rw [xi_nk hj, xi_nk hj, xi_nk hj, xi_nk hj, xi_nk hj, xi_nk hj, xi_nk hj, xi_nk hj, xi_nk hj]
    by_cases c34 : o ≤ 34
    · refine eo o ?_ j hj
      simp only [List.mem_cons, List.not_mem_nil, or_false] at ho ⊢
      omega
    · simp only [List.mem_cons, List.not_mem_nil, or_false] at ho
      rw [g3.i (by omega) (by simp only [List.mem_cons, List.not_mem_nil, or_false]; omega)]
theorem ur_la149G (d : Nat) (hs : ReS M m) {p : Nat} (hG : RfG M m p) {x1 x2 x3 x4 x5 x6 : Int32} (hQ : ∀ M' a, FrM M M' m FRx ARr → a < 130 → RfG M' m p → Q (some (.int (nI a))) M') : LX12_lettersAtom_149 G (d + 1) 0 0 m x1 x2 x3 x4 x5 x6 M Q := by
  obtain ⟨hF, c, hc, h47⟩ := hG
  exact ur_la149 d hs hc h47 (fun M' g e47 _ _ _ _ _ _ _ _ _ _ _ _ => hQ M' c (g.wk (by decide) (by decide)) (by omega) ⟨hF.fr g (by decide) (by decide) (by decide) (by decide), (if c < 129 then c + 1 else c), by split <;> omega, e47⟩)
theorem ur_la52G (d : Nat) (hs : ReS M m) {p : Nat} (hG : RfG M m p) {x1 x2 x3 x4 x5 u0 u1 : Int32} (hQ : ∀ M' a, FrM M M' m FRx ARr → a < 130 → RfG M' m p → Q (some (.int (nI a))) M') : LX12_lettersAtom_52 G (d + 1) 0 0 m x1 x2 x3 x4 x5 u0 u1 M Q := by
  refine vX12_lettersAtom_52 _ _ _ _ _ _ _ _ ⟨hs.1, ?_⟩
  rintro M2 rfl
  have g2 : FrM M (x_si M m 69 (-1)) m [69] [] := FrM.rf.sm (by decide)
  have hG2 : RfG (x_si M m 69 (-1)) m p := hG.fr g2 (by decide) (by decide) (by decide) (by decide) (by decide)
  refine ⟨fun _ => ⟨fun _ => ur_cannotG d (by exact hs.1) hG2 (fun M6 g6 f6 => ⟨rfl, ?_⟩), fun q => absurd (hG2.1.2.2.2.symm.trans q) (by decide)⟩, fun q => absurd (hG2.1.2.2.2.symm.trans q) (by decide)⟩
  have g6' : FrM M (M6) m FRx ARr := (g2.wk (by decide) (by decide)).tr g6 (by decide) (by decide)
  exact ur_la149G d (g6'.S hs) f6 (fun M' a g ha f => hQ M' a (g6'.tr g (fun _ h => h) (fun _ h => h)) ha f)
/-- the part of an atom of rows is laid down -/
theorem ur_la149S (d : Nat) (hE : RfE M m L rc t wd) {s : PSt} {l : List Tk} {o : Option Nat} {nm p : Nat} {A B : SD} {x2 x3 x6 : Int32} (hI : RfI M m L t (l, q_c s, q_D s, o, q_b s, nm)) (hc : q_c s < 60)
    (hA : ∃ w a mb v, A = (some w, tfAB a mb, v, nsAB a mb) ∧ a < 8 ∧ (∀ c, mb = some c → c < 8) ∧ x2 = nI a ∧ x3 = nbI mb) (hB69 : x_i M m 69 = nbI (s_r B)) (hB72 : x_i M m 72 = nI (s_n B)) (hB : ∀ r, s_r B = some r → ∃ a mb, a < 8 ∧ (∀ c, mb = some c → c < 8) ∧ x_i M m 70 = nI a ∧ x_i M m 71 = nbI mb ∧ s_t B = tfAB a mb ∧ s_s B = nsAB a mb) (hx6 : x6 = nI (s_s A ||| s_s B)) (h256 : s_s A ||| s_s B < 256)
    (hQ : ∀ M', FrM M M' m FRx ARr → RfI M' m L t (enP (l, q_c s, q_D s, o, q_b s, nm) (1, p, 0, 0, 16, s_s A ||| s_s B, A, B)) → Q (some (.int (nI (q_c s)))) M') :
    LX12_lettersAtom_149 G (d + 1) 0 0 m (nbI (s_r A)) x2 x3 (nI (s_n A)) (nI p) x6 M Q := by
  have hs := hE.1.1
  have h47 : x_i M m 47 = nI (q_c s) := hI.1.2.2.2.2.2.2.2.2
  refine ur_la149 d hs (by omega) h47 (fun M' g e47 e30 e34 e35 e39 e40 e41 e42 e43 e44 e45 e46 eo => hQ M' (g.wk (by decide) (by decide)) ?_)
  rw [if_pos (by omega)] at e47
  have eP : ∀ P, puD (q_D s) (q_c s) P (q_c s) = P := fun P => if_pos rfl
  refine RfI.en (s := (l, q_c s, q_D s, o, q_b s, nm)) hI hc (fun k h1 h2 h3 => g.fm (by simp only [List.mem_cons, List.not_mem_nil, or_false]; omega)) e47 (fun o h1 h2 j hj => ?_) ?_ (fun q => absurd q (by show ¬ 2 ≤ 1; omega)) h256
  · have hj' : (o ≠ 36 ∧ j ≠ q_c s) ∨ (o = 36 ∧ j < 8 * q_c s) := hj
    by_cases c1 : o ∈ ARl
    · refine eo o c1 j ?_
      rcases hj' with z | z
      · exact z.2
      · rw [z.1] at c1; exact absurd c1 (by decide)
    · rw [g.i (by omega) c1]
  · show ReD M' m (puD (q_D s) (q_c s) _) (q_c s)
    unfold ReD
    rw [eP]
    refine ⟨e30, e34, by rw [e35, hx6]; rfl, fun q => absurd q (by show ¬ 1 = 0; omega), fun _ => ⟨⟨e39, fun r hr => ?_, e42⟩, ⟨by rw [e43]; exact hB69, fun r hr => ?_, by rw [e46]; exact hB72⟩⟩, fun q => absurd q (by show ¬ 2 ≤ 1; omega), fun q => absurd q.1 (by show ¬ 3 ≤ 1; omega), fun q => absurd q (by show ¬ (1 = 6 ∨ 1 = 7); omega)⟩
    · obtain ⟨w, a, mb, v, eA, h1, h2, h3, h4⟩ := hA
      exact ⟨a, mb, h1, h2, by rw [e40, h3], by rw [e41, h4], by show s_t A = _; rw [eA]; rfl, by show s_s A = _; rw [eA]; rfl⟩
    · obtain ⟨a, mb, h1, h2, h3, h4, h5, h6⟩ := hB r hr
      exact ⟨a, mb, h1, h2, by rw [e44]; exact h3, by rw [e45]; exact h4, h5, h6⟩
theorem ns_or {a : Nat} {mb : Option Nat} (ha : a < 8) (hmb : ∀ c, mb = some c → c < 8) : ((1 : Int32) <<< (nI a &&& 31)) ||| (if mb = none then 0 else ((1 : Int32) <<< (nbI mb &&& 31))) = nI (nsAB a mb) := by
  rw [sl_1 (by omega)]
  cases mb with
  | none => rw [if_pos rfl, show (0 : Int32) = nI 0 from rfl, nI_or, Nat.or_zero]; rfl
  | some c =>
    have := hmb c rfl
    rw [if_neg (by simp), show nbI (some c) = nI c from rfl, sl_1 (by omega), nI_or]
    rfl
theorem ur_lettersAtom (d : Nat) (hE : RfE M m L rc t wd) {s : PSt} (hI : RfI M m L t s) (hk : kdT (q_l s) = 4) (hc : q_c s < 60) (hQ : ∀ M' a, FrM M M' m FRx ARr → RfO M' m L t a (raP L rc wd s) → Q (some (.int (nI a))) M') : Call G (d + 7) 0 0 mX12_lettersAtom [.ref m] M Q := by
  obtain ⟨l, c, D, o, b, nm⟩ := s
  have hc' : c < 60 := hc
  have hs := hE.1.1
  have hG : GdT L l := hI.1.2.2.1
  have hL := hE.1.2.2.1
  have u0 : raP L rc wd (l, c, D, o, b, nm) = (match tEn L rc wd l o nm with | .inl p => .inl p | .inr (A, l1, o1, nm1) => if kdT l1 = 16 then (if kdT l1.tail = 2 then .inr (c, enP (l1.tail.tail, c, D, (if woT l1.tail < 8 then o1 else blO o1 (plT L l1.tail)), b, nm1) (1, plT L l1, 0, 0, 16, s_s A ||| 0, A, (none, fun _ => 0, woT l1.tail, 0))) else match tEn L rc wd l1.tail o1 nm1 with | .inl p => .inl p | .inr (B, l', o', nm') => .inr (c, enP (l', c, D, o', b, nm') (1, plT L l1, 0, 0, 16, s_s A ||| s_s B, A, B))) else .inl (plT L l1)) := rfl
  have out : ∀ {M'} {a} (res : PRt), raP L rc wd (l, c, D, o, b, nm) = res → FrM M M' m FRx ARr → RfO M' m L t a res → Q (some (.int (nI a))) M' := fun res e2 g h => by rw [← e2] at h; exact hQ _ _ g h
  have stop : ∀ p M3, FrM M M3 m FRx ARr → RfG M3 m p → raP L rc wd (l, c, D, o, b, nm) = .inl p → (x_h M3 m).1 = 28 ∧ Call G (d + 6) 0 0 mX12_need [.ref m, .int 61] M3 (fun r5 M6 => r5 = none ∧ ∀ x1 x2 x3 x4 x5 u0 u1, LX12_lettersAtom_52 G (d + 6) 0 0 m x1 x2 x3 x4 x5 u0 u1 M6 Q) := by
    intro p M3 g3 f3 e
    refine ⟨(g3.S hs).1, ur_needG (d + 4) (g3.S hs).1 f3 (fun M6 g6 f6 => ⟨rfl, fun x1 x2 x3 x4 x5 u0 u1 => ?_⟩)⟩
    have g6' : FrM M M6 m FRx ARr := g3.tr g6 (by decide) (by decide)
    exact ur_la52G (d + 5) (g6'.S hs) f6 (fun M' a g ha f => out (.inl p) e (g6'.tr g (fun _ h => h) (fun _ h => h)) ⟨ha, f⟩)
  refine eX12_lettersAtom m ⟨hs.1, ur_rowPlace d hE hI hk (fun p M3 e g3 f3 => ⟨rfl, ?_⟩) (fun A l1 o1 nm1 M3 e g3 hX3 wit => ⟨rfl, ?_⟩)⟩
  · obtain ⟨a1, a2⟩ := stop p M3 (g3.wk (by decide) (by decide)) f3 (by rw [u0, show tEn L rc wd l o nm = .inl p from e])
    refine ⟨a1, Call.mono a2 ?_⟩
    rintro r5 M6 ⟨rfl, h⟩
    exact ⟨rfl, fun _ => h _ _ _ _ _ _ _, fun _ => h _ _ _ _ _ _ _⟩
  have e' : tEn L rc wd l o nm = .inr (A, l1, o1, nm1) := e
  rw [e'] at u0
  simp only at u0
  obtain ⟨k1, k2, k3⟩ := tE_pg hG e'
  have g3' : FrM M M3 m FRx ARr := g3.wk (by decide) (by decide)
  have hE3 := hE.fr (g3'.wk (by decide) (by decide))
  by_cases cb : kdT l1 = 1
  · obtain ⟨a1, a2⟩ := stop (plT L l1) M3 g3' (hX3.2 cb) (by rw [u0, if_neg (by omega)])
    refine ⟨a1, Call.mono a2 ?_⟩
    rintro r5 M6 ⟨rfl, h⟩
    exact ⟨rfl, fun _ => h _ _ _ _ _ _ _, fun _ => h _ _ _ _ _ _ _⟩
  have hI3 : RfI M3 m L t (l1, c, D, o1, b, nm1) := hX3.1 cb
  obtain ⟨w, a, mb, v, eA, hw, ha, hmb, hv, i69, i70, i71, i72⟩ := wit
  have e41 : x_i M3 m 41 = nI (plT L l1) := hI3.1.1.1
  have hple := gd_le l1 k1
  refine ⟨hE3.1.1.1, ?_⟩
  rw [i69, i70, i71, i72, e41]
  have hnb : nbI mb = -1 ↔ mb = none := nbI_1 hmb
  rw [hnb]
  refine ur_need (k := 16) (d + 1) hE3 hI3 (by omega) (by omega) (fun c16 M6 g6 hX6 => ⟨rfl, ?_⟩) (fun c16 M6 g6 f6 => ⟨rfl, ?_⟩)
  rotate_left
  · have c16' : ¬ kdT l1 = 16 := c16
    have g6' : FrM M M6 m FRx ARr := g3'.tr g6 (by decide) (by decide)
    have := fun x1 x2 x3 x4 x5 u0' u1' => ur_la52G (Q := Q) (x1 := x1) (x2 := x2) (x3 := x3) (x4 := x4) (x5 := x5) (u0 := u0') (u1 := u1') (G := G) (d + 5) (g6'.S hs) f6 (fun M' a g ha f => out (.inl (plT L l1)) (by rw [u0, if_neg c16']) (g6'.tr g (fun _ h => h) (fun _ h => h)) ⟨ha, f⟩)
    exact ⟨fun _ => this _ _ _ _ _ _ _, fun _ => this _ _ _ _ _ _ _⟩
  have c16' : kdT l1 = 16 := c16
  rw [if_pos c16'] at u0
  obtain ⟨t1, -, -, -⟩ := gd_tail k1 (show kdT l1 ≠ 0 by omega)
  have hple2 := gd_le _ t1
  have g6' : FrM M M6 m FRx ARr := g3'.tr g6 (by decide) (by decide)
  have hnsA := nsAB_lt ha hmb
  have hsA : s_s A = nsAB a mb := by rw [eA]; rfl
  have hrA : s_r A = some w := by rw [eA]; rfl
  have hnA : s_n A = v := by rw [eA]; rfl
  have w52 : ∀ u0' u1' : Int32, u0' ||| u1' = nI (nsAB a mb) → LX12_lettersAtom_52 G (d + 6) 0 0 m (nI w) (nI a) (nbI mb) (nI v) (nI (plT L l1)) u0' u1' M6 Q := by
    intro u0' u1' hu
    have eX1 : nI w = nbI (s_r A) := by rw [hrA]; rfl
    have eX4 : nI v = nI (s_n A) := by rw [hnA]
    have hAw : ∃ w a' mb' v, A = (some w, tfAB a' mb', v, nsAB a' mb') ∧ a' < 8 ∧ (∀ c, mb' = some c → c < 8) ∧ nI a = nI a' ∧ nbI mb = nbI mb' := ⟨w, a, mb, v, eA, ha, hmb, rfl, rfl⟩
    rw [eX1, eX4]
    refine vX12_lettersAtom_52 _ _ _ _ _ _ _ _ ⟨(g6'.S hs).1, ?_⟩
    rintro M2 rfl
    rw [hu]
    have g2 : FrM M6 (x_si M6 m 69 (-1)) m [69] [] := FrM.rf.sm (by decide)
    have g2' : FrM M (x_si M6 m 69 (-1)) m FRx ARr := g6'.tr g2 (by decide) (by decide)
    have hX2 : RfX (x_si M6 m 69 (-1)) m L t (l1.tail, c, D, o1, b, nm1) := RfX.fr (s := (l1.tail, c, D, o1, b, nm1)) hX6 g2 (by decide) (by decide)
    have j69 : x_i (x_si M6 m 69 (-1)) m 69 = -1 := xi_eq
    generalize x_si M6 m 69 (-1) = M2 at g2' hX2 j69 ⊢
    have hE2 := hE.fr (g2'.wk (by decide) (by decide))
    have end149G : ∀ p M' x6, FrM M M' m FRx ARr → RfG M' m p → (∀ M2 a, FrM M M2 m FRx ARr → a < 130 → RfG M2 m p → Q (some (.int (nI a))) M2) → LX12_lettersAtom_149 G (d + 6) 0 0 m (nbI (s_r A)) (nI a) (nbI mb) (nI (s_n A)) (nI (plT L l1)) x6 M' Q := fun p M' x6 g f hq =>
      ur_la149G (d + 5) (g.S hs) f (fun M2 a' g2 ha2 f2 => hq M2 a' (g.tr g2 (fun _ h => h) (fun _ h => h)) ha2 f2)
    by_cases cb2 : kdT l1.tail = 1
    · have f2 : RfG M2 m (plT L l1.tail) := hX2.2 cb2
      refine ⟨fun _ => ⟨fun _ => ur_cannotG (d + 5) hE2.1.1.1 f2 (fun M7 g7 f7 => ⟨rfl, end149G _ M7 _ (g2'.tr g7 (by decide) (by decide)) f7 (fun M' a' g ha2 f => out (.inl (plT L l1.tail)) ?_ g ⟨ha2, f⟩)⟩), fun q => absurd (f2.1.2.2.2.symm.trans q) (by decide)⟩, fun q => absurd (f2.1.2.2.2.symm.trans q) (by decide)⟩
      rw [u0, if_neg (by omega)]
      unfold tEn
      rw [if_neg (by omega)]
    have hI2 : RfI M2 m L t (l1.tail, c, D, o1, b, nm1) := hX2.1 cb2
    have k2' : x_i M2 m 39 = 1 ↔ kdT l1.tail = 2 := hI2.tk (j := 2) (by omega) (by omega) (by omega)
    have k4' : x_i M2 m 39 = 3 ↔ kdT l1.tail = 4 := hI2.tk (j := 4) (by omega) (by omega) (by omega)
    refine ⟨fun c4 => ⟨fun c2 => ?_, fun c2 => ?_⟩, fun c4 => ?_⟩
    · have c2' : ¬ kdT l1.tail = 2 := fun z => c2 (k2'.mpr z)
      have c4' : ¬ kdT l1.tail = 4 := fun z => c4 (k4'.mpr z)
      refine ur_cannotS (d + 5) hE2 hI2 (fun M7 g7 f7 => ⟨rfl, end149G _ M7 _ (g2'.tr g7 (by decide) (by decide)) f7 (fun M' a' g ha2 f => out (.inl (plT L l1.tail)) ?_ g ⟨ha2, f⟩)⟩)
      rw [u0, if_neg c2']
      unfold tEn
      rw [if_neg c4']
    · have c2' := k2'.mp c2
      rw [if_pos c2'] at u0
      have e40 : x_i M2 m 40 = nI (woT l1.tail) := hI2.1.1.2.2.1 (Or.inl c2')
      have e41' : x_i M2 m 41 = nI (plT L l1.tail) := hI2.1.1.1
      have hwo : woT l1.tail < 100 := (gd_tail t1 (by omega)).2.2.2.2.2.1 c2'
      rintro M7 rfl
      rw [e40]
      have g7 : FrM M2 (x_si M2 m 72 (nI (woT l1.tail))) m [72] [] := FrM.rf.sm (by decide)
      have g7' : FrM M (x_si M2 m 72 (nI (woT l1.tail))) m FRx ARr := g2'.tr g7 (by decide) (by decide)
      have hI7 : RfI (x_si M2 m 72 (nI (woT l1.tail))) m L t (l1.tail, c, D, o1, b, nm1) := hI2.fr g7 (by decide) (by decide)
      have i40 : x_i (x_si M2 m 72 (nI (woT l1.tail))) m 40 = nI (woT l1.tail) := by rw [xi_nk (by omega)]; exact e40
      have i41 : x_i (x_si M2 m 72 (nI (woT l1.tail))) m 41 = nI (plT L l1.tail) := by rw [xi_nk (by omega)]; exact e41'
      have i72' : x_i (x_si M2 m 72 (nI (woT l1.tail))) m 72 = nI (woT l1.tail) := xi_eq
      have i69' : x_i (x_si M2 m 72 (nI (woT l1.tail))) m 69 = -1 := by rw [xi_nk (by omega)]; exact j69
      generalize x_si M2 m 72 (nI (woT l1.tail)) = M7 at g7' hI7 i40 i41 i72' i69' ⊢
      have hE7 := hE.fr (g7'.wk (by decide) (by decide))
      rw [i40, i41, show (7 : Int32) = nI 7 from rfl, nI_leI (by omega) (by omega)]
      have fin : ∀ M8 o2, FrM M M8 m FRx ARr → RfI M8 m L t (l1.tail, c, D, o2, b, nm1) → (if woT l1.tail < 8 then o1 else blO o1 (plT L l1.tail)) = o2 → x_i M8 m 72 = nI (woT l1.tail) → x_i M8 m 69 = -1 → Call G (d + 6) 0 0 mX12_next [.ref m] M8 (fun r9 M10 => r9 = none ∧ LX12_lettersAtom_149 G (d + 6) 0 0 m (nbI (s_r A)) (nI a) (nbI mb) (nI (s_n A)) (nI (plT L l1)) (nI (nsAB a mb)) M10 Q) := by
        intro M8 o2 g8 hI8 eo i72 i69
        have hE8 := hE.fr (g8.wk (by decide) (by decide))
        refine ur_nextS (d + 2) hE8 hI8 (show kdT l1.tail ≠ 0 by omega) (fun M10 g10 hX10 => ⟨rfl, ?_⟩)
        have g10' : FrM M M10 m FRx ARr := g8.tr g10 (by decide) (by decide)
        have hX10' : RfX M10 m L t (l1.tail.tail, c, D, o2, b, nm1) := hX10
        by_cases cb3 : kdT l1.tail.tail = 1
        · exact end149G _ M10 _ g10' (hX10'.2 cb3) (fun M' a' g ha2 f => out _ u0 g ⟨ha2, ⟨fun z => absurd cb3 z, fun _ => f⟩, fun z => absurd cb3 z⟩)
        · have := ur_la149S (G := G) (Q := Q) (s := (l, c, D, o, b, nm)) (l := l1.tail.tail) (o := o2) (nm := nm1) (p := plT L l1) (A := A) (B := (none, fun _ => 0, woT l1.tail, 0)) (x2 := nI a) (x3 := nbI mb) (x6 := nI (nsAB a mb)) (d + 5) (hE.fr (g10'.wk (by decide) (by decide))) (hX10'.1 cb3) hc' hAw (by rw [g10.fm (by decide)]; exact i69) (by rw [g10.fm (by decide)]; exact i72) (fun r hr => by cases hr) (by rw [hsA]; show nI (nsAB a mb) = nI (nsAB a mb ||| 0); rw [Nat.or_zero]) (by rw [hsA]; exact or_256 hnsA (by show 0 < 256; omega)) (fun M' g hI' => out _ u0 (g10'.tr g (fun _ h => h) (fun _ h => h)) ⟨by show c < 130; omega, ⟨fun _ => by rw [eo]; exact hI', fun z => absurd z cb3⟩, fun _ => rfl⟩)
          exact this
      refine ⟨fun q => fin M7 o1 g7' hI7 (if_pos (by omega)) i72' i69', fun q => ur_notesS (d + 5) hE7 hI7 (by omega) (fun M12 g12 h12 => ⟨rfl, ?_⟩)⟩
      have g12' : FrM M M12 m FRx ARr := g7'.tr g12 (by decide) (by decide)
      exact ⟨(g12'.S hs).1, fin M12 _ g12' h12 (if_neg (by omega)) (by rw [g12.fm (by decide)]; exact i72') (by rw [g12.fm (by decide)]; exact i69')⟩
    · have c4' := k4'.mp c4
      rw [if_neg (by omega)] at u0
      refine ur_rowPlace d hE2 hI2 c4' (fun p M17 e17 g17 f17 => ⟨rfl, ?_⟩) (fun B l2 o2 nm2 M17 e17 g17 hX17 wit2 => ⟨rfl, ?_⟩)
      · have g17' : FrM M M17 m FRx ARr := g2'.tr g17 (by decide) (by decide)
        have e17' : tEn L rc wd l1.tail o1 nm1 = .inl p := e17
        refine ⟨(g17'.S hs).1, fun _ => end149G _ M17 _ g17' f17 (fun M' a' g ha2 f => out (.inl p) (by rw [u0, e17']) g ⟨ha2, f⟩), fun _ => end149G _ M17 _ g17' f17 (fun M' a' g ha2 f => out (.inl p) (by rw [u0, e17']) g ⟨ha2, f⟩)⟩
      · have g17' : FrM M M17 m FRx ARr := g2'.tr g17 (by decide) (by decide)
        have e17' : tEn L rc wd l1.tail o1 nm1 = .inr (B, l2, o2, nm2) := e17
        rw [e17'] at u0
        simp only at u0
        obtain ⟨w2, a2, mb2, v2, eB, hw2, ha2, hmb2, hv2, b69, b70, b71, b72⟩ := wit2
        have hsB : s_s B = nsAB a2 mb2 := by rw [eB]; rfl
        have hnsB := nsAB_lt ha2 hmb2
        refine ⟨(g17'.S hs).1, ?_⟩
        rw [b70, b71, nbI_1 hmb2]
        have go : ∀ x6 : Int32, x6 = nI (nsAB a mb) ||| nI (nsAB a2 mb2) → LX12_lettersAtom_149 G (d + 6) 0 0 m (nbI (s_r A)) (nI a) (nbI mb) (nI (s_n A)) (nI (plT L l1)) x6 M17 Q := by
          intro x6 hx6
          by_cases cb3 : kdT l2 = 1
          · exact end149G _ M17 _ g17' (hX17.2 cb3) (fun M' a' g ha3 f => out _ u0 g ⟨ha3, ⟨fun z => absurd cb3 z, fun _ => f⟩, fun z => absurd cb3 z⟩)
          · refine ur_la149S (s := (l, c, D, o, b, nm)) (l := l2) (o := o2) (nm := nm2) (p := plT L l1) (A := A) (B := B) (d + 5) (hE.fr (g17'.wk (by decide) (by decide))) (hX17.1 cb3) hc' hAw (by rw [b69, eB]; rfl) (by rw [b72, eB]; rfl) (fun r hr => ⟨a2, mb2, ha2, hmb2, b70, b71, by rw [eB]; rfl, hsB⟩) (by rw [hx6, nI_or, hsA, hsB]) (by rw [hsA, hsB]; exact or_256 hnsA hnsB) (fun M' g hI' => out _ u0 (g17'.tr g (fun _ h => h) (fun _ h => h)) ⟨by show c < 130; omega, ⟨fun _ => hI', fun z => absurd z cb3⟩, fun _ => rfl⟩)
        have hn2 := ns_or ha2 hmb2
        refine ⟨fun q => go _ ?_, fun q => go _ ?_⟩
        · rw [if_neg q] at hn2; rw [hn2]
        · rw [if_pos q] at hn2; rw [hn2]
  have hn := ns_or ha hmb
  refine ⟨fun q => w52 _ _ ?_, fun q => w52 _ _ ?_⟩
  · rw [if_neg q] at hn; exact hn
  · rw [if_pos q] at hn; exact hn
end RLettersC
