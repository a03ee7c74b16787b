/-! ===== Loom: a machine told state by state ===== -/
section Expl2
theorem Can.congr {f n : Nat} {st : Nat → Nat → Nat} {mk : Nat → Nat} {b b' : List Nat → Nat} (h : Can f n st mk b) (e : ∀ w, wd f w → b w = b' w) : Can f n st mk b' := ⟨h.1, h.2.1, fun w hw => (h.2.2.1 w hw).trans (e w hw), h.2.2.2⟩
variable {G : GG} {M : Mem} {o room f k0 c i : Nat} {δ : Nat → Nat → Nat} {μ : Nat → Nat} {Q : Option Value → Mem → Prop}
/-- c links are made, the marks of the first i are told -/
def ExI (M : Mem) (o room f : Nat) (δ : Nat → Nat → Nat) (k0 : Nat) (μ : Nat → Nat) (c i : Nat) : Prop :=
  LoD M o room f (ex δ f k0 c) ∧ (∀ q, q < c → x_i M (o + 4) q = nI (exl δ f k0 q)) ∧ (∀ t, t < i → x_i M (o + 3) t = nI (μ ((ex δ f k0 c).getD t 0))) ∧ exV δ f k0 c ∧ i ≤ (ex δ f k0 c).length
/-- the state of the next link is met -/
def ExM (M : Mem) (o room f : Nat) (δ : Nat → Nat → Nat) (k0 : Nat) (μ : Nat → Nat) (c i : Nat) : Prop :=
  LoD M o room f (ex δ f k0 (c + 1)) ∧ (∀ q, q < c → x_i M (o + 4) q = nI (exl δ f k0 q)) ∧ (∀ t, t < i → x_i M (o + 3) t = nI (μ ((ex δ f k0 (c + 1)).getD t 0))) ∧ exV δ f k0 (c + 1) ∧ i ≤ (ex δ f k0 (c + 1)).length
theorem ExI.start (h : LoD M o room f (ins [] k0)) : ExI M o room f δ k0 μ 0 0 := ⟨h, fun q hq => absurd hq (Nat.not_lt_zero q), fun q hq => absurd hq (Nat.not_lt_zero q), fun q hq => absurd hq (Nat.not_lt_zero q), Nat.zero_le _⟩
theorem ExI.fr {M' : Mem} {A : List Nat} (h : ExI M o room f δ k0 μ c i) (g : Fr M M' A) (h1 : o ∉ A) (h2 : o + 1 ∉ A) (h3 : o + 2 ∉ A) (h4 : o + 3 ∉ A) (h5 : o + 4 ∉ A) : ExI M' o room f δ k0 μ c i := by
  unfold ExI
  rw [g.i h4, g.i h5]
  exact ⟨h.1.fr g h1 h2 h3, h.2⟩
theorem ExM.fr {M' : Mem} {A : List Nat} (h : ExM M o room f δ k0 μ c i) (g : Fr M M' A) (h1 : o ∉ A) (h2 : o + 1 ∉ A) (h3 : o + 2 ∉ A) (h4 : o + 3 ∉ A) (h5 : o + 4 ∉ A) : ExM M' o room f δ k0 μ c i := by
  unfold ExM
  rw [g.i h4, g.i h5]
  exact ⟨h.1.fr g h1 h2 h3, h.2⟩
theorem w_meet0 (d : Nat) (hs : LoS M o) (hd : LoD M o room f []) (hk : k0 < room) (hQ : ∀ M' v, Fr M M' [o, o + 1, o + 2, o + 3] → ExI M' o room f δ k0 μ 0 0 → Q (some (.int v)) M') : Call G (d + 2) 0 0 mX2_meet [.ref o, .int (nI k0)] M Q :=
  w_meet d hs hd hk (fun M' g1 g2 _ => hQ M' _ g1 (ExI.start g2))
theorem w_keyX (d : Nat) (hs : LoS M o) (h : ExI M o room f δ k0 μ c i) {t : Nat} (ht : t < (ex δ f k0 c).length) (hQ : Q (some (.int (nI ((ex δ f k0 c).getD t 0)))) M) : Call G (d + 2) 0 0 mX2_keyOf [.ref o, .int (nI t)] M Q := w_keyOf d hs h.1 ht hQ
theorem w_meetX (d : Nat) (hs : LoS M o) (h : ExI M o room f δ k0 μ c i) {k : Nat} (hc : c / f < (ex δ f k0 c).length) (hk : δ ((ex δ f k0 c).getD (c / f) 0) (c % f) = k) (hkr : k < room) (hQ : ∀ M', Fr M M' [o, o + 1, o + 2, o + 3] → ExM M' o room f δ k0 μ c i → Q (some (.int (nI (exl δ f k0 c)))) M') : Call G (d + 2) 0 0 mX2_meet [.ref o, .int (nI k)] M Q := by
  obtain ⟨h1, h2, h3, h4, h5⟩ := h
  have e : ex δ f k0 (c + 1) = ins (ex δ f k0 c) k := by rw [← hk]; rfl
  have e2 : exl δ f k0 c = (ins (ex δ f k0 c) k).idxOf k := by rw [← hk]; rfl
  refine w_meet d hs h1 hkr (fun M' g1 g2 g3 => ?_)
  rw [← e2]
  refine hQ M' g1 ⟨by rw [e]; exact g2, fun q hq => by rw [g1.i (by simp)]; exact h2 q hq, fun t ht => ?_, fun p hp => ?_, ?_⟩
  · rw [g3 t (by omega), h3 t ht, e, ins_getD (by omega)]
  · by_cases e3 : p = c
    · rw [e3]; exact hc
    · exact h4 p (by omega)
  · rw [e]
    exact Nat.le_trans h5 ins_len.1
theorem w_linkX (d : Nat) (hs : LoS M o) (h : ExM M o room f δ k0 μ c i) (hf : 0 < f) {a g : Nat} (hag : c = a * f + g) (hg : g < f) (hroom : room * f ≤ 43200) (hQ : ∀ M', Fr M M' [o + 4] → ExI M' o room f δ k0 μ (c + 1) i → Q none M') : Call G (d + 2) 0 0 mX2_link [.ref o, .int (nI a), .int (nI g), .int (nI (exl δ f k0 c))] M Q := by
  obtain ⟨h1, h2, h3, h4, h5⟩ := h
  have e1 : c / f = a := by rw [hag, Nat.mul_comm, Nat.mul_add_div hf, Nat.div_eq_of_lt hg]; rfl
  have hv := h4 c (by omega)
  rw [e1] at hv
  have hv2 : a < (ex δ f k0 (c + 1)).length := Nat.lt_of_lt_of_le hv (ex_le c 1)
  have hlen := h1.len
  refine w_link d hs h1 hv2 hg (Nat.le_trans (Nat.mul_le_mul_right f hlen) hroom) _ ?_
  rw [← hag]
  refine hQ _ (Fr.rf.si (by simp)) ⟨h1.fr (Fr.rf.si (A := [o + 4]) (by simp)) (by simp) (by simp) (by simp), fun q hq => ?_, fun t ht => ?_, h4, h5⟩
  · by_cases e : q = c
    · subst e; rw [xi_eq]
    · rw [xi_nk e]; exact h2 q (by omega)
  · rw [xi_na (by omega)]; exact h3 t ht
theorem w_markX (d : Nat) (hs : LoS M o) (h : ExI M o room f δ k0 μ c i) (hi : i < (ex δ f k0 c).length) {v : Int32} (hv : v = nI (μ ((ex δ f k0 c).getD i 0))) (hQ : ∀ M', Fr M M' [o + 3] → ExI M' o room f δ k0 μ c (i + 1) → Q none M') : Call G (d + 2) 0 0 mX2_putMark [.ref o, .int (nI i), .int v] M Q := by
  obtain ⟨h1, h2, h3, h4, h5⟩ := h
  refine w_putMarkL d hs h1 hi _ ?_
  refine hQ _ (Fr.rf.si (by simp)) ⟨h1.fr (Fr.rf.si (A := [o + 3]) (by simp)) (by simp) (by simp) (by simp), fun q hq => ?_, fun t ht => ?_, h4, hi⟩
  · rw [xi_na (by omega)]; exact h2 q hq
  · by_cases e : t = i
    · subst e; rw [xi_eq]; exact hv
    · rw [xi_nk e]; exact h3 t (by omega)
theorem w_drawX (d : Nat) (hs : LoS M o) (h : ExI M o room f δ k0 μ c i) (hc : c = (ex δ f k0 c).length * f) (hi : i = (ex δ f k0 c).length) (hf : 0 < f) (hf2 : f ≤ 27) (hroom : room * f ≤ 43200) (hμ : ∀ x ∈ ex δ f k0 c, μ x < 8) {p pv pk pm pn most : Nat} (hp : LeS M p pv pk pm pn) (hpd : ∀ q ∈ [p, pv, pk], q < o ∨ o + 7 < q) (hm : most ≤ 60) (hmn : most ≤ pn) (hmm : most * f ≤ pm)
    (hQ1 : ∀ M' n st mr, Fr M M' [o + 5, o + 6, o + 7, p, pv, pk] → n ≤ most → LeI M' p pv pk n f st mr → Can f n st mr (fun w => μ (dl δ k0 w)) → Q (some (.int (nI 1))) M')
    (hQ0 : ∀ M', Fr M M' [o + 5, o + 6, o + 7, p, pv, pk] → (∀ n st mr, Can f n st mr (fun w => μ (dl δ k0 w)) → most < n) → most < room → Q (some (.int (nI 0))) M') : Call G (d + 4) 0 0 mX2_draw [.ref o, .ref p, .int (nI most)] M Q := by
  obtain ⟨h1, h2, h3, h4, h5⟩ := h
  have hlen := h1.len
  have hroom2 := h1.2.2.2.2.2.2.2
  have hN : (ex δ f k0 c).length * f ≤ 43200 := Nat.le_trans (Nat.mul_le_mul_right f hlen) hroom
  have hw : ∀ w, wd f w → μ ((ex δ f k0 c).getD (rn (fun i d => exl δ f k0 (i * f + d)) 0 w) 0) = μ (dl δ k0 w) := fun w hw => by
    rw [(ex_word hf hc h4 w 0 hw (ex_pos c)).2, ex_0]
  have hlt : ∀ a, a < (ex δ f k0 c).length → ∀ g, g < f → a * f + g < c := fun a ha g hg => by
    have : (a + 1) * f ≤ (ex δ f k0 c).length * f := Nat.mul_le_mul_right f ha
    rw [Nat.succ_mul] at this
    omega
  have hR : LoR M o (ex δ f k0 c).length f (fun i d => exl δ f k0 (i * f + d)) (fun t => μ ((ex δ f k0 c).getD t 0)) :=
    ⟨h1.2.1, h1.2.2.1, fun a ha g hg => h2 _ (hlt a ha g hg), fun a ha g hg => (ex_closed hf hc ha hg h4).1, fun a ha => h3 a (by omega), fun a ha => hμ _ (getD_mem ha), ex_pos c, by omega, hN, hf, hf2⟩
  refine w_draw d hs hR hp hpd hm hmn hmm (fun a ha => ?_) (fun M' n st mr g1 g2 g3 g4 => hQ1 M' n st mr g1 g2 g3 (g4.congr hw)) (fun M' g1 g2 g3 => hQ0 M' g1 (fun n st mr hcan => g2 n st mr (hcan.congr (fun w hw' => (hw w hw').symm))) (Nat.lt_of_lt_of_le g3 hlen))
  obtain ⟨w, hw1, hw2⟩ := ex_reach hf c h4 _ (getD_mem ha)
  refine ⟨w, hw1, ?_⟩
  obtain ⟨e1, e2⟩ := ex_word hf hc h4 w 0 hw1 (ex_pos c)
  rw [ex_0, hw2] at e2
  exact getD_inj (ex_nd c) e1 ha e2
/-- two ways to tell the same -/
theorem dl_sim {δ δ' : Nat → Nat → Nat} {R : Nat → Nat → Prop} (hR : ∀ x y, R x y → ∀ g, g < f → R (δ x g) (δ' y g)) : ∀ (w : List Nat) (x y : Nat), wd f w → R x y → R (dl δ x w) (dl δ' y w)
  | [], _, _, _, h => h
  | g :: w, x, y, hw, h => dl_sim hR w _ _ (wd_tail hw).2 (hR x y h g (wd_tail hw).1)
end Expl2
