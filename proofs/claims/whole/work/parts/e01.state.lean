/-! ===== the state of a court, pure; and how the class holds it ===== -/
section StateP
/-- of a question: its fault and where, where it is spent, its names, how many parts, the rows that it speaks of -/
abbrev Qd : Type := Nat × Option Nat × Option Nat × Nat × Nat × Nat
def qd_f (q : Qd) : Nat := q.1
def qd_p (q : Qd) : Option Nat := q.2.1
def qd_s (q : Qd) : Option Nat := q.2.2.1
def qd_n (q : Qd) : Nat := q.2.2.2.1
def qd_k (q : Qd) : Nat := q.2.2.2.2.1
def qd_r (q : Qd) : Nat := q.2.2.2.2.2
/-- base; tape; sheets (sort, size, numbers); rows (how many, kinds, questions); questions; trace; status -/
abbrev Sg : Type := Nat × Nat × (Nat → Nat) × (Nat → Int32) × (Nat → Nat) × (Nat → Nat → Nat) × Nat × (Nat → Nat) × (Nat → Int32) × Nat × (Nat → Qd) × List Int32 × Int32
def y_b (S : Sg) : Nat := S.1
def y_L (S : Sg) : Nat := S.2.1
def y_t (S : Sg) : Nat → Nat := S.2.2.1
def y_so (S : Sg) : Nat → Int32 := S.2.2.2.1
def y_sz (S : Sg) : Nat → Nat := S.2.2.2.2.1
def y_cf (S : Sg) : Nat → Nat → Nat := S.2.2.2.2.2.1
def y_rc (S : Sg) : Nat := S.2.2.2.2.2.2.1
def y_kd (S : Sg) : Nat → Nat := S.2.2.2.2.2.2.2.1
def y_oq (S : Sg) : Nat → Int32 := S.2.2.2.2.2.2.2.2.1
def y_qc (S : Sg) : Nat := S.2.2.2.2.2.2.2.2.2.1
def y_q (S : Sg) : Nat → Qd := S.2.2.2.2.2.2.2.2.2.2.1
def y_tr (S : Sg) : List Int32 := S.2.2.2.2.2.2.2.2.2.2.2.1
def y_st (S : Sg) : Int32 := S.2.2.2.2.2.2.2.2.2.2.2.2
/-- what holds of every state -/
def SgW (S : Sg) : Prop := (y_b S = 2 ∨ y_b S = 3) ∧ y_L S ≤ 120 ∧ (∀ i, i < y_L S → y_t S i < 256) ∧ (∀ s, s < 6 → y_sz S s ≤ 40 ∧ (y_so S s = -1 ∨ y_so S s = 0 ∨ y_so S s = 1 ∨ y_so S s = 2) ∧ (y_so S s = -1 → y_sz S s = 0) ∧ ∀ i, i < 40 → y_cf S s i ≤ 100) ∧ y_rc S ≤ 10 ∧ (∀ i, i < y_rc S → y_kd S i ≤ 4) ∧ y_qc S ≤ 10 ∧ (∀ k, k < y_qc S → (∀ p, qd_s (y_q S k) = some p → p ≤ 120) ∧ qd_f (y_q S k) ≤ 3 ∧ (qd_f (y_q S k) ≠ 0 → qd_s (y_q S k) = none) ∧ (qd_f (y_q S k) = 0 → qd_n (y_q S k) < 256 ∧ pc (qd_n (y_q S k)) ≤ 3 ∧ qd_k (y_q S k) ≤ 60 ∧ qd_r (y_q S k) < 1024)) ∧ (y_tr S).length ≤ 50
/-- the machine of a question that can be asked -/
def QueG (b n : Nat) (m : Mc) : Prop := (∃ β, mcan (fn b n) m β) ∧ m_n m ≤ 40 ∧ (∀ i, i < m_n m → m_k m i ≤ 1) ∧ m_s m 0 0 = 0
def MaW (S : Sg) (R K : Nat → Mc) : Prop := (∀ i, i < y_rc S → RowG (y_b S) (R i)) ∧ ∀ k, k < y_qc S → qd_f (y_q S k) = 0 → qd_s (y_q S k) = none → QueG (y_b S) (qd_n (y_q S k)) (K k)
/-- the class's object at e, and the cells behind it -/
def CoS (M : Mem) (e : Nat) : Prop := (x_h M e).1 = 27 ∧ x_r M e 0 = some (e + 1) ∧ x_r M e 1 = some (e + 2) ∧ x_r M e 2 = some (e + 3) ∧ x_r M e 3 = some (e + 4) ∧ x_r M e 4 = some (e + 11) ∧ x_r M e 5 = some (e + 12) ∧ x_r M e 6 = some (e + 13) ∧ x_r M e 7 = some (e + 14) ∧ x_r M e 8 = some (e + 502) ∧ x_r M e 9 = some (e + 524) ∧ x_r M e 10 = some (e + 534) ∧
  RowsS M (e + 1) (e + 536) ∧ QusS M (e + 2) (e + 540) ∧ x_h M (e + 3) = (1, 120) ∧ x_h M (e + 4) = (7, 6) ∧ (∀ i, i < 6 → x_r M (e + 4) i = some (e + 5 + i) ∧ x_h M (e + 5 + i) = (1, 40)) ∧ x_h M (e + 11) = (1, 6) ∧ x_h M (e + 12) = (1, 6) ∧ x_h M (e + 13) = (1, 40) ∧
  (x_h M (e + 14)).1 = 21 ∧ x_r M (e + 14) 0 = some (e + 15) ∧ x_r M (e + 14) 1 = some (e + 20) ∧ TokS M (e + 15) ∧ PartsS M (e + 20) (e + 22) ∧ WeS M (e + 502) ∧ RkS M (e + 524) ∧ (x_h M (e + 534)).1 = 16 ∧ x_r M (e + 534) 0 = some (e + 535) ∧ x_h M (e + 535) = (1, 50)
def CoB (M : Mem) (e : Nat) (S : Sg) : Prop := x_i M e 11 = nI (y_b S) ∧ x_i M e 12 = nI (y_rc S) ∧ x_i M e 13 = nI (y_qc S) ∧ x_i M e 14 = nI (y_L S) ∧ x_i M e 15 = y_st S
def CoT (M : Mem) (e : Nat) (S : Sg) : Prop := ∀ i, i < y_L S → x_i M (e + 3) i = nI (y_t S i)
def CoH (M : Mem) (e : Nat) (S : Sg) : Prop := (∀ s, s < 6 → x_i M (e + 11) s = y_so S s ∧ x_i M (e + 12) s = nI (y_sz S s) ∧ ∀ i, i < 40 → x_i M (e + 5 + s) i = nI (y_cf S s i)) ∧ ∀ i, i < 40 → x_i M (e + 13) i = 0
def CoR (M : Mem) (e : Nat) (S : Sg) (R : Nat → Mc) : Prop := ∀ i, i < y_rc S → x_i M (e + 536 + 8 * i) 1 = nI (y_kd S i) ∧ (y_kd S i = 4 → x_i M (e + 536 + 8 * i) 2 = y_oq S i) ∧ RowI M (e + 536 + 8 * i) (y_b S) (R i)
def CoK (M : Mem) (e b : Nat) (k : Nat) (q : Qd) (m : Mc) : Prop := x_i M (e + 540 + 8 * k) 1 = nI (qd_f q) ∧ x_i M (e + 540 + 8 * k) 2 = nbI (qd_p q) ∧ x_i M (e + 540 + 8 * k) 3 = nbI (qd_s q) ∧ (qd_f q = 0 → x_i M (e + 540 + 8 * k) 4 = nI (qd_n q) ∧ x_i M (e + 540 + 8 * k) 5 = nI (qd_k q) ∧ x_i M (e + 540 + 8 * k) 6 = nI (qd_r q)) ∧ (qd_f q = 0 → qd_s q = none → LeI M (e + 540 + 8 * k + 1) (e + 540 + 8 * k + 2) (e + 540 + 8 * k + 3) (m_n m) (fn b (qd_n q)) (m_s m) (m_k m))
def CoQ (M : Mem) (e : Nat) (S : Sg) (K : Nat → Mc) : Prop := ∀ k, k < y_qc S → CoK M e (y_b S) k (y_q S k) (K k)
def CoA (M : Mem) (e : Nat) (S : Sg) : Prop := x_i M (e + 534) 1 = nI (y_tr S).length ∧ ∀ j, j < (y_tr S).length → x_i M (e + 535) j = (y_tr S).getD j 0
variable {M M' : Mem} {e : Nat}
theorem WeS.rg {w : Nat} (h : WeS M w) (h1 : x_h M' = x_h M) (h2 : ∀ a, w ≤ a → a ≤ w + 21 → x_r M' a = x_r M a) : WeS M' w := by
  unfold WeS LoS LeS at h ⊢
  rw [h1, h2 w (by omega) (by omega), h2 (w + 1) (by omega) (by omega), h2 (w + 9) (by omega) (by omega), h2 (w + 12) (by omega) (by omega)]
  exact h
theorem RkS.rg {r : Nat} (h : RkS M r) (h1 : x_h M' = x_h M) (h2 : x_r M' r = x_r M r) : RkS M' r := by
  unfold RkS at h ⊢
  rw [h1, h2]
  exact h
theorem QusS.rg {a q0 : Nat} (h : QusS M a q0) (h1 : x_h M' = x_h M) (h2 : x_r M' a = x_r M a) (h3 : ∀ x, q0 ≤ x → x_r M' x = x_r M x) : QusS M' a q0 := by
  refine ⟨by rw [h1]; exact h.1, fun i hi => ?_⟩
  obtain ⟨e1, e2⟩ := h.2 i hi
  refine ⟨by rw [h2]; exact e1, ?_⟩
  unfold QueS LeS at e2 ⊢
  rw [h1, h3 (q0 + 8 * i) (by omega), h3 (q0 + 8 * i + 1) (by omega)]
  exact e2
theorem RowsS.rg {a q0 : Nat} (h : RowsS M a q0) (h1 : x_h M' = x_h M) (h2 : x_r M' a = x_r M a) (h3 : ∀ x, q0 ≤ x → x_r M' x = x_r M x) : RowsS M' a q0 := by
  refine ⟨by rw [h1]; exact h.1, fun i hi => ?_⟩
  obtain ⟨e1, e2⟩ := h.2 i hi
  refine ⟨by rw [h2]; exact e1, ?_⟩
  unfold RowS LeS at e2 ⊢
  rw [h1, h3 (q0 + 8 * i) (by omega), h3 (q0 + 8 * i + 1) (by omega)]
  exact e2
theorem PartsS.rg {pa p0 : Nat} (h : PartsS M pa p0) (h1 : x_h M' = x_h M) (h2 : x_r M' pa = x_r M pa) (h3 : ∀ x, p0 ≤ x → x_r M' x = x_r M x) : PartsS M' pa p0 := by
  refine ⟨by rw [h1]; exact h.1, fun i hi => ?_⟩
  obtain ⟨e1, e2⟩ := h.2 i hi
  refine ⟨by rw [h2]; exact e1, ?_⟩
  unfold PaS SiS LeS at e2 ⊢
  rw [h1, h3 (p0 + 8 * i) (by omega), h3 (p0 + 8 * i + 1) (by omega), h3 (p0 + 8 * i + 3) (by omega), h3 (p0 + 8 * i + 5) (by omega)]
  exact e2
/-- the text and the rows that the reader holds are no part of the picture -/
theorem CoS.rg (h : CoS M e) (h1 : x_h M' = x_h M) (h2 : ∀ a, e ≤ a → a ≤ e + 700 → a ≠ e + 14 → a ≠ e + 15 → x_r M' a = x_r M a) (h3 : ∀ a, e + 620 < a → x_r M' a = x_r M a) (h14 : ∀ j, j ≠ 2 → x_r M' (e + 14) j = x_r M (e + 14) j) (h15 : ∀ j, j ≠ 3 → x_r M' (e + 15) j = x_r M (e + 15) j) : CoS M' e := by
  have hall : ∀ a, e ≤ a → a ≠ e + 14 → a ≠ e + 15 → x_r M' a = x_r M a := fun a g1 g2 g3 => by
    rcases Nat.lt_or_ge (e + 620) a with c | c
    · exact h3 a c
    · exact h2 a g1 (by omega) g2 g3
  obtain ⟨a1, a2, a3, a4, a5, a6, a7, a8, a9, a10, a11, a12, b1, b2, b3, b4, b5, b6, b7, b8, c1, c2, c3, c4, c5, c6, c7, d1, d2, d3⟩ := h
  have he := hall e (by omega) (by omega) (by omega)
  refine ⟨by rw [h1]; exact a1, by rw [he]; exact a2, by rw [he]; exact a3, by rw [he]; exact a4, by rw [he]; exact a5, by rw [he]; exact a6, by rw [he]; exact a7, by rw [he]; exact a8, by rw [he]; exact a9, by rw [he]; exact a10, by rw [he]; exact a11, by rw [he]; exact a12, b1.rg h1 (hall _ (by omega) (by omega) (by omega)) (fun x hx => hall x (by omega) (by omega) (by omega)), b2.rg h1 (hall _ (by omega) (by omega) (by omega)) (fun x hx => hall x (by omega) (by omega) (by omega)), by rw [h1]; exact b3, by rw [h1]; exact b4, fun i hi => ⟨by rw [hall (e + 4) (by omega) (by omega) (by omega)]; exact (b5 i hi).1, by rw [h1]; exact (b5 i hi).2⟩, by rw [h1]; exact b6, by rw [h1]; exact b7, by rw [h1]; exact b8, by rw [h1]; exact c1, by rw [h14 0 (by omega)]; exact c2, by rw [h14 1 (by omega)]; exact c3, ?_, c5.rg h1 (hall _ (by omega) (by omega) (by omega)) (fun x hx => hall x (by omega) (by omega) (by omega)), c6.rg h1 (fun x hx _ => hall x (by omega) (by omega) (by omega)), c7.rg h1 (hall _ (by omega) (by omega) (by omega)), by rw [h1]; exact d1, by rw [hall (e + 534) (by omega) (by omega) (by omega)]; exact d2, by rw [h1]; exact d3⟩
  obtain ⟨t1, t2, t3, t4, t5⟩ := c4
  exact ⟨by rw [h1]; exact t1, by rw [h15 0 (by omega)]; exact t2, by rw [h15 1 (by omega)]; exact t3, by rw [h15 2 (by omega)]; exact t4, by rw [h1]; exact t5⟩
theorem CoS.eq (h : CoS M e) (h1 : x_h M' = x_h M) (h2 : x_r M' = x_r M) : CoS M' e := h.rg h1 (fun a _ _ _ _ => by rw [h2]) (fun a _ => by rw [h2]) (fun j _ => by rw [h2]) (fun j _ => by rw [h2])
theorem CoS.rd (h : CoS M e) {tx ra : Nat} : CoS (rdM M (e + 14) (e + 15) tx ra) e := by
  have o : ∀ a, a ≠ e + 14 → a ≠ e + 15 → x_r (rdM M (e + 14) (e + 15) tx ra) a = x_r M a := fun a g1 g2 => by
    funext j
    unfold rdM
    rw [xr_o (Or.inl g1), xr_o (Or.inl g2)]
  refine h.rg rfl (fun a _ _ g1 g2 => o a g1 g2) (fun a ha => o a (by omega) (by omega)) (fun j hj => ?_) (fun j hj => ?_)
  · unfold rdM
    rw [xr_o (Or.inr hj), xr_o (Or.inl (by omega))]
  · unfold rdM
    rw [xr_o (Or.inl (by omega)), xr_o (Or.inr hj)]
end StateP
