/-! ===== the class: machine, grown, ring, pair, sought ===== -/
section CRowsHead
variable {G : GG} {M M' : Mem} {e m b : Nat} {S S' : Sg} {R K : Nat → Mc} {Q : Option Value → Mem → Prop}
def oS (S : Sg) (k : Nat) (s : Int32) : Prop := y_so S k = -1 ∨ y_so S k = s
/-- a sheet's numbers, noughts if it is missing -/
def maF (S : Sg) (k : Nat) : Nat → Nat := fun t => if y_so S k = -1 then 0 else y_cf S k t
def maT (S : Sg) (a l : Nat) (s : Int32) (n : Nat) : List (Prop × Int32) := [(y_rc S < 10, 2), (oS S a s ∧ oS S l s, 11), ((y_so S a = -1 ∨ n * y_b S ≤ y_sz S a) ∧ (y_so S l = -1 ∨ n ≤ y_sz S l), 12), ((∀ t, t < n * y_b S → maF S a t < n) ∧ (∀ t, t < n → maF S l t < 8), 3)]
def maL (S : Sg) (a l s n : Int32) : List (Prop × Int32) := (iW a 6 ∧ iW l 6 ∧ iW s 3 ∧ 1 ≤ n.toInt ∧ n.toInt ≤ 8, 1) :: maT S (iN a) (iN l) s (iN n)
def maB (S : Sg) (a l n : Nat) : List Nat → Nat := fun u => mcM n (maF S l) (dl (mcD n (y_b S) (maF S a)) n u)
def grT (S : Sg) (a : Nat) (s : Int32) (n : Nat) : List (Prop × Int32) := [(y_rc S < 10, 2), (y_so S a ≠ -1, 10), (y_so S a = s, 11), (n * y_b S ≤ y_sz S a, 12), ((∀ t, t < n * y_b S → y_cf S a t < n) ∧ y_cf S a 0 = 0, 3)]
def grL (S : Sg) (a s n : Int32) : List (Prop × Int32) := (iW a 6 ∧ iW s 3 ∧ 1 ≤ n.toInt ∧ n.toInt ≤ 8, 1) :: grT S (iN a) s (iN n)
def grB (S : Sg) (a : Nat) : List Nat → Nat := fun u => dl (grD (y_b S) (y_cf S a)) 0 u
def riT (S : Sg) (a : Nat) (s : Int32) (i l : Nat) : List (Prop × Int32) := [(y_rc S < 10, 2), (y_so S a ≠ -1, 10), (y_so S a = s, 11), (i + l ≤ y_sz S a, 12), (∀ t, t < i + l → y_cf S a t < 8, 3)]
def riL (S : Sg) (a s i l : Int32) : List (Prop × Int32) := (iW a 6 ∧ iW s 3 ∧ iW i 7 ∧ 1 ≤ l.toInt ∧ l.toInt ≤ 6, 1) :: riT S (iN a) s (iN i) (iN l)
def riB (S : Sg) (a i l : Nat) : List Nat → Nat := fun u => y_cf S a (dl (riD (y_b S) i l) 0 u)
theorem n_rng {n : Int32} {t : Nat} (ht : t < 100) (h1 : 1 ≤ n.toInt) (h2 : n.toInt ≤ t) : ∃ k, 1 ≤ k ∧ k ≤ t ∧ n = nI k := by
  obtain ⟨k, hk, ek⟩ := nI_ofInt (x := n) (n := t + 1) (by omega) (by omega) (by omega)
  have := nI_toInt (n := k) (by omega)
  rw [← ek] at this
  exact ⟨k, by omega, by omega, ek⟩
theorem n_lt1 {n : Int32} : n < 1 ↔ n.toInt < 1 := by rw [Int32.lt_iff_toInt_lt]; exact Iff.rfl
theorem n_le8 {n : Int32} : n ≤ 8 ↔ n.toInt ≤ 8 := by rw [Int32.le_iff_toInt_le]; exact Iff.rfl
theorem n_le6 {n : Int32} : n ≤ 6 ↔ n.toInt ≤ 6 := by rw [Int32.le_iff_toInt_le]; exact Iff.rfl
/-- made -/
theorem w_made (d : Nat) (hS : CoS M e) (hr : y_rc S < 10) (f12 : x_i M e 12 = nI (y_rc S)) {kd oq : Int32} (hQ : Q (some (.int (nI (y_rc S)))) (x_si (x_si (x_si (x_si M (e + 536 + 8 * y_rc S) 1 kd) (e + 536 + 8 * y_rc S) 2 oq) e 12 (nI (y_rc S + 1))) e 15 0)) : Call G (d + 2) 0 0 mX11_made [.ref e, .int kd, .int oq] M Q := by
  obtain ⟨a1, a2, a3, a4, a5, a6, a7, a8, a9, a10, a11, a12, b1, b2, -⟩ := hS
  obtain ⟨r1, r2, r3, r4⟩ := b1.2 _ hr
  refine eX11_made e _ _ ⟨a1, e + 1, a2, by rw [b1.1]; exact ⟨by decide, by decide⟩, by rw [f12, b1.1]; exact vp_in_nI hr (by omega), e + 536 + 8 * y_rc S, by rw [f12, nI_clamp (by omega)]; exact r1, r2, ?_⟩
  rintro M7 rfl
  have g12 : x_i (x_si M (e + 536 + 8 * y_rc S) 1 kd) e 12 = nI (y_rc S) := by rw [xi_na (by omega)]; exact f12
  refine ⟨by rw [g12, b1.1]; exact vp_in_nI hr (by omega), e + 536 + 8 * y_rc S, by rw [g12, nI_clamp (by omega)]; exact r1, r2, ?_⟩
  rintro M11 rfl M12 rfl
  have k12 : x_i (x_si (x_si M (e + 536 + 8 * y_rc S) 1 kd) (e + 536 + 8 * y_rc S) 2 oq) e 12 = nI (y_rc S) := by rw [xi_na (by omega)]; exact g12
  rw [xi_eq, k12, nI_1, show nI (y_rc S + 1) - 1 = nI (y_rc S) from s_sub (b := 1) (by omega)]
  refine w_done d ?_ ?_
  · exact a1
  · exact ⟨_, rfl, hQ⟩
theorem w_addC (d : Nat) (hS : CoS M e) (hB : CoB M e S) (hr : y_rc S < 10) {A : List Nat} (g : Fr M M' A) (hA : ∀ q ∈ A, (e + 502 ≤ q ∧ q ≤ e + 523) ∨ (e + 536 + 8 * y_rc S < q ∧ q < e + 540 + 8 * y_rc S)) {kd : Nat} {oq : Int32} {mc : Mc} (hI : LeI M' (e + 536 + 8 * y_rc S + 1) (e + 536 + 8 * y_rc S + 2) (e + 536 + 8 * y_rc S + 3) (m_n mc) (y_b S) (m_s mc) (m_k mc)) (hQ : ∀ M1, AddC M M1 e S kd oq mc → Q (some (.int (nI (y_rc S)))) M1) : Call G (d + 2) 0 0 mX11_made [.ref e, .int (nI kd), .int oq] M' Q := by
  have o : ∀ q, (q < e + 502 ∨ e + 523 < q) → (q ≤ e + 536 + 8 * y_rc S ∨ e + 540 + 8 * y_rc S ≤ q) → x_i M' q = x_i M q := fun q h1 h2 => g.i (fun c => by have := hA q c; omega)
  refine w_made d (hS.eq g.h g.r) hr (by rw [o e (by omega) (by omega)]; exact hB.2.1) (hQ _ ⟨g.h, g.r, fun q h1 h2 h3 => ?_, fun j h1 h2 => ?_, ?_, xi_eq, ?_, ?_, ?_⟩)
  · funext j
    rw [xi_na h1, xi_na h1, xi_na (by omega), xi_na (by omega), o q (by omega) (by omega)]
  · rw [xi_nk h2, xi_nk h1, xi_na (by omega), xi_na (by omega), o e (by omega) (by omega)]
  · rw [xi_nk (by omega), xi_eq]
  · rw [xi_na (by omega), xi_na (by omega), xi_nk (by omega), xi_eq]
  · rw [xi_na (by omega), xi_na (by omega), xi_eq]
  · unfold RowI LeI at *
    obtain ⟨i1, i2, i3, i4⟩ := hI
    refine ⟨?_, ?_, fun i hi d hd => ?_, fun i hi => ?_⟩
    · rw [xi_na (by omega), xi_na (by omega), xi_na (by omega), xi_na (by omega)]; exact i1
    · rw [xi_na (by omega), xi_na (by omega), xi_na (by omega), xi_na (by omega)]; exact i2
    · rw [xi_na (by omega), xi_na (by omega), xi_na (by omega), xi_na (by omega)]; exact i3 i hi d hd
    · rw [xi_na (by omega), xi_na (by omega), xi_na (by omega), xi_na (by omega)]; exact i4 i hi
def nuA (e : Nat) (S : Sg) (s : Nat) : Nat := if y_so S s = -1 then e + 13 else e + 5 + s
theorem nuA_le {s : Nat} (hs : s < 6) : e + 5 ≤ nuA e S s ∧ nuA e S s ≤ e + 13 := by unfold nuA; split <;> omega
theorem nuA_h (hS : CoS M e) {s : Nat} (hs : s < 6) : x_h M (nuA e S s) = (1, 40) := by
  obtain ⟨a1, a2, a3, a4, a5, a6, a7, a8, a9, a10, a11, a12, b1, b2, b3, b4, b5, b6, b7, b8, -⟩ := hS
  unfold nuA
  split
  · exact b8
  · exact (b5 s hs).2
theorem nuA_i (hH : CoH M e S) {s t : Nat} (hs : s < 6) (ht : t < 40) : x_i M (nuA e S s) t = nI (maF S s t) := by
  unfold nuA maF
  split
  · exact hH.2 t ht
  · exact (hH.1 s hs).2.2 t ht
theorem maF_le (hW : SgW S) {s t : Nat} (hs : s < 6) (ht : t < 40) : maF S s t ≤ 100 := by
  unfold maF
  split
  · omega
  · exact (hW.2.2.2.1 s hs).2.2.2 t ht
theorem w_numbers (d : Nat) (hS : CoS M e) (hH : CoH M e S) {s : Nat} (hs : s < 6) (hQ : Q (some (.ref (nuA e S s))) M) : Call G (d + 1) 0 0 mX11_numbers [.ref e, .int (nI s)] M Q := by
  obtain ⟨a1, a2, a3, a4, a5, a6, a7, a8, a9, a10, a11, a12, b1, b2, b3, b4, b5, b6, b7, b8, -⟩ := hS
  unfold nuA at hQ
  refine eX11_numbers e _ ⟨a1, e + 11, a6, by rw [b6], by rw [b6]; exact vp_in_nI hs (by omega), ?_⟩
  rw [nI_clamp (by omega), (hH.1 s hs).1]
  refine ⟨fun c => ⟨e + 4, a5, by rw [b4]; exact ⟨by decide, by decide⟩, by rw [b4]; exact vp_in_nI hs (by omega), e + 5 + s, (b5 s hs).1, ?_⟩, fun c => ⟨e + 13, a8, ?_⟩⟩
  · rw [if_neg c] at hQ; exact hQ
  · rw [if_pos c] at hQ; exact hQ
theorem w_machine (d : Nat) (hS : CoS M e) (hW : SgW S) (hB : CoB M e S) (hH : CoH M e S) {a l s n : Int32} (hQ0 : ∀ c, rfL (maL S a l s n) c → Q (some (.int (-1))) (x_si M e 15 c))
    (hQ1 : rfG (maL S a l s n) → ∀ M1 mc, AddC M M1 e S 0 (-1) mc → m_n mc ≤ 60 → mcan (y_b S) mc (maB S (iN a) (iN l) (iN n)) → Q (some (.int (nI (y_rc S)))) M1) : Call G (d + 6) 0 0 mX11_machine [.ref e, .int a, .int l, .int s, .int n] M Q := by
  have hS' := hS
  obtain ⟨a1, a2, a3, a4, a5, a6, a7, a8, a9, a10, a11, a12, b1, b2, b3, b4, b5, b6, b7, b8, c1, c2, c3, c4, c5, c6, c7, d1, d2, d3⟩ := hS
  have hb := hW.1
  have hrc := hW.2.2.2.2.1
  obtain ⟨f11, f12, f13, f14, f15⟩ := id hB
  have refuse : ∀ c, rfL (maL S a l s n) c → Call G (d + 5) 0 0 mX11_refuse [.ref e, .int c] M (fun r6 M7 => ∃ v8 : Int32, r6 = some (.int v8) ∧ Q (some (.int v8)) M7) := fun c h => w_refuse (d + 4) a1 ⟨_, rfl, hQ0 c h⟩
  have bad : ¬ (iW a 6 ∧ iW l 6 ∧ iW s 3 ∧ 1 ≤ n.toInt ∧ n.toInt ≤ 8) → Call G (d + 5) 0 0 mX11_refuse [.ref e, .int 1] M (fun r6 M7 => ∃ v8 : Int32, r6 = some (.int v8) ∧ Q (some (.int v8)) M7) := fun h => refuse 1 (Or.inl ⟨h, rfl⟩)
  refine eX11_machine e _ _ _ _ (w_in0 (n := 6) (d + 4) (by omega) (fun h => ⟨0, rfl, fun _ => ⟨a1, bad (fun z => iW.not h (by omega) z.1)⟩, fun z => absurd rfl z⟩) (fun a' ha ea => ⟨1, rfl, fun z => absurd z (by decide), fun _ => ?_⟩))
  refine w_in0 (n := 6) (d + 4) (by omega) (fun h => ⟨0, rfl, fun _ => ⟨a1, bad (fun z => iW.not h (by omega) z.2.1)⟩, fun z => absurd rfl z⟩) (fun l' hl el => ⟨1, rfl, fun z => absurd z (by decide), fun _ => ?_⟩)
  refine w_in0 (n := 3) (d + 4) (by omega) (fun h => ⟨0, rfl, fun _ => ⟨a1, bad (fun z => iW.not h (by omega) z.2.2.1)⟩, fun z => absurd rfl z⟩) (fun s' hs es => ⟨1, rfl, fun z => absurd z (by decide), fun _ => ?_⟩)
  refine ⟨fun c => ⟨a1, bad (fun z => by rw [n_lt1] at c; omega)⟩, fun cn1 => ⟨fun cn8 => ?_, fun c => ⟨a1, bad (fun z => by rw [n_le8] at c; omega)⟩⟩⟩
  rw [n_lt1] at cn1
  rw [n_le8] at cn8
  obtain ⟨n', hn1, hn8, en⟩ := n_rng (n := n) (t := 8) (by omega) (by omega) (by omega)
  have A1 : iW a 6 ∧ iW l 6 ∧ iW s 3 ∧ 1 ≤ n.toInt ∧ n.toInt ≤ 8 := ⟨by rw [ea]; exact iW_nI ha (by omega), by rw [el]; exact iW_nI hl (by omega), by rw [es]; exact iW_nI hs (by omega), by omega, by omega⟩
  have ia : iN a = a' := by rw [ea]; exact iN_nI (by omega)
  have il : iN l = l' := by rw [el]; exact iN_nI (by omega)
  have ii : iN n = n' := by rw [en]; exact iN_nI (by omega)
  have rT : ∀ c, rfL (maT S a' l' s n') c → Call G (d + 5) 0 0 mX11_refuse [.ref e, .int c] M (fun r6 M7 => ∃ v8 : Int32, r6 = some (.int v8) ∧ Q (some (.int v8)) M7) := fun c h => refuse c (Or.inr ⟨A1, by rw [ia, il, ii]; exact h⟩)
  have gT : rfG (maT S a' l' s n') → ∀ M1 mc, AddC M M1 e S 0 (-1) mc → m_n mc ≤ 60 → mcan (y_b S) mc (maB S a' l' n') → Q (some (.int (nI (y_rc S)))) M1 := fun h => by
    have := hQ1 ⟨A1, by rw [ia, il, ii]; exact h⟩
    rw [ia, il, ii] at this
    exact this
  clear hQ0 hQ1 bad refuse A1 ia il ii
  subst ea el en
  have nb : n' * y_b S ≤ 24 := by
    have : n' * y_b S ≤ 8 * 3 := Nat.mul_le_mul hn8 (by omega)
    omega
  obtain ⟨za1, za2, za3, za4⟩ := hW.2.2.2.1 a' ha
  obtain ⟨zl1, zl2, zl3, zl4⟩ := hW.2.2.2.1 l' hl
  obtain ⟨ha1, ha2, ha3⟩ := hH.1 a' ha
  obtain ⟨hl1, hl2, hl3⟩ := hH.1 l' hl
  have enb : nI n' * nI (y_b S) = nI (n' * y_b S) := s_mul _ _
  refine ⟨a1, ?_⟩
  rw [f12, show (10 : Int32) = nI 10 from rfl, nI_ltI (by omega) (by omega)]
  refine ⟨fun cr => ?_, fun cr => rT 2 (Or.inl ⟨cr, rfl⟩)⟩
  refine w_otherSort (d + 4) a1 a6 b6 ha ⟨_, rfl, ?_⟩
  rw [ha1]
  by_cases o1 : y_so S a' = -1 ∨ y_so S a' = s
  case neg =>
    rw [if_neg o1]
    exact ⟨fun _ => ⟨a1, rT 11 (Or.inr ⟨cr, Or.inl ⟨fun z => o1 z.1, rfl⟩⟩)⟩, fun z => absurd z (by decide)⟩
  rw [if_pos o1]
  refine ⟨fun z => absurd rfl z, fun _ => ⟨a1, w_otherSort (d + 4) a1 a6 b6 hl ⟨_, rfl, ?_⟩⟩⟩
  rw [hl1]
  by_cases o2 : y_so S l' = -1 ∨ y_so S l' = s
  case neg =>
    rw [if_neg o2]
    exact ⟨fun z => absurd z (by decide), fun _ => ⟨a1, rT 11 (Or.inr ⟨cr, Or.inl ⟨fun z => o2 z.2, rfl⟩⟩)⟩⟩
  rw [if_pos o2, f11, enb]
  refine ⟨fun _ => ⟨a1, w_tooShort (d + 4) a1 a6 b6 a7 b7 ha ⟨_, rfl, ?_⟩⟩, fun z => absurd rfl z⟩
  rw [ha1, ha2]
  simp only [nI_leI (show n' * y_b S < 2 ^ 31 by omega) (show y_sz S a' < 2 ^ 31 by omega)]
  by_cases t1 : y_so S a' = -1 ∨ n' * y_b S ≤ y_sz S a'
  case neg =>
    rw [if_neg t1]
    exact ⟨fun _ => ⟨a1, rT 12 (Or.inr ⟨cr, Or.inr ⟨⟨o1, o2⟩, Or.inl ⟨fun z => t1 z.1, rfl⟩⟩⟩)⟩, fun z => absurd z (by decide)⟩
  rw [if_pos t1]
  refine ⟨fun z => absurd rfl z, fun _ => ⟨a1, w_tooShort (d + 4) a1 a6 b6 a7 b7 hl ⟨_, rfl, ?_⟩⟩⟩
  rw [hl1, hl2]
  simp only [nI_leI (show n' < 2 ^ 31 by omega) (show y_sz S l' < 2 ^ 31 by omega)]
  by_cases t2 : y_so S l' = -1 ∨ n' ≤ y_sz S l'
  case neg =>
    rw [if_neg t2]
    exact ⟨fun z => absurd z (by decide), fun _ => ⟨a1, rT 12 (Or.inr ⟨cr, Or.inr ⟨⟨o1, o2⟩, Or.inl ⟨fun z => t2 z.2, rfl⟩⟩⟩)⟩⟩
  rw [if_pos t2]
  refine ⟨fun _ => ⟨a1, w_numbers (d + 4) hS' hH ha ⟨_, rfl, a1, ?_⟩⟩, fun z => absurd rfl z⟩
  rw [f11, enb]
  refine w_allBelow (d + 4) (len := 40) (cf := maF S a') (nuA_h hS' ha) (by omega) (by omega) (by omega) (fun i hi => ⟨nuA_i hH ha (by omega), by have := maF_le hW ha (show i < 40 by omega); omega⟩) (fun h => ⟨0, rfl, fun _ => ⟨a1, rT 3 (Or.inr ⟨cr, Or.inr ⟨⟨o1, o2⟩, Or.inr ⟨⟨t1, t2⟩, Or.inl ⟨fun z => ?_, rfl⟩⟩⟩⟩)⟩, fun z => absurd rfl z⟩) (fun h1 => ⟨1, rfl, fun z => absurd z (by decide), fun _ => ⟨a1, w_numbers (d + 4) hS' hH hl ⟨_, rfl, ?_⟩⟩⟩)
  · obtain ⟨i, hi, ci⟩ := h
    have := z.1 i hi
    omega
  show Call G (d + 5) 0 0 mX11_allBelow [.ref (nuA e S l'), .int (nI n'), .int (nI 8)] M _
  refine w_allBelow (d + 4) (len := 40) (cf := maF S l') (nuA_h hS' hl) (by omega) (by omega) (by omega) (fun i hi => ⟨nuA_i hH hl (by omega), by have := maF_le hW hl (show i < 40 by omega); omega⟩) (fun h => ⟨0, rfl, fun z => absurd rfl z, fun _ => ⟨a1, rT 3 (Or.inr ⟨cr, Or.inr ⟨⟨o1, o2⟩, Or.inr ⟨⟨t1, t2⟩, Or.inl ⟨fun z => ?_, rfl⟩⟩⟩⟩)⟩⟩) (fun h2 => ⟨1, rfl, fun _ => ⟨a1, e + 502, a10, w_numbers (d + 4) hS' hH ha ⟨_, rfl, a1, w_numbers (d + 4) hS' hH hl ⟨_, rfl, a1, e + 1, a2, by rw [b1.1]; exact ⟨by decide, by decide⟩, by rw [f12, b1.1]; exact vp_in_nI cr (by omega), e + 536 + 8 * y_rc S, by rw [f12, nI_clamp (by omega)]; exact (b1.2 _ cr).1, (b1.2 _ cr).2.1, e + 536 + 8 * y_rc S + 1, (b1.2 _ cr).2.2.1, c6.1, ?_⟩⟩⟩, fun z => absurd z (by decide)⟩)
  · obtain ⟨i, hi, ci⟩ := h
    have := z.2 i hi
    omega
  have na := nuA_le (e := e) (S := S) ha
  have nl := nuA_le (e := e) (S := S) hl
  rw [f11]
  refine w_weaveMachine d c6 (b1.2 _ cr).2.2.2 (by simp; omega) (by omega) (by omega) (sf := maF S a') (lf := maF S l') (by omega) hn8 (by omega) (by omega) (nuA_h hS' ha) (nuA_h hS' hl) ⟨by simp; omega, by omega⟩ ⟨by simp; omega, by omega⟩ (fun t ht => ⟨nuA_i hH ha (by omega), h1 t ht⟩) (fun t ht => ⟨nuA_i hH hl (by omega), h2 t ht⟩) (fun M1 m1 st mr g h60 hI hcan => ⟨rfl, ?_⟩)
  refine ⟨by rw [g.h]; exact a1, ?_⟩
  refine w_addC (kd := 0) (oq := -1) (mc := (m1, st, mr)) (d + 3) hS' hB cr g (fun q hq => ?_) hI (fun M2 hA => ⟨_, rfl, gT ⟨cr, ⟨o1, o2⟩, ⟨t1, t2⟩, ⟨h1, h2⟩, trivial⟩ M2 _ hA h60 hcan⟩)
  simp at hq
  omega
theorem w_sheetFault (d : Nat) (hS : CoS M e) (hW : SgW S) (hB : CoB M e S) (hH : CoH M e S) {a k : Nat} {s : Int32} (ha : a < 6) (hk : k < 100) (hQ2 : ¬ y_rc S < 10 → Q (some (.int 2)) M) (hQ10 : y_rc S < 10 → ¬ y_so S a ≠ -1 → Q (some (.int 10)) M) (hQ11 : y_rc S < 10 → y_so S a ≠ -1 → ¬ y_so S a = s → Q (some (.int 11)) M) (hQ12 : y_rc S < 10 → y_so S a ≠ -1 → y_so S a = s → ¬ k ≤ y_sz S a → Q (some (.int 12)) M) (hQ : y_rc S < 10 → y_so S a ≠ -1 → y_so S a = s → k ≤ y_sz S a → Q (some (.int 0)) M) : Call G (d + 1) 0 0 mX11_sheetFault [.ref e, .int (nI a), .int s, .int (nI k)] M Q := by
  obtain ⟨a1, a2, a3, a4, a5, a6, a7, a8, a9, a10, a11, a12, b1, b2, b3, b4, b5, b6, b7, b8, -⟩ := hS
  have hrc := hW.2.2.2.2.1
  obtain ⟨za1, za2, za3, za4⟩ := hW.2.2.2.1 a ha
  obtain ⟨ha1, ha2, ha3⟩ := hH.1 a ha
  refine eX11_sheetFault e _ _ _ ⟨a1, ?_⟩
  rw [hB.2.1, show (10 : Int32) = nI 10 from rfl, nI_ltI (by omega) (by omega)]
  refine ⟨fun cr => ⟨e + 11, a6, by rw [b6], by rw [b6]; exact vp_in_nI ha (by omega), ?_⟩, fun cr => hQ2 cr⟩
  rw [nI_clamp (by omega), ha1]
  refine ⟨fun c1 => ⟨fun c2 => ⟨e + 12, a7, by rw [b7], by rw [b7]; exact vp_in_nI ha (by omega), ?_⟩, fun c2 => hQ11 cr c1 c2⟩, fun c1 => hQ10 cr (fun z => z c1)⟩
  rw [ha2, nI_leI (by omega) (by omega)]
  exact ⟨fun c => hQ cr c1 c2 c, fun c => hQ12 cr c1 c2 c⟩
theorem w_grown (d : Nat) (hS : CoS M e) (hW : SgW S) (hB : CoB M e S) (hH : CoH M e S) {a s n : Int32} (hQ0 : ∀ c, rfL (grL S a s n) c → Q (some (.int (-1))) (x_si M e 15 c))
    (hQ1 : rfG (grL S a s n) → ∀ M1 mc, AddC M M1 e S 1 (-1) mc → m_n mc ≤ 60 → mcan (y_b S) mc (grB S (iN a)) → Q (some (.int (nI (y_rc S)))) M1) : Call G (d + 6) 0 0 mX11_grown [.ref e, .int a, .int s, .int n] M Q := by
  have hS' := hS
  obtain ⟨a1, a2, a3, a4, a5, a6, a7, a8, a9, a10, a11, a12, b1, b2, b3, b4, b5, b6, b7, b8, c1, c2, c3, c4, c5, c6, c7, d1, d2, d3⟩ := hS
  have hb := hW.1
  have hrc := hW.2.2.2.2.1
  obtain ⟨f11, f12, f13, f14, f15⟩ := id hB
  have refuse : ∀ c, rfL (grL S a s n) c → Call G (d + 5) 0 0 mX11_refuse [.ref e, .int c] M (fun r6 M7 => ∃ v8 : Int32, r6 = some (.int v8) ∧ Q (some (.int v8)) M7) := fun c h => w_refuse (d + 4) a1 ⟨_, rfl, hQ0 c h⟩
  have bad : ¬ (iW a 6 ∧ iW s 3 ∧ 1 ≤ n.toInt ∧ n.toInt ≤ 8) → Call G (d + 5) 0 0 mX11_refuse [.ref e, .int 1] M (fun r6 M7 => ∃ v8 : Int32, r6 = some (.int v8) ∧ Q (some (.int v8)) M7) := fun h => refuse 1 (Or.inl ⟨h, rfl⟩)
  refine eX11_grown e _ _ _ (w_in0 (n := 6) (d + 4) (by omega) (fun h => ⟨0, rfl, fun _ => ⟨a1, bad (fun z => iW.not h (by omega) z.1)⟩, fun z => absurd rfl z⟩) (fun a' ha ea => ⟨1, rfl, fun z => absurd z (by decide), fun _ => ?_⟩))
  refine w_in0 (n := 3) (d + 4) (by omega) (fun h => ⟨0, rfl, fun _ => ⟨a1, bad (fun z => iW.not h (by omega) z.2.1)⟩, fun z => absurd rfl z⟩) (fun s' hs es => ⟨1, rfl, fun z => absurd z (by decide), fun _ => ?_⟩)
  refine ⟨fun c => ⟨a1, bad (fun z => by rw [n_lt1] at c; omega)⟩, fun cn1 => ⟨fun cn8 => ?_, fun c => ⟨a1, bad (fun z => by rw [n_le8] at c; omega)⟩⟩⟩
  rw [n_lt1] at cn1
  rw [n_le8] at cn8
  obtain ⟨n', hn1, hn8, en⟩ := n_rng (n := n) (t := 8) (by omega) (by omega) (by omega)
  have A1 : iW a 6 ∧ iW s 3 ∧ 1 ≤ n.toInt ∧ n.toInt ≤ 8 := ⟨by rw [ea]; exact iW_nI ha (by omega), by rw [es]; exact iW_nI hs (by omega), by omega, by omega⟩
  have ia : iN a = a' := by rw [ea]; exact iN_nI (by omega)
  have ii : iN n = n' := by rw [en]; exact iN_nI (by omega)
  have rT : ∀ c, rfL (grT S a' s n') c → Call G (d + 5) 0 0 mX11_refuse [.ref e, .int c] M (fun r6 M7 => ∃ v8 : Int32, r6 = some (.int v8) ∧ Q (some (.int v8)) M7) := fun c h => refuse c (Or.inr ⟨A1, by rw [ia, ii]; exact h⟩)
  have gT : rfG (grT S a' s n') → ∀ M1 mc, AddC M M1 e S 1 (-1) mc → m_n mc ≤ 60 → mcan (y_b S) mc (grB S a') → Q (some (.int (nI (y_rc S)))) M1 := fun h => by
    have := hQ1 ⟨A1, by rw [ia, ii]; exact h⟩
    rw [ia] at this
    exact this
  clear hQ0 hQ1 bad refuse A1 ia ii
  subst ea en
  have nb : n' * y_b S ≤ 24 := by
    have : n' * y_b S ≤ 8 * 3 := Nat.mul_le_mul hn8 (by omega)
    omega
  have nb0 : 0 < n' * y_b S := Nat.mul_pos (by omega) (by omega)
  obtain ⟨za1, za2, za3, za4⟩ := hW.2.2.2.1 a' ha
  obtain ⟨ha1, ha2, ha3⟩ := hH.1 a' ha
  have enb : nI n' * nI (y_b S) = nI (n' * y_b S) := s_mul _ _
  refine ⟨a1, ?_⟩
  rw [f11, enb]
  refine w_sheetFault (d + 4) hS' hW hB hH ha (by omega) (fun n2 => ⟨2, rfl, fun z => absurd z (by decide), fun _ => ⟨a1, rT 2 (Or.inl ⟨n2, rfl⟩)⟩⟩) (fun y2 n3 => ⟨10, rfl, fun z => absurd z (by decide), fun _ => ⟨a1, rT 10 (Or.inr ⟨y2, Or.inl ⟨n3, rfl⟩⟩)⟩⟩) (fun y2 y3 n4 => ⟨11, rfl, fun z => absurd z (by decide), fun _ => ⟨a1, rT 11 (Or.inr ⟨y2, Or.inr ⟨y3, Or.inl ⟨n4, rfl⟩⟩⟩)⟩⟩) (fun y2 y3 y4 n5 => ⟨12, rfl, fun z => absurd z (by decide), fun _ => ⟨a1, rT 12 (Or.inr ⟨y2, Or.inr ⟨y3, Or.inr ⟨y4, Or.inl ⟨n5, rfl⟩⟩⟩⟩)⟩⟩) (fun cr y3 y4 y5 => ⟨0, rfl, fun _ => ⟨a1, e + 4, a5, by rw [b4]; exact ⟨by decide, by decide⟩, by rw [b4]; exact vp_in_nI ha (by omega), e + 5 + a', by rw [nI_clamp (by omega)]; exact (b5 a' ha).1, ?_⟩, fun z => absurd rfl z⟩)
  rw [f11, enb]
  refine w_allBelow (d + 4) (len := 40) (cf := y_cf S a') (b5 a' ha).2 (by omega) (by omega) (by omega) (fun i hi => ⟨ha3 i (by omega), by have := za4 i (by omega); omega⟩) (fun h => ⟨0, rfl, fun _ => ⟨a1, rT 3 (Or.inr ⟨cr, Or.inr ⟨y3, Or.inr ⟨y4, Or.inr ⟨y5, Or.inl ⟨fun z => ?_, rfl⟩⟩⟩⟩⟩)⟩, fun z => absurd rfl z⟩) (fun h1 => ⟨1, rfl, fun z => absurd z (by decide), fun _ => ⟨by rw [(b5 a' ha).2], by rw [(b5 a' ha).2]; exact vp_in_nI (n := 0) (show 0 < 40 by omega) (by omega), ?_⟩⟩)
  · obtain ⟨i, hi, ci⟩ := h
    have := z.1 i hi
    omega
  rw [show (0 : Int32) = nI 0 from rfl, nI_clamp (by omega), ha3 0 (by omega), nI_eq (by have := za4 0 (by omega); omega) (by omega)]
  refine ⟨fun h2 => ⟨a1, e + 502, a10, e + 1, a2, by rw [b1.1]; exact ⟨by decide, by decide⟩, by rw [f12, b1.1]; exact vp_in_nI cr (by omega), e + 536 + 8 * y_rc S, by rw [f12, nI_clamp (by omega)]; exact (b1.2 _ cr).1, (b1.2 _ cr).2.1, e + 536 + 8 * y_rc S + 1, (b1.2 _ cr).2.2.1, c6.1, ?_⟩, fun h2 => ⟨a1, rT 3 (Or.inr ⟨cr, Or.inr ⟨y3, Or.inr ⟨y4, Or.inr ⟨y5, Or.inl ⟨fun z => h2 z.2, rfl⟩⟩⟩⟩⟩)⟩⟩
  rw [f11]
  refine w_weaveGrown d c6 (b1.2 _ cr).2.2.2 (by simp; omega) (by omega) (by omega) (sf := y_cf S a') (by omega) hn8 (by omega) (by omega) (b5 a' ha).2 ⟨by simp; omega, by omega⟩ (fun t ht => ⟨ha3 t (by omega), h1 t ht⟩) (fun M1 m1 st mr g h60 hI hcan => ⟨rfl, ?_⟩)
  refine ⟨by rw [g.h]; exact a1, ?_⟩
  refine w_addC (kd := 1) (oq := -1) (mc := (m1, st, mr)) (d + 3) hS' hB cr g (fun q hq => ?_) hI (fun M2 hA => ⟨_, rfl, gT ⟨cr, y3, y4, y5, ⟨h1, h2⟩, trivial⟩ M2 _ hA h60 hcan⟩)
  simp at hq
  omega
theorem w_ring (d : Nat) (hS : CoS M e) (hW : SgW S) (hB : CoB M e S) (hH : CoH M e S) {a s i l : Int32} (hQ0 : ∀ c, rfL (riL S a s i l) c → Q (some (.int (-1))) (x_si M e 15 c))
    (hQ1 : rfG (riL S a s i l) → ∀ M1 mc, AddC M M1 e S 2 (-1) mc → m_n mc ≤ 60 → mcan (y_b S) mc (riB S (iN a) (iN i) (iN l)) → Q (some (.int (nI (y_rc S)))) M1) : Call G (d + 6) 0 0 mX11_ring [.ref e, .int a, .int s, .int i, .int l] M Q := by
  have hS' := hS
  obtain ⟨a1, a2, a3, a4, a5, a6, a7, a8, a9, a10, a11, a12, b1, b2, b3, b4, b5, b6, b7, b8, c1, c2, c3, c4, c5, c6, c7, d1, d2, d3⟩ := hS
  have hb := hW.1
  have hrc := hW.2.2.2.2.1
  obtain ⟨f11, f12, f13, f14, f15⟩ := id hB
  have refuse : ∀ c, rfL (riL S a s i l) c → Call G (d + 5) 0 0 mX11_refuse [.ref e, .int c] M (fun r6 M7 => ∃ v8 : Int32, r6 = some (.int v8) ∧ Q (some (.int v8)) M7) := fun c h => w_refuse (d + 4) a1 ⟨_, rfl, hQ0 c h⟩
  have bad : ¬ (iW a 6 ∧ iW s 3 ∧ iW i 7 ∧ 1 ≤ l.toInt ∧ l.toInt ≤ 6) → Call G (d + 5) 0 0 mX11_refuse [.ref e, .int 1] M (fun r6 M7 => ∃ v8 : Int32, r6 = some (.int v8) ∧ Q (some (.int v8)) M7) := fun h => refuse 1 (Or.inl ⟨h, rfl⟩)
  refine eX11_ring e _ _ _ _ (w_in0 (n := 6) (d + 4) (by omega) (fun h => ⟨0, rfl, fun _ => ⟨a1, bad (fun z => iW.not h (by omega) z.1)⟩, fun z => absurd rfl z⟩) (fun a' ha ea => ⟨1, rfl, fun z => absurd z (by decide), fun _ => ?_⟩))
  refine w_in0 (n := 3) (d + 4) (by omega) (fun h => ⟨0, rfl, fun _ => ⟨a1, bad (fun z => iW.not h (by omega) z.2.1)⟩, fun z => absurd rfl z⟩) (fun s' hs es => ⟨1, rfl, fun z => absurd z (by decide), fun _ => ?_⟩)
  refine w_in0 (n := 7) (d + 4) (by omega) (fun h => ⟨0, rfl, fun _ => ⟨a1, bad (fun z => iW.not h (by omega) z.2.2.1)⟩, fun z => absurd rfl z⟩) (fun i' hi ei => ⟨1, rfl, fun z => absurd z (by decide), fun _ => ?_⟩)
  refine ⟨fun c => ⟨a1, bad (fun z => by rw [n_lt1] at c; omega)⟩, fun cn1 => ⟨fun cn8 => ?_, fun c => ⟨a1, bad (fun z => by rw [n_le6] at c; omega)⟩⟩⟩
  rw [n_lt1] at cn1
  rw [n_le6] at cn8
  obtain ⟨l', hl1, hl6, el⟩ := n_rng (n := l) (t := 6) (by omega) (by omega) (by omega)
  have A1 : iW a 6 ∧ iW s 3 ∧ iW i 7 ∧ 1 ≤ l.toInt ∧ l.toInt ≤ 6 := ⟨by rw [ea]; exact iW_nI ha (by omega), by rw [es]; exact iW_nI hs (by omega), by rw [ei]; exact iW_nI hi (by omega), by omega, by omega⟩
  have ia : iN a = a' := by rw [ea]; exact iN_nI (by omega)
  have ii : iN i = i' := by rw [ei]; exact iN_nI (by omega)
  have il : iN l = l' := by rw [el]; exact iN_nI (by omega)
  have rT : ∀ c, rfL (riT S a' s i' l') c → Call G (d + 5) 0 0 mX11_refuse [.ref e, .int c] M (fun r6 M7 => ∃ v8 : Int32, r6 = some (.int v8) ∧ Q (some (.int v8)) M7) := fun c h => refuse c (Or.inr ⟨A1, by rw [ia, ii, il]; exact h⟩)
  have gT : rfG (riT S a' s i' l') → ∀ M1 mc, AddC M M1 e S 2 (-1) mc → m_n mc ≤ 60 → mcan (y_b S) mc (riB S a' i' l') → Q (some (.int (nI (y_rc S)))) M1 := fun h => by
    have := hQ1 ⟨A1, by rw [ia, ii, il]; exact h⟩
    rw [ia, ii, il] at this
    exact this
  clear hQ0 hQ1 bad refuse A1 ia ii il
  subst ea ei el
  obtain ⟨za1, za2, za3, za4⟩ := hW.2.2.2.1 a' ha
  obtain ⟨ha1, ha2, ha3⟩ := hH.1 a' ha
  refine ⟨a1, ?_⟩
  rw [nI_add]
  refine w_sheetFault (d + 4) hS' hW hB hH ha (by omega) (fun n2 => ⟨2, rfl, fun z => absurd z (by decide), fun _ => ⟨a1, rT 2 (Or.inl ⟨n2, rfl⟩)⟩⟩) (fun y2 n3 => ⟨10, rfl, fun z => absurd z (by decide), fun _ => ⟨a1, rT 10 (Or.inr ⟨y2, Or.inl ⟨n3, rfl⟩⟩)⟩⟩) (fun y2 y3 n4 => ⟨11, rfl, fun z => absurd z (by decide), fun _ => ⟨a1, rT 11 (Or.inr ⟨y2, Or.inr ⟨y3, Or.inl ⟨n4, rfl⟩⟩⟩)⟩⟩) (fun y2 y3 y4 n5 => ⟨12, rfl, fun z => absurd z (by decide), fun _ => ⟨a1, rT 12 (Or.inr ⟨y2, Or.inr ⟨y3, Or.inr ⟨y4, Or.inl ⟨n5, rfl⟩⟩⟩⟩)⟩⟩) (fun cr y3 y4 y5 => ⟨0, rfl, fun _ => ⟨a1, e + 4, a5, by rw [b4]; exact ⟨by decide, by decide⟩, by rw [b4]; exact vp_in_nI ha (by omega), e + 5 + a', by rw [nI_clamp (by omega)]; exact (b5 a' ha).1, ?_⟩, fun z => absurd rfl z⟩)
  show Call G (d + 5) 0 0 mX11_allBelow [.ref (e + 5 + a'), .int (nI (i' + l')), .int (nI 8)] M _
  refine w_allBelow (d + 4) (len := 40) (cf := y_cf S a') (b5 a' ha).2 (by omega) (by omega) (by omega) (fun t ht => ⟨ha3 t (by omega), by have := za4 t (by omega); omega⟩) (fun h => ⟨0, rfl, fun z => absurd rfl z, fun _ => ⟨a1, rT 3 (Or.inr ⟨cr, Or.inr ⟨y3, Or.inr ⟨y4, Or.inr ⟨y5, Or.inl ⟨fun z => ?_, rfl⟩⟩⟩⟩⟩)⟩⟩) (fun h1 => ⟨1, rfl, fun _ => ?_, fun z => absurd z (by decide)⟩)
  · obtain ⟨t, ht, ct⟩ := h
    have := z t ht
    omega
  refine ⟨a1, e + 502, a10, e + 4, a5, by rw [b4]; exact ⟨by decide, by decide⟩, by rw [b4]; exact vp_in_nI ha (by omega), e + 5 + a', by rw [nI_clamp (by omega)]; exact (b5 a' ha).1, e + 1, a2, by rw [b1.1]; exact ⟨by decide, by decide⟩, by rw [f12, b1.1]; exact vp_in_nI cr (by omega), e + 536 + 8 * y_rc S, by rw [f12, nI_clamp (by omega)]; exact (b1.2 _ cr).1, (b1.2 _ cr).2.1, e + 536 + 8 * y_rc S + 1, (b1.2 _ cr).2.2.1, c6.1, ?_⟩
  rw [f11]
  refine w_weaveRing d c6 (b1.2 _ cr).2.2.2 (by simp; omega) (by omega) (by omega) (lf := y_cf S a') (by omega) (by omega) hl6 (by omega) (by omega) (b5 a' ha).2 ⟨by simp; omega, by omega⟩ (fun t ht => ⟨ha3 t (by omega), h1 t ht⟩) (fun M1 m1 st mr g h60 hI hcan => ⟨rfl, ?_⟩)
  refine ⟨by rw [g.h]; exact a1, ?_⟩
  refine w_addC (kd := 2) (oq := -1) (mc := (m1, st, mr)) (d + 3) hS' hB cr g (fun q hq => ?_) hI (fun M2 hA => ⟨_, rfl, gT ⟨cr, y3, y4, y5, h1, trivial⟩ M2 _ hA h60 hcan⟩)
  simp at hq
  omega
end CRowsHead
