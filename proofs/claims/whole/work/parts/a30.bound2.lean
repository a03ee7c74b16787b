/-! ===== Weaver: weaveBound ===== -/
section BoundC
/-- the mark of a set -/
def bdM (fm T S : Nat) : Nat := if fm = 7 then (if S &&& T = 0 then 0 else 1) else (if S &&& T = S then 1 else 0)
theorem bdM_le {fm T S : Nat} : bdM fm T S ≤ 1 := by
  unfold bdM
  split
  · split <;> omega
  · split <;> omega
theorem and_0 {S T : Nat} : S &&& T = 0 ↔ ¬ ∃ j, S.testBit j = true ∧ T.testBit j = true := by
  rw [tb_zero]
  exact ⟨fun h ⟨j, h1, h2⟩ => h j (tb_and.mpr ⟨h1, h2⟩), fun h j hj => h ⟨j, tb_and.mp hj⟩⟩
theorem and_S {S T : Nat} : S &&& T = S ↔ ∀ j, S.testBit j = true → T.testBit j = true := by
  constructor
  · intro h j hj
    rw [← h] at hj
    exact (tb_and.mp hj).2
  · intro h
    exact tb_ext (fun j => ⟨fun e => (tb_and.mp e).1, fun e => tb_and.mpr ⟨e, h j e⟩⟩)
theorem range_ins {m : Nat} : ins (List.range m) m = List.range (m + 1) := by
  unfold ins
  rw [if_neg (by simp <;> omega), List.range_succ]
theorem range_in {m x : Nat} (h : x < m) : ins (List.range m) x = List.range m := if_pos (List.mem_range.mpr h)
theorem range_idx {m x : Nat} (h : x < m) : (List.range m).idxOf x = x := by
  have := idx_getD (K := List.range m) List.nodup_range (i := x) (by simpa using h)
  rw [List.getD_eq_getElem?_getD, List.getElem?_range h] at this
  exact this
variable {G : GG} {M : Mem} {w b p c : Nat} {Q : Option Value → Mem → Prop}
def BoI (M : Mem) (w f : Nat) (δ : Nat → Nat → Nat) (k0 : Nat) (μ : Nat → Nat) (c i : Nat) : Prop :=
  LoD M (w + 1) 300 f (List.range (ex δ f k0 c).length) ∧ (∀ q, q < c → x_i M (w + 1 + 4) q = nI (exl δ f k0 q)) ∧ (∀ t, t < i → x_i M (w + 1 + 3) t = nI (μ ((ex δ f k0 c).getD t 0))) ∧ exV δ f k0 c ∧ i ≤ (ex δ f k0 c).length ∧ SeT M w (ex δ f k0 c)
/-- what is known when all sets are met, or too many -/
def exDone (δ : Nat → Nat → Nat) (f k0 : Nat) : Prop := ∃ c, c = (ex δ f k0 c).length * f ∧ exV δ f k0 c ∧ (ex δ f k0 c).length ≤ 300
def exOver (δ : Nat → Nat → Nat) (f k0 : Nat) : Prop := ∃ c, exV δ f k0 c ∧ 300 < (ex δ f k0 c).length
theorem w_weaveBound (d : Nat) (hw : WeS M w) (e11 : x_i M w 11 = nI b) (hb : 1 < b) (hb3 : b ≤ 3) (hp : PaS M p) (hc : PaS M c) (hpd : ∀ q, p ≤ q → q ≤ p + 7 → q < w ∨ w + 21 < q) (hcd : ∀ q, c ≤ q → q ≤ c + 7 → q < w ∨ w + 21 < q) (hpc : p + 7 < c ∨ c + 7 < p) {sP sC fm n : Nat} {st : Nat → Nat → Nat} {mr : Nat → Nat}
    (hsP : sP < 256) (hsC : sC < 256) (hsub : ∀ n, n < 8 → bt sP n = 1 → bt sC n = 1) (h27 : fn b sC ≤ 27) (i8 : x_i M p 8 = nI sP) (i8c : x_i M c 8 = nI sC) (i3 : x_i M p 3 = nI fm) (hfm : fm = 6 ∨ fm = 7)
    (hci : LeI M (c + 5) (c + 6) (c + 7) n (fn b sC) st mr) (hn0 : 0 < n) (hn : n ≤ 40) (hcc : ∀ i, i < n → ∀ g, g < fn b sC → st i g < n) (hmr : ∀ i, i < n → mr i ≤ 1)
    (hQe : ∀ M', Fr M M' [w, w + 1, w + 2, w + 3, w + 4, w + 5, w + 6, w + 7, w + 8, w + 15, w + 19, w + 20, w + 21, p + 5, p + 6, p + 7] → x_i M' w 11 = nI b → sP = sC → LeI M' (p + 5) (p + 6) (p + 7) n (fn b sC) st mr → Q (some (.int (nI 1))) M')
    (hQ1 : ∀ M' m k st' mr', Fr M M' [w, w + 1, w + 2, w + 3, w + 4, w + 5, w + 6, w + 7, w + 8, w + 15, w + 19, w + 20, w + 21, p + 5, p + 6, p + 7] → x_i M' w 11 = nI b → sP ≠ sC → cl0 st n (fn b sC) (vw b sC sP) (k + 1) = cl0 st n (fn b sC) (vw b sC sP) k → m ≤ 40 → LeI M' (p + 5) (p + 6) (p + 7) m (fn b sP) st' mr' → Can (fn b sP) m st' mr' (fun u => bdM fm (tkm mr n) (dl (sp st n (fn b sC) (vw b sC sP)) (cl0 st n (fn b sC) (vw b sC sP) k) u)) → exDone (sp st n (fn b sC) (vw b sC sP)) (fn b sP) (cl0 st n (fn b sC) (vw b sC sP) k) → Q (some (.int (nI 1))) M')
    (hQ0 : ∀ M' k, Fr M M' [w, w + 1, w + 2, w + 3, w + 4, w + 5, w + 6, w + 7, w + 8, w + 15, w + 19, w + 20, w + 21, p + 5, p + 6, p + 7] → x_i M' w 11 = nI b → sP ≠ sC → cl0 st n (fn b sC) (vw b sC sP) (k + 1) = cl0 st n (fn b sC) (vw b sC sP) k → (exOver (sp st n (fn b sC) (vw b sC sP)) (fn b sP) (cl0 st n (fn b sC) (vw b sC sP) k) ∨ (exDone (sp st n (fn b sC) (vw b sC sP)) (fn b sP) (cl0 st n (fn b sC) (vw b sC sP) k) ∧ ∀ m st' mr', Can (fn b sP) m st' mr' (fun u => bdM fm (tkm mr n) (dl (sp st n (fn b sC) (vw b sC sP)) (cl0 st n (fn b sC) (vw b sC sP) k) u)) → 40 < m)) → Q (some (.int (nI 0))) M') :
    Call G (d + 5) 0 0 mX10_weaveBound [.ref w, .ref p, .ref c] M Q := by
  have hw0 := hw
  have hp0 := hp
  have hc0 := hc
  obtain ⟨w1, w2, w3, w4, w5, w6, w7, w8, w9, w10, w11, w12, w13, w14, u15, u16, u17, u18, u19, u20, u21⟩ := hw
  obtain ⟨p1, p2, p3, p4, p5, p6, p7⟩ := hp
  obtain ⟨c1', c2', c3', c4', c5', c6', c7'⟩ := hc
  have hf0 : 0 < fn b sP := fn_pos (by omega)
  have hfF : fn b sP ≤ fn b sC := fn_mono (by omega) hsub
  have hF0 : 0 < fn b sC := fn_pos (by omega)
  have hvlt : ∀ k, vw b sC sP k < fn b sP := fun k => vw_lt (by omega)
  have hnF : n * fn b sC ≤ 1080 := by
    have : n * fn b sC ≤ 40 * 27 := Nat.mul_le_mul hn h27
    omega
  have qp : ∀ k, k ≤ 7 → p + k < w ∨ w + 21 < p + k := fun k hk => hpd (p + k) (by omega) (by omega)
  have qc : ∀ k, k ≤ 7 → c + k < w ∨ w + 21 < c + k := fun k hk => hcd (c + k) (by omega) (by omega)
  have qp0 := qp 0 (by omega)
  have qp5 := qp 5 (by omega)
  have qp6 := qp 6 (by omega)
  have qp7 := qp 7 (by omega)
  have qc5 := qc 5 (by omega)
  have qc6 := qc 6 (by omega)
  have qc7 := qc 7 (by omega)
  refine eX10_weaveBound w p c ⟨p1, c1', fun hne => ?_, fun he => ?_⟩
  · rw [i8, i8c, nI_eq (by omega) (by omega)] at hne
    generalize hFg : fn b sC = F at *
    generalize hvf : vw b sC sP = vf at *
    generalize hfg : fn b sP = f at *
    have hcl : ∀ {M' : Mem}, Fr M M' [w, w + 1, w + 2, w + 3, w + 4, w + 5, w + 6, w + 7, w + 8, w + 15, w + 19, w + 20, w + 21] → LeS M' (c + 5) (c + 6) (c + 7) 1080 40 ∧ LeI M' (c + 5) (c + 6) (c + 7) n F st mr := fun h => ⟨c7'.fF h, hci.fF h (fun q hq => by simp at hq ⊢; omega)⟩
    have hP : ∀ {M' : Mem}, Fr M M' [w, w + 1, w + 2, w + 3, w + 4, w + 5, w + 6, w + 7, w + 8, w + 15, w + 19, w + 20, w + 21] → x_i M' p = x_i M p := fun h => h.i (by simp; omega)
    have hod : ∀ y ∈ [c + 5, c + 6, c + 7], y ≠ w + 21 := fun y hy => by simp at hy; omega
    refine ⟨c + 5, c4', w1, w + 15, w8, ?_⟩
    rw [i8, i8c]
    refine w_fillViews (d + 1) w1 e11 hb hb3 u15 (by omega) hsC hsP (by rw [hFg]; exact h27) hsub (fun M1 g1 v1 => ⟨rfl, by rw [g1.h]; exact p1, by rw [g1.h]; exact w1, ?_⟩)
    rw [hFg, hvf] at v1
    have hfr1 : Fr M M1 [w, w + 1, w + 2, w + 3, w + 4, w + 5, w + 6, w + 7, w + 8, w + 15, w + 19, w + 20, w + 21] := g1.wk (by simp <;> omega)
    have e11' : x_i M1 w 11 = nI b := by rw [g1.i (by simp <;> omega)]; exact e11
    rw [hP hfr1, i8]
    refine w_fan (d + 2) (by rw [g1.h]; exact w1) e11' hsP ⟨_, rfl, ?_⟩
    rw [hfg]
    refine w_min (i := f) (n := 27) (d + 3) (by omega) (by omega) ⟨_, rfl, ?_⟩
    rw [Nat.min_eq_left (by omega)]
    obtain ⟨k1, k2⟩ := hcl hfr1
    refine w_takers (d + 1) k1 k2 hn (by omega) (fun i hi => by have := hmr i hi; omega) ⟨_, rfl, (hw0.fr hfr1).1, w + 1, by rw [hfr1.r]; exact w5, (hw0.fr hfr1).2.1.1, ?_⟩
    refine w_open (d + 1) (room := 300) (f := f) (hw0.fr hfr1).2.1 (by omega) (fun M2 g2 d2 => ⟨rfl, ?_⟩)
    have hfr2 : Fr M M2 [w, w + 1, w + 2, w + 3, w + 4, w + 5, w + 6, w + 7, w + 8, w + 15, w + 19, w + 20, w + 21] := hfr1.tr g2 (by simp <;> omega)
    refine ⟨(hw0.fr hfr2).1, ?_⟩
    rintro M3 rfl
    have hfr3 : Fr M (x_si M2 w 10 0) [w, w + 1, w + 2, w + 3, w + 4, w + 5, w + 6, w + 7, w + 8, w + 15, w + 19, w + 20, w + 21] := hfr2.si (by simp <;> omega)
    refine ⟨w + 20, by rw [hfr3.r]; exact w13, ?_⟩
    refine w_fillI (d + 3) (by rw [hfr3.h]; exact u20) (by omega) ⟨rfl, ?_⟩
    have hfr4 : Fr M (x_fi (x_si M2 w 10 0) (w + 20) 0 1024 (-1)) [w, w + 1, w + 2, w + 3, w + 4, w + 5, w + 6, w + 7, w + 8, w + 15, w + 19, w + 20, w + 21] := hfr3.fi (by simp <;> omega)
    have b4 : x_i (x_fi (x_si M2 w 10 0) (w + 20) 0 1024 (-1)) w 11 = nI b := by
      rw [xf_na (by omega), xi_nk (by omega), g2.i (by simp <;> omega)]; exact e11'
    have s4 : SeT (x_fi (x_si M2 w 10 0) (w + 20) 0 1024 (-1)) w [] := SeT.start (by rw [xf_na (by omega), xi_eq]; rfl) (fun s hs => xf_in (by omega) hs)
    have l4 : LoD (x_fi (x_si M2 w 10 0) (w + 20) 0 1024 (-1)) (w + 1) 300 f [] := (d2.fr (A := [w]) (Fr.rf.si (by simp <;> omega)) (by simp <;> omega) (by simp <;> omega) (by simp <;> omega)).fr (A := [w + 20]) (Fr.rf.fi (by simp <;> omega)) (by simp <;> omega) (by simp <;> omega) (by simp <;> omega)
    have v4 : ∀ k, k < F → x_i (x_fi (x_si M2 w 10 0) (w + 20) 0 1024 (-1)) (w + 15) k = nI (vf k) := fun k hk => by
      rw [xf_na (by omega), xi_na (by omega), g2.i (by simp <;> omega)]; exact v1 k hk
    generalize hM4 : x_fi (x_si M2 w 10 0) (w + 20) 0 1024 (-1) = M4 at hfr4 b4 s4 l4 v4 ⊢
    have hW : ∀ {M' : Mem}, Fr M M' [w, w + 1, w + 2, w + 3, w + 4, w + 5, w + 6, w + 7, w + 8, w + 15, w + 19, w + 20, w + 21] → WeS M' w := fun h => hw0.fr h
    refine ⟨(hW hfr4).1, w + 1, by rw [hfr4.r]; exact w5, ?_⟩
    obtain ⟨k3, k4⟩ := hcl hfr4
    refine w_firstSet (d + 1) (hW hfr4).1 (by rw [hfr4.r]; exact w8) (by rw [hfr4.r]; exact w14) (by rw [hfr4.h]; exact u15) (by rw [hfr4.h]; exact u21) k3 k4 hod hnF hn0 hn h27 hcc (vf := vf) (fun k hk => ⟨v4 k hk, by have := hvlt k; omega⟩) (fun M5 kk g5 hstop => ⟨_, rfl, ?_⟩)
    have hS62 : ∀ S, S < 2 ^ n → S < 2 ^ 62 := fun S h => Nat.lt_of_lt_of_le h (Nat.pow_le_pow_right (by omega) (by omega))
    have hk0n : cl0 st n F vf kk < 2 ^ n := cl0_lt hn0 hcc kk
    have hQ1' := fun M' m => hQ1 M' m kk
    have hQ0' := fun M' => hQ0 M' kk
    generalize hk0 : cl0 st n F vf kk = k0 at *
    generalize hδ : sp st n F vf = δ at *
    have hδlt : ∀ S g, δ S g < 2 ^ n := fun S g => by rw [← hδ]; exact sp_lt hcc
    generalize hμ : bdM fm (tkm mr n) = μ at *
    have hμ8 : ∀ S, μ S < 8 := fun S => by rw [← hμ]; have := bdM_le (fm := fm) (T := tkm mr n) (S := S); omega
    have hT62 : tkm mr n < 2 ^ 62 := tkm_lt (by omega)
    have hKn : ∀ cc, ∀ x ∈ ex δ f k0 cc, x < 2 ^ n := by
      intro cc
      induction cc with
      | zero => intro x hx; rw [List.mem_singleton.mp hx]; exact hk0n
      | succ cc ih =>
        intro x hx
        rcases ins_of.mp hx with h | h
        · exact ih x h
        · rw [h]; exact hδlt _ _
    have hfr5 : Fr M M5 [w, w + 1, w + 2, w + 3, w + 4, w + 5, w + 6, w + 7, w + 8, w + 15, w + 19, w + 20, w + 21] := hfr4.tr g5 (by simp <;> omega)
    have b5 : x_i M5 w 11 = nI b := by rw [g5.i (by simp <;> omega)]; exact b4
    refine ⟨(hW hfr5).1, ?_⟩
    refine w_meetSet (d + 2) (hW hfr5).1 (by rw [hfr5.r]; exact w12) (by rw [hfr5.r]; exact w13) (by rw [hfr5.h]; exact u19) (by rw [hfr5.h]; exact u20) (s4.fr g5 (by simp <;> omega) (by simp <;> omega) (by simp <;> omega)) (hS62 _ hk0n) (fun q => absurd q List.not_mem_nil) (fun _ _ M6 g6 b6 s6 => ⟨_, rfl, (hW (hfr5.tr g6 (by simp <;> omega))).2.1.1, ?_⟩) (fun _ q => absurd q (by simp <;> omega))
    have hfr6 : Fr M M6 [w, w + 1, w + 2, w + 3, w + 4, w + 5, w + 6, w + 7, w + 8, w + 15, w + 19, w + 20, w + 21] := hfr5.tr g6 (by simp <;> omega)
    refine w_meet (d + 2) (room := 300) (f := f) (K := []) (k := 0) (hW hfr6).2.1 ((l4.fr g5 (by simp <;> omega) (by simp <;> omega) (by simp <;> omega)).fr g6 (by simp <;> omega) (by simp <;> omega) (by simp <;> omega)) (by omega) (fun M7 g7 d7 _ => ⟨_, rfl, ?_⟩)
    have hfr7 : Fr M M7 [w, w + 1, w + 2, w + 3, w + 4, w + 5, w + 6, w + 7, w + 8, w + 15, w + 19, w + 20, w + 21] := hfr6.tr g7 (by simp <;> omega)
    have b7 : x_i M7 w 11 = nI b := by rw [g7.i (by simp <;> omega), b6, b5]
    have v7 : ∀ k, k < F → x_i M7 (w + 15) k = nI (vf k) := fun k hk => by
      rw [g7.i (by simp <;> omega), g6.i (by simp <;> omega), g5.i (by simp <;> omega)]; exact v4 k hk
    have i7 : BoI M7 w f δ k0 μ 0 0 := ⟨d7, fun q hq => absurd hq (Nat.not_lt_zero q), fun q hq => absurd hq (Nat.not_lt_zero q), fun q hq => absurd hq (Nat.not_lt_zero q), Nat.zero_le _, s6.fr g7 (by simp <;> omega) (by simp <;> omega) (by simp <;> omega)⟩
    -- the least machine is drawn
    have done : ∀ i M', i ≤ 300 → Fr M M' [w, w + 1, w + 2, w + 3, w + 4, w + 5, w + 6, w + 7, w + 8, w + 15, w + 19, w + 20, w + 21] → x_i M' w 11 = nI b → BoI M' w f δ k0 μ (i * f) i → (ex δ f k0 (i * f)).length = i → Call G (d + 4) 0 0 mX2_draw [.ref (w + 1), .ref (p + 5), .int 40] M' (fun r7 M8 => ∃ v9 : Int32, r7 = some (.int v9) ∧ (v9 = 0 ∨ v9 = 1) ∧ Q (some (.int v9)) M8) := by
      intro i M' hi hfr hb' he el
      obtain ⟨h1, h2, h3, h4, h5, h6⟩ := he
      have hcc' : i * f = (ex δ f k0 (i * f)).length * f := by rw [el]
      have hif : i * f ≤ 300 * 27 := Nat.mul_le_mul hi (by omega)
      have hlt : ∀ a, a < i → ∀ g, g < f → a * f + g < i * f := fun a ha g hg => by
        have : (a + 1) * f ≤ i * f := Nat.mul_le_mul_right f ha
        rw [Nat.succ_mul] at this
        omega
      have hi0 : 0 < i := by have := ex_pos (δ := δ) (f := f) (k0 := k0) (i * f); omega
      have hR : LoR M' (w + 1) i f (fun i d => exl δ f k0 (i * f + d)) (fun t => μ ((ex δ f k0 (i * f)).getD t 0)) :=
        ⟨h1.2.1, by rw [h1.2.2.1, List.length_range, el], fun a ha g hg => h2 _ (hlt a ha g hg), fun a ha g hg => by have := (ex_closed hf0 hcc' (i := a) (by omega) hg h4).1; rw [el] at this; exact this, fun a ha => h3 a (by omega), fun a ha => hμ8 _, hi0, by omega, by omega, hf0, by omega⟩
      have hwd : ∀ u, wd f u → μ ((ex δ f k0 (i * f)).getD (rn (fun i d => exl δ f k0 (i * f + d)) 0 u) 0) = μ (dl δ k0 u) := fun u hu => by
        rw [(ex_word hf0 hcc' h4 u 0 hu (ex_pos _)).2, ex_0]
      have hdn : exDone δ f k0 := ⟨i * f, hcc', h4, by omega⟩
      refine w_draw d (hW hfr).2.1 hR (p7.fF hfr) (fun q hq => by simp at hq; omega) (most := 40) (by omega) (by omega) (by have : 40 * f ≤ 40 * 27 := Nat.mul_le_mul_left 40 (by omega); omega) (fun a ha => ?_) (fun M1 m st' mr' g1 g2 g3 g4 => ⟨_, rfl, Or.inr rfl, hQ1' M1 m st' mr' ((hfr.wk (by simp <;> omega)).tr g1 (by simp <;> omega)) (by rw [g1.i (by simp; omega)]; exact hb') hne hstop g2 g3 (g4.congr hwd) hdn⟩) (fun M1 g1 g2 g3 => ⟨_, rfl, Or.inl rfl, hQ0' M1 ((hfr.wk (by simp <;> omega)).tr g1 (by simp <;> omega)) (by rw [g1.i (by simp; omega)]; exact hb') hne hstop (Or.inr ⟨hdn, fun m st' mr' hcan => g2 m st' mr' (hcan.congr (fun u hu => (hwd u hu).symm))⟩)⟩)
      obtain ⟨u, hu1, hu2⟩ := ex_reach hf0 (i * f) h4 _ (getD_mem (i := a) (by omega))
      refine ⟨u, hu1, ?_⟩
      obtain ⟨x1, x2⟩ := ex_word hf0 hcc' h4 u 0 hu1 (ex_pos _)
      rw [ex_0, hu2] at x2
      exact getD_inj (ex_nd _) x1 (by omega) x2
    have inner : ∀ (i : Nat) (T : Int64) (u0 : Int32), (∀ M' z z1 z2, Fr M M' [w, w + 1, w + 2, w + 3, w + 4, w + 5, w + 6, w + 7, w + 8, w + 15, w + 19, w + 20, w + 21] → x_i M' w 11 = nI b → (∀ k, k < F → x_i M' (w + 15) k = nI (vf k)) → BoI M' w f δ k0 μ (i * f + f) (i + 1) → c1 z = true → c1 z1 = true → c1 z2 = true → LX10_weaveBound_111 G (d + 4) 0 0 w p c (c + 5) (nI f) T (nI (i + 1)) z z1 z2 M' Q) →
        ∀ (k j : Nat), j + k = f → ∀ M', Fr M M' [w, w + 1, w + 2, w + 3, w + 4, w + 5, w + 6, w + 7, w + 8, w + 15, w + 19, w + 20, w + 21] → x_i M' w 11 = nI b → (∀ k, k < F → x_i M' (w + 15) k = nI (vf k)) → ∀ S, i < (ex δ f k0 (i * f + j)).length → (ex δ f k0 (i * f + j)).getD i 0 = S → (∀ g, g < f → x_l M' (w + 21) g = lN (δ S g)) → BoI M' w f δ k0 μ (i * f + j) (i + 1) → ∀ z, c1 z = true → LX10_weaveBound_220 G (d + 4) 0 0 w p c (c + 5) (nI f) T (nI i) u0 (nI j) z M' Q := by
      intro i T u0 hout k
      induction k with
      | zero =>
        intro j hj M' hfr hb' hv S hi hS hsp he z hz
        have e : j = f := by omega
        subst e
        refine vX10_weaveBound_220 _ _ _ _ _ _ _ _ _ _ hz ⟨fun _ => ?_, fun c => absurd (nI_le (Nat.le_refl j) (by omega)) c⟩
        rw [nI_1]
        exact hout M' _ _ _ hfr hb' hv he rfl rfl hz
      | succ k ih =>
        intro j hj M' hfr hb' hv S hi hS hsp he z hz
        have hjb : j < f := by omega
        have d1 : (i * f + j) / f = i := by rw [Nat.mul_comm, Nat.mul_add_div hf0, Nat.div_eq_of_lt hjb]; rfl
        have d2 : (i * f + j) % f = j := by rw [Nat.mul_comm, Nat.mul_add_mod]; exact Nat.mod_eq_of_lt hjb
        have exs : ex δ f k0 (i * f + j + 1) = ins (ex δ f k0 (i * f + j)) (δ S j) := by
          show ins _ _ = _
          rw [d1, d2, hS]
        have exls : exl δ f k0 (i * f + j) = (ins (ex δ f k0 (i * f + j)) (δ S j)).idxOf (δ S j) := by
          unfold exl
          rw [d1, d2, hS, exs]
        have hV1 : exV δ f k0 (i * f + j + 1) := fun q hq => by
          by_cases e3 : q = i * f + j
          · rw [e3, d1]; exact hi
          · exact he.2.2.2.1 q (by omega)
        have hS2 : (ex δ f k0 (i * f + j + 1)).getD i 0 = S := by rw [← hS]; exact ex_getD _ 1 hi
        have hi2 : i < (ex δ f k0 (i * f + j + 1)).length := Nat.lt_of_lt_of_le hi (ex_le _ 1)
        obtain ⟨h1, h2, h3, h4, h5, h6⟩ := he
        refine vX10_weaveBound_220 _ _ _ _ _ _ _ _ _ _ hz ⟨fun c => absurd c (nI_ge hjb (by omega)), fun _ => ⟨(hW hfr).1, w + 21, by rw [hfr.r]; exact w14, by rw [hfr.h, u21], by rw [hfr.h, u21]; exact vp_in_nI (show j < 27 by omega) (by omega), ?_⟩⟩
        rw [nI_clamp (by omega), hsp j hjb]
        -- behind the meeting of the set
        have go : ∀ (x : Nat) (M1 : Mem), Fr M' M1 [w, w + 19, w + 20] → x_i M1 w 11 = nI b → SeT M1 w (ex δ f k0 (i * f + j + 1)) → x = exl δ f k0 (i * f + j) → x < 300 → ins (List.range (ex δ f k0 (i * f + j)).length) x = List.range (ex δ f k0 (i * f + j + 1)).length → x < (ex δ f k0 (i * f + j + 1)).length → ∃ v8 : Int32, some (Value.int (nI x)) = some (.int v8) ∧ (¬ v8 = (-1) → (x_h M1 w).1 = 26 ∧ (∃ b11, x_r M1 w 0 = some b11 ∧ (x_h M1 b11).1 = 18 ∧ Call G (d + 4) 0 0 mX2_meet [.ref b11, .int v8] M1 (fun r13 M14 => ∃ v15 : Int32, r13 = some (.int v15) ∧ (x_h M14 b11).1 = 18 ∧ Call G (d + 4) 0 0 mX2_link [.ref b11, .int (nI i), .int (nI j), .int v15] M14 (fun r17 M18 => r17 = none ∧ LX10_weaveBound_220 G (d + 4) 0 0 w p c (c + 5) (nI f) T (nI i) u0 (nI j + 1) (some (.int v8)) M18 Q)))) ∧ (v8 = (-1) → Q (some (.int 0)) M1) := by
          intro x M1 g1 b1 s1 hx hx300 hri hxl
          have hfrM : Fr M M1 [w, w + 1, w + 2, w + 3, w + 4, w + 5, w + 6, w + 7, w + 8, w + 15, w + 19, w + 20, w + 21] := hfr.tr g1 (by simp <;> omega)
          refine ⟨_, rfl, fun _ => ⟨(hW hfrM).1, w + 1, by rw [hfrM.r]; exact w5, (hW hfrM).2.1.1, ?_⟩, fun c => absurd c (nI_m1 (by omega))⟩
          refine w_meet (d + 2) (hW hfrM).2.1 (h1.fr g1 (by simp <;> omega) (by simp <;> omega) (by simp <;> omega)) hx300 (fun M2 g2 d2' mk2 => ⟨_, rfl, (hW (hfrM.tr g2 (by simp <;> omega))).2.1.1, ?_⟩)
          rw [hri] at d2'
          rw [hri, range_idx hxl]
          have hfrM2 : Fr M M2 [w, w + 1, w + 2, w + 3, w + 4, w + 5, w + 6, w + 7, w + 8, w + 15, w + 19, w + 20, w + 21] := hfrM.tr g2 (by simp <;> omega)
          refine w_link (d + 2) (hW hfrM2).2.1 d2' (i := i) (by rw [List.length_range]; exact hi2) hjb (by rw [List.length_range]; have : (ex δ f k0 (i * f + j + 1)).length * f ≤ 300 * 27 := Nat.mul_le_mul s1.2.1 (by omega); omega) _ ⟨rfl, ?_⟩
          have g3 : Fr M2 (x_si M2 (w + 1 + 4) (i * f + j) (nI x)) [w + 5] := Fr.rf.si (by simp <;> omega)
          have hfrM3 : Fr M (x_si M2 (w + 1 + 4) (i * f + j) (nI x)) [w, w + 1, w + 2, w + 3, w + 4, w + 5, w + 6, w + 7, w + 8, w + 15, w + 19, w + 20, w + 21] := hfrM2.tr g3 (by simp <;> omega)
          rw [nI_1]
          refine ih (j + 1) (by omega) _ hfrM3 (by rw [xi_na (by omega), g2.i (by simp <;> omega)]; exact b1) (fun k hk => by rw [xi_na (by omega), g2.i (by simp <;> omega), g1.i (by simp <;> omega)]; exact hv k hk) S hi2 hS2 (fun g hg => by rw [s_lsi, g2.l (by simp <;> omega), g1.l (by simp <;> omega)]; exact hsp g hg) ⟨d2'.fr g3 (by simp <;> omega) (by simp <;> omega) (by simp <;> omega), fun q hq => ?_, fun t ht => ?_, hV1, hi2, (s1.fr g2 (by simp <;> omega) (by simp <;> omega) (by simp <;> omega)).fr g3 (by simp <;> omega) (by simp <;> omega) (by simp <;> omega)⟩ _ rfl
          · by_cases e : q = i * f + j
            · rw [e, xi_eq, hx]
            · rw [xi_nk e, g2.i (by simp <;> omega), g1.i (by simp <;> omega)]; exact h2 q (by omega)
          · rw [xi_na (by omega), mk2 t (by rw [List.length_range]; omega), g1.i (by simp <;> omega), h3 t ht]
            congr 2
            exact (ex_getD _ 1 (by omega)).symm
        refine w_meetSet (d + 2) (hW hfr).1 (by rw [hfr.r]; exact w12) (by rw [hfr.r]; exact w13) (by rw [hfr.h]; exact u19) (by rw [hfr.h]; exact u20) h6 (hS62 _ (hδlt S j)) (fun q => ?_) (fun q q2 M1 g1 b1 s1 => ?_) (fun q q2 => ?_)
        · have ei : ins (ex δ f k0 (i * f + j)) (δ S j) = ex δ f k0 (i * f + j) := if_pos q
          have hx := idx_lt q
          refine go _ M' Fr.rf hb' (by rw [exs, ei]; exact h6) (by rw [exls, ei]) (by have := h6.2.1; omega) (by rw [exs, ei]; exact range_in hx) (by rw [exs, ei]; exact hx)
        · have ei : ins (ex δ f k0 (i * f + j)) (δ S j) = ex δ f k0 (i * f + j) ++ [δ S j] := if_neg q
          have el : (ex δ f k0 (i * f + j + 1)).length = (ex δ f k0 (i * f + j)).length + 1 := by rw [exs, ei, List.length_append]; rfl
          refine go _ M1 g1 (by rw [b1]; exact hb') (by rw [exs, ei]; exact s1) (by rw [exls, ei, List.idxOf_append, if_neg q]; simp) q2 (by rw [el]; exact range_ins) (by omega)
        · refine ⟨_, rfl, fun c => absurd rfl c, fun _ => ?_⟩
          have ei : ins (ex δ f k0 (i * f + j)) (δ S j) = ex δ f k0 (i * f + j) ++ [δ S j] := if_neg q
          have el : (ex δ f k0 (i * f + j + 1)).length = (ex δ f k0 (i * f + j)).length + 1 := by rw [exs, ei, List.length_append]; rfl
          exact hQ0' M' (hfr.wk (by simp <;> omega)) hb' hne hstop (Or.inl ⟨i * f + j + 1, hV1, by omega⟩)
    have outer : ∀ (k i : Nat), i + k = 300 → ∀ M', Fr M M' [w, w + 1, w + 2, w + 3, w + 4, w + 5, w + 6, w + 7, w + 8, w + 15, w + 19, w + 20, w + 21] → x_i M' w 11 = nI b → (∀ k, k < F → x_i M' (w + 15) k = nI (vf k)) → BoI M' w f δ k0 μ (i * f) i → ∀ z z1 z2, c1 z = true → c1 z1 = true → c1 z2 = true → LX10_weaveBound_111 G (d + 4) 0 0 w p c (c + 5) (nI f) (lN (tkm mr n)) (nI i) z z1 z2 M' Q := by
      intro k
      induction k with
      | zero =>
        intro i hi M' hfr hb' hv he z z1 z2 hz hz1 hz2
        have el : (ex δ f k0 (i * f)).length = i := by have := he.2.2.2.2.2.2.1; have := he.2.2.2.2.1; omega
        have e10 : x_i M' w 10 = nI i := by rw [he.2.2.2.2.2.1, el]
        refine vX10_weaveBound_111 _ _ _ _ _ _ _ _ _ _ hz hz1 hz2 ⟨(hW hfr).1, fun _ => ⟨w + 1, by rw [hfr.r]; exact w5, by rw [hfr.h]; exact p1, p + 5, by rw [hfr.r]; exact p4, (hW hfr).2.1.1, done i M' (by omega) hfr hb' he el⟩, fun c => absurd (by rw [e10]; exact nI_le (Nat.le_refl i) (by omega)) c⟩
      | succ k ih =>
        intro i hi M' hfr hb' hv he z z1 z2 hz hz1 hz2
        have h300 := he.2.2.2.2.2.2.1
        have hle := he.2.2.2.2.1
        refine vX10_weaveBound_111 _ _ _ _ _ _ _ _ _ _ hz hz1 hz2 ⟨(hW hfr).1, fun cz => ?_, fun cz => ⟨fun c2 => absurd c2 (nI_ge (a := i) (b := 300) (by omega) (by omega)), fun _ => ?_⟩⟩
        · rw [he.2.2.2.2.2.1] at cz
          have el : (ex δ f k0 (i * f)).length = i := by
            have := (nI_leI (a := (ex δ f k0 (i * f)).length) (b := i) (by omega) (by omega)).mp cz
            omega
          exact ⟨w + 1, by rw [hfr.r]; exact w5, by rw [hfr.h]; exact p1, p + 5, by rw [hfr.r]; exact p4, (hW hfr).2.1.1, done i M' (by omega) hfr hb' he el⟩
        · rw [he.2.2.2.2.2.1] at cz
          have hil : i < (ex δ f k0 (i * f)).length := by
            rcases Nat.lt_or_ge i (ex δ f k0 (i * f)).length with h | h
            · exact h
            · exact absurd (nI_le h (by omega)) cz
          generalize hS : (ex δ f k0 (i * f)).getD i 0 = S
          have hSn : S < 2 ^ 62 := hS62 _ (by rw [← hS]; exact hKn _ _ (getD_mem hil))
          have hl : x_l M' (w + 19) i = lN S := by rw [he.2.2.2.2.2.2.2.2.2.1 i hil, hS]
          have hcl19 : (nI i).toNatClampNeg = i := nI_clamp (by omega)
          have vin : vp_in (nI i) (x_h M' (w + 19)).2 := by rw [hfr.h, u19]; exact vp_in_nI (show i < 300 by omega) (by omega)
          have t19 : (x_h M' (w + 19)).1 = 2 := by rw [hfr.h, u19]
          -- the mark, then the steps
          have go : ∀ v : Nat, v = μ S → ∀ u0 : Int32, u0 = nI v → LX10_weaveBound_184 G (d + 4) 0 0 w p c (c + 5) (nI f) (lN (tkm mr n)) (nI i) z z1 z2 u0 M' Q := by
            intro v hv' u0 hu0
            have next : ∀ x : Int32, x = nI v → Call G (d + 4) 0 0 mX2_putMark [.ref (w + 1), .int (nI i), .int x] M' (fun r14 M15 => r14 = none ∧ (x_h M15 w).1 = 26 ∧ (∃ b17, x_r M15 w 7 = some b17 ∧ (x_h M15 b17).1 = 2 ∧ vp_in (nI i) (x_h M15 b17).2 ∧ Call G (d + 4) 0 0 mX10_spread [.ref w, .ref (c + 5), .long (x_l M15 b17 (nI i).toNatClampNeg)] M15 (fun r20 M21 => r20 = none ∧ LX10_weaveBound_220 G (d + 4) 0 0 w p c (c + 5) (nI f) (lN (tkm mr n)) (nI i) u0 0 z2 M21 Q))) := by
              intro x hx
              rw [hx]
              refine w_putMarkL (d + 2) (hW hfr).2.1 he.1 (i := i) (by rw [List.length_range]; exact hil) _ ⟨rfl, (hW hfr).1, w + 19, by show x_r M' w 7 = _; rw [hfr.r]; exact w12, t19, vin, ?_⟩
              rw [hcl19, s_lsi, hl]
              have g1 : Fr M' (x_si M' (w + 1 + 3) i (nI v)) [w + 4] := Fr.rf.si (by simp <;> omega)
              have hfr1 : Fr M (x_si M' (w + 1 + 3) i (nI v)) [w, w + 1, w + 2, w + 3, w + 4, w + 5, w + 6, w + 7, w + 8, w + 15, w + 19, w + 20, w + 21] := hfr.tr g1 (by simp <;> omega)
              obtain ⟨m1, m2⟩ := hcl hfr1
              refine w_spread (d + 2) (hW hfr1).1 (by rw [hfr1.r]; exact w8) (by rw [hfr1.r]; exact w14) (by rw [hfr1.h]; exact u15) (by rw [hfr1.h]; exact u21) m1 m2 hod hnF (by omega) h27 hcc (vf := vf) (fun k hk => ⟨by rw [xi_na (by omega)]; exact hv k hk, by have := hvlt k; omega⟩) hSn (fun M2 g2 sp2 => ⟨rfl, ?_⟩)
              have hfr2 : Fr M M2 [w, w + 1, w + 2, w + 3, w + 4, w + 5, w + 6, w + 7, w + 8, w + 15, w + 19, w + 20, w + 21] := hfr1.tr g2 (by simp <;> omega)
              obtain ⟨e1, e2, e3, e4, e5, e6⟩ := he
              refine inner i (lN (tkm mr n)) u0 (fun M3 z z1 z2 q1 q2 q3 q4 hz hz1 hz2 => ih (i + 1) (by omega) M3 q1 q2 q3 (by rw [Nat.succ_mul]; exact q4) z z1 z2 hz hz1 hz2) f 0 (by omega) M2 hfr2 (by rw [g2.i (by simp <;> omega), xi_na (by omega)]; exact hb') (fun k hk => by rw [g2.i (by simp <;> omega), xi_na (by omega)]; exact hv k hk) S hil hS (fun g hg => by rw [sp2 g (by omega), hδ]) ⟨(e1.fr g1 (by simp <;> omega) (by simp <;> omega) (by simp <;> omega)).fr g2 (by simp <;> omega) (by simp <;> omega) (by simp <;> omega), fun q hq => by rw [g2.i (by simp <;> omega), xi_na (by omega)]; exact e2 q hq, fun t ht => ?_, e4, hil, (e6.fr g1 (by simp <;> omega) (by simp <;> omega) (by simp <;> omega)).fr g2 (by simp <;> omega) (by simp <;> omega) (by simp <;> omega)⟩ z2 hz2
              rw [g2.i (by simp <;> omega)]
              by_cases e : t = i
              · rw [e, xi_eq]
                show nI v = nI (μ ((ex δ f k0 (i * f)).getD i 0))
                rw [hS, hv']
              · rw [xi_nk e]; exact e3 t (by omega)
            refine vX10_weaveBound_184 _ _ _ _ _ _ _ _ _ _ _ hz hz1 hz2 ⟨(hW hfr).1, w + 1, by rw [hfr.r]; exact w5, fun c => ⟨(hW hfr).2.1.1, ?_⟩, fun c => ⟨(hW hfr).2.1.1, ?_⟩⟩
            · exact next 0 (by rw [← hu0, c])
            · have hv1 : v ≤ 1 := by rw [hv', ← hμ]; exact bdM_le
              have : v = 1 := by
                rcases Nat.lt_or_ge v 1 with h | h
                · exact absurd (by rw [hu0, show v = 0 by omega]; rfl) c
                · omega
              exact next 1 (by rw [this]; rfl)
          have e3 : x_i M' p 3 = nI fm := by rw [hP hfr]; exact i3
          have e37 : nI fm = 7 ↔ fm = 7 := nI_eq (b := 7) (by omega) (by omega)
          refine ⟨by rw [hfr.h]; exact p1, fun c2 => ⟨w + 19, by rw [hfr.r]; exact w12, t19, vin, ?_⟩, fun c2 => ⟨w + 19, by rw [hfr.r]; exact w12, t19, vin, ?_⟩⟩
          · rw [e3, e37] at c2
            rw [hcl19, hl, lg_cmp_eq, l_out hSn hT62]
            refine ⟨fun c3 => go 0 ?_ 0 rfl, fun c3 => go 1 ?_ 1 rfl⟩
            · rw [← hμ]; unfold bdM; rw [if_neg c2, if_neg (fun e => c3 (and_S.mp e))]
            · rw [← hμ]; unfold bdM; rw [if_neg c2, if_pos (and_S.mpr c3)]
          · rw [e3, e37] at c2
            rw [hcl19, hl, lg_cmp_eq, l_in hSn hT62]
            refine ⟨fun c3 => go 0 ?_ 0 rfl, fun c3 => go 1 ?_ 1 rfl⟩
            · rw [← hμ]; unfold bdM; rw [if_pos c2, if_pos (and_0.mpr c3)]
            · rw [← hμ]; unfold bdM; rw [if_pos c2, if_neg (fun e => c3 (and_0.mp e))]
    exact outer 300 0 (by omega) M7 hfr7 b7 v7 (by rw [Nat.zero_mul]; exact i7) none none none rfl rfl rfl
  · rw [i8, i8c, nI_eq (by omega) (by omega)] at he
    refine ⟨p + 5, p4, c + 5, c4', p7.1, ?_⟩
    refine Call.mono (k_become (d + 1) hF0 p7 hn hnF c7' hci hnF hn (by simp; omega)) ?_
    rintro r M1 ⟨rfl, g1, g2⟩
    exact ⟨rfl, hQe M1 (g2.fr.wk (by simp <;> omega)) (by rw [g2.i (by simp; omega)]; exact e11) he g1⟩
end BoundC
