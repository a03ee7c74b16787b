/-! ===== Weaver: the machines of the parts ===== -/
section PartsC
/-- M' is M, but that the ints and longs of the cells that P names are others -/
def FrP (M M' : Mem) (P : Nat → Prop) : Prop := ∃ f g, M' = x_wl M f g ∧ ∀ q, ¬ P q → f q = x_i M q ∧ g q = x_l M q
theorem FrP.rf {M : Mem} {P : Nat → Prop} : FrP M M P := ⟨x_i M, x_l M, rfl, fun _ _ => ⟨rfl, rfl⟩⟩
theorem Fr.P {M M' : Mem} {A : List Nat} {P : Nat → Prop} (h : Fr M M' A) (hp : ∀ q ∈ A, P q) : FrP M M' P := by
  obtain ⟨f, g, e, hf⟩ := h
  exact ⟨f, g, e, fun q hq => hf q (fun h => hq (hp q h))⟩
theorem FrP.tr {M M' M'' : Mem} {P P' : Nat → Prop} (h : FrP M M' P) (h2 : FrP M' M'' P') (hB : ∀ q, P' q → P q) : FrP M M'' P := by
  obtain ⟨f, g, rfl, hf⟩ := h
  obtain ⟨f2, g2, rfl, hg⟩ := h2
  refine ⟨f2, g2, rfl, fun q hq => ?_⟩
  have h1 := hg q (fun h => hq (hB q h))
  have h2 := hf q hq
  exact ⟨h1.1.trans h2.1, h1.2.trans h2.2⟩
theorem FrP.wk {M M' : Mem} {P P' : Nat → Prop} (h : FrP M M' P) (hp : ∀ q, P q → P' q) : FrP M M' P' := FrP.rf.tr h hp
theorem FrP.h {M M' : Mem} {P : Nat → Prop} (h : FrP M M' P) : x_h M' = x_h M := by obtain ⟨f, g, rfl, -⟩ := h; rfl
theorem FrP.r {M M' : Mem} {P : Nat → Prop} (h : FrP M M' P) : x_r M' = x_r M := by obtain ⟨f, g, rfl, -⟩ := h; rfl
theorem FrP.n {M M' : Mem} {P : Nat → Prop} (h : FrP M M' P) : x_n M' = x_n M := by obtain ⟨f, g, rfl, -⟩ := h; rfl
theorem FrP.i {M M' : Mem} {P : Nat → Prop} (h : FrP M M' P) {q : Nat} (hq : ¬ P q) : x_i M' q = x_i M q := by obtain ⟨f, g, rfl, hf⟩ := h; exact (hf q hq).1
theorem FrP.l {M M' : Mem} {P : Nat → Prop} (h : FrP M M' P) {q : Nat} (hq : ¬ P q) : x_l M' q = x_l M q := by obtain ⟨f, g, rfl, hf⟩ := h; exact (hf q hq).2
theorem LeI.fP {M M' : Mem} {o mv mk n f : Nat} {st : Nat → Nat → Nat} {mr : Nat → Nat} {P : Nat → Prop} (h : LeI M o mv mk n f st mr) (g : FrP M M' P) (h1 : ¬ P o) (h2 : ¬ P mv) (h3 : ¬ P mk) : LeI M' o mv mk n f st mr := by
  unfold LeI
  rw [g.i h1, g.i h2, g.i h3]
  exact h
theorem LeS.fP {M M' : Mem} {o mv mk nm nk : Nat} {P : Nat → Prop} (h : LeS M o mv mk nm nk) (f : FrP M M' P) : LeS M' o mv mk nm nk := h.eq f.h f.r
theorem WeS.fP {M M' : Mem} {w : Nat} {P : Nat → Prop} (h : WeS M w) (f : FrP M M' P) : WeS M' w := h.eq f.h f.r
theorem PaS.fP {M M' : Mem} {p : Nat} {P : Nat → Prop} (h : PaS M p) (f : FrP M M' P) : PaS M' p := h.eq f.h f.r
/-- every state of a least machine is met -/
theorem can_reach {f n : Nat} {st : Nat → Nat → Nat} {mk : Nat → Nat} {b : List Nat → Nat} (hf : 0 < f) (h : Can f n st mk b) {i : Nat} (hi : i < n) : ∃ u, wd f u ∧ rn st 0 u = i := by
  have all : ∀ k, k ≤ n * f → ∀ s, s ≤ kM f st k → ∃ u, wd f u ∧ rn st 0 u = s := by
    intro k
    induction k with
    | zero => intro _ s hs; exact ⟨[], wd_nil, (Nat.le_zero.mp hs).symm⟩
    | succ k ih =>
      intro hk s hs
      have ih := ih (by omega)
      obtain ⟨a1, a2⟩ := h.2.2.2.2 k (by omega)
      have hs' : s ≤ max (kM f st k) (kT f st k) := hs
      by_cases c : s ≤ kM f st k
      · exact ih s c
      · have e : s = kT f st k := by omega
        obtain ⟨u, hu, e2⟩ := ih (k / f) a2
        refine ⟨u ++ [k % f], fun d hd => ?_, ?_⟩
        · rcases List.mem_append.mp hd with q | q
          · exact hu d q
          · rw [List.mem_singleton.mp q]; exact Nat.mod_lt _ hf
        · rw [rn_app, e2, e]; rfl
  have hk : (n - 1) * f < n * f := Nat.mul_lt_mul_of_pos_right (by omega) hf
  have h1 := (h.2.2.2.2 _ hk).2
  rw [Nat.mul_div_cancel _ hf] at h1
  exact all _ (Nat.le_of_lt hk) i (by omega)
theorem can_marks {f n : Nat} {st : Nat → Nat → Nat} {mk : Nat → Nat} {b : List Nat → Nat} {P : Nat → Prop} (hf : 0 < f) (h : Can f n st mk b) (hb : ∀ u, wd f u → P (b u)) : ∀ i, i < n → P (mk i) := fun i hi => by
  obtain ⟨u, hu, e⟩ := can_reach hf h hi
  rw [← e, h.2.2.1 u hu]
  exact hb u hu
def RowS (M : Mem) (r : Nat) : Prop := (x_h M r).1 = 23 ∧ x_r M r 0 = some (r + 1) ∧ LeS M (r + 1) (r + 2) (r + 3) 180 60
/-- a row's machine is a least one, of letters, and noughts ahead leave it at 0 -/
def RowG (b : Nat) (m : Mc) : Prop := (∃ β, mcan b m β) ∧ m_n m ≤ 60 ∧ (∀ i, i < m_n m → m_k m i < 8) ∧ m_s m 0 0 = 0
def RowI (M : Mem) (r b : Nat) (m : Mc) : Prop := LeI M (r + 1) (r + 2) (r + 3) (m_n m) b (m_s m) (m_k m)
/-- the rows of a court: the array ra, the first at r0 -/
def RowsS (M : Mem) (ra r0 : Nat) : Prop := x_h M ra = (4, 10) ∧ ∀ i, i < 10 → x_r M ra i = some (r0 + 8 * i) ∧ RowS M (r0 + 8 * i)
theorem RowsS.eq {M M' : Mem} {ra r0 : Nat} (h : RowsS M ra r0) (h1 : x_h M' = x_h M) (h2 : x_r M' = x_r M) : RowsS M' ra r0 := by
  unfold RowsS RowS LeS
  rw [h1, h2]
  exact h
def SiI (M : Mem) (s : Nat) (S : SD) : Prop := x_i M s 1 = (match s_r S with | none => (-1 : Int32) | some r => nI r) ∧ x_i M s 2 = nI (s_n S) ∧ x_i M s 3 = nI (s_s S) ∧ ∀ k, k < 8 → x_i M (s + 1) k = nI (s_t S k)
def SWf (R : Nat → Mc) (rc : Nat) (S : SD) : Prop := ∀ r, s_r S = some r → r < rc ∧ s_s S < 256 ∧ 1 ≤ sumT (s_t S) 8 ∧ sumT (s_t S) 8 ≤ 2 ∧ pc (s_s S) ≤ sumT (s_t S) 8 ∧ s_n S ≤ 3 ∧ (sumT (s_t S) 8 = 2 → s_n S = 0) ∧ ((sumT (s_t S) 8 = 1 ∧ s_n S = 0) ∨ m_n (R r) ≤ 6)
theorem tz_lt {st : Nat → Nat → Nat} {b n L : Nat} {lf : Nat → Nat} (hb : 0 < b) (hc : ∀ i, i < n → ∀ g, g < b → st i g < n) (hlf : ∀ g, lf g + L < (L + 1) * b) : ∀ (u : List Nat) (P : Nat → Nat), (∀ j, j ≤ L → P j < n) → ∀ j, j ≤ L → tz st b lf P u j < n
  | [], P, h, j, hj => h j hj
  | g :: u, P, h, j, hj => tz_lt hb hc hlf u _ (fun j hj => by
      have hlg := hlf g
      have h1 : (lf g + j) / b < L + 1 := Nat.div_lt_of_lt_mul (by rw [Nat.mul_comm]; omega)
      exact hc _ (h _ (by omega)) _ (Nat.mod_lt _ hb)) j hj
theorem SWf.num {b : Nat} {R : Nat → Mc} {rc : Nat} {S : SD} {r : Nat} (hb : b = 2 ∨ b = 3) (h : SWf R rc S) (hr : s_r S = some r) (hn0 : 0 < m_n (R r)) (hn : m_n (R r) ≤ 60) : max (sumT (s_t S) 8 - 1) (s_n S) ≤ 3 ∧ fn b (s_s S) ≤ 9 ∧ m_n (R r) ^ (max (sumT (s_t S) 8 - 1) (s_n S) + 1) ≤ 3600 ∧ m_n (R r) ^ (max (sumT (s_t S) 8 - 1) (s_n S) + 1) * fn b (s_s S) ≤ 43200 := by
  obtain ⟨h1, h2, h3, h4, h5, h6, h7, h8⟩ := h r hr
  have hf9 : fn b (s_s S) ≤ 9 := by
    have a1 : b ^ pc (s_s S) ≤ b ^ 2 := Nat.pow_le_pow_right (by omega) (by omega)
    have a2 : b ^ 2 ≤ 3 ^ 2 := Nat.pow_le_pow_left (by omega) 2
    unfold fn; omega
  generalize m_n (R r) = n at *
  generalize fn b (s_s S) = F at *
  have key : ∀ L, L = max (sumT (s_t S) 8 - 1) (s_n S) → n ^ (L + 1) ≤ 3600 := by
    intro L hL
    rcases h8 with ⟨e1, e2⟩ | e
    · have : L = 0 := by omega
      subst this
      rw [Nat.pow_one]; omega
    · have a1 : n ^ (L + 1) ≤ 6 ^ (L + 1) := Nat.pow_le_pow_left e _
      have a2 : 6 ^ (L + 1) ≤ 6 ^ 4 := Nat.pow_le_pow_right (by omega) (by omega)
      omega
  have k1 := key _ rfl
  refine ⟨by omega, hf9, k1, ?_⟩
  have := Nat.mul_le_mul k1 hf9
  omega
theorem letB_lt {b : Nat} {R : Nat → Mc} {rc r : Nat} {S : SD} (hb : b = 2 ∨ b = 3) (h : SWf R rc S) (hr : s_r S = some r) (hg : RowG b (R r)) (u : List Nat) : letB b R r S u < 8 := by
  obtain ⟨⟨β, hcan⟩, g2, g3, g4⟩ := hg
  obtain ⟨k1, k2, k3, k4⟩ := h.num hb hr hcan.1 g2
  refine g3 _ (tz_lt (L := max (sumT (s_t S) 8 - 1) (s_n S)) (by omega) hcan.2.1 (fun g => ?_) u _ (fun j hj => ?_) _ (by omega))
  · have := (ldn_le (al := s_s S) (tf := s_t S) (g := g) hb).2
    have h2 := (h r hr).2.2.1
    have h3 : sumT (s_t S) 8 ≤ max (sumT (s_t S) 8 - 1) (s_n S) + 1 := by omega
    generalize ldn b (s_s S) (s_t S) g = y at this ⊢
    generalize max (sumT (s_t S) 8 - 1) (s_n S) = L at h3 ⊢
    rcases hb with rfl | rfl <;> omega
  · exact hcan.2.1 _ (hcan.2.1 0 hcan.1 _ (by
      have : j / b ≤ j / 2 := Nat.div_le_div_left (by omega) (by omega)
      omega)) _ (Nat.mod_lt _ (by omega))
variable {G : GG} {M : Mem} {w b p : Nat} {Q : Option Value → Mem → Prop}
theorem w_within_m1 (d : Nat) {n : Nat} (hQ : Q (some (.int 0)) M) : Call G (d + 1) 0 0 mX11_within [.int (-1), .int (nI n)] M Q :=
  eX11_within _ _ ⟨fun _ => hQ, fun c => absurd (by decide) c⟩
/-- the letters of a side -/
theorem w_letters (d : Nat) (hw : WeS M w) (e11 : x_i M w 11 = nI b) (hb : b = 2 ∨ b = 3) {s q qv qk rc ra r0 r : Nat} {S : SD} {R : Nat → Mc} (hs1 : (x_h M s).1 = 24) (hs2 : x_r M s 0 = some (s + 1)) (hs3 : x_h M (s + 1) = (1, 8)) (hsd : s + 1 < w ∨ w + 21 < s) (hsi : SiI M s S) (hsw : SWf R rc S) (hr : s_r S = some r) (hrc : rc ≤ 10) (hrs : RowsS M ra r0) (hg : RowG b (R r)) (hri : RowI M (r0 + 8 * r) b (R r)) (hrd : w + 21 < r0)
    (hq : LeS M q qv qk 360 40) (hqd : ∀ y ∈ [q, qv, qk], w + 8 < y ∧ y < w + 15)
    (hQ : ∀ M' res, Fr M M' [w + 1, w + 2, w + 3, w + 4, w + 5, w + 6, w + 7, w + 8, w + 18, q, qv, qk] → LRes (fn b (s_s S)) 40 (letB b R r S) res → (∀ m, res = some m → LeI M' q qv qk (m_n m) (fn b (s_s S)) (m_s m) (m_k m)) → Q (some (.int (nI (if res.isSome = true then 1 else 0)))) M') :
    Call G (d + 5) 0 0 mX10_weaveLetters [.ref w, .ref s, .ref (r0 + 8 * r + 1), .ref q] M Q := by
  obtain ⟨⟨β, hcan⟩, g2, g3, g4⟩ := hg
  obtain ⟨f1, f2, f3, f4, f5, f6, f7, f8⟩ := hsw r hr
  obtain ⟨k1, k2, k3, k4⟩ := hsw.num hb hr hcan.1 g2
  obtain ⟨i1, i2, i3, i4⟩ := hsi
  have hrw := (hrs.2 r (by omega)).2.2.2
  have hn3 : m_n (R r) * b ≤ 180 := by have : m_n (R r) * b ≤ 60 * 3 := Nat.mul_le_mul g2 (by omega); omega
  refine w_weaveLetters d hw e11 hb (c := s_n S) hs1 hs2 hs3 ⟨by simp <;> omega, by simp <;> omega⟩ i2 i3 f2 i4 (by omega) rfl k1 k2 hrw hri (fun y hy => by simp at hy ⊢; omega) hcan.1 hn3 g2 hcan.2.1 g4 g3 k3 k4 hq (fun y hy => by have := hqd y hy; omega) (by omega) (by have : 40 * fn b (s_s S) ≤ 40 * 9 := Nat.mul_le_mul_left 40 k2; omega) (fun M' m st' mr' h1 h2 h3 h4 => ?_) (fun M' h1 h2 => ?_)
  · exact hQ M' (some (m, st', mr')) h1 (Or.inl ⟨_, rfl, h4, h2⟩) (fun m' e => by cases e; exact h3)
  · exact hQ M' none h1 (Or.inr ⟨rfl, fun m hm => h2 _ _ _ hm⟩) (fun m' e => by cases e)
theorem dl_0 {δ : Nat → Nat → Nat} {nb : Nat} {u : List Nat} : dl δ 0 u = dl δ (0 * nb + 0) u := by rw [Nat.zero_mul]
/-- an atom of rows -/
theorem w_weaveRows (d : Nat) (hw : WeS M w) (e11 : x_i M w 11 = nI b) (hb : b = 2 ∨ b = 3) (hp : PaS M p) (hpd : p + 7 < w) {rc ra r0 r al : Nat} {A B : SD} {R : Nat → Mc} (hrc : rc ≤ 10) (hrs : RowsS M ra r0) (hrd : w + 21 < r0) (hrow : ∀ i, i < rc → RowG b (R i) ∧ RowI M (r0 + 8 * i) b (R i))
    (hA : SiI M (p + 1) A) (hB : SiI M (p + 3) B) (hr : s_r A = some r) (hAw : SWf R rc A) (hBw : SWf R rc B) (hBn : s_r B = none → s_s B = 0 ∧ s_n B < 8) (hal : al = s_s A ||| s_s B) (h27 : fn b al ≤ 27)
    (hQ : ∀ M' res, Fr M M' [w + 1, w + 2, w + 3, w + 4, w + 5, w + 6, w + 7, w + 8, w + 9, w + 10, w + 11, w + 12, w + 13, w + 14, w + 15, w + 16, w + 18, p + 5, p + 6, p + 7] → (∃ rl, LRes (fn b (s_s A)) 40 (letB b R r A) rl ∧ (rl = none → res = none) ∧ ∀ ml, rl = some ml →
        (s_r B = none → LRes (fn b al) 40 (fun u => jn 0 (letB b R r A (u.map (vw b al (s_s A)))) (s_n B)) res) ∧
        (∀ r', s_r B = some r' → ∃ rr, LRes (fn b (s_s B)) 40 (letB b R r' B) rr ∧ (rr = none → res = none) ∧ ∀ mr, rr = some mr → LRes (fn b al) 40 (fun u => jn 0 (letB b R r A (u.map (vw b al (s_s A)))) (letB b R r' B (u.map (vw b al (s_s B))))) res)) →
      (∀ m, res = some m → LeI M' (p + 5) (p + 6) (p + 7) (m_n m) (fn b al) (m_s m) (m_k m)) → Q (some (.int (nI (if res.isSome = true then 1 else 0)))) M') :
    Call G (d + 6) 0 0 mX10_weaveRows [.ref w, .ref p, .ref ra, .int (nI rc)] M Q := by
  have hw0 := hw
  obtain ⟨w1, w2, w3, w4, w5, w6, w7, -⟩ := hw
  obtain ⟨p1, p2, p3, p4, ⟨s1, s2, s3⟩, ⟨s4, s5, s6⟩, p7⟩ := hp
  obtain ⟨f1, f2, f3, f4, f5, f6, f7, f8⟩ := hAw r hr
  have hb1 : 1 < b := by omega
  have hb3 : b ≤ 3 := by omega
  have hfA : 0 < fn b (s_s A) := fn_pos (by omega)
  have hf0 : 0 < fn b al := fn_pos (by omega)
  obtain ⟨hgA, hriA⟩ := hrow r f1
  have k9 : fn b (s_s A) ≤ 9 := by obtain ⟨⟨β, hcan⟩, g2, g3, g4⟩ := hgA; exact (hAw.num hb hr hcan.1 g2).2.1
  have eA1 : x_i M (p + 1) 1 = nI r := by rw [hA.1, hr]
  -- the two machines at once
  have prod : ∀ (M1 : Mem) (ml mr : Mc) (bB : List Nat → Nat), Fr M M1 [w + 1, w + 2, w + 3, w + 4, w + 5, w + 6, w + 7, w + 8, w + 9, w + 10, w + 11, w + 12, w + 13, w + 14, w + 15, w + 16, w + 18] → mcan (fn b (s_s A)) ml (letB b R r A) → m_n ml ≤ 40 → mcan (fn b (s_s B)) mr bB → m_n mr ≤ 40 → (∀ u, bB u < 8) → LeI M1 (w + 9) (w + 10) (w + 11) (m_n ml) (fn b (s_s A)) (m_s ml) (m_k ml) → LeI M1 (w + 12) (w + 13) (w + 14) (m_n mr) (fn b (s_s B)) (m_s mr) (m_k mr) → fn b (s_s B) ≤ 9 → s_s B < 256 →
      (∀ M' res, Fr M M' [w + 1, w + 2, w + 3, w + 4, w + 5, w + 6, w + 7, w + 8, w + 9, w + 10, w + 11, w + 12, w + 13, w + 14, w + 15, w + 16, w + 18, p + 5, p + 6, p + 7] → LRes (fn b al) 40 (fun u => jn 0 (letB b R r A (u.map (vw b al (s_s A)))) (bB (u.map (vw b al (s_s B))))) res → (∀ m, res = some m → LeI M' (p + 5) (p + 6) (p + 7) (m_n m) (fn b al) (m_s m) (m_k m)) → Q (some (.int (nI (if res.isSome = true then 1 else 0)))) M') →
      Call G (d + 5) 0 0 mX10_product [.ref w, .ref (w + 9), .int (nI (s_s A)), .ref (w + 12), .int (nI (s_s B)), .int 0, .ref (p + 5), .int 40] M1 (fun r45 M46 => ∃ v47 : Int32, r45 = some (.int v47) ∧ (v47 = 0 ∨ v47 = 1) ∧ Q (some (.int v47)) M46) := by
    intro M1 ml mr bB hfr ca na cb nb bB8 ia ib fB9 hB256 hQ2
    have hfB : 0 < fn b (s_s B) := fn_pos (by omega)
    have ka : ∀ i, i < m_n ml → m_k ml i < 8 := can_marks (P := fun x => x < 8) hfA ca (fun u _ => letB_lt hb hAw hr hgA u)
    have kb : ∀ i, i < m_n mr → m_k mr i < 8 := can_marks (P := fun x => x < 8) hfB cb (fun u _ => bB8 u)
    have hwd : ∀ u, wd (fn b al) u → prM (m_n mr) 0 (m_k ml) (m_k mr) (dl (prD b (m_n mr) al (s_s A) (s_s B) (m_s ml) (m_s mr)) 0 u) = jn 0 (letB b R r A (u.map (vw b al (s_s A)))) (bB (u.map (vw b al (s_s B)))) := fun u hu => by
      rw [dl_0 (nb := m_n mr), pr_tells (f := fn b al) (fun i hi g hg => cb.2.1 i hi _ (vw_lt (by omega))) u 0 0 hu cb.1]
      rw [ca.2.2.1 _ (map_wd (f := fn b al) (fun g _ => vw_lt (by omega)) u hu), cb.2.2.1 _ (map_wd (f := fn b al) (fun g _ => vw_lt (by omega)) u hu)]
    have n1 : m_n ml * fn b (s_s A) ≤ 360 := by have : m_n ml * fn b (s_s A) ≤ 40 * 9 := Nat.mul_le_mul na k9; omega
    have n2 : m_n mr * fn b (s_s B) ≤ 360 := by have : m_n mr * fn b (s_s B) ≤ 40 * 9 := Nat.mul_le_mul nb fB9; omega
    have n3 : m_n ml * m_n mr ≤ 1600 := by have : m_n ml * m_n mr ≤ 40 * 40 := Nat.mul_le_mul na nb; omega
    have n4 : m_n ml * m_n mr * fn b al ≤ 43200 := by have : m_n ml * m_n mr * fn b al ≤ 1600 * 27 := Nat.mul_le_mul n3 h27; omega
    refine w_product d (hw0.fr hfr) (by rw [hfr.i (by simp <;> omega)]; exact e11) hb1 hb3 (p7.fF hfr) (fun q hq => by simp at hq; omega) (way := 0) (most := 40) (by omega) f2 hB256 (by rw [← hal]; exact h27) (by omega) (by omega) (by rw [← hal]; have : 40 * fn b al ≤ 40 * 27 := Nat.mul_le_mul_left 40 h27; omega) (hw0.fr hfr).2.2.1 ia (hw0.fr hfr).2.2.2.1 ib ca.1 cb.1 (by omega) (by rw [← hal]; exact n4) n1 (by omega) n2 (by omega) ca.2.1 cb.2.1 ka kb (fun e => by omega) (fun q hq => by simp at hq ⊢; omega) (fun q hq => by simp at hq ⊢; omega) (fun M' m st' mr' h1 h2 h3 h4 => ?_) (fun M' h1 h2 h3 => ?_)
    · rw [← hal] at h3 h4
      exact ⟨_, rfl, Or.inr rfl, hQ2 M' (some (m, st', mr')) ((hfr.wk (by simp <;> omega)).tr h1 (by simp <;> omega)) (Or.inl ⟨_, rfl, Can.congr h4 hwd, h2⟩) (fun m' e => by cases e; exact h3)⟩
    · rw [← hal] at h2
      exact ⟨_, rfl, Or.inl rfl, hQ2 M' none ((hfr.wk (by simp <;> omega)).tr h1 (by simp <;> omega)) (Or.inr ⟨rfl, fun m hm => h2 _ _ _ (Can.congr hm (fun u hu => (hwd u hu).symm))⟩) (fun m' e => by cases e)⟩
  refine eX10_weaveRows w p ra _ ⟨p1, p + 1, p2, p + 3, p3, s1, ?_⟩
  rw [eA1]
  refine w_within (d + 4) (by omega) (by omega) ⟨_, rfl, fun c => ?_, fun _ => ⟨s1, by rw [hrs.1]; exact ⟨by decide, by decide⟩, by rw [hrs.1, eA1]; exact vp_in_nI (show r < 10 by omega) (by omega), r0 + 8 * r, ?_⟩⟩
  · rw [if_pos f1] at c
    exact absurd c (by decide)
  rw [eA1, nI_clamp (by omega)]
  obtain ⟨hra, hrS⟩ := hrs.2 r (by omega)
  refine ⟨hra, hrS.1, r0 + 8 * r + 1, hrS.2.1, w1, w + 9, w6, ?_⟩
  refine w_letters d hw0 e11 hb s1 s2 s3 (by omega) hA hAw hr hrc hrs hgA hriA hrd w3 (fun y hy => by simp at hy; omega) (fun M1 rl h1 h2 h3 => ⟨_, rfl, fun c => ?_, fun c => ?_⟩)
  · cases rl with
    | none => exact absurd rfl c
    | some ml =>
      have hfr1 : Fr M M1 [w + 1, w + 2, w + 3, w + 4, w + 5, w + 6, w + 7, w + 8, w + 9, w + 10, w + 11, w + 12, w + 13, w + 14, w + 15, w + 16, w + 18] := h1.wk (by simp <;> omega)
      have iA := h3 ml rfl
      have eB1 : x_i M1 (p + 3) 1 = x_i M (p + 3) 1 := by rw [h1.i (by simp <;> omega)]
      refine ⟨by rw [h1.h]; exact s4, ?_⟩
      rw [eB1, hB.1]
      cases hBr : s_r B with
      | none =>
        obtain ⟨z1, z2⟩ := hBn hBr
        refine w_within_m1 (d + 4) ⟨_, rfl, fun c => absurd rfl c, fun _ => ⟨(hw0.fr hfr1).1, w + 12, by rw [h1.r]; exact w7, by rw [h1.h]; exact s4, (hw0.fr hfr1).2.2.2.1.1, ?_⟩⟩
        rw [h1.i (q := p + 3) (by simp <;> omega), hB.2.1]
        refine Call.mono (k_becomeOnly (d + 2) (hw0.fr hfr1).2.2.2.1 (by omega) (by omega) (s_n B)) ?_
        rintro r' M2 ⟨rfl, g1, g2⟩
        have g2' := g2.fr
        have hfr2 : Fr M M2 [w + 1, w + 2, w + 3, w + 4, w + 5, w + 6, w + 7, w + 8, w + 9, w + 10, w + 11, w + 12, w + 13, w + 14, w + 15, w + 16, w + 18] := hfr1.tr g2' (by simp <;> omega)
        refine ⟨rfl, (hw0.fr hfr2).1, w + 9, by rw [hfr2.r]; exact w6, by rw [hfr2.h]; exact s1, w + 12, by rw [hfr2.r]; exact w7, by rw [hfr2.h]; exact s4, by rw [hfr2.h]; exact p1, p + 5, by rw [hfr2.r]; exact p4, ?_⟩
        rw [hfr2.i (q := p + 1) (by simp <;> omega), hfr2.i (q := p + 3) (by simp <;> omega), hA.2.2.1, hB.2.2.1]
        have f0 : fn b (s_s B) = 1 := by rw [z1]; rfl
        have cO : mcan (fn b (s_s B)) (1, (fun _ _ => 0), fun _ => s_n B) (fun _ => s_n B) := by
          rw [f0]
          refine ⟨Nat.one_pos, fun _ _ _ _ => Nat.one_pos, fun _ _ => rfl, fun i j hi hj _ => by have : m_n (1, (fun _ _ => 0), fun _ => s_n B) = 1 := rfl; omega, fun k hk => ?_⟩
          have e1 : m_n (1, (fun _ _ => 0), fun _ => s_n B) = 1 := rfl
          have : k = 0 := by omega
          subst this
          exact ⟨Nat.zero_le _, Nat.zero_le _⟩
        refine prod M2 ml (1, (fun _ _ => 0), fun _ => s_n B) (fun _ => s_n B) hfr2 h2.some.1 h2.some.2 cO (by show 1 ≤ 40; omega) (fun _ => z2) (iA.fF g2' (fun q hq => by simp at hq ⊢; omega)) (by rw [f0]; exact g1) (by omega) (by omega) (fun M' res q1 q2 q3 => hQ M' res q1 ⟨some ml, h2, fun e => (by cases e), fun ml' _ => ⟨fun _ => q2, fun r' e => (by rw [hBr] at e; cases e)⟩⟩ q3)
      | some r' =>
        obtain ⟨y1, y2, y3, y4, y5, y6, y7, y8⟩ := hBw r' hBr
        obtain ⟨hgB, hriB⟩ := hrow r' y1
        obtain ⟨hra', hrS'⟩ := hrs.2 r' (by omega)
        have eB : x_i M1 (p + 3) 1 = nI r' := by rw [eB1, hB.1, hBr]
        have fB9 : fn b (s_s B) ≤ 9 := by obtain ⟨⟨β, hcan⟩, g2, g3, g4⟩ := hgB; exact (hBw.num hb hBr hcan.1 g2).2.1
        refine w_within (d + 4) (by omega) (by omega) ⟨_, rfl, fun _ => ⟨by rw [h1.h]; exact s4, by rw [h1.h, hrs.1]; exact ⟨by decide, by decide⟩, by rw [h1.h, hrs.1, eB]; exact vp_in_nI (show r' < 10 by omega) (by omega), r0 + 8 * r', ?_⟩, fun c => ?_⟩
        · rw [eB, nI_clamp (by omega)]
          refine ⟨by rw [h1.r]; exact hra', by rw [h1.h]; exact hrS'.1, r0 + 8 * r' + 1, by rw [h1.r]; exact hrS'.2.1, (hw0.fr hfr1).1, w + 12, by rw [h1.r]; exact w7, ?_⟩
          have hB' : SiI M1 (p + 3) B := by
            unfold SiI
            rw [h1.i (q := p + 3) (by simp <;> omega), h1.i (q := p + 3 + 1) (by simp <;> omega)]
            exact hB
          refine w_letters d (hw0.fr hfr1) (by rw [h1.i (by simp <;> omega)]; exact e11) hb (by rw [h1.h]; exact s4) (by rw [h1.r]; exact s5) (by rw [h1.h]; exact s6) (by omega) hB' hBw hBr hrc (hrs.eq h1.h h1.r) hgB (hriB.fF h1 (fun q hq => by simp at hq ⊢; omega)) hrd (hw0.fr hfr1).2.2.2.1 (fun y hy => by simp at hy; omega) (fun M2 rr k1 k2 k3 => ⟨_, rfl, fun c => ?_, fun c => ?_⟩)
          · cases rr with
            | none => exact absurd rfl c
            | some mr =>
              have hfr2 : Fr M M2 [w + 1, w + 2, w + 3, w + 4, w + 5, w + 6, w + 7, w + 8, w + 9, w + 10, w + 11, w + 12, w + 13, w + 14, w + 15, w + 16, w + 18] := hfr1.tr k1 (by simp <;> omega)
              refine ⟨(hw0.fr hfr2).1, w + 9, by rw [hfr2.r]; exact w6, by rw [hfr2.h]; exact s1, w + 12, by rw [hfr2.r]; exact w7, by rw [hfr2.h]; exact s4, by rw [hfr2.h]; exact p1, p + 5, by rw [hfr2.r]; exact p4, ?_⟩
              rw [hfr2.i (q := p + 1) (by simp <;> omega), hfr2.i (q := p + 3) (by simp <;> omega), hA.2.2.1, hB.2.2.1]
              refine prod M2 ml mr (letB b R r' B) hfr2 h2.some.1 h2.some.2 k2.some.1 k2.some.2 (fun u => letB_lt hb hBw hBr hgB u) (iA.fF k1 (fun q hq => by simp at hq ⊢; omega)) (k3 mr rfl) fB9 y2 (fun M' res q1 q2 q3 => hQ M' res q1 ⟨some ml, h2, fun e => (by cases e), fun ml' _ => ⟨fun e => (by rw [hBr] at e; cases e), fun r2 e => (by rw [hBr] at e; cases e; exact ⟨some mr, k2, fun e => (by cases e), fun _ _ => q2⟩)⟩⟩ q3)
          · cases rr with
            | some mr => exact absurd c (by show ¬ nI 1 = 0; decide)
            | none =>
              exact hQ M2 none ((hfr1.wk (by simp <;> omega)).tr k1 (by simp <;> omega)) ⟨some ml, h2, fun e => (by cases e), fun ml' _ => ⟨fun e => (by rw [hBr] at e; cases e), fun r2 e => (by rw [hBr] at e; cases e; exact ⟨none, k2, fun _ => rfl, fun m e => (by cases e)⟩)⟩⟩ (fun m e => by cases e)
        · rw [if_pos y1] at c
          exact absurd c (by decide)
  · cases rl with
    | some ml => exact absurd c (by show ¬ nI 1 = 0; decide)
    | none => exact hQ M1 none (h1.wk (by simp <;> omega)) ⟨none, h2, fun _ => rfl, fun m e => by cases e⟩ (fun m e => by cases e)
end PartsC
