/-! ===== both alike: a row is added ===== -/
section RowAdd
variable {M M' : Mem} {e m b : Nat} {S S' : Sg} {R K : Nat → Mc}
/-- conditions in their order, each with the status if it does not hold -/
def rfL : List (Prop × Int32) → Int32 → Prop
  | [], _ => False
  | (A, k) :: t, c => (¬ A ∧ c = k) ∨ (A ∧ rfL t c)
def rfG : List (Prop × Int32) → Prop
  | [] => True
  | (A, _) :: t => A ∧ rfG t
theorem rfL.one : ∀ {l : List (Prop × Int32)} {c c' : Int32}, rfL l c → rfL l c' → c = c'
  | [], _, _, h, _ => h.elim
  | (A, k) :: t, c, c', h, h' => by
    rcases h with ⟨h1, h2⟩ | ⟨h1, h2⟩
    · rcases h' with ⟨g1, g2⟩ | ⟨g1, g2⟩
      · rw [h2, g2]
      · exact absurd g1 h1
    · rcases h' with ⟨g1, g2⟩ | ⟨g1, g2⟩
      · exact absurd h1 g1
      · exact rfL.one h2 g2
theorem rfL.no : ∀ {l : List (Prop × Int32)} {c : Int32}, rfL l c → rfG l → False
  | [], _, h, _ => h
  | (A, k) :: t, c, h, g => by
    rcases h with ⟨h1, h2⟩ | ⟨h1, h2⟩
    · exact h1 g.1
    · exact rfL.no h2 g.2
/-- an int within a size -/
def iN (x : Int32) : Nat := x.toInt.toNat
def iW (x : Int32) (n : Nat) : Prop := 0 ≤ x.toInt ∧ x.toInt < (n : Int)
theorem iW.eq {x : Int32} {n : Nat} (h : iW x n) (hn : n < 2 ^ 30) : x = nI (iN x) ∧ iN x < n := by
  obtain ⟨k, h1, h2⟩ := nI_ofInt (x := x) (n := n) h.1 (by have := h.2; omega) hn
  have : iN x = k := by unfold iN; rw [h2, nI_toInt (by omega)]; rfl
  rw [this]
  exact ⟨h2, h1⟩
theorem iN_nI {k : Nat} (h : k < 2 ^ 31) : iN (nI k) = k := by unfold iN; rw [nI_toInt h]; rfl
theorem iW_nI {k n : Nat} (h : k < n) (hn : n < 2 ^ 30) : iW (nI k) n := by unfold iW; rw [nI_toInt (by omega)]; omega
theorem iW.not {x : Int32} {n : Nat} (h : ∀ k, k < n → x ≠ nI k) (hn : n < 2 ^ 30) : ¬ iW x n := fun c => h _ (c.eq hn).2 (c.eq hn).1
def addRS (S : Sg) (kd : Nat) (oq : Int32) : Sg := (y_b S, y_L S, y_t S, y_so S, y_sz S, y_cf S, y_rc S + 1, (fun i => if i = y_rc S then kd else y_kd S i), (fun i => if i = y_rc S then oq else y_oq S i), y_qc S, y_q S, y_tr S, 0)
def adR_ (S : Sg) (R : Nat → Mc) (x : Mc) : Nat → Mc := fun i => if i = y_rc S then x else R i
/-- what the class wrote -/
def AddC (M M1 : Mem) (e : Nat) (S : Sg) (kd : Nat) (oq : Int32) (mc : Mc) : Prop := x_h M1 = x_h M ∧ x_r M1 = x_r M ∧ (∀ q, q ≠ e → ¬ (e + 502 ≤ q ∧ q ≤ e + 523) → ¬ (e + 536 + 8 * y_rc S ≤ q ∧ q < e + 540 + 8 * y_rc S) → x_i M1 q = x_i M q) ∧ (∀ j, j ≠ 12 → j ≠ 15 → x_i M1 e j = x_i M e j) ∧ x_i M1 e 12 = nI (y_rc S + 1) ∧ x_i M1 e 15 = 0 ∧ x_i M1 (e + 536 + 8 * y_rc S) 1 = nI kd ∧ x_i M1 (e + 536 + 8 * y_rc S) 2 = oq ∧ RowI M1 (e + 536 + 8 * y_rc S) (y_b S) mc
theorem CoAll.addR {M1 : Mem} {kd : Nat} {oq : Int32} {mc : Mc} (h : CoAll M e S R K) (hW : SgW S) (hr : y_rc S < 10) (hA : AddC M M1 e S kd oq mc) : CoAll M1 e (addRS S kd oq) (adR_ S R mc) K := by
  obtain ⟨cS, cB, cT, cH, cR, cQ, cA⟩ := h
  obtain ⟨g1, g2, g3, g4, g12, g15, k1, k2, k3⟩ := hA
  obtain ⟨f11, f12, f13, f14, f15⟩ := cB
  have hqc := hW.2.2.2.2.2.2.1
  refine ⟨cS.eq g1 g2, ⟨(g4 11 (by omega) (by omega)).trans f11, g12, (g4 13 (by omega) (by omega)).trans f13, (g4 14 (by omega) (by omega)).trans f14, g15⟩, cT.fr (g3 _ (by omega) (by omega) (by omega)) rfl rfl, cH.fr (fun q h1 h2 => g3 q (by omega) (by omega) (by omega)) rfl rfl rfl, fun i hi => ?_, fun k hk => ?_, cA.fr (fun q h1 h2 => g3 q (by omega) (by omega) (by omega)) rfl⟩
  · have hi' : i < y_rc S + 1 := hi
    show x_i M1 (e + 536 + 8 * i) 1 = nI (if i = y_rc S then kd else y_kd S i) ∧ ((if i = y_rc S then kd else y_kd S i) = 4 → x_i M1 (e + 536 + 8 * i) 2 = (if i = y_rc S then oq else y_oq S i)) ∧ RowI M1 (e + 536 + 8 * i) (y_b S) (if i = y_rc S then mc else R i)
    by_cases c : i = y_rc S
    · subst c
      rw [if_pos rfl, if_pos rfl, if_pos rfl]
      exact ⟨k1, fun _ => k2, k3⟩
    · rw [if_neg c, if_neg c, if_neg c]
      have := cR i (by omega)
      unfold RowI LeI at this ⊢
      rw [g3 (e + 536 + 8 * i) (by omega) (by omega) (by omega), g3 (e + 536 + 8 * i + 1) (by omega) (by omega) (by omega), g3 (e + 536 + 8 * i + 2) (by omega) (by omega) (by omega), g3 (e + 536 + 8 * i + 3) (by omega) (by omega) (by omega)]
      exact this
  · have hk' : k < y_qc S := hk
    show CoK M1 e (y_b S) k (y_q S k) (K k)
    have := cQ k hk'
    unfold CoK LeI at this ⊢
    rw [g3 (e + 540 + 8 * k) (by omega) (by omega) (by omega), g3 (e + 540 + 8 * k + 1) (by omega) (by omega) (by omega), g3 (e + 540 + 8 * k + 2) (by omega) (by omega) (by omega), g3 (e + 540 + 8 * k + 3) (by omega) (by omega) (by omega)]
    exact this
/-- what the reference wrote -/
def AddM (M M1 : Mem) (m : Nat) (S : Sg) (kd : Nat) (oq : Int32) (mc : Mc) : Prop := FrM M M1 m [1, 22, 25, 26, 29] [1, 2, 3, 4, 5, 20, 21, 22, 23, 24, 25, 26, 27, 28, 29] ∧ NewR M M1 m (y_rc S) kd (y_b S) mc ∧ (kd = 4 → x_i M1 (m + 5) (y_rc S) = oq) ∧ ∀ r, r ≠ y_rc S → x_i M1 (m + 5) r = x_i M (m + 5) r
theorem ReAll.addR {M1 : Mem} {kd : Nat} {oq : Int32} {mc : Mc} (h : ReAll M m S R K) (hM : MaW S R K) (hA : AddM M M1 m S kd oq mc) : ReAll M1 m (addRS S kd oq) (adR_ S R mc) K := by
  obtain ⟨rS, rB, rT, rH, rR, rQ, rA⟩ := h
  obtain ⟨g, ⟨n1, n2, n3, n4, n5, n6⟩, o1, o2⟩ := hA
  obtain ⟨b0, b1, b7, b18, b22, b24⟩ := rB
  have oR : ∀ q, q ≠ 0 → 6 ≤ q → q < 20 → x_i M1 (m + q) = x_i M (m + q) := fun q h1 h2 h3 => g.i h1 (by simp; omega)
  refine ⟨g.S rS, ⟨(g.fm (by decide)).trans b0, n1, (g.fm (by decide)).trans b7, (g.fm (by decide)).trans b18, n2, (g.fm (by decide)).trans b24⟩, rT.fr (oR _ (by omega) (by omega) (by omega)) rfl rfl, rH.fr (fun q h1 h2 => oR q (by omega) (by omega) (by omega)) rfl rfl rfl, fun i hi => ?_, rQ.fr (fun q h1 h2 => oR q (by omega) (by omega) (by omega)) rfl rfl (Nat.le_refl _), rA.fr (oR _ (by omega) (by omega) (by omega)) rfl⟩
  have hi' : i < y_rc S + 1 := hi
  show x_i M1 (m + 1) i = nI (if i = y_rc S then kd else y_kd S i) ∧ ((if i = y_rc S then kd else y_kd S i) = 4 → x_i M1 (m + 5) i = (if i = y_rc S then oq else y_oq S i)) ∧ ReR M1 m i (y_b S) (if i = y_rc S then mc else R i)
  by_cases c : i = y_rc S
  · subst c
    rw [if_pos rfl, if_pos rfl, if_pos rfl]
    exact ⟨n3, o1, n5⟩
  · rw [if_neg c, if_neg c, if_neg c]
    obtain ⟨z1, z2, z3⟩ := rR i (by omega)
    exact ⟨(n4 i c).trans z1, fun z => (o2 i c).trans (z2 z), n6 i _ c (hM.1 i (by omega)).2.1 z3⟩
theorem CRel.addR {M1 M2 : Mem} {kd : Nat} {oq : Int32} {mc mc' : Mc} (hem : e + 615 < m) (hW : SgW S) (hM : MaW S R K) (hC : CoAll M e S R K) (hR : ReAll M m S R K) (hr : y_rc S < 10) (hkd : kd ≤ 4) (aC : AddC M M1 e S kd oq mc) (aM : AddM M1 M2 m S kd oq mc') (hg : RowG (y_b S) mc) (hg' : RowG (y_b S) mc') (heq : meq (y_b S) mc mc') : CRel M2 e m := by
  have hR1 : ReAll M1 m S R K := hR.up aC.1 (by rw [aC.2.1]) (fun q hq => aC.2.2.1 q (by omega) (by omega) (by omega))
  have hC1 := hC.addR hW hr aC
  have hR2 := hR1.addR hM aM
  obtain ⟨w1, w2, w3, w4, w5, w6, w7, w8, w9⟩ := hW
  have hW' : SgW (addRS S kd oq) := by
    refine ⟨w1, w2, w3, w4, (show y_rc S + 1 ≤ 10 by omega), fun i hi => ?_, w7, w8, w9⟩
    have hi' : i < y_rc S + 1 := hi
    show (if i = y_rc S then kd else y_kd S i) ≤ 4
    by_cases c : i = y_rc S
    · rw [if_pos c]; exact hkd
    · rw [if_neg c]; exact w6 i (by omega)
  have mw : ∀ x, RowG (y_b S) x → MaW (addRS S kd oq) (adR_ S R x) K := fun x hx => by
    refine ⟨fun i hi => ?_, hM.2⟩
    have hi' : i < y_rc S + 1 := hi
    show RowG (y_b S) (if i = y_rc S then x else R i)
    by_cases c : i = y_rc S
    · rw [if_pos c]; exact hx
    · rw [if_neg c]; exact hM.1 i (by omega)
  refine ⟨hem, _, _, K, _, K, hW', mw mc hg, mw mc' hg', ⟨fun i => ?_, fun i _ => ?_, fun _ _ _ _ => meq.rf⟩, hC1.fM hW' hem aM.1, hR2⟩
  · show m_n (if i = y_rc S then mc else R i) = m_n (if i = y_rc S then mc' else R i)
    by_cases c : i = y_rc S
    · rw [if_pos c, if_pos c]; exact heq.1
    · rw [if_neg c, if_neg c]
  · show meq (y_b S) (if i = y_rc S then mc else R i) (if i = y_rc S then mc' else R i)
    by_cases c : i = y_rc S
    · rw [if_pos c, if_pos c]; exact heq
    · rw [if_neg c, if_neg c]; exact meq.rf
theorem RowG.of {mc : Mc} {β : List Nat → Nat} (hb : 0 < b) (h : mcan b mc β) (h60 : m_n mc ≤ 60) (h8 : ∀ u, wd b u → β u < 8) (hz : ∀ u, wd b u → β (0 :: u) = β u) : RowG b mc := ⟨⟨β, h⟩, h60, can_marks (P := fun x => x < 8) hb h h8, can_00 hb h hz⟩
end RowAdd
