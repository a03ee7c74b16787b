/-! ===== both objects hold one state ===== -/
section RelP
def CoAll (M : Mem) (e : Nat) (S : Sg) (R K : Nat → Mc) : Prop := CoS M e ∧ CoB M e S ∧ CoT M e S ∧ CoH M e S ∧ CoR M e S R ∧ CoQ M e S K ∧ CoA M e S
def ReAll (M : Mem) (m : Nat) (S : Sg) (R K : Nat → Mc) : Prop := ReS M m ∧ ReB M m S ∧ ReT M m S ∧ ReH M m S ∧ ReRw M m S R ∧ ReQs M m S K ∧ ReA M m S
/-- the machines of the two are alike -/
def MaE (S : Sg) (R K R' K' : Nat → Mc) : Prop := (∀ i, m_n (R i) = m_n (R' i)) ∧ (∀ i, i < y_rc S → meq (y_b S) (R i) (R' i)) ∧ ∀ k, k < y_qc S → qd_f (y_q S k) = 0 → qd_s (y_q S k) = none → meq (fn (y_b S) (qd_n (y_q S k))) (K k) (K' k)
def CRel (M : Mem) (e m : Nat) : Prop := e + 615 < m ∧ ∃ S R K R' K', SgW S ∧ MaW S R K ∧ MaW S R' K' ∧ MaE S R K R' K' ∧ CoAll M e S R K ∧ ReAll M m S R' K'
variable {M M' : Mem} {e m : Nat} {S : Sg} {R K R' K' : Nat → Mc}
/-- the cells of the class's object -/
theorem CoAll.up (h : CoAll M e S R K) (hW : SgW S) (h1 : x_h M' = x_h M) (h2 : x_r M' = x_r M) (h3 : ∀ q, q < e + 616 → x_i M' q = x_i M q) : CoAll M' e S R K := by
  obtain ⟨a1, a2, a3, a4, a5, a6, a7⟩ := h
  have hrc := hW.2.2.2.2.1
  have hqc := hW.2.2.2.2.2.2.1
  refine ⟨a1.eq h1 h2, ?_, ?_, ?_, fun i hi => ?_, fun k hk => ?_, ?_⟩
  · unfold CoB at a2 ⊢; rw [h3 e (by omega)]; exact a2
  · unfold CoT at a3 ⊢; rw [h3 (e + 3) (by omega)]; exact a3
  · refine ⟨fun s hs => ?_, fun i hi => by rw [h3 (e + 13) (by omega)]; exact a4.2 i hi⟩
    rw [h3 (e + 11) (by omega), h3 (e + 12) (by omega), h3 (e + 5 + s) (by omega)]
    exact a4.1 s hs
  · have := a5 i hi
    unfold RowI LeI at this ⊢
    rw [h3 (e + 536 + 8 * i) (by omega), h3 (e + 536 + 8 * i + 1) (by omega), h3 (e + 536 + 8 * i + 2) (by omega), h3 (e + 536 + 8 * i + 3) (by omega)]
    exact this
  · have := a6 k hk
    unfold CoK LeI at this ⊢
    rw [h3 (e + 540 + 8 * k) (by omega), h3 (e + 540 + 8 * k + 1) (by omega), h3 (e + 540 + 8 * k + 2) (by omega), h3 (e + 540 + 8 * k + 3) (by omega)]
    exact this
  · unfold CoA at a7 ⊢; rw [h3 (e + 534) (by omega), h3 (e + 535) (by omega)]; exact a7
theorem ReS.rg (h : ReS M m) (h1 : x_h M' = x_h M) (h2 : x_r M' m = x_r M m) : ReS M' m := by
  unfold ReS at h ⊢
  rw [h1, h2]
  exact h
theorem ReAll.up (h : ReAll M m S R K) (h1 : x_h M' = x_h M) (h2 : x_r M' m = x_r M m) (h3 : ∀ q, m ≤ q → x_i M' q = x_i M q) : ReAll M' m S R K := by
  obtain ⟨a1, a2, a3, a4, a5, a6, a7⟩ := h
  refine ⟨a1.rg h1 h2, ?_, ?_, fun s hs => ?_, fun i hi => ?_, fun k hk => ?_, ?_⟩
  · unfold ReB at a2 ⊢; rw [h3 m (by omega)]; exact a2
  · unfold ReT at a3 ⊢; rw [h3 (m + 15) (by omega)]; exact a3
  · rw [h3 (m + 16) (by omega), h3 (m + 17) (by omega), h3 (m + 18) (by omega)]; exact a4 s hs
  · have := a5 i hi
    unfold ReR at this ⊢
    rw [h3 (m + 1) (by omega), h3 (m + 2) (by omega), h3 (m + 3) (by omega), h3 (m + 4) (by omega), h3 (m + 5) (by omega)]
    exact this
  · have := a6 k hk
    unfold ReK ReQ at this ⊢
    rw [h3 (m + 6) (by omega), h3 (m + 7) (by omega), h3 (m + 8) (by omega), h3 (m + 9) (by omega), h3 (m + 10) (by omega), h3 (m + 11) (by omega), h3 (m + 12) (by omega), h3 (m + 13) (by omega), h3 (m + 14) (by omega)]
    exact this
  · unfold ReA at a7 ⊢; rw [h3 (m + 19) (by omega)]; exact a7
theorem FrM.lt {F A : List Nat} (h : FrM M M' m F A) {q : Nat} (hq : q < m) : x_i M' q = x_i M q := by
  obtain ⟨f, g, rfl, hf, -⟩ := h
  exact (hf q (by omega) (fun o _ => by omega)).1
theorem CoAll.fM {F A : List Nat} (h : CoAll M e S R K) (hW : SgW S) (hem : e + 615 < m) (g : FrM M M' m F A) : CoAll M' e S R K := h.up hW g.h g.r (fun q hq => g.lt (by omega))
/-- an op: both answer alike, and hold one state again -/
def COp (G : GG) (d e m : Nat) (md md' : MD) (as : List Value) : Prop := ∀ M, CRel M e m → Call G d 0 0 md (.ref e :: as) M (fun r M1 => ∃ v, r = some v ∧ Call G d 0 0 md' (.ref m :: as) M1 (fun r2 M2 => r2 = some v ∧ CRel M2 e m))
/-! question -/
theorem rows_lt {rc : Nat} {D : Nat → PD} (hrc : rc ≤ 10) : ∀ c, (∀ j, j < c → PWf R rc D j) → rowsOf D c < 1024
  | 0, _ => by show 0 < 1024; omega
  | c + 1, h => by
    have ih := rows_lt hrc c (fun j hj => h j (by omega))
    show rowsOf D c ||| _ < 1024
    refine or_1024 ih ?_
    by_cases q : p_f (D c) = 1
    · rw [if_pos q]
      obtain ⟨-, -, -, -, w5, -⟩ := h c (Nat.lt_succ_self _)
      obtain ⟨-, sA, sB, -⟩ := w5 q
      have one : ∀ S : SD, SWf R rc S → rbit (s_r S) < 1024 := fun S hS => by
        cases e : s_r S with
        | none => show 0 < 1024; omega
        | some r => have := (hS r e).1; exact pw_1024 (by omega)
      exact or_1024 (one _ sA) (one _ sB)
    · rw [if_neg q]; omega
theorem dec_zero {b rc cnt : Nat} {D : Nat → PD} {Ms : Nat → Mc} (hb : b = 2 ∨ b = 3) (hrow : ∀ r, r < rc → RowG b (R r)) (hwf : ∀ j, j < cnt → PWf R rc D j) (hu : PUpto b R D Ms cnt) : ∀ j, j < cnt → MsOK b D Ms j ∧ m_s (Ms j) 0 0 = 0 := by
  intro j
  induction j using Nat.strongRecOn with
  | ind j ih =>
    intro hj
    have hp : ∀ i, i < j → MsOK b D Ms i ∧ m_s (Ms i) 0 0 = 0 := fun i hi => ih i hi (by omega)
    exact ⟨PSpec.ok (by omega) (hwf j hj) (fun i hi => (hp i hi).1) (hu j hj), PSpec.zero hb hrow (hwf j hj) hp (hu j hj)⟩
def addQ (S : Sg) (q : Qd) : Sg := (y_b S, 0, y_t S, y_so S, y_sz S, y_cf S, y_rc S, y_kd S, y_oq S, y_qc S + 1, (fun k => if k = y_qc S then q else y_q S k), y_tr S, 0)
def adK_ (S : Sg) (K : Nat → Mc) (x : Mc) : Nat → Mc := fun k => if k = y_qc S then x else K k
theorem ft_cases {res : PRt} : (ftR res).1 ≤ 3 := by
  cases res with
  | inl p => show 1 ≤ 3; omega
  | inr as =>
    obtain ⟨a, s⟩ := as
    show (match q_o s with | some p => (2, some p) | none => (match crF (q_D s) (q_c s) 0 with | some p => (3, some p) | none => (0, none)) : Nat × Option Nat).1 ≤ 3
    split
    · show 2 ≤ 3; omega
    · split
      · show 3 ≤ 3; omega
      · show 0 ≤ 3; omega
/-- the new question keeps the state well made -/
theorem addQ_W {k : Option Nat} {Ms : Nat → Mc} (hW : SgW S) (hM : MaW S R K) (hq : y_qc S < 10) (hD : ∀ a s, quR S R = .inr (a, s) → (ftR (quR S R)).1 = 0 → DecO (y_b S) R (q_D s) (q_c s) k Ms) : SgW (addQ S (quD (quR S R) k)) ∧ MaW (addQ S (quD (quR S R) k)) R (adK_ S K (lastM (quR S R) Ms)) := by
  obtain ⟨W1, W2, W3, W4, W5, W6, W7, W8, W9⟩ := hW
  have eq0 : ∀ j, j < y_qc S → y_q (addQ S (quD (quR S R) k)) j = y_q S j := fun j hj => if_neg (by omega)
  have eq1 : y_q (addQ S (quD (quR S R) k)) (y_qc S) = quD (quR S R) k := if_pos rfl
  have ff := quD_f (res := quR S R) (k := k)
  have hft := ft_cases (res := quR S R)
  have ok : (ftR (quR S R)).1 = 0 → ∃ a s, quR S R = .inr (a, s) ∧ 0 < q_c s ∧ q_c s ≤ 60 ∧ (∀ j, j < q_c s → p_p (q_D s j) ≤ y_L S ∧ PWf R (y_rc S) (q_D s) j) ∧ q_m s = rowsOf (q_D s) (q_c s) := fun z => rd_ok (R := R) (wd := fun i => m_n (R i)) (rc := y_rc S) (t := y_t S) (fun i => rfl) W2 z
  have eD : ∀ a s, quR S R = .inr (a, s) → (ftR (quR S R)).1 = 0 → quD (quR S R) k = (0, (ftR (quR S R)).2, k.map (fun j => p_p (q_D s j)), p_s (q_D s (q_c s - 1)), q_c s, rowsOf (q_D s) (q_c s)) := fun a s hr z2 => by
    rw [hr] at z2 ⊢
    show ((ftR (.inr (a, s))).1, _, (if (ftR (.inr (a, s))).1 = 0 then _ else _), _, _, _) = _
    rw [z2, if_pos rfl]
  have no : (ftR (quR S R)).1 ≠ 0 → qd_s (quD (quR S R) k) = none := fun z => by
    cases hr : quR S R with
    | inl p => rfl
    | inr as =>
      rw [hr] at z
      show (if _ then _ else _) = none
      rw [if_neg z]
  refine ⟨⟨W1, Nat.zero_le _, fun i hi => absurd hi (Nat.not_lt_zero i), W4, W5, W6, hq, fun j hj => ?_, W9⟩, hM.1, fun j hj hf hs => ?_⟩
  · have hj' : j < y_qc S + 1 := hj
    by_cases c : j = y_qc S
    · rw [c, eq1]
      refine ⟨fun p hp => ?_, by rw [ff.1]; exact hft, fun z => no (fun z2 => z (ff.1.trans z2)), fun z => ?_⟩
      · by_cases z : (ftR (quR S R)).1 = 0
        · obtain ⟨a, s, hr, k1, k2, k3, k4⟩ := ok z
          rw [eD a s hr z] at hp
          cases k with
          | none => cases hp
          | some k =>
            cases hp
            have := (k3 k (hD a s hr z).1).1
            show p_p (q_D s k) ≤ 120
            omega
        · rw [no z] at hp; cases hp
      · have z' : (ftR (quR S R)).1 = 0 := ff.1.symm.trans z
        obtain ⟨a, s, hr, k1, k2, k3, k4⟩ := ok z'
        rw [eD a s hr z']
        obtain ⟨w1, w2, -⟩ := (k3 (q_c s - 1) (by omega)).2
        exact ⟨w1, w2, k2, rows_lt W5 (q_c s) (fun j hj => (k3 j hj).2)⟩
    · rw [eq0 j (by omega)]
      exact W8 j (by omega)
  · have hj' : j < y_qc S + 1 := hj
    by_cases c : j = y_qc S
    · subst c
      rw [eq1] at hf hs ⊢
      have eK : adK_ S K (lastM (quR S R) Ms) (y_qc S) = lastM (quR S R) Ms := if_pos rfl
      rw [eK]
      have z' : (ftR (quR S R)).1 = 0 := ff.1.symm.trans hf
      obtain ⟨a, s, hr, k1, k2, k3, k4⟩ := ok z'
      rw [eD a s hr z'] at hs ⊢
      cases k with
      | some k => cases hs
      | none =>
        have hu : PUpto (y_b S) R (q_D s) Ms (q_c s) := hD a s hr z'
        obtain ⟨⟨β, m1, m2, m3⟩, m4⟩ := dec_zero W1 hM.1 (fun j hj => (k3 j hj).2) hu (q_c s - 1) (by omega)
        have eM : lastM (quR S R) Ms = Ms (q_c s - 1) := by rw [hr]; rfl
        rw [eM]
        exact ⟨⟨β, m1⟩, m2, m3, m4⟩
    · have eK : adK_ S K (lastM (quR S R) Ms) j = K j := if_neg c
      rw [eK]
      rw [eq0 j (by omega)] at hf hs ⊢
      exact hM.2 j (by omega) hf hs
end RelP
