/-! ===== both: forge ===== -/
section OpForge
variable {G : GG} {M M' : Mem} {e m b : Nat} {S S' : Sg} {R K : Nat → Mc} {Q : Option Value → Mem → Prop}
def fm_ (x : Int32) (k : Nat) : Nat := (x.toInt % (k : Int)).toNat
theorem fm_rng {x : Int32} (h1 : -100 ≤ x.toInt) (h2 : x.toInt ≤ 100) : ∃ j : Fin 201, x = iI ((j.1 : Int) - 100) := by
  refine ⟨⟨(x.toInt + 100).toNat, by omega⟩, Int32.toInt_inj.mp ?_⟩
  show x.toInt = (iI (((x.toInt + 100).toNat : Int) - 100)).toInt
  rw [iI_toInt (by omega) (by omega)]
  omega
theorem fm_r10 : ∀ j : Fin 201, let x := iI ((j.1 : Int) - 100); ((x - x / 10 * 10) + 10) - ((x - x / 10 * 10) + 10) / 10 * 10 = nI (fm_ x 10) ∧ (0 ≤ (x ^^^ 10) → x - x / 10 * 10 = nI (fm_ x 10)) ∧ (¬ 0 ≤ (x ^^^ 10) → (x - x / 10 * 10 = 0 → x - x / 10 * 10 = nI (fm_ x 10)) ∧ (¬ x - x / 10 * 10 = 0 → x - x / 10 * 10 + 10 = nI (fm_ x 10))) := by decide +kernel
theorem fm_r6 : ∀ j : Fin 201, let x := iI ((j.1 : Int) - 100); ((x - x / 6 * 6) + 6) - ((x - x / 6 * 6) + 6) / 6 * 6 = nI (fm_ x 6) ∧ (0 ≤ (x ^^^ 6) → x - x / 6 * 6 = nI (fm_ x 6)) ∧ (¬ 0 ≤ (x ^^^ 6) → (x - x / 6 * 6 = 0 → x - x / 6 * 6 = nI (fm_ x 6)) ∧ (¬ x - x / 6 * 6 = 0 → x - x / 6 * 6 + 6 = nI (fm_ x 6))) := by decide +kernel
theorem fm_r5 : ∀ j : Fin 201, let x := iI ((j.1 : Int) - 100); ((x - x / 5 * 5) + 5) - ((x - x / 5 * 5) + 5) / 5 * 5 = nI (fm_ x 5) ∧ (0 ≤ (x ^^^ 5) → x - x / 5 * 5 = nI (fm_ x 5)) ∧ (¬ 0 ≤ (x ^^^ 5) → (x - x / 5 * 5 = 0 → x - x / 5 * 5 = nI (fm_ x 5)) ∧ (¬ x - x / 5 * 5 = 0 → x - x / 5 * 5 + 5 = nI (fm_ x 5))) := by decide +kernel
theorem fm_r2 : ∀ j : Fin 201, let x := iI ((j.1 : Int) - 100); x &&& 1 = nI (fm_ x 2) ∧ (0 ≤ (x ^^^ 2) → x - x / 2 * 2 = nI (fm_ x 2)) ∧ (¬ 0 ≤ (x ^^^ 2) → (x - x / 2 * 2 = 0 → x - x / 2 * 2 = nI (fm_ x 2)) ∧ (¬ x - x / 2 * 2 = 0 → x - x / 2 * 2 + 2 = nI (fm_ x 2))) := by decide +kernel
theorem fm_lt {x : Int32} {k : Nat} (hk : 0 < k) : fm_ x k < k := by
  unfold fm_
  have h1 := Int.emod_nonneg x.toInt (show (k : Int) ≠ 0 by omega)
  have h2 := Int.emod_lt_of_pos x.toInt (show (0 : Int) < k by omega)
  omega
theorem w_floorMod (d : Nat) {x k : Int32} {r : Nat} (hk : ¬ k = 0) (h : (0 ≤ (x ^^^ k) → x - x / k * k = nI r) ∧ (¬ 0 ≤ (x ^^^ k) → (x - x / k * k = 0 → x - x / k * k = nI r) ∧ (¬ x - x / k * k = 0 → x - x / k * k + k = nI r))) (hQ : Q (some (.int (nI r))) M) : Call G (d + 1) 0 0 mJ9_floorMod_7cf53 [.int x, .int k] M Q := by
  refine eJ9_floorMod_7cf53 _ _ ⟨hk, fun c => ?_, fun c => ⟨fun c2 => ?_, fun c2 => ?_⟩⟩
  · rw [h.1 c]; exact hQ
  · rw [(h.2 c).1 c2]; exact hQ
  · rw [(h.2 c).2 c2]; exact hQ
def fgRow (S : Sg) (r kd : Nat) : Int32 × Int32 := if r < y_rc S then (if kd = 0 ∨ kd = y_kd S r ∨ kd = 1 ∧ y_kd S r = 2 then (nI (y_kd S r), 0) else (-1, 11)) else (-1, 10)
def fgNum (S : Sg) (s : Nat) (n : Int32) : Int32 × Int32 := if y_so S s = -1 then (-1, 10) else if y_so S s = 1 then (if 0 ≤ n.toInt ∧ n.toInt < y_sz S s then (nI (y_cf S s n.toInt.toNat), 0) else (-1, 12)) else (-1, 11)
def cpS (f : Nat → Nat) : Nat → Nat
  | 0 => 0
  | c + 1 => cpS f c + f (2 + c)
def fgCopy (S : Sg) (s : Nat) (n : Int32) : Int32 × Int32 := if y_so S s = -1 then (-1, 10) else if y_so S s = 0 then (if 0 ≤ n.toInt ∧ n.toInt ≤ 2 ∧ n.toInt + 2 ≤ y_sz S s then (nI (cpS (y_cf S s) n.toInt.toNat), 0) else (-1, 12)) else (-1, 11)
def fgSt (S : Sg) (r : Nat) : Int32 × Int32 := if r < y_rc S then (if y_kd S r = 1 ∨ y_kd S r = 2 then (nI (y_kd S r), 0) else (-1, 14)) else (0, 0)
def fgIn (a n k : Int32) : Prop := (0 ≤ a.toInt ∧ a.toInt ≤ 6) ∧ (-100 ≤ n.toInt ∧ n.toInt ≤ 100) ∧ (-100 ≤ k.toInt ∧ k.toInt ≤ 100)
def fgO (S : Sg) (a n k : Int32) : Int32 × Int32 := if a = 0 then fgRow S (fm_ k 10) (fm_ n 5) else if a = 1 then (if 0 ≤ n then (n, 0) else (-1, 13)) else if a = 2 then fgNum S (fm_ k 6) n else if a = 3 then fgCopy S (fm_ k 6) n else if a = 4 then fgSt S (fm_ k 10) else if a = 5 then (if n = 0 then (-1, 15) else (1000 / n, 0)) else if fm_ n 2 = 0 then (-1, 10) else (1, 0)
theorem n_int0 {n : Int32} : n < 0 ↔ n.toInt < 0 := by rw [Int32.lt_iff_toInt_lt]; exact Iff.rfl
theorem c3I : (nI 3) = 3 := rfl
theorem w_forgeKind (d : Nat) (hS : CoS M e) (hW : SgW S) (hB : CoB M e S) (hR : CoR M e S R) {r kd : Nat} (hr : r < 10) (hkd : kd < 5) (hQ : Q (some (.int (fgRow S r kd).1)) (x_si M e 15 (fgRow S r kd).2)) : Call G (d + 2) 0 0 mX11_forgeKind [.ref e, .int (nI r), .int (nI kd)] M Q := by
  obtain ⟨a1, a2, a3, a4, a5, a6, a7, a8, a9, a10, a11, a12, b1, b2, -⟩ := hS
  have hrc := hW.2.2.2.2.1
  have refuse : ∀ c, fgRow S r kd = (-1, c) → Call G (d + 1) 0 0 mX11_refuse [.ref e, .int c] M (fun r6 M7 => ∃ v8 : Int32, r6 = some (.int v8) ∧ Q (some (.int v8)) M7) := fun c h => w_refuse d a1 ⟨_, rfl, by rw [h] at hQ; exact hQ⟩
  have done : ∀ v, fgRow S r kd = (v, 0) → Call G (d + 1) 0 0 mX11_done [.ref e, .int v] M (fun r6 M7 => ∃ v8 : Int32, r6 = some (.int v8) ∧ Q (some (.int v8)) M7) := fun c h => w_done d a1 ⟨_, rfl, by rw [h] at hQ; exact hQ⟩
  refine eX11_forgeKind e _ _ ⟨a1, ?_⟩
  rw [hB.2.1, nI_ltI (by omega) (by omega)]
  by_cases c : r < y_rc S
  · refine ⟨fun _ => ?_, fun h => absurd c h⟩
    obtain ⟨r1, r2, r3, r4⟩ := b1.2 r hr
    have k4 := hW.2.2.2.2.2.1 r c
    refine ⟨e + 1, a2, by rw [b1.1]; exact ⟨by decide, by decide⟩, by rw [b1.1]; exact vp_in_nI hr (by omega), e + 536 + 8 * r, by rw [nI_clamp (by omega)]; exact r1, r2, ?_⟩
    rw [(hR r c).1, show (0 : Int32) = nI 0 from rfl, show (1 : Int32) = nI 1 from rfl, show (2 : Int32) = nI 2 from rfl]
    simp only [nI_eq (show kd < 2 ^ 31 by omega) (show 0 < 2 ^ 31 by omega), nI_eq (show kd < 2 ^ 31 by omega) (show 1 < 2 ^ 31 by omega), nI_eq (show y_kd S r < 2 ^ 31 by omega) (show 2 < 2 ^ 31 by omega), nI_eq (show y_kd S r < 2 ^ 31 by omega) (show kd < 2 ^ 31 by omega), nI_eq (show (1:Nat) < 2 ^ 31 by omega) (show 0 < 2 ^ 31 by omega)]
    have yes : (kd = 0 ∨ kd = y_kd S r ∨ kd = 1 ∧ y_kd S r = 2) → fgRow S r kd = (nI (y_kd S r), 0) := fun h => by unfold fgRow; rw [if_pos c, if_pos h]
    have no : ¬ (kd = 0 ∨ kd = y_kd S r ∨ kd = 1 ∧ y_kd S r = 2) → fgRow S r kd = (-1, 11) := fun h => by unfold fgRow; rw [if_pos c, if_neg h]
    refine ⟨fun h0 => ⟨fun _ => done _ (yes (Or.inl h0)), fun _ => ⟨fun z => absurd z (by omega), fun _ => done _ (yes (Or.inl h0))⟩⟩, fun n0 => ⟨fun n1 => ⟨fun h => done _ (yes (Or.inr (Or.inl h.symm))), fun h => ⟨fun _ => refuse _ (no (by omega)), fun z => absurd trivial z⟩⟩, fun h1 => ⟨fun n2 => ⟨fun h => done _ (yes (Or.inr (Or.inl h.symm))), fun h => ⟨fun _ => refuse _ (no (by omega)), fun z => absurd trivial z⟩⟩, fun h2 => ⟨fun h => done _ (yes (Or.inr (Or.inl h.symm))), fun h => ⟨fun z => absurd z (by omega), fun _ => done _ (yes (Or.inr (Or.inr ⟨h1, h2⟩)))⟩⟩⟩⟩⟩
  · exact ⟨fun h => absurd h c, fun _ => refuse _ (by unfold fgRow; rw [if_neg c])⟩
theorem w_forgeStore (d : Nat) (hS : CoS M e) (hW : SgW S) (hB : CoB M e S) (hR : CoR M e S R) {r : Nat} (hr : r < 10) (hQ : Q (some (.int (fgSt S r).1)) (x_si M e 15 (fgSt S r).2)) : Call G (d + 2) 0 0 mX11_forgeStore [.ref e, .int (nI r)] M Q := by
  obtain ⟨a1, a2, a3, a4, a5, a6, a7, a8, a9, a10, a11, a12, b1, b2, -⟩ := hS
  have hrc := hW.2.2.2.2.1
  have refuse : ∀ c, fgSt S r = (-1, c) → Call G (d + 1) 0 0 mX11_refuse [.ref e, .int c] M (fun r6 M7 => ∃ v8 : Int32, r6 = some (.int v8) ∧ Q (some (.int v8)) M7) := fun c h => w_refuse d a1 ⟨_, rfl, by rw [h] at hQ; exact hQ⟩
  have done : ∀ v, fgSt S r = (v, 0) → Call G (d + 1) 0 0 mX11_done [.ref e, .int v] M (fun r6 M7 => ∃ v8 : Int32, r6 = some (.int v8) ∧ Q (some (.int v8)) M7) := fun c h => w_done d a1 ⟨_, rfl, by rw [h] at hQ; exact hQ⟩
  refine eX11_forgeStore e _ ⟨a1, ?_⟩
  rw [hB.2.1, nI_ltI (by omega) (by omega)]
  by_cases c : r < y_rc S
  · refine ⟨fun _ => ?_, fun h => absurd c h⟩
    obtain ⟨r1, r2, r3, r4⟩ := b1.2 r hr
    have k4 := hW.2.2.2.2.2.1 r c
    refine ⟨e + 1, a2, by rw [b1.1]; exact ⟨by decide, by decide⟩, by rw [b1.1]; exact vp_in_nI hr (by omega), e + 536 + 8 * r, by rw [nI_clamp (by omega)]; exact r1, r2, ?_⟩
    rw [(hR r c).1, show (1 : Int32) = nI 1 from rfl, show (2 : Int32) = nI 2 from rfl, nI_eq (show y_kd S r < 2 ^ 31 by omega) (show 2 < 2 ^ 31 by omega), nI_eq (show y_kd S r < 2 ^ 31 by omega) (show 1 < 2 ^ 31 by omega)]
    have yes : (y_kd S r = 1 ∨ y_kd S r = 2) → fgSt S r = (nI (y_kd S r), 0) := fun h => by unfold fgSt; rw [if_pos c, if_pos h]
    have no : ¬ (y_kd S r = 1 ∨ y_kd S r = 2) → fgSt S r = (-1, 14) := fun h => by unfold fgSt; rw [if_pos c, if_neg h]
    exact ⟨fun h1 => done _ (yes (Or.inl h1)), fun n1 => ⟨fun n2 => refuse _ (no (by omega)), fun h2 => done _ (yes (Or.inr h2))⟩⟩
  · exact ⟨fun h => absurd h c, fun _ => done _ (by unfold fgSt; rw [if_neg c])⟩
theorem w_forgeNumber (d : Nat) (hS : CoS M e) (hW : SgW S) (hH : CoH M e S) {s : Nat} {n : Int32} (hs : s < 6) (hQ : Q (some (.int (fgNum S s n).1)) (x_si M e 15 (fgNum S s n).2)) : Call G (d + 2) 0 0 mX11_forgeNumber [.ref e, .int (nI s), .int n] M Q := by
  obtain ⟨a1, a2, a3, a4, a5, a6, a7, a8, a9, a10, a11, a12, b1, b2, b3, b4, b5, b6, b7, b8, -⟩ := hS
  obtain ⟨z1, z2, z3, z4⟩ := hW.2.2.2.1 s hs
  obtain ⟨h1, h2, h3⟩ := hH.1 s hs
  have refuse : ∀ c, fgNum S s n = (-1, c) → Call G (d + 1) 0 0 mX11_refuse [.ref e, .int c] M (fun r6 M7 => ∃ v8 : Int32, r6 = some (.int v8) ∧ Q (some (.int v8)) M7) := fun c h => w_refuse d a1 ⟨_, rfl, by rw [h] at hQ; exact hQ⟩
  have done : ∀ v, fgNum S s n = (v, 0) → Call G (d + 1) 0 0 mX11_done [.ref e, .int v] M (fun r6 M7 => ∃ v8 : Int32, r6 = some (.int v8) ∧ Q (some (.int v8)) M7) := fun c h => w_done d a1 ⟨_, rfl, by rw [h] at hQ; exact hQ⟩
  refine eX11_forgeNumber e _ _ ⟨a1, e + 11, a6, by rw [b6], by rw [b6]; exact vp_in_nI hs (by omega), ?_⟩
  rw [nI_clamp (by omega), h1]
  refine ⟨fun n1 => ⟨fun c1 => ⟨e + 12, a7, by rw [b7], by rw [b7]; exact vp_in_nI hs (by omega), ?_⟩, fun c1 => refuse _ (by unfold fgNum; rw [if_neg n1, if_neg c1])⟩, fun c1 => refuse _ (by unfold fgNum; rw [if_pos c1])⟩
  rw [h2]
  refine w_in0 d (by omega) (fun h => ⟨0, rfl, fun _ => ⟨a1, refuse _ ?_⟩, fun c => absurd rfl c⟩) (fun k hk ek => ⟨1, rfl, fun c => absurd c (by decide), fun _ => ⟨a1, e + 4, a5, by rw [b4]; exact ⟨by decide, by decide⟩, by rw [b4]; exact vp_in_nI hs (by omega), e + 5 + s, (b5 s hs).1, by rw [(b5 s hs).2], by rw [(b5 s hs).2, ek]; exact vp_in_nI (show k < 40 by omega) (by omega), ?_⟩⟩)
  · unfold fgNum
    rw [if_neg n1, if_pos c1, if_neg (fun c => ?_)]
    obtain ⟨k, hk, ek⟩ := nI_ofInt (x := n) (n := y_sz S s) c.1 (by omega) (by omega)
    exact h k hk ek
  · rw [ek, nI_clamp (by omega), h3 k (by omega)]
    refine done _ ?_
    unfold fgNum
    rw [ek, nI_toInt (by omega), if_neg n1, if_pos c1, if_pos (by omega)]
    rfl
theorem w_forgeCopy (d : Nat) (hS : CoS M e) (hW : SgW S) (hH : CoH M e S) {s : Nat} {n : Int32} (hs : s < 6) (hn1 : -100 ≤ n.toInt) (hn2 : n.toInt ≤ 100) (hQ : Q (some (.int (fgCopy S s n).1)) (x_si M e 15 (fgCopy S s n).2)) : Call G (d + 2) 0 0 mX11_forgeCopy [.ref e, .int (nI s), .int n] M Q := by
  obtain ⟨a1, a2, a3, a4, a5, a6, a7, a8, a9, a10, a11, a12, b1, b2, b3, b4, b5, b6, b7, b8, -⟩ := hS
  obtain ⟨z1, z2, z3, z4⟩ := hW.2.2.2.1 s hs
  obtain ⟨h1, h2, h3⟩ := hH.1 s hs
  have refuse : ∀ c, fgCopy S s n = (-1, c) → Call G (d + 1) 0 0 mX11_refuse [.ref e, .int c] M (fun r6 M7 => ∃ v8 : Int32, r6 = some (.int v8) ∧ Q (some (.int v8)) M7) := fun c h => w_refuse d a1 ⟨_, rfl, by rw [h] at hQ; exact hQ⟩
  have done : ∀ v, fgCopy S s n = (v, 0) → Call G (d + 1) 0 0 mX11_done [.ref e, .int v] M (fun r6 M7 => ∃ v8 : Int32, r6 = some (.int v8) ∧ Q (some (.int v8)) M7) := fun c h => w_done d a1 ⟨_, rfl, by rw [h] at hQ; exact hQ⟩
  refine eX11_forgeCopy e _ _ ⟨a1, e + 11, a6, by rw [b6], by rw [b6]; exact vp_in_nI hs (by omega), ?_⟩
  rw [nI_clamp (by omega), h1]
  refine ⟨fun n1 => ⟨fun c1 => ⟨fun c2 => refuse _ ?_, fun c2 => ⟨e + 12, a7, by rw [b7], by rw [b7]; exact vp_in_nI hs (by omega), ?_⟩⟩, fun c1 => refuse _ (by unfold fgCopy; rw [if_neg n1, if_neg c1])⟩, fun c1 => refuse _ (by unfold fgCopy; rw [if_pos c1])⟩
  · rw [n_int0] at c2
    unfold fgCopy
    rw [if_neg n1, if_pos c1, if_neg (by omega)]
  rw [n_int0] at c2
  obtain ⟨k, hk, ek⟩ := nI_ofInt (x := n) (n := 101) (by omega) (by omega) (by omega)
  have et : n.toInt = (k : Int) := by rw [ek, nI_toInt (by omega)]
  rw [h2, ek, show (2 : Int32) = nI 2 from rfl, show (5 : Int32) = nI 5 from rfl, nI_add, nI_add, nI_ltI (by omega) (by omega), nI_leI (by omega) (by omega)]
  refine ⟨fun c => refuse _ (by unfold fgCopy; rw [if_neg n1, if_pos c1, if_neg (by omega)]), fun c => ⟨fun c5 => ?_, fun c5 => refuse _ (by unfold fgCopy; rw [if_neg n1, if_pos c1, if_neg (by omega)])⟩⟩
  have hd : fgCopy S s n = (nI (cpS (y_cf S s) k), 0) := by
    unfold fgCopy
    rw [if_neg n1, if_pos c1, if_pos (by omega), et]
    rfl
  have loop : ∀ r c, r + c = k → LX11_forgeCopy_68 G (d + 1) 0 0 e (nI s) (nI k) (nI (cpS (y_cf S s) c)) (nI (2 + c)) M Q := by
    intro r
    induction r with
    | zero =>
      intro c hc
      have ec : c = k := by omega
      subst ec
      refine vX11_forgeCopy_68 _ _ _ _ _ ⟨fun _ => ⟨a1, done _ hd⟩, fun h => absurd ?_ h⟩
      rw [show (2 : Int32) = nI 2 from rfl, nI_add, nI_leI (by omega) (by omega)]
      omega
    | succ r ih =>
      intro c hc
      refine vX11_forgeCopy_68 _ _ _ _ _ ⟨fun h => ?_, fun _ => ⟨a1, e + 4, a5, by rw [b4]; exact ⟨by decide, by decide⟩, by rw [b4]; exact vp_in_nI hs (by omega), e + 5 + s, by rw [nI_clamp (by omega)]; exact (b5 s hs).1, by rw [(b5 s hs).2], by rw [(b5 s hs).2]; exact vp_in_nI (show 2 + c < 40 by omega) (by omega), ?_⟩⟩
      · rw [show (2 : Int32) = nI 2 from rfl, nI_add, nI_leI (by omega) (by omega)] at h
        omega
      · rw [nI_clamp (by omega), h3 (2 + c) (by omega), nI_add, nI_1]
        exact ih (c + 1) (by omega)
  exact loop k 0 (by omega)
end OpForge
