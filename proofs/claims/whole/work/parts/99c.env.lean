/-! ===== what the start gives of the texts ===== -/
def tIx (i : Nat) : Nat := [67, 73, 75, 77, 79, 81].getD i 0
def tTx (i : Nat) : String := ["all", "is", "not", "and", "or", "so"].getD i ""
def tBy : List (List Int32) := [[97, 108, 108], [105, 115], [110, 111, 116], [97, 110, 100], [111, 114], [115, 111]]
def tLen : List Nat := [3, 2, 3, 3, 2, 2]
def SOK (G : GG) : Prop := StrEnv G ∧ ∀ i : Nat, i < 6 → ∃ q, vk_R "EndlessRows$Tokens" (tIx i) (tTx i) q (g_s G) ∧ StrIs G q (tLen.getD i 0) (fun j => (tBy.getD i []).getD j 0)
theorem lt6 {P : Nat → Prop} (h0 : P 0) (h1 : P 1) (h2 : P 2) (h3 : P 3) (h4 : P 4) (h5 : P 5) : ∀ i, i < 6 → P i := by
  intro i hi
  match i, hi with
  | 0, _ => exact h0
  | 1, _ => exact h1
  | 2, _ => exact h2
  | 3, _ => exact h3
  | 4, _ => exact h4
  | 5, _ => exact h5
theorem lt3 {P : Nat → Prop} (h0 : P 0) (h1 : P 1) (h2 : P 2) : ∀ j, j < 3 → P j := by
  intro j hj
  match j, hj with
  | 0, _ => exact h0
  | 1, _ => exact h1
  | 2, _ => exact h2
theorem lt2 {P : Nat → Prop} (h0 : P 0) (h1 : P 1) : ∀ j, j < 2 → P j := by
  intro j hj
  match j, hj with
  | 0, _ => exact h0
  | 1, _ => exact h1
def neT (args : Array Value) (s : State) (i j : Nat) : Prop := (Cond.not (Cond.eq (Term.string "EndlessRows$Tokens" (tIx i)) (Term.string "EndlessRows$Tokens" (tIx j)))).before args s = true ∨ (Cond.not (Cond.eq (Term.string "EndlessRows$Tokens" (tIx j)) (Term.string "EndlessRows$Tokens" (tIx i)))).before args s = true
theorem sok_of (l : Launch) {s : State} {args : Array Value} (D : va_G) (K : Nat → ClassId) (hts : ∀ w ∈ lw_tbl, w.before args s = true) (h : (Jvm.Cond.and given_1 narrow_1).before args s = true) : SOK (l, s, args, D, K) := by
  have hs := flat_of_before _ h
  have hA : ∀ a : Nat, a < s.heap.size → ¬ x_A (l, s, args, D, K) a := fun a ha hA => by
    have : s.heap.size ≤ a := hA
    omega
  have hne : ∀ i j : Nat, i < 6 → j < 6 → i ≠ j → neT args s i j := by
    intro i j hi hj
    refine lt6 (P := fun i => ∀ j, j < 6 → i ≠ j → neT args s i j) ?_ ?_ ?_ ?_ ?_ ?_ i hi j hj
    all_goals refine lt6 (P := fun j => _ ≠ j → neT args s _ j) ?_ ?_ ?_ ?_ ?_ ?_
    all_goals intro hij
    all_goals first | exact absurd rfl hij | exact Or.inl (hs _ (by decide +kernel)) | exact Or.inr (hs _ (by decide +kernel))
  obtain ⟨adK, adV, hS, hev⟩ := vk_Sof (N := 6) (tm := fun i => Term.string "EndlessRows$Tokens" (tIx i)) (len := tLen) (byt := tBy) (A := x_A (l, s, args, D, K)) (args := args) (s := s) (by decide +kernel)
    (lt6 (hs _ (by decide +kernel)) (hs _ (by decide +kernel)) (hs _ (by decide +kernel)) (hs _ (by decide +kernel)) (hs _ (by decide +kernel)) (hs _ (by decide +kernel)))
    (lt6 (hs _ (by decide +kernel)) (hs _ (by decide +kernel)) (hs _ (by decide +kernel)) (hs _ (by decide +kernel)) (hs _ (by decide +kernel)) (hs _ (by decide +kernel)))
    (lt6 (hs _ (by decide +kernel)) (hs _ (by decide +kernel)) (hs _ (by decide +kernel)) (hs _ (by decide +kernel)) (hs _ (by decide +kernel)) (hs _ (by decide +kernel)))
    (lt6 (hs _ (by decide +kernel)) (hs _ (by decide +kernel)) (hs _ (by decide +kernel)) (hs _ (by decide +kernel)) (hs _ (by decide +kernel)) (hs _ (by decide +kernel)))
    (lt6 (lt3 (hs _ (by decide +kernel)) (hs _ (by decide +kernel)) (hs _ (by decide +kernel))) (lt2 (hs _ (by decide +kernel)) (hs _ (by decide +kernel))) (lt3 (hs _ (by decide +kernel)) (hs _ (by decide +kernel)) (hs _ (by decide +kernel))) (lt3 (hs _ (by decide +kernel)) (hs _ (by decide +kernel)) (hs _ (by decide +kernel))) (lt2 (hs _ (by decide +kernel)) (hs _ (by decide +kernel))) (lt2 (hs _ (by decide +kernel)) (hs _ (by decide +kernel))))
    hne hA
  have hl1 : (Cond.laysStatic "java/lang/String" "COMPACT_STRINGS" "Z").before args s = true := hts _ (List.mem_append_right _ (List.mem_of_getElem? (i := 740) (by decide +kernel)))
  have hl2 : (Cond.laysStatic "jdk/internal/util/Preconditions" "SIOOBE_FORMATTER" "Ljava/util/function/BiFunction;").before args s = true := hts _ (List.mem_append_right _ (List.mem_of_getElem? (i := 756) (by decide +kernel)))
  refine ⟨⟨va_Zof hl1 (hts _ ww_18) (va_eqt (hs _ (by decide +kernel))) hA, (va_Zqof hl2 (hts _ ww_20) (hs _ (by decide +kernel)) hA).elim (fun h => ⟨none, h⟩) (fun ⟨t, h⟩ => ⟨some t, h⟩)⟩, ?_⟩
  intro i hi
  obtain ⟨h1, h2, h3, h4⟩ := hS.1 i hi
  refine ⟨adK i, vk_R.of (A := args) (lt6 (P := fun i => (Cond.stringRef "EndlessRows$Tokens" (tIx i) (tTx i)).before args s = true) (hts _ ww_726) (hts _ ww_779) (hts _ ww_780) (hts _ ww_781) (hts _ ww_782) (hts _ ww_783) i hi) (hev i hi), h1, h2, adV i, h3, h4⟩
