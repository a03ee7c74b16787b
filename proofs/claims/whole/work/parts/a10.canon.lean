/-! ===== least machines: states numbered as they are met; there is but one ===== -/
section Canon
/-- where a word leads -/
def rn (st : Nat → Nat → Nat) : Nat → List Nat → Nat
  | q, [] => q
  | q, d :: w => rn st (st q d) w
theorem rn_app (st : Nat → Nat → Nat) : ∀ (u v : List Nat) (q : Nat), rn st q (u ++ v) = rn st (rn st q u) v
  | [], v, q => rfl
  | d :: u, v, q => rn_app st u v (st q d)
/-- a word of digits below f -/
def wd (f : Nat) (w : List Nat) : Prop := ∀ d ∈ w, d < f
theorem wd_nil {f : Nat} : wd f [] := fun _ h => by cases h
theorem wd_cons {f d : Nat} {w : List Nat} (h : d < f) (hw : wd f w) : wd f (d :: w) := fun x hx => by
  rcases List.mem_cons.mp hx with rfl | hx
  · exact h
  · exact hw x hx
theorem wd_tail {f d : Nat} {w : List Nat} (h : wd f (d :: w)) : d < f ∧ wd f w := ⟨h d List.mem_cons_self, fun x hx => h x (List.mem_cons_of_mem _ hx)⟩
theorem rn_lt {st : Nat → Nat → Nat} {n f : Nat} (hc : ∀ i, i < n → ∀ d, d < f → st i d < n) : ∀ (w : List Nat) (q : Nat), wd f w → q < n → rn st q w < n
  | [], _, _, hq => hq
  | d :: w, q, hw, hq => rn_lt hc w (st q d) (wd_tail hw).2 (hc q hq d (wd_tail hw).1)
/-- the k-th step, by states, of each by digits -/
def kT (f : Nat) (st : Nat → Nat → Nat) (k : Nat) : Nat := st (k / f) (k % f)
/-- the highest state that the first k steps meet -/
def kM (f : Nat) (st : Nat → Nat → Nat) : Nat → Nat
  | 0 => 0
  | k + 1 => max (kM f st k) (kT f st k)
/-- n states, closed, numbered as they are met, told apart by words, and telling b of each word -/
def Can (f n : Nat) (st : Nat → Nat → Nat) (mk : Nat → Nat) (b : List Nat → Nat) : Prop :=
  0 < n ∧ (∀ i, i < n → ∀ d, d < f → st i d < n) ∧ (∀ w, wd f w → mk (rn st 0 w) = b w) ∧ (∀ i j, i < n → j < n → (∀ w, wd f w → mk (rn st i w) = mk (rn st j w)) → i = j) ∧ ∀ k, k < n * f → kT f st k ≤ kM f st k + 1 ∧ k / f ≤ kM f st k
theorem kM_lt {f n : Nat} {st : Nat → Nat → Nat} (hn : 0 < n) (hf : 0 < f) (hc : ∀ i, i < n → ∀ d, d < f → st i d < n) : ∀ k, k ≤ n * f → kM f st k < n
  | 0, _ => hn
  | k + 1, hk => by
    have h1 := kM_lt hn hf hc k (by omega)
    have h2 : kT f st k < n := hc _ (Nat.div_lt_of_lt_mul (by rw [Nat.mul_comm]; omega)) _ (Nat.mod_lt _ hf)
    unfold kM
    omega
theorem can_same {f n n' : Nat} {st st' : Nat → Nat → Nat} {mk mk' : Nat → Nat} {b : List Nat → Nat} (hf : 0 < f) (h : Can f n st mk b) (h' : Can f n' st' mk' b) :
    ∀ k, k ≤ n * f → k ≤ n' * f → kM f st k = kM f st' k ∧ (∀ s, s ≤ kM f st k → ∀ w, wd f w → mk (rn st s w) = mk' (rn st' s w)) ∧ ∀ j, j < k → kT f st j = kT f st' j
  | 0, _, _ => by
    refine ⟨rfl, fun s hs w hw => ?_, fun j hj => absurd hj (Nat.not_lt_zero j)⟩
    have : s = 0 := Nat.le_zero.mp hs
    subst this
    rw [h.2.2.1 w hw, h'.2.2.1 w hw]
  | k + 1, hk, hk' => by
    obtain ⟨i1, i2, i3⟩ := can_same hf h h' k (by omega) (by omega)
    obtain ⟨a1, a2⟩ := h.2.2.2.2 k (by omega)
    obtain ⟨b1, b2⟩ := h'.2.2.2.2 k (by omega)
    have hd : k % f < f := Nat.mod_lt _ hf
    have hi : k / f < n := Nat.div_lt_of_lt_mul (by rw [Nat.mul_comm]; omega)
    have hi' : k / f < n' := Nat.div_lt_of_lt_mul (by rw [Nat.mul_comm]; omega)
    have hM : kM f st k < n := kM_lt h.1 hf h.2.1 k (by omega)
    have hM' : kM f st' k < n' := kM_lt h'.1 hf h'.2.1 k (by omega)
    have ht : kT f st k < n := h.2.1 _ hi _ hd
    have ht' : kT f st' k < n' := h'.2.1 _ hi' _ hd
    have hres : ∀ w, wd f w → mk (rn st (kT f st k) w) = mk' (rn st' (kT f st' k) w) := fun w hw => i2 (k / f) a2 (k % f :: w) (wd_cons hd hw)
    have key : kT f st k = kT f st' k := by
      by_cases c : kT f st k ≤ kM f st k
      · refine (h'.2.2.2.1 _ _ (by omega) ht' (fun w hw => ?_))
        rw [← i2 _ c w hw]
        exact hres w hw
      · by_cases c' : kT f st' k ≤ kM f st k
        · refine (h.2.2.2.1 _ _ ht (by omega) (fun w hw => ?_))
          rw [i2 _ c' w hw]
          exact hres w hw
        · omega
    refine ⟨by show max _ _ = max _ _; rw [i1, key], fun s hs w hw => ?_, fun j hj => ?_⟩
    · have hs' : s ≤ max (kM f st k) (kT f st k) := hs
      by_cases c : s ≤ kM f st k
      · exact i2 s c w hw
      · have : s = kT f st k := by omega
        rw [this]
        rw [hres w hw, ← key]
    · by_cases c : j = k
      · rw [c]; exact key
      · exact i3 j (by omega)
theorem can_n {f n n' : Nat} {st st' : Nat → Nat → Nat} {mk mk' : Nat → Nat} {b : List Nat → Nat} (hf : 0 < f) (h : Can f n st mk b) (h' : Can f n' st' mk' b) : n ≤ n' := by
  rcases Nat.lt_or_ge n' n with hlt | hge
  · exfalso
    have hle : n' * f ≤ n * f := Nat.mul_le_mul_right f (Nat.le_of_lt hlt)
    obtain ⟨e1, -, -⟩ := can_same hf h h' (n' * f) hle (Nat.le_refl _)
    have hM' : kM f st' (n' * f) < n' := kM_lt h'.1 hf h'.2.1 _ (Nat.le_refl _)
    have hlt2 : n' * f < n * f := Nat.mul_lt_mul_of_pos_right hlt hf
    have := (h.2.2.2.2 (n' * f) hlt2).2
    rw [Nat.mul_div_cancel _ hf] at this
    omega
  · exact hge
/-- there is but one least machine of what it tells -/
theorem can_unique {f n n' : Nat} {st st' : Nat → Nat → Nat} {mk mk' : Nat → Nat} {b : List Nat → Nat} (hf : 0 < f) (h : Can f n st mk b) (h' : Can f n' st' mk' b) : n = n' ∧ ∀ i, i < n → mk i = mk' i ∧ ∀ d, d < f → st i d = st' i d := by
  have e : n = n' := Nat.le_antisymm (can_n hf h h') (can_n hf h' h)
  subst e
  obtain ⟨-, e2, e3⟩ := can_same hf h h' (n * f) (Nat.le_refl _) (Nat.le_refl _)
  refine ⟨rfl, fun i hi => ⟨?_, fun d hd => ?_⟩⟩
  · have hlast : i ≤ kM f st (n * f) := by
      have hk : (n - 1) * f < n * f := Nat.mul_lt_mul_of_pos_right (by omega) hf
      have h1 := (h.2.2.2.2 _ hk).2
      rw [Nat.mul_div_cancel _ hf] at h1
      have mono : ∀ a c, kM f st a ≤ kM f st (a + c) := by
        intro a c
        induction c with
        | zero => exact Nat.le_refl _
        | succ c ih => exact Nat.le_trans ih (Nat.le_max_left _ _)
      have h2 := mono ((n - 1) * f) (n * f - (n - 1) * f)
      rw [show (n - 1) * f + (n * f - (n - 1) * f) = n * f by omega] at h2
      omega
    exact e2 i hlast [] wd_nil
  · have hk : i * f + d < n * f := by
      have : (i + 1) * f ≤ n * f := Nat.mul_le_mul_right f hi
      rw [Nat.succ_mul] at this
      omega
    have := e3 _ hk
    unfold kT at this
    rw [show (i * f + d) / f = i by rw [Nat.mul_comm, Nat.mul_add_div hf, Nat.div_eq_of_lt hd]; rfl, show (i * f + d) % f = d by rw [Nat.mul_comm, Nat.mul_add_mod]; exact Nat.mod_eq_of_lt hd] at this
    exact this
end Canon
