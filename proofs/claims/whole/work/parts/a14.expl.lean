/-! ===== states met one after the other by their keys ===== -/
section Expl
def ins (K : List Nat) (k : Nat) : List Nat := if k ∈ K then K else K ++ [k]
/-- the keys met after c links, from k0 on -/
def ex (δ : Nat → Nat → Nat) (f k0 : Nat) : Nat → List Nat
  | 0 => [k0]
  | c + 1 => ins (ex δ f k0 c) (δ ((ex δ f k0 c).getD (c / f) 0) (c % f))
/-- where the p-th link leads: the number of the key met -/
def exl (δ : Nat → Nat → Nat) (f k0 p : Nat) : Nat := (ex δ f k0 (p + 1)).idxOf (δ ((ex δ f k0 p).getD (p / f) 0) (p % f))
/-- each link so far was made from a state that was met -/
def exV (δ : Nat → Nat → Nat) (f k0 c : Nat) : Prop := ∀ p, p < c → p / f < (ex δ f k0 p).length
/-- the key behind a word -/
def dl (δ : Nat → Nat → Nat) : Nat → List Nat → Nat
  | q, [] => q
  | q, d :: w => dl δ (δ q d) w
theorem dl_app (δ : Nat → Nat → Nat) : ∀ (u v : List Nat) (q : Nat), dl δ q (u ++ v) = dl δ (dl δ q u) v
  | [], v, q => rfl
  | d :: u, v, q => dl_app δ u v (δ q d)
theorem mem_ins {K : List Nat} {k : Nat} : k ∈ ins K k := by
  unfold ins
  split
  · assumption
  · simp
theorem ins_of {K : List Nat} {k x : Nat} : x ∈ ins K k ↔ x ∈ K ∨ x = k := by
  unfold ins
  split
  · rename_i h
    exact ⟨Or.inl, fun e => e.elim id (fun e => e ▸ h)⟩
  · simp
theorem ins_nd {K : List Nat} {k : Nat} (h : K.Nodup) : (ins K k).Nodup := by
  unfold ins
  split
  · exact h
  · rename_i hk
    exact List.nodup_append.mpr ⟨h, by simp, fun a ha b hb e => hk (by rw [List.mem_singleton] at hb; rw [← hb, ← e]; exact ha)⟩
theorem ins_len {K : List Nat} {k : Nat} : K.length ≤ (ins K k).length ∧ (ins K k).length ≤ K.length + 1 := by
  unfold ins
  split <;> simp
theorem ins_getD {K : List Nat} {k i : Nat} (h : i < K.length) : (ins K k).getD i 0 = K.getD i 0 := by
  unfold ins
  split
  · rfl
  · rw [List.getD_eq_getElem?_getD, List.getD_eq_getElem?_getD, List.getElem?_append_left h]
theorem ins_idx {K : List Nat} {k x : Nat} (h : x ∈ K) : (ins K k).idxOf x = K.idxOf x := by
  unfold ins
  split
  · rfl
  · rw [List.idxOf_append, if_pos h]
theorem idx_lt {K : List Nat} {x : Nat} (h : x ∈ K) : K.idxOf x < K.length := List.idxOf_lt_length_of_mem h
theorem getD_idx {K : List Nat} {x : Nat} (h : x ∈ K) : K.getD (K.idxOf x) 0 = x := by
  rw [List.getD_eq_getElem?_getD, List.getElem?_eq_getElem (idx_lt h)]
  exact List.getElem_idxOf (idx_lt h)
theorem getD_mem {K : List Nat} {i : Nat} (h : i < K.length) : K.getD i 0 ∈ K := by
  rw [List.getD_eq_getElem?_getD, List.getElem?_eq_getElem h]
  exact List.getElem_mem h
theorem idx_getD {K : List Nat} {i : Nat} (hn : K.Nodup) (h : i < K.length) : K.idxOf (K.getD i 0) = i := by
  rw [List.getD_eq_getElem?_getD, List.getElem?_eq_getElem h]
  exact hn.idxOf_getElem i h
theorem getD_inj {K : List Nat} {i j : Nat} (hn : K.Nodup) (hi : i < K.length) (hj : j < K.length) (e : K.getD i 0 = K.getD j 0) : i = j := by
  rw [← idx_getD hn hi, e, idx_getD hn hj]
/-- numbers below n without repetition are at most n -/
theorem nd_len : ∀ (n : Nat) (K : List Nat), K.Nodup → (∀ k ∈ K, k < n) → K.length ≤ n
  | 0, [], _, _ => Nat.le_refl 0
  | 0, k :: _, _, h => absurd (h k List.mem_cons_self) (Nat.not_lt_zero k)
  | n + 1, K, hn, h => by
    have h2 := nd_len n (K.erase n) (hn.erase n) (fun k hk => by
      have h3 := (List.Nodup.mem_erase_iff hn).mp hk
      have := h k h3.2
      have := h3.1
      omega)
    have := List.length_erase (a := n) (l := K)
    split at this <;> omega
variable {δ : Nat → Nat → Nat} {f k0 : Nat}
theorem ex_nd : ∀ c, (ex δ f k0 c).Nodup
  | 0 => by simp [ex]
  | c + 1 => ins_nd (ex_nd c)
theorem ex_pos : ∀ c, 0 < (ex δ f k0 c).length
  | 0 => Nat.one_pos
  | c + 1 => Nat.lt_of_lt_of_le (ex_pos c) ins_len.1
theorem ex_le : ∀ (c e : Nat), (ex δ f k0 c).length ≤ (ex δ f k0 (c + e)).length
  | c, 0 => Nat.le_refl _
  | c, e + 1 => Nat.le_trans (ex_le c e) ins_len.1
theorem ex_getD {i : Nat} : ∀ (c e : Nat), i < (ex δ f k0 c).length → (ex δ f k0 (c + e)).getD i 0 = (ex δ f k0 c).getD i 0
  | c, 0, _ => rfl
  | c, e + 1, h => by
    rw [← ex_getD c e h]
    exact ins_getD (Nat.lt_of_lt_of_le h (ex_le c e))
theorem ex_idx {x : Nat} : ∀ (c e : Nat), x ∈ ex δ f k0 c → (ex δ f k0 (c + e)).idxOf x = (ex δ f k0 c).idxOf x ∧ x ∈ ex δ f k0 (c + e)
  | c, 0, h => ⟨rfl, h⟩
  | c, e + 1, h => by
    obtain ⟨h1, h2⟩ := ex_idx c e h
    exact ⟨(ins_idx h2).trans h1, ins_of.mpr (Or.inl h2)⟩
theorem ex_0 : ∀ c, (ex δ f k0 c).getD 0 0 = k0
  | 0 => rfl
  | c + 1 => (ins_getD (ex_pos c)).trans (ex_0 c)
/-- every key met can be reached -/
theorem ex_reach (hf : 0 < f) : ∀ c, exV δ f k0 c → ∀ x ∈ ex δ f k0 c, ∃ w, wd f w ∧ dl δ k0 w = x
  | 0, _, x, hx => ⟨[], wd_nil, (List.mem_singleton.mp hx).symm⟩
  | c + 1, hV, x, hx => by
    have ih := ex_reach hf c (fun p hp => hV p (by omega))
    rcases ins_of.mp hx with h | h
    · exact ih x h
    · obtain ⟨w, hw, e⟩ := ih _ (getD_mem (hV c (by omega)))
      refine ⟨w ++ [c % f], fun d hd => ?_, ?_⟩
      · rcases List.mem_append.mp hd with h | h
        · exact hw d h
        · rw [List.mem_singleton.mp h]; exact Nat.mod_lt _ hf
      · rw [dl_app, e, h]
        rfl
/-- all is met: the links are as the keys' -/
theorem ex_closed (hf : 0 < f) {c : Nat} (hc : c = (ex δ f k0 c).length * f) {i d : Nat} (hi : i < (ex δ f k0 c).length) (hd : d < f) (hV : exV δ f k0 c) :
    exl δ f k0 (i * f + d) < (ex δ f k0 c).length ∧ (ex δ f k0 c).getD (exl δ f k0 (i * f + d)) 0 = δ ((ex δ f k0 c).getD i 0) d := by
  have hp : i * f + d < c := by
    have : (i + 1) * f ≤ (ex δ f k0 c).length * f := Nat.mul_le_mul_right f hi
    rw [Nat.succ_mul] at this
    omega
  have e1 : (i * f + d) / f = i := by rw [Nat.mul_comm, Nat.mul_add_div hf, Nat.div_eq_of_lt hd]; rfl
  have e2 : (i * f + d) % f = d := by rw [Nat.mul_comm, Nat.mul_add_mod]; exact Nat.mod_eq_of_lt hd
  have hv := hV _ hp
  rw [e1] at hv
  have hm : δ ((ex δ f k0 (i * f + d)).getD i 0) d ∈ ex δ f k0 (i * f + d + 1) := by
    have : ex δ f k0 (i * f + d + 1) = ins (ex δ f k0 (i * f + d)) (δ ((ex δ f k0 (i * f + d)).getD i 0) d) := by
      show ins _ _ = _
      rw [e1, e2]
    rw [this]
    exact mem_ins
  obtain ⟨g1, g2⟩ := ex_idx (i * f + d + 1) (c - (i * f + d + 1)) hm
  have e3 : i * f + d + 1 + (c - (i * f + d + 1)) = c := by omega
  rw [e3] at g1 g2
  have g3 : (ex δ f k0 c).getD i 0 = (ex δ f k0 (i * f + d)).getD i 0 := by
    have := ex_getD (δ := δ) (f := f) (k0 := k0) (i * f + d) (c - (i * f + d)) hv
    rwa [show i * f + d + (c - (i * f + d)) = c by omega] at this
  have g4 : exl δ f k0 (i * f + d) = (ex δ f k0 c).idxOf (δ ((ex δ f k0 c).getD i 0) d) := by
    unfold exl
    rw [e1, e2, g3, g1]
  rw [g4]
  rw [g3]
  exact ⟨idx_lt g2, getD_idx g2⟩
/-- the raw machine tells what the keys tell -/
theorem ex_word (hf : 0 < f) {c : Nat} (hc : c = (ex δ f k0 c).length * f) (hV : exV δ f k0 c) : ∀ (w : List Nat) (i : Nat), wd f w → i < (ex δ f k0 c).length →
    rn (fun i d => exl δ f k0 (i * f + d)) i w < (ex δ f k0 c).length ∧ (ex δ f k0 c).getD (rn (fun i d => exl δ f k0 (i * f + d)) i w) 0 = dl δ ((ex δ f k0 c).getD i 0) w
  | [], i, _, hi => ⟨hi, rfl⟩
  | d :: w, i, hw, hi => by
    obtain ⟨h1, h2⟩ := ex_closed hf hc hi (wd_tail hw).1 hV
    obtain ⟨h3, h4⟩ := ex_word hf hc hV w _ (wd_tail hw).2 h1
    refine ⟨h3, h4.trans ?_⟩
    rw [h2]
    rfl
theorem ex_kM (hf : 0 < f) : ∀ k, exV δ f k0 k → kM f (fun i d => exl δ f k0 (i * f + d)) k + 1 = (ex δ f k0 k).length
  | 0, _ => rfl
  | k + 1, hV => by
    have ih := ex_kM hf k (fun p hp => hV p (by omega))
    have e : kT f (fun i d => exl δ f k0 (i * f + d)) k = exl δ f k0 k := by
      show exl δ f k0 (k / f * f + k % f) = _
      congr 1
      rw [Nat.mul_comm]
      exact Nat.div_add_mod k f
    show max (kM f (fun i d => exl δ f k0 (i * f + d)) k) (kT f (fun i d => exl δ f k0 (i * f + d)) k) + 1 = _
    rw [e]
    have hx : exl δ f k0 k = (ins (ex δ f k0 k) (δ ((ex δ f k0 k).getD (k / f) 0) (k % f))).idxOf (δ ((ex δ f k0 k).getD (k / f) 0) (k % f)) := rfl
    have : ex δ f k0 (k + 1) = ins (ex δ f k0 k) (δ ((ex δ f k0 k).getD (k / f) 0) (k % f)) := rfl
    rw [this, hx]
    generalize kM f (fun i d => exl δ f k0 (i * f + d)) k = kk at ih ⊢
    generalize δ ((ex δ f k0 k).getD (k / f) 0) (k % f) = y
    unfold ins
    split
    · rename_i h
      have := idx_lt h
      omega
    · rename_i h
      rw [List.idxOf_append, if_neg h]
      simp
      omega
/-- keys that are told apart, met one after the other, make a least machine -/
theorem ex_can (hf : 0 < f) {c : Nat} (hc : c = (ex δ f k0 c).length * f) (hV : exV δ f k0 c) (μ : Nat → Nat)
    (hap : ∀ x y, x ∈ ex δ f k0 c → y ∈ ex δ f k0 c → (∀ w, wd f w → μ (dl δ x w) = μ (dl δ y w)) → x = y) :
    Can f (ex δ f k0 c).length (fun i d => exl δ f k0 (i * f + d)) (fun i => μ ((ex δ f k0 c).getD i 0)) (fun w => μ (dl δ k0 w)) := by
  refine ⟨ex_pos c, fun i hi d hd => (ex_closed hf hc hi hd hV).1, fun w hw => ?_, fun i j hi hj h => ?_, fun k hk => ?_⟩
  · show μ _ = μ _
    rw [(ex_word hf hc hV w 0 hw (ex_pos c)).2, ex_0]
  · refine getD_inj (ex_nd c) hi hj (hap _ _ (getD_mem hi) (getD_mem hj) (fun w hw => ?_))
    have := h w hw
    rw [← (ex_word hf hc hV w i hw hi).2, ← (ex_word hf hc hV w j hw hj).2]
    exact this
  · rw [← hc] at hk
    have hV1 : exV δ f k0 k := fun p hp => hV p (by omega)
    have h1 := ex_kM hf k hV1
    have h2 := ex_kM hf (k + 1) (fun p hp => hV p (by omega))
    have h3 := hV k hk
    have h4 : (ex δ f k0 (k + 1)).length ≤ (ex δ f k0 k).length + 1 := ins_len.2
    have h5 : kM f (fun i d => exl δ f k0 (i * f + d)) (k + 1) = max (kM f (fun i d => exl δ f k0 (i * f + d)) k) (kT f (fun i d => exl δ f k0 (i * f + d)) k) := rfl
    omega
end Expl
