/-! ===== states that are told apart by classes ===== -/
section Moore
theorem map_nd {g : Nat → Nat} {n : Nat} (h : ∀ a b, a < n → b < n → g a = g b → a = b) : ((List.range n).map g).Nodup := by
  induction n with
  | zero => simp
  | succ n ih =>
    rw [List.range_succ, List.map_append]
    refine List.nodup_append.mpr ⟨ih (fun a b ha hb => h a b (by omega) (by omega)), by simp, fun a ha b hb e => ?_⟩
    obtain ⟨x, hx, rfl⟩ := List.mem_map.mp ha
    simp at hb
    have := List.mem_range.mp hx
    have := h x n (by omega) (by omega) (e.trans hb)
    omega
theorem inj_le {g : Nat → Nat} {n m : Nat} (h : ∀ a b, a < n → b < n → g a = g b → a = b) (hm : ∀ a, a < n → g a < m) : n ≤ m := by
  have := nd_len m ((List.range n).map g) (map_nd h) (fun k hk => by
    obtain ⟨x, hx, rfl⟩ := List.mem_map.mp hk
    exact hm x (List.mem_range.mp hx))
  simpa using this
theorem onto_le {g : Nat → Nat} {n m : Nat} (h : ∀ c, c < n → ∃ a, a < m ∧ g a = c) : n ≤ m := by
  have h' : ∀ c, ∃ a, c < n → a < m ∧ g a = c := fun c => by
    by_cases hc : c < n
    · obtain ⟨a, ha⟩ := h c hc
      exact ⟨a, fun _ => ha⟩
    · exact ⟨0, fun q => absurd q hc⟩
  refine inj_le (g := fun c => Classical.choose (h' c)) (fun a b ha hb e => ?_) (fun a ha => (Classical.choose_spec (h' a) ha).1)
  have h1 := (Classical.choose_spec (h' a) ha).2
  have h2 := (Classical.choose_spec (h' b) hb).2
  have e' : Classical.choose (h' a) = Classical.choose (h' b) := e
  rw [e', h2] at h1
  exact h1.symm
theorem onto_inj {g : Nat → Nat} {n : Nat} (h : ∀ c, c < n → ∃ a, a < n ∧ g a = c) {x y : Nat} (hx : x < n) (hy : y < n) (e : g x = g y) : x = y := by
  by_cases hxy : x = y
  · exact hxy
  · exfalso
    have h' : ∀ c, c < n → ∃ a, a < n - 1 ∧ (fun t => g (if t < y then t else t + 1)) a = c := fun c hc => by
      obtain ⟨a, ha, e1⟩ := h c hc
      have key : ∀ z, z < n → z ≠ y → ∃ a, a < n - 1 ∧ g (if a < y then a else a + 1) = g z := fun z hz hzy => by
        by_cases hzl : z < y
        · exact ⟨z, by omega, by rw [if_pos hzl]⟩
        · refine ⟨z - 1, by omega, ?_⟩
          rw [if_neg (by omega)]
          congr 1
          omega
      by_cases hay : a = y
      · obtain ⟨b, hb, e2⟩ := key x hx hxy
        exact ⟨b, hb, by show g _ = c; rw [e2, e, ← hay, e1]⟩
      · obtain ⟨b, hb, e2⟩ := key a ha hay
        exact ⟨b, hb, by show g _ = c; rw [e2, e1]⟩
    have := onto_le h'
    omega
variable {f N : Nat} {lk : Nat → Nat → Nat} {mk : Nat → Nat} {cl cl' : Nat → Nat}
/-- no word tells these states apart -/
def eqv (f : Nat) (lk : Nat → Nat → Nat) (mk : Nat → Nat) (i j : Nat) : Prop := ∀ w, wd f w → mk (rn lk i w) = mk (rn lk j w)
theorem eqv_step {i j d : Nat} (h : eqv f lk mk i j) (hd : d < f) : eqv f lk mk (lk i d) (lk j d) := fun w hw => h (d :: w) (wd_cons hd hw)
/-- classes that keep together what can't be told apart, and tell marks apart -/
def Cls (f N : Nat) (lk : Nat → Nat → Nat) (mk : Nat → Nat) (cl : Nat → Nat) : Prop := (∀ i j, i < N → j < N → eqv f lk mk i j → cl i = cl j) ∧ ∀ i j, i < N → j < N → cl i = cl j → mk i = mk j
/-- the classes are numbered from 0 on -/
def Num (N many : Nat) (cl : Nat → Nat) : Prop := (∀ i, i < N → cl i < many) ∧ ∀ c, c < many → ∃ i, i < N ∧ cl i = c
def Stb (N : Nat) (lk : Nat → Nat → Nat) (cl : Nat → Nat) (d : Nat) : Prop := ∀ i j, i < N → j < N → cl i = cl j → cl (lk i d) = cl (lk j d)
theorem Cls.done (hc : ∀ i, i < N → ∀ d, d < f → lk i d < N) (h : Cls f N lk mk cl) (hs : ∀ d, d < f → Stb N lk cl d) : ∀ (w : List Nat) (i j : Nat), i < N → j < N → cl i = cl j → wd f w → mk (rn lk i w) = mk (rn lk j w)
  | [], i, j, hi, hj, e, _ => h.2 i j hi hj e
  | d :: w, i, j, hi, hj, e, hw => by
    have hd := (wd_tail hw).1
    exact Cls.done hc h hs w _ _ (hc i hi d hd) (hc j hj d hd) (hs d hd i j hi hj e) (wd_tail hw).2
/-- finer classes: those of a set S of digits are looked at -/
theorem Cls.split (h : Cls f N lk mk cl) {S : Nat → Prop} (hS : ∀ d, S d → d < f) (hc : ∀ i, i < N → ∀ d, d < f → lk i d < N) (hs : ∀ i j, i < N → j < N → (cl' i = cl' j ↔ cl i = cl j ∧ ∀ d, S d → cl (lk i d) = cl (lk j d))) : Cls f N lk mk cl' :=
  ⟨fun i j hi hj e => (hs i j hi hj).mpr ⟨h.1 i j hi hj e, fun d hd => h.1 _ _ (hc i hi d (hS d hd)) (hc j hj d (hS d hd)) (eqv_step e (hS d hd))⟩, fun i j hi hj e => h.2 i j hi hj ((hs i j hi hj).mp e).1⟩
/-- finer classes are as many at least; if they are as many, they are the same -/
theorem Num.fine {many more : Nat} (h : Num N many cl) (h' : Num N more cl') (hs : ∀ i j, i < N → j < N → cl' i = cl' j → cl i = cl j) : many ≤ more ∧ (more = many → ∀ i j, i < N → j < N → cl i = cl j → cl' i = cl' j) := by
  have hr : ∀ c, ∃ i, c < more → i < N ∧ cl' i = c := fun c => by
    by_cases hc : c < more
    · obtain ⟨i, hi⟩ := h'.2 c hc
      exact ⟨i, fun _ => hi⟩
    · exact ⟨0, fun q => absurd q hc⟩
  have hg : ∀ c, c < many → ∃ a, a < more ∧ (fun a => cl (Classical.choose (hr a))) a = c := fun c hc => by
    obtain ⟨i, hi, e⟩ := h.2 c hc
    refine ⟨cl' i, h'.1 i hi, ?_⟩
    obtain ⟨g1, g2⟩ := Classical.choose_spec (hr (cl' i)) (h'.1 i hi)
    show cl _ = c
    rw [← e]
    exact hs _ _ g1 hi g2
  refine ⟨onto_le hg, fun e i j hi hj hij => ?_⟩
  subst e
  refine onto_inj hg (h'.1 i hi) (h'.1 j hj) ?_
  obtain ⟨g1, g2⟩ := Classical.choose_spec (hr (cl' i)) (h'.1 i hi)
  obtain ⟨g3, g4⟩ := Classical.choose_spec (hr (cl' j)) (h'.1 j hj)
  show cl _ = cl _
  rw [hs _ _ g1 hi g2, hs _ _ g3 hj g4, hij]
/-- a least machine has no fewer states than classes are told apart -/
theorem can_many {n many : Nat} {st : Nat → Nat → Nat} {mk' : Nat → Nat} (hcan : Can f n st mk' (fun w => mk (rn lk 0 w))) (hcl : Cls f N lk mk cl) (hn : Num N many cl) (hr : ∀ i, i < N → ∃ w, wd f w ∧ rn lk 0 w = i) : many ≤ n := by
  have hx : ∀ c, ∃ w, c < many → wd f w ∧ rn lk 0 w < N ∧ cl (rn lk 0 w) = c := fun c => by
    by_cases hc : c < many
    · obtain ⟨i, hi, e⟩ := hn.2 c hc
      obtain ⟨w, hw, e2⟩ := hr i hi
      exact ⟨w, fun _ => ⟨hw, by rw [e2]; exact hi, by rw [e2]; exact e⟩⟩
    · exact ⟨[], fun q => absurd q hc⟩
  refine inj_le (g := fun c => rn st 0 (Classical.choose (hx c))) (fun a b ha hb e => ?_) (fun a ha => rn_lt hcan.2.1 _ _ (Classical.choose_spec (hx a) ha).1 hcan.1)
  obtain ⟨a1, a2, a3⟩ := Classical.choose_spec (hx a) ha
  obtain ⟨b1, b2, b3⟩ := Classical.choose_spec (hx b) hb
  rw [← a3, ← b3]
  refine hcl.1 _ _ a2 b2 (fun w hw => ?_)
  have e' : rn st 0 (Classical.choose (hx a)) = rn st 0 (Classical.choose (hx b)) := e
  have h1 := hcan.2.2.1 (Classical.choose (hx a) ++ w) (fun d hd => (List.mem_append.mp hd).elim (a1 d) (hw d))
  have h2 := hcan.2.2.1 (Classical.choose (hx b) ++ w) (fun d hd => (List.mem_append.mp hd).elim (b1 d) (hw d))
  rw [rn_app] at h1 h2
  rw [e'] at h1
  have h3 : mk (rn lk 0 (Classical.choose (hx a) ++ w)) = mk (rn lk 0 (Classical.choose (hx b) ++ w)) := h1.symm.trans h2
  rw [rn_app, rn_app] at h3
  exact h3
/-- one state of a class -/
noncomputable def rpo (N : Nat) (cl : Nat → Nat) (c : Nat) : Nat := Classical.choose (show ∃ i, (∃ j, j < N ∧ cl j = c) → i < N ∧ cl i = c from by
  by_cases h : ∃ j, j < N ∧ cl j = c
  · obtain ⟨j, hj⟩ := h; exact ⟨j, fun _ => hj⟩
  · exact ⟨0, fun q => absurd q h⟩)
theorem rpo_spec {i : Nat} (hi : i < N) : rpo N cl (cl i) < N ∧ cl (rpo N cl (cl i)) = cl i := Classical.choose_spec (show ∃ i', (∃ j, j < N ∧ cl j = cl i) → i' < N ∧ cl i' = cl i from ⟨i, fun _ => ⟨hi, rfl⟩⟩) ⟨i, hi, rfl⟩
/-- the classes' steps and marks -/
noncomputable def cdl (N : Nat) (lk : Nat → Nat → Nat) (cl : Nat → Nat) : Nat → Nat → Nat := fun c d => cl (lk (rpo N cl c) d)
noncomputable def cmk (N : Nat) (mk : Nat → Nat) (cl : Nat → Nat) : Nat → Nat := fun c => mk (rpo N cl c)
theorem cdl_eq (hs : ∀ d, d < f → Stb N lk cl d) {i d : Nat} (hi : i < N) (hd : d < f) : cdl N lk cl (cl i) d = cl (lk i d) := hs d hd _ _ (rpo_spec hi).1 hi (rpo_spec hi).2
theorem cmk_eq (h : Cls f N lk mk cl) {i : Nat} (hi : i < N) : cmk N mk cl (cl i) = mk i := h.2 _ _ (rpo_spec hi).1 hi (rpo_spec hi).2
theorem cdl_word (hc : ∀ i, i < N → ∀ d, d < f → lk i d < N) (hs : ∀ d, d < f → Stb N lk cl d) : ∀ (w : List Nat) (i : Nat), wd f w → i < N → dl (cdl N lk cl) (cl i) w = cl (rn lk i w)
  | [], i, _, _ => rfl
  | d :: w, i, hw, hi => by
    have hd := (wd_tail hw).1
    show dl _ (cdl N lk cl (cl i) d) w = _
    rw [cdl_eq hs hi hd]
    exact cdl_word hc hs w _ (wd_tail hw).2 (hc i hi d hd)
theorem rn_cl (hc : ∀ i, i < N → ∀ d, d < f → lk i d < N) : ∀ (w : List Nat) (i : Nat), wd f w → i < N → rn lk i w < N := fun w i hw hi => rn_lt hc w i hw hi
/-- the classes, met one after the other, make the least machine -/
theorem cls_can (hf : 0 < f) (hN : 0 < N) (hc : ∀ i, i < N → ∀ d, d < f → lk i d < N) (h : Cls f N lk mk cl) (hs : ∀ d, d < f → Stb N lk cl d) {c : Nat} (hcc : c = (ex (cdl N lk cl) f (cl 0) c).length * f) (hV : exV (cdl N lk cl) f (cl 0) c)
    (hK : ∀ x ∈ ex (cdl N lk cl) f (cl 0) c, ∃ i, i < N ∧ cl i = x) :
    Can f (ex (cdl N lk cl) f (cl 0) c).length (fun i d => exl (cdl N lk cl) f (cl 0) (i * f + d)) (fun i => cmk N mk cl ((ex (cdl N lk cl) f (cl 0) c).getD i 0)) (fun w => mk (rn lk 0 w)) := by
  have h1 := ex_can hf hcc hV (cmk N mk cl) (fun x y hx hy e => by
    obtain ⟨i, hi, rfl⟩ := hK x hx
    obtain ⟨j, hj, rfl⟩ := hK y hy
    refine h.1 i j hi hj (fun w hw => ?_)
    have := e w hw
    rw [cdl_word hc hs w i hw hi, cdl_word hc hs w j hw hj, cmk_eq h (rn_lt hc w i hw hi), cmk_eq h (rn_lt hc w j hw hj)] at this
    exact this)
  refine ⟨h1.1, h1.2.1, fun w hw => ?_, h1.2.2.2.1, h1.2.2.2.2⟩
  rw [h1.2.2.1 w hw]
  show cmk N mk cl (dl (cdl N lk cl) (cl 0) w) = _
  rw [cdl_word hc hs w 0 hw hN, cmk_eq h (rn_lt hc w 0 hw hN)]
end Moore
