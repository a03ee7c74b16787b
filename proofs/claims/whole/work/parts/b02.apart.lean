/-! ===== the reference: states that are told apart ===== -/
section PTabC
/-- a table of Z slots: 0 is free, r + 1 stands for r, found from h r on -/
def PTab (T : Nat → Nat) (Z : Nat) (h : Nat → Nat) (K : List Nat) : Prop :=
  (∀ s, s < Z → T s = 0 ∨ ∃ r, r ∈ K ∧ T s = r + 1) ∧ (∀ s s', s < Z → s' < Z → T s ≠ 0 → T s = T s' → s = s') ∧ ∀ r, r ∈ K → ∃ t, t < Z ∧ T ((h r + t) % Z) = r + 1 ∧ ∀ t', t' < t → T ((h r + t') % Z) ≠ 0
theorem PTab.free {T : Nat → Nat} {Z : Nat} {h : Nat → Nat} {K : List Nat} (hp : PTab T Z h K) (hl : K.length < Z) (a : Nat) : ∃ t, t < Z ∧ T ((a + t) % Z) = 0 ∧ ∀ t', t' < t → T ((a + t') % Z) ≠ 0 := by
  obtain ⟨h1, h2, h3⟩ := hp
  have hZ : 0 < Z := by omega
  have ex1 : ∃ s, s < Z ∧ T s = 0 := by
    refine Classical.byContradiction (fun hno => ?_)
    have hne : ∀ s, s < Z → ∃ r, r ∈ K ∧ T s = r + 1 := fun s hs => (h1 s hs).resolve_left (fun e => hno ⟨s, hs, e⟩)
    have := inj_le (g := fun s => K.idxOf (T s - 1)) (n := Z) (m := K.length) (fun x y hx hy e => by
      obtain ⟨r, r1, r2⟩ := hne x hx
      obtain ⟨r', r3, r4⟩ := hne y hy
      have e' : K.idxOf (T x - 1) = K.idxOf (T y - 1) := e
      rw [r2, r4, Nat.add_sub_cancel, Nat.add_sub_cancel] at e'
      have : r = r' := by rw [← getD_idx r1, e', getD_idx r3]
      exact h2 x y hx hy (by omega) (by omega)) (fun x hx => by
      obtain ⟨r, r1, r2⟩ := hne x hx
      show K.idxOf (T x - 1) < K.length
      rw [r2, Nat.add_sub_cancel]
      exact idx_lt r1)
    omega
  obtain ⟨s, hs, e⟩ := ex1
  have ex2 : ∃ t, t < Z ∧ T ((a + t) % Z) = 0 := by
    have ha : a % Z < Z := Nat.mod_lt _ hZ
    refine ⟨if a % Z ≤ s then s - a % Z else s + Z - a % Z, by split <;> omega, ?_⟩
    have : (a + (if a % Z ≤ s then s - a % Z else s + Z - a % Z)) % Z = s := by
      rw [Nat.add_mod]
      split
      · rw [Nat.mod_eq_of_lt (show s - a % Z < Z by omega), show a % Z + (s - a % Z) = s by omega, Nat.mod_eq_of_lt hs]
      · rw [Nat.mod_eq_of_lt (show s + Z - a % Z < Z by omega), show a % Z + (s + Z - a % Z) = s + Z by omega, Nat.add_mod_right, Nat.mod_eq_of_lt hs]
    rw [this]; exact e
  obtain ⟨t, ⟨ht, et⟩, hmin⟩ := pk_least (fun t => t < Z ∧ T ((a + t) % Z) = 0) ex2
  exact ⟨t, ht, et, fun t' ht' e' => hmin t' ht' ⟨by omega, e'⟩⟩
theorem PTab.add {T : Nat → Nat} {Z : Nat} {h : Nat → Nat} {K : List Nat} (hp : PTab T Z h K) (hZ : 0 < Z) {r t : Nat} (hr : r ∉ K) (ht : t < Z) (e : T ((h r + t) % Z) = 0) (hne : ∀ t', t' < t → T ((h r + t') % Z) ≠ 0) : PTab (fun s => if s = (h r + t) % Z then r + 1 else T s) Z h (K ++ [r]) := by
  obtain ⟨h1, h2, h3⟩ := hp
  refine ⟨fun s hs => ?_, fun s s' hs hs' hn heq => ?_, fun x hx => ?_⟩
  · by_cases c : s = (h r + t) % Z
    · exact Or.inr ⟨r, by simp, if_pos c⟩
    · rcases h1 s hs with q | ⟨x, q1, q2⟩
      · exact Or.inl ((if_neg c).trans q)
      · exact Or.inr ⟨x, by simp [q1], (if_neg c).trans q2⟩
  · have heq : (if s = (h r + t) % Z then r + 1 else T s) = (if s' = (h r + t) % Z then r + 1 else T s') := heq
    have hn : (if s = (h r + t) % Z then r + 1 else T s) ≠ 0 := hn
    by_cases c1 : s = (h r + t) % Z
    · by_cases c2 : s' = (h r + t) % Z
      · rw [c1, c2]
      · rw [if_pos c1, if_neg c2] at heq
        rcases h1 s' hs' with q | ⟨x, q1, q2⟩
        · omega
        · exact absurd q1 (by rw [show x = r by omega]; exact hr)
    · by_cases c2 : s' = (h r + t) % Z
      · rw [if_neg c1, if_pos c2] at heq
        rcases h1 s hs with q | ⟨x, q1, q2⟩
        · omega
        · exact absurd q1 (by rw [show x = r by omega]; exact hr)
      · rw [if_neg c1] at hn
        rw [if_neg c1, if_neg c2] at heq
        exact h2 s s' hs hs' hn heq
  · rcases List.mem_append.mp hx with q | q
    · obtain ⟨t1, q1, q2, q3⟩ := h3 x q
      refine ⟨t1, q1, ?_, fun t' ht' => ?_⟩
      · by_cases c : (h x + t1) % Z = (h r + t) % Z
        · rw [c, e] at q2; omega
        · exact (if_neg c).trans q2
      · by_cases c : (h x + t') % Z = (h r + t) % Z
        · show (if (h x + t') % Z = (h r + t) % Z then r + 1 else T ((h x + t') % Z)) ≠ 0
          rw [if_pos c]; omega
        · show (if (h x + t') % Z = (h r + t) % Z then r + 1 else T ((h x + t') % Z)) ≠ 0
          rw [if_neg c]; exact q3 t' ht'
    · rw [List.mem_singleton.mp q]
      refine ⟨t, ht, if_pos rfl, fun t' ht' => ?_⟩
      show (if (h r + t') % Z = (h r + t) % Z then r + 1 else T ((h r + t') % Z)) ≠ 0
      by_cases c : (h r + t') % Z = (h r + t) % Z
      · rw [if_pos c]; omega
      · rw [if_neg c]; exact hne t' ht'
/-- in one class, and each digit leads to one class -/
def kE (f : Nat) (st : Nat → Nat → Nat) (cl : Nat → Nat) (i j : Nat) : Prop := cl i = cl j ∧ ∀ d, d < f → cl (st i d) = cl (st j d)
theorem kE.symm {f : Nat} {st : Nat → Nat → Nat} {cl : Nat → Nat} {i j : Nat} (h : kE f st cl i j) : kE f st cl j i := ⟨h.1.symm, fun d hd => (h.2 d hd).symm⟩
theorem kE.trans {f : Nat} {st : Nat → Nat → Nat} {cl : Nat → Nat} {i j k : Nat} (h : kE f st cl i j) (h2 : kE f st cl j k) : kE f st cl i k := ⟨h.1.trans h2.1, fun d hd => (h.2 d hd).trans (h2.2 d hd)⟩
/-- the first state alike -/
noncomputable def rep (f : Nat) (st : Nat → Nat → Nat) (cl : Nat → Nat) (i : Nat) : Nat := Classical.choose (pk_least (fun j => kE f st cl j i) ⟨i, rfl, fun _ _ => rfl⟩)
variable {f : Nat} {st : Nat → Nat → Nat} {cl : Nat → Nat}
theorem rep_E {i : Nat} : kE f st cl (rep f st cl i) i := (Classical.choose_spec (pk_least (fun j => kE f st cl j i) ⟨i, rfl, fun _ _ => rfl⟩)).1
theorem rep_min {i j : Nat} (h : j < rep f st cl i) : ¬ kE f st cl j i := (Classical.choose_spec (pk_least (fun j => kE f st cl j i) ⟨i, rfl, fun _ _ => rfl⟩)).2 j h
theorem rep_le {i : Nat} : rep f st cl i ≤ i := by
  rcases Nat.lt_or_ge i (rep f st cl i) with h | h
  · exact absurd (⟨rfl, fun _ _ => rfl⟩ : kE f st cl i i) (rep_min h)
  · exact h
theorem rep_eq {i j : Nat} : kE f st cl i j ↔ rep f st cl i = rep f st cl j := by
  constructor
  · intro h
    rcases Nat.lt_trichotomy (rep f st cl i) (rep f st cl j) with c | c | c
    · exact absurd ((rep_E (i := i)).trans h) (rep_min c)
    · exact c
    · exact absurd ((rep_E (i := j)).trans h.symm) (rep_min c)
  · intro h
    have h1 := (rep_E (f := f) (st := st) (cl := cl) (i := i)).symm
    rw [h] at h1
    exact h1.trans rep_E
theorem rep_rep {i : Nat} : rep f st cl (rep f st cl i) = rep f st cl i := rep_eq.mp rep_E
/-- the number from which a state is looked up -/
def hfI (st : Nat → Nat → Nat) (cl : Nat → Nat) (a : Nat) : Nat → Int32
  | 0 => nI (cl a)
  | k + 1 => hfI st cl a k * 31 + nI (cl (st a k))
def hvN (f : Nat) (st : Nat → Nat → Nat) (cl : Nat → Nat) (a : Nat) : Nat := ((((hfI st cl a f * (-1640531527)).toUInt32 >>> ((17 : Int32).toUInt32 &&& Int32.toUInt32 31)).toInt32)).toBitVec.toNat % 2 ^ 15
theorem hvN_lt {a : Nat} : hvN f st cl a < 32768 := Nat.mod_lt _ (by decide)
theorem hfI_E {i j : Nat} (h : kE f st cl i j) : ∀ k, k ≤ f → hfI st cl i k = hfI st cl j k
  | 0, _ => by show nI (cl i) = nI (cl j); rw [h.1]
  | k + 1, hk => by
    show hfI st cl i k * 31 + nI (cl (st i k)) = hfI st cl j k * 31 + nI (cl (st j k))
    rw [hfI_E h k (by omega), h.2 k (by omega)]
theorem hvN_E {i j : Nat} (h : kE f st cl i j) : hvN f st cl i = hvN f st cl j := by
  unfold hvN
  rw [hfI_E h f (Nat.le_refl f)]
end PTabC
section ApartC
variable {G : GG} {M : Mem} {m N f : Nat} {st : Nat → Nat → Nat} {mk cl : Nat → Nat} {Q : Option Value → Mem → Prop}
/-- the machine in the rows of the reference -/
def RaI (M : Mem) (m N f : Nat) (st : Nat → Nat → Nat) (mk : Nat → Nat) : Prop := x_i M m 25 = nI N ∧ x_i M m 26 = nI f ∧ (∀ i, i < N → ∀ d, d < f → x_i M (m + 20) (27 * i + d) = nI (st i d) ∧ st i d < N) ∧ (∀ i, i < N → x_i M (m + 21) i = nI (mk i) ∧ mk i < 2 ^ 20) ∧ 0 < N ∧ N ≤ 8400 ∧ 0 < f ∧ f ≤ 27
theorem RaI.fr {M' : Mem} {F A : List Nat} (h : RaI M m N f st mk) (g : FrM M M' m F A) (h1 : 25 ∉ F ∧ 26 ∉ F) (h2 : 20 ∉ A ∧ 21 ∉ A) : RaI M' m N f st mk := by
  unfold RaI
  rw [g.fm h1.1, g.fm h1.2, g.i (by decide) h2.1, g.i (by decide) h2.2]
  exact h
def OlI (M : Mem) (m N : Nat) (cl : Nat → Nat) : Prop := ∀ i, i < N → x_i M (m + 23) i = nI (cl i) ∧ cl i < 2 ^ 20
theorem u_isAlike (d : Nat) (hs : ReS M m) (h : RaI M m N f st mk) (ho : OlI M m N cl) {i j : Nat} (hi : i < N) (hj : j < N) (hQ1 : kE f st cl i j → Q (some (.int (nI 1))) M) (hQ0 : ¬ kE f st cl i j → Q (some (.int (nI 0))) M) : Call G (d + 1) 0 0 mX12_isAlike [.ref m, .int (nI i), .int (nI j)] M Q := by
  obtain ⟨r1, r2, r3, r4, r5, r6, r7, r8⟩ := h
  have h23 := hs.h23
  have h20 := hs.h20
  have vin : ∀ x, x < 8400 → vp_in (nI x) (x_h M (m + 23)).2 := fun x hx => by rw [h23]; exact vp_in_nI hx (by omega)
  have hst0 : ∀ a e, a < N → e < f → 27 * a + e < 226800 := fun a e ha he => by omega
  have key : ∀ r k, k + r = f → (cl i = cl j ∧ ∀ e, e < k → cl (st i e) = cl (st j e)) → LX12_isAlike_24 G d 0 0 m (nI i) (nI j) 1 (nI k) M Q := by
    intro r
    induction r with
    | zero =>
      intro k hk hE
      have e : k = f := by omega
      subst e
      exact vX12_isAlike_24 _ _ _ _ _ ⟨fun c => absurd c (by decide), fun _ => ⟨hs.1, fun _ => ⟨Or.inr rfl, hQ1 hE⟩, fun c => absurd (by rw [r2]; exact nI_le (Nat.le_refl k) (by omega)) c⟩⟩
    | succ r ih =>
      intro k hk hE
      obtain ⟨a1, a2⟩ := r3 i hi k (by omega)
      obtain ⟨b1, b2⟩ := r3 j hj k (by omega)
      have e1 : (27 : Int32) * nI i + nI k = nI (27 * i + k) := by rw [show (27 : Int32) = nI 27 from rfl, pk_mul, nI_add]
      have e2 : (27 : Int32) * nI j + nI k = nI (27 * j + k) := by rw [show (27 : Int32) = nI 27 from rfl, pk_mul, nI_add]
      refine vX12_isAlike_24 _ _ _ _ _ ⟨fun c => absurd c (by decide), fun _ => ⟨hs.1, fun c => absurd (by rw [r2] at c; exact c) (nI_ge (a := k) (b := f) (by omega) (by omega)), fun _ => ⟨m + 23, hs.r23, m + 20, hs.r20, by rw [h20], by rw [e1, h20]; exact vp_in_nI (hst0 i k hi (by omega)) (by omega), by rw [h23], ?_, by rw [e2, h20]; exact vp_in_nI (hst0 j k hj (by omega)) (by omega), ?_, ?_⟩⟩⟩
      · rw [e1, nI_clamp (by omega), a1]; exact vin _ (by omega)
      · rw [e2, nI_clamp (by omega), b1]; exact vin _ (by omega)
      · rw [e1, e2, nI_clamp (by omega), nI_clamp (by omega), a1, b1, nI_clamp (by omega), nI_clamp (by omega), (ho _ a2).1, (ho _ b2).1, nI_eq (by have := (ho _ a2).2; omega) (by have := (ho _ b2).2; omega), nI_1]
        refine ⟨fun c => ?_, fun c => ih (k + 1) (by omega) ⟨hE.1, fun e he => ?_⟩⟩
        · exact vX12_isAlike_24 _ _ _ _ _ ⟨fun _ => ⟨Or.inl rfl, hQ0 (fun q => c (q.2 k (by omega)))⟩, fun q => absurd rfl q⟩
        · by_cases ee : e = k
          · rw [ee]; exact c
          · exact hE.2 e (by omega)
  refine eX12_isAlike m _ _ ⟨hs.1, m + 23, hs.r23, by rw [h23], vin i (by omega), vin j (by omega), ?_⟩
  rw [nI_clamp (by omega), nI_clamp (by omega), (ho i hi).1, (ho j hj).1, nI_eq (by have := (ho i hi).2; omega) (by have := (ho j hj).2; omega)]
  refine ⟨fun c => ?_, fun c => key f 0 (by omega) ⟨c, fun e he => absurd he (Nat.not_lt_zero e)⟩⟩
  exact vX12_isAlike_24 _ _ _ _ _ ⟨fun _ => ⟨Or.inl rfl, hQ0 (fun q => c q.1)⟩, fun q => absurd rfl q⟩
theorem u_place (d : Nat) (hs : ReS M m) (h : RaI M m N f st mk) (ho : OlI M m N cl) {T : Nat → Nat} {K : List Nat} (hT : ∀ s, s < 32768 → x_i M (m + 24) s = nI (T s)) (hp : PTab T 32768 (hvN f st cl) K) (hK : ∀ r, r ∈ K → r < N ∧ rep f st cl r = r) (hl : K.length ≤ 8400) {a : Nat} (ha : a < N)
    (hQi : rep f st cl a ∈ K → ∀ s, s < 32768 → T s = rep f st cl a + 1 → Q (some (.int (nI s))) M)
    (hQn : rep f st cl a ∉ K → ∀ t, t < 32768 → T ((hvN f st cl a + t) % 32768) = 0 → (∀ t', t' < t → T ((hvN f st cl a + t') % 32768) ≠ 0) → Q (some (.int (nI ((hvN f st cl a + t) % 32768)))) M) : Call G (d + 2) 0 0 mX12_place [.ref m, .int (nI a)] M Q := by
  have hR := h
  obtain ⟨r1, r2, r3, r4, r5, r6, r7, r8⟩ := h
  have h23 := hs.h23
  have h20 := hs.h20
  have h24 := hs.h24
  have hmod : ∀ x : Nat, x % 32768 < 32768 := fun x => Nat.mod_lt x (by omega)
  generalize hH : hvN f st cl a = hh at *
  have hnext : ∀ t, (nI ((hh + t) % 32768) + 1) &&& 32767 = nI ((hh + (t + 1)) % 32768) := fun t => by
    rw [nI_1, pk_andN (by have := hmod (hh + t); omega) 15 (by decide)]
    congr 1
    omega
  -- the search
  have srch : ∀ t0, t0 < 32768 → (∀ t', t' < t0 → T ((hh + t') % 32768) ≠ 0) → (∀ t', t' < t0 → T ((hh + t') % 32768) = rep f st cl a + 1 → Q (some (.int (nI ((hh + t') % 32768)))) M) → ∀ x2, (LX12_place_57 G (d + 1) 0 0 m (nI a) x2 (nI ((hh + t0) % 32768)) M Q) → ∀ r t, t + r = t0 → LX12_place_57 G (d + 1) 0 0 m (nI a) x2 (nI ((hh + t) % 32768)) M Q := by
    intro t0 ht0 hne hfound x2 hend r
    induction r with
    | zero => intro t ht; have e : t = t0 := by omega
              subst e; exact hend
    | succ r ih =>
      intro t ht
      have hs1 := hmod (hh + t)
      have hn := hne t (by omega)
      rcases hp.1 _ hs1 with q | ⟨x, q1, q2⟩
      · exact absurd q hn
      have hx := hK x q1
      refine vX12_place_57 _ _ _ _ ⟨hs.1, m + 24, hs.r24, by rw [h24], by rw [h24]; exact vp_in_nI hs1 (by omega), ?_⟩
      rw [nI_clamp (by omega), hT _ hs1, q2]
      refine ⟨fun c => absurd c (nI_ne0 (by omega) (by omega)), fun _ => ?_⟩
      rw [nI_pred]
      refine u_isAlike d hs hR ho hx.1 ha (fun c => ⟨_, rfl, fun _ => ?_, fun q => absurd q (by decide)⟩) (fun c => ⟨_, rfl, fun q => absurd rfl q, fun _ => ?_⟩)
      · have : x = rep f st cl a := by rw [← hx.2]; exact rep_eq.mp c
        exact hfound t (by omega) (by rw [q2, this])
      · rw [hnext]
        exact ih (t + 1) (by omega)
  have fin : ∀ x2, LX12_place_57 G (d + 1) 0 0 m (nI a) x2 (nI ((hh + 0) % 32768)) M Q := by
    intro x2
    by_cases c : rep f st cl a ∈ K
    · obtain ⟨t0, ht0, e0, hne⟩ := hp.2.2 _ c
      have eh : hvN f st cl (rep f st cl a) = hh := by rw [← hH]; exact hvN_E rep_E
      rw [eh] at e0 hne
      refine srch t0 ht0 hne (fun t' ht' e => hQi c _ (hmod _) e) x2 ?_ t0 0 (by omega)
      have hs1 := hmod (hh + t0)
      have hx := hK _ c
      refine vX12_place_57 _ _ _ _ ⟨hs.1, m + 24, hs.r24, by rw [h24], by rw [h24]; exact vp_in_nI hs1 (by omega), ?_⟩
      rw [nI_clamp (by omega), hT _ hs1, e0]
      refine ⟨fun c => absurd c (nI_ne0 (by omega) (by omega)), fun _ => ?_⟩
      rw [nI_pred]
      exact u_isAlike d hs hR ho hx.1 ha (fun _ => ⟨_, rfl, fun _ => hQi c _ hs1 e0, fun q => absurd q (by decide)⟩) (fun c2 => absurd rep_E c2)
    · obtain ⟨t0, ht0, e0, hne⟩ := hp.free (by omega) hh
      refine srch t0 ht0 hne (fun t' ht' e => ?_) x2 ?_ t0 0 (by omega)
      · rcases hp.1 _ (hmod (hh + t')) with q | ⟨x, q1, q2⟩
        · omega
        · exact absurd q1 (by rw [show x = rep f st cl a by omega]; exact c)
      have hs1 := hmod (hh + t0)
      refine vX12_place_57 _ _ _ _ ⟨hs.1, m + 24, hs.r24, by rw [h24], by rw [h24]; exact vp_in_nI hs1 (by omega), ?_⟩
      rw [nI_clamp (by omega), hT _ hs1, e0]
      exact ⟨fun _ => hQn c t0 ht0 e0 hne, fun q => absurd rfl q⟩
  have e00 : (hh + 0) % 32768 = hh := by rw [Nat.add_zero, Nat.mod_eq_of_lt (by rw [← hH]; exact hvN_lt)]
  rw [e00] at fin
  have key : ∀ r k, k + r = f → LX12_place_9 G (d + 1) 0 0 m (nI a) (hfI st cl a k) (nI k) M Q := by
    intro r
    induction r with
    | zero =>
      intro k hk
      have e : k = f := by omega
      subst e
      refine vX12_place_9 _ _ _ _ ⟨hs.1, fun _ => ?_, fun c => absurd (by rw [r2]; exact nI_le (Nat.le_refl k) (by omega)) c⟩
      rw [pk_and _ 15 (by decide)]
      have : (((hfI st cl a k * (-1640531527)).toUInt32 >>> ((17 : Int32).toUInt32 &&& Int32.toUInt32 31)).toInt32).toBitVec.toNat % 2 ^ 15 = hh := hH
      rw [this]
      exact fin _
    | succ r ih =>
      intro k hk
      obtain ⟨a1, a2⟩ := r3 a ha k (by omega)
      have e1 : (27 : Int32) * nI a + nI k = nI (27 * a + k) := by rw [show (27 : Int32) = nI 27 from rfl, pk_mul, nI_add]
      refine vX12_place_9 _ _ _ _ ⟨hs.1, fun c => absurd (by rw [r2] at c; exact c) (nI_ge (a := k) (b := f) (by omega) (by omega)), fun _ => ⟨m + 23, hs.r23, m + 20, hs.r20, by rw [h20], by rw [e1, h20]; exact vp_in_nI (show 27 * a + k < 226800 by omega) (by omega), by rw [h23], ?_, ?_⟩⟩
      · rw [e1, nI_clamp (by omega), a1, h23]; exact vp_in_nI (show st a k < 8400 by omega) (by omega)
      · rw [e1, nI_clamp (by omega), a1, nI_clamp (by omega), (ho _ a2).1, nI_1]
        exact ih (k + 1) (by omega)
  refine eX12_place m _ ⟨hs.1, m + 23, hs.r23, by rw [h23], by rw [h23]; exact vp_in_nI (show a < 8400 by omega) (by omega), ?_⟩
  rw [nI_clamp (by omega), (ho a ha).1]
  exact key f 0 (by omega)
def GrI (M : Mem) (m N : Nat) (cl : Nat → Nat) : Prop := ∀ i, i < N → x_i M (m + 22) i = nI (cl i) ∧ cl i < 2 ^ 20
theorem ur_apart (d : Nat) (hs : ReS M m) (h : RaI M m N f st mk)
    (hQ : ∀ M' cl g, FrM M M' m [] [22, 23, 24] → GrI M' m N cl → Cls f N st mk cl → Num N g cl → (∀ d, d < f → Stb N st cl d) → Q none M') : Call G (d + 3) 0 0 mX12_apart [.ref m] M Q := by
  have hR := h
  obtain ⟨r1, r2, r3, r4, r5, r6, r7, r8⟩ := h
  have h22 := hs.h22
  have h23 := hs.h23
  have h24 := hs.h24
  have h21 := hs.h21
  have hcl : ∀ i, i < N → ∀ d, d < f → st i d < N := fun i hi d hd => (r3 i hi d hd).2
  have fr0 : ∀ {M' : Mem}, FrM M M' m [] [22, 23, 24] → ReS M' m ∧ RaI M' m N f st mk ∧ x_i M' m 25 = nI N := fun g => ⟨g.S hs, hR.fr g (by decide) (by decide), by rw [g.fm (by decide)]; exact r1⟩
  -- one round
  have round : ∀ (g : Nat) (had : Int32) (cl : Nat → Nat) (M' : Mem), g ≤ 8400 → nI g ≠ had → FrM M M' m [] [22, 23, 24] → GrI M' m N cl → (∀ M'' z z', FrM M M'' m [] [22, 23, 24] → GrI M'' m N (fun i => (kin (rep f st cl) N).idxOf (rep f st cl i)) → c1 z = true → c1 z' = true → LX12_apart_32 G (d + 2) 0 0 m (nI (kin (rep f st cl) N).length) (nI g) z z' M'' Q) → ∀ z z', c1 z = true → c1 z' = true → LX12_apart_32 G (d + 2) 0 0 m (nI g) had z z' M' Q := by
    intro g had cl M' hg hne hfr hgr hout z z' hz hz'
    -- all states are looked up
    have loop : ∀ r a, a + r = N → ∀ M' T, FrM M M' m [] [22, 23, 24] → OlI M' m N cl → (∀ s, s < 32768 → x_i M' (m + 24) s = nI (T s)) → PTab T 32768 (hvN f st cl) (kin (rep f st cl) a) → (∀ i, i < a → x_i M' (m + 22) i = nI ((kin (rep f st cl) a).idxOf (rep f st cl i))) → ∀ z, c1 z = true → LX12_apart_92 G (d + 2) 0 0 m (nI (kin (rep f st cl) a).length) (nI g) (nI a) z M' Q := by
      intro r
      induction r with
      | zero =>
        intro a ha M' T hfr ho hT hp hgr z hz
        have e : a = N := by omega
        have hkl := kin_le (key := rep f st cl) N
        rw [e] at hgr ⊢
        refine vX12_apart_92 _ _ _ _ _ hz ⟨(fr0 hfr).1.1, fun _ => hout M' _ z hfr (fun i hi => ⟨hgr i hi, ?_⟩) rfl hz, fun c => absurd (by rw [(fr0 hfr).2.2]; exact nI_le (Nat.le_refl N) (by omega)) c⟩
        have := idx_lt ((kin_mem (key := rep f st cl) (x := rep f st cl i) N).mpr ⟨i, hi, rfl⟩)
        show (kin (rep f st cl) N).idxOf (rep f st cl i) < 2 ^ 20
        omega
      | succ r ih =>
        intro a ha M' T hfr ho hT hp hgr z hz
        have hkl := kin_le (key := rep f st cl) a
        obtain ⟨q1, q2, q3⟩ := fr0 hfr
        have hKr : ∀ x, x ∈ kin (rep f st cl) a → x < N ∧ rep f st cl x = x := fun x hx => by
          obtain ⟨j, hj, rfl⟩ := (kin_mem a).mp hx
          exact ⟨Nat.lt_of_le_of_lt rep_le (by omega), rep_rep⟩
        have hks : kin (rep f st cl) (a + 1) = ins (kin (rep f st cl) a) (rep f st cl a) := rfl
        refine vX12_apart_92 _ _ _ _ _ hz ⟨q1.1, fun c => absurd (by rw [q3] at c; exact c) (nI_ge (a := a) (b := N) (by omega) (by omega)), fun _ => ?_⟩
        refine u_place d q1 q2 ho hT hp hKr (by omega) (by omega) (fun hin s hs2 es => ⟨_, rfl, q1.1, m + 24, q1.r24, by rw [q1.h24], by rw [q1.h24]; exact vp_in_nI hs2 (by omega), ?_⟩) (fun hnin t ht et hnt => ⟨_, rfl, q1.1, m + 24, q1.r24, by rw [q1.h24], by rw [q1.h24]; exact vp_in_nI (Nat.mod_lt _ (by omega)) (by omega), ?_⟩)
        · have hrN := hKr _ hin
          have hra : rep f st cl a < a := by
            obtain ⟨j, hj, e⟩ := (kin_mem a).mp hin
            have := rep_le (f := f) (st := st) (cl := cl) (i := j)
            omega
          rw [nI_clamp (by omega), hT s hs2, es]
          refine ⟨fun _ => ⟨m + 22, q1.r22, by rw [q1.h22], ?_, by rw [q1.h22]; exact vp_in_nI (show a < 8400 by omega) (by omega), ?_⟩, fun c => absurd c (nI_ne0 (by omega) (by omega))⟩
          · rw [nI_pred, q1.h22]; exact vp_in_nI (show rep f st cl a < 8400 by omega) (by omega)
          · rintro M2 rfl
            rw [nI_pred, nI_clamp (by omega), nI_clamp (by omega), hgr _ hra, rep_rep, nI_1]
            have ei : kin (rep f st cl) (a + 1) = kin (rep f st cl) a := by rw [hks]; exact if_pos hin
            have g1 : FrM M' (x_si M' (m + 22) a (nI ((kin (rep f st cl) a).idxOf (rep f st cl a)))) m [] [22] := FrM.rf.si (by decide) (by decide)
            have := ih (a + 1) (by omega) (x_si M' (m + 22) a (nI ((kin (rep f st cl) a).idxOf (rep f st cl a)))) T (hfr.tr g1 (by decide) (by decide)) (fun i hi => by rw [g1.i (by decide) (by decide)]; exact ho i hi) (fun s hs => by rw [g1.i (by decide) (by decide)]; exact hT s hs) (by rw [ei]; exact hp) (fun i hi => ?_) (some (.int (nI s))) rfl
            · rw [ei] at this; exact this
            · rw [ei]
              by_cases e : i = a
              · rw [e, xi_eq]
              · rw [xi_nk e]; exact hgr i (by omega)
        · have ei : kin (rep f st cl) (a + 1) = kin (rep f st cl) a ++ [rep f st cl a] := by rw [hks]; exact if_neg hnin
          have hra : rep f st cl a = a := by
            have hle := rep_le (f := f) (st := st) (cl := cl) (i := a)
            rcases Nat.lt_or_ge (rep f st cl a) a with c | c
            · exact absurd ((kin_mem a).mpr ⟨rep f st cl a, c, rep_rep⟩) hnin
            · omega
          have hmd : (hvN f st cl a + t) % 32768 < 32768 := Nat.mod_lt _ (by omega)
          rw [nI_clamp (by omega), hT _ hmd, et]
          refine ⟨fun c => absurd rfl c, fun _ => ?_⟩
          rintro M2 rfl
          refine ⟨m + 22, q1.r22, by rw [q1.h22], by rw [q1.h22]; exact vp_in_nI (show a < 8400 by omega) (by omega), ?_⟩
          rintro M3 rfl
          rw [nI_clamp (by omega), nI_1, nI_1]
          have g1 : FrM M' (x_si M' (m + 24) ((hvN f st cl a + t) % 32768) (nI (a + 1))) m [] [22, 24] := FrM.rf.si (by decide) (by decide)
          have g2 : FrM M' (x_si (x_si M' (m + 24) ((hvN f st cl a + t) % 32768) (nI (a + 1))) (m + 22) a (nI (kin (rep f st cl) a).length)) m [] [22, 24] := g1.si (by decide) (by decide)
          have hpa := hp.add (by omega) (r := rep f st cl a) (t := t) hnin ht (by rw [hra]; exact et) (by rw [hra]; exact hnt)
          rw [← ei, hra] at hpa
          have hlen : (kin (rep f st cl) (a + 1)).length = (kin (rep f st cl) a).length + 1 := by rw [ei, List.length_append]; rfl
          have hres := ih (a + 1) (by omega) (x_si (x_si M' (m + 24) ((hvN f st cl a + t) % 32768) (nI (a + 1))) (m + 22) a (nI (kin (rep f st cl) a).length)) _ (hfr.tr g2 (by decide) (by decide)) (fun i hi => by rw [g2.i (by decide) (by decide)]; exact ho i hi) (fun s hs => ?_) hpa (fun i hi => ?_) (some (.int (nI ((hvN f st cl a + t) % 32768)))) rfl
          · rw [hlen] at hres; exact hres
          · rw [xm_oo (by decide)]
            by_cases e : s = (hvN f st cl a + t) % 32768
            · rw [e, xi_eq, if_pos rfl]
            · rw [xi_nk e, if_neg e]; exact hT s hs
          · by_cases e : i = a
            · rw [e, xi_eq, ei, List.idxOf_append, if_neg hnin]
              simp
            · rw [xi_nk e, xm_oo (by decide), hgr i (by omega), ei, List.idxOf_append, if_pos ((kin_mem a).mpr ⟨i, by omega, rfl⟩)]
    -- older
    have copy : ∀ r a, a + r = N → ∀ M', FrM M M' m [] [22, 23, 24] → GrI M' m N cl → (∀ i, i < a → x_i M' (m + 23) i = nI (cl i)) → (∀ s, s < 32768 → x_i M' (m + 24) s = nI 0) → ∀ z, c1 z = true → LX12_apart_64 G (d + 2) 0 0 m 0 (nI g) (nI a) z M' Q := by
      intro r
      induction r with
      | zero =>
        intro a ha M' hfr hgr ho hT z hz
        have e : a = N := by omega
        subst e
        refine vX12_apart_64 _ _ _ _ _ hz ⟨(fr0 hfr).1.1, fun _ => ?_, fun c => absurd (by rw [(fr0 hfr).2.2]; exact nI_le (Nat.le_refl a) (by omega)) c⟩
        exact loop a 0 (by omega) M' (fun _ => 0) hfr (fun i hi => ⟨ho i hi, (hgr i hi).2⟩) hT ⟨fun s _ => Or.inl rfl, fun s s' _ _ hn => absurd rfl hn, fun r hr => absurd hr (by simp [kin])⟩ (fun i hi => absurd hi (Nat.not_lt_zero i)) z hz
      | succ r ih =>
        intro a ha M' hfr hgr ho hT z hz
        obtain ⟨q1, q2, q3⟩ := fr0 hfr
        refine vX12_apart_64 _ _ _ _ _ hz ⟨q1.1, fun c => absurd (by rw [q3] at c; exact c) (nI_ge (a := a) (b := N) (by omega) (by omega)), fun _ => ⟨m + 23, q1.r23, m + 22, q1.r22, by rw [q1.h22], by rw [q1.h22]; exact vp_in_nI (show a < 8400 by omega) (by omega), by rw [q1.h23], by rw [q1.h23]; exact vp_in_nI (show a < 8400 by omega) (by omega), ?_⟩⟩
        rintro M2 rfl
        rw [nI_clamp (by omega), (hgr a (by omega)).1, nI_1]
        have g1 : FrM M' (x_si M' (m + 23) a (nI (cl a))) m [] [23] := FrM.rf.si (by decide) (by decide)
        refine ih (a + 1) (by omega) _ (hfr.tr g1 (by decide) (by decide)) (fun i hi => by rw [g1.i (by decide) (by decide)]; exact hgr i hi) (fun i hi => ?_) (fun s hs => by rw [g1.i (by decide) (by decide)]; exact hT s hs) z hz
        by_cases e : i = a
        · rw [e, xi_eq]
        · rw [xi_nk e]; exact ho i (by omega)
    -- the table is cleared
    have clear : ∀ r k, k + r = 32768 → ∀ M', FrM M M' m [] [22, 23, 24] → GrI M' m N cl → (∀ s, s < k → x_i M' (m + 24) s = nI 0) → ∀ z, c1 z = true → LX12_apart_43 G (d + 2) 0 0 m 0 (nI g) (nI k) z M' Q := by
      intro r
      induction r with
      | zero =>
        intro k hk M' hfr hgr hT z hz
        have e : k = 32768 := by omega
        subst e
        exact vX12_apart_43 _ _ _ _ _ hz ⟨fun _ => copy N 0 (by omega) M' hfr hgr (fun i hi => absurd hi (Nat.not_lt_zero i)) hT z hz, fun c => absurd (nI_le (Nat.le_refl 32768) (by omega)) c⟩
      | succ r ih =>
        intro k hk M' hfr hgr hT z hz
        obtain ⟨q1, q2, q3⟩ := fr0 hfr
        refine vX12_apart_43 _ _ _ _ _ hz ⟨fun c => absurd c (nI_ge (a := k) (b := 32768) (by omega) (by omega)), fun _ => ⟨q1.1, m + 24, q1.r24, by rw [q1.h24], by rw [q1.h24]; exact vp_in_nI (show k < 32768 by omega) (by omega), ?_⟩⟩
        rintro M2 rfl
        rw [nI_clamp (by omega), nI_1]
        have g1 : FrM M' (x_si M' (m + 24) k 0) m [] [24] := FrM.rf.si (by decide) (by decide)
        refine ih (k + 1) (by omega) _ (hfr.tr g1 (by decide) (by decide)) (fun i hi => by rw [g1.i (by decide) (by decide)]; exact hgr i hi) (fun s hs => ?_) z hz
        by_cases e : s = k
        · rw [e, xi_eq]; rfl
        · rw [xi_nk e]; exact hT s (by omega)
    refine vX12_apart_32 _ _ _ _ _ hz hz' ⟨fun c => absurd c hne, fun _ => ?_⟩
    exact clear 32768 0 (by omega) M' hfr hgr (fun s hs => absurd hs (Nat.not_lt_zero s)) z' hz'
  -- a round keeps what is wanted
  have step : ∀ cl, Cls f N st mk cl → Cls f N st mk (fun i => (kin (rep f st cl) N).idxOf (rep f st cl i)) ∧ Num N (kin (rep f st cl) N).length (fun i => (kin (rep f st cl) N).idxOf (rep f st cl i)) := by
    intro cl hC
    refine ⟨hC.split (S := fun d => d < f) (fun _ h => h) hcl (fun i j hi hj => ?_), kin_num⟩
    show (kin (rep f st cl) N).idxOf (rep f st cl i) = (kin (rep f st cl) N).idxOf (rep f st cl j) ↔ _
    rw [kin_eq hi hj, ← rep_eq]
    exact Iff.rfl
  have main : ∀ n g (had : Nat) cl M', N - g ≤ n → g ≤ N → had ≤ N → FrM M M' m [] [22, 23, 24] → GrI M' m N cl → Cls f N st mk cl → Num N g cl → (had = g → ∀ d, d < f → Stb N st cl d) → ∀ z z', c1 z = true → c1 z' = true → LX12_apart_32 G (d + 2) 0 0 m (nI g) (nI had) z z' M' Q := by
    intro n
    induction n with
    | zero =>
      intro g had cl M' hn hg hh hfr hgr hC hN hS z z' hz hz'
      have e : g = N := by omega
      by_cases c : had = g
      · exact vX12_apart_32 _ _ _ _ _ hz hz' ⟨fun _ => hQ M' cl g hfr hgr hC hN (hS c), fun q => absurd (by rw [c]) q⟩
      · refine round g (nI had) cl M' (by omega) (fun q => c ((nI_eq (by omega) (by omega)).mp q).symm) hfr hgr (fun M'' z z' hfr' hgr' hz hz' => ?_) z z' hz hz'
        obtain ⟨s1, s2⟩ := step cl hC
        have hkl := kin_le (key := rep f st cl) N
        obtain ⟨f1, f2⟩ := hN.fine s2 (fun i j hi hj e => ((kin_eq hi hj).mp e |> rep_eq.mpr).1)
        have eg : (kin (rep f st cl) N).length = g := by omega
        refine vX12_apart_32 _ _ _ _ _ hz hz' ⟨fun _ => hQ M'' _ _ hfr' hgr' s1 s2 (fun d hd i j hi hj e => ?_), fun q => absurd (by rw [eg]) q⟩
        have hk := rep_eq.mpr ((kin_eq hi hj).mp e)
        exact f2 eg _ _ (hcl i hi d hd) (hcl j hj d hd) (hk.2 d hd)
    | succ n ih =>
      intro g had cl M' hn hg hh hfr hgr hC hN hS z z' hz hz'
      by_cases c : had = g
      · exact vX12_apart_32 _ _ _ _ _ hz hz' ⟨fun _ => hQ M' cl g hfr hgr hC hN (hS c), fun q => absurd (by rw [c]) q⟩
      · refine round g (nI had) cl M' (by omega) (fun q => c ((nI_eq (by omega) (by omega)).mp q).symm) hfr hgr (fun M'' z z' hfr' hgr' hz hz' => ?_) z z' hz hz'
        obtain ⟨s1, s2⟩ := step cl hC
        have hkl := kin_le (key := rep f st cl) N
        obtain ⟨f1, f2⟩ := hN.fine s2 (fun i j hi hj e => ((kin_eq hi hj).mp e |> rep_eq.mpr).1)
        have hst : (kin (rep f st cl) N).length = g → ∀ d, d < f → Stb N st (fun i => (kin (rep f st cl) N).idxOf (rep f st cl i)) d := fun eg d hd i j hi hj e => by
          have hk := rep_eq.mpr ((kin_eq hi hj).mp e)
          exact f2 eg _ _ (hcl i hi d hd) (hcl j hj d hd) (hk.2 d hd)
        by_cases c2 : (kin (rep f st cl) N).length = g
        · exact vX12_apart_32 _ _ _ _ _ hz hz' ⟨fun _ => hQ M'' _ _ hfr' hgr' s1 s2 (hst c2), fun q => absurd (by rw [c2]) q⟩
        · exact ih _ g _ M'' (by omega) hkl hg hfr' hgr' s1 s2 (fun e => absurd e.symm c2) z z' hz hz'
  -- the first classes
  have first : ∀ r a, a + r = N → ∀ M', FrM M M' m [] [22, 23, 24] → (∀ i, i < a → x_i M' (m + 22) i = nI (mk i)) → LX12_apart_4 G (d + 2) 0 0 m 0 (nI a) M' Q := by
    intro r
    induction r with
    | zero =>
      intro a ha M' hfr hgr
      have e : a = N := by omega
      subst e
      refine vX12_apart_4 _ _ _ ⟨(fr0 hfr).1.1, fun _ => ?_, fun c => absurd (by rw [(fr0 hfr).2.2]; exact nI_le (Nat.le_refl a) (by omega)) c⟩
      have hC0 : Cls f a st mk mk := ⟨fun i j _ _ e => e [] wd_nil, fun i j _ _ e => e⟩
      refine round 0 (-1) mk M' (by omega) (nI_m1 (by omega)) hfr (fun i hi => ⟨hgr i hi, (r4 i hi).2⟩) (fun M'' z z' hfr' hgr' hz hz' => ?_) none none rfl rfl
      obtain ⟨s1, s2⟩ := step mk hC0
      have hkl := kin_le (key := rep f st mk) a
      have hpos : 0 < (kin (rep f st mk) a).length := by have := s2.1 0 r5; omega
      exact main a _ 0 _ M'' (by omega) hkl (by omega) hfr' hgr' s1 s2 (fun e => by omega) z z' hz hz'
    | succ r ih =>
      intro a ha M' hfr hgr
      obtain ⟨q1, q2, q3⟩ := fr0 hfr
      refine vX12_apart_4 _ _ _ ⟨q1.1, fun c => absurd (by rw [q3] at c; exact c) (nI_ge (a := a) (b := N) (by omega) (by omega)), fun _ => ⟨m + 22, q1.r22, m + 21, q1.r21, by rw [q1.h21], by rw [q1.h21]; exact vp_in_nI (show a < 8400 by omega) (by omega), by rw [q1.h22], by rw [q1.h22]; exact vp_in_nI (show a < 8400 by omega) (by omega), ?_⟩⟩
      rintro M2 rfl
      rw [nI_clamp (by omega), (q2.2.2.2.1 a (by omega)).1, nI_1]
      have g1 : FrM M' (x_si M' (m + 22) a (nI (mk a))) m [] [22] := FrM.rf.si (by decide) (by decide)
      refine ih (a + 1) (by omega) _ (hfr.tr g1 (by decide) (by decide)) (fun i hi => ?_)
      by_cases e : i = a
      · rw [e, xi_eq]
      · rw [xi_nk e]; exact hgr i (by omega)
  exact eX12_apart m (first N 0 (by omega) M FrM.rf (fun i hi => absurd hi (Nat.not_lt_zero i)))
end ApartC
