/-! ===== how many: pure ===== -/
section CountP
variable {b n ap : Nat} {st : Nat → Nat → Nat} {mk : Nat → Nat}
def sg (f : Nat → Nat) : Nat → Nat
  | 0 => 0
  | k + 1 => sg f k + f k
theorem sg_congr {f g : Nat → Nat} : ∀ k, (∀ i, i < k → f i = g i) → sg f k = sg g k
  | 0, _ => rfl
  | k + 1, h => by
    show sg f k + f k = sg g k + g k
    rw [sg_congr k (fun i hi => h i (by omega)), h k (by omega)]
theorem sg_zero : ∀ k, sg (fun _ => 0) k = 0
  | 0 => rfl
  | k + 1 => by show sg (fun _ => 0) k + 0 = 0; rw [sg_zero k]
theorem sg_add {f g : Nat → Nat} : ∀ k, sg (fun i => f i + g i) k = sg f k + sg g k
  | 0 => rfl
  | k + 1 => by
    show sg (fun i => f i + g i) k + (f k + g k) = sg f k + f k + (sg g k + g k)
    rw [sg_add k]; omega
theorem sg_mul {f : Nat → Nat} {c : Nat} : ∀ k, sg (fun i => c * f i) k = c * sg f k
  | 0 => rfl
  | k + 1 => by
    show sg (fun i => c * f i) k + c * f k = c * (sg f k + f k)
    rw [sg_mul k, Nat.mul_add]
theorem sg_le {f : Nat → Nat} : ∀ {k i : Nat}, i < k → f i ≤ sg f k
  | 0, _, h => absurd h (Nat.not_lt_zero _)
  | k + 1, i, h => by
    show f i ≤ sg f k + f k
    by_cases c : i = k
    · rw [c]; omega
    · have := sg_le (f := f) (k := k) (i := i) (by omega); omega
theorem sg_pos {f : Nat → Nat} : ∀ k, 0 < sg f k ↔ ∃ i, i < k ∧ 0 < f i
  | 0 => ⟨fun h => absurd h (Nat.lt_irrefl 0), fun ⟨i, h, _⟩ => absurd h (Nat.not_lt_zero _)⟩
  | k + 1 => by
    show 0 < sg f k + f k ↔ _
    have ih := sg_pos (f := f) k
    constructor
    · intro h
      by_cases c : 0 < f k
      · exact ⟨k, by omega, c⟩
      · obtain ⟨i, h1, h2⟩ := ih.mp (by omega)
        exact ⟨i, by omega, h2⟩
    · rintro ⟨i, h1, h2⟩
      by_cases c : i = k
      · rw [← c]; omega
      · have := ih.mpr ⟨i, by omega, h2⟩; omega
theorem sg_1 {x : Nat → Nat} {a : Nat} : ∀ {k : Nat}, sg (fun j => (if a = j then 1 else 0) * x j) k = if a < k then x a else 0
  | 0 => rfl
  | k + 1 => by
    show sg (fun j => (if a = j then 1 else 0) * x j) k + (if a = k then 1 else 0) * x k = _
    rw [sg_1 (k := k)]
    by_cases c : a = k
    · subst c
      rw [if_neg (by omega), if_pos rfl, if_pos (by omega)]; omega
    · rw [if_neg c]
      by_cases c2 : a < k
      · rw [if_pos c2, if_pos (by omega)]; omega
      · rw [if_neg c2, if_neg (by omega)]; omega
/-- how many of k digits from f0 on lead from i to j -/
def rsN (sd : Nat → Nat → Nat) (i f0 j : Nat) : Nat → Nat
  | 0 => 0
  | k + 1 => rsN sd i f0 j k + (if sd i (f0 + k) = j then 1 else 0)
theorem rs_dot {sd : Nat → Nat → Nat} {i f0 : Nat} {x : Nat → Nat} : ∀ k, (∀ t, t < k → sd i (f0 + t) < n) → sg (fun j => rsN sd i f0 j k * x j) n = sg (fun t => x (sd i (f0 + t))) k
  | 0, _ => by
    show sg (fun j => 0 * x j) n = 0
    rw [sg_congr n (g := fun _ => 0) (fun j _ => Nat.zero_mul _), sg_zero]
  | k + 1, h => by
    show sg (fun j => (rsN sd i f0 j k + (if sd i (f0 + k) = j then 1 else 0)) * x j) n = sg (fun t => x (sd i (f0 + t))) k + x (sd i (f0 + k))
    rw [sg_congr n (g := fun j => rsN sd i f0 j k * x j + (if sd i (f0 + k) = j then 1 else 0) * x j) (fun j _ => Nat.add_mul _ _ _), sg_add, rs_dot k (fun t ht => h t (by omega)), sg_1, if_pos (h k (by omega))]
/-- ways one step on -/
def pushN (sd : Nat → Nat → Nat) (w : Nat → Nat) (f0 k i j : Nat) : Nat := sg (fun i' => w i' * rsN sd i' f0 j k) i
theorem push_dot {sd : Nat → Nat → Nat} {w x : Nat → Nat} {f0 k : Nat} : ∀ i, (∀ i', i' < i → ∀ t, t < k → sd i' (f0 + t) < n) → sg (fun j => pushN sd w f0 k i j * x j) n = sg (fun i' => w i' * sg (fun t => x (sd i' (f0 + t))) k) i
  | 0, _ => by
    show sg (fun j => 0 * x j) n = 0
    rw [sg_congr n (g := fun _ => 0) (fun j _ => Nat.zero_mul _), sg_zero]
  | i + 1, h => by
    show sg (fun j => (pushN sd w f0 k i j + w i * rsN sd i f0 j k) * x j) n = sg (fun i' => w i' * sg (fun t => x (sd i' (f0 + t))) k) i + w i * sg (fun t => x (sd i (f0 + t))) k
    rw [sg_congr n (g := fun j => pushN sd w f0 k i j * x j + w i * (rsN sd i f0 j k * x j)) (fun j _ => by rw [Nat.add_mul, Nat.mul_assoc]), sg_add, push_dot i (fun i' hi' => h i' (by omega)), sg_mul, rs_dot k (h i (by omega))]
/-- how many words of the first name's digits are taken, the second one's being told -/
def nwC (b : Nat) (st : Nat → Nat → Nat) (mk : Nat → Nat) (ap : Nat) : List Nat → Nat → Nat
  | [], q => mk q
  | o :: ds, q => sg (fun d => nwC b st mk ap ds (st q (d * ap + o))) b
def zz (k : Nat) (ds : List Nat) : List Nat := List.replicate k 0 ++ ds
theorem zz_0 {ds : List Nat} : zz 0 ds = ds := rfl
theorem zz_s {k : Nat} {ds : List Nat} : zz (k + 1) ds = 0 :: zz k ds := rfl
theorem zz_in {ds : List Nat} : ∀ k, zz k (0 :: ds) = zz (k + 1) ds
  | 0 => rfl
  | k + 1 => by rw [zz_s, zz_in k, ← zz_s]
theorem zz_zz {ds : List Nat} : ∀ k s, zz k (zz s ds) = zz (k + s) ds
  | 0, s => by rw [Nat.zero_add]; rfl
  | k + 1, s => by rw [zz_s, zz_zz k s, show k + 1 + s = (k + s) + 1 by omega, zz_s]
/-- step by the first name's digit, the other being nought -/
abbrev sd0 (st : Nat → Nat → Nat) (ap : Nat) (i d : Nat) : Nat := st i (d * ap)
/-- with a first digit that is not nought, and m more, ahead -/
def nzC (b : Nat) (st : Nat → Nat → Nat) (mk : Nat → Nat) (ap m : Nat) (ds : List Nat) : Nat := sg (fun t => nwC b st mk ap (zz m ds) (st 0 ((1 + t) * ap))) (b - 1)
def wvF (b n : Nat) (st : Nat → Nat → Nat) (ap : Nat) : Nat → Nat → Nat
  | 0 => fun j => rsN (sd0 st ap) 0 1 j (b - 1)
  | m + 1 => fun j => pushN (sd0 st ap) (wvF b n st ap m) 0 b n j
theorem wv_dot (hcl : ∀ i, i < n → ∀ d, d < b → st i (d * ap) < n) (hn : 0 < n) : ∀ (m : Nat) (ds : List Nat), sg (fun j => wvF b n st ap m j * nwC b st mk ap ds j) n = nzC b st mk ap m ds
  | 0, ds => by
    show sg (fun j => rsN (sd0 st ap) 0 1 j (b - 1) * nwC b st mk ap ds j) n = _
    rw [rs_dot (b - 1) (fun t ht => hcl 0 hn _ (by omega))]
    rfl
  | m + 1, ds => by
    show sg (fun j => pushN (sd0 st ap) (wvF b n st ap m) 0 b n j * nwC b st mk ap ds j) n = _
    rw [push_dot n (fun i' hi' t ht => hcl i' hi' _ (by omega))]
    have := wv_dot hcl hn m (0 :: ds)
    unfold nzC at this ⊢
    rw [zz_in] at this
    rw [← this]
    refine sg_congr n (fun i _ => ?_)
    show _ = wvF b n st ap m i * sg (fun d => nwC b st mk ap ds (st i (d * ap + 0))) b
    congr 1
    refine sg_congr b (fun t _ => ?_)
    rw [Nat.zero_add, Nat.add_zero]
theorem sg_front {f : Nat → Nat} : ∀ k, sg f (k + 1) = f 0 + sg (fun t => f (1 + t)) k
  | 0 => by show 0 + f 0 = f 0 + 0; omega
  | k + 1 => by
    show sg f (k + 1) + f (k + 1) = f 0 + (sg (fun t => f (1 + t)) k + f (1 + k))
    rw [sg_front k, Nat.add_comm 1 k]; omega
theorem nw_total (hb : 1 < b) (h00 : st 0 0 = 0) {ds : List Nat} : ∀ k, nwC b st mk ap (zz k ds) 0 = nwC b st mk ap ds 0 + sg (fun m => nzC b st mk ap m ds) k
  | 0 => rfl
  | k + 1 => by
    show sg (fun d => nwC b st mk ap (zz k ds) (st 0 (d * ap + 0))) b = nwC b st mk ap ds 0 + (sg (fun m => nzC b st mk ap m ds) k + nzC b st mk ap k ds)
    have e1 : sg (fun d => nwC b st mk ap (zz k ds) (st 0 (d * ap + 0))) b = nwC b st mk ap (zz k ds) (st 0 (0 * ap + 0)) + sg (fun t => nwC b st mk ap (zz k ds) (st 0 ((1 + t) * ap + 0))) (b - 1) := by
      have := sg_front (f := fun d => nwC b st mk ap (zz k ds) (st 0 (d * ap + 0))) (b - 1)
      rw [show b - 1 + 1 = b by omega] at this
      exact this
    rw [e1, Nat.zero_mul, h00, nw_total hb h00 k]
    have : nzC b st mk ap k ds = sg (fun t => nwC b st mk ap (zz k ds) (st 0 ((1 + t) * ap + 0))) (b - 1) := rfl
    rw [this]; omega
theorem nw_pos {ds : List Nat} : ∀ (j q : Nat), 0 < nwC b st mk ap (zz j ds) q ↔ LdW b (sd0 st ap) (fun s => 0 < nwC b st mk ap ds s) q j
  | 0, q => (LdW.zero (b := b) (st := sd0 st ap) (F := fun s => 0 < nwC b st mk ap ds s)).symm
  | j + 1, q => by
    show 0 < sg (fun d => nwC b st mk ap (zz j ds) (st q (d * ap + 0))) b ↔ _
    rw [sg_pos, LdW.succ]
    exact ⟨fun ⟨d, h1, h2⟩ => ⟨d, h1, (nw_pos j _).mp h2⟩, fun ⟨d, h1, h2⟩ => ⟨d, h1, (nw_pos j _).mpr h2⟩⟩
theorem nz_pos {ds : List Nat} {m : Nat} : 0 < nzC b st mk ap m ds ↔ ∃ t, t < b - 1 ∧ LdW b (sd0 st ap) (fun s => 0 < nwC b st mk ap ds s) (st 0 ((1 + t) * ap)) m := by
  unfold nzC
  rw [sg_pos]
  exact ⟨fun ⟨t, h1, h2⟩ => ⟨t, h1, (nw_pos m _).mp h2⟩, fun ⟨t, h1, h2⟩ => ⟨t, h1, (nw_pos m _).mpr h2⟩⟩
/-- endlessly many -/
def InfC (b n : Nat) (st : Nat → Nat → Nat) (mk : Nat → Nat) (ap : Nat) (ds : List Nat) : Prop := ∃ m, n ≤ m ∧ 0 < nzC b st mk ap m ds
theorem nz_cyc (hcl : ∀ i, i < n → ∀ d, d < b → st i (d * ap) < n) (hn : 0 < n) {ds : List Nat} {m : Nat} (hm : n ≤ m) (h : 0 < nzC b st mk ap m ds) : ∃ c, 1 ≤ c ∧ c ≤ n ∧ 0 < nzC b st mk ap (m - c) ds ∧ 0 < nzC b st mk ap (m + c) ds := by
  obtain ⟨t, h1, h2⟩ := nz_pos.mp h
  obtain ⟨c, c1, c2, c3, c4⟩ := h2.cyc (n := n) hcl (hcl 0 hn _ (by omega)) hm
  exact ⟨c, c1, c2, nz_pos.mpr ⟨t, h1, c3⟩, nz_pos.mpr ⟨t, h1, c4⟩⟩
theorem inf_from (hcl : ∀ i, i < n → ∀ d, d < b → st i (d * ap) < n) (hn : 0 < n) {ds : List Nat} (h : InfC b n st mk ap ds) {k : Nat} (hk : n ≤ k) : ∃ m, k ≤ m ∧ m < k + n ∧ 0 < nzC b st mk ap m ds := by
  have up : ∀ t, ∃ m, n + t ≤ m ∧ 0 < nzC b st mk ap m ds := by
    intro t
    induction t with
    | zero => exact h
    | succ t ih =>
      obtain ⟨m, h1, h2⟩ := ih
      obtain ⟨c, c1, c2, -, c4⟩ := nz_cyc hcl hn (show n ≤ m by omega) h2
      exact ⟨m + c, by omega, c4⟩
  obtain ⟨m0, h1, h2⟩ := up (k - n)
  obtain ⟨m, ⟨h3, h4⟩, h5⟩ := pk_least (fun m => k ≤ m ∧ 0 < nzC b st mk ap m ds) ⟨m0, by omega, h2⟩
  refine ⟨m, h3, ?_, h4⟩
  rcases Nat.lt_or_ge m (k + n) with c | c
  · exact c
  · obtain ⟨c, c1, c2, c3, -⟩ := nz_cyc hcl hn (show n ≤ m by omega) h4
    exact absurd ⟨by omega, c3⟩ (h5 (m - c) (by omega))
/-- how many, as it is told -/
def CtR (b n : Nat) (st : Nat → Nat → Nat) (mk : Nat → Nat) (ap : Nat) (ds : List Nat) (res : Int64) : Prop := (InfC b n st mk ap ds ∧ res = -1) ∨ (¬ InfC b n st mk ap ds ∧ ∃ k, n ≤ k ∧ res = dfA (nwC b st mk ap (zz k ds) 0))
theorem nw_stop (hb : 1 < b) (h00 : st 0 0 = 0) {ds : List Nat} (h : ¬ InfC b n st mk ap ds) {k : Nat} (hk : n ≤ k) : nwC b st mk ap (zz k ds) 0 = nwC b st mk ap (zz n ds) 0 := by
  have : ∀ t, nwC b st mk ap (zz (n + t) ds) 0 = nwC b st mk ap (zz n ds) 0 := by
    intro t
    induction t with
    | zero => rfl
    | succ t ih =>
      rw [← ih, nw_total hb h00 (n + (t + 1)), nw_total hb h00 (n + t)]
      have e : nzC b st mk ap (n + t) ds = 0 := by
        rcases Nat.eq_zero_or_pos (nzC b st mk ap (n + t) ds) with c | c
        · exact c
        · exact absurd ⟨n + t, by omega, c⟩ h
      show _ + (sg (fun m => nzC b st mk ap m ds) (n + t) + nzC b st mk ap (n + t) ds) = _
      rw [e]; omega
  have := this (k - n)
  rw [show n + (k - n) = k by omega] at this
  exact this
theorem CtR.one (hb : 1 < b) (h00 : st 0 0 = 0) {ds : List Nat} {r r' : Int64} (h : CtR b n st mk ap ds r) (h' : CtR b n st mk ap ds r') : r = r' := by
  rcases h with ⟨h1, h2⟩ | ⟨h1, k, h2, h3⟩
  · rcases h' with ⟨g1, g2⟩ | ⟨g1, -⟩
    · rw [h2, g2]
    · exact absurd h1 g1
  · rcases h' with ⟨g1, -⟩ | ⟨-, k', g2, g3⟩
    · exact absurd g1 h1
    · rw [h3, g3, nw_stop hb h00 h1 h2, nw_stop hb h00 h1 g2]
theorem nz_zz {ds : List Nat} {m s : Nat} : nzC b st mk ap m (zz s ds) = nzC b st mk ap (m + s) ds := by unfold nzC; rw [zz_zz]
theorem CtR.shift (hcl : ∀ i, i < n → ∀ d, d < b → st i (d * ap) < n) (hn : 0 < n) {ds : List Nat} {s : Nat} {r : Int64} (h : CtR b n st mk ap (zz s ds) r) : CtR b n st mk ap ds r := by
  have key : InfC b n st mk ap (zz s ds) ↔ InfC b n st mk ap ds := by
    constructor
    · rintro ⟨m, h1, h2⟩
      rw [nz_zz] at h2
      exact ⟨m + s, by omega, h2⟩
    · intro h
      obtain ⟨m, h1, -, h3⟩ := inf_from hcl hn h (k := n + s) (by omega)
      refine ⟨m - s, by omega, ?_⟩
      rw [nz_zz, show m - s + s = m by omega]
      exact h3
  rcases h with ⟨h1, h2⟩ | ⟨h1, k, h2, h3⟩
  · exact Or.inl ⟨key.mp h1, h2⟩
  · refine Or.inr ⟨fun c => h1 (key.mpr c), k + s, by omega, ?_⟩
    rw [h3, zz_zz]
/-- noughts ahead of the digits -/
theorem dD_zz {y r : Nat} (hb : 0 < b) (hy : y < b ^ r) : ∀ k, dD b y (k + r) = zz k (dD b y r)
  | 0 => by rw [Nat.zero_add]; rfl
  | k + 1 => by
    rw [show k + 1 + r = (k + r) + 1 by omega, dD_s, dD_zz hb hy k, zz_s, Nat.div_eq_of_lt (Nat.lt_of_lt_of_le hy ?_), Nat.zero_mod]
    exact Nat.pow_le_pow_right hb (by omega)
theorem cap_add (x y : Nat) : capN (capN x + capN y) = capN (x + y) := by
  unfold capN
  split <;> split <;> split <;> first | rfl | omega | (split <;> omega)
theorem cap_mul (x y : Nat) : capN (capN x * capN y) = capN (x * y) := by
  rcases Nat.eq_zero_or_pos x with c | c
  · subst c; rw [Nat.zero_mul, show capN 0 = 0 from rfl, Nat.zero_mul]; rfl
  rcases Nat.eq_zero_or_pos y with c2 | c2
  · subst c2; rw [Nat.mul_zero, show capN 0 = 0 from rfl, Nat.mul_zero]; rfl
  have h1 : 0 < capN x := by unfold capN; split <;> omega
  have h2 : 0 < capN y := by unfold capN; split <;> omega
  have big : ∀ u v, 4611686018427387905 ≤ u → 0 < v → 4611686018427387905 ≤ u * v := fun u v hu hv => Nat.le_trans hu (Nat.le_mul_of_pos_right u hv)
  have hi : ∀ z, 4611686018427387905 ≤ z → capN z = 4611686018427387905 := fun z hz => by unfold capN; rw [if_neg (by omega)]
  by_cases cx : x ≤ 4611686018427387904
  · by_cases cy : y ≤ 4611686018427387904
    · rw [show capN x = x from if_pos cx, show capN y = y from if_pos cy]
    · have ey : capN y = 4611686018427387905 := if_neg cy
      rw [hi (x * y) (by rw [Nat.mul_comm]; exact big y x (by omega) c), hi (capN x * capN y) (by rw [Nat.mul_comm]; exact big _ _ (by omega) h1)]
  · have ex : capN x = 4611686018427387905 := if_neg cx
    rw [hi (x * y) (big x y (by omega) c2), hi (capN x * capN y) (big _ _ (by omega) h2)]
theorem cap_pos {x : Nat} : 0 < capN x ↔ 0 < x := by unfold capN; split <;> omega
end CountP
