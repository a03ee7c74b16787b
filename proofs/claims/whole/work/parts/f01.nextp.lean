/-! ===== the least number above another that is taken: pure ===== -/
section NextP
variable {b n : Nat} {st : Nat → Nat → Nat} {mk : Nat → Nat} {F : Nat → Prop}
theorem pigeon : ∀ (n : Nat) (f : Nat → Nat), (∀ i, i ≤ n → f i < n) → ∃ i j, i < j ∧ j ≤ n ∧ f i = f j
  | 0, f, h => absurd (h 0 (Nat.le_refl 0)) (Nat.not_lt_zero _)
  | n + 1, f, h => by
    by_cases c : ∃ i, i ≤ n ∧ f i = f (n + 1)
    · obtain ⟨i, h1, h2⟩ := c
      exact ⟨i, n + 1, by omega, Nat.le_refl _, h2⟩
    · have hne : ∀ i, i ≤ n → f i ≠ f (n + 1) := fun i hi e => c ⟨i, hi, e⟩
      have hv := h (n + 1) (Nat.le_refl _)
      obtain ⟨i, j, h1, h2, h3⟩ := pigeon n (fun i => if f (n + 1) < f i then f i - 1 else f i) (fun i hi => by
        have h4 := h i (by omega)
        have h5 := hne i hi
        show (if f (n + 1) < f i then f i - 1 else f i) < n
        split <;> omega)
      refine ⟨i, j, h1, by omega, ?_⟩
      have h4 := hne i (by omega)
      have h5 := hne j h2
      have h3' : (if f (n + 1) < f i then f i - 1 else f i) = (if f (n + 1) < f j then f j - 1 else f j) := h3
      split at h3' <;> split at h3' <;> omega
/-- r digits lead from q to a state of F -/
def LdW (b : Nat) (st : Nat → Nat → Nat) (F : Nat → Prop) (q r : Nat) : Prop := ∃ w : List Nat, w.length = r ∧ wd b w ∧ F (rn st q w)
theorem LdW.zero {q : Nat} : LdW b st F q 0 ↔ F q := by
  refine ⟨fun ⟨w, h1, _, h3⟩ => ?_, fun h => ⟨[], rfl, wd_nil, h⟩⟩
  rw [List.eq_nil_of_length_eq_zero h1] at h3
  exact h3
theorem LdW.succ {q r : Nat} : LdW b st F q (r + 1) ↔ ∃ d, d < b ∧ LdW b st F (st q d) r := by
  refine ⟨fun ⟨w, h1, h2, h3⟩ => ?_, fun ⟨d, hd, w, h1, h2, h3⟩ => ⟨d :: w, by rw [List.length_cons, h1], wd_cons hd h2, h3⟩⟩
  cases w with
  | nil => simp at h1
  | cons d w => exact ⟨d, h2 d List.mem_cons_self, w, by simpa using h1, fun x hx => h2 x (List.mem_cons_of_mem _ hx), h3⟩
theorem wd_take {w : List Nat} (h : wd b w) (i : Nat) : wd b (w.take i) := fun d hd => h d (List.mem_of_mem_take hd)
theorem wd_drop {w : List Nat} (h : wd b w) (i : Nat) : wd b (w.drop i) := fun d hd => h d (List.mem_of_mem_drop hd)
theorem wd_app {w v : List Nat} (h : wd b w) (h' : wd b v) : wd b (w ++ v) := fun d hd => (List.mem_append.mp hd).elim (h d) (h' d)
theorem LdW.cyc (hcl : ∀ i, i < n → ∀ d, d < b → st i d < n) {q r : Nat} (hq : q < n) (hr : n ≤ r) (h : LdW b st F q r) : ∃ c, 1 ≤ c ∧ c ≤ n ∧ LdW b st F q (r - c) ∧ LdW b st F q (r + c) := by
  obtain ⟨w, h1, h2, h3⟩ := h
  obtain ⟨i, j, hij, hj, e⟩ := pigeon n (fun i => rn st q (w.take i)) (fun i _ => rn_lt hcl _ q (wd_take h2 i) hq)
  have ei : rn st (rn st q (w.take i)) (w.drop i) = rn st q w := by rw [← rn_app, List.take_append_drop]
  have ej : rn st (rn st q (w.take j)) (w.drop j) = rn st q w := by rw [← rn_app, List.take_append_drop]
  have e' : rn st q (w.take i) = rn st q (w.take j) := e
  refine ⟨j - i, by omega, by omega, ⟨w.take i ++ w.drop j, ?_, wd_app (wd_take h2 _) (wd_drop h2 _), ?_⟩, ⟨w.take j ++ w.drop i, ?_, wd_app (wd_take h2 _) (wd_drop h2 _), ?_⟩⟩
  · rw [List.length_append, List.length_take, List.length_drop, h1]; omega
  · rw [rn_app, e', ej]; exact h3
  · rw [List.length_append, List.length_take, List.length_drop, h1]; omega
  · rw [rn_app, ← e', ei]; exact h3
/-- whether some of the first digits is so -/
def anyD (f : Nat → Nat) : Nat → Nat
  | 0 => 0
  | k + 1 => if f k = 1 then 1 else anyD f k
theorem anyD_le {f : Nat → Nat} : ∀ k, anyD f k ≤ 1
  | 0 => by show 0 ≤ 1; omega
  | k + 1 => by
    show (if f k = 1 then 1 else anyD f k) ≤ 1
    have := anyD_le (f := f) k
    split <;> omega
theorem anyD_1 {f : Nat → Nat} : ∀ k, anyD f k = 1 ↔ ∃ d, d < k ∧ f d = 1
  | 0 => ⟨fun h => absurd (show (0 : Nat) = 1 from h) (by omega), fun ⟨d, h, _⟩ => absurd h (Nat.not_lt_zero _)⟩
  | k + 1 => by
    show (if f k = 1 then 1 else anyD f k) = 1 ↔ _
    by_cases c : f k = 1
    · rw [if_pos c]; exact ⟨fun _ => ⟨k, by omega, c⟩, fun _ => rfl⟩
    · rw [if_neg c, anyD_1 k]
      refine ⟨fun ⟨d, h1, h2⟩ => ⟨d, by omega, h2⟩, fun ⟨d, h1, h2⟩ => ⟨d, ?_, h2⟩⟩
      have : d ≠ k := fun e => c (by rw [← e]; exact h2)
      omega
/-- whether r digits lead on from q -/
def ldB (b : Nat) (st : Nat → Nat → Nat) (mk : Nat → Nat) : Nat → Nat → Nat
  | 0, q => mk q
  | r + 1, q => anyD (fun d => ldB b st mk r (st q d)) b
theorem ldB_1 : ∀ (r q : Nat), ldB b st mk r q = 1 ↔ LdW b st (fun s => mk s = 1) q r
  | 0, q => (LdW.zero (b := b) (st := st) (F := fun s => mk s = 1)).symm
  | r + 1, q => by
    show anyD (fun d => ldB b st mk r (st q d)) b = 1 ↔ _
    rw [anyD_1, LdW.succ]
    exact ⟨fun ⟨d, h1, h2⟩ => ⟨d, h1, (ldB_1 r _).mp h2⟩, fun ⟨d, h1, h2⟩ => ⟨d, h1, (ldB_1 r _).mpr h2⟩⟩
theorem ldB_le (hk : ∀ i, i < n → mk i ≤ 1) : ∀ (r q : Nat), q < n → ldB b st mk r q ≤ 1
  | 0, q, h => hk q h
  | r + 1, q, _ => anyD_le b
/-- the r lowest digits -/
abbrev dD (b y r : Nat) : List Nat := rw_ b 1 y 0 0 r
theorem dD_s {y r : Nat} : dD b y (r + 1) = (y / b ^ r % b) :: dD b y r := rfl
theorem dD_len {y : Nat} : ∀ r, (dD b y r).length = r
  | 0 => rfl
  | r + 1 => by rw [dD_s, List.length_cons, dD_len r]
theorem dD_wd {y : Nat} (hb : 1 < b) (r : Nat) : wd b (dD b y r) := by
  have := rw_wd (b := b) (mn := 1) (x := y) (y := 0) (z := 0) hb (by omega) r
  rwa [Nat.pow_one] at this
theorem dD_mod {y r : Nat} (hb : 1 < b) : ∀ k, k ≤ r → dD b (y % b ^ r) k = dD b y k
  | 0, _ => rfl
  | k + 1, h => by
    rw [dD_s, dD_s, dD_mod hb k (by omega)]
    congr 1
    have e : b ^ r = b ^ k * b ^ (r - k) := by rw [← Nat.pow_add]; congr 1; omega
    rw [e, Nat.mod_mul_right_div_self, Nat.mod_mod_of_dvd _ (by
      have : b ^ (r - k) = b * b ^ (r - k - 1) := by rw [← Nat.pow_succ']; congr 1; omega
      rw [this]; exact Nat.dvd_mul_right _ _)]
theorem dD_app {x r : Nat} : ∀ k, dD b x (k + r) = dD b (x / b ^ r) k ++ dD b x r
  | 0 => by rw [Nat.zero_add]; rfl
  | k + 1 => by
    rw [show k + 1 + r = (k + r) + 1 by omega, dD_s, dD_app k, dD_s, Nat.div_div_eq_div_mul, ← Nat.pow_add, Nat.add_comm r k]
    rfl
/-- y, of r digits, is taken from q on -/
def accq (b : Nat) (st : Nat → Nat → Nat) (mk : Nat → Nat) (q r y : Nat) : Prop := y < b ^ r ∧ mk (rn st q (dD b y r)) = 1
def LeastN (b : Nat) (st : Nat → Nat → Nat) (mk : Nat → Nat) (q r y : Nat) : Prop := accq b st mk q r y ∧ ∀ z, accq b st mk q r z → y ≤ z
theorem accq.ld {q r y : Nat} (hb : 1 < b) (h : accq b st mk q r y) : LdW b st (fun s => mk s = 1) q r := ⟨dD b y r, dD_len r, dD_wd hb r, h.2⟩
theorem accq_s {q r y : Nat} (hb : 1 < b) (h : accq b st mk q (r + 1) y) : y / b ^ r < b ∧ accq b st mk (st q (y / b ^ r)) r (y % b ^ r) := by
  have hp : 0 < b ^ r := Nat.pow_pos (by omega)
  have h1 : y / b ^ r < b := Nat.div_lt_of_lt_mul (by rw [← Nat.pow_succ]; exact h.1)
  refine ⟨h1, Nat.mod_lt _ hp, ?_⟩
  have h2 := h.2
  rw [dD_s, Nat.mod_eq_of_lt h1] at h2
  rw [dD_mod hb r (Nat.le_refl _)]
  exact h2
theorem accq_c {q r d y : Nat} (hb : 1 < b) (hd : d < b) (h : accq b st mk (st q d) r y) : accq b st mk q (r + 1) (d * b ^ r + y) := by
  have hp : 0 < b ^ r := Nat.pow_pos (by omega)
  have hy := h.1
  have hm : (d + 1) * b ^ r ≤ b * b ^ r := Nat.mul_le_mul_right _ hd
  rw [Nat.succ_mul] at hm
  have e1 : (d * b ^ r + y) / b ^ r = d := by rw [Nat.mul_comm, Nat.mul_add_div hp, Nat.div_eq_of_lt hy]; rfl
  have e2 : (d * b ^ r + y) % b ^ r = y := by rw [Nat.mul_comm, Nat.mul_add_mod]; exact Nat.mod_eq_of_lt hy
  refine ⟨by rw [Nat.pow_succ, Nat.mul_comm (b ^ r) b]; omega, ?_⟩
  rw [dD_s, e1, Nat.mod_eq_of_lt hd, ← dD_mod hb r (Nat.le_refl _), e2]
  exact h.2
theorem LeastN.step {q r d y : Nat} (hb : 1 < b) (hd : d < b) (hno : ∀ d', d' < d → ¬ LdW b st (fun s => mk s = 1) (st q d') r) (h : LeastN b st mk (st q d) r y) : LeastN b st mk q (r + 1) (d * b ^ r + y) := by
  refine ⟨accq_c hb hd h.1, fun z hz => ?_⟩
  obtain ⟨z1, z2⟩ := accq_s hb hz
  have hge : d ≤ z / b ^ r := by
    rcases Nat.lt_or_ge (z / b ^ r) d with c | c
    · exact absurd (z2.ld hb) (hno _ c)
    · exact c
  have ez : z = z / b ^ r * b ^ r + z % b ^ r := by rw [Nat.mul_comm]; exact (Nat.div_add_mod z (b ^ r)).symm
  rcases Nat.lt_or_ge d (z / b ^ r) with c | c
  · have hm : (d + 1) * b ^ r ≤ z / b ^ r * b ^ r := Nat.mul_le_mul_right _ c
    rw [Nat.succ_mul] at hm
    have := h.1.1
    generalize z / b ^ r * b ^ r = X at hm ez
    generalize z % b ^ r = Y at ez
    omega
  · have e : z / b ^ r = d := by omega
    rw [e] at z2 ez
    have := h.2 _ z2
    omega
theorem LeastN.zero {q : Nat} (h : mk q = 1) : LeastN b st mk q 0 0 := ⟨⟨by rw [Nat.pow_zero]; omega, h⟩, fun z _ => Nat.zero_le z⟩
/-- the state behind a number -/
def svN (b : Nat) (st : Nat → Nat → Nat) (p : Nat) : Nat := rn st 0 (dD b p p)
theorem lt_pw (hb : 1 < b) (p : Nat) : p < b ^ p := Nat.lt_of_lt_of_le Nat.lt_two_pow_self (Nat.pow_le_pow_left hb p)
theorem svN_eq (hb : 1 < b) (h00 : st 0 0 = 0) {p k : Nat} (hk : p < b ^ k) : rn st 0 (dD b p k) = svN b st p := by
  have hp := lt_pw hb p
  have z0 : ∀ e, 0 < b ^ e := fun e => Nat.pow_pos (by omega)
  have h1 := rw_lead (mn := 1) (x := p) (y := 0) (z := 0) (e := k) h00 hk (z0 k) (z0 k) hb p
  have h2 := rw_lead (mn := 1) (x := p) (y := 0) (z := 0) (e := p) h00 hp (z0 p) (z0 p) hb k
  rw [Nat.add_comm p k] at h2
  exact h1.symm.trans h2
theorem svN_0 : svN b st 0 = 0 := rfl
theorem svN_s (hb : 1 < b) (h00 : st 0 0 = 0) {p d : Nat} (hd : d < b) : svN b st (b * p + d) = st (svN b st p) d := by
  have hp := lt_pw hb p
  have hlt : b * p + d < b ^ (p + 1) := by
    have : b * (p + 1) ≤ b * b ^ p := Nat.mul_le_mul_left b hp
    rw [Nat.pow_succ, Nat.mul_comm (b ^ p) b]
    rw [Nat.mul_succ] at this
    omega
  have e1 : (b * p + d) / b ^ 1 = p := by rw [Nat.pow_one, Nat.mul_add_div (by omega), Nat.div_eq_of_lt hd]; rfl
  have e2 : (b * p + d) / b ^ 0 % b = d := by rw [Nat.pow_zero, Nat.div_one, Nat.mul_add_mod]; exact Nat.mod_eq_of_lt hd
  rw [← svN_eq hb h00 hlt, dD_app, e1, rn_app, svN_eq hb h00 hp, dD_s, e2]
  rfl
theorem svN_split (hb : 1 < b) (h00 : st 0 0 = 0) (x e : Nat) : svN b st x = rn st (svN b st (x / b ^ e)) (dD b (x % b ^ e) e) := by
  have hp : 0 < b ^ e := Nat.pow_pos (by omega)
  have hx := lt_pw hb x
  have hle : x / b ^ e ≤ x := Nat.div_le_self _ _
  have h1 : x < b ^ (x + e) := by
    rw [Nat.pow_add]
    exact Nat.lt_of_lt_of_le hx (Nat.le_mul_of_pos_right _ hp)
  rw [← svN_eq hb h00 h1, dD_app, rn_app, svN_eq hb h00 (show x / b ^ e < b ^ x by omega), dD_mod hb e (Nat.le_refl _)]
def acG (b : Nat) (st : Nat → Nat → Nat) (mk : Nat → Nat) (x : Nat) : Prop := mk (svN b st x) = 1
theorem acG_q (hb : 1 < b) (h00 : st 0 0 = 0) {x : Nat} (e : Nat) : acG b st mk x ↔ accq b st mk (svN b st (x / b ^ e)) e (x % b ^ e) := by
  unfold acG accq
  rw [svN_split hb h00 x e]
  exact ⟨fun h => ⟨Nat.mod_lt _ (Nat.pow_pos (by omega)), h⟩, fun h => h.2⟩
/-- the digit d, above that of A, can stand at the place e -/
def nxC (b : Nat) (st : Nat → Nat → Nat) (mk : Nat → Nat) (A e d : Nat) : Prop := A / b ^ e % b < d ∧ d < b ∧ LdW b st (fun s => mk s = 1) (st (svN b st (A / b ^ (e + 1))) d) e
theorem dv_s {x e : Nat} : x / b ^ e = b * (x / b ^ (e + 1)) + x / b ^ e % b := by
  rw [Nat.pow_succ, ← Nat.div_div_eq_div_mul]
  exact (Nat.div_add_mod _ _).symm
theorem nx_gap (hb : 1 < b) (h00 : st 0 0 = 0) {A x : Nat} (hx : A < x) (ha : acG b st mk x) : ∃ e, x / b ^ (e + 1) = A / b ^ (e + 1) ∧ nxC b st mk A e (x / b ^ e % b) := by
  have find : ∀ N, x / b ^ N = A / b ^ N → ∃ e, x / b ^ (e + 1) = A / b ^ (e + 1) ∧ x / b ^ e ≠ A / b ^ e := by
    intro N
    induction N with
    | zero => intro h; rw [Nat.pow_zero, Nat.div_one, Nat.div_one] at h; omega
    | succ N ih =>
      intro h
      by_cases c : x / b ^ N = A / b ^ N
      · exact ih c
      · exact ⟨N, h, c⟩
  obtain ⟨e, h1, h2⟩ := find x (by rw [Nat.div_eq_of_lt (lt_pw hb x), Nat.div_eq_of_lt (Nat.lt_trans hx (lt_pw hb x))])
  have h3 : A / b ^ e ≤ x / b ^ e := Nat.div_le_div_right (by omega)
  have e1 := dv_s (b := b) (x := x) (e := e)
  have e2 := dv_s (b := b) (x := A) (e := e)
  rw [h1] at e1
  refine ⟨e, h1, by omega, Nat.mod_lt _ (by omega), ?_⟩
  have hq := ((acG_q hb h00 (e + 1)).mp ha)
  rw [h1] at hq
  obtain ⟨-, q2⟩ := accq_s hb hq
  have : x % b ^ (e + 1) / b ^ e = x / b ^ e % b := by rw [Nat.pow_succ, Nat.mod_mul_right_div_self]
  rw [this] at q2
  exact q2.ld hb
theorem nx_found (hb : 1 < b) (h00 : st 0 0 = 0) {A e d y : Nat} (hd1 : A / b ^ e % b < d) (hd : d < b) (hleast : ∀ d', d' < d → ¬ nxC b st mk A e d') (hno : ∀ e', e' < e → ∀ d', ¬ nxC b st mk A e' d') (hy : LeastN b st mk (st (svN b st (A / b ^ (e + 1))) d) e y) :
    A < A / b ^ (e + 1) * b ^ (e + 1) + (d * b ^ e + y) ∧ acG b st mk (A / b ^ (e + 1) * b ^ (e + 1) + (d * b ^ e + y)) ∧ ∀ x, A < x → acG b st mk x → A / b ^ (e + 1) * b ^ (e + 1) + (d * b ^ e + y) ≤ x := by
  have hp : 0 < b ^ e := Nat.pow_pos (by omega)
  have hp1 : 0 < b ^ (e + 1) := Nat.pow_pos (by omega)
  have hq := accq_c hb hd hy.1
  have hlt := hq.1
  generalize hP : A / b ^ (e + 1) = P at *
  have e1 : (P * b ^ (e + 1) + (d * b ^ e + y)) / b ^ (e + 1) = P := by rw [Nat.mul_comm P, Nat.mul_add_div hp1, Nat.div_eq_of_lt hlt]; rfl
  have e2 : (P * b ^ (e + 1) + (d * b ^ e + y)) % b ^ (e + 1) = d * b ^ e + y := by rw [Nat.mul_comm P, Nat.mul_add_mod]; exact Nat.mod_eq_of_lt hlt
  have eA : A = P * b ^ (e + 1) + A % b ^ (e + 1) := by rw [← hP, Nat.mul_comm]; exact (Nat.div_add_mod _ _).symm
  have eA2 : A % b ^ (e + 1) = A / b ^ e % b * b ^ e + A % b ^ e := by
    have h1 := Nat.div_add_mod (A % b ^ (e + 1)) (b ^ e)
    rw [Nat.pow_succ, Nat.mod_mul_right_div_self, Nat.mod_mul_right_mod] at h1
    rw [Nat.pow_succ, ← h1, Nat.mul_comm (b ^ e) (A / b ^ e % b)]
  have hAe : A % b ^ e < b ^ e := Nat.mod_lt _ hp
  have hm : (A / b ^ e % b + 1) * b ^ e ≤ d * b ^ e := Nat.mul_le_mul_right _ hd1
  rw [Nat.succ_mul] at hm
  refine ⟨by omega, (acG_q hb h00 (e + 1)).mpr (by rw [e1, e2]; exact hq), fun x hx ha => ?_⟩
  obtain ⟨e', g1, g2⟩ := nx_gap hb h00 hx ha
  rcases Nat.lt_trichotomy e' e with c | c | c
  · exact absurd g2 (hno e' c _)
  · subst c
    rw [hP] at g1
    have hqx := (acG_q hb h00 (e' + 1)).mp ha
    rw [g1] at hqx
    have ex : x = P * b ^ (e' + 1) + x % b ^ (e' + 1) := by rw [← g1, Nat.mul_comm]; exact (Nat.div_add_mod _ _).symm
    obtain ⟨q1, q2⟩ := accq_s hb hqx
    have em : x % b ^ (e' + 1) / b ^ e' = x / b ^ e' % b := by rw [Nat.pow_succ, Nat.mod_mul_right_div_self]
    have ez : x % b ^ (e' + 1) = x % b ^ (e' + 1) / b ^ e' * b ^ e' + x % b ^ (e' + 1) % b ^ e' := by rw [Nat.mul_comm]; exact (Nat.div_add_mod _ _).symm
    rw [em] at q1 q2 ez
    have hge : d ≤ x / b ^ e' % b := by
      rcases Nat.lt_or_ge (x / b ^ e' % b) d with c | c
      · exact absurd g2 (hleast _ c)
      · exact c
    rcases Nat.lt_or_ge d (x / b ^ e' % b) with c | c
    · have hm2 : (d + 1) * b ^ e' ≤ x / b ^ e' % b * b ^ e' := Nat.mul_le_mul_right _ c
      rw [Nat.succ_mul] at hm2
      have := hy.1.1
      generalize x / b ^ e' % b * b ^ e' = X at hm2 ez
      generalize x % b ^ (e' + 1) % b ^ e' = Y at ez
      generalize x % b ^ (e' + 1) = Z at ez ex
      omega
    · have ed : x / b ^ e' % b = d := by omega
      rw [ed] at q2 ez
      have := hy.2 _ q2
      omega
  · have f1 := dv_s (b := b) (x := x) (e := e')
    have f2 := dv_s (b := b) (x := A) (e := e')
    rw [g1] at f1
    have g3 := g2.1
    have e3 : (P * b ^ (e + 1) + (d * b ^ e + y)) / b ^ e' = A / b ^ e' := by
      have : b ^ e' = b ^ (e + 1) * b ^ (e' - (e + 1)) := by rw [← Nat.pow_add]; congr 1; omega
      rw [this, ← Nat.div_div_eq_div_mul, e1, ← Nat.div_div_eq_div_mul, hP]
    rcases Nat.lt_or_ge x (P * b ^ (e + 1) + (d * b ^ e + y)) with c2 | c2
    · have := Nat.div_le_div_right (c := b ^ e') (Nat.le_of_lt c2)
      rw [e3] at this
      omega
    · exact c2
theorem nx_none (hb : 1 < b) (h00 : st 0 0 = 0) (hn : 0 < n) (hcl : ∀ i, i < n → ∀ d, d < b → st i d < n) {A l E : Nat} (hA : A < b ^ l) (hE : l + n ≤ E) (hno : ∀ e, e < E → ∀ d, ¬ nxC b st mk A e d) : ∀ x, A < x → ¬ acG b st mk x := by
  have all : ∀ e, ∀ d, ¬ nxC b st mk A e d := by
    intro e
    induction e using Nat.strongRecOn with
    | ind e ih =>
      intro d h
      rcases Nat.lt_or_ge e E with c | c
      · exact hno e c d h
      · have z : ∀ k, l ≤ k → A / b ^ k = 0 := fun k hk => Nat.div_eq_of_lt (Nat.lt_of_lt_of_le hA (Nat.pow_le_pow_right (by omega) hk))
        obtain ⟨h1, h2, h3⟩ := h
        rw [z (e + 1) (by omega), svN_0] at h3
        rw [z e (by omega)] at h1
        obtain ⟨c, c1, c2, c3, -⟩ := h3.cyc hcl (hcl 0 hn d h2) (by omega)
        refine ih (e - c) (by omega) d ⟨by rw [z (e - c) (by omega)]; exact h1, h2, ?_⟩
        rw [z (e - c + 1) (by omega), svN_0]
        exact c3
  intro x hx ha
  obtain ⟨e, -, h⟩ := nx_gap hb h00 hx ha
  exact all e _ h
/-- what next tells: the least number, from a on, that is taken -/
def NxR (b : Nat) (st : Nat → Nat → Nat) (mk : Nat → Nat) (a : Nat) (res : Int64) : Prop := (∃ x, a ≤ x ∧ acG b st mk x ∧ (∀ y, a ≤ y → y < x → ¬ acG b st mk y) ∧ res = dfA x) ∨ ((∀ y, a ≤ y → ¬ acG b st mk y) ∧ res = -1)
theorem NxR.one {a : Nat} {r r' : Int64} (h : NxR b st mk a r) (h' : NxR b st mk a r') : r = r' := by
  rcases h with ⟨x, h1, h2, h3, h4⟩ | ⟨h1, h2⟩
  · rcases h' with ⟨x', g1, g2, g3, g4⟩ | ⟨g1, g2⟩
    · rcases Nat.lt_trichotomy x x' with c | c | c
      · exact absurd h2 (g3 x h1 c)
      · rw [h4, g4, c]
      · exact absurd g2 (h3 x' g1 c)
    · exact absurd h2 (g1 x h1)
  · rcases h' with ⟨x', g1, g2, g3, g4⟩ | ⟨g1, g2⟩
    · exact absurd g2 (h1 x' g1)
    · rw [h2, g2]
theorem NxR.gt {A : Nat} {res : Int64} (hA : ¬ acG b st mk A) (h : NxR b st mk (A + 1) res) : NxR b st mk A res := by
  have up : ∀ y, A ≤ y → acG b st mk y → A + 1 ≤ y := fun y hy ha => by
    rcases Nat.lt_or_ge A y with c | c
    · exact c
    · have : y = A := by omega
      subst this
      exact absurd ha hA
  rcases h with ⟨x, h1, h2, h3, h4⟩ | ⟨h1, h2⟩
  · exact Or.inl ⟨x, by omega, h2, fun y hy hyx ha => h3 y (up y hy ha) hyx ha, h4⟩
  · exact Or.inr ⟨fun y hy ha => h1 y (up y hy ha) ha, h2⟩
/-- above the top all are one -/
def capN (x : Nat) : Nat := if x ≤ 4611686018427387904 then x else 4611686018427387905
theorem capN_le (x : Nat) : capN x ≤ 4611686018427387905 := by unfold capN; split <;> omega
theorem lgr_cap {v d : Nat} (hb : 1 < b) (hb3 : b ≤ 3) (hd : d < b) : lgr b (capN v) d = capN (b * v + d) := by
  have key : ∀ u, u ≤ (4611686018427387904 - d) / b ↔ b * u + d ≤ 4611686018427387904 := fun u => by
    rw [Nat.le_div_iff_mul_le (by omega), Nat.mul_comm]
    omega
  unfold lgr
  simp only [key]
  unfold capN
  by_cases c : v ≤ 4611686018427387904
  · rw [if_pos c]
  · rw [if_neg c, if_neg, if_neg]
    · rcases (show b = 2 ∨ b = 3 by omega) with rfl | rfl <;> omega
    · rcases (show b = 2 ∨ b = 3 by omega) with rfl | rfl <;> omega
theorem dfA_cap (x : Nat) : (if capN x ≤ 4611686018427387904 then lN (capN x) else -3) = dfA x := by
  unfold dfA capN
  by_cases c : x ≤ 4611686018427387904
  · rw [if_pos c, if_pos c]
  · rw [if_neg c, if_neg (by omega), if_neg c]
end NextP
