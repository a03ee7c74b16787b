/-! ===== what the machine of a part is ===== -/
section SpecC
/-- a machine: its states, steps, marks -/
abbrev Mc : Type := Nat × (Nat → Nat → Nat) × (Nat → Nat)
def m_n (m : Mc) : Nat := m.1
def m_s (m : Mc) : Nat → Nat → Nat := m.2.1
def m_k (m : Mc) : Nat → Nat := m.2.2
/-- what it tells of a word -/
def m_b (m : Mc) (u : List Nat) : Nat := m_k m (rn (m_s m) 0 u)
def mcan (f : Nat) (m : Mc) (b : List Nat → Nat) : Prop := Can f (m_n m) (m_s m) (m_k m) b
def meq (f : Nat) (m m' : Mc) : Prop := m_n m = m_n m' ∧ ∀ i, i < m_n m → m_k m i = m_k m' i ∧ ∀ g, g < f → m_s m i g = m_s m' i g
theorem mcan_one {f : Nat} {m m' : Mc} {b : List Nat → Nat} (hf : 0 < f) (h : mcan f m b) (h' : mcan f m' b) : meq f m m' := can_unique hf h h'
theorem mcan_self {f : Nat} {m : Mc} {b : List Nat → Nat} (h : mcan f m b) : mcan f m (m_b m) := Can.congr h (fun w hw => (h.2.2.1 w hw).symm)
theorem mcan_b {f : Nat} {m : Mc} {b : List Nat → Nat} (h : mcan f m b) {u : List Nat} (hu : wd f u) : m_b m u = b u := h.2.2.1 u hu
theorem meq_rn {f : Nat} {m m' : Mc} (h : meq f m m') (hc : ∀ i, i < m_n m → ∀ g, g < f → m_s m i g < m_n m) : ∀ (u : List Nat) (i : Nat), wd f u → i < m_n m → rn (m_s m) i u = rn (m_s m') i u
  | [], _, _, _ => rfl
  | g :: u, i, hu, hi => by
    have hg := (wd_tail hu).1
    show rn (m_s m) (m_s m i g) u = rn (m_s m') (m_s m' i g) u
    rw [← (h.2 i hi).2 g hg]
    exact meq_rn h hc u _ (wd_tail hu).2 (hc i hi g hg)
theorem meq_b {f : Nat} {m m' : Mc} (h : meq f m m') (h0 : 0 < m_n m) (hc : ∀ i, i < m_n m → ∀ g, g < f → m_s m i g < m_n m) {u : List Nat} (hu : wd f u) : m_b m u = m_b m' u := by
  unfold m_b
  rw [← meq_rn h hc u 0 hu h0]
  exact (h.2 _ (rn_lt hc u 0 hu h0)).1
/-- the least machine of what is told, unless it has more than so many states -/
def LRes (f most : Nat) (b : List Nat → Nat) (res : Option Mc) : Prop := (∃ m, res = some m ∧ mcan f m b ∧ m_n m ≤ most) ∨ (res = none ∧ ∀ m, mcan f m b → most < m_n m)
theorem LRes.congr {f most : Nat} {b b' : List Nat → Nat} {res : Option Mc} (h : LRes f most b res) (e : ∀ w, wd f w → b w = b' w) : LRes f most b' res := by
  rcases h with ⟨m, h1, h2, h3⟩ | ⟨h1, h2⟩
  · exact Or.inl ⟨m, h1, Can.congr h2 e, h3⟩
  · exact Or.inr ⟨h1, fun m hm => h2 m (Can.congr hm (fun w hw => (e w hw).symm))⟩
def req (f : Nat) (r r' : Option Mc) : Prop := (r = none ∧ r' = none) ∨ ∃ m m', r = some m ∧ r' = some m' ∧ meq f m m'
theorem LRes.one {f most : Nat} {b : List Nat → Nat} {r r' : Option Mc} (hf : 0 < f) (h : LRes f most b r) (h' : LRes f most b r') : req f r r' := by
  rcases h with ⟨m, h1, h2, h3⟩ | ⟨h1, h2⟩
  · rcases h' with ⟨m', g1, g2, g3⟩ | ⟨g1, g2⟩
    · exact Or.inr ⟨m, m', h1, g1, mcan_one hf h2 g2⟩
    · have := g2 m h2; omega
  · rcases h' with ⟨m', g1, g2, g3⟩ | ⟨g1, g2⟩
    · have := h2 m' g2; omega
    · exact Or.inl ⟨h1, g1⟩
theorem LRes.some {f most : Nat} {b : List Nat → Nat} {m : Mc} (h : LRes f most b (some m)) : mcan f m b ∧ m_n m ≤ most := by
  rcases h with ⟨m', h1, h2⟩ | ⟨h1, _⟩
  · cases h1; exact h2
  · cases h1
/-- marks turned -/
theorem Can.turn {f n : Nat} {st : Nat → Nat → Nat} {mk : Nat → Nat} {b : List Nat → Nat} (h : Can f n st mk b) (h1 : ∀ i, i < n → mk i ≤ 1) : Can f n st (fun a => 1 - mk a) (fun u => 1 - b u) := by
  obtain ⟨c1, c2, c3, c4, c5⟩ := h
  refine ⟨c1, c2, fun w hw => by show 1 - mk (rn st 0 w) = 1 - b w; rw [c3 w hw], fun i j hi hj hw => c4 i j hi hj (fun w hw' => ?_), c5⟩
  have a1 := h1 _ (rn_lt c2 w i hw' hi)
  have a2 := h1 _ (rn_lt c2 w j hw' hj)
  have e : 1 - mk (rn st i w) = 1 - mk (rn st j w) := hw w hw'
  omega
theorem pr_tells {b nb al sA sB way : Nat} {sta stb : Nat → Nat → Nat} {ma mb : Nat → Nat} {f : Nat} (hb : ∀ i, i < nb → ∀ g, g < f → stb i (vw b al sB g) < nb) : ∀ (u : List Nat) (x y : Nat), wd f u → y < nb → prM nb way ma mb (dl (prD b nb al sA sB sta stb) (x * nb + y) u) = jn way (ma (rn sta x (u.map (vw b al sA)))) (mb (rn stb y (u.map (vw b al sB))))
  | [], x, y, _, hy => by
    show jn way (ma ((x * nb + y) / nb)) (mb ((x * nb + y) % nb)) = jn way (ma x) (mb y)
    rw [Nat.mul_comm, Nat.mul_add_div (by omega), Nat.div_eq_of_lt hy, Nat.mul_add_mod, Nat.mod_eq_of_lt hy]
    rfl
  | g :: u, x, y, hu, hy => by
    have ih := pr_tells (way := way) (sta := sta) (ma := ma) (mb := mb) (sA := sA) hb u (sta x (vw b al sA g)) (stb y (vw b al sB g)) (wd_tail hu).2 (hb y hy g (wd_tail hu).1)
    have e : prD b nb al sA sB sta stb (x * nb + y) g = sta x (vw b al sA g) * nb + stb y (vw b al sB g) := by
      unfold prD
      rw [Nat.mul_comm x nb, Nat.mul_add_div (by omega), Nat.div_eq_of_lt hy, Nat.mul_add_mod, Nat.mod_eq_of_lt hy]
      rfl
    show prM nb way ma mb (dl (prD b nb al sA sB sta stb) (prD b nb al sA sB sta stb (x * nb + y) g) u) = _
    rw [e, ih]
    rfl
theorem map_wd {f f' : Nat} {v : Nat → Nat} (h : ∀ g, g < f → v g < f') : ∀ u, wd f u → wd f' (u.map v)
  | [], _ => wd_nil
  | g :: u, hu => wd_cons (h g (wd_tail hu).1) (map_wd h u (wd_tail hu).2)
/-! the data of a side: its row, how often each name, its number, its names; of a part: form, place, left, right, sign, names, its sides -/
abbrev SD : Type := Option Nat × (Nat → Nat) × Nat × Nat
def s_r (s : SD) : Option Nat := s.1
def s_t (s : SD) : Nat → Nat := s.2.1
def s_n (s : SD) : Nat := s.2.2.1
def s_s (s : SD) : Nat := s.2.2.2
abbrev PD : Type := Nat × Nat × Nat × Nat × Nat × Nat × SD × SD
def p_f (p : PD) : Nat := p.1
def p_p (p : PD) : Nat := p.2.1
def p_l (p : PD) : Nat := p.2.2.1
def p_r (p : PD) : Nat := p.2.2.2.1
def p_g (p : PD) : Nat := p.2.2.2.2.1
def p_s (p : PD) : Nat := p.2.2.2.2.2.1
def p_a (p : PD) : SD := p.2.2.2.2.2.2.1
def p_b (p : PD) : SD := p.2.2.2.2.2.2.2
/-- what an atom of sums tells -/
def sumB (b : Nat) (P : PD) (u : List Nat) : Nat := cmpI (p_g P) (dz (smZ b (p_s P) (fun n => (s_t (p_a P) n : Int) - (s_t (p_b P) n : Int))) 0 u + ((s_n (p_a P) : Int) - s_n (p_b P)))
/-- the letter of a row behind an index -/
def letB (b : Nat) (R : Nat → Mc) (r : Nat) (s : SD) (u : List Nat) : Nat := m_k (R r) (tz (m_s (R r)) b (ldn b (s_s s) (s_t s)) (tp0 (m_s (R r)) b) u (s_n s))
def bdB (fm : Nat) (m : Mc) (δ : Nat → Nat → Nat) (k0 : Nat) (u : List Nat) : Nat := bdM fm (tkm (m_k m) (m_n m)) (dl δ k0 u)
/-- what the machine of part i is: rows R, parts D, the machines Ms of the parts ahead -/
def PSpec (b : Nat) (R : Nat → Mc) (D : Nat → PD) (Ms : Nat → Mc) (i : Nat) (res : Option Mc) : Prop :=
  (p_f (D i) = 0 → LRes (fn b (p_s (D i))) 40 (sumB b (D i)) res) ∧
  (p_f (D i) = 1 → ∀ r, s_r (p_a (D i)) = some r → ∃ rl, LRes (fn b (s_s (p_a (D i)))) 40 (letB b R r (p_a (D i))) rl ∧ (rl = none → res = none) ∧ ∀ ml, rl = some ml →
    (s_r (p_b (D i)) = none → LRes (fn b (p_s (D i))) 40 (fun u => jn 0 (letB b R r (p_a (D i)) (u.map (vw b (p_s (D i)) (s_s (p_a (D i)))))) (s_n (p_b (D i)))) res) ∧
    (∀ r', s_r (p_b (D i)) = some r' → ∃ rr, LRes (fn b (s_s (p_b (D i)))) 40 (letB b R r' (p_b (D i))) rr ∧ (rr = none → res = none) ∧ ∀ mr, rr = some mr → LRes (fn b (p_s (D i))) 40 (fun u => jn 0 (letB b R r (p_a (D i)) (u.map (vw b (p_s (D i)) (s_s (p_a (D i)))))) (letB b R r' (p_b (D i)) (u.map (vw b (p_s (D i)) (s_s (p_b (D i))))))) res)) ∧
  (p_f (D i) = 2 → LRes (fn b (p_s (D i))) 40 (fun u => 1 - m_b (Ms (p_l (D i))) u) res) ∧
  (3 ≤ p_f (D i) ∧ p_f (D i) ≤ 5 → LRes (fn b (p_s (D i))) 40 (fun u => jn (p_f (D i)) (m_b (Ms (p_l (D i))) (u.map (vw b (p_s (D i)) (p_s (D (p_l (D i))))))) (m_b (Ms (p_r (D i))) (u.map (vw b (p_s (D i)) (p_s (D (p_r (D i)))))))) res) ∧
  (p_f (D i) = 6 ∨ p_f (D i) = 7 → (p_s (D i) = p_s (D (p_l (D i))) → LRes (fn b (p_s (D i))) 40 (m_b (Ms (p_l (D i)))) res) ∧
    (p_s (D i) ≠ p_s (D (p_l (D i))) → ∃ k, cl0 (m_s (Ms (p_l (D i)))) (m_n (Ms (p_l (D i)))) (fn b (p_s (D (p_l (D i))))) (vw b (p_s (D (p_l (D i)))) (p_s (D i))) (k + 1) = cl0 (m_s (Ms (p_l (D i)))) (m_n (Ms (p_l (D i)))) (fn b (p_s (D (p_l (D i))))) (vw b (p_s (D (p_l (D i)))) (p_s (D i))) k ∧
      ((exOver (sp (m_s (Ms (p_l (D i)))) (m_n (Ms (p_l (D i)))) (fn b (p_s (D (p_l (D i))))) (vw b (p_s (D (p_l (D i)))) (p_s (D i)))) (fn b (p_s (D i))) (cl0 (m_s (Ms (p_l (D i)))) (m_n (Ms (p_l (D i)))) (fn b (p_s (D (p_l (D i))))) (vw b (p_s (D (p_l (D i)))) (p_s (D i))) k) ∧ res = none) ∨
       (exDone (sp (m_s (Ms (p_l (D i)))) (m_n (Ms (p_l (D i)))) (fn b (p_s (D (p_l (D i))))) (vw b (p_s (D (p_l (D i)))) (p_s (D i)))) (fn b (p_s (D i))) (cl0 (m_s (Ms (p_l (D i)))) (m_n (Ms (p_l (D i)))) (fn b (p_s (D (p_l (D i))))) (vw b (p_s (D (p_l (D i)))) (p_s (D i))) k) ∧
        LRes (fn b (p_s (D i))) 40 (bdB (p_f (D i)) (Ms (p_l (D i))) (sp (m_s (Ms (p_l (D i)))) (m_n (Ms (p_l (D i)))) (fn b (p_s (D (p_l (D i))))) (vw b (p_s (D (p_l (D i)))) (p_s (D i)))) (cl0 (m_s (Ms (p_l (D i)))) (m_n (Ms (p_l (D i)))) (fn b (p_s (D (p_l (D i))))) (vw b (p_s (D (p_l (D i)))) (p_s (D i))) k)) res))))
theorem sp_congr {st st' : Nat → Nat → Nat} {n F : Nat} {vf : Nat → Nat} (h : ∀ a, a < n → ∀ c, c < F → st a c = st' a c) (S g : Nat) : sp st n F vf S g = sp st' n F vf S g := by
  refine tb_ext (fun j => ?_)
  rw [sp_tb, sp_tb]
  exact ⟨fun ⟨a, c, h1, h2, h3, h4, h5⟩ => ⟨a, c, h1, h2, h3, h4, (h a h1 c h2).symm.trans h5⟩, fun ⟨a, c, h1, h2, h3, h4, h5⟩ => ⟨a, c, h1, h2, h3, h4, (h a h1 c h2).trans h5⟩⟩
theorem cl0_congr {st st' : Nat → Nat → Nat} {n F : Nat} {vf : Nat → Nat} (h : ∀ a, a < n → ∀ c, c < F → st a c = st' a c) : ∀ k, cl0 st n F vf k = cl0 st' n F vf k
  | 0 => rfl
  | k + 1 => by
    show cl0 st n F vf k ||| sp st n F vf (cl0 st n F vf k) 0 = cl0 st' n F vf k ||| sp st' n F vf (cl0 st' n F vf k) 0
    rw [cl0_congr h k, sp_congr h]
theorem tkm_congr {mr mr' : Nat → Nat} : ∀ n, (∀ i, i < n → mr i = mr' i) → tkm mr n = tkm mr' n
  | 0, _ => rfl
  | n + 1, h => by
    show (if mr n = 1 then tkm mr n ||| 2 ^ n else tkm mr n) = (if mr' n = 1 then tkm mr' n ||| 2 ^ n else tkm mr' n)
    rw [h n (by omega), tkm_congr n (fun i hi => h i (by omega))]
theorem ex_congr {δ δ' : Nat → Nat → Nat} {f k0 : Nat} (h : ∀ x g, δ x g = δ' x g) : ∀ c, ex δ f k0 c = ex δ' f k0 c
  | 0 => rfl
  | c + 1 => by
    show ins (ex δ f k0 c) (δ ((ex δ f k0 c).getD (c / f) 0) (c % f)) = ins (ex δ' f k0 c) (δ' ((ex δ' f k0 c).getD (c / f) 0) (c % f))
    rw [ex_congr h c, h]
theorem over_done {δ : Nat → Nat → Nat} {f k0 : Nat} (hf : 0 < f) (h1 : exOver δ f k0) (h2 : exDone δ f k0) : False := by
  obtain ⟨c, hV, hl⟩ := h1
  obtain ⟨c', hc', hV', hl'⟩ := h2
  rcases Nat.lt_or_ge c' c with q | q
  · have := hV c' q
    rw [hc', Nat.mul_div_cancel _ hf] at this
    have e : (ex δ f k0 ((ex δ f k0 c').length * f)).length = (ex δ f k0 c').length := by rw [← hc']
    omega
  · obtain ⟨e, rfl⟩ := Nat.exists_eq_add_of_le q
    have := ex_le (δ := δ) (f := f) (k0 := k0) c e
    omega
/-- what holds of the machines of the parts ahead -/
def MsOK (b : Nat) (D : Nat → PD) (Ms : Nat → Mc) (j : Nat) : Prop := ∃ β, mcan (fn b (p_s (D j))) (Ms j) β ∧ m_n (Ms j) ≤ 40 ∧ (∀ i, i < m_n (Ms j) → m_k (Ms j) i ≤ 1)
theorem LRes.none_eq {f most : Nat} {b : List Nat → Nat} {r r' : Option Mc} (h : req f r r') : r = none ↔ r' = none := by
  rcases h with ⟨h1, h2⟩ | ⟨m, m', h1, h2, _⟩
  · rw [h1, h2]
  · rw [h1, h2]; simp
/-- a part has but one machine -/
theorem PSpec.one {b : Nat} {R R' : Nat → Mc} {D : Nat → PD} {Ms Ms' : Nat → Mc} {i : Nat} {r r' : Option Mc} (hb : 0 < b) (hf8 : p_f (D i) ≤ 7)
    (hsub : p_f (D i) = 6 ∨ p_f (D i) = 7 → True)
    (hR : ∀ q u s, s_r s = some q → (s = p_a (D i) ∨ s = p_b (D i)) → p_f (D i) = 1 → wd (fn b (s_s s)) u → letB b R q s u = letB b R' q s u)
    (hrow : p_f (D i) = 1 → ∃ q, s_r (p_a (D i)) = some q)
    (hvA : ∀ g, vw b (p_s (D i)) (s_s (p_a (D i))) g < fn b (s_s (p_a (D i))))
    (hl : 2 ≤ p_f (D i) → MsOK b D Ms (p_l (D i)) ∧ meq (fn b (p_s (D (p_l (D i))))) (Ms (p_l (D i))) (Ms' (p_l (D i))))
    (hr : 3 ≤ p_f (D i) ∧ p_f (D i) ≤ 5 → MsOK b D Ms (p_r (D i)) ∧ meq (fn b (p_s (D (p_r (D i))))) (Ms (p_r (D i))) (Ms' (p_r (D i))))
    (h2n : p_f (D i) = 2 → p_s (D i) = p_s (D (p_l (D i))))
    (h : PSpec b R D Ms i r) (h' : PSpec b R' D Ms' i r') : req (fn b (p_s (D i))) r r' := by
  obtain ⟨a0, a1, a2, a3, a6⟩ := h
  obtain ⟨b0, b1, b2, b3, b6⟩ := h'
  have hf : 0 < fn b (p_s (D i)) := fn_pos hb
  by_cases c0 : p_f (D i) = 0
  · exact (a0 c0).one hf (b0 c0)
  by_cases c1 : p_f (D i) = 1
  · obtain ⟨q, hq⟩ := hrow c1
    obtain ⟨rl, l1, l2, l3⟩ := a1 c1 q hq
    obtain ⟨rl', k1, k2, k3⟩ := b1 c1 q hq
    have hL := l1.one (fn_pos hb) (k1.congr (fun u hu => (hR q u _ hq (Or.inl rfl) c1 hu).symm))
    rcases hL with ⟨e1, e2⟩ | ⟨m, m', e1, e2, -⟩
    · exact Or.inl ⟨l2 e1, k2 e2⟩
    · obtain ⟨x1, x2⟩ := l3 m e1
      obtain ⟨y1, y2⟩ := k3 m' e2
      have hv1 : ∀ u : List Nat, letB b R q (p_a (D i)) (u.map (vw b (p_s (D i)) (s_s (p_a (D i))))) = letB b R' q (p_a (D i)) (u.map (vw b (p_s (D i)) (s_s (p_a (D i))))) := fun u => hR q _ _ hq (Or.inl rfl) c1 (fun y hy => by
        obtain ⟨g, _, rfl⟩ := List.mem_map.mp hy
        exact vw_lt hb)
      cases hs : s_r (p_b (D i)) with
      | none =>
        refine (x1 hs).one hf ((y1 hs).congr (fun u hu => ?_))
        show jn 0 _ _ = jn 0 _ _
        rw [hv1 u]
      | some q' =>
        obtain ⟨rr, g1, g2, g3⟩ := x2 q' hs
        obtain ⟨rr', f1, f2, f3⟩ := y2 q' hs
        have hRr := g1.one (fn_pos hb) (f1.congr (fun u hu => (hR q' u _ hs (Or.inr rfl) c1 hu).symm))
        rcases hRr with ⟨e1, e2⟩ | ⟨m, m', e1, e2, -⟩
        · exact Or.inl ⟨g2 e1, f2 e2⟩
        · refine (g3 m e1).one hf ((f3 m' e2).congr (fun u hu => ?_))
          show jn 0 _ _ = jn 0 _ _
          rw [hv1 u, hR q' _ _ hs (Or.inr rfl) c1 (fun y hy => by
            obtain ⟨g, _, rfl⟩ := List.mem_map.mp hy
            exact vw_lt hb)]
  obtain ⟨⟨β, hm1, hm2, hm3⟩, hm4⟩ := hl (by omega)
  have hB : ∀ u, wd (fn b (p_s (D (p_l (D i))))) u → m_b (Ms (p_l (D i))) u = m_b (Ms' (p_l (D i))) u := fun u hu => meq_b hm4 hm1.1 hm1.2.1 hu
  by_cases c2 : p_f (D i) = 2
  · refine (a2 c2).one hf ((b2 c2).congr (fun u hu => ?_))
    show 1 - _ = 1 - _
    rw [hB u (by rw [← h2n c2]; exact hu)]
  by_cases c3 : p_f (D i) ≤ 5
  · obtain ⟨⟨β', gm1, gm2, gm3⟩, gm4⟩ := hr ⟨by omega, c3⟩
    refine (a3 ⟨by omega, c3⟩).one hf ((b3 ⟨by omega, c3⟩).congr (fun u hu => ?_))
    show jn _ _ _ = jn _ _ _
    rw [hB _ (fun y hy => by
      obtain ⟨g, _, rfl⟩ := List.mem_map.mp hy
      exact vw_lt hb), meq_b gm4 gm1.1 gm1.2.1 (fun y hy => by
      obtain ⟨g, _, rfl⟩ := List.mem_map.mp hy
      exact vw_lt hb)]
  have c6 : p_f (D i) = 6 ∨ p_f (D i) = 7 := by omega
  obtain ⟨x1, x2⟩ := a6 c6
  obtain ⟨y1, y2⟩ := b6 c6
  by_cases e : p_s (D i) = p_s (D (p_l (D i)))
  · exact (x1 e).one hf ((y1 e).congr (fun u hu => (hB u (by rw [← e]; exact hu)).symm))
  · obtain ⟨k, s1, s2⟩ := x2 e
    obtain ⟨k', t1, t2⟩ := y2 e
    have hst : ∀ a, a < m_n (Ms (p_l (D i))) → ∀ c, c < fn b (p_s (D (p_l (D i)))) → m_s (Ms (p_l (D i))) a c = m_s (Ms' (p_l (D i))) a c := fun a ha c hc => (hm4.2 a ha).2 c hc
    have hn : m_n (Ms' (p_l (D i))) = m_n (Ms (p_l (D i))) := hm4.1.symm
    have htk : tkm (m_k (Ms' (p_l (D i)))) (m_n (Ms' (p_l (D i)))) = tkm (m_k (Ms (p_l (D i)))) (m_n (Ms (p_l (D i)))) := by
      rw [hn]; exact (tkm_congr _ (fun j hj => (hm4.2 j hj).1)).symm
    have hsp : sp (m_s (Ms' (p_l (D i)))) (m_n (Ms' (p_l (D i)))) (fn b (p_s (D (p_l (D i))))) (vw b (p_s (D (p_l (D i)))) (p_s (D i))) = sp (m_s (Ms (p_l (D i)))) (m_n (Ms (p_l (D i)))) (fn b (p_s (D (p_l (D i))))) (vw b (p_s (D (p_l (D i)))) (p_s (D i))) := by
      rw [hn]; funext S g; exact (sp_congr hst S g).symm
    have hcl : ∀ j, cl0 (m_s (Ms' (p_l (D i)))) (m_n (Ms' (p_l (D i)))) (fn b (p_s (D (p_l (D i))))) (vw b (p_s (D (p_l (D i)))) (p_s (D i))) j = cl0 (m_s (Ms (p_l (D i)))) (m_n (Ms (p_l (D i)))) (fn b (p_s (D (p_l (D i))))) (vw b (p_s (D (p_l (D i)))) (p_s (D i))) j := fun j => by
      rw [hn]; exact (cl0_congr hst j).symm
    unfold bdB at s2 t2
    rw [hsp, htk, hcl] at t2
    rw [hcl, hcl] at t1
    rw [← cl0_one s1 t1] at t2
    rcases s2 with ⟨o1, o2⟩ | ⟨o1, o2⟩
    · rcases t2 with ⟨v1, v2⟩ | ⟨v1, v2⟩
      · exact Or.inl ⟨o2, v2⟩
      · exact absurd v1 (fun q => over_done hf o1 q)
    · rcases t2 with ⟨v1, v2⟩ | ⟨v1, v2⟩
      · exact absurd o1 (fun q => over_done hf v1 q)
      · exact o2.one hf v2
end SpecC
