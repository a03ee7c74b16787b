/-! ===== Reckoner: the least number above another ===== -/
section CReckC
variable {G : GG} {M : Mem} {r o mv mk n b : Nat} {st : Nat → Nat → Nat} {mr : Nat → Nat} {Q : Option Value → Mem → Prop}
/-- the machine that is asked -/
def RkM (M : Mem) (o mv mk n b : Nat) (st : Nat → Nat → Nat) (mr : Nat → Nat) : Prop := LeS M o mv mk 1080 40 ∧ LeI M o mv mk n b st mr
def RkG (r o mv mk n b : Nat) (st : Nat → Nat → Nat) (mr : Nat → Nat) : Prop := (b = 2 ∨ b = 3) ∧ 0 < n ∧ n ≤ 40 ∧ (∀ i, i < n → ∀ g, g < b → st i g < n) ∧ (∀ i, i < n → mr i ≤ 1) ∧ st 0 0 = 0 ∧ ∀ q ∈ [o, mv, mk], q < r ∨ r + 9 < q
theorem RkM.fr {M' : Mem} {A : List Nat} (h : RkM M o mv mk n b st mr) (hg : RkG r o mv mk n b st mr) (g : Fr M M' A) (hA : ∀ q ∈ A, r ≤ q ∧ q ≤ r + 9) : RkM M' o mv mk n b st mr := ⟨h.1.fF g, h.2.fF g (fun q hq c => by have := hg.2.2.2.2.2.2 q hq; have := hA q c; omega)⟩
def OpI (M : Mem) (r n b : Nat) (st : Nat → Nat → Nat) (mr : Nat → Nat) (k : Nat) : Prop := x_l M (r + 4) k = lN (tkm (ldB b st mr k) n)
theorem nI_le0 {n : Nat} (h : n < 2 ^ 31) : nI n ≤ 0 ↔ n = 0 := by
  rw [show (0 : Int32) = nI 0 from rfl, nI_leI h (by omega)]
  omega
theorem w_openDigit (d : Nat) (hr : RkS M r) (hg : RkG r o mv mk n b st mr) (hm : RkM M o mv mk n b st mr) {q f rest : Nat} (hop : OpI M r n b st mr rest) (hrest : rest < 106) (hq : q < n) (hf : f ≤ b)
    (hQ1 : ∀ g, f ≤ g → g < b → LdW b st (fun s => mr s = 1) (st q g) rest → (∀ g', f ≤ g' → g' < g → ¬ LdW b st (fun s => mr s = 1) (st q g') rest) → Q (some (.int (nI g))) M)
    (hQ0 : (∀ g', f ≤ g' → g' < b → ¬ LdW b st (fun s => mr s = 1) (st q g') rest) → Q (some (.int (-1))) M) : Call G (d + 2) 0 0 mX6_openDigit [.ref r, .ref o, .int (nI q), .int (nI f), .int (nI rest), .int (nI b)] M Q := by
  obtain ⟨hb, hn0, hn40, hcl, hk1, h00, hod⟩ := id hg
  obtain ⟨k1, k2, -, -, -, k4, k5, k6, -⟩ := id hr
  have hnb : n * b ≤ 1080 := by
    have : n * b ≤ 40 * 3 := Nat.mul_le_mul hn40 (by omega)
    omega
  have key : ∀ k g, g + k = b → f ≤ g → (∀ g', f ≤ g' → g' < g → ¬ LdW b st (fun s => mr s = 1) (st q g') rest) → LX6_openDigit_3 G (d + 1) 0 0 r o (nI q) (nI f) (nI rest) (nI b) (nI g) M Q := by
    intro k
    induction k with
    | zero =>
      intro g hk hfg hno
      have e : g = b := by omega
      subst e
      exact vX6_openDigit_3 _ _ _ _ _ _ _ ⟨fun _ => hQ0 hno, fun c => absurd (nI_le (Nat.le_refl _) (by omega)) c⟩
    | succ k ih =>
      intro g hk hfg hno
      have hgb : g < b := by omega
      have hsg := hcl q hq g hgb
      refine vX6_openDigit_3 _ _ _ _ _ _ _ ⟨fun c => absurd c (nI_ge (a := g) (b := b) hgb (by omega)), fun _ => ⟨k1, r + 4, k2 3 (by omega), by rw [k4]; exact ⟨by decide, by decide⟩, ?_⟩⟩
      rw [k4]
      refine w_within d (i := rest) (n := 106) (by omega) (by omega) ?_
      rw [if_pos hrest]
      refine ⟨nI 1, rfl, fun c => absurd c (by decide), fun _ => ⟨k1, r + 4, k2 3 (by omega), by rw [k4], by rw [k4]; exact vp_in_nI hrest (by omega), hm.1.1, ?_⟩⟩
      refine w_afterC d hm.1 hm.2 hnb hq hgb ⟨_, rfl, ?_⟩
      have hop' : x_l M (r + 4) rest = lN (tkm (ldB b st mr rest) n) := hop
      rw [nI_clamp (by omega), hop', lsb (tkm_lt (by omega)) (by omega), lg_cmp_eq, lN_eq0 (by have := bt_le (x := tkm (ldB b st mr rest) n) (n := st q g); omega), nI_1]
      have hbt : bt (tkm (ldB b st mr rest) n) (st q g) = 1 ↔ LdW b st (fun s => mr s = 1) (st q g) rest := by
        rw [← tb_btI, tkm_tb, ldB_1]
        exact ⟨fun h => h.2, fun h => ⟨hsg, h⟩⟩
      have hble := bt_le (x := tkm (ldB b st mr rest) n) (n := st q g)
      refine ⟨fun c => ih (g + 1) (by omega) (by omega) (fun g' h1 h2 => ?_), fun c => hQ1 g hfg hgb (hbt.mp (by omega)) hno⟩
      by_cases e : g' = g
      · rw [e, ← hbt]; omega
      · exact hno g' h1 (by omega)
  refine eX6_openDigit _ _ _ _ _ _ (key (b - f) f (by omega) (Nat.le_refl _) (fun g' h1 h2 => by omega))
theorem w_fillOpen (d : Nat) (hr : RkS M r) (hg : RkG r o mv mk n b st mr) (hm : RkM M o mv mk n b st mr) (hQ : ∀ M1, Fr M M1 [r + 4] → (∀ k, k < 106 → OpI M1 r n b st mr k) → Q none M1) : Call G (d + 3) 0 0 mX6_fillOpen [.ref r, .ref o, .int (nI b)] M Q := by
  obtain ⟨hb, hn0, hn40, hcl, hk1, h00, hod⟩ := id hg
  obtain ⟨k1, k2, -, -, -, k4, k5, k6, -⟩ := id hr
  have fr : ∀ {M1 : Mem}, Fr M M1 [r + 4] → RkS M1 r ∧ RkM M1 o mv mk n b st mr ∧ (x_h M1 (r + 4)) = (2, 106) ∧ x_r M1 r 3 = some (r + 4) := fun g => ⟨hr.eq g.h g.r, hm.fr hg g (fun q hq => by simp at hq; omega), by rw [g.h]; exact k4, by rw [g.r]; exact k2 3 (by omega)⟩
  have inner : ∀ c, 1 ≤ c → c < 106 → (∀ M1, Fr M M1 [r + 4] → (∀ k, k < c + 1 → OpI M1 r n b st mr k) → ∀ z, c1 z = true → LX6_fillOpen_42 G (d + 2) 0 0 r o (nI b) (nI (c + 1)) z M1 Q) → ∀ k i, i + k = n → ∀ M1, Fr M M1 [r + 4] → (∀ k, k < c → OpI M1 r n b st mr k) → x_l M1 (r + 4) c = lN (tkm (ldB b st mr c) i) → LX6_fillOpen_61 G (d + 2) 0 0 r o (nI b) (nI c) (nI i) M1 Q := by
    intro c hc1 hc hnext k
    induction k with
    | zero =>
      intro i hk M1 g hop hx
      obtain ⟨q1, q2, q3, q4⟩ := fr g
      have e : i = n := by omega
      subst e
      refine vX6_fillOpen_61 _ _ _ _ _ ⟨q2.1.1, fun _ => ?_, fun z => absurd (by rw [q2.2.1]; exact nI_le (Nat.le_refl _) (by omega)) z⟩
      rw [nI_1]
      refine hnext M1 g (fun k hk => ?_) _ rfl
      by_cases ek : k = c
      · rw [ek]; exact hx
      · exact hop k (by omega)
    | succ k ih =>
      intro i hk M1 g hop hx
      obtain ⟨q1, q2, q3, q4⟩ := fr g
      have hi : i < n := by omega
      refine vX6_fillOpen_61 _ _ _ _ _ ⟨q2.1.1, fun z => absurd (by rw [q2.2.1] at z; exact z) (nI_ge (a := i) (b := n) hi (by omega)), fun _ => ⟨q1.1, ?_⟩⟩
      rw [show nI c - 1 = nI (c - 1) from s_sub (b := 1) (by omega)]
      have e1 : ldB b st mr c i = anyD (fun d => ldB b st mr (c - 1) (st i d)) b := by
        obtain ⟨c', rfl⟩ : ∃ c', c = c' + 1 := ⟨c - 1, by omega⟩
        rfl
      have iff1 : ldB b st mr c i = 1 ↔ ∃ g, g < b ∧ LdW b st (fun s => mr s = 1) (st i g) (c - 1) := by
        rw [e1, anyD_1]
        exact ⟨fun ⟨g, h1, h2⟩ => ⟨g, h1, (ldB_1 _ _).mp h2⟩, fun ⟨g, h1, h2⟩ => ⟨g, h1, (ldB_1 _ _).mpr h2⟩⟩
      refine w_openDigit d q1 hg q2 (q := i) (f := 0) (rest := c - 1) (hop (c - 1) (by omega)) (by omega) hi (Nat.zero_le _) (fun g1 _ h2 h3 _ => ⟨_, rfl, fun z => absurd z (nI_m1 (by omega)), fun _ => ⟨q1.1, r + 4, q4, by rw [q3], by rw [q3]; exact vp_in_nI hc (by omega), ?_⟩⟩) (fun hno => ⟨_, rfl, fun _ => ?_, fun z => absurd rfl z⟩)
      · rintro M12 rfl
        rw [nI_clamp (by omega), hx, l_1sh (by omega), l_or (tkm_lt (by omega)) (pow_62 (by omega)), nI_1]
        refine ih (i + 1) (by omega) _ (g.sl (by simp)) (fun k hk => ?_) ?_
        · show x_l (x_sl M1 (r + 4) c _) (r + 4) k = _
          rw [xl_nk (by omega)]
          exact hop k hk
        · rw [xl_eq]
          show _ = lN (if ldB b st mr c i = 1 then tkm (ldB b st mr c) i ||| 2 ^ i else tkm (ldB b st mr c) i)
          rw [if_pos (iff1.mpr ⟨g1, h2, h3⟩)]
      · rw [nI_1]
        refine ih (i + 1) (by omega) M1 g hop ?_
        rw [hx]
        show _ = lN (if ldB b st mr c i = 1 then tkm (ldB b st mr c) i ||| 2 ^ i else tkm (ldB b st mr c) i)
        rw [if_neg (fun z => ?_)]
        obtain ⟨g1, z1, z2⟩ := iff1.mp z
        exact hno g1 (Nat.zero_le _) z1 z2
  have outer : ∀ k c, c + k = 106 → 1 ≤ c → ∀ M1, Fr M M1 [r + 4] → (∀ k, k < c → OpI M1 r n b st mr k) → ∀ z, c1 z = true → LX6_fillOpen_42 G (d + 2) 0 0 r o (nI b) (nI c) z M1 Q := by
    intro k
    induction k with
    | zero =>
      intro c hk hc1 M1 g hop z hz
      obtain ⟨q1, q2, q3, q4⟩ := fr g
      refine vX6_fillOpen_42 _ _ _ _ _ hz ⟨q1.1, r + 4, q4, by rw [q3]; exact ⟨by decide, by decide⟩, fun _ => hQ M1 g (fun k hk => hop k (by omega)), fun y => absurd (by rw [q3]; exact nI_le (show 106 ≤ c by omega) (by omega)) y⟩
    | succ k ih =>
      intro c hk hc1 M1 g hop z hz
      obtain ⟨q1, q2, q3, q4⟩ := fr g
      refine vX6_fillOpen_42 _ _ _ _ _ hz ⟨q1.1, r + 4, q4, by rw [q3]; exact ⟨by decide, by decide⟩, fun y => absurd (by rw [q3] at y; exact y) (nI_ge (a := c) (b := 106) (by omega) (by omega)), fun _ => ⟨by rw [q3], by rw [q3]; exact vp_in_nI (show c < 106 by omega) (by omega), ?_⟩⟩
      rintro M7 rfl
      rw [nI_clamp (by omega)]
      refine inner c hc1 (by omega) (fun M2 g2 hop2 z2 hz2 => ih (c + 1) (by omega) (by omega) M2 g2 hop2 z2 hz2) n 0 (by omega) _ (g.sl (by simp)) (fun k hk => ?_) ?_
      · show x_l (x_sl M1 (r + 4) c _) (r + 4) k = _
        rw [xl_nk (by omega)]
        exact hop k hk
      · rw [xl_eq]; rfl
  have first : ∀ k i, i + k = n → ∀ M1, Fr M M1 [r + 4] → x_l M1 (r + 4) 0 = lN (tkm mr i) → LX6_fillOpen_9 G (d + 2) 0 0 r o (nI b) (nI i) M1 Q := by
    intro k
    induction k with
    | zero =>
      intro i hk M1 g hx
      obtain ⟨q1, q2, q3, q4⟩ := fr g
      have e : i = n := by omega
      subst e
      refine vX6_fillOpen_9 _ _ _ _ ⟨q2.1.1, fun _ => outer 105 1 (by omega) (by omega) M1 g (fun k hk => ?_) none rfl, fun z => absurd (by rw [q2.2.1]; exact nI_le (Nat.le_refl _) (by omega)) z⟩
      have : k = 0 := by omega
      subst this
      exact hx
    | succ k ih =>
      intro i hk M1 g hx
      obtain ⟨q1, q2, q3, q4⟩ := fr g
      have hi : i < n := by omega
      refine vX6_fillOpen_9 _ _ _ _ ⟨q2.1.1, fun z => absurd (by rw [q2.2.1] at z; exact z) (nI_ge (a := i) (b := n) hi (by omega)), fun _ => ⟨q1.1, r + 4, q4, by rw [q3], by rw [q3]; exact vp_in_nI (n := 0) (by omega) (by omega), ?_⟩⟩
      refine w_markC d q2.1 q2.2 (by omega) hi ⟨_, rfl, by rw [q3], by rw [q3]; exact vp_in_nI (n := 0) (by omega) (by omega), ?_⟩
      rintro M12 rfl
      have hk1i := hk1 i hi
      rw [show (0 : Int32) = nI 0 from rfl, nI_clamp (by omega), hx, nI_l (by omega), wb_shl _ (by omega), nI_1]
      refine ih (i + 1) (by omega) _ (g.sl (by simp)) ?_
      rw [xl_eq]
      show _ = lN (if mr i = 1 then tkm mr i ||| 2 ^ i else tkm mr i)
      by_cases c : mr i = 1
      · rw [if_pos c, c, Nat.one_mul, l_or (tkm_lt (by omega)) (pow_62 (by omega))]
      · have e0 : mr i = 0 := by omega
        rw [if_neg c, e0, Nat.zero_mul, l_or (tkm_lt (by omega)) (by omega), Nat.or_zero]
  refine eX6_fillOpen _ _ _ ⟨k1, r + 4, k2 3 (by omega), by rw [k4], by rw [k4]; exact vp_in_nI (n := 0) (by omega) (by omega), ?_⟩
  rintro M5 rfl
  refine first n 0 (by omega) _ (Fr.rf.sl (by simp)) ?_
  rw [show (0 : Int32) = nI 0 from rfl, nI_clamp (by omega), xl_eq]
  rfl
end CReckC
