/-! ===== Weaver: product ===== -/
section ProductC
theorem LeS.fF {M M' : Mem} {o mv mk nm nk : Nat} {A : List Nat} (h : LeS M o mv mk nm nk) (f : Fr M M' A) : LeS M' o mv mk nm nk := h.eq f.h f.r
theorem LeI.fF {M M' : Mem} {o mv mk n f : Nat} {st : Nat → Nat → Nat} {mr : Nat → Nat} {A : List Nat} (h : LeI M o mv mk n f st mr) (g : Fr M M' A) (hd : ∀ q ∈ [o, mv, mk], q ∉ A) : LeI M' o mv mk n f st mr := by
  unfold LeI
  rw [g.i (hd o (by simp)), g.i (hd mv (by simp)), g.i (hd mk (by simp))]
  exact h
/-- what two marks make -/
def jn (way x y : Nat) : Nat := if way = 0 then (if x = y then 1 else 0) else if way = 1 then (x + y) % 8 else if way = 2 then max x y else if way = 3 then x &&& y else if way = 4 then x ||| y else (1 - x) ||| y
theorem jn_lt {way x y : Nat} (hx : x < 8) (hy : y < 8) : jn way x y < 8 := by
  unfold jn
  split
  · split <;> omega
  split
  · omega
  split
  · omega
  split
  · exact Nat.lt_of_le_of_lt Nat.and_le_left hx
  split
  · exact Nat.or_lt_two_pow (n := 3) hx hy
  · exact Nat.or_lt_two_pow (n := 3) (by omega) hy
variable {G : GG} {M : Mem} {w b p pv pk pm pn : Nat} {Q : Option Value → Mem → Prop}
theorem w_joined (d : Nat) {way x y : Nat} (hw : way ≤ 5) (hx : x < 8) (hy : y < 8) (hx1 : way = 5 → x ≤ 1) (hQ : Q (some (.int (nI (jn way x y)))) M) : Call G (d + 2) 0 0 mX10_joined [.int (nI way), .int (nI x), .int (nI y)] M Q := by
  have hway : ∀ n : Nat, n < 6 → (nI way = nI n ↔ way = n) := fun n hn => nI_eq (by omega) (by omega)
  have h0 := hway 0 (by omega)
  have h1 := hway 1 (by omega)
  have h2 := hway 2 (by omega)
  have h3 := hway 3 (by omega)
  have h4 := hway 4 (by omega)
  refine eX10_joined _ _ _ ⟨fun c => ?_, fun c => ?_, fun c => ?_, fun c => ?_, fun c => ?_, fun c => ?_⟩
  · have c := h0.mp c
    subst c
    refine ⟨fun e => ?_, fun e => ?_⟩
    · have : jn 0 x y = 0 := by unfold jn; rw [if_pos rfl, if_neg (fun q => e (by rw [q]))]
      rw [this] at hQ; exact hQ
    · have : jn 0 x y = 1 := by unfold jn; rw [if_pos rfl, if_pos ((nI_eq (by omega) (by omega)).mp e)]
      rw [this] at hQ; exact hQ
  · have c := h1.mp c
    subst c
    rw [nI_add, pk_andN (show x + y < 2 ^ 32 by omega) 3 (by decide)]
    exact hQ
  · have c := h2.mp c
    subst c
    exact w_max d (by omega) (by omega) ⟨_, rfl, hQ⟩
  · have c := h3.mp c
    subst c
    rw [nI_and]
    exact hQ
  · have c := h4.mp c
    subst c
    rw [nI_or]
    exact hQ
  · have c5 : way = 5 := by
      have a0 : ¬ way = 0 := fun e => c.1 (h0.mpr e)
      have a1 : ¬ way = 1 := fun e => c.2.1 (h1.mpr e)
      have a2 : ¬ way = 2 := fun e => c.2.2.1 (h2.mpr e)
      have a3 : ¬ way = 3 := fun e => c.2.2.2.1 (h3.mpr e)
      have a4 : ¬ way = 4 := fun e => c.2.2.2.2 (h4.mpr e)
      omega
    subst c5
    rw [nI_1sub (hx1 rfl), nI_or]
    exact hQ
/-- the steps of two machines at once; the key of a pair is x * nb + y -/
def prD (b nb al sA sB : Nat) (sta stb : Nat → Nat → Nat) (q g : Nat) : Nat := sta (q / nb) (vw b al sA g) * nb + stb (q % nb) (vw b al sB g)
def prM (nb way : Nat) (ma mb : Nat → Nat) (q : Nat) : Nat := jn way (ma (q / nb)) (mb (q % nb))
theorem w_product (d : Nat) (hw : WeS M w) (e11 : x_i M w 11 = nI b) (hb : 1 < b) (hb3 : b ≤ 3) (hp : LeS M p pv pk pm pn) (hpd : ∀ q ∈ [p, pv, pk], q < w ∨ w + 21 < q) {most way sA sB : Nat} (hway : way ≤ 5) (hA : sA < 256) (hB : sB < 256) (h27 : fn b (sA ||| sB) ≤ 27) (hm : most ≤ 60) (hmn : most ≤ pn) (hmm : most * fn b (sA ||| sB) ≤ pm)
    {oa va ka pma pna na ob vb kb pmb pnb nb : Nat} {sta stb : Nat → Nat → Nat} {ma mb : Nat → Nat} (ha : LeS M oa va ka pma pna) (hai : LeI M oa va ka na (fn b sA) sta ma) (hb' : LeS M ob vb kb pmb pnb) (hbi : LeI M ob vb kb nb (fn b sB) stb mb)
    (hna : 0 < na) (hnb : 0 < nb) (hroom : na * nb ≤ 3600) (hroom2 : na * nb * fn b (sA ||| sB) ≤ 43200) (ha1 : na * fn b sA ≤ pma) (ha2 : na ≤ pna) (hb1 : nb * fn b sB ≤ pmb) (hb2 : nb ≤ pnb)
    (hca : ∀ i, i < na → ∀ g, g < fn b sA → sta i g < na) (hcb : ∀ i, i < nb → ∀ g, g < fn b sB → stb i g < nb) (hma : ∀ i, i < na → ma i < 8) (hmb : ∀ i, i < nb → mb i < 8) (hm5 : way = 5 → ∀ i, i < na → ma i ≤ 1)
    (had : ∀ q ∈ [oa, va, ka], q ∉ [w + 1, w + 2, w + 3, w + 4, w + 5, w + 6, w + 7, w + 8, w + 15, w + 16]) (hbd : ∀ q ∈ [ob, vb, kb], q ∉ [w + 1, w + 2, w + 3, w + 4, w + 5, w + 6, w + 7, w + 8, w + 15, w + 16])
    (hQ1 : ∀ M' m st mr, Fr M M' [w + 1, w + 2, w + 3, w + 4, w + 5, w + 6, w + 7, w + 8, w + 15, w + 16, p, pv, pk] → m ≤ most → LeI M' p pv pk m (fn b (sA ||| sB)) st mr → Can (fn b (sA ||| sB)) m st mr (fun u => prM nb way ma mb (dl (prD b nb (sA ||| sB) sA sB sta stb) 0 u)) → Q (some (.int (nI 1))) M')
    (hQ0 : ∀ M', Fr M M' [w + 1, w + 2, w + 3, w + 4, w + 5, w + 6, w + 7, w + 8, w + 15, w + 16, p, pv, pk] → (∀ m st mr, Can (fn b (sA ||| sB)) m st mr (fun u => prM nb way ma mb (dl (prD b nb (sA ||| sB) sA sB sta stb) 0 u)) → most < m) → most < na * nb → Q (some (.int (nI 0))) M') :
    Call G (d + 5) 0 0 mX10_product [.ref w, .ref oa, .int (nI sA), .ref ob, .int (nI sB), .int (nI way), .ref p, .int (nI most)] M Q := by
  have hw0 := hw
  obtain ⟨w1, w2, w3, w4, w5, w6, w7, w8, w9, w10, w11, w12, w13, w14, u15, u16, -⟩ := hw
  have q1 := hpd p (by simp)
  have q2 := hpd pv (by simp)
  have q3 := hpd pk (by simp)
  have hAB : sA ||| sB < 256 := or_256 hA hB
  have hsA : ∀ n, n < 8 → bt sA n = 1 → bt (sA ||| sB) n = 1 := fun n _ h => bt_or.mpr (Or.inl h)
  have hsB : ∀ n, n < 8 → bt sB n = 1 → bt (sA ||| sB) n = 1 := fun n _ h => bt_or.mpr (Or.inr h)
  generalize hal : sA ||| sB = al at *
  have hf0 : 0 < fn b al := fn_pos (by omega)
  generalize hfg : fn b al = f at *
  have ebi : ∀ {M' : Mem}, Fr M M' [w + 1, w + 2, w + 3, w + 4, w + 5, w + 6, w + 7, w + 8, w + 15, w + 16] → x_i M' w 11 = nI b := fun h => by rw [h.i (by simp)]; exact e11
  have hfa : ∀ {M' : Mem}, Fr M M' [w + 1, w + 2, w + 3, w + 4, w + 5, w + 6, w + 7, w + 8, w + 15, w + 16] → LeS M' oa va ka pma pna ∧ LeI M' oa va ka na (fn b sA) sta ma := fun h => ⟨ha.fF h, hai.fF h had⟩
  have hfb : ∀ {M' : Mem}, Fr M M' [w + 1, w + 2, w + 3, w + 4, w + 5, w + 6, w + 7, w + 8, w + 15, w + 16] → LeS M' ob vb kb pmb pnb ∧ LeI M' ob vb kb nb (fn b sB) stb mb := fun h => ⟨hb'.fF h, hbi.fF h hbd⟩
  have hdv : ∀ x, x < na * nb → x / nb < na := fun x hx => Nat.div_lt_of_lt_mul (by rw [Nat.mul_comm]; exact hx)
  have hmd : ∀ x, x % nb < nb := fun x => Nat.mod_lt x hnb
  have hδ : ∀ x g, x < na * nb → g < f → prD b nb al sA sB sta stb x g < na * nb := fun x g hx hg => by
    have h1 := hca _ (hdv x hx) (vw b al sA g) (vw_lt (by omega))
    have h2 := hcb _ (hmd x) (vw b al sB g) (vw_lt (by omega))
    have h3 : (sta (x / nb) (vw b al sA g) + 1) * nb ≤ na * nb := Nat.mul_le_mul_right nb h1
    rw [Nat.succ_mul] at h3
    unfold prD
    omega
  have hμ : ∀ x, x < na * nb → prM nb way ma mb x < 8 := fun x hx => jn_lt (hma _ (hdv x hx)) (hmb _ (hmd x))
  have hnn : na * nb < 2 ^ 30 := by omega
  have hnb30 : nb ≤ na * nb := Nat.le_mul_of_pos_left nb hna
  have hna30 : na ≤ na * nb := Nat.le_mul_of_pos_right na hnb
  -- the digits of a state
  have inner : ∀ (i : Nat), (∀ M', Fr M M' [w + 1, w + 2, w + 3, w + 4, w + 5, w + 6, w + 7, w + 8, w + 15, w + 16] → (∀ k, k < f → x_i M' (w + 15) k = nI (vw b al sA k)) → (∀ k, k < f → x_i M' (w + 16) k = nI (vw b al sB k)) → ExI M' (w + 1) (na * nb) f (prD b nb al sA sB sta stb) 0 (prM nb way ma mb) (i * f + f) (i + 1) → ∀ z z1 z2 z3, c1 z = true → c1 z1 = true → c1 z2 = true → c1 z3 = true → LX10_product_76 G (d + 4) 0 0 w oa (nI sA) ob (nI sB) (nI way) p (nI most) (nI al) (nI f) (nI nb) (nI (i + 1)) z z1 z2 z3 M' Q) →
      ∀ (k j : Nat), j + k = f → ∀ M', Fr M M' [w + 1, w + 2, w + 3, w + 4, w + 5, w + 6, w + 7, w + 8, w + 15, w + 16] → (∀ k, k < f → x_i M' (w + 15) k = nI (vw b al sA k)) → (∀ k, k < f → x_i M' (w + 16) k = nI (vw b al sB k)) → ∀ x, x < na * nb → i < (ex (prD b nb al sA sB sta stb) f 0 (i * f + j)).length → (ex (prD b nb al sA sB sta stb) f 0 (i * f + j)).getD i 0 = x → ExI M' (w + 1) (na * nb) f (prD b nb al sA sB sta stb) 0 (prM nb way ma mb) (i * f + j) (i + 1) → ∀ z, c1 z = true → LX10_product_158 G (d + 4) 0 0 w oa (nI sA) ob (nI sB) (nI way) p (nI most) (nI al) (nI f) (nI nb) (nI i) (nI (x / nb)) (nI (x % nb)) (nI j) z M' Q := by
    intro i hout k
    induction k with
    | zero =>
      intro j hj M' hfr hv1 hv2 x hx hi hxe he z hz
      have e : j = f := by omega
      subst e
      refine vX10_product_158 _ _ _ _ _ _ _ _ _ _ _ _ _ _ _ _ hz ⟨fun _ => ?_, fun c => absurd (nI_le (Nat.le_refl j) (by omega)) c⟩
      rw [nI_1]
      exact hout M' hfr hv1 hv2 he _ _ _ _ rfl rfl rfl hz
    | succ k ih =>
      intro j hj M' hfr hv1 hv2 x hx hi hxe he z hz
      have hjb : j < f := by omega
      have c1' : (i * f + j) / f = i := by rw [Nat.mul_comm, Nat.mul_add_div hf0, Nat.div_eq_of_lt hjb]; rfl
      have c2' : (i * f + j) % f = j := by rw [Nat.mul_comm, Nat.mul_add_mod]; exact Nat.mod_eq_of_lt hjb
      obtain ⟨a1, a2⟩ := hfa hfr
      obtain ⟨b1, b2⟩ := hfb hfr
      refine vX10_product_158 _ _ _ _ _ _ _ _ _ _ _ _ _ _ _ _ hz ⟨fun c => absurd c (nI_ge hjb (by omega)), fun _ => ⟨(hw0.fr hfr).1, w + 15, by rw [hfr.r]; exact w8, by rw [hfr.h, u15], by rw [hfr.h, u15]; exact vp_in_nI (show j < 27 by omega) (by omega), a1.1, ?_⟩⟩
      rw [nI_clamp (by omega), hv1 j hjb]
      refine Call.mono (k_after (d + 3) a1 a2 ha1 (hdv x hx) (vw_lt (by omega))) ?_
      rintro r M1 ⟨rfl, rfl⟩
      refine ⟨_, rfl, (hw0.fr hfr).1, w + 16, by rw [hfr.r]; exact w9, by rw [hfr.h, u16], by rw [hfr.h, u16]; exact vp_in_nI (show j < 27 by omega) (by omega), b1.1, ?_⟩
      rw [hv2 j hjb]
      refine Call.mono (k_after (d + 3) b1 b2 hb1 (hmd x) (vw_lt (by omega))) ?_
      rintro r M1 ⟨rfl, rfl⟩
      refine ⟨_, rfl, (hw0.fr hfr).1, w + 1, by rw [hfr.r]; exact w5, (hw0.fr hfr).2.1.1, ?_⟩
      rw [pk_mul, nI_add]
      refine w_meetX (d + 2) (hw0.fr hfr).2.1 he (by rw [c1']; exact hi) (by rw [c1', c2', hxe]; rfl) (hδ x j hx hjb) (fun M1 g1 g2 => ?_)
      have hfr1 : Fr M M1 [w + 1, w + 2, w + 3, w + 4, w + 5, w + 6, w + 7, w + 8, w + 15, w + 16] := hfr.tr g1 (by simp)
      refine ⟨_, rfl, (hw0.fr hfr1).2.1.1, ?_⟩
      refine w_linkX (d + 2) (hw0.fr hfr1).2.1 g2 hf0 rfl hjb hroom2 (fun M2 g3 g4 => ⟨rfl, ?_⟩)
      have hfr2 : Fr M M2 [w + 1, w + 2, w + 3, w + 4, w + 5, w + 6, w + 7, w + 8, w + 15, w + 16] := hfr1.tr g3 (by simp)
      rw [nI_1]
      refine ih (j + 1) (by omega) M2 hfr2 (fun k hk => by rw [g3.i (by simp), g1.i (by simp)]; exact hv1 k hk) (fun k hk => by rw [g3.i (by simp), g1.i (by simp)]; exact hv2 k hk) x hx ?_ ?_ g4 _ rfl
      · exact Nat.lt_of_lt_of_le hi (ex_le _ 1)
      · rw [← hxe]; exact ex_getD _ 1 hi
  have done : ∀ i M', i ≤ na * nb → Fr M M' [w + 1, w + 2, w + 3, w + 4, w + 5, w + 6, w + 7, w + 8, w + 15, w + 16] → ExI M' (w + 1) (na * nb) f (prD b nb al sA sB sta stb) 0 (prM nb way ma mb) (i * f) i → (ex (prD b nb al sA sB sta stb) f 0 (i * f)).length = i → Call G (d + 4) 0 0 mX2_draw [.ref (w + 1), .ref p, .int (nI most)] M' (fun r5 M6 => ∃ v7 : Int32, r5 = some (.int v7) ∧ (v7 = 0 ∨ v7 = 1) ∧ Q (some (.int v7)) M6) := by
    intro i M' hi hfr he el
    exact w_drawX d (hw0.fr hfr).2.1 he (by rw [el]) el.symm hf0 h27 hroom2 (fun x hx => hμ x (he.1.2.2.2.2.2.1 x hx)) (hp.eq hfr.h hfr.r) (fun q hq => by have := hpd q hq; omega) hm hmn hmm (fun M1 m st mr g1 g2 g3 g4 => ⟨_, rfl, Or.inr rfl, hQ1 M1 m st mr ((hfr.wk (by simp)).tr g1 (by simp)) g2 g3 g4⟩) (fun M1 g1 g2 g3 => ⟨_, rfl, Or.inl rfl, hQ0 M1 ((hfr.wk (by simp)).tr g1 (by simp)) g2 g3⟩)
  have outer : ∀ (k i : Nat), i + k = na * nb → ∀ M', Fr M M' [w + 1, w + 2, w + 3, w + 4, w + 5, w + 6, w + 7, w + 8, w + 15, w + 16] → (∀ k, k < f → x_i M' (w + 15) k = nI (vw b al sA k)) → (∀ k, k < f → x_i M' (w + 16) k = nI (vw b al sB k)) → ExI M' (w + 1) (na * nb) f (prD b nb al sA sB sta stb) 0 (prM nb way ma mb) (i * f) i → ∀ z z1 z2 z3, c1 z = true → c1 z1 = true → c1 z2 = true → c1 z3 = true → LX10_product_76 G (d + 4) 0 0 w oa (nI sA) ob (nI sB) (nI way) p (nI most) (nI al) (nI f) (nI nb) (nI i) z z1 z2 z3 M' Q := by
    intro k
    induction k with
    | zero =>
      intro i hi M' hfr hv1 hv2 he z z1 z2 z3 hz hz1 hz2 hz3
      have hlen := he.1.len
      have hle := he.2.2.2.2
      have el : (ex (prD b nb al sA sB sta stb) f 0 (i * f)).length = i := by omega
      have e9 : x_i M' (w + 1) 9 = nI i := by rw [he.1.2.2.1, el]
      refine vX10_product_76 _ _ _ _ _ _ _ _ _ _ _ _ _ _ _ _ hz hz1 hz2 hz3 ?_
      exact ⟨(hw0.fr hfr).1, w + 1, by rw [hfr.r]; exact w5, (hw0.fr hfr).2.1.1, fun _ => done i M' (by omega) hfr he el, fun c => absurd (by rw [e9]; exact nI_le (Nat.le_refl i) (by omega)) c⟩
    | succ k ih =>
      intro i hi M' hfr hv1 hv2 he z z1 z2 z3 hz hz1 hz2 hz3
      have hlen := he.1.len
      have hle := he.2.2.2.2
      refine vX10_product_76 _ _ _ _ _ _ _ _ _ _ _ _ _ _ _ _ hz hz1 hz2 hz3 ?_
      refine ⟨(hw0.fr hfr).1, w + 1, by rw [hfr.r]; exact w5, (hw0.fr hfr).2.1.1, fun c => ?_, fun c => ⟨fun c2 => ?_, fun _ => ⟨fun c3 => ?_, fun _ => ?_⟩⟩⟩
      · rw [he.1.2.2.1] at c
        have el : (ex (prD b nb al sA sB sta stb) f 0 (i * f)).length = i := by
          have := (nI_leI (a := (ex (prD b nb al sA sB sta stb) f 0 (i * f)).length) (b := i) (by omega) (by omega)).mp c
          omega
        exact done i M' (by omega) hfr he el
      · exact absurd c2 (nI_ge (a := i) (b := 3600) (by omega) (by omega))
      · exact absurd c3 (nI_nle hnb (by omega))
      · rw [he.1.2.2.1] at c
        have hil : i < (ex (prD b nb al sA sB sta stb) f 0 (i * f)).length := by
          rcases Nat.lt_or_ge i (ex (prD b nb al sA sB sta stb) f 0 (i * f)).length with h | h
          · exact h
          · exact absurd (nI_le h (by omega)) c
        have hx : (ex (prD b nb al sA sB sta stb) f 0 (i * f)).getD i 0 < na * nb := he.1.2.2.2.2.2.1 _ (getD_mem hil)
        have hnb0 : ¬ nI nb = 0 := nI_ne0 hnb (by omega)
        obtain ⟨a1, a2⟩ := hfa hfr
        obtain ⟨b1, b2⟩ := hfb hfr
        refine w_keyX (d + 2) (hw0.fr hfr).2.1 he hil ⟨_, rfl, hnb0, (hw0.fr hfr).1, w + 1, by rw [hfr.r]; exact w5, (hw0.fr hfr).2.1.1, ?_⟩
        refine w_keyX (d + 2) (hw0.fr hfr).2.1 he hil ⟨_, rfl, hnb0, (hw0.fr hfr).1, w + 1, by rw [hfr.r]; exact w5, a1.1, ?_⟩
        generalize hxe : (ex (prD b nb al sA sB sta stb) f 0 (i * f)).getD i 0 = x at hx
        rw [pk_rem (by omega) hnb (by omega), pk_div (by omega) hnb (by omega)]
        refine Call.mono (k_mark (d + 2) a1 a2 ha2 (hdv x hx)) ?_
        rintro r M1 ⟨rfl, rfl⟩
        refine ⟨_, rfl, b1.1, Call.mono (k_mark (d + 2) b1 b2 hb2 (hmd x)) ?_⟩
        rintro r M1 ⟨rfl, rfl⟩
        refine ⟨_, rfl, w_joined (d + 2) hway (hma _ (hdv x hx)) (hmb _ (hmd x)) (fun e => hm5 e _ (hdv x hx)) ⟨_, rfl, (hw0.fr hfr).2.1.1, ?_⟩⟩
        refine w_markX (d + 2) (hw0.fr hfr).2.1 he hil (by rw [hxe]; rfl) (fun M1 g1 g2 => ⟨rfl, ?_⟩)
        exact inner i (fun M2 g3 gv1 gv2 g4 z z1 z2 z3 hz hz1 hz2 hz3 => ih (i + 1) (by omega) M2 g3 gv1 gv2 (by rw [Nat.succ_mul]; exact g4) z z1 z2 z3 hz hz1 hz2 hz3) f 0 (by omega) M1 (hfr.tr g1 (by simp)) (fun k hk => by rw [g1.i (by simp)]; exact hv1 k hk) (fun k hk => by rw [g1.i (by simp)]; exact hv2 k hk) x hx hil hxe g2 z3 hz3
  refine eX10_product w oa _ ob _ _ p _ ⟨w1, ?_⟩
  rw [nI_or, hal]
  refine w_fan (d + 2) w1 e11 hAB ⟨_, rfl, ?_⟩
  rw [hfg]
  refine w_min (i := f) (n := 27) (d + 3) (by omega) (by omega) ⟨_, rfl, w1, w + 15, w8, ?_⟩
  rw [Nat.min_eq_left h27]
  refine w_fillViews (d + 1) w1 e11 hb hb3 u15 (by omega) hAB hA (by rw [hfg]; exact h27) hsA (fun M1 g1 v1 => ⟨rfl, by rw [g1.h]; exact w1, w + 16, by rw [g1.r]; exact w9, ?_⟩)
  rw [hfg] at v1
  refine w_fillViews (d + 1) (by rw [g1.h]; exact w1) (by rw [g1.i (by simp)]; exact e11) hb hb3 (by rw [g1.h]; exact u16) (by omega) hAB hB (by rw [hfg]; exact h27) hsB (fun M2 g2 v2 => ?_)
  rw [hfg] at v2
  have hfr2 : Fr M M2 [w + 1, w + 2, w + 3, w + 4, w + 5, w + 6, w + 7, w + 8, w + 15, w + 16] := (g1.wk (by simp)).tr g2 (by simp)
  obtain ⟨a1, a2⟩ := hfa hfr2
  obtain ⟨b1, b2⟩ := hfb hfr2
  have v1' : ∀ k, k < f → x_i M2 (w + 15) k = nI (vw b al sA k) := fun k hk => by rw [g2.i (by simp)]; exact v1 k hk
  refine ⟨rfl, b1.1, (hw0.fr hfr2).1, w + 1, by rw [hfr2.r]; exact w5, a1.1, (hw0.fr hfr2).2.1.1, ?_⟩
  rw [a2.1, b2.1, pk_mul]
  refine w_open (d + 1) (hw0.fr hfr2).2.1 hroom (fun M3 g3 g4 => ⟨rfl, ?_⟩)
  have hfr3 : Fr M M3 [w + 1, w + 2, w + 3, w + 4, w + 5, w + 6, w + 7, w + 8, w + 15, w + 16] := hfr2.tr g3 (by simp)
  refine ⟨(hw0.fr hfr3).1, w + 1, by rw [hfr3.r]; exact w5, (hw0.fr hfr3).2.1.1, ?_⟩
  refine w_meet0 (d + 2) (k0 := 0) (δ := prD b nb al sA sB sta stb) (μ := prM nb way ma mb) (hw0.fr hfr3).2.1 g4 (Nat.mul_pos hna hnb) (fun M4 v g5 g6 => ⟨v, rfl, ?_⟩)
  exact outer (na * nb) 0 (by omega) M4 (hfr3.tr g5 (by simp)) (fun k hk => by rw [g5.i (by simp), g3.i (by simp)]; exact v1' k hk) (fun k hk => by rw [g5.i (by simp), g3.i (by simp)]; exact v2 k hk) (by rw [Nat.zero_mul]; exact g6) none none none none rfl rfl rfl rfl
end ProductC
