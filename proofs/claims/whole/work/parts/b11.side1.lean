/-! ===== the reference: the machine of a side, its tables ===== -/
section RSide2C
variable {G : GG} {M : Mem} {m b L : Nat} {Q : Option Value → Mem → Prop}
theorem ex_all {δ : Nat → Nat → Nat} {f k0 : Nat} {P : Nat → Prop} (hf : 0 < f) (h0 : P k0) (hs : ∀ x, P x → ∀ g, g < f → P (δ x g)) : ∀ c, exV δ f k0 c → ∀ x ∈ ex δ f k0 c, P x
  | 0, _, x, hx => by
    have e : x = k0 := List.mem_singleton.mp hx
    rw [e]; exact h0
  | c + 1, hV, x, hx => by
    have ih := ex_all hf h0 hs c (fun p hp => hV p (by omega))
    rcases ins_of.mp hx with q | q
    · exact ih x q
    · rw [q]; exact hs _ (ih _ (getD_mem (hV c (by omega)))) _ (Nat.mod_lt _ hf)
theorem dig_len {n : Nat} {K : List Nat} (hK : K.Nodup) (h : ∀ x ∈ K, x < 60 ^ (L + 1) ∧ ∀ j, j ≤ L → x / 60 ^ j % 60 < n) : K.length ≤ n ^ (L + 1) := by
  have := nd_len (n ^ (L + 1)) (K.map (fun x => kh n (fun j => x / 60 ^ j % 60) (L + 1) 0)) (List.pairwise_map.mpr (List.Pairwise.imp_of_mem (fun {a a'} ha ha' hne e => hne (kh_inj (h a ha).1 (h a' ha').1 (fun j hj => by
    have e1 := kh_at (n := n) (P := fun j => a / 60 ^ j % 60) (L + 1) 0 j (fun j hj => by rw [Nat.zero_add]; exact (h a ha).2 j (by omega)) (by omega)
    have e2 := kh_at (n := n) (P := fun j => a' / 60 ^ j % 60) (L + 1) 0 j (fun j hj => by rw [Nat.zero_add]; exact (h a' ha').2 j (by omega)) (by omega)
    rw [Nat.zero_add] at e1 e2
    rw [← e1, ← e2]
    exact congrArg (fun z => z / n ^ j % n) e))) hK)) (fun k hk => by
      obtain ⟨x, hx, rfl⟩ := List.mem_map.mp hk
      exact kh_lt _ _ (fun j hj => by rw [Nat.zero_add]; exact (h x hx).2 j (by omega)))
  rwa [List.length_map] at this
def nbI : Option Nat → Int32
  | none => -1
  | some c => nI c
theorem nbI_1 {mb : Option Nat} (h : ∀ c, mb = some c → c < 8) : nbI mb = -1 ↔ mb = none := by
  cases mb with
  | none => exact ⟨fun _ => rfl, fun _ => rfl⟩
  | some c => exact ⟨fun e => absurd e (nI_m1 (by have := h c rfl; omega)), fun e => by cases e⟩
theorem shl_names : ∀ a, a < 8 → ((1 : Int32) <<< (nI a &&& 31)) = nI (2 ^ a) := by decide
theorem ur_nameSet (d : Nat) {a : Nat} {mb : Option Nat} (ha : a < 8) (hmb : ∀ c, mb = some c → c < 8) (hQ : Q (some (.int (nI (nsAB a mb)))) M) : Call G (d + 1) 0 0 mX12_nameSet [.int (nI a), .int (nbI mb)] M Q := by
  refine eX12_nameSet _ _ ?_
  rw [nbI_1 hmb, shl_names a ha]
  cases mb with
  | none => exact ⟨fun c => absurd rfl c, fun _ => by rw [show (0 : Int32) = nI 0 from rfl, nI_or, Nat.or_zero]; exact hQ⟩
  | some c => exact ⟨fun _ => by
      show Q (some (.int (nI (2 ^ a) ||| (1 <<< (nI c &&& 31))))) M
      rw [shl_names c (hmb c rfl), nI_or]; exact hQ, fun e => by cases e⟩
/-- the machine of side w -/
def SiR (M : Mem) (m w f : Nat) (mc : Mc) : Prop := x_i M (m + 55) w = nI (m_n mc) ∧ (∀ i, i < m_n mc → x_i M (m + 54) (40 * w + i) = nI (m_k mc i)) ∧ ∀ i, i < m_n mc → ∀ k, k < f → x_i M (m + 53) (27 * (40 * w + i) + k) = nI (m_s mc i k)
theorem SiR.fr {M' : Mem} {w f : Nat} {mc : Mc} {F A : List Nat} (h : SiR M m w f mc) (g : FrM M M' m F A) (h1 : 53 ∉ A ∧ 54 ∉ A ∧ 55 ∉ A) : SiR M' m w f mc := by
  unfold SiR
  rw [g.i (by decide) h1.1, g.i (by decide) h1.2.1, g.i (by decide) h1.2.2]
  exact h
def SiK (M M' : Mem) (m w : Nat) : Prop := (∀ t, t ≠ w → x_i M' (m + 55) t = x_i M (m + 55) t) ∧ (∀ t, t < 40 * w ∨ 40 * w + 40 ≤ t → x_i M' (m + 54) t = x_i M (m + 54) t) ∧ ∀ t, t < 1080 * w ∨ 1080 * w + 1080 ≤ t → x_i M' (m + 53) t = x_i M (m + 53) t
theorem SiK.keep {M' : Mem} {w w' f : Nat} {mc : Mc} (h : SiK M M' m w) (hw : w' ≠ w) (hn : m_n mc ≤ 40) (hf : f ≤ 27) (g : SiR M m w' f mc) : SiR M' m w' f mc := by
  obtain ⟨k1, k2, k3⟩ := h
  obtain ⟨g1, g2, g3⟩ := g
  exact ⟨by rw [k1 w' hw]; exact g1, fun i hi => by rw [k2 _ (by omega)]; exact g2 i hi, fun i hi k hk => by rw [k3 _ (by omega)]; exact g3 i hi k hk⟩
theorem SiK.rf {w : Nat} : SiK M M m w := ⟨fun _ _ => rfl, fun _ _ => rfl, fun _ _ => rfl⟩
theorem SiK.of {M' : Mem} {w : Nat} {F A : List Nat} (g : FrM M M' m F A) (h1 : 53 ∉ A ∧ 54 ∉ A ∧ 55 ∉ A) : SiK M M' m w := ⟨fun _ _ => by rw [g.i (by decide) h1.2.2], fun _ _ => by rw [g.i (by decide) h1.2.1], fun _ _ => by rw [g.i (by decide) h1.1]⟩
theorem SiK.tr {M' M'' : Mem} {w : Nat} (h : SiK M M' m w) (g : SiK M' M'' m w) : SiK M M'' m w := ⟨fun t ht => (g.1 t ht).trans (h.1 t ht), fun t ht => (g.2.1 t ht).trans (h.2.1 t ht), fun t ht => (g.2.2 t ht).trans (h.2.2 t ht)⟩
theorem ur_sideCopy (d : Nat) (hs : ReS M m) {N f n w : Nat} {st : Nat → Nat → Nat} {mk : Nat → Nat} {st' : Nat → Nat → Nat} {mr' : Nat → Nat} (h : RaI M m N f st mk) (hl : LsI M m N f st mk n st' mr') (hw : w ≤ 1) (hn : n ≤ 40) {x2 x3 x4 x5 x6 x7 : Int32}
    (hQ : ∀ M', FrM M M' m [] [53, 54] → SiK M M' m w → (∀ i, i < n → x_i M' (m + 54) (40 * w + i) = nI (mr' i)) → (∀ i, i < n → ∀ k, k < f → x_i M' (m + 53) (27 * (40 * w + i) + k) = nI (st' i k)) → Q (some (.int (nI 1))) M') :
    ∀ z9 z10 z11, c1 z9 = true → c1 z10 = true → c1 z11 = true → LX12_side_344 G (d + 4) 0 0 m (nI w) x2 x3 x4 x5 x6 x7 (nI 0) z9 z10 z11 M Q := by
  have hf27 : f ≤ 27 := h.2.2.2.2.2.2.2
  have hN := h.2.2.2.2.2.1
  have hnN := hl.2.1
  obtain ⟨-, -, sg, cl, l3, -, -⟩ := id hl
  have fr0 : ∀ {M' : Mem}, FrM M M' m [] [53, 54] → ReS M' m ∧ RaI M' m N f st mk ∧ LsI M' m N f st mk n st' mr' := fun q => ⟨q.S hs, h.fr q (by decide) (by decide), hl.fr q (by decide) (by decide)⟩
  have inner : ∀ i, i < n → (∀ M' z9 z10 z11, c1 z9 = true → c1 z10 = true → c1 z11 = true → FrM M M' m [] [53, 54] → SiK M M' m w → (∀ t, t < i + 1 → x_i M' (m + 54) (40 * w + t) = nI (mr' t)) → (∀ t, t < i + 1 → ∀ k, k < f → x_i M' (m + 53) (27 * (40 * w + t) + k) = nI (st' t k)) → LX12_side_344 G (d + 4) 0 0 m (nI w) x2 x3 x4 x5 x6 x7 (nI (i + 1)) z9 z10 z11 M' Q) →
      ∀ r k, k + r = f → ∀ M', FrM M M' m [] [53, 54] → SiK M M' m w → (∀ t, t < i + 1 → x_i M' (m + 54) (40 * w + t) = nI (mr' t)) → (∀ t, t < i → ∀ k, k < f → x_i M' (m + 53) (27 * (40 * w + t) + k) = nI (st' t k)) → (∀ k', k' < k → x_i M' (m + 53) (27 * (40 * w + i) + k') = nI (st' i k')) → ∀ z10 z11, c1 z10 = true → c1 z11 = true → LX12_side_380 G (d + 4) 0 0 m (nI w) x2 x3 x4 x5 x6 x7 (nI i) (nI k) z10 z11 M' Q := by
    intro i hi hout r
    induction r with
    | zero =>
      intro k hk M' hfr hsk h1 h2 h3 z10 z11 hz10 hz11
      have e : k = f := by omega
      subst e
      obtain ⟨q1, q2, q3⟩ := fr0 hfr
      refine vX12_side_380 _ _ _ _ _ _ _ _ _ _ _ _ hz10 hz11 ⟨q1.1, fun _ => ?_, fun c => absurd (by rw [q2.2.1]; exact nI_le (Nat.le_refl k) (by omega)) c⟩
      rw [nI_1]
      refine hout M' _ _ _ rfl hz10 hz11 hfr hsk h1 (fun t ht k' hk' => ?_)
      by_cases e : t = i
      · rw [e]; exact h3 k' hk'
      · exact h2 t (by omega) k' hk'
    | succ r ih =>
      intro k hk M' hfr hsk h1 h2 h3 z10 z11 hz10 hz11
      obtain ⟨q1, q2, q3⟩ := fr0 hfr
      refine vX12_side_380 _ _ _ _ _ _ _ _ _ _ _ _ hz10 hz11 ⟨q1.1, fun c => absurd (by rw [q2.2.1] at c; exact c) (nI_ge (a := k) (b := f) (by omega) (by omega)), fun _ => ⟨m + 53, q1.r53, ur_stepOf (d + 3) q1 q2 q3 hi (show k < f by omega) ⟨_, rfl, by rw [q1.h53], by rw [e40_, e27_, q1.h53]; exact vp_in_nI (show 27 * (40 * w + i) + k < 2160 by omega) (by omega), ?_⟩⟩⟩
      rintro M3 rfl
      rw [e40_, e27_, nI_clamp (by omega), nI_1]
      refine ih (k + 1) (by omega) _ (hfr.si (by decide) (by decide)) (hsk.tr ⟨fun t _ => by rw [xm_oo (by decide)], fun t _ => by rw [xm_oo (by decide)], fun t ht => by rw [xi_nk (by omega)]⟩) (fun t ht => by rw [xm_oo (by decide)]; exact h1 t ht) (fun t ht k' hk' => by rw [xi_nk (by omega)]; exact h2 t ht k' hk') (fun k' hk' => ?_) z10 z11 hz10 hz11
      by_cases e : k' = k
      · rw [e, xi_eq]
      · rw [xi_nk (by omega)]; exact h3 k' (by omega)
  have outer : ∀ r i, i + r = n → ∀ M', FrM M M' m [] [53, 54] → SiK M M' m w → (∀ t, t < i → x_i M' (m + 54) (40 * w + t) = nI (mr' t)) → (∀ t, t < i → ∀ k, k < f → x_i M' (m + 53) (27 * (40 * w + t) + k) = nI (st' t k)) → ∀ z9 z10 z11, c1 z9 = true → c1 z10 = true → c1 z11 = true → LX12_side_344 G (d + 4) 0 0 m (nI w) x2 x3 x4 x5 x6 x7 (nI i) z9 z10 z11 M' Q := by
    intro r
    induction r with
    | zero =>
      intro i hi M' hfr hsk h1 h2 z9 z10 z11 hz9 hz10 hz11
      have e : i = n := by omega
      subst e
      obtain ⟨q1, q2, q3⟩ := fr0 hfr
      exact vX12_side_344 _ _ _ _ _ _ _ _ _ _ _ _ hz9 hz10 hz11 ⟨q1.1, fun _ => hQ M' hfr hsk h1 h2, fun c => absurd (by rw [q3.1]; exact nI_le (Nat.le_refl i) (by omega)) c⟩
    | succ r ih =>
      intro i hi M' hfr hsk h1 h2 z9 z10 z11 hz9 hz10 hz11
      obtain ⟨q1, q2, q3⟩ := fr0 hfr
      have hil : i < n := by omega
      obtain ⟨a1, a2, a3⟩ := l3 i hil
      have a1' : x_i M' (m + 25) i = nI (sg i) := by rw [hfr.i (by decide) (by decide)]; exact a1
      refine vX12_side_344 _ _ _ _ _ _ _ _ _ _ _ _ hz9 hz10 hz11 ⟨q1.1, fun c => absurd (by rw [q3.1] at c; exact c) (nI_ge (a := i) (b := n) (by omega) (by omega)), fun _ => ⟨m + 54, q1.r54, m + 21, q1.r21, m + 25, q1.r25, by rw [q1.h25], by rw [q1.h25]; exact vp_in_nI (show i < 8400 by omega) (by omega), by rw [q1.h21], ?_, by rw [q1.h54], by rw [e40_, q1.h54]; exact vp_in_nI (show 40 * w + i < 80 by omega) (by omega), ?_⟩⟩
      · rw [nI_clamp (n := i) (by omega), a1', q1.h21]; exact vp_in_nI (show sg i < 8400 by omega) (by omega)
      · rintro M3 rfl
        rw [nI_clamp (n := i) (by omega), a1', nI_clamp (n := sg i) (by omega), (q2.2.2.2.1 (sg i) a2).1, e40_, nI_clamp (n := 40 * w + i) (by omega), ← a3]
        refine inner i hil (fun M4 z9 z10 z11 hz9 hz10 hz11 b1 b2 b3 b4 => ih (i + 1) (by omega) M4 b1 b2 b3 b4 z9 z10 z11 hz9 hz10 hz11) f 0 (Nat.zero_add f) _ (hfr.si (by decide) (by decide)) (hsk.tr ⟨fun t _ => by rw [xm_oo (by decide)], fun t ht => by rw [xi_nk (by omega)], fun t _ => by rw [xm_oo (by decide)]⟩) (fun t ht => ?_) (fun t ht k hk => by rw [xm_oo (by decide)]; exact h2 t ht k hk) (fun k' hk' => absurd hk' (Nat.not_lt_zero k')) z10 z11 hz10 hz11
        by_cases e : t = i
        · rw [e, xi_eq]
        · rw [xi_nk (by omega)]; exact h1 t (by omega)
  exact outer n 0 (Nat.zero_add n) M FrM.rf SiK.rf (fun t ht => absurd ht (Nat.not_lt_zero t)) (fun t ht => absurd ht (Nat.not_lt_zero t))
end RSide2C
