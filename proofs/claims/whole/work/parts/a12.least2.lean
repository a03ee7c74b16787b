/-! ===== Least, more ===== -/
section Least2
variable {G : GG} {M : Mem} {o mv mk nm nk n f : Nat} {st : Nat → Nat → Nat} {mr : Nat → Nat} {o2 mv2 mk2 nm2 nk2 : Nat}
theorem nI_1sub {a : Nat} (h : a ≤ 1) : (1 : Int32) - nI a = nI (1 - a) := by
  rcases Nat.le_one_iff_eq_zero_or_eq_one.mp h with rfl | rfl <;> rfl
theorem LeS.si {a k : Nat} {v : Int32} (h : LeS M o mv mk nm nk) : LeS (x_si M a k v) o mv mk nm nk := h.eq rfl rfl
theorem k_contrary7 (dd : Nat) {M0 : Mem} (hs : LeS M0 o mv mk nm nk) (hn : n ≤ nk) (hs2 : LeS M0 o2 mv2 mk2 nm2 nk2) (h2 : LeI M0 o2 mv2 mk2 n f st mr) (hn2 : n ≤ nk2) (hd : o2 ∉ [o, mv, mk] ∧ mv2 ∉ [o, mv, mk] ∧ mk2 ∉ [o, mv, mk]) (hm : ∀ i, i < n → mr i ≤ 1) :
    ∀ (k i : Nat), i + k = n → ∀ M, FrI M0 M [o, mv, mk] → LeI M o mv mk n f st (fun a => if a < i then 1 - mr a else mr a) → LX1_becomeContrary_7 G (dd + 2) 0 0 o o2 (nI i) M (fun r M' => r = none ∧ LeI M' o mv mk n f st (fun a => 1 - mr a) ∧ FrI M0 M' [o, mv, mk]) := by
  have hnk : n < 2 ^ 30 := by have := hs.2.2.2.2.2.2.2.2.2; omega
  have e1 : mk ≠ o := hs.2.2.2.2.2.2.1
  have e2 : mv ≠ mk := hs.2.2.2.2.2.2.2.1
  intro k
  induction k with
  | zero =>
    intro i hi M hfr hl
    have hin : i = n := by omega
    subst hin
    refine vX1_becomeContrary_7 o o2 (nI i) ⟨(hs.fr hfr).1, fun _ => ⟨rfl, ⟨hl.1, hl.2.1, hl.2.2.1, fun a ha => ?_⟩, hfr⟩, fun c => ?_⟩
    · exact (hl.2.2.2 a ha).trans (congrArg nI (if_pos ha))
    · rw [hl.1] at c
      exact absurd (nI_le (Nat.le_refl i) (by omega)) c
  | succ k ih =>
    intro i hi M hfr hl
    have hin : i < n := by omega
    refine vX1_becomeContrary_7 o o2 (nI i) ⟨(hs.fr hfr).1, fun c => ?_, fun _ => ⟨(hs2.fr hfr).1, ?_⟩⟩
    · rw [hl.1] at c
      exact absurd c (nI_ge hin (by omega))
    · refine Call.mono (k_mark dd (hs2.fr hfr) (h2.fr hfr hd.1 hd.2.1 hd.2.2) hn2 hin) ?_
      rintro r M' ⟨rfl, rfl⟩
      refine ⟨_, rfl, (hs.fr hfr).1, Call.mono (k_putMark dd (hs.fr hfr) (show i < nk by omega) _) ?_⟩
      rintro r M1 ⟨rfl, rfl⟩
      rw [nI_1sub (hm i hin), nI_1]
      refine ⟨rfl, ih (i + 1) (by omega) _ (hfr.si (by simp)) ⟨by rw [xi_na e1.symm]; exact hl.1, by rw [xi_na e1.symm]; exact hl.2.1, fun a ha g hg => by rw [xi_na e2]; exact hl.2.2.1 a ha g hg, fun a ha => ?_⟩⟩
      by_cases e : a = i
      · subst e; rw [xi_eq]; exact congrArg nI (if_pos (by omega)).symm
      · rw [xi_nk e]
        refine (hl.2.2.2 a ha).trans (congrArg nI ?_)
        by_cases e3 : a < i
        · exact (if_pos e3).trans (if_pos (show a < i + 1 by omega)).symm
        · exact (if_neg e3).trans (if_neg (show ¬ a < i + 1 by omega)).symm
theorem k_becomeContrary (d : Nat) (hf : 0 < f) (hs : LeS M o mv mk nm nk) (hn : n ≤ nk) (hm : n * f ≤ nm) (hs2 : LeS M o2 mv2 mk2 nm2 nk2) (h2 : LeI M o2 mv2 mk2 n f st mr) (hm2 : n * f ≤ nm2) (hn2 : n ≤ nk2) (hd : o2 ∉ [o, mv, mk] ∧ mv2 ∉ [o, mv, mk] ∧ mk2 ∉ [o, mv, mk]) (h1 : ∀ i, i < n → mr i ≤ 1) : Call G (d + 4) 0 0 mX1_becomeContrary [.ref o, .ref o2] M (fun r M' => r = none ∧ LeI M' o mv mk n f st (fun a => 1 - mr a) ∧ FrI M M' [o, mv, mk]) := by
  refine eX1_becomeContrary o o2 ⟨hs.1, Call.mono (k_become d hf hs hn hm hs2 h2 hm2 hn2 hd) ?_⟩
  rintro r M1 ⟨rfl, g1, g2⟩
  exact ⟨rfl, k_contrary7 (d + 1) hs hn hs2 h2 hn2 hd h1 n 0 (by omega) M1 g2 ⟨g1.1, g1.2.1, g1.2.2.1, fun a ha => (g1.2.2.2 a ha).trans (congrArg nI (if_neg (Nat.not_lt_zero a)).symm)⟩⟩
theorem k_becomeOnly (d : Nat) (hs : LeS M o mv mk nm nk) (hn : 1 ≤ nk) (hm : 1 ≤ nm) (m : Nat) : Call G (d + 3) 0 0 mX1_becomeOnly [.ref o, .int (nI m)] M (fun r M' => r = none ∧ LeI M' o mv mk 1 1 (fun _ _ => 0) (fun _ => m) ∧ FrI M M' [o, mv, mk]) := by
  have e0 : mv ≠ o := hs.2.2.2.2.2.1
  have e1 : mk ≠ o := hs.2.2.2.2.2.2.1
  have e2 : mv ≠ mk := hs.2.2.2.2.2.2.2.1
  refine eX1_becomeOnly o (nI m) ⟨hs.1, Call.mono (k_size (n := 1) (f := 1) d hs hn) ?_⟩
  rintro r M1 ⟨rfl, rfl⟩
  refine ⟨rfl, hs.1, Call.mono (k_put (n := 1) (f := 1) (i := 0) (g := 0) d hs.si.si (by rw [xi_eq]) hm (by omega) (by omega) 0) ?_⟩
  rintro r M2 ⟨rfl, rfl⟩
  refine ⟨rfl, hs.1, Call.mono (k_putMark (i := 0) d hs.si.si.si hn (nI m)) ?_⟩
  rintro r M3 ⟨rfl, rfl⟩
  refine ⟨rfl, rfl, ⟨?_, ?_, fun i hi g hg => ?_, fun i hi => ?_⟩, (((FrI.rf.si (by simp)).si (by simp)).si (by simp)).si (by simp)⟩
  · rw [xi_na e1.symm, xi_na e0.symm, xi_nk (by decide), xi_eq]
  · rw [xi_na e1.symm, xi_na e0.symm, xi_eq]
  · have h1 : i = 0 := by omega
    have h2 : g = 0 := by omega
    subst h1; subst h2
    rw [xi_na e2]
    exact xi_eq
  · have h1 : i = 0 := by omega
    subst h1
    rw [xi_eq]
/-- whether two machines are the same -/
def mSame (n f n' f' : Nat) (st st' : Nat → Nat → Nat) (mr mr' : Nat → Nat) : Prop := n = n' ∧ f = f' ∧ ∀ i, i < n → mr i = mr' i ∧ ∀ g, g < f → st i g = st' i g
variable {st2 : Nat → Nat → Nat} {mr2 : Nat → Nat}
theorem k_like51 (dd : Nat) (hs : LeS M o mv mk nm nk) (h : LeI M o mv mk n f st mr) (hm : n * f ≤ nm) (hs2 : LeS M o2 mv2 mk2 nm2 nk2) (h2 : LeI M o2 mv2 mk2 n f st2 mr2) (hm2 : n * f ≤ nm2) (hb : ∀ i, i < n → ∀ g, g < f → st i g < 2 ^ 31 ∧ st2 i g < 2 ^ 31) {Q : Option Value → Mem → Prop} {i : Nat} (hi : i < n)
    (hq0 : (∃ g, g < f ∧ st i g ≠ st2 i g) → Q (some (.int 0)) M) (hq : (∀ g, g < f → st i g = st2 i g) → LX1_isLike_26 G (dd + 1) 0 0 o o2 (nI (i + 1)) (some (.int (nI f))) M Q) :
    ∀ (k j : Nat), j + k = f → (∀ g, g < j → st i g = st2 i g) → LX1_isLike_51 G (dd + 1) 0 0 o o2 (nI i) (nI j) M Q := by
  have hff : n * f < 2 ^ 30 := by have := hs.2.2.2.2.2.2.2.2.1; omega
  intro k
  induction k with
  | zero =>
    intro j hj hg
    have hjf : j = f := by omega
    subst hjf
    refine vX1_isLike_51 o o2 (nI i) (nI j) ⟨hs.1, fun _ => ?_, fun c => ?_⟩
    · rw [nI_1]; exact hq hg
    · rw [h.2.1] at c
      have : j ≤ n * j := Nat.le_mul_of_pos_left j (by omega)
      exact absurd (nI_le (Nat.le_refl j) (by omega)) c
  | succ k ih =>
    intro j hj hg
    have hjf : j < f := by omega
    refine vX1_isLike_51 o o2 (nI i) (nI j) ⟨hs.1, fun c => ?_, fun _ => ?_⟩
    · rw [h.2.1] at c
      have : f ≤ n * f := Nat.le_mul_of_pos_left f (by omega)
      exact absurd c (nI_ge hjf (by omega))
    · refine Call.mono (k_after dd hs h hm hi hjf) ?_
      rintro r M' ⟨rfl, rfl⟩
      refine ⟨_, rfl, hs2.1, Call.mono (k_after dd hs2 h2 hm2 hi hjf) ?_⟩
      rintro r M' ⟨rfl, rfl⟩
      obtain ⟨b1, b2⟩ := hb i hi j hjf
      refine ⟨_, rfl, fun c => ?_, fun c => hq0 ⟨j, hjf, fun e => c (by rw [e])⟩⟩
      rw [nI_1]
      refine ih (j + 1) (by omega) (fun g hg' => ?_)
      by_cases e : g = j
      · subst e; exact (nI_eq b1 b2).mp c
      · exact hg g (by omega)
theorem k_like26 (dd : Nat) (hs : LeS M o mv mk nm nk) (h : LeI M o mv mk n f st mr) (hn : n ≤ nk) (hm : n * f ≤ nm) (hs2 : LeS M o2 mv2 mk2 nm2 nk2) (h2 : LeI M o2 mv2 mk2 n f st2 mr2) (hn2 : n ≤ nk2) (hm2 : n * f ≤ nm2) (hb : ∀ i, i < n → ∀ g, g < f → st i g < 2 ^ 31 ∧ st2 i g < 2 ^ 31) (hb2 : ∀ i, i < n → mr i < 2 ^ 31 ∧ mr2 i < 2 ^ 31) {Q : Option Value → Mem → Prop}
    (hq0 : ¬ mSame n f n f st st2 mr mr2 → Q (some (.int 0)) M) (hq1 : mSame n f n f st st2 mr mr2 → Q (some (.int 1)) M) :
    ∀ (k i : Nat), i + k = n → ∀ z, c1 z = true → (∀ a, a < i → mr a = mr2 a ∧ ∀ g, g < f → st a g = st2 a g) → LX1_isLike_26 G (dd + 2) 0 0 o o2 (nI i) z M Q := by
  have hnk : n < 2 ^ 30 := by have := hs.2.2.2.2.2.2.2.2.2; omega
  intro k
  induction k with
  | zero =>
    intro i hi z hz ha
    have hin : i = n := by omega
    subst hin
    refine vX1_isLike_26 o o2 (nI i) z hz ⟨hs.1, fun _ => hq1 ⟨rfl, rfl, ha⟩, fun c => ?_⟩
    rw [h.1] at c
    exact absurd (nI_le (Nat.le_refl i) (by omega)) c
  | succ k ih =>
    intro i hi z hz ha
    have hin : i < n := by omega
    refine vX1_isLike_26 o o2 (nI i) z hz ⟨hs.1, fun c => ?_, fun _ => ?_⟩
    · rw [h.1] at c
      exact absurd c (nI_ge hin (by omega))
    · refine Call.mono (k_mark dd hs h hn hin) ?_
      rintro r M' ⟨rfl, rfl⟩
      refine ⟨_, rfl, hs2.1, Call.mono (k_mark dd hs2 h2 hn2 hin) ?_⟩
      rintro r M' ⟨rfl, rfl⟩
      obtain ⟨b1, b2⟩ := hb2 i hin
      refine ⟨_, rfl, fun c => ?_, fun c => hq0 (fun e => c (by rw [(e.2.2 i hin).1]))⟩
      have em : mr i = mr2 i := (nI_eq b1 b2).mp c
      exact k_like51 (i := i) (dd + 1) hs h hm hs2 h2 hm2 hb hin (fun ⟨g, hg, hne⟩ => hq0 (fun e => hne ((e.2.2 i hin).2 g hg))) (fun e => ih (i + 1) (by omega) _ rfl (fun a ha' => by
        by_cases e2 : a = i
        · subst e2; exact ⟨em, e⟩
        · exact ha a (by omega))) f 0 (by omega) (fun g hg => absurd hg (Nat.not_lt_zero g))
theorem k_isLike (d : Nat) {n2 f2 : Nat} (hs : LeS M o mv mk nm nk) (h : LeI M o mv mk n f st mr) (hn : n ≤ nk) (hm : n * f ≤ nm) (hs2 : LeS M o2 mv2 mk2 nm2 nk2) (h2 : LeI M o2 mv2 mk2 n2 f2 st2 mr2) (hn2 : n2 ≤ nk2) (hm2 : n2 * f2 ≤ nm2) (hf : f < 2 ^ 30) (hf2 : f2 < 2 ^ 30) (hb : ∀ i, i < n → ∀ g, g < f → st i g < 2 ^ 31) (hb' : ∀ i, i < n2 → ∀ g, g < f2 → st2 i g < 2 ^ 31) (hb2 : ∀ i, i < n → mr i < 2 ^ 31) (hb2' : ∀ i, i < n2 → mr2 i < 2 ^ 31) : Call G (d + 3) 0 0 mX1_isLike [.ref o, .ref o2] M (fun r M' => M' = M ∧ ((mSame n f n2 f2 st st2 mr mr2 ∧ r = some (.int 1)) ∨ (¬ mSame n f n2 f2 st st2 mr mr2 ∧ r = some (.int 0)))) := by
  have hnk : n < 2 ^ 30 := by have := hs.2.2.2.2.2.2.2.2.2; omega
  have hnk2 : n2 < 2 ^ 30 := by have := hs2.2.2.2.2.2.2.2.2.2; omega
  refine eX1_isLike o o2 ⟨hs.1, hs2.1, fun c => ⟨rfl, Or.inr ⟨fun e => c (by rw [h.1, h2.1, e.1]), rfl⟩⟩, fun c => ⟨fun c2 => ?_, fun c2 => ⟨rfl, Or.inr ⟨fun e => c2 (by rw [h.2.1, h2.2.1, e.2.1]), rfl⟩⟩⟩⟩
  rw [h.1, h2.1] at c
  rw [h.2.1, h2.2.1] at c2
  have e1 : n = n2 := (nI_eq (by omega) (by omega)).mp c
  have e2 : f = f2 := (nI_eq (by omega) (by omega)).mp c2
  subst e1; subst e2
  exact k_like26 d hs h hn hm hs2 h2 hn2 hm2 (fun i hi g hg => ⟨hb i hi g hg, hb' i hi g hg⟩) (fun i hi => ⟨hb2 i hi, hb2' i hi⟩) (fun e => ⟨rfl, Or.inr ⟨e, rfl⟩⟩) (fun e => ⟨rfl, Or.inl ⟨e, rfl⟩⟩) n 0 (by omega) none rfl (fun a ha => absurd ha (Nat.not_lt_zero a))
end Least2
