/-! ===== the class: the sides of atoms ===== -/
section SidesC
variable {G : GG} {M : Mem} {r k pa p0 ra r0 L rc sd : Nat} {wd : Nat → Nat} {W : List Tk} {Q : Option Value → Mem → Prop}
theorem SiS.fr {M' : Mem} {A : List Nat} (h : SiS M sd) (g : Fr M M' A) : SiS M' sd := by
  unfold SiS
  rw [g.h, g.r]
  exact h
theorem SiI.fr {M' : Mem} {A : List Nat} {S : SD} (h : SiI M sd S) (g : Fr M M' A) (h1 : sd ∉ A) (h2 : sd + 1 ∉ A) : SiI M' sd S := by
  unfold SiI
  rw [g.i h1, g.i h2]
  exact h
theorem w_clearS (d : Nat) (h : SiS M sd) (hQ : ∀ M', Fr M M' [sd, sd + 1] → SiI M' sd s0D → Q none M') : Call G (d + 2) 0 0 mX8_clear [.ref sd] M Q := by
  obtain ⟨a1, a2, a3⟩ := h
  refine eX8_clear sd ⟨a1, sd + 1, a2, w_fillI d a3 (by omega) ⟨rfl, a1, ?_⟩⟩
  rintro M6 rfl M7 rfl M8 rfl
  refine hQ _ ((((Fr.rf.fi (by simp)).si (by simp)).si (by simp)).si (by simp)) ⟨?_, ?_, ?_, fun i hi => ?_⟩
  · rw [xi_nk (by omega), xi_nk (by omega), xi_eq]; rfl
  · rw [xi_nk (by omega), xi_eq]; rfl
  · rw [xi_eq]; rfl
  · rw [xi_na (by omega), xi_na (by omega), xi_na (by omega), xf_in (by omega) hi]; rfl
theorem w_addName (d : Nat) (h : SiS M sd) {a : Int32} (hQ : ∀ M', Fr M M' [sd, sd + 1] → (∀ n S, n < 8 → a = nI n → SiI M sd S → SiI M' sd (adN S n)) → Q none M') : Call G (d + 2) 0 0 mX8_addName [.ref sd, .int a] M Q := by
  obtain ⟨a1, a2, a3⟩ := h
  have no : (∀ n, n < 8 → a ≠ nI n) → Q none M := fun c => hQ M Fr.rf (fun n S hn e => absurd e (c n hn))
  by_cases c : 0 ≤ a.toInt ∧ a.toInt ≤ ((8 : Nat) : Int) - 1
  case neg =>
    have hno : ∀ n, n < 8 → a ≠ nI n := fun n hn e => c (by rw [e, nI_toInt (by omega)]; omega)
    refine eX8_addName sd a ⟨fun _ => no hno, fun c1 => ⟨fun _ => no hno, fun c2 => absurd ?_ c⟩⟩
    rw [Int32.lt_iff_toInt_lt] at c1
    rw [Int32.le_iff_toInt_le] at c2
    have h0 : (0 : Int32).toInt = 0 := rfl
    have h8 : (8 : Int32).toInt = 8 := rfl
    omega
  obtain ⟨n, hn, e⟩ := nI_ofInt c.1 c.2 (by omega)
  refine eX8_addName sd a ⟨fun c1 => absurd (by rw [e] at c1; exact c1) (nI_pos (n := n) (by omega)), fun _ => ⟨fun c2 => absurd (by rw [e] at c2; exact c2) (nI_ge (a := n) (b := 8) hn (by omega)), fun _ => ⟨a1, sd + 1, a2, by rw [a3], by rw [e, a3]; exact vp_in_nI hn (by omega), ?_⟩⟩⟩
  rintro M9 rfl M10 rfl
  rw [e, nI_clamp (by omega), sl_1 (by omega)]
  refine hQ _ ((Fr.rf.si (by simp)).si (by simp)) (fun n' S hn' e' hS => ?_)
  have en : n = n' := by rw [e] at e'; exact (nI_eq (by omega) (by omega)).mp e'
  subst en
  obtain ⟨s1, s2, s3, s4⟩ := hS
  refine ⟨?_, ?_, ?_, fun i hi => ?_⟩
  · rw [xi_nk (by omega), xi_na (by omega)]; exact s1
  · rw [xi_nk (by omega), xi_na (by omega)]; exact s2
  · rw [xi_eq, xi_na (by omega), s3, nI_or]; rfl
  · rw [xi_na (by omega)]
    show _ = nI (if i = n then s_t S i + 1 else s_t S i)
    by_cases c : i = n
    · rw [if_pos c, c, xi_eq, s4 n hn, nI_1]
    · rw [if_neg c, xi_nk c]; exact s4 i hi
/-- the sides of the part to come are written: what was read stays -/
theorem RdI.side {M' : Mem} {s : PSt} (h : RdI M r p0 rc W s) (hr : r < p0) (g : Fr M M' [sd, sd + 1]) (h1 : p0 + 8 * q_c s + 1 ≤ sd) : RdI M' r p0 rc W s := by
  have er : x_i M' r = x_i M r := g.i (by simp only [List.mem_cons, List.not_mem_nil, or_false]; omega)
  refine ⟨?_, h.2.1, fun j hj => (h.2.2 j hj).eq (fun q h1 h2 => g.i (by simp only [List.mem_cons, List.not_mem_nil, or_false]; omega))⟩
  have := h.1
  unfold RdH AtI at this ⊢
  rw [er]
  exact this
theorem RdF.side {M' : Mem} {p : Nat} (h : RdF M r rc L W p) (g : Fr M M' [sd, sd + 1]) (h1 : r < sd) : RdF M' r rc L W p := by
  have er : x_i M' r = x_i M r := g.i (by simp only [List.mem_cons, List.not_mem_nil, or_false]; omega)
  unfold RdF at h ⊢
  rw [er]
  exact h
theorem side_R {q c : Nat} (hc : c < 60) (h1 : p0 + 8 * c + 1 ≤ sd) (h2 : sd + 1 ≤ p0 + 8 * c + 4) (hq : q ∈ [r, sd, sd + 1]) : RPF r p0 q := by
  simp only [List.mem_cons, List.not_mem_nil, or_false] at hq
  unfold RPF
  omega
theorem w_takeTerm (d : Nat) (hE : RdE M r k pa p0 ra r0 L rc wd W) {l : List Tk} {c : Nat} {D : Nat → PD} {o : Option Nat} {b m most : Nat} {S : SD} (hI : RdI M r p0 rc W (l, c, D, o, b, m)) (hG : GdT L l) (hsd : SiS M sd) (hS : SiI M sd S) (hc : c < 60) (h1 : p0 + 8 * c + 1 ≤ sd) (h2 : sd + 1 ≤ p0 + 8 * c + 4) (hn : s_n S < 2 ^ 20) (hm : most < 2 ^ 20)
    (hQ0 : ∀ p M', tT L most S l o = .inl p → Fr M M' [r, sd, sd + 1] → RdF M' r rc L W p → Q (some (.int 0)) M')
    (hQ1 : ∀ S' l' o' M', tT L most S l o = .inr (S', l', o') → Fr M M' [r, sd, sd + 1] → RdI M' r p0 rc W (l', c, D, o', b, m) → SiI M' sd S' → Q (some (.int 1)) M') :
    Call G (d + 3) 0 0 mX5_takeTerm [.ref r, .ref sd, .int (nI most)] M Q := by
  have hl := hE.len
  have hr : r < p0 := by have := hE.1.2.2.2.2.2.2.2; omega
  have hp : plT L l ≤ 120 := by have := gd_le l hG; have := hE.2.2.2.2.2; omega
  have hAt : AtI M r W l := hI.1.2.2.1
  have hkd : kdT l ≤ 18 := by
    by_cases c : kdT l = 0
    · omega
    · exact (gd_tail hG c).2.2.2.2.1
  unfold tT at hQ0 hQ1
  have f01 : ∀ {M'}, Fr M M' [r] → Fr M M' [r, sd, sd + 1] := fun g => g.wk (by simp)
  have f02 : ∀ {M'}, Fr M M' [sd, sd + 1] → Fr M M' [r, sd, sd + 1] := fun g => g.wk (by simp)
  refine eX5_takeTerm r sd _ ⟨hE.1.1, w_peek (d + 1) hE hAt ⟨_, rfl, ?_⟩⟩
  rw [show (2 : Int32) = nI 2 from rfl, nI_eq (by omega) (by omega)]
  refine ⟨fun c2 => ⟨hE.1.1, w_peek (d + 1) hE hAt ⟨_, rfl, ?_⟩⟩, fun c2 => ⟨hsd.1, hE.1.1, w_worth (d + 1) hE hAt (fun v hv => ⟨_, rfl, hsd.1, ?_⟩)⟩⟩
  · rw [if_neg c2] at hQ0 hQ1
    rw [show (3 : Int32) = nI 3 from rfl, nI_eq (by omega) (by omega)]
    refine ⟨fun c3 => ⟨hE.1.1, ?_⟩, fun c3 => ⟨hE.1.1, w_worth (d + 1) hE hAt (fun v hv => ⟨_, rfl, hsd.1, ?_⟩)⟩⟩
    · rw [if_neg c3] at hQ0
      exact w_fail d hE hI (fun M' g f => ⟨_, rfl, hQ0 _ M' rfl (f01 g) f⟩)
    · rw [if_pos c3] at hQ1
      refine w_addName d hsd (fun M' g hadd => ⟨rfl, by rw [g.h]; exact hE.1.1, ?_⟩)
      rintro M23 rfl
      have hI' := hI.side hr g h1
      have hw := (gd_tail hG (by omega)).2.2.2.2.2.2.1 c3
      have hA := hadd (woT l) S hw (hv (by omega)) hS
      refine hQ1 _ _ _ _ rfl ((f02 g).si (by simp)) (hI'.si5 hr (show kdT l ≠ 0 by omega) hl) (hA.fr (A := [r]) (Fr.rf.si (by simp)) (by rw [List.mem_singleton]; omega) (by rw [List.mem_singleton]; omega))
  · rw [if_pos c2] at hQ1
    have ev := hv (by omega)
    have hw := (gd_tail hG (by omega)).2.2.2.2.2.1 c2
    have hw' : woT l < 100 := hw
    rintro M30 rfl
    have g30 : Fr M (x_si M sd 2 (x_i M sd 2 + v)) [sd, sd + 1] := Fr.rf.si (by simp)
    have hI' := hI.side hr g30 h1
    have hE' := hE.fr ((f02 g30).R (fun q hq => side_R hc h1 h2 hq))
    have hS' : SiI (x_si M sd 2 (x_i M sd 2 + v)) sd (s_r S, s_t S, s_n S + woT l, s_s S) := by
      obtain ⟨s1, s2, s3, s4⟩ := hS
      refine ⟨by rw [xi_nk (by omega)]; exact s1, ?_, by rw [xi_nk (by omega)]; exact s3, fun i hi => by rw [xi_na (by omega)]; exact s4 i hi⟩
      rw [xi_eq, s2, ev, nI_add]
      rfl
    rw [show x_i (x_si M sd 2 (x_i M sd 2 + v)) sd 2 = nI (s_n S + woT l) from hS'.2.1, nI_leI (by omega) (by omega)]
    refine ⟨fun c3 => ⟨hE.1.1, ?_⟩, fun c3 => ⟨hE.1.1, w_placeT (d + 1) hE' (l := l) hI'.1.2.2.1 ⟨_, rfl, hE.1.1, ?_⟩⟩⟩
    · rintro M33 rfl
      rw [if_pos c3] at hQ1
      exact hQ1 _ _ _ _ rfl ((f02 g30).si (by simp)) (hI'.si5 hr (show kdT l ≠ 0 by omega) hl) (hS'.fr (A := [r]) (Fr.rf.si (by simp)) (by rw [List.mem_singleton]; omega) (by rw [List.mem_singleton]; omega))
    · rw [if_neg c3] at hQ1
      refine w_blame (d + 1) hE' hI' hp (fun M40 g40 hI40 => ⟨rfl, by rw [g40.h]; exact hE.1.1, ?_⟩)
      rintro M42 rfl
      exact hQ1 _ _ _ _ rfl (((f02 g30).tr g40 (by simp)).si (by simp)) (hI40.si5 hr (show kdT l ≠ 0 by omega) hl) ((hS'.fr g40 (by rw [List.mem_singleton]; omega) (by rw [List.mem_singleton]; omega)).fr (A := [r]) (Fr.rf.si (by simp)) (by rw [List.mem_singleton]; omega) (by rw [List.mem_singleton]; omega))
theorem tT_n {most : Nat} {S S' : SD} {l l' : List Tk} {o o' : Option Nat} (hG : GdT L l) (e : tT L most S l o = .inr (S', l', o')) : s_n S' ≤ s_n S + 99 := by
  unfold tT at e
  by_cases c : kdT l = 2
  · rw [if_pos c] at e
    have hw : woT l < 100 := (gd_tail hG (by omega)).2.2.2.2.2.1 c
    cases e
    show s_n S + woT l ≤ _
    omega
  · rw [if_neg c] at e
    by_cases c2 : kdT l = 3
    · rw [if_pos c2] at e
      cases e
      exact Nat.le_add_right _ _
    · rw [if_neg c2] at e; cases e
theorem w_sum (d : Nat) (hE : RdE M r k pa p0 ra r0 L rc wd W) {l : List Tk} {c : Nat} {D : Nat → PD} {o : Option Nat} {b m : Nat} (hI : RdI M r p0 rc W (l, c, D, o, b, m)) (hG : GdT L l) (hsd : SiS M sd) (hc : c < 60) (h1 : p0 + 8 * c + 1 ≤ sd) (h2 : sd + 1 ≤ p0 + 8 * c + 4)
    (hQ0 : ∀ p M', tS L 121 s0D l o = .inl p → Fr M M' [r, sd, sd + 1] → RdF M' r rc L W p → Q (some (.int 0)) M')
    (hQ1 : ∀ S' l' o' M', tS L 121 s0D l o = .inr (S', l', o') → Fr M M' [r, sd, sd + 1] → RdI M' r p0 rc W (l', c, D, o', b, m) → SiI M' sd S' → Q (some (.int 1)) M') :
    Call G (d + 4) 0 0 mX5_sum [.ref r, .ref sd] M Q := by
  have hr : r < p0 := by have := hE.1.2.2.2.2.2.2.2; omega
  have hL := hE.2.2.2.2.2
  refine eX5_sum r sd ⟨hsd.1, w_clearS (d + 1) hsd (fun M3 g3 hS3 => ⟨rfl, ?_⟩)⟩
  have key : ∀ n i S l o M', i + n = 121 → 2 * i + l.length ≤ 120 → s_n S ≤ 100 * i → GdT L l → Fr M M' [r, sd, sd + 1] → RdI M' r p0 rc W (l, c, D, o, b, m) → SiI M' sd S → (∀ p M', tS L n S l o = .inl p → Fr M M' [r, sd, sd + 1] → RdF M' r rc L W p → Q (some (.int 0)) M') → (∀ S' l' o' M', tS L n S l o = .inr (S', l', o') → Fr M M' [r, sd, sd + 1] → RdI M' r p0 rc W (l', c, D, o', b, m) → SiI M' sd S' → Q (some (.int 1)) M') → LX5_sum_6 G (d + 3) 0 0 r sd (nI i) M' Q := by
    intro n
    induction n with
    | zero => intro i S l o M' hi hl; omega
    | succ n ih =>
      intro i S l o M' hi hl hS hG g hI hSi q0 q1
      have hE' := hE.fr (g.R (fun q hq => side_R hc h1 h2 hq))
      refine vX5_sum_6 _ _ _ ⟨fun x => absurd x (nI_ge (a := i) (b := 120) (by omega) (by omega)), fun _ => ⟨hE'.1.1, ?_⟩⟩
      refine w_takeTerm (most := 99) d hE' hI hG (hsd.fr g) hSi hc h1 h2 (by omega) (by omega) (fun p M4 e g4 f => ⟨0, rfl, fun x => absurd rfl x, fun _ => ?_⟩) (fun S' l' o' M4 e g4 hI4 hS4 => ⟨1, rfl, fun _ => ?_, fun x => absurd x (by decide)⟩)
      · refine q0 p M4 ?_ (g.tr g4 (fun _ h => h)) f
        unfold tS
        rw [e]
      · have hE4 := hE'.fr (g4.R (fun q hq => side_R hc h1 h2 hq))
        obtain ⟨-, -, k1, k2, k3⟩ := tT_pg hG e
        have k4 := tT_n hG e
        refine ⟨hE4.1.1, w_peek (d + 2) hE4 (l := l') hI4.1.2.2.1 ⟨_, rfl, ?_⟩⟩
        have hkd : kdT l' ≤ 18 := by
          by_cases c : kdT l' = 0
          · omega
          · exact (gd_tail k1 c).2.2.2.2.1
        rw [show (15 : Int32) = nI 15 from rfl, nI_eq (by omega) (by omega), nI_1]
        refine ⟨fun c5 => ⟨hE4.1.1, ?_⟩, fun c5 => ?_⟩
        · rintro M13 rfl
          obtain ⟨t1, t2, t3, -⟩ := gd_tail k1 (show kdT l' ≠ 0 by omega)
          refine ih (i + 1) S' l'.tail o' _ (by omega) (by omega) (by omega) t1 ((g.tr g4 (fun _ h => h)).si (by simp)) (hI4.si5 hr (show kdT l' ≠ 0 by omega) hE.len) (hS4.fr (A := [r]) (Fr.rf.si (by simp)) (by rw [List.mem_singleton]; omega) (by rw [List.mem_singleton]; omega)) (fun p M5 e5 => q0 p M5 ?_) (fun S5 l5 o5 M5 e5 => q1 S5 l5 o5 M5 ?_)
          · unfold tS; rw [e]; simp only; rw [if_pos c5]; exact e5
          · unfold tS; rw [e]; simp only; rw [if_pos c5]; exact e5
        · refine q1 S' l' o' M4 ?_ (g.tr g4 (fun _ h => h)) hI4 hS4
          unfold tS
          rw [e]
          simp only
          rw [if_neg c5]
  have hlen := gd_len l hG
  exact key 121 0 s0D l o M3 (Nat.zero_add _) (by omega) (Nat.zero_le _) hG (g3.wk (by simp)) (hI.side hr g3 h1) hS3 hQ0 hQ1
end SidesC
