/-! ===== Weaver: sums ===== -/
section SumsC
def SiS (M : Mem) (s : Nat) : Prop := (x_h M s).1 = 24 ∧ x_r M s 0 = some (s + 1) ∧ x_h M (s + 1) = (1, 8)
/-- the object p of Part: its Sides at p + 1 and p + 3, its Least at p + 5 -/
def PaS (M : Mem) (p : Nat) : Prop := (x_h M p).1 = 19 ∧ x_r M p 0 = some (p + 1) ∧ x_r M p 1 = some (p + 3) ∧ x_r M p 2 = some (p + 5) ∧ SiS M (p + 1) ∧ SiS M (p + 3) ∧ LeS M (p + 5) (p + 6) (p + 7) 1080 40
theorem PaS.eq {M M' : Mem} {p : Nat} (h : PaS M p) (h1 : x_h M' = x_h M) (h2 : x_r M' = x_r M) : PaS M' p := by
  unfold PaS SiS LeS
  rw [h1, h2]
  exact h
theorem PaS.fr {M M' : Mem} {p : Nat} {A : List Nat} (h : PaS M p) (f : Fr M M' A) : PaS M' p := h.eq f.h f.r
/-- a value along a word -/
def dz (ζ : Int → Nat → Int) : Int → List Nat → Int
  | D, [] => D
  | D, g :: w => dz ζ (ζ D g) w
def smZ (b al : Nat) (wt : Nat → Int) (D : Int) (g : Nat) : Int := (b : Int) * D + ld b al wt g
def cmpI (sg : Nat) (v : Int) : Nat := if sg = 16 then (if v = 0 then 1 else 0) else if sg = 17 then (if v < 0 then 1 else 0) else (if v ≤ 0 then 1 else 0)
def lowS (wt : Nat → Int) : Nat → Int
  | 0 => 0
  | i + 1 => lowS wt i - max (wt i) 0
def higS (wt : Nat → Int) : Nat → Int
  | 0 => 0
  | i + 1 => higS wt i - min (wt i) 0
def upS (wt : Nat → Int) : Nat → Int
  | 0 => 0
  | j + 1 => upS wt j + max (wt (7 - j)) 0
def dnS (wt : Nat → Int) : Nat → Int
  | 0 => 0
  | j + 1 => dnS wt j - min (wt (7 - j)) 0
theorem upS_low {wt : Nat → Int} : upS wt 8 = - lowS wt 8 := by
  show 0 + max (wt 7) 0 + max (wt 6) 0 + max (wt 5) 0 + max (wt 4) 0 + max (wt 3) 0 + max (wt 2) 0 + max (wt 1) 0 + max (wt 0) 0 = -(0 - max (wt 0) 0 - max (wt 1) 0 - max (wt 2) 0 - max (wt 3) 0 - max (wt 4) 0 - max (wt 5) 0 - max (wt 6) 0 - max (wt 7) 0)
  omega
theorem dnS_hig {wt : Nat → Int} : dnS wt 8 = higS wt 8 := by
  show 0 - min (wt 7) 0 - min (wt 6) 0 - min (wt 5) 0 - min (wt 4) 0 - min (wt 3) 0 - min (wt 2) 0 - min (wt 1) 0 - min (wt 0) 0 = 0 - min (wt 0) 0 - min (wt 1) 0 - min (wt 2) 0 - min (wt 3) 0 - min (wt 4) 0 - min (wt 5) 0 - min (wt 6) 0 - min (wt 7) 0
  omega
theorem up_nn {wt : Nat → Int} : ∀ j, 0 ≤ upS wt j
  | 0 => Int.le_refl 0
  | j + 1 => by have := up_nn (wt := wt) j; show 0 ≤ upS wt j + max (wt (7 - j)) 0; omega
theorem dn_nn {wt : Nat → Int} : ∀ j, 0 ≤ dnS wt j
  | 0 => Int.le_refl 0
  | j + 1 => by have := dn_nn (wt := wt) j; show 0 ≤ dnS wt j - min (wt (7 - j)) 0; omega
/-- bounds of what digits add -/
theorem ls_bd {b al : Nat} {wt : Nat → Int} {k : Nat} (hb : b = 2 ∨ b = 3) : ∀ j, - (((b : Int) - 1) * dnS wt j) ≤ ls b al wt k j ∧ ls b al wt k j ≤ ((b : Int) - 1) * upS wt j
  | 0 => by
    show - (((b : Int) - 1) * 0) ≤ 0 ∧ 0 ≤ ((b : Int) - 1) * 0
    omega
  | j + 1 => by
    have ih := ls_bd (al := al) (wt := wt) (k := k) hb j
    show - (((b : Int) - 1) * (dnS wt j - min (wt (7 - j)) 0)) ≤ (if bt al (7 - j) = 1 then ls b al wt k j + wt (7 - j) * ((k / b ^ ab al j % b : Nat) : Int) else ls b al wt k j) ∧ (if bt al (7 - j) = 1 then ls b al wt k j + wt (7 - j) * ((k / b ^ ab al j % b : Nat) : Int) else ls b al wt k j) ≤ ((b : Int) - 1) * (upS wt j + max (wt (7 - j)) 0)
    generalize ls b al wt k j = L at ih ⊢
    generalize wt (7 - j) = t
    generalize upS wt j = u at ih ⊢
    generalize dnS wt j = v at ih ⊢
    have hg : k / b ^ ab al j % b < b := Nat.mod_lt _ (by omega)
    generalize k / b ^ ab al j % b = g at hg ⊢
    have hg3 : g = 0 ∨ g = 1 ∨ g = 2 := by omega
    rcases hb with rfl | rfl
    · rcases hg3 with rfl | rfl | rfl
      · split <;> omega
      · split <;> omega
      · omega
    · rcases hg3 with rfl | rfl | rfl
      · split <;> omega
      · split <;> omega
      · split <;> omega
theorem ld_bd {b al : Nat} {wt : Nat → Int} {k : Nat} (hb : b = 2 ∨ b = 3) : ((b : Int) - 1) * lowS wt 8 * 1 ≤ ((b : Int) - 1) * lowS wt 8 * 1 ∧ - (((b : Int) - 1) * higS wt 8) ≤ ld b al wt k ∧ ld b al wt k ≤ ((b : Int) - 1) * (- lowS wt 8) := by
  have h := ls_bd (al := al) (wt := wt) (k := k) hb 8
  rw [upS_low, dnS_hig] at h
  exact ⟨Int.le_refl _, h⟩
theorem w_minI (d : Nat) {G : GG} {M : Mem} {a b : Int} {Q : Option Value → Mem → Prop} (h1 : -2147483648 ≤ a) (h2 : a < 2147483648) (h3 : -2147483648 ≤ b) (h4 : b < 2147483648) (hQ : Q (some (.int (iI (min a b)))) M) : Call G (d + 1) 0 0 mJ9_min_7cf53 [.int (iI a), .int (iI b)] M Q := by
  refine eJ9_min_7cf53 _ _ ⟨fun c => ?_, fun c => ?_⟩
  · rw [iI_lt h3 h4 h1 h2] at c
    rw [Int.min_eq_right (by omega)] at hQ
    exact hQ
  · rw [iI_lt h3 h4 h1 h2] at c
    rw [Int.min_eq_left (by omega)] at hQ
    exact hQ
theorem w_maxI (d : Nat) {G : GG} {M : Mem} {a b : Int} {Q : Option Value → Mem → Prop} (h1 : -2147483648 ≤ a) (h2 : a < 2147483648) (h3 : -2147483648 ≤ b) (h4 : b < 2147483648) (hQ : Q (some (.int (iI (max a b)))) M) : Call G (d + 1) 0 0 mJ9_max_7cf53 [.int (iI a), .int (iI b)] M Q := by
  refine eJ9_max_7cf53 _ _ ⟨fun c => ?_, fun c => ?_⟩
  · rw [iI_lt h1 h2 h3 h4] at c
    rw [Int.max_eq_right (by omega)] at hQ
    exact hQ
  · rw [iI_lt h1 h2 h3 h4] at c
    rw [Int.max_eq_left (by omega)] at hQ
    exact hQ
theorem w_compares (d : Nat) {G : GG} {M : Mem} {sg : Nat} {v : Int} {Q : Option Value → Mem → Prop} (hs : sg = 16 ∨ sg = 17 ∨ sg = 18) (h1 : -2147483648 ≤ v) (h2 : v < 2147483648) (hQ : Q (some (.int (nI (cmpI sg v)))) M) : Call G (d + 1) 0 0 mX10_compares [.int (nI sg), .int (iI v)] M Q := by
  have e16 : nI sg = 16 ↔ sg = 16 := nI_eq (b := 16) (by omega) (by omega)
  have e17 : nI sg = 17 ↔ sg = 17 := nI_eq (b := 17) (by omega) (by omega)
  have a0 : iI v = 0 ↔ v = 0 := iI_eq (b := 0) h1 h2 (by omega) (by omega)
  have a1 : (0 : Int32) < iI v ↔ 0 < v := iI_lt (a := 0) (by omega) (by omega) h1 h2
  have a2 : (0 : Int32) ≤ iI v ↔ 0 ≤ v := iI_le (a := 0) (by omega) (by omega) h1 h2
  unfold cmpI at hQ
  refine eX10_compares _ _ ⟨fun c => ⟨fun c2 => ⟨fun c3 => ⟨fun _ => ?_, fun q => absurd rfl q⟩, fun c3 => ⟨fun q => absurd q (by decide), fun _ => ?_⟩⟩, fun c2 => ⟨fun c3 => ⟨fun _ => ?_, fun q => absurd rfl q⟩, fun c3 => ⟨fun q => absurd q (by decide), fun _ => ?_⟩⟩⟩, fun c => ⟨fun c3 => ⟨fun _ => ?_, fun q => absurd rfl q⟩, fun c3 => ⟨fun q => absurd q (by decide), fun _ => ?_⟩⟩⟩
  · rw [e16] at c; rw [e17] at c2; rw [a1] at c3
    rw [if_neg c, if_neg c2, if_neg (by omega)] at hQ
    exact hQ
  · rw [e16] at c; rw [e17] at c2; rw [a1] at c3
    rw [if_neg c, if_neg c2, if_pos (by omega)] at hQ
    exact hQ
  · rw [e16] at c; rw [e17] at c2; rw [a2] at c3
    rw [if_neg c, if_pos c2, if_neg (by omega)] at hQ
    exact hQ
  · rw [e16] at c; rw [e17] at c2; rw [a2] at c3
    rw [if_neg c, if_pos c2, if_pos (by omega)] at hQ
    exact hQ
  · rw [e16] at c; rw [a0] at c3
    rw [if_pos c, if_neg c3] at hQ
    exact hQ
  · rw [e16] at c; rw [a0] at c3
    rw [if_pos c, if_pos c3] at hQ
    exact hQ
/-- the states of a sum: its value, cut at the ends, less the lowest -/
def smD (b al : Nat) (wt : Nat → Int) (lo hi : Int) (x g : Nat) : Nat := (max lo (min hi ((b : Int) * ((x : Int) + lo) + ld b al wt g)) - lo).toNat
def smM (sg : Nat) (lo less : Int) (x : Nat) : Nat := cmpI sg ((x : Int) + lo + less)
theorem cmpI_le {sg : Nat} {v : Int} : cmpI sg v ≤ 1 := by
  unfold cmpI
  split
  · split <;> omega
  split
  · split <;> omega
  · split <;> omega
theorem sm_tells {b al sg : Nat} {wt : Nat → Int} {lo hi less : Int} (hb : b = 2 ∨ b = 3) (h1 : lo ≤ lowS wt 8) (h2 : higS wt 8 ≤ hi) (h3 : lo ≤ -1 - less) (h4 : 1 - less ≤ hi) (h5 : lo ≤ 0) (h6 : 0 ≤ hi) :
    ∀ (u : List Nat) (x : Nat) (D : Int), (x : Int) + lo = max lo (min hi D) → smM sg lo less (dl (smD b al wt lo hi) x u) = cmpI sg (dz (smZ b al wt) D u + less)
  | [], x, D, h => by
    show cmpI sg ((x : Int) + lo + less) = cmpI sg (D + less)
    rw [h]
    unfold cmpI
    have e1 : (max lo (min hi D) + less = 0) ↔ (D + less = 0) := by omega
    have e2 : (max lo (min hi D) + less < 0) ↔ (D + less < 0) := by omega
    have e3 : (max lo (min hi D) + less ≤ 0) ↔ (D + less ≤ 0) := by omega
    simp only [e1, e2, e3]
  | g :: u, x, D, h => by
    show smM sg lo less (dl (smD b al wt lo hi) (smD b al wt lo hi x g) u) = cmpI sg (dz (smZ b al wt) (smZ b al wt D g) u + less)
    refine sm_tells hb h1 h2 h3 h4 h5 h6 u _ _ ?_
    unfold smD smZ
    have hl := ld_bd (al := al) (wt := wt) (k := g) hb
    generalize ld b al wt g = L at hl ⊢
    rw [h]
    have e : ((max lo (min hi ((b : Int) * max lo (min hi D) + L)) - lo).toNat : Int) = max lo (min hi ((b : Int) * max lo (min hi D) + L)) - lo := Int.toNat_of_nonneg (by omega)
    rw [e]
    rcases hb with rfl | rfl
    · omega
    · omega
variable {G : GG} {M : Mem} {w b p : Nat} {Q : Option Value → Mem → Prop}
theorem w_weaveSums (d : Nat) (hw : WeS M w) (e11 : x_i M w 11 = nI b) (hb : 1 < b) (hb3 : b ≤ 3) (hp : PaS M p) (hpd : ∀ q, p ≤ q → q ≤ p + 7 → q < w ∨ w + 21 < q) {al nl nr sg : Nat} {tl tr : Nat → Nat} (hal : al < 256) (h27 : fn b al ≤ 27) (i8 : x_i M p 8 = nI al) (i7 : x_i M p 7 = nI sg) (hsg : sg = 16 ∨ sg = 17 ∨ sg = 18)
    (hl2 : x_i M (p + 1) 2 = nI nl) (hr2 : x_i M (p + 3) 2 = nI nr) (hnl : nl ≤ 200) (hnr : nr ≤ 200) (htl : ∀ n, n < 8 → x_i M (p + 2) n = nI (tl n) ∧ tl n ≤ 120) (htr : ∀ n, n < 8 → x_i M (p + 4) n = nI (tr n) ∧ tr n ≤ 120)
    (hlo : -500 ≤ lowS (fun n => (tl n : Int) - (tr n : Int)) 8) (hhi : higS (fun n => (tl n : Int) - (tr n : Int)) 8 ≤ 500)
    (hQ1 : ∀ M' m st mr, Fr M M' [w + 1, w + 2, w + 3, w + 4, w + 5, w + 6, w + 7, w + 8, w + 17, p + 5, p + 6, p + 7] → m ≤ 40 → LeI M' (p + 5) (p + 6) (p + 7) m (fn b al) st mr → Can (fn b al) m st mr (fun u => cmpI sg (dz (smZ b al (fun n => (tl n : Int) - (tr n : Int))) 0 u + ((nl : Int) - nr))) → Q (some (.int (nI 1))) M')
    (hQ0 : ∀ M', Fr M M' [w + 1, w + 2, w + 3, w + 4, w + 5, w + 6, w + 7, w + 8, w + 17, p + 5, p + 6, p + 7] → (∀ m st mr, Can (fn b al) m st mr (fun u => cmpI sg (dz (smZ b al (fun n => (tl n : Int) - (tr n : Int))) 0 u + ((nl : Int) - nr))) → 40 < m) → Q (some (.int (nI 0))) M') :
    Call G (d + 5) 0 0 mX10_weaveSums [.ref w, .ref p] M Q := by
  have hw0 := hw
  have hp0 := hp
  obtain ⟨w1, w2, w3, w4, w5, w6, w7, w8, w9, w10, w11, w12, w13, w14, u15, u16, u17, -⟩ := hw
  obtain ⟨p1, p2, p3, p4, ⟨s1, s2, s3⟩, ⟨s4, s5, s6⟩, p7⟩ := hp
  have hbb : b = 2 ∨ b = 3 := by omega
  have hf0 : 0 < fn b al := fn_pos (by omega)
  generalize hfg : fn b al = f at *
  generalize hwt : (fun n => (tl n : Int) - (tr n : Int)) = wt at *
  have hwtn : ∀ n, wt n = (tl n : Int) - (tr n : Int) := fun n => by rw [← hwt]
  have q0 := hpd p (by omega) (by omega)
  have q1 := hpd (p + 1) (by omega) (by omega)
  have q2 := hpd (p + 2) (by omega) (by omega)
  have q3 := hpd (p + 3) (by omega) (by omega)
  have q4 := hpd (p + 4) (by omega) (by omega)
  have q5 := hpd (p + 5) (by omega) (by omega)
  have q6 := hpd (p + 6) (by omega) (by omega)
  have q7 := hpd (p + 7) (by omega) (by omega)
  have hlow0 : lowS wt 8 ≤ 0 := by have := up_nn (wt := wt) 8; rw [upS_low] at this; omega
  have hhig0 : 0 ≤ higS wt 8 := by have := dn_nn (wt := wt) 8; rw [dnS_hig] at this; exact this
  have hlowm : ∀ i, i ≤ 8 → -1000 ≤ lowS wt i ∧ lowS wt i ≤ 0 := by
    intro i
    induction i with
    | zero => intro _; exact ⟨by show (-1000 : Int) ≤ 0; omega, Int.le_refl 0⟩
    | succ i ih =>
      intro hi
      have := ih (by omega)
      have h1 := (htl i (by omega)).2
      have h2 : ∀ e j, j + e = 8 → lowS wt 8 ≤ lowS wt j := by
        intro e
        induction e with
        | zero => intro j hj; have : j = 8 := by omega
                  rw [this]; exact Int.le_refl _
        | succ e ih2 => intro j hj; have := ih2 (j + 1) (by omega); have h4 : lowS wt (j + 1) = lowS wt j - max (wt j) 0 := rfl; omega
      have h3 := h2 (8 - (i + 1)) (i + 1) (by omega)
      have h4 : lowS wt (i + 1) = lowS wt i - max (wt i) 0 := rfl
      omega
  have hhigm : ∀ i, i ≤ 8 → 0 ≤ higS wt i ∧ higS wt i ≤ 1000 := by
    intro i
    induction i with
    | zero => intro _; exact ⟨Int.le_refl 0, by show (0 : Int) ≤ 1000; omega⟩
    | succ i ih =>
      intro hi
      have := ih (by omega)
      have h2 : ∀ e j, j + e = 8 → higS wt j ≤ higS wt 8 := by
        intro e
        induction e with
        | zero => intro j hj; have : j = 8 := by omega
                  rw [this]; exact Int.le_refl _
        | succ e ih2 => intro j hj; have := ih2 (j + 1) (by omega); have h4 : higS wt (j + 1) = higS wt j - min (wt j) 0 := rfl; omega
      have h3 := h2 (8 - (i + 1)) (i + 1) (by omega)
      have h4 : higS wt (i + 1) = higS wt i - min (wt i) 0 := rfl
      omega
  generalize hless : ((nl : Int) - (nr : Int)) = less at *
  have hlb : -200 ≤ less ∧ less ≤ 200 := by omega
  generalize hLo : min (lowS wt 8) (-1 - less) = lo
  generalize hHi : max (higS wt 8) (1 - less) = hi
  have hlo2 : -600 ≤ lo ∧ lo ≤ 0 := by omega
  have hhi2 : 0 ≤ hi ∧ hi ≤ 600 := by omega
  generalize hroomE : (hi - lo + 1).toNat = room
  have hroom1 : (room : Int) = hi - lo + 1 := by omega
  have hroom2 : room * f ≤ 43200 := by
    have : room * f ≤ 1300 * 27 := Nat.mul_le_mul (by omega) h27
    omega
  have hδ : ∀ x g, smD b al wt lo hi x g < room := fun x g => by unfold smD; omega
  have hδI : ∀ x g, ((smD b al wt lo hi x g : Nat) : Int) = max lo (min hi ((b : Int) * ((x : Int) + lo) + ld b al wt g)) - lo := fun x g => by unfold smD; omega
  have hμ : ∀ x, smM sg lo less x < 8 := fun x => by have := cmpI_le (sg := sg) (v := (x : Int) + lo + less); unfold smM; omega
  have hk0 : ((-lo).toNat : Int) = -lo := by omega
  have hbeta : ∀ u, wd f u → smM sg lo less (dl (smD b al wt lo hi) (-lo).toNat u) = cmpI sg (dz (smZ b al wt) 0 u + less) := fun u _ => sm_tells hbb (by omega) (by omega) (by omega) (by omega) (by omega) (by omega) u _ _ (by omega)
  have hP : ∀ {M' : Mem}, Fr M M' [w + 1, w + 2, w + 3, w + 4, w + 5, w + 6, w + 7, w + 8, w + 17] → x_i M' p = x_i M p := fun h => h.i (by simp; omega)
  have hW11 : ∀ {M' : Mem}, Fr M M' [w + 1, w + 2, w + 3, w + 4, w + 5, w + 6, w + 7, w + 8, w + 17] → x_i M' w 11 = nI b := fun h => by rw [h.i (by simp)]; exact e11
  have ldb : ∀ g, -3000 ≤ ld b al wt g ∧ ld b al wt g ≤ 3000 := fun g => by
    have hl := ld_bd (al := al) (wt := wt) (k := g) hbb
    generalize ld b al wt g = L at hl ⊢
    rcases hbb with e | e <;> subst e <;> omega
  have inner : ∀ (i : Nat), (∀ M', Fr M M' [w + 1, w + 2, w + 3, w + 4, w + 5, w + 6, w + 7, w + 8, w + 17] → (∀ n, n < 8 → x_i M' (w + 17) n = iI (wt n)) → ExI M' (w + 1) room f (smD b al wt lo hi) (-lo).toNat (smM sg lo less) (i * f + f) (i + 1) → ∀ z z1 z2, c1 z = true → c1 z1 = true → c1 z2 = true → LX10_weaveSums_156 G (d + 4) 0 0 w p (iI less) (iI lo) (iI hi) (nI f) (nI (i + 1)) z z1 z2 M' Q) →
      ∀ (k j : Nat), j + k = f → ∀ M', Fr M M' [w + 1, w + 2, w + 3, w + 4, w + 5, w + 6, w + 7, w + 8, w + 17] → (∀ n, n < 8 → x_i M' (w + 17) n = iI (wt n)) → ∀ x, x < room → i < (ex (smD b al wt lo hi) f (-lo).toNat (i * f + j)).length → (ex (smD b al wt lo hi) f (-lo).toNat (i * f + j)).getD i 0 = x → ExI M' (w + 1) room f (smD b al wt lo hi) (-lo).toNat (smM sg lo less) (i * f + j) (i + 1) → ∀ z, c1 z = true → LX10_weaveSums_212 G (d + 4) 0 0 w p (iI less) (iI lo) (iI hi) (nI f) (nI i) (iI ((x : Int) + lo)) (nI j) z M' Q := by
    intro i hout k
    induction k with
    | zero =>
      intro j hj M' hfr hv x hx hi' hxe he z hz
      have e : j = f := by omega
      subst e
      refine vX10_weaveSums_212 _ _ _ _ _ _ _ _ _ _ hz ⟨fun _ => ?_, fun c => absurd (nI_le (Nat.le_refl j) (by omega)) c⟩
      rw [nI_1]
      exact hout M' hfr hv he _ _ _ rfl rfl hz
    | succ k ih =>
      intro j hj M' hfr hv x hx hi' hxe he z hz
      have hjb : j < f := by omega
      have c1' : (i * f + j) / f = i := by rw [Nat.mul_comm, Nat.mul_add_div hf0, Nat.div_eq_of_lt hjb]; rfl
      have c2' : (i * f + j) % f = j := by rw [Nat.mul_comm, Nat.mul_add_mod]; exact Nat.mod_eq_of_lt hjb
      have hld := ldb j
      refine vX10_weaveSums_212 _ _ _ _ _ _ _ _ _ _ hz ⟨fun c => absurd c (nI_ge hjb (by omega)), fun _ => ⟨(hw0.fr hfr).1, by rw [hfr.h]; exact p1, w + 17, by rw [hfr.r]; exact w10, ?_⟩⟩
      rw [hP hfr, i8, hW11 hfr]
      refine w_load (d + 1) (hw0.fr hfr).1 (hW11 hfr) hb hb3 hal (by omega) (by rw [hfr.h]; exact u17) hv ⟨_, rfl, (hw0.fr hfr).1, w + 1, by rw [hfr.r]; exact w5, ?_⟩
      rw [iI_n b, iI_mul, iI_add]
      have hbx : -10000 ≤ (b : Int) * ((x : Int) + lo) + ld b al wt j ∧ (b : Int) * ((x : Int) + lo) + ld b al wt j ≤ 10000 := by rcases hbb with e | e <;> subst e <;> omega
      refine w_minI (d + 3) (by omega) (by omega) (by omega) (by omega) ⟨_, rfl, ?_⟩
      refine w_maxI (d + 3) (by omega) (by omega) (by omega) (by omega) ⟨_, rfl, (hw0.fr hfr).2.1.1, ?_⟩
      rw [iI_sub, ← hδI, ← iI_n]
      refine w_meetX (d + 2) (hw0.fr hfr).2.1 he (by rw [c1']; exact hi') (by rw [c1', c2', hxe]) (hδ x j) (fun M1 g1 g2 => ?_)
      have hfr1 : Fr M M1 [w + 1, w + 2, w + 3, w + 4, w + 5, w + 6, w + 7, w + 8, w + 17] := hfr.tr g1 (by simp)
      refine ⟨_, rfl, (hw0.fr hfr1).2.1.1, ?_⟩
      refine w_linkX (d + 2) (hw0.fr hfr1).2.1 g2 hf0 rfl hjb hroom2 (fun M2 g3 g4 => ⟨rfl, ?_⟩)
      have hfr2 : Fr M M2 [w + 1, w + 2, w + 3, w + 4, w + 5, w + 6, w + 7, w + 8, w + 17] := hfr1.tr g3 (by simp)
      rw [nI_1]
      refine ih (j + 1) (by omega) M2 hfr2 (fun n hn => by rw [g3.i (by simp), g1.i (by simp)]; exact hv n hn) x hx ?_ ?_ g4 _ rfl
      · exact Nat.lt_of_lt_of_le hi' (ex_le _ 1)
      · rw [← hxe]; exact ex_getD _ 1 hi'
  have done : ∀ i M', i ≤ room → Fr M M' [w + 1, w + 2, w + 3, w + 4, w + 5, w + 6, w + 7, w + 8, w + 17] → ExI M' (w + 1) room f (smD b al wt lo hi) (-lo).toNat (smM sg lo less) (i * f) i → (ex (smD b al wt lo hi) f (-lo).toNat (i * f)).length = i → Call G (d + 4) 0 0 mX2_draw [.ref (w + 1), .ref (p + 5), .int 40] M' (fun r5 M6 => ∃ v7 : Int32, r5 = some (.int v7) ∧ (v7 = 0 ∨ v7 = 1) ∧ Q (some (.int v7)) M6) := by
    intro i M' hi hfr he el
    exact w_drawX d (hw0.fr hfr).2.1 he (by rw [el]) el.symm hf0 h27 hroom2 (fun x hx => hμ x) (p7.eq hfr.h hfr.r) (fun q hq => by simp at hq; omega) (most := 40) (by omega) (by omega) (by omega) (fun M1 m st mr g1 g2 g3 g4 => ⟨_, rfl, Or.inr rfl, hQ1 M1 m st mr ((hfr.wk (by simp)).tr g1 (by simp)) g2 g3 (g4.congr hbeta)⟩) (fun M1 g1 g2 g3 => ⟨_, rfl, Or.inl rfl, hQ0 M1 ((hfr.wk (by simp)).tr g1 (by simp)) (fun m st mr hcan => g2 m st mr (hcan.congr (fun u hu => (hbeta u hu).symm)))⟩)
  have outer : ∀ (k i : Nat), i + k = room → ∀ M', Fr M M' [w + 1, w + 2, w + 3, w + 4, w + 5, w + 6, w + 7, w + 8, w + 17] → (∀ n, n < 8 → x_i M' (w + 17) n = iI (wt n)) → ExI M' (w + 1) room f (smD b al wt lo hi) (-lo).toNat (smM sg lo less) (i * f) i → ∀ z z1 z2, c1 z = true → c1 z1 = true → c1 z2 = true → LX10_weaveSums_156 G (d + 4) 0 0 w p (iI less) (iI lo) (iI hi) (nI f) (nI i) z z1 z2 M' Q := by
    intro k
    induction k with
    | zero =>
      intro i hik M' hfr hv he z z1 z2 hz hz1 hz2
      have hlen := he.1.len
      have hle := he.2.2.2.2
      have el : (ex (smD b al wt lo hi) f (-lo).toNat (i * f)).length = i := by omega
      have e9 : x_i M' (w + 1) 9 = nI i := by rw [he.1.2.2.1, el]
      refine vX10_weaveSums_156 _ _ _ _ _ _ _ _ _ _ hz hz1 hz2 ?_
      exact ⟨(hw0.fr hfr).1, w + 1, by rw [hfr.r]; exact w5, (hw0.fr hfr).2.1.1, fun _ => ⟨by rw [hfr.h]; exact p1, p + 5, by rw [hfr.r]; exact p4, done i M' (by omega) hfr he el⟩, fun c => absurd (by rw [e9]; exact nI_le (Nat.le_refl i) (by omega)) c⟩
    | succ k ih =>
      intro i hik M' hfr hv he z z1 z2 hz hz1 hz2
      have hlen := he.1.len
      have hle := he.2.2.2.2
      refine vX10_weaveSums_156 _ _ _ _ _ _ _ _ _ _ hz hz1 hz2 ?_
      refine ⟨(hw0.fr hfr).1, w + 1, by rw [hfr.r]; exact w5, (hw0.fr hfr).2.1.1, fun c => ?_, fun c => ⟨fun c2 => ?_, fun _ => ?_⟩⟩
      · rw [he.1.2.2.1] at c
        have el : (ex (smD b al wt lo hi) f (-lo).toNat (i * f)).length = i := by
          have := (nI_leI (a := (ex (smD b al wt lo hi) f (-lo).toNat (i * f)).length) (b := i) (by omega) (by omega)).mp c
          omega
        exact ⟨by rw [hfr.h]; exact p1, p + 5, by rw [hfr.r]; exact p4, done i M' (by omega) hfr he el⟩
      · exact absurd c2 (nI_ge (a := i) (b := 3600) (by omega) (by omega))
      · rw [he.1.2.2.1] at c
        have hil : i < (ex (smD b al wt lo hi) f (-lo).toNat (i * f)).length := by
          rcases Nat.lt_or_ge i (ex (smD b al wt lo hi) f (-lo).toNat (i * f)).length with h | h
          · exact h
          · exact absurd (nI_le h (by omega)) c
        have hx : (ex (smD b al wt lo hi) f (-lo).toNat (i * f)).getD i 0 < room := he.1.2.2.2.2.2.1 _ (getD_mem hil)
        refine w_keyX (d + 2) (hw0.fr hfr).2.1 he hil ⟨_, rfl, (hw0.fr hfr).1, w + 1, by rw [hfr.r]; exact w5, by rw [hfr.h]; exact p1, ?_⟩
        generalize hxe : (ex (smD b al wt lo hi) f (-lo).toNat (i * f)).getD i 0 = x at hx
        rw [hP hfr, i7, iI_n x, iI_add, iI_add]
        refine w_compares (d + 3) hsg (by omega) (by omega) ⟨_, rfl, (hw0.fr hfr).2.1.1, ?_⟩
        refine w_markX (d + 2) (hw0.fr hfr).2.1 he hil (by rw [hxe]; rfl) (fun M1 g1 g2 => ⟨rfl, ?_⟩)
        exact inner i (fun M2 g3 gv g4 z z1 z2 hz hz1 hz2 => ih (i + 1) (by omega) M2 g3 gv (by rw [Nat.succ_mul]; exact g4) z z1 z2 hz hz1 hz2) f 0 (by omega) M1 (hfr.tr g1 (by simp)) (fun n hn => by rw [g1.i (by simp)]; exact hv n hn) x hx hil hxe g2 z2 hz2
  have first : ∀ (k i : Nat), i + k = 8 → ∀ M', Fr M M' [w + 1, w + 2, w + 3, w + 4, w + 5, w + 6, w + 7, w + 8, w + 17] → (∀ n, n < i → x_i M' (w + 17) n = iI (wt n)) → LX10_weaveSums_24 G (d + 4) 0 0 w p (iI less) (iI (lowS wt i)) (iI (higS wt i)) (nI i) M' Q := by
    intro k
    induction k with
    | zero =>
      intro i hik M' hfr hv
      have e : i = 8 := by omega
      subst e
      have em : (-1 : Int32) - iI less = iI (-1 - less) := by rw [show (-1 : Int32) = iI (-1) from by decide, iI_sub]
      have e1 : (1 : Int32) - iI less = iI (1 - less) := by rw [show (1 : Int32) = iI 1 from by decide, iI_sub]
      refine vX10_weaveSums_24 _ _ _ _ _ _ ⟨fun _ => ?_, fun c => absurd (nI_le (Nat.le_refl 8) (by omega)) c⟩
      rw [em, e1]
      refine w_minI (d + 3) (by omega) (by omega) (by omega) (by omega) ⟨_, rfl, ?_⟩
      refine w_maxI (d + 3) (by omega) (by omega) (by omega) (by omega) ⟨_, rfl, by rw [hfr.h]; exact p1, (hw0.fr hfr).1, ?_⟩
      rw [hLo, hHi, hP hfr, i8]
      refine w_fan (d + 2) (hw0.fr hfr).1 (hW11 hfr) hal ⟨_, rfl, ?_⟩
      rw [hfg]
      refine w_min (i := f) (n := 27) (d + 3) (by omega) (by omega) ⟨_, rfl, (hw0.fr hfr).1, w + 1, by rw [hfr.r]; exact w5, (hw0.fr hfr).2.1.1, ?_⟩
      rw [Nat.min_eq_left h27]
      have er : iI hi - iI lo + 1 = nI room := by
        rw [iI_sub, show (1 : Int32) = iI 1 from rfl, iI_add, iI_n, hroom1]
      rw [er]
      refine w_open (d + 1) (hw0.fr hfr).2.1 (by omega) (fun M1 g1 g2 => ⟨rfl, ?_⟩)
      have hfr1 : Fr M M1 [w + 1, w + 2, w + 3, w + 4, w + 5, w + 6, w + 7, w + 8, w + 17] := hfr.tr g1 (by simp)
      refine ⟨(hw0.fr hfr1).1, w + 1, by rw [hfr1.r]; exact w5, (hw0.fr hfr1).2.1.1, ?_⟩
      rw [iI_neg, ← hk0, ← iI_n]
      refine w_meet0 (d + 2) (δ := smD b al wt lo hi) (μ := smM sg lo less) (hw0.fr hfr1).2.1 g2 (by omega) (fun M2 v g3 g4 => ⟨v, rfl, ?_⟩)
      exact outer room 0 (by omega) M2 (hfr1.tr g3 (by simp)) (fun n hn => by rw [g3.i (by simp), g1.i (by simp)]; exact hv n hn) (by rw [Nat.zero_mul]; exact g4) none none none rfl rfl rfl
    | succ k ih =>
      intro i hik M' hfr hv
      have hi8 : i < 8 := by omega
      obtain ⟨t1, t2⟩ := htl i hi8
      obtain ⟨t3, t4⟩ := htr i hi8
      have ew : nI (tl i) - nI (tr i) = iI (wt i) := by rw [hwtn, iI_n, iI_n, iI_sub]
      have hwb : -200 ≤ wt i ∧ wt i ≤ 200 := by rw [hwtn]; omega
      have vin : vp_in (nI i) 8 := vp_in_nI hi8 (by omega)
      refine vX10_weaveSums_24 _ _ _ _ _ _ ⟨fun c => absurd c (nI_ge (a := i) (b := 8) hi8 (by omega)), fun _ => ⟨(hw0.fr hfr).1, w + 17, by rw [hfr.r]; exact w10, by rw [hfr.h]; exact p1, p + 1, by rw [hfr.r]; exact p2, by rw [hfr.h]; exact s1, p + 2, by rw [hfr.r]; exact s2, by rw [hfr.h, s3], by rw [hfr.h, s3]; exact vin, p + 3, by rw [hfr.r]; exact p3, by rw [hfr.h]; exact s4, p + 4, by rw [hfr.r]; exact s5, by rw [hfr.h, s6], by rw [hfr.h, s6]; exact vin, by rw [hfr.h, u17], by rw [hfr.h, u17]; exact vin, ?_⟩⟩
      rintro M1 rfl
      rw [nI_clamp (by omega), hfr.i (q := p + 2) (by simp; omega), hfr.i (q := p + 4) (by simp; omega), t1, t3, ew, xi_eq]
      refine w_maxI (b := 0) (d + 3) (by omega) (by omega) (by omega) (by omega) ⟨_, rfl, (hw0.fr hfr).1, w + 17, by show x_r M' w 5 = _; rw [hfr.r]; exact w10, by show (x_h M' _).1 = _; rw [hfr.h, u17], by show vp_in _ (x_h M' _).2; rw [hfr.h, u17]; exact vin, ?_⟩
      rw [xi_eq]
      refine w_minI (b := 0) (d + 3) (by omega) (by omega) (by omega) (by omega) ⟨_, rfl, ?_⟩
      rw [iI_sub, iI_sub, nI_1]
      refine ih (i + 1) (by omega) _ (hfr.si (by simp)) (fun n hn => ?_)
      by_cases en : n = i
      · rw [en, xi_eq]
      · rw [xi_nk en]; exact hv n (by omega)
  refine eX10_weaveSums w p ⟨p1, p + 1, p2, s1, p + 3, p3, s4, ?_⟩
  rw [hl2, hr2, iI_n, iI_n, iI_sub, hless]
  exact first 8 0 (by omega) M Fr.rf (fun n hn => absurd hn (Nat.not_lt_zero n))
end SumsC
