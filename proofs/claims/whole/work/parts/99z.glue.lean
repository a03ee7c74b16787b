/-! ===== the claim out of the law's contract ===== -/
def X00 : Mem := (0, fun _ => (0, 0), fun _ _ => 0, fun _ _ => 0, fun _ _ => none)
theorem cl_inst {c : Nat} {q : vw_C} (h : cl[c]? = some q) : Cond.instantiable q.1 q.2.2 ∈ lw_tbl := by
  have hc := cl_some h
  match c, hc, h with
  | 0, _, h => cases h; exact ww_330
  | 1, _, h => cases h; exact ww_108
  | 2, _, h => cases h; exact ww_217
  | 3, _, h => cases h; exact ww_76
  | 4, _, h => cases h; exact ww_375
  | 5, _, h => cases h; exact ww_37
  | 6, _, h => cases h; exact ww_296
  | 7, _, h => cases h; exact ww_353
  | 8, _, h => cases h; exact ww_82
  | 9, _, h => cases h; exact ww_43
  | 10, _, h => cases h; exact ww_211
  | 11, _, h => cases h; exact ww_23
  | 12, _, h => cases h; exact ww_1199
  | c + 13, hc, _ => exact absurd hc (by omega)
theorem arr_prim {s : State} {args : Array Value} {ty : FieldType} (h : (Cond.arrayClass ty).before args s = true) (hr : ∀ c, s.vm.findClass ("[" ++ ty.toString) = some c → va_RA s c ty) : ∃ cA, ArrOfT s cA ty ∧ va_RA s cA ty := by
  obtain ⟨c, k, comp, h1, h2, h3⟩ := Cond.arrayClass_spec h
  exact ⟨c, fun n z => ⟨fun k h => (by cases h), k, h2, comp, h3⟩, hr c h1⟩
theorem arr_obj {s : State} {args : Array Value} {C : String} (h : (Cond.arrayOver (.object C)).before args s = true) : ∃ cA, ArrOfT s cA (.object C) ∧ va_RA s cA (.object C) := by
  obtain ⟨comp, c, k, h1, -, h3, h4, h5⟩ := Cond.arrayOver_spec h
  exact ⟨c, fun n z => ⟨fun k h => (by cases h), k, h3, comp, h4⟩, k, comp, h3, h4, h1, h5⟩
theorem arr_arr {s : State} {args : Array Value} {t : FieldType} (h : (Cond.arrayOver (.array t)).before args s = true) : ∃ cA, ArrOfT s cA (.array t) ∧ va_RA s cA (.array t) := by
  obtain ⟨comp, c, k, h1, -, h3, h4, h5⟩ := arrayOverA_spec h
  exact ⟨c, fun n z => ⟨fun k h => (by cases h), k, h3, comp, h4⟩, h5⟩
theorem gok_of (l : Launch) {s : State} {args : Array Value} (hts : ∀ w ∈ lw_tbl, w.before args s = true) : ∃ (D : va_G) (K : Nat → ClassId), GOK (l, s, args, D, K) := by
  have h1 : ∀ c : Nat, ∃ p : ClassId × (Nat → Nat), ∀ q : vw_C, cl[c]? = some q → u_Kn s q.1 q.2.1 q.2.2 p.1 p.2 := by
    intro c
    cases hq : cl[c]? with
    | none => exact ⟨(0, fun _ => 0), fun q h => by cases h⟩
    | some q =>
      obtain ⟨cC, iS, h⟩ := u_known (n := q.2.2) hts (cl_in hq) (hts _ (cl_inst hq))
      exact ⟨(cC, iS), fun q' h' => by cases h'; exact h⟩
  have h2 : ∀ k : Nat, ∃ cA : ClassId, k < 8 → ArrOfT s cA (kty k) ∧ va_RA s cA (kty k) := by
    intro k
    by_cases hk : k < 8
    · have : ∃ cA, ArrOfT s cA (kty k) ∧ va_RA s cA (kty k) := by
        match k, hk with
        | 0, _ => exact arr_arr (hts _ ww_35)
        | 1, _ => exact arr_prim (hts _ ww_72) (fun c h => h)
        | 2, _ => exact arr_prim (hts _ ww_294) (fun c h => h)
        | 3, _ => exact arr_prim (hts _ ww_1484) (fun c h => h)
        | 4, _ => exact arr_obj (hts _ ww_31)
        | 5, _ => exact arr_obj (hts _ ww_33)
        | 6, _ => exact arr_obj (hts _ ww_74)
        | 7, _ => exact arr_arr (hts _ ww_35)
      obtain ⟨cA, h⟩ := this
      exact ⟨cA, fun _ => h⟩
    · exact ⟨0, fun h => absurd h hk⟩
  obtain ⟨f, hf⟩ := Classical.axiomOfChoice h1
  obtain ⟨K, hK⟩ := Classical.axiomOfChoice h2
  refine ⟨(fun c => (f c).1, fun c => (f c).2), K, hts, fun c q hq => hf c q hq, fun k q hq => ?_⟩
  have hk : k < 8 := by
    have := (List.getElem?_eq_some_iff.mp hq).1
    simpa [x_tys] using this
  rw [x_ty hk] at hq
  cases hq
  exact hK k hk
theorem rep_start (l : Launch) (s : State) (args : Array Value) (D : va_G) (K : Nat → ClassId) : Rep (l, s, args, D, K) X00 s.heap :=
  ⟨fun k q h => by obtain ⟨h1, -⟩ := x_ws_get h; exact absurd h1 (Nat.not_lt_zero _), rfl, fun _ _ => rfl, fun a h => absurd rfl h⟩
def lw_P (b : Addr) (xs : List Int32) (args : Array Value) (s : State) : Prop := args = #[.ref b] ∧ s.IntsAt b xs ∧ xs.length ≤ 4096 ∧ (Jvm.Cond.and given_1 narrow_1).before args s = true
def lw_Q (_ : Array Value) (s : State) (o : Outcome) (t : State) : Prop := o = .returned (some (.int 1)) ∧ Framed s o t [] 600000 7302250
/-- what is owed of the law: from the start, whatever the script, it answers 1 -/
def LawOK : Prop := ∀ (G : GG) (b L : Nat) (xs : Nat → Int32), L ≤ 4096 → SOK G → va_X b L xs (g_s G) (g_s G).heap → Call G 2048 600000 7302250 mL_law [.ref b] X00 (fun r _ => r = some (.int 1))
theorem lw_walk (hok : LawOK) (l : Launch) (b : Addr) (xs : List Int32) : MetFree l x (headSpec (Jvm.Cond.code x code maxLocals ret :: tables_1) room_1) (lw_P b xs) (fun _ _ _ _ _ => True) lw_Q := by
  intro p e ha hc hk s m args below hf happ hP hK
  obtain ⟨rfl, hx, hbd, hgv⟩ := hP
  obtain ⟨hrun, hable, halone, hname, hhears, hinit, hroom, hpre⟩ := (Spec.appliesLoose_iff hf).mp happ
  obtain ⟨scr, harrAt, hlist, hof, hsmall⟩ := hx
  obtain ⟨hcb, hkn, -, -⟩ := State.arrayAt?_spec harrAt
  have hts0 : ∀ c ∈ (Jvm.Cond.code x code maxLocals ret :: tables_1), c.before #[Value.ref b] s = true := atoms_spec (ws := Jvm.Cond.code x code maxLocals ret :: tables_1) hpre
  have hts : ∀ w ∈ lw_tbl, w.before #[Value.ref b] s = true := k2_hts_sels lw_privs (fun w hw => hts0 w (List.mem_cons_of_mem _ hw)) lw_privs_ok
  have hsz : scr.slots.size = xs.length := by rw [← Array.length_toList, hlist, List.length_map]
  have hval : ∀ j : Nat, j < xs.length → scr.slots[j]? = some (.int (xs.getD j 0)) := fun j hj => by
    rw [← Array.getElem?_toList, hlist]
    simp [hj]
  obtain ⟨D, K, hG⟩ := gok_of l hts
  have hX : va_X b xs.length (fun j => xs.getD j 0) s s.heap := ⟨scr, hcb, hof, hkn, hsz, hval⟩
  have hM := hok (l, s, #[Value.ref b], D, K) b xs.length (fun j => xs.getD j 0) hbd (sok_of l D K hts hgv) hX hG
  have hroom' : s.hasRoom e.platform (rmD 2048 600000 7302250) = true := by
    have hroom : s.hasRoom e.platform room_1 = true := hroom
    have e1 : (rmD 2048 600000 7302250).locals ≤ room_1.locals := Nat.le_of_ble_eq_true rfl
    have e2 : (rmD 2048 600000 7302250).frames = room_1.frames := rfl
    have e3 : (rmD 2048 600000 7302250).cells = room_1.cells := rfl
    have e4 : (rmD 2048 600000 7302250).slots = room_1.slots := rfl
    simp only [State.hasRoom, Bool.and_eq_true, decide_eq_true_eq] at hroom ⊢
    rw [e2, e3, e4]
    obtain ⟨⟨⟨⟨a1, a2, a3, a4, a5, a6⟩, a7⟩, a8⟩, a9⟩ := hroom
    exact ⟨⟨⟨⟨by omega, a2, a3, by omega, by omega, a6⟩, a7⟩, a8⟩, a9⟩
  obtain ⟨k, o, h1, h2, h3, ⟨⟨r, X2, ho, hq, -, -⟩, -⟩, Lc, hfe, hbase⟩ := hM p e ha hc hk s m #[Value.ref b] below hf ((Spec.appliesLoose_iff hf).mpr ⟨hrun, hable, halone, hname, hhears, hinit, hroom', atoms_intro fun w hw => by rw [List.mem_singleton.mp hw]; exact hts0 _ List.mem_cons_self⟩) ⟨rfl, rep_start l s _ D K, State.WarmedH.refl s⟩ trivial
  subst hq
  refine ⟨k, o, h1, h2, h3, ho, hfe.1, hfe.2.1, hfe.2.2.weaken (fun y hy hlt => absurd hlt (Nat.not_lt.mpr (hbase y hy))) (Nat.le_refl _) (Nat.le_refl _)⟩
theorem lw_pre_spec {args : Array Value} {s : State} (h : (Jvm.Cond.and given_1 narrow_1).before args s = true) (hr : rest_1_c.before args s = true) : ∃ (b : Addr) (xs : List Int32), lw_P b xs args s := by
  have hs := flat_of_before _ h
  have hq := flat_of_before _ hr
  have hc : (Cond.count 1).before args s = true := hs _ (by decide +kernel)
  have harr : (Cond.arrayOf (.arg 0) .int).before args s = true := hs _ (by decide +kernel)
  have hle : (Cond.le (.length (.arg 0)) (.int 4096)).before args s = true := hs _ (by decide +kernel)
  have hlen : (Cond.isInt (.length (.arg 0))).before args s = true := hq _ (by decide +kernel)
  have hall : (Cond.all (.arg 0) (.isInt (.elem (.arg 0) (.index 0)))).before args s = true := hq _ (by decide +kernel)
  obtain ⟨b, xs, hb, hx⟩ := State.ints_of_pre rfl harr hlen hall
  have hsm : xs.length < 2 ^ 31 := hx.choose_spec.2.2.2
  have hev : (Term.length (.arg 0)).eval args s none [] s = some (.int xs.length.toInt32) := hx.length_eval hb
  have hv := Cond.le_ints hev (show (Term.int 4096).eval args s none [] s = some (.int 4096) from rfl)
  have hd : xs.length.toInt32 ≤ 4096 := by
    simpa [Cond.before, Cond.holds, hv] using hle
  have hN : xs.length ≤ 4096 := (Int32.ofNat_le_ofNat hsm (by decide)).mp (show Int32.ofNat xs.length ≤ Int32.ofNat 4096 from hd)
  exact ⟨b, xs, Cond.one_arg hc (show args[0]? = some (.ref b) from hb), hx, hN, h⟩
theorem lw_comes (hok : LawOK) (l : Launch) : Comes l x (Jvm.Cond.code x code maxLocals ret :: tables_1) room_1 (fun tb e args s => Calls_1 tb e args s ∧ rest_1 tb e args s ∧ Pre_1 tb e args s)
    (fun _ _ args s o t => lw_Q args s o t) := by
  intro p e ha hc hk s m args below hf hfit hheap happ hpre
  obtain ⟨b, xs, hP⟩ := lw_pre_spec hpre.2.2 hpre.2.1
  obtain ⟨k, o, h1, h2, h3, hQ⟩ := lw_walk hok l b xs p e ha hc hk s m args below hf ((Spec.applies_iff_loose hf).mp happ).1 hP trivial
  exact ⟨k, o, h1, h2, h3, hQ⟩
theorem lw_limb (hok : LawOK) (L : Cond) (hL : ∀ (args : Array Value) (s t : State), L.after args s (.returned (some (.int 1))) t = true) :
    ArmFor flags0 classFile x code maxLocals ret World_1 tables_1 room_1 Calls_1 rest_1 Pre_1
      (fun tb e a s o t => postC L tb e a s o t ∧ Framed s o t (fieldLocs frame_1_writes a s ++ arrayLocs frame_1_arrays a s ++ staticLocs frame_1_statics s) 600000 7302250) := by
  intro l hflags _ _ p e ha hc hk s m args below hf hfit hheap happ hpre
  obtain ⟨k, o, h1, h2, h3, rfl, hF⟩ := lw_comes hok l p e ha hc hk s m args below hf hfit hheap happ hpre
  exact ⟨k, _, h1, h2, h3, hL args s _, hF⟩
/-- THE CLAIM, out of the law's contract -/
theorem claim_of (hok : LawOK) : Claimed_1_1 ∧ Claimed_1_2 := ⟨lw_limb hok limb_1_1 (fun args s t => by simp [limb_1_1, Cond.after, Cond.holds, Cond.value]), lw_limb hok limb_1_2 (fun args s t => Cond.after_iff.mpr (by
  first | (rw [show limb_1_2 = Cond.eq .result (.int 1) from rfl, Cond.eq_ints (x := 1) (y := 1) rfl rfl]; simp; done) | (simp [limb_1_2, Cond.value, Term.eval]; done)))⟩
