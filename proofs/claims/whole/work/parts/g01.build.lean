/-! ===== objects are built ===== -/
section BuildC
variable {G : GG} {M M' M0 : Mem} {o c n : Nat} {F : Nat → Int32} {L : List (Nat × Nat × Nat)} {Q : Option Value → Mem → Prop}
theorem nw_h {a kd ln q : Nat} : x_h (x_new M a kd ln) q = if q = a then (kd, ln) else x_h M q := rfl
theorem nw_hn {a kd ln q : Nat} (h : q ≠ a) : x_h (x_new M a kd ln) q = x_h M q := if_neg h
theorem nw_he {a kd ln : Nat} : x_h (x_new M a kd ln) a = (kd, ln) := if_pos rfl
theorem nw_rn {a kd ln q : Nat} (h : q ≠ a) : x_r (x_new M a kd ln) q = x_r M q := by
  funext k
  exact if_neg h
theorem nw_in {a kd ln q : Nat} (h : q ≠ a) : x_i (x_new M a kd ln) q = x_i M q := by
  funext k
  exact if_neg h
theorem nw_ie {a kd ln : Nat} : x_i (x_new M a kd ln) a = fun _ => 0 := by
  funext k
  exact if_pos rfl
theorem nw_re {a kd ln : Nat} : x_r (x_new M a kd ln) a = fun _ => none := by
  funext k
  exact if_pos rfl
theorem xr_na {a k b : Nat} {v : Option Nat} (h : b ≠ a) : x_r (x_sr M a k v) b = x_r M b := by
  funext j
  exact xr_o (Or.inl h)
theorem xi_na' {a k b : Nat} {v : Int32} (h : b ≠ a) : x_i (x_si M a k v) b = x_i M b := by
  funext j
  exact xi_na h
/-- below o all is as it was -/
def Gw (M M' : Mem) (o : Nat) : Prop := ∀ q, q < o → x_h M' q = x_h M q ∧ x_r M' q = x_r M q ∧ x_i M' q = x_i M q
theorem Gw.rf : Gw M M o := fun _ _ => ⟨rfl, rfl, rfl⟩
theorem Gw.tr {M'' : Mem} {o' : Nat} (h : Gw M M' o) (h2 : Gw M' M'' o') (ho : o ≤ o') : Gw M M'' o := fun q hq => by
  obtain ⟨a1, a2, a3⟩ := h q hq
  obtain ⟨b1, b2, b3⟩ := h2 q (by omega)
  exact ⟨b1.trans a1, b2.trans a2, b3.trans a3⟩
theorem Gw.nw {a kd ln : Nat} (h : Gw M M' o) (ha : o ≤ a) : Gw M (x_new M' a kd ln) o := fun q hq => by
  obtain ⟨a1, a2, a3⟩ := h q hq
  exact ⟨(nw_hn (by omega)).trans a1, (nw_rn (by omega)).trans a2, (nw_in (by omega)).trans a3⟩
theorem Gw.sr {a k : Nat} {v : Option Nat} (h : Gw M M' o) (ha : o ≤ a) : Gw M (x_sr M' a k v) o := fun q hq => by
  obtain ⟨a1, a2, a3⟩ := h q hq
  exact ⟨a1, (xr_na (by omega)).trans a2, a3⟩
theorem Gw.si {a k : Nat} {v : Int32} (h : Gw M M' o) (ha : o ≤ a) : Gw M (x_si M' a k v) o := fun q hq => by
  obtain ⟨a1, a2, a3⟩ := h q hq
  exact ⟨a1, a2, (xi_na' (by omega)).trans a3⟩
/-- the object o gets its arrays, one behind another from o + c on -/
def Pz (G : GG) (M0 M : Mem) (o c : Nat) (F : Nat → Int32) (L : List (Nat × Nat × Nat)) : Prop :=
  g_b G + x_n M = o + c + L.length ∧ x_h M o = x_h M0 o ∧ x_i M o = F ∧ (∀ q, q < o + c → q ≠ o → x_h M q = x_h M0 q ∧ x_r M q = x_r M0 q ∧ x_i M q = x_i M0 q) ∧ (∀ f, (∀ x ∈ L, x.1 ≠ f) → x_r M o f = x_r M0 o f) ∧ ∀ i x, L[i]? = some x → x_r M o x.1 = some (o + c + i) ∧ x_h M (o + c + i) = x.2 ∧ x_i M (o + c + i) = fun _ => 0
theorem Pz.start (h : g_b G + x_n M = o + c) : Pz G M M o c (x_i M o) [] := ⟨h, rfl, rfl, fun _ _ _ => ⟨rfl, rfl, rfl⟩, fun _ _ => rfl, fun i x h => by simp at h⟩
theorem Pz.hd (h : Pz G M0 M o c F L) (hc : 0 < c) (hn : n = g_b G + x_n M) {kd ln : Nat} : x_h (x_new M n kd ln) o = x_h M0 o := by
  rw [nw_hn (by have := h.1; omega)]
  exact h.2.1
theorem Pz.step (h : Pz G M0 M o c F L) (hc : 0 < c) (hn : n = g_b G + x_n M) {f kd ln : Nat} (hf : ∀ x ∈ L, x.1 ≠ f) : Pz G M0 (x_sr (x_new M n kd ln) o f (some n)) o c F (L ++ [(f, kd, ln)]) := by
  obtain ⟨h1, h2, h3, h4, h5, h6⟩ := h
  have en : n = o + c + L.length := by omega
  refine ⟨?_, ?_, ?_, fun q hq hqo => ?_, fun f' hf' => ?_, fun i x hx => ?_⟩
  · rw [List.length_append]
    show g_b G + (x_n M + 1) = _
    simp
    omega
  · show x_h (x_new M n kd ln) o = _
    rw [nw_hn (by omega)]
    exact h2
  · show x_i (x_new M n kd ln) o = _
    rw [nw_in (by omega)]
    exact h3
  · obtain ⟨a1, a2, a3⟩ := h4 q hq hqo
    refine ⟨(nw_hn (by omega)).trans a1, ?_, ?_⟩
    · rw [xr_na hqo, nw_rn (by omega)]
      exact a2
    · show x_i (x_new M n kd ln) q = _
      rw [nw_in (by omega)]
      exact a3
  · have hne : f' ≠ f := fun e => hf' (f, kd, ln) (List.mem_append_right _ List.mem_cons_self) e.symm
    rw [xr_o (Or.inr hne), nw_rn (by omega)]
    exact h5 f' (fun x hx => hf' x (List.mem_append_left _ hx))
  · rcases Nat.lt_or_ge i L.length with c2 | c2
    · rw [List.getElem?_append_left c2] at hx
      obtain ⟨a1, a2, a3⟩ := h6 i x hx
      have hxf : x.1 ≠ f := hf x (List.mem_of_getElem? hx)
      refine ⟨?_, ?_, ?_⟩
      · rw [xr_o (Or.inr hxf), nw_rn (by omega)]; exact a1
      · show x_h (x_new M n kd ln) _ = _
        rw [nw_hn (by omega)]; exact a2
      · show x_i (x_new M n kd ln) _ = _
        rw [nw_in (by omega)]; exact a3
    · rw [List.getElem?_append_right c2] at hx
      have ei : i - L.length = 0 := by
        rcases Nat.eq_zero_or_pos (i - L.length) with z | z
        · exact z
        · rw [List.getElem?_eq_none (by simp; omega)] at hx; cases hx
      rw [ei] at hx
      cases hx
      have eo : o + c + i = n := by omega
      rw [eo]
      refine ⟨xr_e, ?_, ?_⟩
      · show x_h (x_new M n kd ln) n = _
        exact nw_he
      · show x_i (x_new M n kd ln) n = _
        exact nw_ie
theorem Pz.si (h : Pz G M0 M o c F L) (hc : 0 < c) {k : Nat} {v : Int32} : Pz G M0 (x_si M o k v) o c (fun j => if j = k then v else F j) L := by
  obtain ⟨h1, h2, h3, h4, h5, h6⟩ := h
  refine ⟨h1, h2, ?_, fun q hq hqo => ?_, h5, fun i x hx => ?_⟩
  · funext j
    by_cases e : j = k
    · rw [if_pos e, e, xi_eq]
    · rw [if_neg e, xi_nk e, h3]
  · obtain ⟨a1, a2, a3⟩ := h4 q hq hqo
    exact ⟨a1, a2, (xi_na' hqo).trans a3⟩
  · obtain ⟨a1, a2, a3⟩ := h6 i x hx
    exact ⟨a1, a2, (xi_na' (by omega)).trans a3⟩
theorem Pz.gw (h : Pz G M0 M o c F L) : Gw M0 M o := fun q hq => h.2.2.2.1 q (by omega) (by omega)
theorem Pz.r (h : Pz G M0 M o c F L) (i : Nat) {f kd ln : Nat} (hx : L[i]? = some (f, kd, ln)) : x_r M o f = some (o + c + i) := (h.2.2.2.2.2 i _ hx).1
theorem Pz.h (h : Pz G M0 M o c F L) (i : Nat) {f kd ln : Nat} (hx : L[i]? = some (f, kd, ln)) : x_h M (o + c + i) = (kd, ln) := (h.2.2.2.2.2 i _ hx).2.1
theorem Pz.z (h : Pz G M0 M o c F L) (i : Nat) {f kd ln : Nat} (hx : L[i]? = some (f, kd, ln)) : x_i M (o + c + i) = fun _ => 0 := (h.2.2.2.2.2 i _ hx).2.2
end BuildC
