/-! ===== more of making: the new cell's address and the memory behind it by name; rows of rows ===== -/
section Wraps
variable {G : GG} {d rc rs : Nat} {md : MD} {pc : Nat} {lv : List (Option Value)} {st : List Value} {X : Mem} {Q : Option Value → Mem → Prop}
theorem r_newV {index ci : Nat} {q : vw_C} (hd : decode md.2.1 pc = .ok (.new index, 3)) (hq : cl[ci]? = some q) (hl : Cond.classLink md.1.cls index q.1 ∈ lw_tbl) (hi : Cond.instantiable q.1 q.2.2 ∈ lw_tbl) (hini : Cond.initialized q.1 ∈ lw_tbl) (hrc : 1 ≤ rc) (hrs : q.2.2 ≤ rs)
    (kk : ∀ (n : Nat) (X2 : Mem), n = g_b G + x_n X → X2 = x_new X n (16 + ci) 0 → x_h X2 n = (16 + ci, 0) → Wk G d (rc - 1) (rs - q.2.2) md (pc + 3) lv (.ref n :: st) X2 Q) : Wk G d rc rs md pc lv st X Q :=
  r_new hd hq hl hi hini hrc hrs (kk _ _ rfl rfl x_new_h)
theorem r_newIV {n : Nat} {i : Int32} (hd : decode md.2.1 pc = .ok (.newarray .int, 2)) (hi : ¬ i < 0) (hn : i.toNatClampNeg = n) (hb : n ≤ 1000000) (hrc : 1 ≤ rc) (hrs : n ≤ rs) (kk : ∀ (a : Nat) (X2 : Mem), a = g_b G + x_n X → X2 = x_new X a 1 n → x_h X2 a = (1, n) → Wk G d (rc - 1) (rs - n) md (pc + 2) lv (.ref a :: st) X2 Q) : Wk G d rc rs md pc lv (.int i :: st) X Q :=
  r_newI hd hi hn hb hrc hrs ww_72 (kk _ _ rfl rfl x_new_h)
theorem r_newJV {n : Nat} {i : Int32} (hd : decode md.2.1 pc = .ok (.newarray .long, 2)) (hi : ¬ i < 0) (hn : i.toNatClampNeg = n) (hb : n ≤ 1000000) (hrc : 1 ≤ rc) (hrs : n ≤ rs) (kk : ∀ (a : Nat) (X2 : Mem), a = g_b G + x_n X → X2 = x_new X a 2 n → x_h X2 a = (2, n) → Wk G d (rc - 1) (rs - n) md (pc + 2) lv (.ref a :: st) X2 Q) : Wk G d rc rs md pc lv (.int i :: st) X Q :=
  r_newJ hd hi hn hb hrc hrs ww_294 (kk _ _ rfl rfl x_new_h)
theorem r_newZV {n : Nat} {i : Int32} (hd : decode md.2.1 pc = .ok (.newarray .boolean, 2)) (hi : ¬ i < 0) (hn : i.toNatClampNeg = n) (hb : n ≤ 1000000) (hrc : 1 ≤ rc) (hrs : n ≤ rs) (kk : ∀ (a : Nat) (X2 : Mem), a = g_b G + x_n X → X2 = x_new X a 3 n → x_h X2 a = (3, n) → Wk G d (rc - 1) (rs - n) md (pc + 2) lv (.ref a :: st) X2 Q) : Wk G d rc rs md pc lv (.int i :: st) X Q :=
  r_newZ hd hi hn hb hrc hrs ww_1484 (kk _ _ rfl rfl x_new_h)
theorem r_newRV {n kd index : Nat} {C : String} {i : Int32} (hd : decode md.2.1 pc = .ok (.anewarray index, 3)) (hkd : 4 ≤ kd ∧ kd < 7) (hC : kty kd = .object C) (hl : Cond.classLink md.1.cls index C ∈ lw_tbl) (ho : Cond.arrayOver (.object C) ∈ lw_tbl) (hi : ¬ i < 0) (hn : i.toNatClampNeg = n) (hb : n ≤ 1000000) (hrc : 1 ≤ rc) (hrs : n ≤ rs) (kk : ∀ (a : Nat) (X2 : Mem), a = g_b G + x_n X → X2 = x_new X a kd n → x_h X2 a = (kd, n) → Wk G d (rc - 1) (rs - n) md (pc + 3) lv (.ref a :: st) X2 Q) : Wk G d rc rs md pc lv (.int i :: st) X Q :=
  r_newR hd hkd hC hl ho hi hn hb hrc hrs (kk _ _ rfl rfl x_new_h)
/-- a row of n rows of k ints, at a; the rows at a + 1 and on -/
def x_mna (X : Mem) (a n k : Nat) : Mem := (X.1 + 1 + n, (fun q => if q = a then (7, n) else if a < q ∧ q ≤ a + n then (1, k) else X.2.1 q), (fun q j => if a ≤ q ∧ q ≤ a + n then 0 else X.2.2.1 q j), X.2.2.2.1, (fun q j => if q = a then (if j < n then some (a + 1 + j) else none) else X.2.2.2.2 q j))
theorem sw_ne {x k : Int32} (h : ¬ x = k) : ¬ x.toInt = k.toInt := fun e => h (Int32.toInt_inj.mp e)
end Wraps
