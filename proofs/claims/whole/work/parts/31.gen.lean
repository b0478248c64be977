-- s_Book_init_0: by hand
set_option maxRecDepth 4000 in
theorem s_Book_keepAct_0 (E : zX) (d : Nat) (a0 : Nat) (h : zH) (r : zO × zH)
    (hw : ∃ x1 : Int32, fld h a0 0 1 = some (.int x1) ∧
    if x1 < 40 then (
      zT E (d + 1) m_Book_keepAct 36 [some (.ref a0)] [] h r)
    else (
      (∃ w, fld h a0 0 1 = some w) ∧
      ∃ o2 : Nat, fld (setF h a0 1 (.int 39)) a0 0 2 = some (.ref o2) ∧
      ∃ o3 : Nat, fld (setF h a0 1 (.int 39)) a0 0 2 = some (.ref o3) ∧
      ∃ x4 : Int32, fld (setF h a0 1 (.int 39)) a0 0 1 = some (.int x4) ∧
      ∃ (n5 : Nat) (f6 : Nat → Int32) (n7 : Nat) (f8 : Nat → Int32), arr (setF h a0 1 (.int 39)) o2 = some (n5, f6) ∧ arr (setF h a0 1 (.int 39)) o3 = some (n7, f8) ∧ ¬ (((70 : Int32) < 0 ∨ (0 : Int32) < 0 ∨ (x4 * 70) < 0) ∨ (n5 < ((70 : Int32)).toNatClampNeg + ((x4 * 70)).toNatClampNeg ∨ n7 < ((0 : Int32)).toNatClampNeg + ((x4 * 70)).toNatClampNeg)) ∧
      zT E (d + 1) m_Book_keepAct 36 [some (.ref a0)] [] (setA (setF h a0 1 (.int 39)) o3 n7 (va_cpy f6 f8 ((70 : Int32)).toNatClampNeg ((0 : Int32)).toNatClampNeg ((x4 * 70)).toNatClampNeg)) r)) :
    zT E (d + 1) m_Book_keepAct 0 [some (.ref a0)] [] h r := by
  refine zT_st (pc' := 1) (L' := [some (.ref a0)]) (st' := [.ref a0]) (h' := h) 1 (fun n => rfl) ?_
  obtain ⟨x1, e, hw⟩ := hw
  refine zT_st (pc' := 4) (L' := [some (.ref a0)]) (st' := [.int x1]) (h' := h) 1 (fun n => fld_eq (E := E) e _) ?_
  refine zT_st (pc' := 6) (L' := [some (.ref a0)]) (st' := [.int 40, .int x1]) (h' := h) 1 (fun n => rfl) ?_
  by_cases hc : x1 < 40
  · rw [if_pos hc] at hw
    refine zT_st (pc' := 36) (L' := [some (.ref a0)]) (st' := []) (h' := h) 1 (fun n => if_pos hc) ?_
    exact hw
  · rw [if_neg hc] at hw
    refine zT_st (pc' := 9) (L' := [some (.ref a0)]) (st' := []) (h' := h) 1 (fun n => if_neg hc) ?_
    refine zT_st (pc' := 12) (L' := [some (.ref a0)]) (st' := [.int 39, .ref a0]) (h' := h) 2 (fun n => rfl) ?_
    obtain ⟨⟨w, e⟩, hw⟩ := hw
    refine zT_st (pc' := 15) (L' := [some (.ref a0)]) (st' := []) (h' := (setF h a0 1 (.int 39))) 1 (fun n => put_eq e rfl _ _) ?_
    refine zT_st (pc' := 16) (L' := [some (.ref a0)]) (st' := [.ref a0]) (h' := (setF h a0 1 (.int 39))) 1 (fun n => rfl) ?_
    obtain ⟨o2, e, hw⟩ := hw
    refine zT_st (pc' := 19) (L' := [some (.ref a0)]) (st' := [.ref o2]) (h' := (setF h a0 1 (.int 39))) 1 (fun n => fld_eq (E := E) e _) ?_
    refine zT_st (pc' := 22) (L' := [some (.ref a0)]) (st' := [.ref a0, .int 70, .ref o2]) (h' := (setF h a0 1 (.int 39))) 2 (fun n => rfl) ?_
    obtain ⟨o3, e, hw⟩ := hw
    refine zT_st (pc' := 25) (L' := [some (.ref a0)]) (st' := [.ref o3, .int 70, .ref o2]) (h' := (setF h a0 1 (.int 39))) 1 (fun n => fld_eq (E := E) e _) ?_
    refine zT_st (pc' := 27) (L' := [some (.ref a0)]) (st' := [.ref a0, .int 0, .ref o3, .int 70, .ref o2]) (h' := (setF h a0 1 (.int 39))) 2 (fun n => rfl) ?_
    obtain ⟨x4, e, hw⟩ := hw
    refine zT_st (pc' := 30) (L' := [some (.ref a0)]) (st' := [.int x4, .int 0, .ref o3, .int 70, .ref o2]) (h' := (setF h a0 1 (.int 39))) 1 (fun n => fld_eq (E := E) e _) ?_
    refine zT_st (pc' := 33) (L' := [some (.ref a0)]) (st' := [.int (x4 * 70), .int 0, .ref o3, .int 70, .ref o2]) (h' := (setF h a0 1 (.int 39))) 2 (fun n => rfl) ?_
    obtain ⟨n5, f6, n7, f8, e0, e1, hi, hw⟩ := hw
    refine zT_st (pc' := 36) (L' := [some (.ref a0)]) (st' := []) (h' := (setA (setF h a0 1 (.int 39)) o3 n7 (va_cpy f6 f8 ((70 : Int32)).toNatClampNeg ((0 : Int32)).toNatClampNeg ((x4 * 70)).toNatClampNeg))) 1 (fun n => cp_eq e0 e1 hi _ _) ?_
    exact hw
set_option maxRecDepth 4000 in
theorem s_Book_keepAct_36 (E : zX) (d : Nat) (a0 : Nat) (h : zH) (r : zO × zH)
    (hw : ∃ o1 : Nat, fld h a0 0 0 = some (.ref o1) ∧
    ∃ o2 : Nat, fld h o1 10 0 = some (.ref o2) ∧
    ∃ o3 : Nat, fld h a0 0 2 = some (.ref o3) ∧
    ∃ x4 : Int32, fld h a0 0 1 = some (.int x4) ∧
    ∃ (n5 : Nat) (f6 : Nat → Int32) (n7 : Nat) (f8 : Nat → Int32), arr h o2 = some (n5, f6) ∧ arr h o3 = some (n7, f8) ∧ ¬ (((0 : Int32) < 0 ∨ (x4 * 70) < 0 ∨ (70 : Int32) < 0) ∨ (n5 < ((0 : Int32)).toNatClampNeg + ((70 : Int32)).toNatClampNeg ∨ n7 < ((x4 * 70)).toNatClampNeg + ((70 : Int32)).toNatClampNeg)) ∧
    ∃ x9 : Int32, fld (setA h o3 n7 (va_cpy f6 f8 ((0 : Int32)).toNatClampNeg ((x4 * 70)).toNatClampNeg ((70 : Int32)).toNatClampNeg)) a0 0 1 = some (.int x9) ∧
    (∃ w, fld (setA h o3 n7 (va_cpy f6 f8 ((0 : Int32)).toNatClampNeg ((x4 * 70)).toNatClampNeg ((70 : Int32)).toNatClampNeg)) a0 0 1 = some w) ∧
    r = (.inl (none), (setF (setA h o3 n7 (va_cpy f6 f8 ((0 : Int32)).toNatClampNeg ((x4 * 70)).toNatClampNeg ((70 : Int32)).toNatClampNeg)) a0 1 (.int (x9 + 1))))) :
    zT E (d + 1) m_Book_keepAct 36 [some (.ref a0)] [] h r := by
  refine zT_st (pc' := 37) (L' := [some (.ref a0)]) (st' := [.ref a0]) (h' := h) 1 (fun n => rfl) ?_
  obtain ⟨o1, e, hw⟩ := hw
  refine zT_st (pc' := 40) (L' := [some (.ref a0)]) (st' := [.ref o1]) (h' := h) 1 (fun n => fld_eq (E := E) e _) ?_
  obtain ⟨o2, e, hw⟩ := hw
  refine zT_st (pc' := 43) (L' := [some (.ref a0)]) (st' := [.ref o2]) (h' := h) 1 (fun n => fld_eq (E := E) e _) ?_
  refine zT_st (pc' := 45) (L' := [some (.ref a0)]) (st' := [.ref a0, .int 0, .ref o2]) (h' := h) 2 (fun n => rfl) ?_
  obtain ⟨o3, e, hw⟩ := hw
  refine zT_st (pc' := 48) (L' := [some (.ref a0)]) (st' := [.ref o3, .int 0, .ref o2]) (h' := h) 1 (fun n => fld_eq (E := E) e _) ?_
  refine zT_st (pc' := 49) (L' := [some (.ref a0)]) (st' := [.ref a0, .ref o3, .int 0, .ref o2]) (h' := h) 1 (fun n => rfl) ?_
  obtain ⟨x4, e, hw⟩ := hw
  refine zT_st (pc' := 52) (L' := [some (.ref a0)]) (st' := [.int x4, .ref o3, .int 0, .ref o2]) (h' := h) 1 (fun n => fld_eq (E := E) e _) ?_
  refine zT_st (pc' := 57) (L' := [some (.ref a0)]) (st' := [.int 70, .int (x4 * 70), .ref o3, .int 0, .ref o2]) (h' := h) 3 (fun n => rfl) ?_
  obtain ⟨n5, f6, n7, f8, e0, e1, hi, hw⟩ := hw
  refine zT_st (pc' := 60) (L' := [some (.ref a0)]) (st' := []) (h' := (setA h o3 n7 (va_cpy f6 f8 ((0 : Int32)).toNatClampNeg ((x4 * 70)).toNatClampNeg ((70 : Int32)).toNatClampNeg))) 1 (fun n => cp_eq e0 e1 hi _ _) ?_
  refine zT_st (pc' := 62) (L' := [some (.ref a0)]) (st' := [.ref a0, .ref a0]) (h' := (setA h o3 n7 (va_cpy f6 f8 ((0 : Int32)).toNatClampNeg ((x4 * 70)).toNatClampNeg ((70 : Int32)).toNatClampNeg))) 2 (fun n => rfl) ?_
  obtain ⟨x9, e, hw⟩ := hw
  refine zT_st (pc' := 65) (L' := [some (.ref a0)]) (st' := [.int x9, .ref a0]) (h' := (setA h o3 n7 (va_cpy f6 f8 ((0 : Int32)).toNatClampNeg ((x4 * 70)).toNatClampNeg ((70 : Int32)).toNatClampNeg))) 1 (fun n => fld_eq (E := E) e _) ?_
  refine zT_st (pc' := 67) (L' := [some (.ref a0)]) (st' := [.int (x9 + 1), .ref a0]) (h' := (setA h o3 n7 (va_cpy f6 f8 ((0 : Int32)).toNatClampNeg ((x4 * 70)).toNatClampNeg ((70 : Int32)).toNatClampNeg))) 2 (fun n => rfl) ?_
  obtain ⟨⟨w, e⟩, hw⟩ := hw
  refine zT_st (pc' := 70) (L' := [some (.ref a0)]) (st' := []) (h' := (setF (setA h o3 n7 (va_cpy f6 f8 ((0 : Int32)).toNatClampNeg ((x4 * 70)).toNatClampNeg ((70 : Int32)).toNatClampNeg)) a0 1 (.int (x9 + 1)))) 1 (fun n => put_eq e rfl _ _) ?_
  subst hw
  exact zT_ret 1 rfl
set_option maxRecDepth 4000 in
theorem s_Book_takeBackAct_0 (E : zX) (d : Nat) (a0 : Nat) (h : zH) (r : zO × zH)
    (hw : ∃ x1 : Int32, fld h a0 0 1 = some (.int x1) ∧
    if x1 ≤ 0 then (
      r = (.inl (none), h))
    else (
      ∃ x2 : Int32, fld h a0 0 1 = some (.int x2) ∧
      (∃ w, fld h a0 0 1 = some w) ∧
      ∃ o3 : Nat, fld (setF h a0 1 (.int (x2 - 1))) a0 0 2 = some (.ref o3) ∧
      ∃ x4 : Int32, fld (setF h a0 1 (.int (x2 - 1))) a0 0 1 = some (.int x4) ∧
      ∃ o5 : Nat, fld (setF h a0 1 (.int (x2 - 1))) a0 0 0 = some (.ref o5) ∧
      ∃ o6 : Nat, fld (setF h a0 1 (.int (x2 - 1))) o5 10 0 = some (.ref o6) ∧
      ∃ (n7 : Nat) (f8 : Nat → Int32) (n9 : Nat) (f10 : Nat → Int32), arr (setF h a0 1 (.int (x2 - 1))) o3 = some (n7, f8) ∧ arr (setF h a0 1 (.int (x2 - 1))) o6 = some (n9, f10) ∧ ¬ (((x4 * 70) < 0 ∨ (0 : Int32) < 0 ∨ (70 : Int32) < 0) ∨ (n7 < ((x4 * 70)).toNatClampNeg + ((70 : Int32)).toNatClampNeg ∨ n9 < ((0 : Int32)).toNatClampNeg + ((70 : Int32)).toNatClampNeg)) ∧
      r = (.inl (none), (setA (setF h a0 1 (.int (x2 - 1))) o6 n9 (va_cpy f8 f10 ((x4 * 70)).toNatClampNeg ((0 : Int32)).toNatClampNeg ((70 : Int32)).toNatClampNeg))))) :
    zT E (d + 1) m_Book_takeBackAct 0 [some (.ref a0)] [] h r := by
  refine zT_st (pc' := 1) (L' := [some (.ref a0)]) (st' := [.ref a0]) (h' := h) 1 (fun n => rfl) ?_
  obtain ⟨x1, e, hw⟩ := hw
  refine zT_st (pc' := 4) (L' := [some (.ref a0)]) (st' := [.int x1]) (h' := h) 1 (fun n => fld_eq (E := E) e _) ?_
  by_cases hc : x1 ≤ 0
  · rw [if_pos hc] at hw
    refine zT_st (pc' := 41) (L' := [some (.ref a0)]) (st' := []) (h' := h) 1 (fun n => if_pos hc) ?_
    subst hw
    exact zT_ret 1 rfl
  · rw [if_neg hc] at hw
    refine zT_st (pc' := 7) (L' := [some (.ref a0)]) (st' := []) (h' := h) 1 (fun n => if_neg hc) ?_
    refine zT_st (pc' := 9) (L' := [some (.ref a0)]) (st' := [.ref a0, .ref a0]) (h' := h) 2 (fun n => rfl) ?_
    obtain ⟨x2, e, hw⟩ := hw
    refine zT_st (pc' := 12) (L' := [some (.ref a0)]) (st' := [.int x2, .ref a0]) (h' := h) 1 (fun n => fld_eq (E := E) e _) ?_
    refine zT_st (pc' := 14) (L' := [some (.ref a0)]) (st' := [.int (x2 - 1), .ref a0]) (h' := h) 2 (fun n => rfl) ?_
    obtain ⟨⟨w, e⟩, hw⟩ := hw
    refine zT_st (pc' := 17) (L' := [some (.ref a0)]) (st' := []) (h' := (setF h a0 1 (.int (x2 - 1)))) 1 (fun n => put_eq e rfl _ _) ?_
    refine zT_st (pc' := 18) (L' := [some (.ref a0)]) (st' := [.ref a0]) (h' := (setF h a0 1 (.int (x2 - 1)))) 1 (fun n => rfl) ?_
    obtain ⟨o3, e, hw⟩ := hw
    refine zT_st (pc' := 21) (L' := [some (.ref a0)]) (st' := [.ref o3]) (h' := (setF h a0 1 (.int (x2 - 1)))) 1 (fun n => fld_eq (E := E) e _) ?_
    refine zT_st (pc' := 22) (L' := [some (.ref a0)]) (st' := [.ref a0, .ref o3]) (h' := (setF h a0 1 (.int (x2 - 1)))) 1 (fun n => rfl) ?_
    obtain ⟨x4, e, hw⟩ := hw
    refine zT_st (pc' := 25) (L' := [some (.ref a0)]) (st' := [.int x4, .ref o3]) (h' := (setF h a0 1 (.int (x2 - 1)))) 1 (fun n => fld_eq (E := E) e _) ?_
    refine zT_st (pc' := 29) (L' := [some (.ref a0)]) (st' := [.ref a0, .int (x4 * 70), .ref o3]) (h' := (setF h a0 1 (.int (x2 - 1)))) 3 (fun n => rfl) ?_
    obtain ⟨o5, e, hw⟩ := hw
    refine zT_st (pc' := 32) (L' := [some (.ref a0)]) (st' := [.ref o5, .int (x4 * 70), .ref o3]) (h' := (setF h a0 1 (.int (x2 - 1)))) 1 (fun n => fld_eq (E := E) e _) ?_
    obtain ⟨o6, e, hw⟩ := hw
    refine zT_st (pc' := 35) (L' := [some (.ref a0)]) (st' := [.ref o6, .int (x4 * 70), .ref o3]) (h' := (setF h a0 1 (.int (x2 - 1)))) 1 (fun n => fld_eq (E := E) e _) ?_
    refine zT_st (pc' := 38) (L' := [some (.ref a0)]) (st' := [.int 70, .int 0, .ref o6, .int (x4 * 70), .ref o3]) (h' := (setF h a0 1 (.int (x2 - 1)))) 2 (fun n => rfl) ?_
    obtain ⟨n7, f8, n9, f10, e0, e1, hi, hw⟩ := hw
    refine zT_st (pc' := 41) (L' := [some (.ref a0)]) (st' := []) (h' := (setA (setF h a0 1 (.int (x2 - 1))) o6 n9 (va_cpy f8 f10 ((x4 * 70)).toNatClampNeg ((0 : Int32)).toNatClampNeg ((70 : Int32)).toNatClampNeg))) 1 (fun n => cp_eq e0 e1 hi _ _) ?_
    subst hw
    exact zT_ret 1 rfl
set_option maxRecDepth 4000 in
theorem s_Book_copyFrom_0 (E : zX) (d : Nat) (a0 : Nat) (a1 : Nat) (h : zH) (r : zO × zH)
    (hw : ∃ o1 : Nat, fld h a0 0 0 = some (.ref o1) ∧
    ∃ o2 : Nat, fld h a1 0 0 = some (.ref o2) ∧
    isO h o1 10 = true ∧ ∃ (h4 : zH), zT E d m_Scene_copyFrom 0 [some (.ref o1), some (.ref o2)] [] h (.inl none, h4) ∧
    ∃ x5 : Int32, fld h4 a1 0 1 = some (.int x5) ∧
    (∃ w, fld h4 a0 0 1 = some w) ∧
    ∃ o6 : Nat, fld (setF h4 a0 1 (.int x5)) a1 0 2 = some (.ref o6) ∧
    ∃ o7 : Nat, fld (setF h4 a0 1 (.int x5)) a0 0 2 = some (.ref o7) ∧
    ∃ x8 : Int32, fld (setF h4 a0 1 (.int x5)) a0 0 1 = some (.int x8) ∧
    ∃ (n9 : Nat) (f10 : Nat → Int32) (n11 : Nat) (f12 : Nat → Int32), arr (setF h4 a0 1 (.int x5)) o6 = some (n9, f10) ∧ arr (setF h4 a0 1 (.int x5)) o7 = some (n11, f12) ∧ ¬ (((0 : Int32) < 0 ∨ (0 : Int32) < 0 ∨ (x8 * 70) < 0) ∨ (n9 < ((0 : Int32)).toNatClampNeg + ((x8 * 70)).toNatClampNeg ∨ n11 < ((0 : Int32)).toNatClampNeg + ((x8 * 70)).toNatClampNeg)) ∧
    ∃ x13 : Int32, fld (setA (setF h4 a0 1 (.int x5)) o7 n11 (va_cpy f10 f12 ((0 : Int32)).toNatClampNeg ((0 : Int32)).toNatClampNeg ((x8 * 70)).toNatClampNeg)) a1 0 3 = some (.int x13) ∧
    (∃ w, fld (setA (setF h4 a0 1 (.int x5)) o7 n11 (va_cpy f10 f12 ((0 : Int32)).toNatClampNeg ((0 : Int32)).toNatClampNeg ((x8 * 70)).toNatClampNeg)) a0 0 3 = some w) ∧
    ∃ o14 : Nat, fld (setF (setA (setF h4 a0 1 (.int x5)) o7 n11 (va_cpy f10 f12 ((0 : Int32)).toNatClampNeg ((0 : Int32)).toNatClampNeg ((x8 * 70)).toNatClampNeg)) a0 3 (.int x13)) a1 0 4 = some (.ref o14) ∧
    ∃ o15 : Nat, fld (setF (setA (setF h4 a0 1 (.int x5)) o7 n11 (va_cpy f10 f12 ((0 : Int32)).toNatClampNeg ((0 : Int32)).toNatClampNeg ((x8 * 70)).toNatClampNeg)) a0 3 (.int x13)) a0 0 4 = some (.ref o15) ∧
    ∃ (n16 : Nat) (f17 : Nat → Int32) (n18 : Nat) (f19 : Nat → Int32), arr (setF (setA (setF h4 a0 1 (.int x5)) o7 n11 (va_cpy f10 f12 ((0 : Int32)).toNatClampNeg ((0 : Int32)).toNatClampNeg ((x8 * 70)).toNatClampNeg)) a0 3 (.int x13)) o14 = some (n16, f17) ∧ arr (setF (setA (setF h4 a0 1 (.int x5)) o7 n11 (va_cpy f10 f12 ((0 : Int32)).toNatClampNeg ((0 : Int32)).toNatClampNeg ((x8 * 70)).toNatClampNeg)) a0 3 (.int x13)) o15 = some (n18, f19) ∧ ¬ (((0 : Int32) < 0 ∨ (0 : Int32) < 0 ∨ (8 : Int32) < 0) ∨ (n16 < ((0 : Int32)).toNatClampNeg + ((8 : Int32)).toNatClampNeg ∨ n18 < ((0 : Int32)).toNatClampNeg + ((8 : Int32)).toNatClampNeg)) ∧
    ∃ o20 : Nat, fld (setA (setF (setA (setF h4 a0 1 (.int x5)) o7 n11 (va_cpy f10 f12 ((0 : Int32)).toNatClampNeg ((0 : Int32)).toNatClampNeg ((x8 * 70)).toNatClampNeg)) a0 3 (.int x13)) o15 n18 (va_cpy f17 f19 ((0 : Int32)).toNatClampNeg ((0 : Int32)).toNatClampNeg ((8 : Int32)).toNatClampNeg)) a1 0 5 = some (.ref o20) ∧
    ∃ o21 : Nat, fld (setA (setF (setA (setF h4 a0 1 (.int x5)) o7 n11 (va_cpy f10 f12 ((0 : Int32)).toNatClampNeg ((0 : Int32)).toNatClampNeg ((x8 * 70)).toNatClampNeg)) a0 3 (.int x13)) o15 n18 (va_cpy f17 f19 ((0 : Int32)).toNatClampNeg ((0 : Int32)).toNatClampNeg ((8 : Int32)).toNatClampNeg)) a0 0 5 = some (.ref o21) ∧
    ∃ (n22 : Nat) (f23 : Nat → Int32) (n24 : Nat) (f25 : Nat → Int32), arr (setA (setF (setA (setF h4 a0 1 (.int x5)) o7 n11 (va_cpy f10 f12 ((0 : Int32)).toNatClampNeg ((0 : Int32)).toNatClampNeg ((x8 * 70)).toNatClampNeg)) a0 3 (.int x13)) o15 n18 (va_cpy f17 f19 ((0 : Int32)).toNatClampNeg ((0 : Int32)).toNatClampNeg ((8 : Int32)).toNatClampNeg)) o20 = some (n22, f23) ∧ arr (setA (setF (setA (setF h4 a0 1 (.int x5)) o7 n11 (va_cpy f10 f12 ((0 : Int32)).toNatClampNeg ((0 : Int32)).toNatClampNeg ((x8 * 70)).toNatClampNeg)) a0 3 (.int x13)) o15 n18 (va_cpy f17 f19 ((0 : Int32)).toNatClampNeg ((0 : Int32)).toNatClampNeg ((8 : Int32)).toNatClampNeg)) o21 = some (n24, f25) ∧ ¬ (((0 : Int32) < 0 ∨ (0 : Int32) < 0 ∨ (8 : Int32) < 0) ∨ (n22 < ((0 : Int32)).toNatClampNeg + ((8 : Int32)).toNatClampNeg ∨ n24 < ((0 : Int32)).toNatClampNeg + ((8 : Int32)).toNatClampNeg)) ∧
    ∃ o26 : Nat, fld (setA (setA (setF (setA (setF h4 a0 1 (.int x5)) o7 n11 (va_cpy f10 f12 ((0 : Int32)).toNatClampNeg ((0 : Int32)).toNatClampNeg ((x8 * 70)).toNatClampNeg)) a0 3 (.int x13)) o15 n18 (va_cpy f17 f19 ((0 : Int32)).toNatClampNeg ((0 : Int32)).toNatClampNeg ((8 : Int32)).toNatClampNeg)) o21 n24 (va_cpy f23 f25 ((0 : Int32)).toNatClampNeg ((0 : Int32)).toNatClampNeg ((8 : Int32)).toNatClampNeg)) a1 0 6 = some (.ref o26) ∧
    ∃ o27 : Nat, fld (setA (setA (setF (setA (setF h4 a0 1 (.int x5)) o7 n11 (va_cpy f10 f12 ((0 : Int32)).toNatClampNeg ((0 : Int32)).toNatClampNeg ((x8 * 70)).toNatClampNeg)) a0 3 (.int x13)) o15 n18 (va_cpy f17 f19 ((0 : Int32)).toNatClampNeg ((0 : Int32)).toNatClampNeg ((8 : Int32)).toNatClampNeg)) o21 n24 (va_cpy f23 f25 ((0 : Int32)).toNatClampNeg ((0 : Int32)).toNatClampNeg ((8 : Int32)).toNatClampNeg)) a0 0 6 = some (.ref o27) ∧
    ∃ (n28 : Nat) (f29 : Nat → Int32) (n30 : Nat) (f31 : Nat → Int32), arr (setA (setA (setF (setA (setF h4 a0 1 (.int x5)) o7 n11 (va_cpy f10 f12 ((0 : Int32)).toNatClampNeg ((0 : Int32)).toNatClampNeg ((x8 * 70)).toNatClampNeg)) a0 3 (.int x13)) o15 n18 (va_cpy f17 f19 ((0 : Int32)).toNatClampNeg ((0 : Int32)).toNatClampNeg ((8 : Int32)).toNatClampNeg)) o21 n24 (va_cpy f23 f25 ((0 : Int32)).toNatClampNeg ((0 : Int32)).toNatClampNeg ((8 : Int32)).toNatClampNeg)) o26 = some (n28, f29) ∧ arr (setA (setA (setF (setA (setF h4 a0 1 (.int x5)) o7 n11 (va_cpy f10 f12 ((0 : Int32)).toNatClampNeg ((0 : Int32)).toNatClampNeg ((x8 * 70)).toNatClampNeg)) a0 3 (.int x13)) o15 n18 (va_cpy f17 f19 ((0 : Int32)).toNatClampNeg ((0 : Int32)).toNatClampNeg ((8 : Int32)).toNatClampNeg)) o21 n24 (va_cpy f23 f25 ((0 : Int32)).toNatClampNeg ((0 : Int32)).toNatClampNeg ((8 : Int32)).toNatClampNeg)) o27 = some (n30, f31) ∧ ¬ (((0 : Int32) < 0 ∨ (0 : Int32) < 0 ∨ (8 : Int32) < 0) ∨ (n28 < ((0 : Int32)).toNatClampNeg + ((8 : Int32)).toNatClampNeg ∨ n30 < ((0 : Int32)).toNatClampNeg + ((8 : Int32)).toNatClampNeg)) ∧
    r = (.inl (none), (setA (setA (setA (setF (setA (setF h4 a0 1 (.int x5)) o7 n11 (va_cpy f10 f12 ((0 : Int32)).toNatClampNeg ((0 : Int32)).toNatClampNeg ((x8 * 70)).toNatClampNeg)) a0 3 (.int x13)) o15 n18 (va_cpy f17 f19 ((0 : Int32)).toNatClampNeg ((0 : Int32)).toNatClampNeg ((8 : Int32)).toNatClampNeg)) o21 n24 (va_cpy f23 f25 ((0 : Int32)).toNatClampNeg ((0 : Int32)).toNatClampNeg ((8 : Int32)).toNatClampNeg)) o27 n30 (va_cpy f29 f31 ((0 : Int32)).toNatClampNeg ((0 : Int32)).toNatClampNeg ((8 : Int32)).toNatClampNeg)))) :
    zT E (d + 1) m_Book_copyFrom 0 [some (.ref a0), some (.ref a1)] [] h r := by
  refine zT_st (pc' := 1) (L' := [some (.ref a0), some (.ref a1)]) (st' := [.ref a0]) (h' := h) 1 (fun n => rfl) ?_
  obtain ⟨o1, e, hw⟩ := hw
  refine zT_st (pc' := 4) (L' := [some (.ref a0), some (.ref a1)]) (st' := [.ref o1]) (h' := h) 1 (fun n => fld_eq (E := E) e _) ?_
  refine zT_st (pc' := 5) (L' := [some (.ref a0), some (.ref a1)]) (st' := [.ref a1, .ref o1]) (h' := h) 1 (fun n => rfl) ?_
  obtain ⟨o2, e, hw⟩ := hw
  refine zT_st (pc' := 8) (L' := [some (.ref a0), some (.ref a1)]) (st' := [.ref o2, .ref o1]) (h' := h) 1 (fun n => fld_eq (E := E) e _) ?_
  obtain ⟨hq, hw⟩ := hw
  obtain ⟨h4, hx, hw⟩ := hw
  refine zT_call (pc' := 11) (rest := []) 1 (fun n => rfl) hq hx ?_
  show zT E (d + 1) m_Book_copyFrom 11 [some (.ref a0), some (.ref a1)] [] h4 r
  refine zT_st (pc' := 13) (L' := [some (.ref a0), some (.ref a1)]) (st' := [.ref a1, .ref a0]) (h' := h4) 2 (fun n => rfl) ?_
  obtain ⟨x5, e, hw⟩ := hw
  refine zT_st (pc' := 16) (L' := [some (.ref a0), some (.ref a1)]) (st' := [.int x5, .ref a0]) (h' := h4) 1 (fun n => fld_eq (E := E) e _) ?_
  obtain ⟨⟨w, e⟩, hw⟩ := hw
  refine zT_st (pc' := 19) (L' := [some (.ref a0), some (.ref a1)]) (st' := []) (h' := (setF h4 a0 1 (.int x5))) 1 (fun n => put_eq e rfl _ _) ?_
  refine zT_st (pc' := 20) (L' := [some (.ref a0), some (.ref a1)]) (st' := [.ref a1]) (h' := (setF h4 a0 1 (.int x5))) 1 (fun n => rfl) ?_
  obtain ⟨o6, e, hw⟩ := hw
  refine zT_st (pc' := 23) (L' := [some (.ref a0), some (.ref a1)]) (st' := [.ref o6]) (h' := (setF h4 a0 1 (.int x5))) 1 (fun n => fld_eq (E := E) e _) ?_
  refine zT_st (pc' := 25) (L' := [some (.ref a0), some (.ref a1)]) (st' := [.ref a0, .int 0, .ref o6]) (h' := (setF h4 a0 1 (.int x5))) 2 (fun n => rfl) ?_
  obtain ⟨o7, e, hw⟩ := hw
  refine zT_st (pc' := 28) (L' := [some (.ref a0), some (.ref a1)]) (st' := [.ref o7, .int 0, .ref o6]) (h' := (setF h4 a0 1 (.int x5))) 1 (fun n => fld_eq (E := E) e _) ?_
  refine zT_st (pc' := 30) (L' := [some (.ref a0), some (.ref a1)]) (st' := [.ref a0, .int 0, .ref o7, .int 0, .ref o6]) (h' := (setF h4 a0 1 (.int x5))) 2 (fun n => rfl) ?_
  obtain ⟨x8, e, hw⟩ := hw
  refine zT_st (pc' := 33) (L' := [some (.ref a0), some (.ref a1)]) (st' := [.int x8, .int 0, .ref o7, .int 0, .ref o6]) (h' := (setF h4 a0 1 (.int x5))) 1 (fun n => fld_eq (E := E) e _) ?_
  refine zT_st (pc' := 36) (L' := [some (.ref a0), some (.ref a1)]) (st' := [.int (x8 * 70), .int 0, .ref o7, .int 0, .ref o6]) (h' := (setF h4 a0 1 (.int x5))) 2 (fun n => rfl) ?_
  obtain ⟨n9, f10, n11, f12, e0, e1, hi, hw⟩ := hw
  refine zT_st (pc' := 39) (L' := [some (.ref a0), some (.ref a1)]) (st' := []) (h' := (setA (setF h4 a0 1 (.int x5)) o7 n11 (va_cpy f10 f12 ((0 : Int32)).toNatClampNeg ((0 : Int32)).toNatClampNeg ((x8 * 70)).toNatClampNeg))) 1 (fun n => cp_eq e0 e1 hi _ _) ?_
  refine zT_st (pc' := 41) (L' := [some (.ref a0), some (.ref a1)]) (st' := [.ref a1, .ref a0]) (h' := (setA (setF h4 a0 1 (.int x5)) o7 n11 (va_cpy f10 f12 ((0 : Int32)).toNatClampNeg ((0 : Int32)).toNatClampNeg ((x8 * 70)).toNatClampNeg))) 2 (fun n => rfl) ?_
  obtain ⟨x13, e, hw⟩ := hw
  refine zT_st (pc' := 44) (L' := [some (.ref a0), some (.ref a1)]) (st' := [.int x13, .ref a0]) (h' := (setA (setF h4 a0 1 (.int x5)) o7 n11 (va_cpy f10 f12 ((0 : Int32)).toNatClampNeg ((0 : Int32)).toNatClampNeg ((x8 * 70)).toNatClampNeg))) 1 (fun n => fld_eq (E := E) e _) ?_
  obtain ⟨⟨w, e⟩, hw⟩ := hw
  refine zT_st (pc' := 47) (L' := [some (.ref a0), some (.ref a1)]) (st' := []) (h' := (setF (setA (setF h4 a0 1 (.int x5)) o7 n11 (va_cpy f10 f12 ((0 : Int32)).toNatClampNeg ((0 : Int32)).toNatClampNeg ((x8 * 70)).toNatClampNeg)) a0 3 (.int x13))) 1 (fun n => put_eq e rfl _ _) ?_
  refine zT_st (pc' := 48) (L' := [some (.ref a0), some (.ref a1)]) (st' := [.ref a1]) (h' := (setF (setA (setF h4 a0 1 (.int x5)) o7 n11 (va_cpy f10 f12 ((0 : Int32)).toNatClampNeg ((0 : Int32)).toNatClampNeg ((x8 * 70)).toNatClampNeg)) a0 3 (.int x13))) 1 (fun n => rfl) ?_
  obtain ⟨o14, e, hw⟩ := hw
  refine zT_st (pc' := 51) (L' := [some (.ref a0), some (.ref a1)]) (st' := [.ref o14]) (h' := (setF (setA (setF h4 a0 1 (.int x5)) o7 n11 (va_cpy f10 f12 ((0 : Int32)).toNatClampNeg ((0 : Int32)).toNatClampNeg ((x8 * 70)).toNatClampNeg)) a0 3 (.int x13))) 1 (fun n => fld_eq (E := E) e _) ?_
  refine zT_st (pc' := 53) (L' := [some (.ref a0), some (.ref a1)]) (st' := [.ref a0, .int 0, .ref o14]) (h' := (setF (setA (setF h4 a0 1 (.int x5)) o7 n11 (va_cpy f10 f12 ((0 : Int32)).toNatClampNeg ((0 : Int32)).toNatClampNeg ((x8 * 70)).toNatClampNeg)) a0 3 (.int x13))) 2 (fun n => rfl) ?_
  obtain ⟨o15, e, hw⟩ := hw
  refine zT_st (pc' := 56) (L' := [some (.ref a0), some (.ref a1)]) (st' := [.ref o15, .int 0, .ref o14]) (h' := (setF (setA (setF h4 a0 1 (.int x5)) o7 n11 (va_cpy f10 f12 ((0 : Int32)).toNatClampNeg ((0 : Int32)).toNatClampNeg ((x8 * 70)).toNatClampNeg)) a0 3 (.int x13))) 1 (fun n => fld_eq (E := E) e _) ?_
  refine zT_st (pc' := 59) (L' := [some (.ref a0), some (.ref a1)]) (st' := [.int 8, .int 0, .ref o15, .int 0, .ref o14]) (h' := (setF (setA (setF h4 a0 1 (.int x5)) o7 n11 (va_cpy f10 f12 ((0 : Int32)).toNatClampNeg ((0 : Int32)).toNatClampNeg ((x8 * 70)).toNatClampNeg)) a0 3 (.int x13))) 2 (fun n => rfl) ?_
  obtain ⟨n16, f17, n18, f19, e0, e1, hi, hw⟩ := hw
  refine zT_st (pc' := 62) (L' := [some (.ref a0), some (.ref a1)]) (st' := []) (h' := (setA (setF (setA (setF h4 a0 1 (.int x5)) o7 n11 (va_cpy f10 f12 ((0 : Int32)).toNatClampNeg ((0 : Int32)).toNatClampNeg ((x8 * 70)).toNatClampNeg)) a0 3 (.int x13)) o15 n18 (va_cpy f17 f19 ((0 : Int32)).toNatClampNeg ((0 : Int32)).toNatClampNeg ((8 : Int32)).toNatClampNeg))) 1 (fun n => cp_eq e0 e1 hi _ _) ?_
  refine zT_st (pc' := 63) (L' := [some (.ref a0), some (.ref a1)]) (st' := [.ref a1]) (h' := (setA (setF (setA (setF h4 a0 1 (.int x5)) o7 n11 (va_cpy f10 f12 ((0 : Int32)).toNatClampNeg ((0 : Int32)).toNatClampNeg ((x8 * 70)).toNatClampNeg)) a0 3 (.int x13)) o15 n18 (va_cpy f17 f19 ((0 : Int32)).toNatClampNeg ((0 : Int32)).toNatClampNeg ((8 : Int32)).toNatClampNeg))) 1 (fun n => rfl) ?_
  obtain ⟨o20, e, hw⟩ := hw
  refine zT_st (pc' := 66) (L' := [some (.ref a0), some (.ref a1)]) (st' := [.ref o20]) (h' := (setA (setF (setA (setF h4 a0 1 (.int x5)) o7 n11 (va_cpy f10 f12 ((0 : Int32)).toNatClampNeg ((0 : Int32)).toNatClampNeg ((x8 * 70)).toNatClampNeg)) a0 3 (.int x13)) o15 n18 (va_cpy f17 f19 ((0 : Int32)).toNatClampNeg ((0 : Int32)).toNatClampNeg ((8 : Int32)).toNatClampNeg))) 1 (fun n => fld_eq (E := E) e _) ?_
  refine zT_st (pc' := 68) (L' := [some (.ref a0), some (.ref a1)]) (st' := [.ref a0, .int 0, .ref o20]) (h' := (setA (setF (setA (setF h4 a0 1 (.int x5)) o7 n11 (va_cpy f10 f12 ((0 : Int32)).toNatClampNeg ((0 : Int32)).toNatClampNeg ((x8 * 70)).toNatClampNeg)) a0 3 (.int x13)) o15 n18 (va_cpy f17 f19 ((0 : Int32)).toNatClampNeg ((0 : Int32)).toNatClampNeg ((8 : Int32)).toNatClampNeg))) 2 (fun n => rfl) ?_
  obtain ⟨o21, e, hw⟩ := hw
  refine zT_st (pc' := 71) (L' := [some (.ref a0), some (.ref a1)]) (st' := [.ref o21, .int 0, .ref o20]) (h' := (setA (setF (setA (setF h4 a0 1 (.int x5)) o7 n11 (va_cpy f10 f12 ((0 : Int32)).toNatClampNeg ((0 : Int32)).toNatClampNeg ((x8 * 70)).toNatClampNeg)) a0 3 (.int x13)) o15 n18 (va_cpy f17 f19 ((0 : Int32)).toNatClampNeg ((0 : Int32)).toNatClampNeg ((8 : Int32)).toNatClampNeg))) 1 (fun n => fld_eq (E := E) e _) ?_
  refine zT_st (pc' := 74) (L' := [some (.ref a0), some (.ref a1)]) (st' := [.int 8, .int 0, .ref o21, .int 0, .ref o20]) (h' := (setA (setF (setA (setF h4 a0 1 (.int x5)) o7 n11 (va_cpy f10 f12 ((0 : Int32)).toNatClampNeg ((0 : Int32)).toNatClampNeg ((x8 * 70)).toNatClampNeg)) a0 3 (.int x13)) o15 n18 (va_cpy f17 f19 ((0 : Int32)).toNatClampNeg ((0 : Int32)).toNatClampNeg ((8 : Int32)).toNatClampNeg))) 2 (fun n => rfl) ?_
  obtain ⟨n22, f23, n24, f25, e0, e1, hi, hw⟩ := hw
  refine zT_st (pc' := 77) (L' := [some (.ref a0), some (.ref a1)]) (st' := []) (h' := (setA (setA (setF (setA (setF h4 a0 1 (.int x5)) o7 n11 (va_cpy f10 f12 ((0 : Int32)).toNatClampNeg ((0 : Int32)).toNatClampNeg ((x8 * 70)).toNatClampNeg)) a0 3 (.int x13)) o15 n18 (va_cpy f17 f19 ((0 : Int32)).toNatClampNeg ((0 : Int32)).toNatClampNeg ((8 : Int32)).toNatClampNeg)) o21 n24 (va_cpy f23 f25 ((0 : Int32)).toNatClampNeg ((0 : Int32)).toNatClampNeg ((8 : Int32)).toNatClampNeg))) 1 (fun n => cp_eq e0 e1 hi _ _) ?_
  refine zT_st (pc' := 78) (L' := [some (.ref a0), some (.ref a1)]) (st' := [.ref a1]) (h' := (setA (setA (setF (setA (setF h4 a0 1 (.int x5)) o7 n11 (va_cpy f10 f12 ((0 : Int32)).toNatClampNeg ((0 : Int32)).toNatClampNeg ((x8 * 70)).toNatClampNeg)) a0 3 (.int x13)) o15 n18 (va_cpy f17 f19 ((0 : Int32)).toNatClampNeg ((0 : Int32)).toNatClampNeg ((8 : Int32)).toNatClampNeg)) o21 n24 (va_cpy f23 f25 ((0 : Int32)).toNatClampNeg ((0 : Int32)).toNatClampNeg ((8 : Int32)).toNatClampNeg))) 1 (fun n => rfl) ?_
  obtain ⟨o26, e, hw⟩ := hw
  refine zT_st (pc' := 81) (L' := [some (.ref a0), some (.ref a1)]) (st' := [.ref o26]) (h' := (setA (setA (setF (setA (setF h4 a0 1 (.int x5)) o7 n11 (va_cpy f10 f12 ((0 : Int32)).toNatClampNeg ((0 : Int32)).toNatClampNeg ((x8 * 70)).toNatClampNeg)) a0 3 (.int x13)) o15 n18 (va_cpy f17 f19 ((0 : Int32)).toNatClampNeg ((0 : Int32)).toNatClampNeg ((8 : Int32)).toNatClampNeg)) o21 n24 (va_cpy f23 f25 ((0 : Int32)).toNatClampNeg ((0 : Int32)).toNatClampNeg ((8 : Int32)).toNatClampNeg))) 1 (fun n => fld_eq (E := E) e _) ?_
  refine zT_st (pc' := 83) (L' := [some (.ref a0), some (.ref a1)]) (st' := [.ref a0, .int 0, .ref o26]) (h' := (setA (setA (setF (setA (setF h4 a0 1 (.int x5)) o7 n11 (va_cpy f10 f12 ((0 : Int32)).toNatClampNeg ((0 : Int32)).toNatClampNeg ((x8 * 70)).toNatClampNeg)) a0 3 (.int x13)) o15 n18 (va_cpy f17 f19 ((0 : Int32)).toNatClampNeg ((0 : Int32)).toNatClampNeg ((8 : Int32)).toNatClampNeg)) o21 n24 (va_cpy f23 f25 ((0 : Int32)).toNatClampNeg ((0 : Int32)).toNatClampNeg ((8 : Int32)).toNatClampNeg))) 2 (fun n => rfl) ?_
  obtain ⟨o27, e, hw⟩ := hw
  refine zT_st (pc' := 86) (L' := [some (.ref a0), some (.ref a1)]) (st' := [.ref o27, .int 0, .ref o26]) (h' := (setA (setA (setF (setA (setF h4 a0 1 (.int x5)) o7 n11 (va_cpy f10 f12 ((0 : Int32)).toNatClampNeg ((0 : Int32)).toNatClampNeg ((x8 * 70)).toNatClampNeg)) a0 3 (.int x13)) o15 n18 (va_cpy f17 f19 ((0 : Int32)).toNatClampNeg ((0 : Int32)).toNatClampNeg ((8 : Int32)).toNatClampNeg)) o21 n24 (va_cpy f23 f25 ((0 : Int32)).toNatClampNeg ((0 : Int32)).toNatClampNeg ((8 : Int32)).toNatClampNeg))) 1 (fun n => fld_eq (E := E) e _) ?_
  refine zT_st (pc' := 89) (L' := [some (.ref a0), some (.ref a1)]) (st' := [.int 8, .int 0, .ref o27, .int 0, .ref o26]) (h' := (setA (setA (setF (setA (setF h4 a0 1 (.int x5)) o7 n11 (va_cpy f10 f12 ((0 : Int32)).toNatClampNeg ((0 : Int32)).toNatClampNeg ((x8 * 70)).toNatClampNeg)) a0 3 (.int x13)) o15 n18 (va_cpy f17 f19 ((0 : Int32)).toNatClampNeg ((0 : Int32)).toNatClampNeg ((8 : Int32)).toNatClampNeg)) o21 n24 (va_cpy f23 f25 ((0 : Int32)).toNatClampNeg ((0 : Int32)).toNatClampNeg ((8 : Int32)).toNatClampNeg))) 2 (fun n => rfl) ?_
  obtain ⟨n28, f29, n30, f31, e0, e1, hi, hw⟩ := hw
  refine zT_st (pc' := 92) (L' := [some (.ref a0), some (.ref a1)]) (st' := []) (h' := (setA (setA (setA (setF (setA (setF h4 a0 1 (.int x5)) o7 n11 (va_cpy f10 f12 ((0 : Int32)).toNatClampNeg ((0 : Int32)).toNatClampNeg ((x8 * 70)).toNatClampNeg)) a0 3 (.int x13)) o15 n18 (va_cpy f17 f19 ((0 : Int32)).toNatClampNeg ((0 : Int32)).toNatClampNeg ((8 : Int32)).toNatClampNeg)) o21 n24 (va_cpy f23 f25 ((0 : Int32)).toNatClampNeg ((0 : Int32)).toNatClampNeg ((8 : Int32)).toNatClampNeg)) o27 n30 (va_cpy f29 f31 ((0 : Int32)).toNatClampNeg ((0 : Int32)).toNatClampNeg ((8 : Int32)).toNatClampNeg))) 1 (fun n => cp_eq e0 e1 hi _ _) ?_
  subst hw
  exact zT_ret 1 rfl
set_option maxRecDepth 4000 in
theorem s_Book_begin_0 (E : zX) (d : Nat) (a0 : Nat) (a1 : Nat) (h : zH) (r : zO × zH)
    (hw : ∃ o1 : Nat, fld h a0 0 0 = some (.ref o1) ∧
    isO h o1 10 = true ∧ ∃ (h3 : zH), zT E d m_Scene_copyFrom 0 [some (.ref o1), some (.ref a1)] [] h (.inl none, h3) ∧
    (∃ w, fld h3 a0 0 1 = some w) ∧
    (∃ w, fld (setF h3 a0 1 (.int 0)) a0 0 3 = some w) ∧
    r = (.inl (none), (setF (setF h3 a0 1 (.int 0)) a0 3 (.int 0)))) :
    zT E (d + 1) m_Book_begin 0 [some (.ref a0), some (.ref a1)] [] h r := by
  refine zT_st (pc' := 1) (L' := [some (.ref a0), some (.ref a1)]) (st' := [.ref a0]) (h' := h) 1 (fun n => rfl) ?_
  obtain ⟨o1, e, hw⟩ := hw
  refine zT_st (pc' := 4) (L' := [some (.ref a0), some (.ref a1)]) (st' := [.ref o1]) (h' := h) 1 (fun n => fld_eq (E := E) e _) ?_
  refine zT_st (pc' := 5) (L' := [some (.ref a0), some (.ref a1)]) (st' := [.ref a1, .ref o1]) (h' := h) 1 (fun n => rfl) ?_
  obtain ⟨hq, hw⟩ := hw
  obtain ⟨h3, hx, hw⟩ := hw
  refine zT_call (pc' := 8) (rest := []) 1 (fun n => rfl) hq hx ?_
  show zT E (d + 1) m_Book_begin 8 [some (.ref a0), some (.ref a1)] [] h3 r
  refine zT_st (pc' := 10) (L' := [some (.ref a0), some (.ref a1)]) (st' := [.int 0, .ref a0]) (h' := h3) 2 (fun n => rfl) ?_
  obtain ⟨⟨w, e⟩, hw⟩ := hw
  refine zT_st (pc' := 13) (L' := [some (.ref a0), some (.ref a1)]) (st' := []) (h' := (setF h3 a0 1 (.int 0))) 1 (fun n => put_eq e rfl _ _) ?_
  refine zT_st (pc' := 15) (L' := [some (.ref a0), some (.ref a1)]) (st' := [.int 0, .ref a0]) (h' := (setF h3 a0 1 (.int 0))) 2 (fun n => rfl) ?_
  obtain ⟨⟨w, e⟩, hw⟩ := hw
  refine zT_st (pc' := 18) (L' := [some (.ref a0), some (.ref a1)]) (st' := []) (h' := (setF (setF h3 a0 1 (.int 0)) a0 3 (.int 0))) 1 (fun n => put_eq e rfl _ _) ?_
  subst hw
  exact zT_ret 1 rfl
set_option maxRecDepth 4000 in
theorem s_Book_addSight_0 (E : zX) (d : Nat) (a0 : Nat) (a1 : Int32) (a2 : Int32) (a3 : Int32) (h : zH) (r : zO × zH)
    (hw : ∃ x1 : Int32, fld h a0 0 3 = some (.int x1) ∧
    if 8 ≤ x1 then (
      r = (.inl (none), h))
    else (
      ∃ o2 : Nat, fld h a0 0 4 = some (.ref o2) ∧
      ∃ x3 : Int32, fld h a0 0 3 = some (.int x3) ∧
      ∃ (n4 : Nat) (f5 : Nat → Int32), arr h o2 = some (n4, f5) ∧ ¬ (x3 < 0 ∨ n4 ≤ (x3).toNatClampNeg) ∧
      ∃ o6 : Nat, fld (setA h o2 n4 (upd f5 (x3).toNatClampNeg a1)) a0 0 5 = some (.ref o6) ∧
      ∃ x7 : Int32, fld (setA h o2 n4 (upd f5 (x3).toNatClampNeg a1)) a0 0 3 = some (.int x7) ∧
      ∃ (n8 : Nat) (f9 : Nat → Int32), arr (setA h o2 n4 (upd f5 (x3).toNatClampNeg a1)) o6 = some (n8, f9) ∧ ¬ (x7 < 0 ∨ n8 ≤ (x7).toNatClampNeg) ∧
      ∃ o10 : Nat, fld (setA (setA h o2 n4 (upd f5 (x3).toNatClampNeg a1)) o6 n8 (upd f9 (x7).toNatClampNeg a2)) a0 0 6 = some (.ref o10) ∧
      ∃ x11 : Int32, fld (setA (setA h o2 n4 (upd f5 (x3).toNatClampNeg a1)) o6 n8 (upd f9 (x7).toNatClampNeg a2)) a0 0 3 = some (.int x11) ∧
      if a3 = 0 then (
        ∃ (n12 : Nat) (f13 : Nat → Int32), arr (setA (setA h o2 n4 (upd f5 (x3).toNatClampNeg a1)) o6 n8 (upd f9 (x7).toNatClampNeg a2)) o10 = some (n12, f13) ∧ ¬ (x11 < 0 ∨ n12 ≤ (x11).toNatClampNeg) ∧
        ∃ x14 : Int32, fld (setA (setA (setA h o2 n4 (upd f5 (x3).toNatClampNeg a1)) o6 n8 (upd f9 (x7).toNatClampNeg a2)) o10 n12 (upd f13 (x11).toNatClampNeg 0)) a0 0 3 = some (.int x14) ∧
        (∃ w, fld (setA (setA (setA h o2 n4 (upd f5 (x3).toNatClampNeg a1)) o6 n8 (upd f9 (x7).toNatClampNeg a2)) o10 n12 (upd f13 (x11).toNatClampNeg 0)) a0 0 3 = some w) ∧
        r = (.inl (none), (setF (setA (setA (setA h o2 n4 (upd f5 (x3).toNatClampNeg a1)) o6 n8 (upd f9 (x7).toNatClampNeg a2)) o10 n12 (upd f13 (x11).toNatClampNeg 0)) a0 3 (.int (x14 + 1)))))
      else (
        ∃ (n15 : Nat) (f16 : Nat → Int32), arr (setA (setA h o2 n4 (upd f5 (x3).toNatClampNeg a1)) o6 n8 (upd f9 (x7).toNatClampNeg a2)) o10 = some (n15, f16) ∧ ¬ (x11 < 0 ∨ n15 ≤ (x11).toNatClampNeg) ∧
        ∃ x17 : Int32, fld (setA (setA (setA h o2 n4 (upd f5 (x3).toNatClampNeg a1)) o6 n8 (upd f9 (x7).toNatClampNeg a2)) o10 n15 (upd f16 (x11).toNatClampNeg 1)) a0 0 3 = some (.int x17) ∧
        (∃ w, fld (setA (setA (setA h o2 n4 (upd f5 (x3).toNatClampNeg a1)) o6 n8 (upd f9 (x7).toNatClampNeg a2)) o10 n15 (upd f16 (x11).toNatClampNeg 1)) a0 0 3 = some w) ∧
        r = (.inl (none), (setF (setA (setA (setA h o2 n4 (upd f5 (x3).toNatClampNeg a1)) o6 n8 (upd f9 (x7).toNatClampNeg a2)) o10 n15 (upd f16 (x11).toNatClampNeg 1)) a0 3 (.int (x17 + 1))))))) :
    zT E d m_Book_addSight 0 [some (.ref a0), some (.int a1), some (.int a2), some (.int a3)] [] h r := by
  refine zT_st (pc' := 1) (L' := [some (.ref a0), some (.int a1), some (.int a2), some (.int a3)]) (st' := [.ref a0]) (h' := h) 1 (fun n => rfl) ?_
  obtain ⟨x1, e, hw⟩ := hw
  refine zT_st (pc' := 4) (L' := [some (.ref a0), some (.int a1), some (.int a2), some (.int a3)]) (st' := [.int x1]) (h' := h) 1 (fun n => fld_eq (E := E) e _) ?_
  refine zT_st (pc' := 6) (L' := [some (.ref a0), some (.int a1), some (.int a2), some (.int a3)]) (st' := [.int 8, .int x1]) (h' := h) 1 (fun n => rfl) ?_
  by_cases hc : 8 ≤ x1
  · rw [if_pos hc] at hw
    refine zT_st (pc' := 57) (L' := [some (.ref a0), some (.int a1), some (.int a2), some (.int a3)]) (st' := []) (h' := h) 1 (fun n => if_pos hc) ?_
    subst hw
    exact zT_ret 1 rfl
  · rw [if_neg hc] at hw
    refine zT_st (pc' := 9) (L' := [some (.ref a0), some (.int a1), some (.int a2), some (.int a3)]) (st' := []) (h' := h) 1 (fun n => if_neg hc) ?_
    refine zT_st (pc' := 10) (L' := [some (.ref a0), some (.int a1), some (.int a2), some (.int a3)]) (st' := [.ref a0]) (h' := h) 1 (fun n => rfl) ?_
    obtain ⟨o2, e, hw⟩ := hw
    refine zT_st (pc' := 13) (L' := [some (.ref a0), some (.int a1), some (.int a2), some (.int a3)]) (st' := [.ref o2]) (h' := h) 1 (fun n => fld_eq (E := E) e _) ?_
    refine zT_st (pc' := 14) (L' := [some (.ref a0), some (.int a1), some (.int a2), some (.int a3)]) (st' := [.ref a0, .ref o2]) (h' := h) 1 (fun n => rfl) ?_
    obtain ⟨x3, e, hw⟩ := hw
    refine zT_st (pc' := 17) (L' := [some (.ref a0), some (.int a1), some (.int a2), some (.int a3)]) (st' := [.int x3, .ref o2]) (h' := h) 1 (fun n => fld_eq (E := E) e _) ?_
    refine zT_st (pc' := 18) (L' := [some (.ref a0), some (.int a1), some (.int a2), some (.int a3)]) (st' := [.int a1, .int x3, .ref o2]) (h' := h) 1 (fun n => rfl) ?_
    obtain ⟨n4, f5, e, hi, hw⟩ := hw
    refine zT_st (pc' := 19) (L' := [some (.ref a0), some (.int a1), some (.int a2), some (.int a3)]) (st' := []) (h' := (setA h o2 n4 (upd f5 (x3).toNatClampNeg a1))) 1 (fun n => set_eq e hi _ _) ?_
    refine zT_st (pc' := 20) (L' := [some (.ref a0), some (.int a1), some (.int a2), some (.int a3)]) (st' := [.ref a0]) (h' := (setA h o2 n4 (upd f5 (x3).toNatClampNeg a1))) 1 (fun n => rfl) ?_
    obtain ⟨o6, e, hw⟩ := hw
    refine zT_st (pc' := 23) (L' := [some (.ref a0), some (.int a1), some (.int a2), some (.int a3)]) (st' := [.ref o6]) (h' := (setA h o2 n4 (upd f5 (x3).toNatClampNeg a1))) 1 (fun n => fld_eq (E := E) e _) ?_
    refine zT_st (pc' := 24) (L' := [some (.ref a0), some (.int a1), some (.int a2), some (.int a3)]) (st' := [.ref a0, .ref o6]) (h' := (setA h o2 n4 (upd f5 (x3).toNatClampNeg a1))) 1 (fun n => rfl) ?_
    obtain ⟨x7, e, hw⟩ := hw
    refine zT_st (pc' := 27) (L' := [some (.ref a0), some (.int a1), some (.int a2), some (.int a3)]) (st' := [.int x7, .ref o6]) (h' := (setA h o2 n4 (upd f5 (x3).toNatClampNeg a1))) 1 (fun n => fld_eq (E := E) e _) ?_
    refine zT_st (pc' := 28) (L' := [some (.ref a0), some (.int a1), some (.int a2), some (.int a3)]) (st' := [.int a2, .int x7, .ref o6]) (h' := (setA h o2 n4 (upd f5 (x3).toNatClampNeg a1))) 1 (fun n => rfl) ?_
    obtain ⟨n8, f9, e, hi, hw⟩ := hw
    refine zT_st (pc' := 29) (L' := [some (.ref a0), some (.int a1), some (.int a2), some (.int a3)]) (st' := []) (h' := (setA (setA h o2 n4 (upd f5 (x3).toNatClampNeg a1)) o6 n8 (upd f9 (x7).toNatClampNeg a2))) 1 (fun n => set_eq e hi _ _) ?_
    refine zT_st (pc' := 30) (L' := [some (.ref a0), some (.int a1), some (.int a2), some (.int a3)]) (st' := [.ref a0]) (h' := (setA (setA h o2 n4 (upd f5 (x3).toNatClampNeg a1)) o6 n8 (upd f9 (x7).toNatClampNeg a2))) 1 (fun n => rfl) ?_
    obtain ⟨o10, e, hw⟩ := hw
    refine zT_st (pc' := 33) (L' := [some (.ref a0), some (.int a1), some (.int a2), some (.int a3)]) (st' := [.ref o10]) (h' := (setA (setA h o2 n4 (upd f5 (x3).toNatClampNeg a1)) o6 n8 (upd f9 (x7).toNatClampNeg a2))) 1 (fun n => fld_eq (E := E) e _) ?_
    refine zT_st (pc' := 34) (L' := [some (.ref a0), some (.int a1), some (.int a2), some (.int a3)]) (st' := [.ref a0, .ref o10]) (h' := (setA (setA h o2 n4 (upd f5 (x3).toNatClampNeg a1)) o6 n8 (upd f9 (x7).toNatClampNeg a2))) 1 (fun n => rfl) ?_
    obtain ⟨x11, e, hw⟩ := hw
    refine zT_st (pc' := 37) (L' := [some (.ref a0), some (.int a1), some (.int a2), some (.int a3)]) (st' := [.int x11, .ref o10]) (h' := (setA (setA h o2 n4 (upd f5 (x3).toNatClampNeg a1)) o6 n8 (upd f9 (x7).toNatClampNeg a2))) 1 (fun n => fld_eq (E := E) e _) ?_
    refine zT_st (pc' := 38) (L' := [some (.ref a0), some (.int a1), some (.int a2), some (.int a3)]) (st' := [.int a3, .int x11, .ref o10]) (h' := (setA (setA h o2 n4 (upd f5 (x3).toNatClampNeg a1)) o6 n8 (upd f9 (x7).toNatClampNeg a2))) 1 (fun n => rfl) ?_
    by_cases hc : a3 = 0
    · rw [if_pos hc] at hw
      refine zT_st (pc' := 45) (L' := [some (.ref a0), some (.int a1), some (.int a2), some (.int a3)]) (st' := [.int x11, .ref o10]) (h' := (setA (setA h o2 n4 (upd f5 (x3).toNatClampNeg a1)) o6 n8 (upd f9 (x7).toNatClampNeg a2))) 1 (fun n => if_pos hc) ?_
      refine zT_st (pc' := 46) (L' := [some (.ref a0), some (.int a1), some (.int a2), some (.int a3)]) (st' := [.int 0, .int x11, .ref o10]) (h' := (setA (setA h o2 n4 (upd f5 (x3).toNatClampNeg a1)) o6 n8 (upd f9 (x7).toNatClampNeg a2))) 1 (fun n => rfl) ?_
      obtain ⟨n12, f13, e, hi, hw⟩ := hw
      refine zT_st (pc' := 47) (L' := [some (.ref a0), some (.int a1), some (.int a2), some (.int a3)]) (st' := []) (h' := (setA (setA (setA h o2 n4 (upd f5 (x3).toNatClampNeg a1)) o6 n8 (upd f9 (x7).toNatClampNeg a2)) o10 n12 (upd f13 (x11).toNatClampNeg 0))) 1 (fun n => set_eq e hi _ _) ?_
      refine zT_st (pc' := 49) (L' := [some (.ref a0), some (.int a1), some (.int a2), some (.int a3)]) (st' := [.ref a0, .ref a0]) (h' := (setA (setA (setA h o2 n4 (upd f5 (x3).toNatClampNeg a1)) o6 n8 (upd f9 (x7).toNatClampNeg a2)) o10 n12 (upd f13 (x11).toNatClampNeg 0))) 2 (fun n => rfl) ?_
      obtain ⟨x14, e, hw⟩ := hw
      refine zT_st (pc' := 52) (L' := [some (.ref a0), some (.int a1), some (.int a2), some (.int a3)]) (st' := [.int x14, .ref a0]) (h' := (setA (setA (setA h o2 n4 (upd f5 (x3).toNatClampNeg a1)) o6 n8 (upd f9 (x7).toNatClampNeg a2)) o10 n12 (upd f13 (x11).toNatClampNeg 0))) 1 (fun n => fld_eq (E := E) e _) ?_
      refine zT_st (pc' := 54) (L' := [some (.ref a0), some (.int a1), some (.int a2), some (.int a3)]) (st' := [.int (x14 + 1), .ref a0]) (h' := (setA (setA (setA h o2 n4 (upd f5 (x3).toNatClampNeg a1)) o6 n8 (upd f9 (x7).toNatClampNeg a2)) o10 n12 (upd f13 (x11).toNatClampNeg 0))) 2 (fun n => rfl) ?_
      obtain ⟨⟨w, e⟩, hw⟩ := hw
      refine zT_st (pc' := 57) (L' := [some (.ref a0), some (.int a1), some (.int a2), some (.int a3)]) (st' := []) (h' := (setF (setA (setA (setA h o2 n4 (upd f5 (x3).toNatClampNeg a1)) o6 n8 (upd f9 (x7).toNatClampNeg a2)) o10 n12 (upd f13 (x11).toNatClampNeg 0)) a0 3 (.int (x14 + 1)))) 1 (fun n => put_eq e rfl _ _) ?_
      subst hw
      exact zT_ret 1 rfl
    · rw [if_neg hc] at hw
      refine zT_st (pc' := 41) (L' := [some (.ref a0), some (.int a1), some (.int a2), some (.int a3)]) (st' := [.int x11, .ref o10]) (h' := (setA (setA h o2 n4 (upd f5 (x3).toNatClampNeg a1)) o6 n8 (upd f9 (x7).toNatClampNeg a2))) 1 (fun n => if_neg hc) ?_
      refine zT_st (pc' := 46) (L' := [some (.ref a0), some (.int a1), some (.int a2), some (.int a3)]) (st' := [.int 1, .int x11, .ref o10]) (h' := (setA (setA h o2 n4 (upd f5 (x3).toNatClampNeg a1)) o6 n8 (upd f9 (x7).toNatClampNeg a2))) 2 (fun n => rfl) ?_
      obtain ⟨n15, f16, e, hi, hw⟩ := hw
      refine zT_st (pc' := 47) (L' := [some (.ref a0), some (.int a1), some (.int a2), some (.int a3)]) (st' := []) (h' := (setA (setA (setA h o2 n4 (upd f5 (x3).toNatClampNeg a1)) o6 n8 (upd f9 (x7).toNatClampNeg a2)) o10 n15 (upd f16 (x11).toNatClampNeg 1))) 1 (fun n => set_eq e hi _ _) ?_
      refine zT_st (pc' := 49) (L' := [some (.ref a0), some (.int a1), some (.int a2), some (.int a3)]) (st' := [.ref a0, .ref a0]) (h' := (setA (setA (setA h o2 n4 (upd f5 (x3).toNatClampNeg a1)) o6 n8 (upd f9 (x7).toNatClampNeg a2)) o10 n15 (upd f16 (x11).toNatClampNeg 1))) 2 (fun n => rfl) ?_
      obtain ⟨x17, e, hw⟩ := hw
      refine zT_st (pc' := 52) (L' := [some (.ref a0), some (.int a1), some (.int a2), some (.int a3)]) (st' := [.int x17, .ref a0]) (h' := (setA (setA (setA h o2 n4 (upd f5 (x3).toNatClampNeg a1)) o6 n8 (upd f9 (x7).toNatClampNeg a2)) o10 n15 (upd f16 (x11).toNatClampNeg 1))) 1 (fun n => fld_eq (E := E) e _) ?_
      refine zT_st (pc' := 54) (L' := [some (.ref a0), some (.int a1), some (.int a2), some (.int a3)]) (st' := [.int (x17 + 1), .ref a0]) (h' := (setA (setA (setA h o2 n4 (upd f5 (x3).toNatClampNeg a1)) o6 n8 (upd f9 (x7).toNatClampNeg a2)) o10 n15 (upd f16 (x11).toNatClampNeg 1))) 2 (fun n => rfl) ?_
      obtain ⟨⟨w, e⟩, hw⟩ := hw
      refine zT_st (pc' := 57) (L' := [some (.ref a0), some (.int a1), some (.int a2), some (.int a3)]) (st' := []) (h' := (setF (setA (setA (setA h o2 n4 (upd f5 (x3).toNatClampNeg a1)) o6 n8 (upd f9 (x7).toNatClampNeg a2)) o10 n15 (upd f16 (x11).toNatClampNeg 1)) a0 3 (.int (x17 + 1)))) 1 (fun n => put_eq e rfl _ _) ?_
      subst hw
      exact zT_ret 1 rfl
-- s_Downs_init_0: by hand
set_option maxRecDepth 4000 in
theorem s_Downs_passDay_0 (E : zX) (d : Nat) (a0 : Nat) (a1 : Nat) (h : zH) (r : zO × zH)
    (hw : ∃ o1 : Nat, fld h a0 2 1 = some (.ref o1) ∧
    ∃ (n2 : Nat) (f3 : Nat → Int32), arr h o1 = some (n2, f3) ∧ ¬ ((1 : Int32) < 0 ∨ n2 ≤ ((1 : Int32)).toNatClampNeg) ∧
    ∃ o4 : Nat, fld (setA h o1 n2 (upd f3 ((1 : Int32)).toNatClampNeg 0)) a0 2 1 = some (.ref o4) ∧
    ∃ (n5 : Nat) (f6 : Nat → Int32), arr (setA h o1 n2 (upd f3 ((1 : Int32)).toNatClampNeg 0)) o4 = some (n5, f6) ∧ ¬ ((2 : Int32) < 0 ∨ n5 ≤ ((2 : Int32)).toNatClampNeg) ∧
    zT E (d + 1) m_Downs_passDay 16 [some (.ref a0), some (.ref a1), some (.int 0)] [] (setA (setA h o1 n2 (upd f3 ((1 : Int32)).toNatClampNeg 0)) o4 n5 (upd f6 ((2 : Int32)).toNatClampNeg 0)) r) :
    zT E (d + 1) m_Downs_passDay 0 [some (.ref a0), some (.ref a1), none] [] h r := by
  refine zT_st (pc' := 1) (L' := [some (.ref a0), some (.ref a1), none]) (st' := [.ref a0]) (h' := h) 1 (fun n => rfl) ?_
  obtain ⟨o1, e, hw⟩ := hw
  refine zT_st (pc' := 4) (L' := [some (.ref a0), some (.ref a1), none]) (st' := [.ref o1]) (h' := h) 1 (fun n => fld_eq (E := E) e _) ?_
  refine zT_st (pc' := 6) (L' := [some (.ref a0), some (.ref a1), none]) (st' := [.int 0, .int 1, .ref o1]) (h' := h) 2 (fun n => rfl) ?_
  obtain ⟨n2, f3, e, hi, hw⟩ := hw
  refine zT_st (pc' := 7) (L' := [some (.ref a0), some (.ref a1), none]) (st' := []) (h' := (setA h o1 n2 (upd f3 ((1 : Int32)).toNatClampNeg 0))) 1 (fun n => set_eq e hi _ _) ?_
  refine zT_st (pc' := 8) (L' := [some (.ref a0), some (.ref a1), none]) (st' := [.ref a0]) (h' := (setA h o1 n2 (upd f3 ((1 : Int32)).toNatClampNeg 0))) 1 (fun n => rfl) ?_
  obtain ⟨o4, e, hw⟩ := hw
  refine zT_st (pc' := 11) (L' := [some (.ref a0), some (.ref a1), none]) (st' := [.ref o4]) (h' := (setA h o1 n2 (upd f3 ((1 : Int32)).toNatClampNeg 0))) 1 (fun n => fld_eq (E := E) e _) ?_
  refine zT_st (pc' := 13) (L' := [some (.ref a0), some (.ref a1), none]) (st' := [.int 0, .int 2, .ref o4]) (h' := (setA h o1 n2 (upd f3 ((1 : Int32)).toNatClampNeg 0))) 2 (fun n => rfl) ?_
  obtain ⟨n5, f6, e, hi, hw⟩ := hw
  refine zT_st (pc' := 14) (L' := [some (.ref a0), some (.ref a1), none]) (st' := []) (h' := (setA (setA h o1 n2 (upd f3 ((1 : Int32)).toNatClampNeg 0)) o4 n5 (upd f6 ((2 : Int32)).toNatClampNeg 0))) 1 (fun n => set_eq e hi _ _) ?_
  exact zT_st 2 (fun n => rfl) hw
set_option maxRecDepth 4000 in
theorem s_Downs_passDay_16 (E : zX) (d : Nat) (a0 : Nat) (a1 : Nat) (a2 : Int32) (h : zH) (r : zO × zH)
    (hw : ∃ o1 : Nat, fld h a0 2 0 = some (.ref o1) ∧
    ∃ x2 : Int32, fld h o1 5 3 = some (.int x2) ∧
    if x2 ≤ a2 then (
      zT E (d + 1) m_Downs_passDay 41 [some (.ref a0), some (.ref a1), some (.int 0)] [] h r)
    else (
      isO h a0 2 = true ∧ ∃ (h4 : zH), zT E d m_Downs_livePersonsDay 0 [some (.ref a0), some (.ref a1), some (.int a2)] [] h (.inl none, h4) ∧
      zT E (d + 1) m_Downs_passDay 16 [some (.ref a0), some (.ref a1), some (.int (a2 + 1))] [] h4 r)) :
    zT E (d + 1) m_Downs_passDay 16 [some (.ref a0), some (.ref a1), some (.int a2)] [] h r := by
  refine zT_st (pc' := 18) (L' := [some (.ref a0), some (.ref a1), some (.int a2)]) (st' := [.ref a0, .int a2]) (h' := h) 2 (fun n => rfl) ?_
  obtain ⟨o1, e, hw⟩ := hw
  refine zT_st (pc' := 21) (L' := [some (.ref a0), some (.ref a1), some (.int a2)]) (st' := [.ref o1, .int a2]) (h' := h) 1 (fun n => fld_eq (E := E) e _) ?_
  obtain ⟨x2, e, hw⟩ := hw
  refine zT_st (pc' := 24) (L' := [some (.ref a0), some (.ref a1), some (.int a2)]) (st' := [.int x2, .int a2]) (h' := h) 1 (fun n => fld_eq (E := E) e _) ?_
  by_cases hc : x2 ≤ a2
  · rw [if_pos hc] at hw
    refine zT_st (pc' := 39) (L' := [some (.ref a0), some (.ref a1), some (.int a2)]) (st' := []) (h' := h) 1 (fun n => if_pos hc) ?_
    exact zT_st 2 (fun n => rfl) hw
  · rw [if_neg hc] at hw
    refine zT_st (pc' := 27) (L' := [some (.ref a0), some (.ref a1), some (.int a2)]) (st' := []) (h' := h) 1 (fun n => if_neg hc) ?_
    refine zT_st (pc' := 30) (L' := [some (.ref a0), some (.ref a1), some (.int a2)]) (st' := [.int a2, .ref a1, .ref a0]) (h' := h) 3 (fun n => rfl) ?_
    obtain ⟨hq, hw⟩ := hw
    obtain ⟨h4, hx, hw⟩ := hw
    refine zT_call (pc' := 33) (rest := []) 1 (fun n => rfl) hq hx ?_
    show zT E (d + 1) m_Downs_passDay 33 [some (.ref a0), some (.ref a1), some (.int a2)] [] h4 r
    exact zT_st 2 (fun n => rfl) hw
set_option maxRecDepth 4000 in
theorem s_Downs_passDay_41 (E : zX) (d : Nat) (a0 : Nat) (a1 : Nat) (a2 : Int32) (h : zH) (r : zO × zH)
    (hw : ∃ o1 : Nat, fld h a0 2 0 = some (.ref o1) ∧
    ∃ x2 : Int32, fld h o1 5 4 = some (.int x2) ∧
    if x2 ≤ a2 then (
      ∃ o3 : Nat, fld h a0 2 1 = some (.ref o3) ∧
      isO h a0 2 = true ∧ ∃ (x4 : Int32) (h5 : zH), zT E d m_Downs_ripe 0 [some (.ref a0), some (.ref a1), none, none] [] h (.inl (some (.int x4)), h5) ∧
      isO h5 a0 2 = true ∧ ∃ (x6 : Int32) (h7 : zH), zT E d m_Downs_burst 0 [some (.ref a0), some (.ref a1), some (.int x4), none, none] [] h5 (.inl (some (.int x6)), h7) ∧
      ∃ (n8 : Nat) (f9 : Nat → Int32), arr h7 o3 = some (n8, f9) ∧ ¬ ((0 : Int32) < 0 ∨ n8 ≤ ((0 : Int32)).toNatClampNeg) ∧
      isO (setA h7 o3 n8 (upd f9 ((0 : Int32)).toNatClampNeg x6)) a1 10 = true ∧ ∃ (h11 : zH), zT E d m_Scene_nextDay 0 [some (.ref a1)] [] (setA h7 o3 n8 (upd f9 ((0 : Int32)).toNatClampNeg x6)) (.inl none, h11) ∧
      r = (.inl (none), h11))
    else (
      isO h a1 10 = true ∧ ∃ (x12 : Int32) (h13 : zH), zT E d m_Scene_isWhite 0 [some (.ref a1), some (.int a2)] [] h (.inl (some (.int x12)), h13) ∧
      if x12 = 0 then (
        isO h13 a1 10 = true ∧ ∃ (h15 : zH), zT E d m_Scene_growOld 0 [some (.ref a1), some (.int a2)] [] h13 (.inl none, h15) ∧
        zT E (d + 1) m_Downs_passDay 41 [some (.ref a0), some (.ref a1), some (.int (a2 + 1))] [] h15 r)
      else (
        zT E (d + 1) m_Downs_passDay 41 [some (.ref a0), some (.ref a1), some (.int (a2 + 1))] [] h13 r))) :
    zT E (d + 1) m_Downs_passDay 41 [some (.ref a0), some (.ref a1), some (.int a2)] [] h r := by
  refine zT_st (pc' := 43) (L' := [some (.ref a0), some (.ref a1), some (.int a2)]) (st' := [.ref a0, .int a2]) (h' := h) 2 (fun n => rfl) ?_
  obtain ⟨o1, e, hw⟩ := hw
  refine zT_st (pc' := 46) (L' := [some (.ref a0), some (.ref a1), some (.int a2)]) (st' := [.ref o1, .int a2]) (h' := h) 1 (fun n => fld_eq (E := E) e _) ?_
  obtain ⟨x2, e, hw⟩ := hw
  refine zT_st (pc' := 49) (L' := [some (.ref a0), some (.ref a1), some (.int a2)]) (st' := [.int x2, .int a2]) (h' := h) 1 (fun n => fld_eq (E := E) e _) ?_
  by_cases hc : x2 ≤ a2
  · rw [if_pos hc] at hw
    refine zT_st (pc' := 71) (L' := [some (.ref a0), some (.ref a1), some (.int a2)]) (st' := []) (h' := h) 1 (fun n => if_pos hc) ?_
    refine zT_st (pc' := 72) (L' := [some (.ref a0), some (.ref a1), some (.int a2)]) (st' := [.ref a0]) (h' := h) 1 (fun n => rfl) ?_
    obtain ⟨o3, e, hw⟩ := hw
    refine zT_st (pc' := 75) (L' := [some (.ref a0), some (.ref a1), some (.int a2)]) (st' := [.ref o3]) (h' := h) 1 (fun n => fld_eq (E := E) e _) ?_
    refine zT_st (pc' := 80) (L' := [some (.ref a0), some (.ref a1), some (.int a2)]) (st' := [.ref a1, .ref a0, .ref a1, .ref a0, .int 0, .ref o3]) (h' := h) 5 (fun n => rfl) ?_
    obtain ⟨hq, hw⟩ := hw
    obtain ⟨x4, h5, hx, hw⟩ := hw
    refine zT_call (pc' := 83) (rest := [.ref a1, .ref a0, .int 0, .ref o3]) 1 (fun n => rfl) hq hx ?_
    show zT E (d + 1) m_Downs_passDay 83 [some (.ref a0), some (.ref a1), some (.int a2)] [.int x4, .ref a1, .ref a0, .int 0, .ref o3] h5 r
    obtain ⟨hq, hw⟩ := hw
    obtain ⟨x6, h7, hx, hw⟩ := hw
    refine zT_call (pc' := 86) (rest := [.int 0, .ref o3]) 1 (fun n => rfl) hq hx ?_
    show zT E (d + 1) m_Downs_passDay 86 [some (.ref a0), some (.ref a1), some (.int a2)] [.int x6, .int 0, .ref o3] h7 r
    obtain ⟨n8, f9, e, hi, hw⟩ := hw
    refine zT_st (pc' := 87) (L' := [some (.ref a0), some (.ref a1), some (.int a2)]) (st' := []) (h' := (setA h7 o3 n8 (upd f9 ((0 : Int32)).toNatClampNeg x6))) 1 (fun n => set_eq e hi _ _) ?_
    refine zT_st (pc' := 88) (L' := [some (.ref a0), some (.ref a1), some (.int a2)]) (st' := [.ref a1]) (h' := (setA h7 o3 n8 (upd f9 ((0 : Int32)).toNatClampNeg x6))) 1 (fun n => rfl) ?_
    obtain ⟨hq, hw⟩ := hw
    obtain ⟨h11, hx, hw⟩ := hw
    refine zT_call (pc' := 91) (rest := []) 1 (fun n => rfl) hq hx ?_
    show zT E (d + 1) m_Downs_passDay 91 [some (.ref a0), some (.ref a1), some (.int a2)] [] h11 r
    subst hw
    exact zT_ret 1 rfl
  · rw [if_neg hc] at hw
    refine zT_st (pc' := 52) (L' := [some (.ref a0), some (.ref a1), some (.int a2)]) (st' := []) (h' := h) 1 (fun n => if_neg hc) ?_
    refine zT_st (pc' := 54) (L' := [some (.ref a0), some (.ref a1), some (.int a2)]) (st' := [.int a2, .ref a1]) (h' := h) 2 (fun n => rfl) ?_
    obtain ⟨hq, hw⟩ := hw
    obtain ⟨x12, h13, hx, hw⟩ := hw
    refine zT_call (pc' := 57) (rest := []) 1 (fun n => rfl) hq hx ?_
    show zT E (d + 1) m_Downs_passDay 57 [some (.ref a0), some (.ref a1), some (.int a2)] [.int x12] h13 r
    by_cases hc : x12 = 0
    · rw [if_pos hc] at hw
      refine zT_st (pc' := 60) (L' := [some (.ref a0), some (.ref a1), some (.int a2)]) (st' := []) (h' := h13) 1 (fun n => if_pos hc) ?_
      refine zT_st (pc' := 62) (L' := [some (.ref a0), some (.ref a1), some (.int a2)]) (st' := [.int a2, .ref a1]) (h' := h13) 2 (fun n => rfl) ?_
      obtain ⟨hq, hw⟩ := hw
      obtain ⟨h15, hx, hw⟩ := hw
      refine zT_call (pc' := 65) (rest := []) 1 (fun n => rfl) hq hx ?_
      show zT E (d + 1) m_Downs_passDay 65 [some (.ref a0), some (.ref a1), some (.int a2)] [] h15 r
      exact zT_st 2 (fun n => rfl) hw
    · rw [if_neg hc] at hw
      refine zT_st (pc' := 65) (L' := [some (.ref a0), some (.ref a1), some (.int a2)]) (st' := []) (h' := h13) 1 (fun n => if_neg hc) ?_
      exact zT_st 2 (fun n => rfl) hw
set_option maxRecDepth 4000 in
theorem s_Downs_livePersonsDay_0 (E : zX) (d : Nat) (a0 : Nat) (a1 : Nat) (a2 : Int32) (h : zH) (r : zO × zH)
    (hw : isO h a1 10 = true ∧ ∃ (x1 : Int32) (h2 : zH), zT E d m_Scene_temperOf 0 [some (.ref a1), some (.int a2)] [] h (.inl (some (.int x1)), h2) ∧
    isO h2 a0 2 = true ∧ ∃ (x3 : Int32) (h4 : zH), zT E d m_Downs_riseOf 0 [some (.ref a0), some (.ref a1), some (.int a2)] [] h2 (.inl (some (.int x3)), h4) ∧
    isO h4 a1 10 = true ∧ ∃ (h6 : zH), zT E d m_Scene_setTemper 0 [some (.ref a1), some (.int a2), some (.int (x1 + x3))] [] h4 (.inl none, h6) ∧
    isO h6 a1 10 = true ∧ ∃ (x7 : Int32) (h8 : zH), zT E d m_Scene_temperOf 0 [some (.ref a1), some (.int a2)] [] h6 (.inl (some (.int x7)), h8) ∧
    if 20 ≤ x7 then (
      isO h8 a0 2 = true ∧ ∃ (x9 : Int32) (h10 : zH), zT E d m_Downs_goOut 0 [some (.ref a0), some (.ref a1), some (.int a2), none] [] h8 (.inl (some (.int x9)), h10) ∧
      if x9 = 0 then (
        isO h10 a1 10 = true ∧ ∃ (h12 : zH), zT E d m_Scene_shout 0 [some (.ref a1), some (.int a2)] [] h10 (.inl none, h12) ∧
        ∃ o13 : Nat, fld h12 a0 2 1 = some (.ref o13) ∧
        ∃ (n14 : Nat) (f15 : Nat → Int32), arr h12 o13 = some (n14, f15) ∧ ¬ ((2 : Int32) < 0 ∨ n14 ≤ ((2 : Int32)).toNatClampNeg) ∧
        ∃ (n16 : Nat) (f17 : Nat → Int32), arr h12 o13 = some (n16, f17) ∧ ¬ ((2 : Int32) < 0 ∨ n16 ≤ ((2 : Int32)).toNatClampNeg) ∧
        r = (.inl (none), (setA h12 o13 n16 (upd f17 ((2 : Int32)).toNatClampNeg ((f15 ((2 : Int32)).toNatClampNeg) ||| (1 <<< (a2 &&& 31)))))))
      else (
        ∃ o18 : Nat, fld h10 a0 2 1 = some (.ref o18) ∧
        ∃ (n19 : Nat) (f20 : Nat → Int32), arr h10 o18 = some (n19, f20) ∧ ¬ ((1 : Int32) < 0 ∨ n19 ≤ ((1 : Int32)).toNatClampNeg) ∧
        ∃ (n21 : Nat) (f22 : Nat → Int32), arr h10 o18 = some (n21, f22) ∧ ¬ ((1 : Int32) < 0 ∨ n21 ≤ ((1 : Int32)).toNatClampNeg) ∧
        r = (.inl (none), (setA h10 o18 n21 (upd f22 ((1 : Int32)).toNatClampNeg ((f20 ((1 : Int32)).toNatClampNeg) ||| (1 <<< (a2 &&& 31))))))))
    else (
      r = (.inl (none), h8))) :
    zT E (d + 1) m_Downs_livePersonsDay 0 [some (.ref a0), some (.ref a1), some (.int a2)] [] h r := by
  refine zT_st (pc' := 4) (L' := [some (.ref a0), some (.ref a1), some (.int a2)]) (st' := [.int a2, .ref a1, .int a2, .ref a1]) (h' := h) 4 (fun n => rfl) ?_
  obtain ⟨hq, hw⟩ := hw
  obtain ⟨x1, h2, hx, hw⟩ := hw
  refine zT_call (pc' := 7) (rest := [.int a2, .ref a1]) 1 (fun n => rfl) hq hx ?_
  show zT E (d + 1) m_Downs_livePersonsDay 7 [some (.ref a0), some (.ref a1), some (.int a2)] [.int x1, .int a2, .ref a1] h2 r
  refine zT_st (pc' := 10) (L' := [some (.ref a0), some (.ref a1), some (.int a2)]) (st' := [.int a2, .ref a1, .ref a0, .int x1, .int a2, .ref a1]) (h' := h2) 3 (fun n => rfl) ?_
  obtain ⟨hq, hw⟩ := hw
  obtain ⟨x3, h4, hx, hw⟩ := hw
  refine zT_call (pc' := 13) (rest := [.int x1, .int a2, .ref a1]) 1 (fun n => rfl) hq hx ?_
  show zT E (d + 1) m_Downs_livePersonsDay 13 [some (.ref a0), some (.ref a1), some (.int a2)] [.int x3, .int x1, .int a2, .ref a1] h4 r
  refine zT_st (pc' := 14) (L' := [some (.ref a0), some (.ref a1), some (.int a2)]) (st' := [.int (x1 + x3), .int a2, .ref a1]) (h' := h4) 1 (fun n => rfl) ?_
  obtain ⟨hq, hw⟩ := hw
  obtain ⟨h6, hx, hw⟩ := hw
  refine zT_call (pc' := 17) (rest := []) 1 (fun n => rfl) hq hx ?_
  show zT E (d + 1) m_Downs_livePersonsDay 17 [some (.ref a0), some (.ref a1), some (.int a2)] [] h6 r
  refine zT_st (pc' := 19) (L' := [some (.ref a0), some (.ref a1), some (.int a2)]) (st' := [.int a2, .ref a1]) (h' := h6) 2 (fun n => rfl) ?_
  obtain ⟨hq, hw⟩ := hw
  obtain ⟨x7, h8, hx, hw⟩ := hw
  refine zT_call (pc' := 22) (rest := []) 1 (fun n => rfl) hq hx ?_
  show zT E (d + 1) m_Downs_livePersonsDay 22 [some (.ref a0), some (.ref a1), some (.int a2)] [.int x7] h8 r
  refine zT_st (pc' := 24) (L' := [some (.ref a0), some (.ref a1), some (.int a2)]) (st' := [.int 20, .int x7]) (h' := h8) 1 (fun n => rfl) ?_
  by_cases hc : 20 ≤ x7
  · rw [if_pos hc] at hw
    refine zT_st (pc' := 28) (L' := [some (.ref a0), some (.ref a1), some (.int a2)]) (st' := []) (h' := h8) 1 (fun n => if_pos hc) ?_
    refine zT_st (pc' := 31) (L' := [some (.ref a0), some (.ref a1), some (.int a2)]) (st' := [.int a2, .ref a1, .ref a0]) (h' := h8) 3 (fun n => rfl) ?_
    obtain ⟨hq, hw⟩ := hw
    obtain ⟨x9, h10, hx, hw⟩ := hw
    refine zT_call (pc' := 34) (rest := []) 1 (fun n => rfl) hq hx ?_
    show zT E (d + 1) m_Downs_livePersonsDay 34 [some (.ref a0), some (.ref a1), some (.int a2)] [.int x9] h10 r
    by_cases hc : x9 = 0
    · rw [if_pos hc] at hw
      refine zT_st (pc' := 52) (L' := [some (.ref a0), some (.ref a1), some (.int a2)]) (st' := []) (h' := h10) 1 (fun n => if_pos hc) ?_
      refine zT_st (pc' := 54) (L' := [some (.ref a0), some (.ref a1), some (.int a2)]) (st' := [.int a2, .ref a1]) (h' := h10) 2 (fun n => rfl) ?_
      obtain ⟨hq, hw⟩ := hw
      obtain ⟨h12, hx, hw⟩ := hw
      refine zT_call (pc' := 57) (rest := []) 1 (fun n => rfl) hq hx ?_
      show zT E (d + 1) m_Downs_livePersonsDay 57 [some (.ref a0), some (.ref a1), some (.int a2)] [] h12 r
      refine zT_st (pc' := 58) (L' := [some (.ref a0), some (.ref a1), some (.int a2)]) (st' := [.ref a0]) (h' := h12) 1 (fun n => rfl) ?_
      obtain ⟨o13, e, hw⟩ := hw
      refine zT_st (pc' := 61) (L' := [some (.ref a0), some (.ref a1), some (.int a2)]) (st' := [.ref o13]) (h' := h12) 1 (fun n => fld_eq (E := E) e _) ?_
      refine zT_st (pc' := 63) (L' := [some (.ref a0), some (.ref a1), some (.int a2)]) (st' := [.int 2, .ref o13, .int 2, .ref o13]) (h' := h12) 2 (fun n => rfl) ?_
      obtain ⟨n14, f15, e, hi, hw⟩ := hw
      refine zT_st (pc' := 64) (L' := [some (.ref a0), some (.ref a1), some (.int a2)]) (st' := [.int (f15 ((2 : Int32)).toNatClampNeg), .int 2, .ref o13]) (h' := h12) 1 (fun n => arr_eq (E := E) e hi [.int 2, .ref o13] (fun st => zrun zP zCd E n (d + 1) m_Downs_livePersonsDay 64 [some (.ref a0), some (.ref a1), some (.int a2)] st h12)) ?_
      refine zT_st (pc' := 68) (L' := [some (.ref a0), some (.ref a1), some (.int a2)]) (st' := [.int ((f15 ((2 : Int32)).toNatClampNeg) ||| (1 <<< (a2 &&& 31))), .int 2, .ref o13]) (h' := h12) 4 (fun n => rfl) ?_
      obtain ⟨n16, f17, e, hi, hw⟩ := hw
      refine zT_st (pc' := 69) (L' := [some (.ref a0), some (.ref a1), some (.int a2)]) (st' := []) (h' := (setA h12 o13 n16 (upd f17 ((2 : Int32)).toNatClampNeg ((f15 ((2 : Int32)).toNatClampNeg) ||| (1 <<< (a2 &&& 31)))))) 1 (fun n => set_eq e hi _ _) ?_
      subst hw
      exact zT_ret 1 rfl
    · rw [if_neg hc] at hw
      refine zT_st (pc' := 37) (L' := [some (.ref a0), some (.ref a1), some (.int a2)]) (st' := []) (h' := h10) 1 (fun n => if_neg hc) ?_
      refine zT_st (pc' := 38) (L' := [some (.ref a0), some (.ref a1), some (.int a2)]) (st' := [.ref a0]) (h' := h10) 1 (fun n => rfl) ?_
      obtain ⟨o18, e, hw⟩ := hw
      refine zT_st (pc' := 41) (L' := [some (.ref a0), some (.ref a1), some (.int a2)]) (st' := [.ref o18]) (h' := h10) 1 (fun n => fld_eq (E := E) e _) ?_
      refine zT_st (pc' := 43) (L' := [some (.ref a0), some (.ref a1), some (.int a2)]) (st' := [.int 1, .ref o18, .int 1, .ref o18]) (h' := h10) 2 (fun n => rfl) ?_
      obtain ⟨n19, f20, e, hi, hw⟩ := hw
      refine zT_st (pc' := 44) (L' := [some (.ref a0), some (.ref a1), some (.int a2)]) (st' := [.int (f20 ((1 : Int32)).toNatClampNeg), .int 1, .ref o18]) (h' := h10) 1 (fun n => arr_eq (E := E) e hi [.int 1, .ref o18] (fun st => zrun zP zCd E n (d + 1) m_Downs_livePersonsDay 44 [some (.ref a0), some (.ref a1), some (.int a2)] st h10)) ?_
      refine zT_st (pc' := 48) (L' := [some (.ref a0), some (.ref a1), some (.int a2)]) (st' := [.int ((f20 ((1 : Int32)).toNatClampNeg) ||| (1 <<< (a2 &&& 31))), .int 1, .ref o18]) (h' := h10) 4 (fun n => rfl) ?_
      obtain ⟨n21, f22, e, hi, hw⟩ := hw
      refine zT_st (pc' := 49) (L' := [some (.ref a0), some (.ref a1), some (.int a2)]) (st' := []) (h' := (setA h10 o18 n21 (upd f22 ((1 : Int32)).toNatClampNeg ((f20 ((1 : Int32)).toNatClampNeg) ||| (1 <<< (a2 &&& 31)))))) 1 (fun n => set_eq e hi _ _) ?_
      subst hw
      exact zT_ret 2 rfl
  · rw [if_neg hc] at hw
    refine zT_st (pc' := 27) (L' := [some (.ref a0), some (.ref a1), some (.int a2)]) (st' := []) (h' := h8) 1 (fun n => if_neg hc) ?_
    subst hw
    exact zT_ret 1 rfl
set_option maxRecDepth 4000 in
theorem s_Downs_riseOf_0 (E : zX) (d : Nat) (a0 : Nat) (a1 : Nat) (a2 : Int32) (h : zH) (r : zO × zH)
    (hw : ∃ o1 : Nat, fld h a0 2 0 = some (.ref o1) ∧
    ∃ o2 : Nat, fld h o1 5 7 = some (.ref o2) ∧
    isO h o2 9 = true ∧ ∃ (x3 : Int32) (h4 : zH), zT E d m_Rule_isTold 0 [some (.ref o2)] [] h (.inl (some (.int x3)), h4) ∧
    if x3 = 0 then (
      isO h4 a1 10 = true ∧ ∃ (x5 : Int32) (h6 : zH), zT E d m_Scene_mildOf 0 [some (.ref a1), some (.int a2)] [] h4 (.inl (some (.int x5)), h6) ∧
      r = (.inl (some (.int (10 - x5))), h6))
    else (
      ∃ o7 : Nat, fld h4 a0 2 3 = some (.ref o7) ∧
      isO h4 a1 10 = true ∧ ∃ (x8 : Int32) (h9 : zH), zT E d m_Scene_mildOf 0 [some (.ref a1), some (.int a2)] [] h4 (.inl (some (.int x8)), h9) ∧
      ∃ (n10 : Nat) (f11 : Nat → Int32), arr h9 o7 = some (n10, f11) ∧ ¬ ((0 : Int32) < 0 ∨ n10 ≤ ((0 : Int32)).toNatClampNeg) ∧
      ∃ o12 : Nat, fld (setA h9 o7 n10 (upd f11 ((0 : Int32)).toNatClampNeg x8)) a0 2 3 = some (.ref o12) ∧
      isO (setA h9 o7 n10 (upd f11 ((0 : Int32)).toNatClampNeg x8)) a1 10 = true ∧ ∃ (x13 : Int32) (h14 : zH), zT E d m_Scene_temperOf 0 [some (.ref a1), some (.int a2)] [] (setA h9 o7 n10 (upd f11 ((0 : Int32)).toNatClampNeg x8)) (.inl (some (.int x13)), h14) ∧
      ∃ (n15 : Nat) (f16 : Nat → Int32), arr h14 o12 = some (n15, f16) ∧ ¬ ((1 : Int32) < 0 ∨ n15 ≤ ((1 : Int32)).toNatClampNeg) ∧
      ∃ o17 : Nat, fld (setA h14 o12 n15 (upd f16 ((1 : Int32)).toNatClampNeg x13)) a0 2 3 = some (.ref o17) ∧
      isO (setA h14 o12 n15 (upd f16 ((1 : Int32)).toNatClampNeg x13)) a1 10 = true ∧ ∃ (x18 : Int32) (h19 : zH), zT E d m_Scene_shoutedBy 0 [some (.ref a1), some (.int a2)] [] (setA h14 o12 n15 (upd f16 ((1 : Int32)).toNatClampNeg x13)) (.inl (some (.int x18)), h19) ∧
      ∃ (n20 : Nat) (f21 : Nat → Int32), arr h19 o17 = some (n20, f21) ∧ ¬ ((2 : Int32) < 0 ∨ n20 ≤ ((2 : Int32)).toNatClampNeg) ∧
      ∃ o22 : Nat, fld (setA h19 o17 n20 (upd f21 ((2 : Int32)).toNatClampNeg x18)) a0 2 3 = some (.ref o22) ∧
      isO (setA h19 o17 n20 (upd f21 ((2 : Int32)).toNatClampNeg x18)) a1 10 = true ∧ ∃ (x23 : Int32) (h24 : zH), zT E d m_Scene_heardBy 0 [some (.ref a1), some (.int a2)] [] (setA h19 o17 n20 (upd f21 ((2 : Int32)).toNatClampNeg x18)) (.inl (some (.int x23)), h24) ∧
      ∃ (n25 : Nat) (f26 : Nat → Int32), arr h24 o22 = some (n25, f26) ∧ ¬ ((3 : Int32) < 0 ∨ n25 ≤ ((3 : Int32)).toNatClampNeg) ∧
      ∃ o27 : Nat, fld (setA h24 o22 n25 (upd f26 ((3 : Int32)).toNatClampNeg x23)) a0 2 3 = some (.ref o27) ∧
      isO (setA h24 o22 n25 (upd f26 ((3 : Int32)).toNatClampNeg x23)) a1 10 = true ∧ ∃ (x28 : Int32) (h29 : zH), zT E d m_Scene_day 0 [some (.ref a1)] [] (setA h24 o22 n25 (upd f26 ((3 : Int32)).toNatClampNeg x23)) (.inl (some (.int x28)), h29) ∧
      ∃ (n30 : Nat) (f31 : Nat → Int32), arr h29 o27 = some (n30, f31) ∧ ¬ ((4 : Int32) < 0 ∨ n30 ≤ ((4 : Int32)).toNatClampNeg) ∧
      ∃ o32 : Nat, fld (setA h29 o27 n30 (upd f31 ((4 : Int32)).toNatClampNeg x28)) a0 2 0 = some (.ref o32) ∧
      ∃ o33 : Nat, fld (setA h29 o27 n30 (upd f31 ((4 : Int32)).toNatClampNeg x28)) o32 5 7 = some (.ref o33) ∧
      ∃ o34 : Nat, fld (setA h29 o27 n30 (upd f31 ((4 : Int32)).toNatClampNeg x28)) a0 2 3 = some (.ref o34) ∧
      ∃ o35 : Nat, fld (setA h29 o27 n30 (upd f31 ((4 : Int32)).toNatClampNeg x28)) a0 2 4 = some (.ref o35) ∧
      isO (setA h29 o27 n30 (upd f31 ((4 : Int32)).toNatClampNeg x28)) o33 9 = true ∧ ∃ (x36 : Int32) (h37 : zH), zT E d m_Rule_worth 0 [some (.ref o33), some (.ref o34), some (.ref o35), none, none, none] [] (setA h29 o27 n30 (upd f31 ((4 : Int32)).toNatClampNeg x28)) (.inl (some (.int x36)), h37) ∧
      r = (.inl (some (.int (zmax 0 (zmin 20 x36)))), h37))) :
    zT E (d + 1) m_Downs_riseOf 0 [some (.ref a0), some (.ref a1), some (.int a2)] [] h r := by
  refine zT_st (pc' := 1) (L' := [some (.ref a0), some (.ref a1), some (.int a2)]) (st' := [.ref a0]) (h' := h) 1 (fun n => rfl) ?_
  obtain ⟨o1, e, hw⟩ := hw
  refine zT_st (pc' := 4) (L' := [some (.ref a0), some (.ref a1), some (.int a2)]) (st' := [.ref o1]) (h' := h) 1 (fun n => fld_eq (E := E) e _) ?_
  obtain ⟨o2, e, hw⟩ := hw
  refine zT_st (pc' := 7) (L' := [some (.ref a0), some (.ref a1), some (.int a2)]) (st' := [.ref o2]) (h' := h) 1 (fun n => fld_eq (E := E) e _) ?_
  obtain ⟨hq, hw⟩ := hw
  obtain ⟨x3, h4, hx, hw⟩ := hw
  refine zT_call (pc' := 10) (rest := []) 1 (fun n => rfl) hq hx ?_
  show zT E (d + 1) m_Downs_riseOf 10 [some (.ref a0), some (.ref a1), some (.int a2)] [.int x3] h4 r
  by_cases hc : x3 = 0
  · rw [if_pos hc] at hw
    refine zT_st (pc' := 13) (L' := [some (.ref a0), some (.ref a1), some (.int a2)]) (st' := []) (h' := h4) 1 (fun n => if_pos hc) ?_
    refine zT_st (pc' := 17) (L' := [some (.ref a0), some (.ref a1), some (.int a2)]) (st' := [.int a2, .ref a1, .int 10]) (h' := h4) 3 (fun n => rfl) ?_
    obtain ⟨hq, hw⟩ := hw
    obtain ⟨x5, h6, hx, hw⟩ := hw
    refine zT_call (pc' := 20) (rest := [.int 10]) 1 (fun n => rfl) hq hx ?_
    show zT E (d + 1) m_Downs_riseOf 20 [some (.ref a0), some (.ref a1), some (.int a2)] [.int x5, .int 10] h6 r
    subst hw
    exact zT_ret 2 rfl
  · rw [if_neg hc] at hw
    refine zT_st (pc' := 22) (L' := [some (.ref a0), some (.ref a1), some (.int a2)]) (st' := []) (h' := h4) 1 (fun n => if_neg hc) ?_
    refine zT_st (pc' := 23) (L' := [some (.ref a0), some (.ref a1), some (.int a2)]) (st' := [.ref a0]) (h' := h4) 1 (fun n => rfl) ?_
    obtain ⟨o7, e, hw⟩ := hw
    refine zT_st (pc' := 26) (L' := [some (.ref a0), some (.ref a1), some (.int a2)]) (st' := [.ref o7]) (h' := h4) 1 (fun n => fld_eq (E := E) e _) ?_
    refine zT_st (pc' := 29) (L' := [some (.ref a0), some (.ref a1), some (.int a2)]) (st' := [.int a2, .ref a1, .int 0, .ref o7]) (h' := h4) 3 (fun n => rfl) ?_
    obtain ⟨hq, hw⟩ := hw
    obtain ⟨x8, h9, hx, hw⟩ := hw
    refine zT_call (pc' := 32) (rest := [.int 0, .ref o7]) 1 (fun n => rfl) hq hx ?_
    show zT E (d + 1) m_Downs_riseOf 32 [some (.ref a0), some (.ref a1), some (.int a2)] [.int x8, .int 0, .ref o7] h9 r
    obtain ⟨n10, f11, e, hi, hw⟩ := hw
    refine zT_st (pc' := 33) (L' := [some (.ref a0), some (.ref a1), some (.int a2)]) (st' := []) (h' := (setA h9 o7 n10 (upd f11 ((0 : Int32)).toNatClampNeg x8))) 1 (fun n => set_eq e hi _ _) ?_
    refine zT_st (pc' := 34) (L' := [some (.ref a0), some (.ref a1), some (.int a2)]) (st' := [.ref a0]) (h' := (setA h9 o7 n10 (upd f11 ((0 : Int32)).toNatClampNeg x8))) 1 (fun n => rfl) ?_
    obtain ⟨o12, e, hw⟩ := hw
    refine zT_st (pc' := 37) (L' := [some (.ref a0), some (.ref a1), some (.int a2)]) (st' := [.ref o12]) (h' := (setA h9 o7 n10 (upd f11 ((0 : Int32)).toNatClampNeg x8))) 1 (fun n => fld_eq (E := E) e _) ?_
    refine zT_st (pc' := 40) (L' := [some (.ref a0), some (.ref a1), some (.int a2)]) (st' := [.int a2, .ref a1, .int 1, .ref o12]) (h' := (setA h9 o7 n10 (upd f11 ((0 : Int32)).toNatClampNeg x8))) 3 (fun n => rfl) ?_
    obtain ⟨hq, hw⟩ := hw
    obtain ⟨x13, h14, hx, hw⟩ := hw
    refine zT_call (pc' := 43) (rest := [.int 1, .ref o12]) 1 (fun n => rfl) hq hx ?_
    show zT E (d + 1) m_Downs_riseOf 43 [some (.ref a0), some (.ref a1), some (.int a2)] [.int x13, .int 1, .ref o12] h14 r
    obtain ⟨n15, f16, e, hi, hw⟩ := hw
    refine zT_st (pc' := 44) (L' := [some (.ref a0), some (.ref a1), some (.int a2)]) (st' := []) (h' := (setA h14 o12 n15 (upd f16 ((1 : Int32)).toNatClampNeg x13))) 1 (fun n => set_eq e hi _ _) ?_
    refine zT_st (pc' := 45) (L' := [some (.ref a0), some (.ref a1), some (.int a2)]) (st' := [.ref a0]) (h' := (setA h14 o12 n15 (upd f16 ((1 : Int32)).toNatClampNeg x13))) 1 (fun n => rfl) ?_
    obtain ⟨o17, e, hw⟩ := hw
    refine zT_st (pc' := 48) (L' := [some (.ref a0), some (.ref a1), some (.int a2)]) (st' := [.ref o17]) (h' := (setA h14 o12 n15 (upd f16 ((1 : Int32)).toNatClampNeg x13))) 1 (fun n => fld_eq (E := E) e _) ?_
    refine zT_st (pc' := 51) (L' := [some (.ref a0), some (.ref a1), some (.int a2)]) (st' := [.int a2, .ref a1, .int 2, .ref o17]) (h' := (setA h14 o12 n15 (upd f16 ((1 : Int32)).toNatClampNeg x13))) 3 (fun n => rfl) ?_
    obtain ⟨hq, hw⟩ := hw
    obtain ⟨x18, h19, hx, hw⟩ := hw
    refine zT_call (pc' := 54) (rest := [.int 2, .ref o17]) 1 (fun n => rfl) hq hx ?_
    show zT E (d + 1) m_Downs_riseOf 54 [some (.ref a0), some (.ref a1), some (.int a2)] [.int x18, .int 2, .ref o17] h19 r
    obtain ⟨n20, f21, e, hi, hw⟩ := hw
    refine zT_st (pc' := 55) (L' := [some (.ref a0), some (.ref a1), some (.int a2)]) (st' := []) (h' := (setA h19 o17 n20 (upd f21 ((2 : Int32)).toNatClampNeg x18))) 1 (fun n => set_eq e hi _ _) ?_
    refine zT_st (pc' := 56) (L' := [some (.ref a0), some (.ref a1), some (.int a2)]) (st' := [.ref a0]) (h' := (setA h19 o17 n20 (upd f21 ((2 : Int32)).toNatClampNeg x18))) 1 (fun n => rfl) ?_
    obtain ⟨o22, e, hw⟩ := hw
    refine zT_st (pc' := 59) (L' := [some (.ref a0), some (.ref a1), some (.int a2)]) (st' := [.ref o22]) (h' := (setA h19 o17 n20 (upd f21 ((2 : Int32)).toNatClampNeg x18))) 1 (fun n => fld_eq (E := E) e _) ?_
    refine zT_st (pc' := 62) (L' := [some (.ref a0), some (.ref a1), some (.int a2)]) (st' := [.int a2, .ref a1, .int 3, .ref o22]) (h' := (setA h19 o17 n20 (upd f21 ((2 : Int32)).toNatClampNeg x18))) 3 (fun n => rfl) ?_
    obtain ⟨hq, hw⟩ := hw
    obtain ⟨x23, h24, hx, hw⟩ := hw
    refine zT_call (pc' := 65) (rest := [.int 3, .ref o22]) 1 (fun n => rfl) hq hx ?_
    show zT E (d + 1) m_Downs_riseOf 65 [some (.ref a0), some (.ref a1), some (.int a2)] [.int x23, .int 3, .ref o22] h24 r
    obtain ⟨n25, f26, e, hi, hw⟩ := hw
    refine zT_st (pc' := 66) (L' := [some (.ref a0), some (.ref a1), some (.int a2)]) (st' := []) (h' := (setA h24 o22 n25 (upd f26 ((3 : Int32)).toNatClampNeg x23))) 1 (fun n => set_eq e hi _ _) ?_
    refine zT_st (pc' := 67) (L' := [some (.ref a0), some (.ref a1), some (.int a2)]) (st' := [.ref a0]) (h' := (setA h24 o22 n25 (upd f26 ((3 : Int32)).toNatClampNeg x23))) 1 (fun n => rfl) ?_
    obtain ⟨o27, e, hw⟩ := hw
    refine zT_st (pc' := 70) (L' := [some (.ref a0), some (.ref a1), some (.int a2)]) (st' := [.ref o27]) (h' := (setA h24 o22 n25 (upd f26 ((3 : Int32)).toNatClampNeg x23))) 1 (fun n => fld_eq (E := E) e _) ?_
    refine zT_st (pc' := 72) (L' := [some (.ref a0), some (.ref a1), some (.int a2)]) (st' := [.ref a1, .int 4, .ref o27]) (h' := (setA h24 o22 n25 (upd f26 ((3 : Int32)).toNatClampNeg x23))) 2 (fun n => rfl) ?_
    obtain ⟨hq, hw⟩ := hw
    obtain ⟨x28, h29, hx, hw⟩ := hw
    refine zT_call (pc' := 75) (rest := [.int 4, .ref o27]) 1 (fun n => rfl) hq hx ?_
    show zT E (d + 1) m_Downs_riseOf 75 [some (.ref a0), some (.ref a1), some (.int a2)] [.int x28, .int 4, .ref o27] h29 r
    obtain ⟨n30, f31, e, hi, hw⟩ := hw
    refine zT_st (pc' := 76) (L' := [some (.ref a0), some (.ref a1), some (.int a2)]) (st' := []) (h' := (setA h29 o27 n30 (upd f31 ((4 : Int32)).toNatClampNeg x28))) 1 (fun n => set_eq e hi _ _) ?_
    refine zT_st (pc' := 80) (L' := [some (.ref a0), some (.ref a1), some (.int a2)]) (st' := [.ref a0, .int 20, .int 0]) (h' := (setA h29 o27 n30 (upd f31 ((4 : Int32)).toNatClampNeg x28))) 3 (fun n => rfl) ?_
    obtain ⟨o32, e, hw⟩ := hw
    refine zT_st (pc' := 83) (L' := [some (.ref a0), some (.ref a1), some (.int a2)]) (st' := [.ref o32, .int 20, .int 0]) (h' := (setA h29 o27 n30 (upd f31 ((4 : Int32)).toNatClampNeg x28))) 1 (fun n => fld_eq (E := E) e _) ?_
    obtain ⟨o33, e, hw⟩ := hw
    refine zT_st (pc' := 86) (L' := [some (.ref a0), some (.ref a1), some (.int a2)]) (st' := [.ref o33, .int 20, .int 0]) (h' := (setA h29 o27 n30 (upd f31 ((4 : Int32)).toNatClampNeg x28))) 1 (fun n => fld_eq (E := E) e _) ?_
    refine zT_st (pc' := 87) (L' := [some (.ref a0), some (.ref a1), some (.int a2)]) (st' := [.ref a0, .ref o33, .int 20, .int 0]) (h' := (setA h29 o27 n30 (upd f31 ((4 : Int32)).toNatClampNeg x28))) 1 (fun n => rfl) ?_
    obtain ⟨o34, e, hw⟩ := hw
    refine zT_st (pc' := 90) (L' := [some (.ref a0), some (.ref a1), some (.int a2)]) (st' := [.ref o34, .ref o33, .int 20, .int 0]) (h' := (setA h29 o27 n30 (upd f31 ((4 : Int32)).toNatClampNeg x28))) 1 (fun n => fld_eq (E := E) e _) ?_
    refine zT_st (pc' := 91) (L' := [some (.ref a0), some (.ref a1), some (.int a2)]) (st' := [.ref a0, .ref o34, .ref o33, .int 20, .int 0]) (h' := (setA h29 o27 n30 (upd f31 ((4 : Int32)).toNatClampNeg x28))) 1 (fun n => rfl) ?_
    obtain ⟨o35, e, hw⟩ := hw
    refine zT_st (pc' := 94) (L' := [some (.ref a0), some (.ref a1), some (.int a2)]) (st' := [.ref o35, .ref o34, .ref o33, .int 20, .int 0]) (h' := (setA h29 o27 n30 (upd f31 ((4 : Int32)).toNatClampNeg x28))) 1 (fun n => fld_eq (E := E) e _) ?_
    obtain ⟨hq, hw⟩ := hw
    obtain ⟨x36, h37, hx, hw⟩ := hw
    refine zT_call (pc' := 97) (rest := [.int 20, .int 0]) 1 (fun n => rfl) hq hx ?_
    show zT E (d + 1) m_Downs_riseOf 97 [some (.ref a0), some (.ref a1), some (.int a2)] [.int x36, .int 20, .int 0] h37 r
    subst hw
    exact zT_ret 3 rfl
set_option maxRecDepth 4000 in
theorem s_Downs_goOut_0 (E : zX) (d : Nat) (a0 : Nat) (a1 : Nat) (a2 : Int32) (h : zH) (r : zO × zH)
    (hw : isO h a0 2 = true ∧ ∃ (x1 : Int32) (h2 : zH), zT E d m_Downs_nearestWhite 0 [some (.ref a0), some (.ref a1), some (.int a2), none, none, none, none] [] h (.inl (some (.int x1)), h2) ∧
    if x1 = (-1) then (
      r = (.inl (some (.int 0)), h2))
    else (
      isO h2 a1 10 = true ∧ ∃ (x3 : Int32) (h4 : zH), zT E d m_Scene_temperOf 0 [some (.ref a1), some (.int a2)] [] h2 (.inl (some (.int x3)), h4) ∧
      isO h4 a1 10 = true ∧ ∃ (h6 : zH), zT E d m_Scene_fill 0 [some (.ref a1), some (.int x1), some (.int x3), some (.int a2)] [] h4 (.inl none, h6) ∧
      isO h6 a1 10 = true ∧ ∃ (h8 : zH), zT E d m_Scene_setTemper 0 [some (.ref a1), some (.int a2), some (.int 0)] [] h6 (.inl none, h8) ∧
      r = (.inl (some (.int 1)), h8))) :
    zT E (d + 1) m_Downs_goOut 0 [some (.ref a0), some (.ref a1), some (.int a2), none] [] h r := by
  refine zT_st (pc' := 3) (L' := [some (.ref a0), some (.ref a1), some (.int a2), none]) (st' := [.int a2, .ref a1, .ref a0]) (h' := h) 3 (fun n => rfl) ?_
  obtain ⟨hq, hw⟩ := hw
  obtain ⟨x1, h2, hx, hw⟩ := hw
  refine zT_call (pc' := 6) (rest := []) 1 (fun n => rfl) hq hx ?_
  show zT E (d + 1) m_Downs_goOut 6 [some (.ref a0), some (.ref a1), some (.int a2), none] [.int x1] h2 r
  refine zT_st (pc' := 9) (L' := [some (.ref a0), some (.ref a1), some (.int a2), some (.int x1)]) (st' := [.int (-1), .int x1]) (h' := h2) 3 (fun n => rfl) ?_
  by_cases hc : x1 = (-1)
  · rw [if_pos hc] at hw
    refine zT_st (pc' := 12) (L' := [some (.ref a0), some (.ref a1), some (.int a2), some (.int x1)]) (st' := []) (h' := h2) 1 (fun n => if_pos hc) ?_
    subst hw
    exact zT_ret 2 rfl
  · rw [if_neg hc] at hw
    refine zT_st (pc' := 14) (L' := [some (.ref a0), some (.ref a1), some (.int a2), some (.int x1)]) (st' := []) (h' := h2) 1 (fun n => if_neg hc) ?_
    refine zT_st (pc' := 18) (L' := [some (.ref a0), some (.ref a1), some (.int a2), some (.int x1)]) (st' := [.int a2, .ref a1, .int x1, .ref a1]) (h' := h2) 4 (fun n => rfl) ?_
    obtain ⟨hq, hw⟩ := hw
    obtain ⟨x3, h4, hx, hw⟩ := hw
    refine zT_call (pc' := 21) (rest := [.int x1, .ref a1]) 1 (fun n => rfl) hq hx ?_
    show zT E (d + 1) m_Downs_goOut 21 [some (.ref a0), some (.ref a1), some (.int a2), some (.int x1)] [.int x3, .int x1, .ref a1] h4 r
    refine zT_st (pc' := 22) (L' := [some (.ref a0), some (.ref a1), some (.int a2), some (.int x1)]) (st' := [.int a2, .int x3, .int x1, .ref a1]) (h' := h4) 1 (fun n => rfl) ?_
    obtain ⟨hq, hw⟩ := hw
    obtain ⟨h6, hx, hw⟩ := hw
    refine zT_call (pc' := 25) (rest := []) 1 (fun n => rfl) hq hx ?_
    show zT E (d + 1) m_Downs_goOut 25 [some (.ref a0), some (.ref a1), some (.int a2), some (.int x1)] [] h6 r
    refine zT_st (pc' := 28) (L' := [some (.ref a0), some (.ref a1), some (.int a2), some (.int x1)]) (st' := [.int 0, .int a2, .ref a1]) (h' := h6) 3 (fun n => rfl) ?_
    obtain ⟨hq, hw⟩ := hw
    obtain ⟨h8, hx, hw⟩ := hw
    refine zT_call (pc' := 31) (rest := []) 1 (fun n => rfl) hq hx ?_
    show zT E (d + 1) m_Downs_goOut 31 [some (.ref a0), some (.ref a1), some (.int a2), some (.int x1)] [] h8 r
    subst hw
    exact zT_ret 2 rfl
set_option maxRecDepth 4000 in
theorem s_Downs_nearestWhite_0 (E : zX) (d : Nat) (a0 : Nat) (a1 : Nat) (a2 : Int32) (h : zH) (r : zO × zH)
    (hw : zT E (d + 1) m_Downs_nearestWhite 8 [some (.ref a0), some (.ref a1), some (.int a2), some (.int (-1)), some (.int 0), some (.int 0), none] [] h r) :
    zT E (d + 1) m_Downs_nearestWhite 0 [some (.ref a0), some (.ref a1), some (.int a2), none, none, none, none] [] h r := by
  exact zT_st 6 (fun n => rfl) hw
set_option maxRecDepth 4000 in
theorem s_Downs_nearestWhite_8 (E : zX) (d : Nat) (a0 : Nat) (a1 : Nat) (a2 : Int32) (a3 : Int32) (a4 : Int32) (a5 : Int32) (j6 : Option Value) (h : zH) (r : zO × zH)
    (hw : ∃ o1 : Nat, fld h a0 2 0 = some (.ref o1) ∧
    ∃ x2 : Int32, fld h o1 5 4 = some (.int x2) ∧
    if x2 ≤ a5 then (
      r = (.inl (some (.int a3)), h))
    else (
      isO h a1 10 = true ∧ ∃ (x3 : Int32) (h4 : zH), zT E d m_Scene_isWhite 0 [some (.ref a1), some (.int a5)] [] h (.inl (some (.int x3)), h4) ∧
      if x3 = 0 then (
        zT E (d + 1) m_Downs_nearestWhite 8 [some (.ref a0), some (.ref a1), some (.int a2), some (.int a3), some (.int a4), some (.int (a5 + 1)), j6] [] h4 r)
      else (
        ∃ o5 : Nat, fld h4 a0 2 0 = some (.ref o5) ∧
        ∃ o6 : Nat, fld h4 o5 5 6 = some (.ref o6) ∧
        ∃ (n7 : Nat) (f8 : Nat → Int32), arr h4 o6 = some (n7, f8) ∧ ¬ (a5 < 0 ∨ n7 ≤ (a5).toNatClampNeg) ∧
        isO h4 a1 10 = true ∧ ∃ (x9 : Int32) (h10 : zH), zT E d m_Scene_temperOf 0 [some (.ref a1), some (.int a2)] [] h4 (.inl (some (.int x9)), h10) ∧
        if (f8 (a5).toNatClampNeg) < x9 then (
          zT E (d + 1) m_Downs_nearestWhite 8 [some (.ref a0), some (.ref a1), some (.int a2), some (.int a3), some (.int a4), some (.int (a5 + 1)), j6] [] h10 r)
        else (
          ∃ o11 : Nat, fld h10 a0 2 0 = some (.ref o11) ∧
          isO h10 a1 10 = true ∧ ∃ (x12 : Int32) (h13 : zH), zT E d m_Scene_cellOf 0 [some (.ref a1), some (.int a5)] [] h10 (.inl (some (.int x12)), h13) ∧
          ∃ o14 : Nat, fld h13 a0 2 0 = some (.ref o14) ∧
          ∃ o15 : Nat, fld h13 o14 5 5 = some (.ref o15) ∧
          ∃ (n16 : Nat) (f17 : Nat → Int32), arr h13 o15 = some (n16, f17) ∧ ¬ (a2 < 0 ∨ n16 ≤ (a2).toNatClampNeg) ∧
          isO h13 o11 5 = true ∧ ∃ (x18 : Int32) (h19 : zH), zT E d m_Land_far 0 [some (.ref o11), some (.int x12), some (.int (f17 (a2).toNatClampNeg)), none, none] [] h13 (.inl (some (.int x18)), h19) ∧
          if a3 = (-1) then (
            zT E (d + 1) m_Downs_nearestWhite 8 [some (.ref a0), some (.ref a1), some (.int a2), some (.int a5), some (.int x18), some (.int (a5 + 1)), some (.int x18)] [] h19 r)
          else (
            if a4 ≤ x18 then (
              zT E (d + 1) m_Downs_nearestWhite 8 [some (.ref a0), some (.ref a1), some (.int a2), some (.int a3), some (.int a4), some (.int (a5 + 1)), some (.int x18)] [] h19 r)
            else (
              zT E (d + 1) m_Downs_nearestWhite 8 [some (.ref a0), some (.ref a1), some (.int a2), some (.int a5), some (.int x18), some (.int (a5 + 1)), some (.int x18)] [] h19 r)))))) :
    zT E (d + 1) m_Downs_nearestWhite 8 [some (.ref a0), some (.ref a1), some (.int a2), some (.int a3), some (.int a4), some (.int a5), j6] [] h r := by
  refine zT_st (pc' := 11) (L' := [some (.ref a0), some (.ref a1), some (.int a2), some (.int a3), some (.int a4), some (.int a5), j6]) (st' := [.ref a0, .int a5]) (h' := h) 2 (fun n => rfl) ?_
  obtain ⟨o1, e, hw⟩ := hw
  refine zT_st (pc' := 14) (L' := [some (.ref a0), some (.ref a1), some (.int a2), some (.int a3), some (.int a4), some (.int a5), j6]) (st' := [.ref o1, .int a5]) (h' := h) 1 (fun n => fld_eq (E := E) e _) ?_
  obtain ⟨x2, e, hw⟩ := hw
  refine zT_st (pc' := 17) (L' := [some (.ref a0), some (.ref a1), some (.int a2), some (.int a3), some (.int a4), some (.int a5), j6]) (st' := [.int x2, .int a5]) (h' := h) 1 (fun n => fld_eq (E := E) e _) ?_
  by_cases hc : x2 ≤ a5
  · rw [if_pos hc] at hw
    refine zT_st (pc' := 96) (L' := [some (.ref a0), some (.ref a1), some (.int a2), some (.int a3), some (.int a4), some (.int a5), j6]) (st' := []) (h' := h) 1 (fun n => if_pos hc) ?_
    subst hw
    exact zT_ret 2 rfl
  · rw [if_neg hc] at hw
    refine zT_st (pc' := 20) (L' := [some (.ref a0), some (.ref a1), some (.int a2), some (.int a3), some (.int a4), some (.int a5), j6]) (st' := []) (h' := h) 1 (fun n => if_neg hc) ?_
    refine zT_st (pc' := 23) (L' := [some (.ref a0), some (.ref a1), some (.int a2), some (.int a3), some (.int a4), some (.int a5), j6]) (st' := [.int a5, .ref a1]) (h' := h) 2 (fun n => rfl) ?_
    obtain ⟨hq, hw⟩ := hw
    obtain ⟨x3, h4, hx, hw⟩ := hw
    refine zT_call (pc' := 26) (rest := []) 1 (fun n => rfl) hq hx ?_
    show zT E (d + 1) m_Downs_nearestWhite 26 [some (.ref a0), some (.ref a1), some (.int a2), some (.int a3), some (.int a4), some (.int a5), j6] [.int x3] h4 r
    by_cases hc : x3 = 0
    · rw [if_pos hc] at hw
      refine zT_st (pc' := 90) (L' := [some (.ref a0), some (.ref a1), some (.int a2), some (.int a3), some (.int a4), some (.int a5), j6]) (st' := []) (h' := h4) 1 (fun n => if_pos hc) ?_
      exact zT_st 2 (fun n => rfl) hw
    · rw [if_neg hc] at hw
      refine zT_st (pc' := 29) (L' := [some (.ref a0), some (.ref a1), some (.int a2), some (.int a3), some (.int a4), some (.int a5), j6]) (st' := []) (h' := h4) 1 (fun n => if_neg hc) ?_
      refine zT_st (pc' := 30) (L' := [some (.ref a0), some (.ref a1), some (.int a2), some (.int a3), some (.int a4), some (.int a5), j6]) (st' := [.ref a0]) (h' := h4) 1 (fun n => rfl) ?_
      obtain ⟨o5, e, hw⟩ := hw
      refine zT_st (pc' := 33) (L' := [some (.ref a0), some (.ref a1), some (.int a2), some (.int a3), some (.int a4), some (.int a5), j6]) (st' := [.ref o5]) (h' := h4) 1 (fun n => fld_eq (E := E) e _) ?_
      obtain ⟨o6, e, hw⟩ := hw
      refine zT_st (pc' := 36) (L' := [some (.ref a0), some (.ref a1), some (.int a2), some (.int a3), some (.int a4), some (.int a5), j6]) (st' := [.ref o6]) (h' := h4) 1 (fun n => fld_eq (E := E) e _) ?_
      refine zT_st (pc' := 38) (L' := [some (.ref a0), some (.ref a1), some (.int a2), some (.int a3), some (.int a4), some (.int a5), j6]) (st' := [.int a5, .ref o6]) (h' := h4) 1 (fun n => rfl) ?_
      obtain ⟨n7, f8, e, hi, hw⟩ := hw
      refine zT_st (pc' := 39) (L' := [some (.ref a0), some (.ref a1), some (.int a2), some (.int a3), some (.int a4), some (.int a5), j6]) (st' := [.int (f8 (a5).toNatClampNeg)]) (h' := h4) 1 (fun n => arr_eq (E := E) e hi [] (fun st => zrun zP zCd E n (d + 1) m_Downs_nearestWhite 39 [some (.ref a0), some (.ref a1), some (.int a2), some (.int a3), some (.int a4), some (.int a5), j6] st h4)) ?_
      refine zT_st (pc' := 41) (L' := [some (.ref a0), some (.ref a1), some (.int a2), some (.int a3), some (.int a4), some (.int a5), j6]) (st' := [.int a2, .ref a1, .int (f8 (a5).toNatClampNeg)]) (h' := h4) 2 (fun n => rfl) ?_
      obtain ⟨hq, hw⟩ := hw
      obtain ⟨x9, h10, hx, hw⟩ := hw
      refine zT_call (pc' := 44) (rest := [.int (f8 (a5).toNatClampNeg)]) 1 (fun n => rfl) hq hx ?_
      show zT E (d + 1) m_Downs_nearestWhite 44 [some (.ref a0), some (.ref a1), some (.int a2), some (.int a3), some (.int a4), some (.int a5), j6] [.int x9, .int (f8 (a5).toNatClampNeg)] h10 r
      by_cases hc : (f8 (a5).toNatClampNeg) < x9
      · rw [if_pos hc] at hw
        refine zT_st (pc' := 90) (L' := [some (.ref a0), some (.ref a1), some (.int a2), some (.int a3), some (.int a4), some (.int a5), j6]) (st' := []) (h' := h10) 1 (fun n => if_pos hc) ?_
        exact zT_st 2 (fun n => rfl) hw
      · rw [if_neg hc] at hw
        refine zT_st (pc' := 47) (L' := [some (.ref a0), some (.ref a1), some (.int a2), some (.int a3), some (.int a4), some (.int a5), j6]) (st' := []) (h' := h10) 1 (fun n => if_neg hc) ?_
        refine zT_st (pc' := 48) (L' := [some (.ref a0), some (.ref a1), some (.int a2), some (.int a3), some (.int a4), some (.int a5), j6]) (st' := [.ref a0]) (h' := h10) 1 (fun n => rfl) ?_
        obtain ⟨o11, e, hw⟩ := hw
        refine zT_st (pc' := 51) (L' := [some (.ref a0), some (.ref a1), some (.int a2), some (.int a3), some (.int a4), some (.int a5), j6]) (st' := [.ref o11]) (h' := h10) 1 (fun n => fld_eq (E := E) e _) ?_
        refine zT_st (pc' := 54) (L' := [some (.ref a0), some (.ref a1), some (.int a2), some (.int a3), some (.int a4), some (.int a5), j6]) (st' := [.int a5, .ref a1, .ref o11]) (h' := h10) 2 (fun n => rfl) ?_
        obtain ⟨hq, hw⟩ := hw
        obtain ⟨x12, h13, hx, hw⟩ := hw
        refine zT_call (pc' := 57) (rest := [.ref o11]) 1 (fun n => rfl) hq hx ?_
        show zT E (d + 1) m_Downs_nearestWhite 57 [some (.ref a0), some (.ref a1), some (.int a2), some (.int a3), some (.int a4), some (.int a5), j6] [.int x12, .ref o11] h13 r
        refine zT_st (pc' := 58) (L' := [some (.ref a0), some (.ref a1), some (.int a2), some (.int a3), some (.int a4), some (.int a5), j6]) (st' := [.ref a0, .int x12, .ref o11]) (h' := h13) 1 (fun n => rfl) ?_
        obtain ⟨o14, e, hw⟩ := hw
        refine zT_st (pc' := 61) (L' := [some (.ref a0), some (.ref a1), some (.int a2), some (.int a3), some (.int a4), some (.int a5), j6]) (st' := [.ref o14, .int x12, .ref o11]) (h' := h13) 1 (fun n => fld_eq (E := E) e _) ?_
        obtain ⟨o15, e, hw⟩ := hw
        refine zT_st (pc' := 64) (L' := [some (.ref a0), some (.ref a1), some (.int a2), some (.int a3), some (.int a4), some (.int a5), j6]) (st' := [.ref o15, .int x12, .ref o11]) (h' := h13) 1 (fun n => fld_eq (E := E) e _) ?_
        refine zT_st (pc' := 65) (L' := [some (.ref a0), some (.ref a1), some (.int a2), some (.int a3), some (.int a4), some (.int a5), j6]) (st' := [.int a2, .ref o15, .int x12, .ref o11]) (h' := h13) 1 (fun n => rfl) ?_
        obtain ⟨n16, f17, e, hi, hw⟩ := hw
        refine zT_st (pc' := 66) (L' := [some (.ref a0), some (.ref a1), some (.int a2), some (.int a3), some (.int a4), some (.int a5), j6]) (st' := [.int (f17 (a2).toNatClampNeg), .int x12, .ref o11]) (h' := h13) 1 (fun n => arr_eq (E := E) e hi [.int x12, .ref o11] (fun st => zrun zP zCd E n (d + 1) m_Downs_nearestWhite 66 [some (.ref a0), some (.ref a1), some (.int a2), some (.int a3), some (.int a4), some (.int a5), j6] st h13)) ?_
        obtain ⟨hq, hw⟩ := hw
        obtain ⟨x18, h19, hx, hw⟩ := hw
        refine zT_call (pc' := 69) (rest := []) 1 (fun n => rfl) hq hx ?_
        show zT E (d + 1) m_Downs_nearestWhite 69 [some (.ref a0), some (.ref a1), some (.int a2), some (.int a3), some (.int a4), some (.int a5), j6] [.int x18] h19 r
        refine zT_st (pc' := 73) (L' := [some (.ref a0), some (.ref a1), some (.int a2), some (.int a3), some (.int a4), some (.int a5), some (.int x18)]) (st' := [.int (-1), .int a3]) (h' := h19) 3 (fun n => rfl) ?_
        by_cases hc : a3 = (-1)
        · rw [if_pos hc] at hw
          refine zT_st (pc' := 83) (L' := [some (.ref a0), some (.ref a1), some (.int a2), some (.int a3), some (.int a4), some (.int a5), some (.int x18)]) (st' := []) (h' := h19) 1 (fun n => if_pos hc) ?_
          exact zT_st 6 (fun n => rfl) hw
        · rw [if_neg hc] at hw
          refine zT_st (pc' := 76) (L' := [some (.ref a0), some (.ref a1), some (.int a2), some (.int a3), some (.int a4), some (.int a5), some (.int x18)]) (st' := []) (h' := h19) 1 (fun n => if_neg hc) ?_
          refine zT_st (pc' := 80) (L' := [some (.ref a0), some (.ref a1), some (.int a2), some (.int a3), some (.int a4), some (.int a5), some (.int x18)]) (st' := [.int a4, .int x18]) (h' := h19) 2 (fun n => rfl) ?_
          by_cases hc : a4 ≤ x18
          · rw [if_pos hc] at hw
            refine zT_st (pc' := 90) (L' := [some (.ref a0), some (.ref a1), some (.int a2), some (.int a3), some (.int a4), some (.int a5), some (.int x18)]) (st' := []) (h' := h19) 1 (fun n => if_pos hc) ?_
            exact zT_st 2 (fun n => rfl) hw
          · rw [if_neg hc] at hw
            refine zT_st (pc' := 83) (L' := [some (.ref a0), some (.ref a1), some (.int a2), some (.int a3), some (.int a4), some (.int a5), some (.int x18)]) (st' := []) (h' := h19) 1 (fun n => if_neg hc) ?_
            exact zT_st 6 (fun n => rfl) hw
set_option maxRecDepth 4000 in
theorem s_Downs_ripe_0 (E : zX) (d : Nat) (a0 : Nat) (a1 : Nat) (h : zH) (r : zO × zH)
    (hw : ∃ o1 : Nat, fld h a0 2 0 = some (.ref o1) ∧
    ∃ o2 : Nat, fld h o1 5 8 = some (.ref o2) ∧
    isO h o2 9 = true ∧ ∃ (x3 : Int32) (h4 : zH), zT E d m_Rule_isTold 0 [some (.ref o2)] [] h (.inl (some (.int x3)), h4) ∧
    if x3 = 0 then (
      zT E (d + 1) m_Downs_ripe 22 [some (.ref a0), some (.ref a1), some (.int 0), some (.int 0)] [] h4 r)
    else (
      isO h4 a0 2 = true ∧ ∃ (h6 : zH), zT E d m_Downs_link 0 [some (.ref a0), some (.ref a1), none, none] [] h4 (.inl none, h6) ∧
      zT E (d + 1) m_Downs_ripe 22 [some (.ref a0), some (.ref a1), some (.int 0), some (.int 0)] [] h6 r)) :
    zT E (d + 1) m_Downs_ripe 0 [some (.ref a0), some (.ref a1), none, none] [] h r := by
  refine zT_st (pc' := 3) (L' := [some (.ref a0), some (.ref a1), some (.int 0), none]) (st' := [.ref a0]) (h' := h) 3 (fun n => rfl) ?_
  obtain ⟨o1, e, hw⟩ := hw
  refine zT_st (pc' := 6) (L' := [some (.ref a0), some (.ref a1), some (.int 0), none]) (st' := [.ref o1]) (h' := h) 1 (fun n => fld_eq (E := E) e _) ?_
  obtain ⟨o2, e, hw⟩ := hw
  refine zT_st (pc' := 9) (L' := [some (.ref a0), some (.ref a1), some (.int 0), none]) (st' := [.ref o2]) (h' := h) 1 (fun n => fld_eq (E := E) e _) ?_
  obtain ⟨hq, hw⟩ := hw
  obtain ⟨x3, h4, hx, hw⟩ := hw
  refine zT_call (pc' := 12) (rest := []) 1 (fun n => rfl) hq hx ?_
  show zT E (d + 1) m_Downs_ripe 12 [some (.ref a0), some (.ref a1), some (.int 0), none] [.int x3] h4 r
  by_cases hc : x3 = 0
  · rw [if_pos hc] at hw
    refine zT_st (pc' := 20) (L' := [some (.ref a0), some (.ref a1), some (.int 0), none]) (st' := []) (h' := h4) 1 (fun n => if_pos hc) ?_
    exact zT_st 2 (fun n => rfl) hw
  · rw [if_neg hc] at hw
    refine zT_st (pc' := 15) (L' := [some (.ref a0), some (.ref a1), some (.int 0), none]) (st' := []) (h' := h4) 1 (fun n => if_neg hc) ?_
    refine zT_st (pc' := 17) (L' := [some (.ref a0), some (.ref a1), some (.int 0), none]) (st' := [.ref a1, .ref a0]) (h' := h4) 2 (fun n => rfl) ?_
    obtain ⟨hq, hw⟩ := hw
    obtain ⟨h6, hx, hw⟩ := hw
    refine zT_call (pc' := 20) (rest := []) 1 (fun n => rfl) hq hx ?_
    show zT E (d + 1) m_Downs_ripe 20 [some (.ref a0), some (.ref a1), some (.int 0), none] [] h6 r
    exact zT_st 2 (fun n => rfl) hw
set_option maxRecDepth 4000 in
theorem s_Downs_ripe_22 (E : zX) (d : Nat) (a0 : Nat) (a1 : Nat) (a2 : Int32) (a3 : Int32) (h : zH) (r : zO × zH)
    (hw : ∃ o1 : Nat, fld h a0 2 0 = some (.ref o1) ∧
    ∃ x2 : Int32, fld h o1 5 4 = some (.int x2) ∧
    if x2 ≤ a3 then (
      r = (.inl (some (.int a2)), h))
    else (
      isO h a1 10 = true ∧ ∃ (x3 : Int32) (h4 : zH), zT E d m_Scene_isWhite 0 [some (.ref a1), some (.int a3)] [] h (.inl (some (.int x3)), h4) ∧
      if x3 = 0 then (
        isO h4 a0 2 = true ∧ ∃ (x5 : Int32) (h6 : zH), zT E d m_Downs_isRipe 0 [some (.ref a0), some (.ref a1), some (.int a3)] [] h4 (.inl (some (.int x5)), h6) ∧
        if x5 = 0 then (
          zT E (d + 1) m_Downs_ripe 22 [some (.ref a0), some (.ref a1), some (.int a2), some (.int (a3 + 1))] [] h6 r)
        else (
          zT E (d + 1) m_Downs_ripe 22 [some (.ref a0), some (.ref a1), some (.int (a2 ||| (1 <<< (a3 &&& 31)))), some (.int (a3 + 1))] [] h6 r))
      else (
        zT E (d + 1) m_Downs_ripe 22 [some (.ref a0), some (.ref a1), some (.int a2), some (.int (a3 + 1))] [] h4 r))) :
    zT E (d + 1) m_Downs_ripe 22 [some (.ref a0), some (.ref a1), some (.int a2), some (.int a3)] [] h r := by
  refine zT_st (pc' := 24) (L' := [some (.ref a0), some (.ref a1), some (.int a2), some (.int a3)]) (st' := [.ref a0, .int a3]) (h' := h) 2 (fun n => rfl) ?_
  obtain ⟨o1, e, hw⟩ := hw
  refine zT_st (pc' := 27) (L' := [some (.ref a0), some (.ref a1), some (.int a2), some (.int a3)]) (st' := [.ref o1, .int a3]) (h' := h) 1 (fun n => fld_eq (E := E) e _) ?_
  obtain ⟨x2, e, hw⟩ := hw
  refine zT_st (pc' := 30) (L' := [some (.ref a0), some (.ref a1), some (.int a2), some (.int a3)]) (st' := [.int x2, .int a3]) (h' := h) 1 (fun n => fld_eq (E := E) e _) ?_
  by_cases hc : x2 ≤ a3
  · rw [if_pos hc] at hw
    refine zT_st (pc' := 62) (L' := [some (.ref a0), some (.ref a1), some (.int a2), some (.int a3)]) (st' := []) (h' := h) 1 (fun n => if_pos hc) ?_
    subst hw
    exact zT_ret 2 rfl
  · rw [if_neg hc] at hw
    refine zT_st (pc' := 33) (L' := [some (.ref a0), some (.ref a1), some (.int a2), some (.int a3)]) (st' := []) (h' := h) 1 (fun n => if_neg hc) ?_
    refine zT_st (pc' := 35) (L' := [some (.ref a0), some (.ref a1), some (.int a2), some (.int a3)]) (st' := [.int a3, .ref a1]) (h' := h) 2 (fun n => rfl) ?_
    obtain ⟨hq, hw⟩ := hw
    obtain ⟨x3, h4, hx, hw⟩ := hw
    refine zT_call (pc' := 38) (rest := []) 1 (fun n => rfl) hq hx ?_
    show zT E (d + 1) m_Downs_ripe 38 [some (.ref a0), some (.ref a1), some (.int a2), some (.int a3)] [.int x3] h4 r
    by_cases hc : x3 = 0
    · rw [if_pos hc] at hw
      refine zT_st (pc' := 41) (L' := [some (.ref a0), some (.ref a1), some (.int a2), some (.int a3)]) (st' := []) (h' := h4) 1 (fun n => if_pos hc) ?_
      refine zT_st (pc' := 44) (L' := [some (.ref a0), some (.ref a1), some (.int a2), some (.int a3)]) (st' := [.int a3, .ref a1, .ref a0]) (h' := h4) 3 (fun n => rfl) ?_
      obtain ⟨hq, hw⟩ := hw
      obtain ⟨x5, h6, hx, hw⟩ := hw
      refine zT_call (pc' := 47) (rest := []) 1 (fun n => rfl) hq hx ?_
      show zT E (d + 1) m_Downs_ripe 47 [some (.ref a0), some (.ref a1), some (.int a2), some (.int a3)] [.int x5] h6 r
      by_cases hc : x5 = 0
      · rw [if_pos hc] at hw
        refine zT_st (pc' := 56) (L' := [some (.ref a0), some (.ref a1), some (.int a2), some (.int a3)]) (st' := []) (h' := h6) 1 (fun n => if_pos hc) ?_
        exact zT_st 2 (fun n => rfl) hw
      · rw [if_neg hc] at hw
        refine zT_st (pc' := 50) (L' := [some (.ref a0), some (.ref a1), some (.int a2), some (.int a3)]) (st' := []) (h' := h6) 1 (fun n => if_neg hc) ?_
        exact zT_st 8 (fun n => rfl) hw
    · rw [if_neg hc] at hw
      refine zT_st (pc' := 56) (L' := [some (.ref a0), some (.ref a1), some (.int a2), some (.int a3)]) (st' := []) (h' := h4) 1 (fun n => if_neg hc) ?_
      exact zT_st 2 (fun n => rfl) hw
set_option maxRecDepth 4000 in
theorem s_Downs_link_0 (E : zX) (d : Nat) (a0 : Nat) (a1 : Nat) (h : zH) (r : zO × zH)
    (hw : zT E (d + 1) m_Downs_link 2 [some (.ref a0), some (.ref a1), some (.int 0), none] [] h r) :
    zT E (d + 1) m_Downs_link 0 [some (.ref a0), some (.ref a1), none, none] [] h r := by
  exact zT_st 2 (fun n => rfl) hw
set_option maxRecDepth 4000 in
theorem s_Downs_link_2 (E : zX) (d : Nat) (a0 : Nat) (a1 : Nat) (a2 : Int32) (j3 : Option Value) (h : zH) (r : zO × zH)
    (hw : ∃ o1 : Nat, fld h a0 2 0 = some (.ref o1) ∧
    ∃ x2 : Int32, fld h o1 5 4 = some (.int x2) ∧
    if x2 ≤ a2 then (
      r = (.inl (none), h))
    else (
      ∃ o3 : Nat, fld h a0 2 2 = some (.ref o3) ∧
      ∃ (n4 : Nat) (f5 : Nat → Int32), arr h o3 = some (n4, f5) ∧ ¬ (a2 < 0 ∨ n4 ≤ (a2).toNatClampNeg) ∧
      zT E (d + 1) m_Downs_link 22 [some (.ref a0), some (.ref a1), some (.int a2), some (.int 0)] [] (setA h o3 n4 (upd f5 (a2).toNatClampNeg 0)) r)) :
    zT E (d + 1) m_Downs_link 2 [some (.ref a0), some (.ref a1), some (.int a2), j3] [] h r := by
  refine zT_st (pc' := 4) (L' := [some (.ref a0), some (.ref a1), some (.int a2), j3]) (st' := [.ref a0, .int a2]) (h' := h) 2 (fun n => rfl) ?_
  obtain ⟨o1, e, hw⟩ := hw
  refine zT_st (pc' := 7) (L' := [some (.ref a0), some (.ref a1), some (.int a2), j3]) (st' := [.ref o1, .int a2]) (h' := h) 1 (fun n => fld_eq (E := E) e _) ?_
  obtain ⟨x2, e, hw⟩ := hw
  refine zT_st (pc' := 10) (L' := [some (.ref a0), some (.ref a1), some (.int a2), j3]) (st' := [.int x2, .int a2]) (h' := h) 1 (fun n => fld_eq (E := E) e _) ?_
  by_cases hc : x2 ≤ a2
  · rw [if_pos hc] at hw
    refine zT_st (pc' := 92) (L' := [some (.ref a0), some (.ref a1), some (.int a2), j3]) (st' := []) (h' := h) 1 (fun n => if_pos hc) ?_
    subst hw
    exact zT_ret 1 rfl
  · rw [if_neg hc] at hw
    refine zT_st (pc' := 13) (L' := [some (.ref a0), some (.ref a1), some (.int a2), j3]) (st' := []) (h' := h) 1 (fun n => if_neg hc) ?_
    refine zT_st (pc' := 14) (L' := [some (.ref a0), some (.ref a1), some (.int a2), j3]) (st' := [.ref a0]) (h' := h) 1 (fun n => rfl) ?_
    obtain ⟨o3, e, hw⟩ := hw
    refine zT_st (pc' := 17) (L' := [some (.ref a0), some (.ref a1), some (.int a2), j3]) (st' := [.ref o3]) (h' := h) 1 (fun n => fld_eq (E := E) e _) ?_
    refine zT_st (pc' := 19) (L' := [some (.ref a0), some (.ref a1), some (.int a2), j3]) (st' := [.int 0, .int a2, .ref o3]) (h' := h) 2 (fun n => rfl) ?_
    obtain ⟨n4, f5, e, hi, hw⟩ := hw
    refine zT_st (pc' := 20) (L' := [some (.ref a0), some (.ref a1), some (.int a2), j3]) (st' := []) (h' := (setA h o3 n4 (upd f5 (a2).toNatClampNeg 0))) 1 (fun n => set_eq e hi _ _) ?_
    exact zT_st 2 (fun n => rfl) hw
set_option maxRecDepth 4000 in
theorem s_Downs_link_22 (E : zX) (d : Nat) (a0 : Nat) (a1 : Nat) (a2 : Int32) (a3 : Int32) (h : zH) (r : zO × zH)
    (hw : ∃ o1 : Nat, fld h a0 2 0 = some (.ref o1) ∧
    ∃ x2 : Int32, fld h o1 5 4 = some (.int x2) ∧
    if x2 ≤ a3 then (
      zT E (d + 1) m_Downs_link 2 [some (.ref a0), some (.ref a1), some (.int (a2 + 1)), some (.int a3)] [] h r)
    else (
      isO h a1 10 = true ∧ ∃ (x3 : Int32) (h4 : zH), zT E d m_Scene_isWhite 0 [some (.ref a1), some (.int a2)] [] h (.inl (some (.int x3)), h4) ∧
      if x3 = 0 then (
        if a3 = a2 then (
          zT E (d + 1) m_Downs_link 22 [some (.ref a0), some (.ref a1), some (.int a2), some (.int (a3 + 1))] [] h4 r)
        else (
          isO h4 a1 10 = true ∧ ∃ (x5 : Int32) (h6 : zH), zT E d m_Scene_isWhite 0 [some (.ref a1), some (.int a3)] [] h4 (.inl (some (.int x5)), h6) ∧
          if x5 = 0 then (
            isO h6 a1 10 = true ∧ ∃ (x7 : Int32) (h8 : zH), zT E d m_Scene_cellOf 0 [some (.ref a1), some (.int a3)] [] h6 (.inl (some (.int x7)), h8) ∧
            isO h8 a0 2 = true ∧ ∃ (x9 : Int32) (h10 : zH), zT E d m_Downs_reaches 0 [some (.ref a0), some (.ref a1), some (.int a2), some (.int x7)] [] h8 (.inl (some (.int x9)), h10) ∧
            if x9 = 0 then (
              zT E (d + 1) m_Downs_link 22 [some (.ref a0), some (.ref a1), some (.int a2), some (.int (a3 + 1))] [] h10 r)
            else (
              ∃ o11 : Nat, fld h10 a0 2 2 = some (.ref o11) ∧
              ∃ (n12 : Nat) (f13 : Nat → Int32), arr h10 o11 = some (n12, f13) ∧ ¬ (a2 < 0 ∨ n12 ≤ (a2).toNatClampNeg) ∧
              ∃ (n14 : Nat) (f15 : Nat → Int32), arr h10 o11 = some (n14, f15) ∧ ¬ (a2 < 0 ∨ n14 ≤ (a2).toNatClampNeg) ∧
              zT E (d + 1) m_Downs_link 22 [some (.ref a0), some (.ref a1), some (.int a2), some (.int (a3 + 1))] [] (setA h10 o11 n14 (upd f15 (a2).toNatClampNeg ((f13 (a2).toNatClampNeg) ||| (1 <<< (a3 &&& 31))))) r))
          else (
            zT E (d + 1) m_Downs_link 22 [some (.ref a0), some (.ref a1), some (.int a2), some (.int (a3 + 1))] [] h6 r)))
      else (
        zT E (d + 1) m_Downs_link 2 [some (.ref a0), some (.ref a1), some (.int (a2 + 1)), some (.int a3)] [] h4 r))) :
    zT E (d + 1) m_Downs_link 22 [some (.ref a0), some (.ref a1), some (.int a2), some (.int a3)] [] h r := by
  refine zT_st (pc' := 24) (L' := [some (.ref a0), some (.ref a1), some (.int a2), some (.int a3)]) (st' := [.ref a0, .int a3]) (h' := h) 2 (fun n => rfl) ?_
  obtain ⟨o1, e, hw⟩ := hw
  refine zT_st (pc' := 27) (L' := [some (.ref a0), some (.ref a1), some (.int a2), some (.int a3)]) (st' := [.ref o1, .int a3]) (h' := h) 1 (fun n => fld_eq (E := E) e _) ?_
  obtain ⟨x2, e, hw⟩ := hw
  refine zT_st (pc' := 30) (L' := [some (.ref a0), some (.ref a1), some (.int a2), some (.int a3)]) (st' := [.int x2, .int a3]) (h' := h) 1 (fun n => fld_eq (E := E) e _) ?_
  by_cases hc : x2 ≤ a3
  · rw [if_pos hc] at hw
    refine zT_st (pc' := 86) (L' := [some (.ref a0), some (.ref a1), some (.int a2), some (.int a3)]) (st' := []) (h' := h) 1 (fun n => if_pos hc) ?_
    exact zT_st 2 (fun n => rfl) hw
  · rw [if_neg hc] at hw
    refine zT_st (pc' := 33) (L' := [some (.ref a0), some (.ref a1), some (.int a2), some (.int a3)]) (st' := []) (h' := h) 1 (fun n => if_neg hc) ?_
    refine zT_st (pc' := 35) (L' := [some (.ref a0), some (.ref a1), some (.int a2), some (.int a3)]) (st' := [.int a2, .ref a1]) (h' := h) 2 (fun n => rfl) ?_
    obtain ⟨hq, hw⟩ := hw
    obtain ⟨x3, h4, hx, hw⟩ := hw
    refine zT_call (pc' := 38) (rest := []) 1 (fun n => rfl) hq hx ?_
    show zT E (d + 1) m_Downs_link 38 [some (.ref a0), some (.ref a1), some (.int a2), some (.int a3)] [.int x3] h4 r
    by_cases hc : x3 = 0
    · rw [if_pos hc] at hw
      refine zT_st (pc' := 41) (L' := [some (.ref a0), some (.ref a1), some (.int a2), some (.int a3)]) (st' := []) (h' := h4) 1 (fun n => if_pos hc) ?_
      refine zT_st (pc' := 43) (L' := [some (.ref a0), some (.ref a1), some (.int a2), some (.int a3)]) (st' := [.int a2, .int a3]) (h' := h4) 2 (fun n => rfl) ?_
      by_cases hc : a3 = a2
      · rw [if_pos hc] at hw
        refine zT_st (pc' := 80) (L' := [some (.ref a0), some (.ref a1), some (.int a2), some (.int a3)]) (st' := []) (h' := h4) 1 (fun n => if_pos hc) ?_
        exact zT_st 2 (fun n => rfl) hw
      · rw [if_neg hc] at hw
        refine zT_st (pc' := 46) (L' := [some (.ref a0), some (.ref a1), some (.int a2), some (.int a3)]) (st' := []) (h' := h4) 1 (fun n => if_neg hc) ?_
        refine zT_st (pc' := 48) (L' := [some (.ref a0), some (.ref a1), some (.int a2), some (.int a3)]) (st' := [.int a3, .ref a1]) (h' := h4) 2 (fun n => rfl) ?_
        obtain ⟨hq, hw⟩ := hw
        obtain ⟨x5, h6, hx, hw⟩ := hw
        refine zT_call (pc' := 51) (rest := []) 1 (fun n => rfl) hq hx ?_
        show zT E (d + 1) m_Downs_link 51 [some (.ref a0), some (.ref a1), some (.int a2), some (.int a3)] [.int x5] h6 r
        by_cases hc : x5 = 0
        · rw [if_pos hc] at hw
          refine zT_st (pc' := 54) (L' := [some (.ref a0), some (.ref a1), some (.int a2), some (.int a3)]) (st' := []) (h' := h6) 1 (fun n => if_pos hc) ?_
          refine zT_st (pc' := 59) (L' := [some (.ref a0), some (.ref a1), some (.int a2), some (.int a3)]) (st' := [.int a3, .ref a1, .int a2, .ref a1, .ref a0]) (h' := h6) 5 (fun n => rfl) ?_
          obtain ⟨hq, hw⟩ := hw
          obtain ⟨x7, h8, hx, hw⟩ := hw
          refine zT_call (pc' := 62) (rest := [.int a2, .ref a1, .ref a0]) 1 (fun n => rfl) hq hx ?_
          show zT E (d + 1) m_Downs_link 62 [some (.ref a0), some (.ref a1), some (.int a2), some (.int a3)] [.int x7, .int a2, .ref a1, .ref a0] h8 r
          obtain ⟨hq, hw⟩ := hw
          obtain ⟨x9, h10, hx, hw⟩ := hw
          refine zT_call (pc' := 65) (rest := []) 1 (fun n => rfl) hq hx ?_
          show zT E (d + 1) m_Downs_link 65 [some (.ref a0), some (.ref a1), some (.int a2), some (.int a3)] [.int x9] h10 r
          by_cases hc : x9 = 0
          · rw [if_pos hc] at hw
            refine zT_st (pc' := 80) (L' := [some (.ref a0), some (.ref a1), some (.int a2), some (.int a3)]) (st' := []) (h' := h10) 1 (fun n => if_pos hc) ?_
            exact zT_st 2 (fun n => rfl) hw
          · rw [if_neg hc] at hw
            refine zT_st (pc' := 68) (L' := [some (.ref a0), some (.ref a1), some (.int a2), some (.int a3)]) (st' := []) (h' := h10) 1 (fun n => if_neg hc) ?_
            refine zT_st (pc' := 69) (L' := [some (.ref a0), some (.ref a1), some (.int a2), some (.int a3)]) (st' := [.ref a0]) (h' := h10) 1 (fun n => rfl) ?_
            obtain ⟨o11, e, hw⟩ := hw
            refine zT_st (pc' := 72) (L' := [some (.ref a0), some (.ref a1), some (.int a2), some (.int a3)]) (st' := [.ref o11]) (h' := h10) 1 (fun n => fld_eq (E := E) e _) ?_
            refine zT_st (pc' := 74) (L' := [some (.ref a0), some (.ref a1), some (.int a2), some (.int a3)]) (st' := [.int a2, .ref o11, .int a2, .ref o11]) (h' := h10) 2 (fun n => rfl) ?_
            obtain ⟨n12, f13, e, hi, hw⟩ := hw
            refine zT_st (pc' := 75) (L' := [some (.ref a0), some (.ref a1), some (.int a2), some (.int a3)]) (st' := [.int (f13 (a2).toNatClampNeg), .int a2, .ref o11]) (h' := h10) 1 (fun n => arr_eq (E := E) e hi [.int a2, .ref o11] (fun st => zrun zP zCd E n (d + 1) m_Downs_link 75 [some (.ref a0), some (.ref a1), some (.int a2), some (.int a3)] st h10)) ?_
            refine zT_st (pc' := 79) (L' := [some (.ref a0), some (.ref a1), some (.int a2), some (.int a3)]) (st' := [.int ((f13 (a2).toNatClampNeg) ||| (1 <<< (a3 &&& 31))), .int a2, .ref o11]) (h' := h10) 4 (fun n => rfl) ?_
            obtain ⟨n14, f15, e, hi, hw⟩ := hw
            refine zT_st (pc' := 80) (L' := [some (.ref a0), some (.ref a1), some (.int a2), some (.int a3)]) (st' := []) (h' := (setA h10 o11 n14 (upd f15 (a2).toNatClampNeg ((f13 (a2).toNatClampNeg) ||| (1 <<< (a3 &&& 31)))))) 1 (fun n => set_eq e hi _ _) ?_
            exact zT_st 2 (fun n => rfl) hw
        · rw [if_neg hc] at hw
          refine zT_st (pc' := 80) (L' := [some (.ref a0), some (.ref a1), some (.int a2), some (.int a3)]) (st' := []) (h' := h6) 1 (fun n => if_neg hc) ?_
          exact zT_st 2 (fun n => rfl) hw
    · rw [if_neg hc] at hw
      refine zT_st (pc' := 86) (L' := [some (.ref a0), some (.ref a1), some (.int a2), some (.int a3)]) (st' := []) (h' := h4) 1 (fun n => if_neg hc) ?_
      exact zT_st 2 (fun n => rfl) hw
set_option maxRecDepth 4000 in
theorem s_Downs_reaches_0 (E : zX) (d : Nat) (a0 : Nat) (a1 : Nat) (a2 : Int32) (a3 : Int32) (h : zH) (r : zO × zH)
    (hw : ∃ o1 : Nat, fld h a0 2 0 = some (.ref o1) ∧
    isO h a1 10 = true ∧ ∃ (x2 : Int32) (h3 : zH), zT E d m_Scene_cellOf 0 [some (.ref a1), some (.int a2)] [] h (.inl (some (.int x2)), h3) ∧
    isO h3 o1 5 = true ∧ ∃ (x4 : Int32) (h5 : zH), zT E d m_Land_far 0 [some (.ref o1), some (.int x2), some (.int a3), none, none] [] h3 (.inl (some (.int x4)), h5) ∧
    isO h5 a1 10 = true ∧ ∃ (x6 : Int32) (h7 : zH), zT E d m_Scene_heldIn 0 [some (.ref a1), some (.int a2)] [] h5 (.inl (some (.int x6)), h7) ∧
    if (x6 / 10) < x4 then (
      r = (.inl (some (.int 0)), h7))
    else (
      r = (.inl (some (.int 1)), h7))) :
    zT E (d + 1) m_Downs_reaches 0 [some (.ref a0), some (.ref a1), some (.int a2), some (.int a3)] [] h r := by
  refine zT_st (pc' := 1) (L' := [some (.ref a0), some (.ref a1), some (.int a2), some (.int a3)]) (st' := [.ref a0]) (h' := h) 1 (fun n => rfl) ?_
  obtain ⟨o1, e, hw⟩ := hw
  refine zT_st (pc' := 4) (L' := [some (.ref a0), some (.ref a1), some (.int a2), some (.int a3)]) (st' := [.ref o1]) (h' := h) 1 (fun n => fld_eq (E := E) e _) ?_
  refine zT_st (pc' := 6) (L' := [some (.ref a0), some (.ref a1), some (.int a2), some (.int a3)]) (st' := [.int a2, .ref a1, .ref o1]) (h' := h) 2 (fun n => rfl) ?_
  obtain ⟨hq, hw⟩ := hw
  obtain ⟨x2, h3, hx, hw⟩ := hw
  refine zT_call (pc' := 9) (rest := [.ref o1]) 1 (fun n => rfl) hq hx ?_
  show zT E (d + 1) m_Downs_reaches 9 [some (.ref a0), some (.ref a1), some (.int a2), some (.int a3)] [.int x2, .ref o1] h3 r
  refine zT_st (pc' := 10) (L' := [some (.ref a0), some (.ref a1), some (.int a2), some (.int a3)]) (st' := [.int a3, .int x2, .ref o1]) (h' := h3) 1 (fun n => rfl) ?_
  obtain ⟨hq, hw⟩ := hw
  obtain ⟨x4, h5, hx, hw⟩ := hw
  refine zT_call (pc' := 13) (rest := []) 1 (fun n => rfl) hq hx ?_
  show zT E (d + 1) m_Downs_reaches 13 [some (.ref a0), some (.ref a1), some (.int a2), some (.int a3)] [.int x4] h5 r
  refine zT_st (pc' := 15) (L' := [some (.ref a0), some (.ref a1), some (.int a2), some (.int a3)]) (st' := [.int a2, .ref a1, .int x4]) (h' := h5) 2 (fun n => rfl) ?_
  obtain ⟨hq, hw⟩ := hw
  obtain ⟨x6, h7, hx, hw⟩ := hw
  refine zT_call (pc' := 18) (rest := [.int x4]) 1 (fun n => rfl) hq hx ?_
  show zT E (d + 1) m_Downs_reaches 18 [some (.ref a0), some (.ref a1), some (.int a2), some (.int a3)] [.int x6, .int x4] h7 r
  refine zT_st (pc' := 20) (L' := [some (.ref a0), some (.ref a1), some (.int a2), some (.int a3)]) (st' := [.int 10, .int x6, .int x4]) (h' := h7) 1 (fun n => rfl) ?_
  refine zT_st (pc' := 21) (L' := [some (.ref a0), some (.ref a1), some (.int a2), some (.int a3)]) (st' := [.int (x6 / 10), .int x4]) (h' := h7) 1 (fun n => rfl) ?_
  by_cases hc : (x6 / 10) < x4
  · rw [if_pos hc] at hw
    refine zT_st (pc' := 28) (L' := [some (.ref a0), some (.ref a1), some (.int a2), some (.int a3)]) (st' := []) (h' := h7) 1 (fun n => if_pos hc) ?_
    subst hw
    exact zT_ret 2 rfl
  · rw [if_neg hc] at hw
    refine zT_st (pc' := 24) (L' := [some (.ref a0), some (.ref a1), some (.int a2), some (.int a3)]) (st' := []) (h' := h7) 1 (fun n => if_neg hc) ?_
    subst hw
    exact zT_ret 3 rfl
set_option maxRecDepth 4000 in
theorem s_Downs_isRipe_0 (E : zX) (d : Nat) (a0 : Nat) (a1 : Nat) (a2 : Int32) (h : zH) (r : zO × zH)
    (hw : ∃ o1 : Nat, fld h a0 2 0 = some (.ref o1) ∧
    ∃ o2 : Nat, fld h o1 5 8 = some (.ref o2) ∧
    isO h o2 9 = true ∧ ∃ (x3 : Int32) (h4 : zH), zT E d m_Rule_isTold 0 [some (.ref o2)] [] h (.inl (some (.int x3)), h4) ∧
    if x3 = 0 then (
      isO h4 a1 10 = true ∧ ∃ (x5 : Int32) (h6 : zH), zT E d m_Scene_ageOf 0 [some (.ref a1), some (.int a2)] [] h4 (.inl (some (.int x5)), h6) ∧
      if x5 < 10 then (
        r = (.inl (some (.int 0)), h6))
      else (
        r = (.inl (some (.int 1)), h6)))
    else (
      ∃ o7 : Nat, fld h4 a0 2 3 = some (.ref o7) ∧
      isO h4 a1 10 = true ∧ ∃ (x8 : Int32) (h9 : zH), zT E d m_Scene_heldIn 0 [some (.ref a1), some (.int a2)] [] h4 (.inl (some (.int x8)), h9) ∧
      ∃ (n10 : Nat) (f11 : Nat → Int32), arr h9 o7 = some (n10, f11) ∧ ¬ ((0 : Int32) < 0 ∨ n10 ≤ ((0 : Int32)).toNatClampNeg) ∧
      ∃ o12 : Nat, fld (setA h9 o7 n10 (upd f11 ((0 : Int32)).toNatClampNeg x8)) a0 2 3 = some (.ref o12) ∧
      ∃ o13 : Nat, fld (setA h9 o7 n10 (upd f11 ((0 : Int32)).toNatClampNeg x8)) a0 2 0 = some (.ref o13) ∧
      ∃ o14 : Nat, fld (setA h9 o7 n10 (upd f11 ((0 : Int32)).toNatClampNeg x8)) o13 5 6 = some (.ref o14) ∧
      ∃ (n15 : Nat) (f16 : Nat → Int32), arr (setA h9 o7 n10 (upd f11 ((0 : Int32)).toNatClampNeg x8)) o14 = some (n15, f16) ∧ ¬ (a2 < 0 ∨ n15 ≤ (a2).toNatClampNeg) ∧
      ∃ (n17 : Nat) (f18 : Nat → Int32), arr (setA h9 o7 n10 (upd f11 ((0 : Int32)).toNatClampNeg x8)) o12 = some (n17, f18) ∧ ¬ ((1 : Int32) < 0 ∨ n17 ≤ ((1 : Int32)).toNatClampNeg) ∧
      ∃ o19 : Nat, fld (setA (setA h9 o7 n10 (upd f11 ((0 : Int32)).toNatClampNeg x8)) o12 n17 (upd f18 ((1 : Int32)).toNatClampNeg (f16 (a2).toNatClampNeg))) a0 2 3 = some (.ref o19) ∧
      isO (setA (setA h9 o7 n10 (upd f11 ((0 : Int32)).toNatClampNeg x8)) o12 n17 (upd f18 ((1 : Int32)).toNatClampNeg (f16 (a2).toNatClampNeg))) a1 10 = true ∧ ∃ (x20 : Int32) (h21 : zH), zT E d m_Scene_ageOf 0 [some (.ref a1), some (.int a2)] [] (setA (setA h9 o7 n10 (upd f11 ((0 : Int32)).toNatClampNeg x8)) o12 n17 (upd f18 ((1 : Int32)).toNatClampNeg (f16 (a2).toNatClampNeg))) (.inl (some (.int x20)), h21) ∧
      ∃ (n22 : Nat) (f23 : Nat → Int32), arr h21 o19 = some (n22, f23) ∧ ¬ ((2 : Int32) < 0 ∨ n22 ≤ ((2 : Int32)).toNatClampNeg) ∧
      ∃ o24 : Nat, fld (setA h21 o19 n22 (upd f23 ((2 : Int32)).toNatClampNeg x20)) a0 2 3 = some (.ref o24) ∧
      ∃ o25 : Nat, fld (setA h21 o19 n22 (upd f23 ((2 : Int32)).toNatClampNeg x20)) a0 2 2 = some (.ref o25) ∧
      ∃ (n26 : Nat) (f27 : Nat → Int32), arr (setA h21 o19 n22 (upd f23 ((2 : Int32)).toNatClampNeg x20)) o25 = some (n26, f27) ∧ ¬ (a2 < 0 ∨ n26 ≤ (a2).toNatClampNeg) ∧
      ∃ (x28 : Int32) (h29 : zH), zT E d m_Integer_bitCount 0 [some (.int (f27 (a2).toNatClampNeg))] [] (setA h21 o19 n22 (upd f23 ((2 : Int32)).toNatClampNeg x20)) (.inl (some (.int x28)), h29) ∧
      ∃ (n30 : Nat) (f31 : Nat → Int32), arr h29 o24 = some (n30, f31) ∧ ¬ ((3 : Int32) < 0 ∨ n30 ≤ ((3 : Int32)).toNatClampNeg) ∧
      ∃ o32 : Nat, fld (setA h29 o24 n30 (upd f31 ((3 : Int32)).toNatClampNeg x28)) a0 2 3 = some (.ref o32) ∧
      isO (setA h29 o24 n30 (upd f31 ((3 : Int32)).toNatClampNeg x28)) a1 10 = true ∧ ∃ (x33 : Int32) (h34 : zH), zT E d m_Scene_day 0 [some (.ref a1)] [] (setA h29 o24 n30 (upd f31 ((3 : Int32)).toNatClampNeg x28)) (.inl (some (.int x33)), h34) ∧
      ∃ (n35 : Nat) (f36 : Nat → Int32), arr h34 o32 = some (n35, f36) ∧ ¬ ((4 : Int32) < 0 ∨ n35 ≤ ((4 : Int32)).toNatClampNeg) ∧
      ∃ o37 : Nat, fld (setA h34 o32 n35 (upd f36 ((4 : Int32)).toNatClampNeg x33)) a0 2 0 = some (.ref o37) ∧
      ∃ o38 : Nat, fld (setA h34 o32 n35 (upd f36 ((4 : Int32)).toNatClampNeg x33)) o37 5 8 = some (.ref o38) ∧
      ∃ o39 : Nat, fld (setA h34 o32 n35 (upd f36 ((4 : Int32)).toNatClampNeg x33)) a0 2 3 = some (.ref o39) ∧
      ∃ o40 : Nat, fld (setA h34 o32 n35 (upd f36 ((4 : Int32)).toNatClampNeg x33)) a0 2 4 = some (.ref o40) ∧
      isO (setA h34 o32 n35 (upd f36 ((4 : Int32)).toNatClampNeg x33)) o38 9 = true ∧ ∃ (x41 : Int32) (h42 : zH), zT E d m_Rule_worth 0 [some (.ref o38), some (.ref o39), some (.ref o40), none, none, none] [] (setA h34 o32 n35 (upd f36 ((4 : Int32)).toNatClampNeg x33)) (.inl (some (.int x41)), h42) ∧
      if x41 ≤ 0 then (
        r = (.inl (some (.int 0)), h42))
      else (
        r = (.inl (some (.int 1)), h42)))) :
    zT E (d + 1) m_Downs_isRipe 0 [some (.ref a0), some (.ref a1), some (.int a2)] [] h r := by
  refine zT_st (pc' := 1) (L' := [some (.ref a0), some (.ref a1), some (.int a2)]) (st' := [.ref a0]) (h' := h) 1 (fun n => rfl) ?_
  obtain ⟨o1, e, hw⟩ := hw
  refine zT_st (pc' := 4) (L' := [some (.ref a0), some (.ref a1), some (.int a2)]) (st' := [.ref o1]) (h' := h) 1 (fun n => fld_eq (E := E) e _) ?_
  obtain ⟨o2, e, hw⟩ := hw
  refine zT_st (pc' := 7) (L' := [some (.ref a0), some (.ref a1), some (.int a2)]) (st' := [.ref o2]) (h' := h) 1 (fun n => fld_eq (E := E) e _) ?_
  obtain ⟨hq, hw⟩ := hw
  obtain ⟨x3, h4, hx, hw⟩ := hw
  refine zT_call (pc' := 10) (rest := []) 1 (fun n => rfl) hq hx ?_
  show zT E (d + 1) m_Downs_isRipe 10 [some (.ref a0), some (.ref a1), some (.int a2)] [.int x3] h4 r
  by_cases hc : x3 = 0
  · rw [if_pos hc] at hw
    refine zT_st (pc' := 13) (L' := [some (.ref a0), some (.ref a1), some (.int a2)]) (st' := []) (h' := h4) 1 (fun n => if_pos hc) ?_
    refine zT_st (pc' := 15) (L' := [some (.ref a0), some (.ref a1), some (.int a2)]) (st' := [.int a2, .ref a1]) (h' := h4) 2 (fun n => rfl) ?_
    obtain ⟨hq, hw⟩ := hw
    obtain ⟨x5, h6, hx, hw⟩ := hw
    refine zT_call (pc' := 18) (rest := []) 1 (fun n => rfl) hq hx ?_
    show zT E (d + 1) m_Downs_isRipe 18 [some (.ref a0), some (.ref a1), some (.int a2)] [.int x5] h6 r
    refine zT_st (pc' := 20) (L' := [some (.ref a0), some (.ref a1), some (.int a2)]) (st' := [.int 10, .int x5]) (h' := h6) 1 (fun n => rfl) ?_
    by_cases hc : x5 < 10
    · rw [if_pos hc] at hw
      refine zT_st (pc' := 27) (L' := [some (.ref a0), some (.ref a1), some (.int a2)]) (st' := []) (h' := h6) 1 (fun n => if_pos hc) ?_
      subst hw
      exact zT_ret 2 rfl
    · rw [if_neg hc] at hw
      refine zT_st (pc' := 23) (L' := [some (.ref a0), some (.ref a1), some (.int a2)]) (st' := []) (h' := h6) 1 (fun n => if_neg hc) ?_
      subst hw
      exact zT_ret 3 rfl
  · rw [if_neg hc] at hw
    refine zT_st (pc' := 29) (L' := [some (.ref a0), some (.ref a1), some (.int a2)]) (st' := []) (h' := h4) 1 (fun n => if_neg hc) ?_
    refine zT_st (pc' := 30) (L' := [some (.ref a0), some (.ref a1), some (.int a2)]) (st' := [.ref a0]) (h' := h4) 1 (fun n => rfl) ?_
    obtain ⟨o7, e, hw⟩ := hw
    refine zT_st (pc' := 33) (L' := [some (.ref a0), some (.ref a1), some (.int a2)]) (st' := [.ref o7]) (h' := h4) 1 (fun n => fld_eq (E := E) e _) ?_
    refine zT_st (pc' := 36) (L' := [some (.ref a0), some (.ref a1), some (.int a2)]) (st' := [.int a2, .ref a1, .int 0, .ref o7]) (h' := h4) 3 (fun n => rfl) ?_
    obtain ⟨hq, hw⟩ := hw
    obtain ⟨x8, h9, hx, hw⟩ := hw
    refine zT_call (pc' := 39) (rest := [.int 0, .ref o7]) 1 (fun n => rfl) hq hx ?_
    show zT E (d + 1) m_Downs_isRipe 39 [some (.ref a0), some (.ref a1), some (.int a2)] [.int x8, .int 0, .ref o7] h9 r
    obtain ⟨n10, f11, e, hi, hw⟩ := hw
    refine zT_st (pc' := 40) (L' := [some (.ref a0), some (.ref a1), some (.int a2)]) (st' := []) (h' := (setA h9 o7 n10 (upd f11 ((0 : Int32)).toNatClampNeg x8))) 1 (fun n => set_eq e hi _ _) ?_
    refine zT_st (pc' := 41) (L' := [some (.ref a0), some (.ref a1), some (.int a2)]) (st' := [.ref a0]) (h' := (setA h9 o7 n10 (upd f11 ((0 : Int32)).toNatClampNeg x8))) 1 (fun n => rfl) ?_
    obtain ⟨o12, e, hw⟩ := hw
    refine zT_st (pc' := 44) (L' := [some (.ref a0), some (.ref a1), some (.int a2)]) (st' := [.ref o12]) (h' := (setA h9 o7 n10 (upd f11 ((0 : Int32)).toNatClampNeg x8))) 1 (fun n => fld_eq (E := E) e _) ?_
    refine zT_st (pc' := 46) (L' := [some (.ref a0), some (.ref a1), some (.int a2)]) (st' := [.ref a0, .int 1, .ref o12]) (h' := (setA h9 o7 n10 (upd f11 ((0 : Int32)).toNatClampNeg x8))) 2 (fun n => rfl) ?_
    obtain ⟨o13, e, hw⟩ := hw
    refine zT_st (pc' := 49) (L' := [some (.ref a0), some (.ref a1), some (.int a2)]) (st' := [.ref o13, .int 1, .ref o12]) (h' := (setA h9 o7 n10 (upd f11 ((0 : Int32)).toNatClampNeg x8))) 1 (fun n => fld_eq (E := E) e _) ?_
    obtain ⟨o14, e, hw⟩ := hw
    refine zT_st (pc' := 52) (L' := [some (.ref a0), some (.ref a1), some (.int a2)]) (st' := [.ref o14, .int 1, .ref o12]) (h' := (setA h9 o7 n10 (upd f11 ((0 : Int32)).toNatClampNeg x8))) 1 (fun n => fld_eq (E := E) e _) ?_
    refine zT_st (pc' := 53) (L' := [some (.ref a0), some (.ref a1), some (.int a2)]) (st' := [.int a2, .ref o14, .int 1, .ref o12]) (h' := (setA h9 o7 n10 (upd f11 ((0 : Int32)).toNatClampNeg x8))) 1 (fun n => rfl) ?_
    obtain ⟨n15, f16, e, hi, hw⟩ := hw
    refine zT_st (pc' := 54) (L' := [some (.ref a0), some (.ref a1), some (.int a2)]) (st' := [.int (f16 (a2).toNatClampNeg), .int 1, .ref o12]) (h' := (setA h9 o7 n10 (upd f11 ((0 : Int32)).toNatClampNeg x8))) 1 (fun n => arr_eq (E := E) e hi [.int 1, .ref o12] (fun st => zrun zP zCd E n (d + 1) m_Downs_isRipe 54 [some (.ref a0), some (.ref a1), some (.int a2)] st (setA h9 o7 n10 (upd f11 ((0 : Int32)).toNatClampNeg x8)))) ?_
    obtain ⟨n17, f18, e, hi, hw⟩ := hw
    refine zT_st (pc' := 55) (L' := [some (.ref a0), some (.ref a1), some (.int a2)]) (st' := []) (h' := (setA (setA h9 o7 n10 (upd f11 ((0 : Int32)).toNatClampNeg x8)) o12 n17 (upd f18 ((1 : Int32)).toNatClampNeg (f16 (a2).toNatClampNeg)))) 1 (fun n => set_eq e hi _ _) ?_
    refine zT_st (pc' := 56) (L' := [some (.ref a0), some (.ref a1), some (.int a2)]) (st' := [.ref a0]) (h' := (setA (setA h9 o7 n10 (upd f11 ((0 : Int32)).toNatClampNeg x8)) o12 n17 (upd f18 ((1 : Int32)).toNatClampNeg (f16 (a2).toNatClampNeg)))) 1 (fun n => rfl) ?_
    obtain ⟨o19, e, hw⟩ := hw
    refine zT_st (pc' := 59) (L' := [some (.ref a0), some (.ref a1), some (.int a2)]) (st' := [.ref o19]) (h' := (setA (setA h9 o7 n10 (upd f11 ((0 : Int32)).toNatClampNeg x8)) o12 n17 (upd f18 ((1 : Int32)).toNatClampNeg (f16 (a2).toNatClampNeg)))) 1 (fun n => fld_eq (E := E) e _) ?_
    refine zT_st (pc' := 62) (L' := [some (.ref a0), some (.ref a1), some (.int a2)]) (st' := [.int a2, .ref a1, .int 2, .ref o19]) (h' := (setA (setA h9 o7 n10 (upd f11 ((0 : Int32)).toNatClampNeg x8)) o12 n17 (upd f18 ((1 : Int32)).toNatClampNeg (f16 (a2).toNatClampNeg)))) 3 (fun n => rfl) ?_
    obtain ⟨hq, hw⟩ := hw
    obtain ⟨x20, h21, hx, hw⟩ := hw
    refine zT_call (pc' := 65) (rest := [.int 2, .ref o19]) 1 (fun n => rfl) hq hx ?_
    show zT E (d + 1) m_Downs_isRipe 65 [some (.ref a0), some (.ref a1), some (.int a2)] [.int x20, .int 2, .ref o19] h21 r
    obtain ⟨n22, f23, e, hi, hw⟩ := hw
    refine zT_st (pc' := 66) (L' := [some (.ref a0), some (.ref a1), some (.int a2)]) (st' := []) (h' := (setA h21 o19 n22 (upd f23 ((2 : Int32)).toNatClampNeg x20))) 1 (fun n => set_eq e hi _ _) ?_
    refine zT_st (pc' := 67) (L' := [some (.ref a0), some (.ref a1), some (.int a2)]) (st' := [.ref a0]) (h' := (setA h21 o19 n22 (upd f23 ((2 : Int32)).toNatClampNeg x20))) 1 (fun n => rfl) ?_
    obtain ⟨o24, e, hw⟩ := hw
    refine zT_st (pc' := 70) (L' := [some (.ref a0), some (.ref a1), some (.int a2)]) (st' := [.ref o24]) (h' := (setA h21 o19 n22 (upd f23 ((2 : Int32)).toNatClampNeg x20))) 1 (fun n => fld_eq (E := E) e _) ?_
    refine zT_st (pc' := 72) (L' := [some (.ref a0), some (.ref a1), some (.int a2)]) (st' := [.ref a0, .int 3, .ref o24]) (h' := (setA h21 o19 n22 (upd f23 ((2 : Int32)).toNatClampNeg x20))) 2 (fun n => rfl) ?_
    obtain ⟨o25, e, hw⟩ := hw
    refine zT_st (pc' := 75) (L' := [some (.ref a0), some (.ref a1), some (.int a2)]) (st' := [.ref o25, .int 3, .ref o24]) (h' := (setA h21 o19 n22 (upd f23 ((2 : Int32)).toNatClampNeg x20))) 1 (fun n => fld_eq (E := E) e _) ?_
    refine zT_st (pc' := 76) (L' := [some (.ref a0), some (.ref a1), some (.int a2)]) (st' := [.int a2, .ref o25, .int 3, .ref o24]) (h' := (setA h21 o19 n22 (upd f23 ((2 : Int32)).toNatClampNeg x20))) 1 (fun n => rfl) ?_
    obtain ⟨n26, f27, e, hi, hw⟩ := hw
    refine zT_st (pc' := 77) (L' := [some (.ref a0), some (.ref a1), some (.int a2)]) (st' := [.int (f27 (a2).toNatClampNeg), .int 3, .ref o24]) (h' := (setA h21 o19 n22 (upd f23 ((2 : Int32)).toNatClampNeg x20))) 1 (fun n => arr_eq (E := E) e hi [.int 3, .ref o24] (fun st => zrun zP zCd E n (d + 1) m_Downs_isRipe 77 [some (.ref a0), some (.ref a1), some (.int a2)] st (setA h21 o19 n22 (upd f23 ((2 : Int32)).toNatClampNeg x20)))) ?_
    obtain ⟨x28, h29, hx, hw⟩ := hw
    refine zT_call (pc' := 80) (rest := [.int 3, .ref o24]) 1 (fun n => rfl) rfl hx ?_
    show zT E (d + 1) m_Downs_isRipe 80 [some (.ref a0), some (.ref a1), some (.int a2)] [.int x28, .int 3, .ref o24] h29 r
    obtain ⟨n30, f31, e, hi, hw⟩ := hw
    refine zT_st (pc' := 81) (L' := [some (.ref a0), some (.ref a1), some (.int a2)]) (st' := []) (h' := (setA h29 o24 n30 (upd f31 ((3 : Int32)).toNatClampNeg x28))) 1 (fun n => set_eq e hi _ _) ?_
    refine zT_st (pc' := 82) (L' := [some (.ref a0), some (.ref a1), some (.int a2)]) (st' := [.ref a0]) (h' := (setA h29 o24 n30 (upd f31 ((3 : Int32)).toNatClampNeg x28))) 1 (fun n => rfl) ?_
    obtain ⟨o32, e, hw⟩ := hw
    refine zT_st (pc' := 85) (L' := [some (.ref a0), some (.ref a1), some (.int a2)]) (st' := [.ref o32]) (h' := (setA h29 o24 n30 (upd f31 ((3 : Int32)).toNatClampNeg x28))) 1 (fun n => fld_eq (E := E) e _) ?_
    refine zT_st (pc' := 87) (L' := [some (.ref a0), some (.ref a1), some (.int a2)]) (st' := [.ref a1, .int 4, .ref o32]) (h' := (setA h29 o24 n30 (upd f31 ((3 : Int32)).toNatClampNeg x28))) 2 (fun n => rfl) ?_
    obtain ⟨hq, hw⟩ := hw
    obtain ⟨x33, h34, hx, hw⟩ := hw
    refine zT_call (pc' := 90) (rest := [.int 4, .ref o32]) 1 (fun n => rfl) hq hx ?_
    show zT E (d + 1) m_Downs_isRipe 90 [some (.ref a0), some (.ref a1), some (.int a2)] [.int x33, .int 4, .ref o32] h34 r
    obtain ⟨n35, f36, e, hi, hw⟩ := hw
    refine zT_st (pc' := 91) (L' := [some (.ref a0), some (.ref a1), some (.int a2)]) (st' := []) (h' := (setA h34 o32 n35 (upd f36 ((4 : Int32)).toNatClampNeg x33))) 1 (fun n => set_eq e hi _ _) ?_
    refine zT_st (pc' := 92) (L' := [some (.ref a0), some (.ref a1), some (.int a2)]) (st' := [.ref a0]) (h' := (setA h34 o32 n35 (upd f36 ((4 : Int32)).toNatClampNeg x33))) 1 (fun n => rfl) ?_
    obtain ⟨o37, e, hw⟩ := hw
    refine zT_st (pc' := 95) (L' := [some (.ref a0), some (.ref a1), some (.int a2)]) (st' := [.ref o37]) (h' := (setA h34 o32 n35 (upd f36 ((4 : Int32)).toNatClampNeg x33))) 1 (fun n => fld_eq (E := E) e _) ?_
    obtain ⟨o38, e, hw⟩ := hw
    refine zT_st (pc' := 98) (L' := [some (.ref a0), some (.ref a1), some (.int a2)]) (st' := [.ref o38]) (h' := (setA h34 o32 n35 (upd f36 ((4 : Int32)).toNatClampNeg x33))) 1 (fun n => fld_eq (E := E) e _) ?_
    refine zT_st (pc' := 99) (L' := [some (.ref a0), some (.ref a1), some (.int a2)]) (st' := [.ref a0, .ref o38]) (h' := (setA h34 o32 n35 (upd f36 ((4 : Int32)).toNatClampNeg x33))) 1 (fun n => rfl) ?_
    obtain ⟨o39, e, hw⟩ := hw
    refine zT_st (pc' := 102) (L' := [some (.ref a0), some (.ref a1), some (.int a2)]) (st' := [.ref o39, .ref o38]) (h' := (setA h34 o32 n35 (upd f36 ((4 : Int32)).toNatClampNeg x33))) 1 (fun n => fld_eq (E := E) e _) ?_
    refine zT_st (pc' := 103) (L' := [some (.ref a0), some (.ref a1), some (.int a2)]) (st' := [.ref a0, .ref o39, .ref o38]) (h' := (setA h34 o32 n35 (upd f36 ((4 : Int32)).toNatClampNeg x33))) 1 (fun n => rfl) ?_
    obtain ⟨o40, e, hw⟩ := hw
    refine zT_st (pc' := 106) (L' := [some (.ref a0), some (.ref a1), some (.int a2)]) (st' := [.ref o40, .ref o39, .ref o38]) (h' := (setA h34 o32 n35 (upd f36 ((4 : Int32)).toNatClampNeg x33))) 1 (fun n => fld_eq (E := E) e _) ?_
    obtain ⟨hq, hw⟩ := hw
    obtain ⟨x41, h42, hx, hw⟩ := hw
    refine zT_call (pc' := 109) (rest := []) 1 (fun n => rfl) hq hx ?_
    show zT E (d + 1) m_Downs_isRipe 109 [some (.ref a0), some (.ref a1), some (.int a2)] [.int x41] h42 r
    by_cases hc : x41 ≤ 0
    · rw [if_pos hc] at hw
      refine zT_st (pc' := 116) (L' := [some (.ref a0), some (.ref a1), some (.int a2)]) (st' := []) (h' := h42) 1 (fun n => if_pos hc) ?_
      subst hw
      exact zT_ret 2 rfl
    · rw [if_neg hc] at hw
      refine zT_st (pc' := 112) (L' := [some (.ref a0), some (.ref a1), some (.int a2)]) (st' := []) (h' := h42) 1 (fun n => if_neg hc) ?_
      subst hw
      exact zT_ret 3 rfl
set_option maxRecDepth 4000 in
theorem s_Downs_burst_0 (E : zX) (d : Nat) (a0 : Nat) (a1 : Nat) (a2 : Int32) (h : zH) (r : zO × zH)
    (hw : if a2 = 0 then (
      r = (.inl (some (.int 0)), h))
    else (
      isO h a0 2 = true ∧ ∃ (h2 : zH), zT E d m_Downs_link 0 [some (.ref a0), some (.ref a1), none, none] [] h (.inl none, h2) ∧
      isO h2 a1 10 = true ∧ ∃ (x3 : Int32) (h4 : zH), zT E d m_Scene_guards 0 [some (.ref a1)] [] h2 (.inl (some (.int x3)), h4) ∧
      isO h4 a0 2 = true ∧ ∃ (x5 : Int32) (h6 : zH), zT E d m_Downs_chain 0 [some (.ref a0), some (.int a2), some (.int x3), none, none, none, none] [] h4 (.inl (some (.int x5)), h6) ∧
      zT E (d + 1) m_Downs_burst 24 [some (.ref a0), some (.ref a1), some (.int a2), some (.int x5), some (.int 0)] [] h6 r)) :
    zT E (d + 1) m_Downs_burst 0 [some (.ref a0), some (.ref a1), some (.int a2), none, none] [] h r := by
  refine zT_st (pc' := 1) (L' := [some (.ref a0), some (.ref a1), some (.int a2), none, none]) (st' := [.int a2]) (h' := h) 1 (fun n => rfl) ?_
  by_cases hc : a2 = 0
  · rw [if_pos hc] at hw
    refine zT_st (pc' := 4) (L' := [some (.ref a0), some (.ref a1), some (.int a2), none, none]) (st' := []) (h' := h) 1 (fun n => if_pos hc) ?_
    subst hw
    exact zT_ret 2 rfl
  · rw [if_neg hc] at hw
    refine zT_st (pc' := 6) (L' := [some (.ref a0), some (.ref a1), some (.int a2), none, none]) (st' := []) (h' := h) 1 (fun n => if_neg hc) ?_
    refine zT_st (pc' := 8) (L' := [some (.ref a0), some (.ref a1), some (.int a2), none, none]) (st' := [.ref a1, .ref a0]) (h' := h) 2 (fun n => rfl) ?_
    obtain ⟨hq, hw⟩ := hw
    obtain ⟨h2, hx, hw⟩ := hw
    refine zT_call (pc' := 11) (rest := []) 1 (fun n => rfl) hq hx ?_
    show zT E (d + 1) m_Downs_burst 11 [some (.ref a0), some (.ref a1), some (.int a2), none, none] [] h2 r
    refine zT_st (pc' := 14) (L' := [some (.ref a0), some (.ref a1), some (.int a2), none, none]) (st' := [.ref a1, .int a2, .ref a0]) (h' := h2) 3 (fun n => rfl) ?_
    obtain ⟨hq, hw⟩ := hw
    obtain ⟨x3, h4, hx, hw⟩ := hw
    refine zT_call (pc' := 17) (rest := [.int a2, .ref a0]) 1 (fun n => rfl) hq hx ?_
    show zT E (d + 1) m_Downs_burst 17 [some (.ref a0), some (.ref a1), some (.int a2), none, none] [.int x3, .int a2, .ref a0] h4 r
    obtain ⟨hq, hw⟩ := hw
    obtain ⟨x5, h6, hx, hw⟩ := hw
    refine zT_call (pc' := 20) (rest := []) 1 (fun n => rfl) hq hx ?_
    show zT E (d + 1) m_Downs_burst 20 [some (.ref a0), some (.ref a1), some (.int a2), none, none] [.int x5] h6 r
    exact zT_st 3 (fun n => rfl) hw
set_option maxRecDepth 4000 in
theorem s_Downs_burst_24 (E : zX) (d : Nat) (a0 : Nat) (a1 : Nat) (j2 : Option Value) (a3 : Int32) (a4 : Int32) (h : zH) (r : zO × zH)
    (hw : ∃ o1 : Nat, fld h a0 2 0 = some (.ref o1) ∧
    ∃ x2 : Int32, fld h o1 5 3 = some (.int x2) ∧
    if x2 ≤ a4 then (
      zT E (d + 1) m_Downs_burst 59 [some (.ref a0), some (.ref a1), j2, some (.int a3), some (.int 0)] [] h r)
    else (
      isO h a0 2 = true ∧ ∃ (x3 : Int32) (h4 : zH), zT E d m_Downs_heardOf 0 [some (.ref a0), some (.ref a1), some (.int a3), some (.int a4), none, none] [] h (.inl (some (.int x3)), h4) ∧
      isO h4 a1 10 = true ∧ ∃ (h6 : zH), zT E d m_Scene_hear 0 [some (.ref a1), some (.int a4), some (.int x3)] [] h4 (.inl none, h6) ∧
      zT E (d + 1) m_Downs_burst 24 [some (.ref a0), some (.ref a1), j2, some (.int a3), some (.int (a4 + 1))] [] h6 r)) :
    zT E (d + 1) m_Downs_burst 24 [some (.ref a0), some (.ref a1), j2, some (.int a3), some (.int a4)] [] h r := by
  refine zT_st (pc' := 27) (L' := [some (.ref a0), some (.ref a1), j2, some (.int a3), some (.int a4)]) (st' := [.ref a0, .int a4]) (h' := h) 2 (fun n => rfl) ?_
  obtain ⟨o1, e, hw⟩ := hw
  refine zT_st (pc' := 30) (L' := [some (.ref a0), some (.ref a1), j2, some (.int a3), some (.int a4)]) (st' := [.ref o1, .int a4]) (h' := h) 1 (fun n => fld_eq (E := E) e _) ?_
  obtain ⟨x2, e, hw⟩ := hw
  refine zT_st (pc' := 33) (L' := [some (.ref a0), some (.ref a1), j2, some (.int a3), some (.int a4)]) (st' := [.int x2, .int a4]) (h' := h) 1 (fun n => fld_eq (E := E) e _) ?_
  by_cases hc : x2 ≤ a4
  · rw [if_pos hc] at hw
    refine zT_st (pc' := 56) (L' := [some (.ref a0), some (.ref a1), j2, some (.int a3), some (.int a4)]) (st' := []) (h' := h) 1 (fun n => if_pos hc) ?_
    exact zT_st 2 (fun n => rfl) hw
  · rw [if_neg hc] at hw
    refine zT_st (pc' := 36) (L' := [some (.ref a0), some (.ref a1), j2, some (.int a3), some (.int a4)]) (st' := []) (h' := h) 1 (fun n => if_neg hc) ?_
    refine zT_st (pc' := 44) (L' := [some (.ref a0), some (.ref a1), j2, some (.int a3), some (.int a4)]) (st' := [.int a4, .int a3, .ref a1, .ref a0, .int a4, .ref a1]) (h' := h) 6 (fun n => rfl) ?_
    obtain ⟨hq, hw⟩ := hw
    obtain ⟨x3, h4, hx, hw⟩ := hw
    refine zT_call (pc' := 47) (rest := [.int a4, .ref a1]) 1 (fun n => rfl) hq hx ?_
    show zT E (d + 1) m_Downs_burst 47 [some (.ref a0), some (.ref a1), j2, some (.int a3), some (.int a4)] [.int x3, .int a4, .ref a1] h4 r
    obtain ⟨hq, hw⟩ := hw
    obtain ⟨h6, hx, hw⟩ := hw
    refine zT_call (pc' := 50) (rest := []) 1 (fun n => rfl) hq hx ?_
    show zT E (d + 1) m_Downs_burst 50 [some (.ref a0), some (.ref a1), j2, some (.int a3), some (.int a4)] [] h6 r
    exact zT_st 2 (fun n => rfl) hw
set_option maxRecDepth 4000 in
theorem s_Downs_burst_59 (E : zX) (d : Nat) (a0 : Nat) (a1 : Nat) (j2 : Option Value) (a3 : Int32) (a4 : Int32) (h : zH) (r : zO × zH)
    (hw : ∃ o1 : Nat, fld h a0 2 0 = some (.ref o1) ∧
    ∃ x2 : Int32, fld h o1 5 4 = some (.int x2) ∧
    if x2 ≤ a4 then (
      r = (.inl (some (.int a3)), h))
    else (
      if (a3 &&& (1 <<< (a4 &&& 31))) = 0 then (
        zT E (d + 1) m_Downs_burst 59 [some (.ref a0), some (.ref a1), j2, some (.int a3), some (.int (a4 + 1))] [] h r)
      else (
        isO h a1 10 = true ∧ ∃ (h4 : zH), zT E d m_Scene_fill 0 [some (.ref a1), some (.int a4), some (.int 0), some (.int (-1))] [] h (.inl none, h4) ∧
        zT E (d + 1) m_Downs_burst 59 [some (.ref a0), some (.ref a1), j2, some (.int a3), some (.int (a4 + 1))] [] h4 r))) :
    zT E (d + 1) m_Downs_burst 59 [some (.ref a0), some (.ref a1), j2, some (.int a3), some (.int a4)] [] h r := by
  refine zT_st (pc' := 62) (L' := [some (.ref a0), some (.ref a1), j2, some (.int a3), some (.int a4)]) (st' := [.ref a0, .int a4]) (h' := h) 2 (fun n => rfl) ?_
  obtain ⟨o1, e, hw⟩ := hw
  refine zT_st (pc' := 65) (L' := [some (.ref a0), some (.ref a1), j2, some (.int a3), some (.int a4)]) (st' := [.ref o1, .int a4]) (h' := h) 1 (fun n => fld_eq (E := E) e _) ?_
  obtain ⟨x2, e, hw⟩ := hw
  refine zT_st (pc' := 68) (L' := [some (.ref a0), some (.ref a1), j2, some (.int a3), some (.int a4)]) (st' := [.int x2, .int a4]) (h' := h) 1 (fun n => fld_eq (E := E) e _) ?_
  by_cases hc : x2 ≤ a4
  · rw [if_pos hc] at hw
    refine zT_st (pc' := 94) (L' := [some (.ref a0), some (.ref a1), j2, some (.int a3), some (.int a4)]) (st' := []) (h' := h) 1 (fun n => if_pos hc) ?_
    subst hw
    exact zT_ret 2 rfl
  · rw [if_neg hc] at hw
    refine zT_st (pc' := 71) (L' := [some (.ref a0), some (.ref a1), j2, some (.int a3), some (.int a4)]) (st' := []) (h' := h) 1 (fun n => if_neg hc) ?_
    refine zT_st (pc' := 77) (L' := [some (.ref a0), some (.ref a1), j2, some (.int a3), some (.int a4)]) (st' := [.int (a3 &&& (1 <<< (a4 &&& 31)))]) (h' := h) 5 (fun n => rfl) ?_
    by_cases hc : (a3 &&& (1 <<< (a4 &&& 31))) = 0
    · rw [if_pos hc] at hw
      refine zT_st (pc' := 88) (L' := [some (.ref a0), some (.ref a1), j2, some (.int a3), some (.int a4)]) (st' := []) (h' := h) 1 (fun n => if_pos hc) ?_
      exact zT_st 2 (fun n => rfl) hw
    · rw [if_neg hc] at hw
      refine zT_st (pc' := 80) (L' := [some (.ref a0), some (.ref a1), j2, some (.int a3), some (.int a4)]) (st' := []) (h' := h) 1 (fun n => if_neg hc) ?_
      refine zT_st (pc' := 85) (L' := [some (.ref a0), some (.ref a1), j2, some (.int a3), some (.int a4)]) (st' := [.int (-1), .int 0, .int a4, .ref a1]) (h' := h) 4 (fun n => rfl) ?_
      obtain ⟨hq, hw⟩ := hw
      obtain ⟨h4, hx, hw⟩ := hw
      refine zT_call (pc' := 88) (rest := []) 1 (fun n => rfl) hq hx ?_
      show zT E (d + 1) m_Downs_burst 88 [some (.ref a0), some (.ref a1), j2, some (.int a3), some (.int a4)] [] h4 r
      exact zT_st 2 (fun n => rfl) hw
set_option maxRecDepth 4000 in
theorem s_Downs_chain_0 (E : zX) (d : Nat) (a0 : Nat) (a1 : Int32) (a2 : Int32) (h : zH) (r : zO × zH)
    (hw : zT E d m_Downs_chain 8 [some (.ref a0), some (.int a1), some (.int a2), some (.int a1), some (.int 0), some (.int 0), none] [] h r) :
    zT E d m_Downs_chain 0 [some (.ref a0), some (.int a1), some (.int a2), none, none, none, none] [] h r := by
  exact zT_st 6 (fun n => rfl) hw
set_option maxRecDepth 4000 in
theorem s_Downs_chain_8 (E : zX) (d : Nat) (a0 : Nat) (j1 : Option Value) (a2 : Int32) (a3 : Int32) (a4 : Int32) (a5 : Int32) (j6 : Option Value) (h : zH) (r : zO × zH)
    (hw : ∃ o1 : Nat, fld h a0 2 0 = some (.ref o1) ∧
    ∃ x2 : Int32, fld h o1 5 4 = some (.int x2) ∧
    if x2 ≤ a5 then (
      r = (.inl (some (.int a3)), h))
    else (
      if a3 = a4 then (
        r = (.inl (some (.int a3)), h))
      else (
        zT E d m_Downs_chain 32 [some (.ref a0), j1, some (.int a2), some (.int a3), some (.int a3), some (.int a5), some (.int 0)] [] h r))) :
    zT E d m_Downs_chain 8 [some (.ref a0), j1, some (.int a2), some (.int a3), some (.int a4), some (.int a5), j6] [] h r := by
  refine zT_st (pc' := 11) (L' := [some (.ref a0), j1, some (.int a2), some (.int a3), some (.int a4), some (.int a5), j6]) (st' := [.ref a0, .int a5]) (h' := h) 2 (fun n => rfl) ?_
  obtain ⟨o1, e, hw⟩ := hw
  refine zT_st (pc' := 14) (L' := [some (.ref a0), j1, some (.int a2), some (.int a3), some (.int a4), some (.int a5), j6]) (st' := [.ref o1, .int a5]) (h' := h) 1 (fun n => fld_eq (E := E) e _) ?_
  obtain ⟨x2, e, hw⟩ := hw
  refine zT_st (pc' := 17) (L' := [some (.ref a0), j1, some (.int a2), some (.int a3), some (.int a4), some (.int a5), j6]) (st' := [.int x2, .int a5]) (h' := h) 1 (fun n => fld_eq (E := E) e _) ?_
  by_cases hc : x2 ≤ a5
  · rw [if_pos hc] at hw
    refine zT_st (pc' := 79) (L' := [some (.ref a0), j1, some (.int a2), some (.int a3), some (.int a4), some (.int a5), j6]) (st' := []) (h' := h) 1 (fun n => if_pos hc) ?_
    subst hw
    exact zT_ret 2 rfl
  · rw [if_neg hc] at hw
    refine zT_st (pc' := 20) (L' := [some (.ref a0), j1, some (.int a2), some (.int a3), some (.int a4), some (.int a5), j6]) (st' := []) (h' := h) 1 (fun n => if_neg hc) ?_
    refine zT_st (pc' := 23) (L' := [some (.ref a0), j1, some (.int a2), some (.int a3), some (.int a4), some (.int a5), j6]) (st' := [.int a4, .int a3]) (h' := h) 2 (fun n => rfl) ?_
    by_cases hc : a3 = a4
    · rw [if_pos hc] at hw
      refine zT_st (pc' := 79) (L' := [some (.ref a0), j1, some (.int a2), some (.int a3), some (.int a4), some (.int a5), j6]) (st' := []) (h' := h) 1 (fun n => if_pos hc) ?_
      subst hw
      exact zT_ret 2 rfl
    · rw [if_neg hc] at hw
      refine zT_st (pc' := 26) (L' := [some (.ref a0), j1, some (.int a2), some (.int a3), some (.int a4), some (.int a5), j6]) (st' := []) (h' := h) 1 (fun n => if_neg hc) ?_
      exact zT_st 4 (fun n => rfl) hw
set_option maxRecDepth 4000 in
theorem s_Downs_chain_32 (E : zX) (d : Nat) (a0 : Nat) (j1 : Option Value) (a2 : Int32) (a3 : Int32) (a4 : Int32) (a5 : Int32) (a6 : Int32) (h : zH) (r : zO × zH)
    (hw : ∃ o1 : Nat, fld h a0 2 0 = some (.ref o1) ∧
    ∃ x2 : Int32, fld h o1 5 4 = some (.int x2) ∧
    if x2 ≤ a6 then (
      zT E d m_Downs_chain 8 [some (.ref a0), j1, some (.int a2), some (.int a3), some (.int a4), some (.int (a5 + 1)), some (.int a6)] [] h r)
    else (
      if (a3 &&& (1 <<< (a6 &&& 31))) = 0 then (
        zT E d m_Downs_chain 32 [some (.ref a0), j1, some (.int a2), some (.int a3), some (.int a4), some (.int a5), some (.int (a6 + 1))] [] h r)
      else (
        ∃ o3 : Nat, fld h a0 2 2 = some (.ref o3) ∧
        ∃ (n4 : Nat) (f5 : Nat → Int32), arr h o3 = some (n4, f5) ∧ ¬ (a6 < 0 ∨ n4 ≤ (a6).toNatClampNeg) ∧
        zT E d m_Downs_chain 32 [some (.ref a0), j1, some (.int a2), some (.int (a3 ||| ((f5 (a6).toNatClampNeg) &&& (a2 ^^^ (-1))))), some (.int a4), some (.int a5), some (.int (a6 + 1))] [] h r))) :
    zT E d m_Downs_chain 32 [some (.ref a0), j1, some (.int a2), some (.int a3), some (.int a4), some (.int a5), some (.int a6)] [] h r := by
  refine zT_st (pc' := 35) (L' := [some (.ref a0), j1, some (.int a2), some (.int a3), some (.int a4), some (.int a5), some (.int a6)]) (st' := [.ref a0, .int a6]) (h' := h) 2 (fun n => rfl) ?_
  obtain ⟨o1, e, hw⟩ := hw
  refine zT_st (pc' := 38) (L' := [some (.ref a0), j1, some (.int a2), some (.int a3), some (.int a4), some (.int a5), some (.int a6)]) (st' := [.ref o1, .int a6]) (h' := h) 1 (fun n => fld_eq (E := E) e _) ?_
  obtain ⟨x2, e, hw⟩ := hw
  refine zT_st (pc' := 41) (L' := [some (.ref a0), j1, some (.int a2), some (.int a3), some (.int a4), some (.int a5), some (.int a6)]) (st' := [.int x2, .int a6]) (h' := h) 1 (fun n => fld_eq (E := E) e _) ?_
  by_cases hc : x2 ≤ a6
  · rw [if_pos hc] at hw
    refine zT_st (pc' := 73) (L' := [some (.ref a0), j1, some (.int a2), some (.int a3), some (.int a4), some (.int a5), some (.int a6)]) (st' := []) (h' := h) 1 (fun n => if_pos hc) ?_
    exact zT_st 2 (fun n => rfl) hw
  · rw [if_neg hc] at hw
    refine zT_st (pc' := 44) (L' := [some (.ref a0), j1, some (.int a2), some (.int a3), some (.int a4), some (.int a5), some (.int a6)]) (st' := []) (h' := h) 1 (fun n => if_neg hc) ?_
    refine zT_st (pc' := 50) (L' := [some (.ref a0), j1, some (.int a2), some (.int a3), some (.int a4), some (.int a5), some (.int a6)]) (st' := [.int (a3 &&& (1 <<< (a6 &&& 31)))]) (h' := h) 5 (fun n => rfl) ?_
    by_cases hc : (a3 &&& (1 <<< (a6 &&& 31))) = 0
    · rw [if_pos hc] at hw
      refine zT_st (pc' := 67) (L' := [some (.ref a0), j1, some (.int a2), some (.int a3), some (.int a4), some (.int a5), some (.int a6)]) (st' := []) (h' := h) 1 (fun n => if_pos hc) ?_
      exact zT_st 2 (fun n => rfl) hw
    · rw [if_neg hc] at hw
      refine zT_st (pc' := 53) (L' := [some (.ref a0), j1, some (.int a2), some (.int a3), some (.int a4), some (.int a5), some (.int a6)]) (st' := []) (h' := h) 1 (fun n => if_neg hc) ?_
      refine zT_st (pc' := 55) (L' := [some (.ref a0), j1, some (.int a2), some (.int a3), some (.int a4), some (.int a5), some (.int a6)]) (st' := [.ref a0, .int a3]) (h' := h) 2 (fun n => rfl) ?_
      obtain ⟨o3, e, hw⟩ := hw
      refine zT_st (pc' := 58) (L' := [some (.ref a0), j1, some (.int a2), some (.int a3), some (.int a4), some (.int a5), some (.int a6)]) (st' := [.ref o3, .int a3]) (h' := h) 1 (fun n => fld_eq (E := E) e _) ?_
      refine zT_st (pc' := 60) (L' := [some (.ref a0), j1, some (.int a2), some (.int a3), some (.int a4), some (.int a5), some (.int a6)]) (st' := [.int a6, .ref o3, .int a3]) (h' := h) 1 (fun n => rfl) ?_
      obtain ⟨n4, f5, e, hi, hw⟩ := hw
      refine zT_st (pc' := 61) (L' := [some (.ref a0), j1, some (.int a2), some (.int a3), some (.int a4), some (.int a5), some (.int a6)]) (st' := [.int (f5 (a6).toNatClampNeg), .int a3]) (h' := h) 1 (fun n => arr_eq (E := E) e hi [.int a3] (fun st => zrun zP zCd E n d m_Downs_chain 61 [some (.ref a0), j1, some (.int a2), some (.int a3), some (.int a4), some (.int a5), some (.int a6)] st h)) ?_
      exact zT_st 8 (fun n => rfl) hw
set_option maxRecDepth 4000 in
theorem s_Downs_heardOf_0 (E : zX) (d : Nat) (a0 : Nat) (a1 : Nat) (a2 : Int32) (a3 : Int32) (h : zH) (r : zO × zH)
    (hw : zT E (d + 1) m_Downs_heardOf 6 [some (.ref a0), some (.ref a1), some (.int a2), some (.int a3), some (.int 0), some (.int 0)] [] h r) :
    zT E (d + 1) m_Downs_heardOf 0 [some (.ref a0), some (.ref a1), some (.int a2), some (.int a3), none, none] [] h r := by
  exact zT_st 4 (fun n => rfl) hw
set_option maxRecDepth 4000 in
theorem s_Downs_heardOf_6 (E : zX) (d : Nat) (a0 : Nat) (a1 : Nat) (a2 : Int32) (a3 : Int32) (a4 : Int32) (a5 : Int32) (h : zH) (r : zO × zH)
    (hw : ∃ o1 : Nat, fld h a0 2 0 = some (.ref o1) ∧
    ∃ x2 : Int32, fld h o1 5 4 = some (.int x2) ∧
    if x2 ≤ a5 then (
      r = (.inl (some (.int a4)), h))
    else (
      if (a2 &&& (1 <<< (a5 &&& 31))) = 0 then (
        zT E (d + 1) m_Downs_heardOf 6 [some (.ref a0), some (.ref a1), some (.int a2), some (.int a3), some (.int a4), some (.int (a5 + 1))] [] h r)
      else (
        ∃ o3 : Nat, fld h a0 2 0 = some (.ref o3) ∧
        ∃ o4 : Nat, fld h o3 5 5 = some (.ref o4) ∧
        ∃ (n5 : Nat) (f6 : Nat → Int32), arr h o4 = some (n5, f6) ∧ ¬ (a3 < 0 ∨ n5 ≤ (a3).toNatClampNeg) ∧
        isO h a0 2 = true ∧ ∃ (x7 : Int32) (h8 : zH), zT E d m_Downs_reaches 0 [some (.ref a0), some (.ref a1), some (.int a5), some (.int (f6 (a3).toNatClampNeg))] [] h (.inl (some (.int x7)), h8) ∧
        if x7 = 0 then (
          zT E (d + 1) m_Downs_heardOf 6 [some (.ref a0), some (.ref a1), some (.int a2), some (.int a3), some (.int a4), some (.int (a5 + 1))] [] h8 r)
        else (
          zT E (d + 1) m_Downs_heardOf 6 [some (.ref a0), some (.ref a1), some (.int a2), some (.int a3), some (.int (a4 + 1)), some (.int (a5 + 1))] [] h8 r)))) :
    zT E (d + 1) m_Downs_heardOf 6 [some (.ref a0), some (.ref a1), some (.int a2), some (.int a3), some (.int a4), some (.int a5)] [] h r := by
  refine zT_st (pc' := 9) (L' := [some (.ref a0), some (.ref a1), some (.int a2), some (.int a3), some (.int a4), some (.int a5)]) (st' := [.ref a0, .int a5]) (h' := h) 2 (fun n => rfl) ?_
  obtain ⟨o1, e, hw⟩ := hw
  refine zT_st (pc' := 12) (L' := [some (.ref a0), some (.ref a1), some (.int a2), some (.int a3), some (.int a4), some (.int a5)]) (st' := [.ref o1, .int a5]) (h' := h) 1 (fun n => fld_eq (E := E) e _) ?_
  obtain ⟨x2, e, hw⟩ := hw
  refine zT_st (pc' := 15) (L' := [some (.ref a0), some (.ref a1), some (.int a2), some (.int a3), some (.int a4), some (.int a5)]) (st' := [.int x2, .int a5]) (h' := h) 1 (fun n => fld_eq (E := E) e _) ?_
  by_cases hc : x2 ≤ a5
  · rw [if_pos hc] at hw
    refine zT_st (pc' := 55) (L' := [some (.ref a0), some (.ref a1), some (.int a2), some (.int a3), some (.int a4), some (.int a5)]) (st' := []) (h' := h) 1 (fun n => if_pos hc) ?_
    subst hw
    exact zT_ret 2 rfl
  · rw [if_neg hc] at hw
    refine zT_st (pc' := 18) (L' := [some (.ref a0), some (.ref a1), some (.int a2), some (.int a3), some (.int a4), some (.int a5)]) (st' := []) (h' := h) 1 (fun n => if_neg hc) ?_
    refine zT_st (pc' := 24) (L' := [some (.ref a0), some (.ref a1), some (.int a2), some (.int a3), some (.int a4), some (.int a5)]) (st' := [.int (a2 &&& (1 <<< (a5 &&& 31)))]) (h' := h) 5 (fun n => rfl) ?_
    by_cases hc : (a2 &&& (1 <<< (a5 &&& 31))) = 0
    · rw [if_pos hc] at hw
      refine zT_st (pc' := 49) (L' := [some (.ref a0), some (.ref a1), some (.int a2), some (.int a3), some (.int a4), some (.int a5)]) (st' := []) (h' := h) 1 (fun n => if_pos hc) ?_
      exact zT_st 2 (fun n => rfl) hw
    · rw [if_neg hc] at hw
      refine zT_st (pc' := 27) (L' := [some (.ref a0), some (.ref a1), some (.int a2), some (.int a3), some (.int a4), some (.int a5)]) (st' := []) (h' := h) 1 (fun n => if_neg hc) ?_
      refine zT_st (pc' := 32) (L' := [some (.ref a0), some (.ref a1), some (.int a2), some (.int a3), some (.int a4), some (.int a5)]) (st' := [.ref a0, .int a5, .ref a1, .ref a0]) (h' := h) 4 (fun n => rfl) ?_
      obtain ⟨o3, e, hw⟩ := hw
      refine zT_st (pc' := 35) (L' := [some (.ref a0), some (.ref a1), some (.int a2), some (.int a3), some (.int a4), some (.int a5)]) (st' := [.ref o3, .int a5, .ref a1, .ref a0]) (h' := h) 1 (fun n => fld_eq (E := E) e _) ?_
      obtain ⟨o4, e, hw⟩ := hw
      refine zT_st (pc' := 38) (L' := [some (.ref a0), some (.ref a1), some (.int a2), some (.int a3), some (.int a4), some (.int a5)]) (st' := [.ref o4, .int a5, .ref a1, .ref a0]) (h' := h) 1 (fun n => fld_eq (E := E) e _) ?_
      refine zT_st (pc' := 39) (L' := [some (.ref a0), some (.ref a1), some (.int a2), some (.int a3), some (.int a4), some (.int a5)]) (st' := [.int a3, .ref o4, .int a5, .ref a1, .ref a0]) (h' := h) 1 (fun n => rfl) ?_
      obtain ⟨n5, f6, e, hi, hw⟩ := hw
      refine zT_st (pc' := 40) (L' := [some (.ref a0), some (.ref a1), some (.int a2), some (.int a3), some (.int a4), some (.int a5)]) (st' := [.int (f6 (a3).toNatClampNeg), .int a5, .ref a1, .ref a0]) (h' := h) 1 (fun n => arr_eq (E := E) e hi [.int a5, .ref a1, .ref a0] (fun st => zrun zP zCd E n (d + 1) m_Downs_heardOf 40 [some (.ref a0), some (.ref a1), some (.int a2), some (.int a3), some (.int a4), some (.int a5)] st h)) ?_
      obtain ⟨hq, hw⟩ := hw
      obtain ⟨x7, h8, hx, hw⟩ := hw
      refine zT_call (pc' := 43) (rest := []) 1 (fun n => rfl) hq hx ?_
      show zT E (d + 1) m_Downs_heardOf 43 [some (.ref a0), some (.ref a1), some (.int a2), some (.int a3), some (.int a4), some (.int a5)] [.int x7] h8 r
      by_cases hc : x7 = 0
      · rw [if_pos hc] at hw
        refine zT_st (pc' := 49) (L' := [some (.ref a0), some (.ref a1), some (.int a2), some (.int a3), some (.int a4), some (.int a5)]) (st' := []) (h' := h8) 1 (fun n => if_pos hc) ?_
        exact zT_st 2 (fun n => rfl) hw
      · rw [if_neg hc] at hw
        refine zT_st (pc' := 46) (L' := [some (.ref a0), some (.ref a1), some (.int a2), some (.int a3), some (.int a4), some (.int a5)]) (st' := []) (h' := h8) 1 (fun n => if_neg hc) ?_
        exact zT_st 3 (fun n => rfl) hw
set_option maxRecDepth 4000 in
theorem s_Downs_whites_0 (E : zX) (d : Nat) (a0 : Nat) (a1 : Nat) (h : zH) (r : zO × zH)
    (hw : zT E (d + 1) m_Downs_whites 4 [some (.ref a0), some (.ref a1), some (.int 0), some (.int 0)] [] h r) :
    zT E (d + 1) m_Downs_whites 0 [some (.ref a0), some (.ref a1), none, none] [] h r := by
  exact zT_st 4 (fun n => rfl) hw
set_option maxRecDepth 4000 in
theorem s_Downs_whites_4 (E : zX) (d : Nat) (a0 : Nat) (a1 : Nat) (a2 : Int32) (a3 : Int32) (h : zH) (r : zO × zH)
    (hw : ∃ o1 : Nat, fld h a0 2 0 = some (.ref o1) ∧
    ∃ x2 : Int32, fld h o1 5 4 = some (.int x2) ∧
    if x2 ≤ a3 then (
      r = (.inl (some (.int a2)), h))
    else (
      isO h a1 10 = true ∧ ∃ (x3 : Int32) (h4 : zH), zT E d m_Scene_isWhite 0 [some (.ref a1), some (.int a3)] [] h (.inl (some (.int x3)), h4) ∧
      if x3 = 0 then (
        zT E (d + 1) m_Downs_whites 4 [some (.ref a0), some (.ref a1), some (.int a2), some (.int (a3 + 1))] [] h4 r)
      else (
        zT E (d + 1) m_Downs_whites 4 [some (.ref a0), some (.ref a1), some (.int (a2 ||| (1 <<< (a3 &&& 31)))), some (.int (a3 + 1))] [] h4 r))) :
    zT E (d + 1) m_Downs_whites 4 [some (.ref a0), some (.ref a1), some (.int a2), some (.int a3)] [] h r := by
  refine zT_st (pc' := 6) (L' := [some (.ref a0), some (.ref a1), some (.int a2), some (.int a3)]) (st' := [.ref a0, .int a3]) (h' := h) 2 (fun n => rfl) ?_
  obtain ⟨o1, e, hw⟩ := hw
  refine zT_st (pc' := 9) (L' := [some (.ref a0), some (.ref a1), some (.int a2), some (.int a3)]) (st' := [.ref o1, .int a3]) (h' := h) 1 (fun n => fld_eq (E := E) e _) ?_
  obtain ⟨x2, e, hw⟩ := hw
  refine zT_st (pc' := 12) (L' := [some (.ref a0), some (.ref a1), some (.int a2), some (.int a3)]) (st' := [.int x2, .int a3]) (h' := h) 1 (fun n => fld_eq (E := E) e _) ?_
  by_cases hc : x2 ≤ a3
  · rw [if_pos hc] at hw
    refine zT_st (pc' := 35) (L' := [some (.ref a0), some (.ref a1), some (.int a2), some (.int a3)]) (st' := []) (h' := h) 1 (fun n => if_pos hc) ?_
    subst hw
    exact zT_ret 2 rfl
  · rw [if_neg hc] at hw
    refine zT_st (pc' := 15) (L' := [some (.ref a0), some (.ref a1), some (.int a2), some (.int a3)]) (st' := []) (h' := h) 1 (fun n => if_neg hc) ?_
    refine zT_st (pc' := 17) (L' := [some (.ref a0), some (.ref a1), some (.int a2), some (.int a3)]) (st' := [.int a3, .ref a1]) (h' := h) 2 (fun n => rfl) ?_
    obtain ⟨hq, hw⟩ := hw
    obtain ⟨x3, h4, hx, hw⟩ := hw
    refine zT_call (pc' := 20) (rest := []) 1 (fun n => rfl) hq hx ?_
    show zT E (d + 1) m_Downs_whites 20 [some (.ref a0), some (.ref a1), some (.int a2), some (.int a3)] [.int x3] h4 r
    by_cases hc : x3 = 0
    · rw [if_pos hc] at hw
      refine zT_st (pc' := 29) (L' := [some (.ref a0), some (.ref a1), some (.int a2), some (.int a3)]) (st' := []) (h' := h4) 1 (fun n => if_pos hc) ?_
      exact zT_st 2 (fun n => rfl) hw
    · rw [if_neg hc] at hw
      refine zT_st (pc' := 23) (L' := [some (.ref a0), some (.ref a1), some (.int a2), some (.int a3)]) (st' := []) (h' := h4) 1 (fun n => if_neg hc) ?_
      exact zT_st 8 (fun n => rfl) hw
set_option maxRecDepth 4000 in
theorem s_Downs_heldByAll_0 (E : zX) (d : Nat) (a0 : Nat) (a1 : Nat) (h : zH) (r : zO × zH)
    (hw : zT E (d + 1) m_Downs_heldByAll 4 [some (.ref a0), some (.ref a1), some (.int 0), some (.int 0)] [] h r) :
    zT E (d + 1) m_Downs_heldByAll 0 [some (.ref a0), some (.ref a1), none, none] [] h r := by
  exact zT_st 4 (fun n => rfl) hw
set_option maxRecDepth 4000 in
theorem s_Downs_heldByAll_4 (E : zX) (d : Nat) (a0 : Nat) (a1 : Nat) (a2 : Int32) (a3 : Int32) (h : zH) (r : zO × zH)
    (hw : ∃ o1 : Nat, fld h a0 2 0 = some (.ref o1) ∧
    ∃ x2 : Int32, fld h o1 5 4 = some (.int x2) ∧
    if x2 ≤ a3 then (
      r = (.inl (some (.int a2)), h))
    else (
      isO h a1 10 = true ∧ ∃ (x3 : Int32) (h4 : zH), zT E d m_Scene_heldIn 0 [some (.ref a1), some (.int a3)] [] h (.inl (some (.int x3)), h4) ∧
      zT E (d + 1) m_Downs_heldByAll 4 [some (.ref a0), some (.ref a1), some (.int (a2 + x3)), some (.int (a3 + 1))] [] h4 r)) :
    zT E (d + 1) m_Downs_heldByAll 4 [some (.ref a0), some (.ref a1), some (.int a2), some (.int a3)] [] h r := by
  refine zT_st (pc' := 6) (L' := [some (.ref a0), some (.ref a1), some (.int a2), some (.int a3)]) (st' := [.ref a0, .int a3]) (h' := h) 2 (fun n => rfl) ?_
  obtain ⟨o1, e, hw⟩ := hw
  refine zT_st (pc' := 9) (L' := [some (.ref a0), some (.ref a1), some (.int a2), some (.int a3)]) (st' := [.ref o1, .int a3]) (h' := h) 1 (fun n => fld_eq (E := E) e _) ?_
  obtain ⟨x2, e, hw⟩ := hw
  refine zT_st (pc' := 12) (L' := [some (.ref a0), some (.ref a1), some (.int a2), some (.int a3)]) (st' := [.int x2, .int a3]) (h' := h) 1 (fun n => fld_eq (E := E) e _) ?_
  by_cases hc : x2 ≤ a3
  · rw [if_pos hc] at hw
    refine zT_st (pc' := 29) (L' := [some (.ref a0), some (.ref a1), some (.int a2), some (.int a3)]) (st' := []) (h' := h) 1 (fun n => if_pos hc) ?_
    subst hw
    exact zT_ret 2 rfl
  · rw [if_neg hc] at hw
    refine zT_st (pc' := 15) (L' := [some (.ref a0), some (.ref a1), some (.int a2), some (.int a3)]) (st' := []) (h' := h) 1 (fun n => if_neg hc) ?_
    refine zT_st (pc' := 18) (L' := [some (.ref a0), some (.ref a1), some (.int a2), some (.int a3)]) (st' := [.int a3, .ref a1, .int a2]) (h' := h) 3 (fun n => rfl) ?_
    obtain ⟨hq, hw⟩ := hw
    obtain ⟨x3, h4, hx, hw⟩ := hw
    refine zT_call (pc' := 21) (rest := [.int a2]) 1 (fun n => rfl) hq hx ?_
    show zT E (d + 1) m_Downs_heldByAll 21 [some (.ref a0), some (.ref a1), some (.int a2), some (.int a3)] [.int x3, .int a2] h4 r
    exact zT_st 4 (fun n => rfl) hw
set_option maxRecDepth 4000 in
theorem s_Downs_temperOfAll_0 (E : zX) (d : Nat) (a0 : Nat) (a1 : Nat) (h : zH) (r : zO × zH)
    (hw : zT E (d + 1) m_Downs_temperOfAll 4 [some (.ref a0), some (.ref a1), some (.int 0), some (.int 0)] [] h r) :
    zT E (d + 1) m_Downs_temperOfAll 0 [some (.ref a0), some (.ref a1), none, none] [] h r := by
  exact zT_st 4 (fun n => rfl) hw
set_option maxRecDepth 4000 in
theorem s_Downs_temperOfAll_4 (E : zX) (d : Nat) (a0 : Nat) (a1 : Nat) (a2 : Int32) (a3 : Int32) (h : zH) (r : zO × zH)
    (hw : ∃ o1 : Nat, fld h a0 2 0 = some (.ref o1) ∧
    ∃ x2 : Int32, fld h o1 5 3 = some (.int x2) ∧
    if x2 ≤ a3 then (
      r = (.inl (some (.int a2)), h))
    else (
      isO h a1 10 = true ∧ ∃ (x3 : Int32) (h4 : zH), zT E d m_Scene_temperOf 0 [some (.ref a1), some (.int a3)] [] h (.inl (some (.int x3)), h4) ∧
      zT E (d + 1) m_Downs_temperOfAll 4 [some (.ref a0), some (.ref a1), some (.int (a2 + x3)), some (.int (a3 + 1))] [] h4 r)) :
    zT E (d + 1) m_Downs_temperOfAll 4 [some (.ref a0), some (.ref a1), some (.int a2), some (.int a3)] [] h r := by
  refine zT_st (pc' := 6) (L' := [some (.ref a0), some (.ref a1), some (.int a2), some (.int a3)]) (st' := [.ref a0, .int a3]) (h' := h) 2 (fun n => rfl) ?_
  obtain ⟨o1, e, hw⟩ := hw
  refine zT_st (pc' := 9) (L' := [some (.ref a0), some (.ref a1), some (.int a2), some (.int a3)]) (st' := [.ref o1, .int a3]) (h' := h) 1 (fun n => fld_eq (E := E) e _) ?_
  obtain ⟨x2, e, hw⟩ := hw
  refine zT_st (pc' := 12) (L' := [some (.ref a0), some (.ref a1), some (.int a2), some (.int a3)]) (st' := [.int x2, .int a3]) (h' := h) 1 (fun n => fld_eq (E := E) e _) ?_
  by_cases hc : x2 ≤ a3
  · rw [if_pos hc] at hw
    refine zT_st (pc' := 29) (L' := [some (.ref a0), some (.ref a1), some (.int a2), some (.int a3)]) (st' := []) (h' := h) 1 (fun n => if_pos hc) ?_
    subst hw
    exact zT_ret 2 rfl
  · rw [if_neg hc] at hw
    refine zT_st (pc' := 15) (L' := [some (.ref a0), some (.ref a1), some (.int a2), some (.int a3)]) (st' := []) (h' := h) 1 (fun n => if_neg hc) ?_
    refine zT_st (pc' := 18) (L' := [some (.ref a0), some (.ref a1), some (.int a2), some (.int a3)]) (st' := [.int a3, .ref a1, .int a2]) (h' := h) 3 (fun n => rfl) ?_
    obtain ⟨hq, hw⟩ := hw
    obtain ⟨x3, h4, hx, hw⟩ := hw
    refine zT_call (pc' := 21) (rest := [.int a2]) 1 (fun n => rfl) hq hx ?_
    show zT E (d + 1) m_Downs_temperOfAll 21 [some (.ref a0), some (.ref a1), some (.int a2), some (.int a3)] [.int x3, .int a2] h4 r
    exact zT_st 4 (fun n => rfl) hw
set_option maxRecDepth 4000 in
theorem s_Downs_shoutedByAll_0 (E : zX) (d : Nat) (a0 : Nat) (a1 : Nat) (h : zH) (r : zO × zH)
    (hw : zT E (d + 1) m_Downs_shoutedByAll 4 [some (.ref a0), some (.ref a1), some (.int 0), some (.int 0)] [] h r) :
    zT E (d + 1) m_Downs_shoutedByAll 0 [some (.ref a0), some (.ref a1), none, none] [] h r := by
  exact zT_st 4 (fun n => rfl) hw
set_option maxRecDepth 4000 in
theorem s_Downs_shoutedByAll_4 (E : zX) (d : Nat) (a0 : Nat) (a1 : Nat) (a2 : Int32) (a3 : Int32) (h : zH) (r : zO × zH)
    (hw : ∃ o1 : Nat, fld h a0 2 0 = some (.ref o1) ∧
    ∃ x2 : Int32, fld h o1 5 3 = some (.int x2) ∧
    if x2 ≤ a3 then (
      r = (.inl (some (.int a2)), h))
    else (
      isO h a1 10 = true ∧ ∃ (x3 : Int32) (h4 : zH), zT E d m_Scene_shoutedBy 0 [some (.ref a1), some (.int a3)] [] h (.inl (some (.int x3)), h4) ∧
      zT E (d + 1) m_Downs_shoutedByAll 4 [some (.ref a0), some (.ref a1), some (.int (a2 + x3)), some (.int (a3 + 1))] [] h4 r)) :
    zT E (d + 1) m_Downs_shoutedByAll 4 [some (.ref a0), some (.ref a1), some (.int a2), some (.int a3)] [] h r := by
  refine zT_st (pc' := 6) (L' := [some (.ref a0), some (.ref a1), some (.int a2), some (.int a3)]) (st' := [.ref a0, .int a3]) (h' := h) 2 (fun n => rfl) ?_
  obtain ⟨o1, e, hw⟩ := hw
  refine zT_st (pc' := 9) (L' := [some (.ref a0), some (.ref a1), some (.int a2), some (.int a3)]) (st' := [.ref o1, .int a3]) (h' := h) 1 (fun n => fld_eq (E := E) e _) ?_
  obtain ⟨x2, e, hw⟩ := hw
  refine zT_st (pc' := 12) (L' := [some (.ref a0), some (.ref a1), some (.int a2), some (.int a3)]) (st' := [.int x2, .int a3]) (h' := h) 1 (fun n => fld_eq (E := E) e _) ?_
  by_cases hc : x2 ≤ a3
  · rw [if_pos hc] at hw
    refine zT_st (pc' := 29) (L' := [some (.ref a0), some (.ref a1), some (.int a2), some (.int a3)]) (st' := []) (h' := h) 1 (fun n => if_pos hc) ?_
    subst hw
    exact zT_ret 2 rfl
  · rw [if_neg hc] at hw
    refine zT_st (pc' := 15) (L' := [some (.ref a0), some (.ref a1), some (.int a2), some (.int a3)]) (st' := []) (h' := h) 1 (fun n => if_neg hc) ?_
    refine zT_st (pc' := 18) (L' := [some (.ref a0), some (.ref a1), some (.int a2), some (.int a3)]) (st' := [.int a3, .ref a1, .int a2]) (h' := h) 3 (fun n => rfl) ?_
    obtain ⟨hq, hw⟩ := hw
    obtain ⟨x3, h4, hx, hw⟩ := hw
    refine zT_call (pc' := 21) (rest := [.int a2]) 1 (fun n => rfl) hq hx ?_
    show zT E (d + 1) m_Downs_shoutedByAll 21 [some (.ref a0), some (.ref a1), some (.int a2), some (.int a3)] [.int x3, .int a2] h4 r
    exact zT_st 4 (fun n => rfl) hw
set_option maxRecDepth 4000 in
theorem s_Downs_ownedBy_0 (E : zX) (d : Nat) (a0 : Nat) (a1 : Nat) (a2 : Int32) (h : zH) (r : zO × zH)
    (hw : zT E (d + 1) m_Downs_ownedBy 5 [some (.ref a0), some (.ref a1), some (.int a2), some (.int 0), some (.int 0)] [] h r) :
    zT E (d + 1) m_Downs_ownedBy 0 [some (.ref a0), some (.ref a1), some (.int a2), none, none] [] h r := by
  exact zT_st 4 (fun n => rfl) hw
set_option maxRecDepth 4000 in
theorem s_Downs_ownedBy_5 (E : zX) (d : Nat) (a0 : Nat) (a1 : Nat) (a2 : Int32) (a3 : Int32) (a4 : Int32) (h : zH) (r : zO × zH)
    (hw : ∃ o1 : Nat, fld h a0 2 0 = some (.ref o1) ∧
    ∃ x2 : Int32, fld h o1 5 4 = some (.int x2) ∧
    if x2 ≤ a4 then (
      r = (.inl (some (.int a3)), h))
    else (
      isO h a1 10 = true ∧ ∃ (x3 : Int32) (h4 : zH), zT E d m_Scene_ownerOf 0 [some (.ref a1), some (.int a4)] [] h (.inl (some (.int x3)), h4) ∧
      if x3 = a2 then (
        zT E (d + 1) m_Downs_ownedBy 5 [some (.ref a0), some (.ref a1), some (.int a2), some (.int (a3 ||| (1 <<< (a4 &&& 31)))), some (.int (a4 + 1))] [] h4 r)
      else (
        zT E (d + 1) m_Downs_ownedBy 5 [some (.ref a0), some (.ref a1), some (.int a2), some (.int a3), some (.int (a4 + 1))] [] h4 r))) :
    zT E (d + 1) m_Downs_ownedBy 5 [some (.ref a0), some (.ref a1), some (.int a2), some (.int a3), some (.int a4)] [] h r := by
  refine zT_st (pc' := 8) (L' := [some (.ref a0), some (.ref a1), some (.int a2), some (.int a3), some (.int a4)]) (st' := [.ref a0, .int a4]) (h' := h) 2 (fun n => rfl) ?_
  obtain ⟨o1, e, hw⟩ := hw
  refine zT_st (pc' := 11) (L' := [some (.ref a0), some (.ref a1), some (.int a2), some (.int a3), some (.int a4)]) (st' := [.ref o1, .int a4]) (h' := h) 1 (fun n => fld_eq (E := E) e _) ?_
  obtain ⟨x2, e, hw⟩ := hw
  refine zT_st (pc' := 14) (L' := [some (.ref a0), some (.ref a1), some (.int a2), some (.int a3), some (.int a4)]) (st' := [.int x2, .int a4]) (h' := h) 1 (fun n => fld_eq (E := E) e _) ?_
  by_cases hc : x2 ≤ a4
  · rw [if_pos hc] at hw
    refine zT_st (pc' := 40) (L' := [some (.ref a0), some (.ref a1), some (.int a2), some (.int a3), some (.int a4)]) (st' := []) (h' := h) 1 (fun n => if_pos hc) ?_
    subst hw
    exact zT_ret 2 rfl
  · rw [if_neg hc] at hw
    refine zT_st (pc' := 17) (L' := [some (.ref a0), some (.ref a1), some (.int a2), some (.int a3), some (.int a4)]) (st' := []) (h' := h) 1 (fun n => if_neg hc) ?_
    refine zT_st (pc' := 20) (L' := [some (.ref a0), some (.ref a1), some (.int a2), some (.int a3), some (.int a4)]) (st' := [.int a4, .ref a1]) (h' := h) 2 (fun n => rfl) ?_
    obtain ⟨hq, hw⟩ := hw
    obtain ⟨x3, h4, hx, hw⟩ := hw
    refine zT_call (pc' := 23) (rest := []) 1 (fun n => rfl) hq hx ?_
    show zT E (d + 1) m_Downs_ownedBy 23 [some (.ref a0), some (.ref a1), some (.int a2), some (.int a3), some (.int a4)] [.int x3] h4 r
    refine zT_st (pc' := 24) (L' := [some (.ref a0), some (.ref a1), some (.int a2), some (.int a3), some (.int a4)]) (st' := [.int a2, .int x3]) (h' := h4) 1 (fun n => rfl) ?_
    by_cases hc : x3 = a2
    · rw [if_pos hc] at hw
      refine zT_st (pc' := 27) (L' := [some (.ref a0), some (.ref a1), some (.int a2), some (.int a3), some (.int a4)]) (st' := []) (h' := h4) 1 (fun n => if_pos hc) ?_
      exact zT_st 8 (fun n => rfl) hw
    · rw [if_neg hc] at hw
      refine zT_st (pc' := 34) (L' := [some (.ref a0), some (.ref a1), some (.int a2), some (.int a3), some (.int a4)]) (st' := []) (h' := h4) 1 (fun n => if_neg hc) ?_
      exact zT_st 2 (fun n => rfl) hw
set_option maxRecDepth 4000 in
theorem s_Downs_setOffBy_0 (E : zX) (d : Nat) (a0 : Nat) (a1 : Nat) (a2 : Int32) (h : zH) (r : zO × zH)
    (hw : isO h a1 10 = true ∧ ∃ (x1 : Int32) (h2 : zH), zT E d m_Scene_isWhite 0 [some (.ref a1), some (.int a2)] [] h (.inl (some (.int x1)), h2) ∧
    if x1 = 0 then (
      isO h2 a0 2 = true ∧ ∃ (h4 : zH), zT E d m_Downs_link 0 [some (.ref a0), some (.ref a1), none, none] [] h2 (.inl none, h4) ∧
      isO h4 a1 10 = true ∧ ∃ (x5 : Int32) (h6 : zH), zT E d m_Scene_guards 0 [some (.ref a1)] [] h4 (.inl (some (.int x5)), h6) ∧
      isO h6 a0 2 = true ∧ ∃ (x7 : Int32) (h8 : zH), zT E d m_Downs_chain 0 [some (.ref a0), some (.int (1 <<< (a2 &&& 31))), some (.int x5), none, none, none, none] [] h6 (.inl (some (.int x7)), h8) ∧
      r = (.inl (some (.int x7)), h8))
    else (
      r = (.inl (some (.int 0)), h2))) :
    zT E (d + 1) m_Downs_setOffBy 0 [some (.ref a0), some (.ref a1), some (.int a2)] [] h r := by
  refine zT_st (pc' := 2) (L' := [some (.ref a0), some (.ref a1), some (.int a2)]) (st' := [.int a2, .ref a1]) (h' := h) 2 (fun n => rfl) ?_
  obtain ⟨hq, hw⟩ := hw
  obtain ⟨x1, h2, hx, hw⟩ := hw
  refine zT_call (pc' := 5) (rest := []) 1 (fun n => rfl) hq hx ?_
  show zT E (d + 1) m_Downs_setOffBy 5 [some (.ref a0), some (.ref a1), some (.int a2)] [.int x1] h2 r
  by_cases hc : x1 = 0
  · rw [if_pos hc] at hw
    refine zT_st (pc' := 10) (L' := [some (.ref a0), some (.ref a1), some (.int a2)]) (st' := []) (h' := h2) 1 (fun n => if_pos hc) ?_
    refine zT_st (pc' := 12) (L' := [some (.ref a0), some (.ref a1), some (.int a2)]) (st' := [.ref a1, .ref a0]) (h' := h2) 2 (fun n => rfl) ?_
    obtain ⟨hq, hw⟩ := hw
    obtain ⟨h4, hx, hw⟩ := hw
    refine zT_call (pc' := 15) (rest := []) 1 (fun n => rfl) hq hx ?_
    show zT E (d + 1) m_Downs_setOffBy 15 [some (.ref a0), some (.ref a1), some (.int a2)] [] h4 r
    refine zT_st (pc' := 20) (L' := [some (.ref a0), some (.ref a1), some (.int a2)]) (st' := [.ref a1, .int (1 <<< (a2 &&& 31)), .ref a0]) (h' := h4) 5 (fun n => rfl) ?_
    obtain ⟨hq, hw⟩ := hw
    obtain ⟨x5, h6, hx, hw⟩ := hw
    refine zT_call (pc' := 23) (rest := [.int (1 <<< (a2 &&& 31)), .ref a0]) 1 (fun n => rfl) hq hx ?_
    show zT E (d + 1) m_Downs_setOffBy 23 [some (.ref a0), some (.ref a1), some (.int a2)] [.int x5, .int (1 <<< (a2 &&& 31)), .ref a0] h6 r
    obtain ⟨hq, hw⟩ := hw
    obtain ⟨x7, h8, hx, hw⟩ := hw
    refine zT_call (pc' := 26) (rest := []) 1 (fun n => rfl) hq hx ?_
    show zT E (d + 1) m_Downs_setOffBy 26 [some (.ref a0), some (.ref a1), some (.int a2)] [.int x7] h8 r
    subst hw
    exact zT_ret 1 rfl
  · rw [if_neg hc] at hw
    refine zT_st (pc' := 8) (L' := [some (.ref a0), some (.ref a1), some (.int a2)]) (st' := []) (h' := h2) 1 (fun n => if_neg hc) ?_
    subst hw
    exact zT_ret 2 rfl
set_option maxRecDepth 4000 in
theorem s_Downs_hearers_0 (E : zX) (d : Nat) (a0 : Nat) (a1 : Nat) (a2 : Int32) (h : zH) (r : zO × zH)
    (hw : zT E (d + 1) m_Downs_hearers 5 [some (.ref a0), some (.ref a1), some (.int a2), some (.int 0), some (.int 0)] [] h r) :
    zT E (d + 1) m_Downs_hearers 0 [some (.ref a0), some (.ref a1), some (.int a2), none, none] [] h r := by
  exact zT_st 4 (fun n => rfl) hw
set_option maxRecDepth 4000 in
theorem s_Downs_hearers_5 (E : zX) (d : Nat) (a0 : Nat) (a1 : Nat) (a2 : Int32) (a3 : Int32) (a4 : Int32) (h : zH) (r : zO × zH)
    (hw : ∃ o1 : Nat, fld h a0 2 0 = some (.ref o1) ∧
    ∃ x2 : Int32, fld h o1 5 3 = some (.int x2) ∧
    if x2 ≤ a4 then (
      r = (.inl (some (.int a3)), h))
    else (
      isO h a0 2 = true ∧ ∃ (x3 : Int32) (h4 : zH), zT E d m_Downs_heardOf 0 [some (.ref a0), some (.ref a1), some (.int a2), some (.int a4), none, none] [] h (.inl (some (.int x3)), h4) ∧
      if x3 ≤ 0 then (
        zT E (d + 1) m_Downs_hearers 5 [some (.ref a0), some (.ref a1), some (.int a2), some (.int a3), some (.int (a4 + 1))] [] h4 r)
      else (
        zT E (d + 1) m_Downs_hearers 5 [some (.ref a0), some (.ref a1), some (.int a2), some (.int (a3 ||| (1 <<< (a4 &&& 31)))), some (.int (a4 + 1))] [] h4 r))) :
    zT E (d + 1) m_Downs_hearers 5 [some (.ref a0), some (.ref a1), some (.int a2), some (.int a3), some (.int a4)] [] h r := by
  refine zT_st (pc' := 8) (L' := [some (.ref a0), some (.ref a1), some (.int a2), some (.int a3), some (.int a4)]) (st' := [.ref a0, .int a4]) (h' := h) 2 (fun n => rfl) ?_
  obtain ⟨o1, e, hw⟩ := hw
  refine zT_st (pc' := 11) (L' := [some (.ref a0), some (.ref a1), some (.int a2), some (.int a3), some (.int a4)]) (st' := [.ref o1, .int a4]) (h' := h) 1 (fun n => fld_eq (E := E) e _) ?_
  obtain ⟨x2, e, hw⟩ := hw
  refine zT_st (pc' := 14) (L' := [some (.ref a0), some (.ref a1), some (.int a2), some (.int a3), some (.int a4)]) (st' := [.int x2, .int a4]) (h' := h) 1 (fun n => fld_eq (E := E) e _) ?_
  by_cases hc : x2 ≤ a4
  · rw [if_pos hc] at hw
    refine zT_st (pc' := 41) (L' := [some (.ref a0), some (.ref a1), some (.int a2), some (.int a3), some (.int a4)]) (st' := []) (h' := h) 1 (fun n => if_pos hc) ?_
    subst hw
    exact zT_ret 2 rfl
  · rw [if_neg hc] at hw
    refine zT_st (pc' := 17) (L' := [some (.ref a0), some (.ref a1), some (.int a2), some (.int a3), some (.int a4)]) (st' := []) (h' := h) 1 (fun n => if_neg hc) ?_
    refine zT_st (pc' := 22) (L' := [some (.ref a0), some (.ref a1), some (.int a2), some (.int a3), some (.int a4)]) (st' := [.int a4, .int a2, .ref a1, .ref a0]) (h' := h) 4 (fun n => rfl) ?_
    obtain ⟨hq, hw⟩ := hw
    obtain ⟨x3, h4, hx, hw⟩ := hw
    refine zT_call (pc' := 25) (rest := []) 1 (fun n => rfl) hq hx ?_
    show zT E (d + 1) m_Downs_hearers 25 [some (.ref a0), some (.ref a1), some (.int a2), some (.int a3), some (.int a4)] [.int x3] h4 r
    by_cases hc : x3 ≤ 0
    · rw [if_pos hc] at hw
      refine zT_st (pc' := 35) (L' := [some (.ref a0), some (.ref a1), some (.int a2), some (.int a3), some (.int a4)]) (st' := []) (h' := h4) 1 (fun n => if_pos hc) ?_
      exact zT_st 2 (fun n => rfl) hw
    · rw [if_neg hc] at hw
      refine zT_st (pc' := 28) (L' := [some (.ref a0), some (.ref a1), some (.int a2), some (.int a3), some (.int a4)]) (st' := []) (h' := h4) 1 (fun n => if_neg hc) ?_
      exact zT_st 8 (fun n => rfl) hw
set_option maxRecDepth 4000 in
theorem s_Downs_crossest_0 (E : zX) (d : Nat) (a0 : Nat) (a1 : Nat) (h : zH) (r : zO × zH)
    (hw : zT E (d + 1) m_Downs_crossest 4 [some (.ref a0), some (.ref a1), some (.int (-1)), some (.int 0)] [] h r) :
    zT E (d + 1) m_Downs_crossest 0 [some (.ref a0), some (.ref a1), none, none] [] h r := by
  exact zT_st 4 (fun n => rfl) hw
set_option maxRecDepth 4000 in
theorem s_Downs_crossest_4 (E : zX) (d : Nat) (a0 : Nat) (a1 : Nat) (a2 : Int32) (a3 : Int32) (h : zH) (r : zO × zH)
    (hw : ∃ o1 : Nat, fld h a0 2 0 = some (.ref o1) ∧
    ∃ x2 : Int32, fld h o1 5 3 = some (.int x2) ∧
    if x2 ≤ a3 then (
      r = (.inl (some (.int a2)), h))
    else (
      if a2 = (-1) then (
        zT E (d + 1) m_Downs_crossest 4 [some (.ref a0), some (.ref a1), some (.int a3), some (.int (a3 + 1))] [] h r)
      else (
        isO h a1 10 = true ∧ ∃ (x3 : Int32) (h4 : zH), zT E d m_Scene_temperOf 0 [some (.ref a1), some (.int a3)] [] h (.inl (some (.int x3)), h4) ∧
        isO h4 a1 10 = true ∧ ∃ (x5 : Int32) (h6 : zH), zT E d m_Scene_temperOf 0 [some (.ref a1), some (.int a2)] [] h4 (.inl (some (.int x5)), h6) ∧
        if x3 ≤ x5 then (
          zT E (d + 1) m_Downs_crossest 4 [some (.ref a0), some (.ref a1), some (.int a2), some (.int (a3 + 1))] [] h6 r)
        else (
          zT E (d + 1) m_Downs_crossest 4 [some (.ref a0), some (.ref a1), some (.int a3), some (.int (a3 + 1))] [] h6 r)))) :
    zT E (d + 1) m_Downs_crossest 4 [some (.ref a0), some (.ref a1), some (.int a2), some (.int a3)] [] h r := by
  refine zT_st (pc' := 6) (L' := [some (.ref a0), some (.ref a1), some (.int a2), some (.int a3)]) (st' := [.ref a0, .int a3]) (h' := h) 2 (fun n => rfl) ?_
  obtain ⟨o1, e, hw⟩ := hw
  refine zT_st (pc' := 9) (L' := [some (.ref a0), some (.ref a1), some (.int a2), some (.int a3)]) (st' := [.ref o1, .int a3]) (h' := h) 1 (fun n => fld_eq (E := E) e _) ?_
  obtain ⟨x2, e, hw⟩ := hw
  refine zT_st (pc' := 12) (L' := [some (.ref a0), some (.ref a1), some (.int a2), some (.int a3)]) (st' := [.int x2, .int a3]) (h' := h) 1 (fun n => fld_eq (E := E) e _) ?_
  by_cases hc : x2 ≤ a3
  · rw [if_pos hc] at hw
    refine zT_st (pc' := 41) (L' := [some (.ref a0), some (.ref a1), some (.int a2), some (.int a3)]) (st' := []) (h' := h) 1 (fun n => if_pos hc) ?_
    subst hw
    exact zT_ret 2 rfl
  · rw [if_neg hc] at hw
    refine zT_st (pc' := 15) (L' := [some (.ref a0), some (.ref a1), some (.int a2), some (.int a3)]) (st' := []) (h' := h) 1 (fun n => if_neg hc) ?_
    refine zT_st (pc' := 17) (L' := [some (.ref a0), some (.ref a1), some (.int a2), some (.int a3)]) (st' := [.int (-1), .int a2]) (h' := h) 2 (fun n => rfl) ?_
    by_cases hc : a2 = (-1)
    · rw [if_pos hc] at hw
      refine zT_st (pc' := 33) (L' := [some (.ref a0), some (.ref a1), some (.int a2), some (.int a3)]) (st' := []) (h' := h) 1 (fun n => if_pos hc) ?_
      exact zT_st 4 (fun n => rfl) hw
    · rw [if_neg hc] at hw
      refine zT_st (pc' := 20) (L' := [some (.ref a0), some (.ref a1), some (.int a2), some (.int a3)]) (st' := []) (h' := h) 1 (fun n => if_neg hc) ?_
      refine zT_st (pc' := 22) (L' := [some (.ref a0), some (.ref a1), some (.int a2), some (.int a3)]) (st' := [.int a3, .ref a1]) (h' := h) 2 (fun n => rfl) ?_
      obtain ⟨hq, hw⟩ := hw
      obtain ⟨x3, h4, hx, hw⟩ := hw
      refine zT_call (pc' := 25) (rest := []) 1 (fun n => rfl) hq hx ?_
      show zT E (d + 1) m_Downs_crossest 25 [some (.ref a0), some (.ref a1), some (.int a2), some (.int a3)] [.int x3] h4 r
      refine zT_st (pc' := 27) (L' := [some (.ref a0), some (.ref a1), some (.int a2), some (.int a3)]) (st' := [.int a2, .ref a1, .int x3]) (h' := h4) 2 (fun n => rfl) ?_
      obtain ⟨hq, hw⟩ := hw
      obtain ⟨x5, h6, hx, hw⟩ := hw
      refine zT_call (pc' := 30) (rest := [.int x3]) 1 (fun n => rfl) hq hx ?_
      show zT E (d + 1) m_Downs_crossest 30 [some (.ref a0), some (.ref a1), some (.int a2), some (.int a3)] [.int x5, .int x3] h6 r
      by_cases hc : x3 ≤ x5
      · rw [if_pos hc] at hw
        refine zT_st (pc' := 35) (L' := [some (.ref a0), some (.ref a1), some (.int a2), some (.int a3)]) (st' := []) (h' := h6) 1 (fun n => if_pos hc) ?_
        exact zT_st 2 (fun n => rfl) hw
      · rw [if_neg hc] at hw
        refine zT_st (pc' := 33) (L' := [some (.ref a0), some (.ref a1), some (.int a2), some (.int a3)]) (st' := []) (h' := h6) 1 (fun n => if_neg hc) ?_
        exact zT_st 4 (fun n => rfl) hw
set_option maxRecDepth 4000 in
theorem s_Downs_fullest_0 (E : zX) (d : Nat) (a0 : Nat) (a1 : Nat) (a2 : Int32) (h : zH) (r : zO × zH)
    (hw : zT E (d + 1) m_Downs_fullest 5 [some (.ref a0), some (.ref a1), some (.int a2), some (.int (-1)), some (.int 0)] [] h r) :
    zT E (d + 1) m_Downs_fullest 0 [some (.ref a0), some (.ref a1), some (.int a2), none, none] [] h r := by
  exact zT_st 4 (fun n => rfl) hw
set_option maxRecDepth 4000 in
theorem s_Downs_fullest_5 (E : zX) (d : Nat) (a0 : Nat) (a1 : Nat) (a2 : Int32) (a3 : Int32) (a4 : Int32) (h : zH) (r : zO × zH)
    (hw : ∃ o1 : Nat, fld h a0 2 0 = some (.ref o1) ∧
    ∃ x2 : Int32, fld h o1 5 4 = some (.int x2) ∧
    if x2 ≤ a4 then (
      r = (.inl (some (.int a3)), h))
    else (
      isO h a1 10 = true ∧ ∃ (x3 : Int32) (h4 : zH), zT E d m_Scene_isWhite 0 [some (.ref a1), some (.int a4)] [] h (.inl (some (.int x3)), h4) ∧
      if x3 = 0 then (
        if (a2 &&& (1 <<< (a4 &&& 31))) = 0 then (
          if a3 = (-1) then (
            zT E (d + 1) m_Downs_fullest 5 [some (.ref a0), some (.ref a1), some (.int a2), some (.int a4), some (.int (a4 + 1))] [] h4 r)
          else (
            isO h4 a1 10 = true ∧ ∃ (x5 : Int32) (h6 : zH), zT E d m_Scene_heldIn 0 [some (.ref a1), some (.int a4)] [] h4 (.inl (some (.int x5)), h6) ∧
            isO h6 a1 10 = true ∧ ∃ (x7 : Int32) (h8 : zH), zT E d m_Scene_heldIn 0 [some (.ref a1), some (.int a3)] [] h6 (.inl (some (.int x7)), h8) ∧
            if x5 ≤ x7 then (
              zT E (d + 1) m_Downs_fullest 5 [some (.ref a0), some (.ref a1), some (.int a2), some (.int a3), some (.int (a4 + 1))] [] h8 r)
            else (
              zT E (d + 1) m_Downs_fullest 5 [some (.ref a0), some (.ref a1), some (.int a2), some (.int a4), some (.int (a4 + 1))] [] h8 r)))
        else (
          zT E (d + 1) m_Downs_fullest 5 [some (.ref a0), some (.ref a1), some (.int a2), some (.int a3), some (.int (a4 + 1))] [] h4 r))
      else (
        zT E (d + 1) m_Downs_fullest 5 [some (.ref a0), some (.ref a1), some (.int a2), some (.int a3), some (.int (a4 + 1))] [] h4 r))) :
    zT E (d + 1) m_Downs_fullest 5 [some (.ref a0), some (.ref a1), some (.int a2), some (.int a3), some (.int a4)] [] h r := by
  refine zT_st (pc' := 8) (L' := [some (.ref a0), some (.ref a1), some (.int a2), some (.int a3), some (.int a4)]) (st' := [.ref a0, .int a4]) (h' := h) 2 (fun n => rfl) ?_
  obtain ⟨o1, e, hw⟩ := hw
  refine zT_st (pc' := 11) (L' := [some (.ref a0), some (.ref a1), some (.int a2), some (.int a3), some (.int a4)]) (st' := [.ref o1, .int a4]) (h' := h) 1 (fun n => fld_eq (E := E) e _) ?_
  obtain ⟨x2, e, hw⟩ := hw
  refine zT_st (pc' := 14) (L' := [some (.ref a0), some (.ref a1), some (.int a2), some (.int a3), some (.int a4)]) (st' := [.int x2, .int a4]) (h' := h) 1 (fun n => fld_eq (E := E) e _) ?_
  by_cases hc : x2 ≤ a4
  · rw [if_pos hc] at hw
    refine zT_st (pc' := 63) (L' := [some (.ref a0), some (.ref a1), some (.int a2), some (.int a3), some (.int a4)]) (st' := []) (h' := h) 1 (fun n => if_pos hc) ?_
    subst hw
    exact zT_ret 2 rfl
  · rw [if_neg hc] at hw
    refine zT_st (pc' := 17) (L' := [some (.ref a0), some (.ref a1), some (.int a2), some (.int a3), some (.int a4)]) (st' := []) (h' := h) 1 (fun n => if_neg hc) ?_
    refine zT_st (pc' := 20) (L' := [some (.ref a0), some (.ref a1), some (.int a2), some (.int a3), some (.int a4)]) (st' := [.int a4, .ref a1]) (h' := h) 2 (fun n => rfl) ?_
    obtain ⟨hq, hw⟩ := hw
    obtain ⟨x3, h4, hx, hw⟩ := hw
    refine zT_call (pc' := 23) (rest := []) 1 (fun n => rfl) hq hx ?_
    show zT E (d + 1) m_Downs_fullest 23 [some (.ref a0), some (.ref a1), some (.int a2), some (.int a3), some (.int a4)] [.int x3] h4 r
    by_cases hc : x3 = 0
    · rw [if_pos hc] at hw
      refine zT_st (pc' := 26) (L' := [some (.ref a0), some (.ref a1), some (.int a2), some (.int a3), some (.int a4)]) (st' := []) (h' := h4) 1 (fun n => if_pos hc) ?_
      refine zT_st (pc' := 32) (L' := [some (.ref a0), some (.ref a1), some (.int a2), some (.int a3), some (.int a4)]) (st' := [.int (a2 &&& (1 <<< (a4 &&& 31)))]) (h' := h4) 5 (fun n => rfl) ?_
      by_cases hc : (a2 &&& (1 <<< (a4 &&& 31))) = 0
      · rw [if_pos hc] at hw
        refine zT_st (pc' := 35) (L' := [some (.ref a0), some (.ref a1), some (.int a2), some (.int a3), some (.int a4)]) (st' := []) (h' := h4) 1 (fun n => if_pos hc) ?_
        refine zT_st (pc' := 37) (L' := [some (.ref a0), some (.ref a1), some (.int a2), some (.int a3), some (.int a4)]) (st' := [.int (-1), .int a3]) (h' := h4) 2 (fun n => rfl) ?_
        by_cases hc : a3 = (-1)
        · rw [if_pos hc] at hw
          refine zT_st (pc' := 54) (L' := [some (.ref a0), some (.ref a1), some (.int a2), some (.int a3), some (.int a4)]) (st' := []) (h' := h4) 1 (fun n => if_pos hc) ?_
          exact zT_st 4 (fun n => rfl) hw
        · rw [if_neg hc] at hw
          refine zT_st (pc' := 40) (L' := [some (.ref a0), some (.ref a1), some (.int a2), some (.int a3), some (.int a4)]) (st' := []) (h' := h4) 1 (fun n => if_neg hc) ?_
          refine zT_st (pc' := 43) (L' := [some (.ref a0), some (.ref a1), some (.int a2), some (.int a3), some (.int a4)]) (st' := [.int a4, .ref a1]) (h' := h4) 2 (fun n => rfl) ?_
          obtain ⟨hq, hw⟩ := hw
          obtain ⟨x5, h6, hx, hw⟩ := hw
          refine zT_call (pc' := 46) (rest := []) 1 (fun n => rfl) hq hx ?_
          show zT E (d + 1) m_Downs_fullest 46 [some (.ref a0), some (.ref a1), some (.int a2), some (.int a3), some (.int a4)] [.int x5] h6 r
          refine zT_st (pc' := 48) (L' := [some (.ref a0), some (.ref a1), some (.int a2), some (.int a3), some (.int a4)]) (st' := [.int a3, .ref a1, .int x5]) (h' := h6) 2 (fun n => rfl) ?_
          obtain ⟨hq, hw⟩ := hw
          obtain ⟨x7, h8, hx, hw⟩ := hw
          refine zT_call (pc' := 51) (rest := [.int x5]) 1 (fun n => rfl) hq hx ?_
          show zT E (d + 1) m_Downs_fullest 51 [some (.ref a0), some (.ref a1), some (.int a2), some (.int a3), some (.int a4)] [.int x7, .int x5] h8 r
          by_cases hc : x5 ≤ x7
          · rw [if_pos hc] at hw
            refine zT_st (pc' := 57) (L' := [some (.ref a0), some (.ref a1), some (.int a2), some (.int a3), some (.int a4)]) (st' := []) (h' := h8) 1 (fun n => if_pos hc) ?_
            exact zT_st 2 (fun n => rfl) hw
          · rw [if_neg hc] at hw
            refine zT_st (pc' := 54) (L' := [some (.ref a0), some (.ref a1), some (.int a2), some (.int a3), some (.int a4)]) (st' := []) (h' := h8) 1 (fun n => if_neg hc) ?_
            exact zT_st 4 (fun n => rfl) hw
      · rw [if_neg hc] at hw
        refine zT_st (pc' := 57) (L' := [some (.ref a0), some (.ref a1), some (.int a2), some (.int a3), some (.int a4)]) (st' := []) (h' := h4) 1 (fun n => if_neg hc) ?_
        exact zT_st 2 (fun n => rfl) hw
    · rw [if_neg hc] at hw
      refine zT_st (pc' := 57) (L' := [some (.ref a0), some (.ref a1), some (.int a2), some (.int a3), some (.int a4)]) (st' := []) (h' := h4) 1 (fun n => if_neg hc) ?_
      exact zT_st 2 (fun n => rfl) hw
set_option maxRecDepth 4000 in
theorem s_Downs_over_0 (E : zX) (d : Nat) (a0 : Nat) (a1 : Nat) (a2 : Int32) (h : zH) (r : zO × zH)
    (hw : zT E (d + 1) m_Downs_over 5 [some (.ref a0), some (.ref a1), some (.int a2), some (.int 0), some (.int 0)] [] h r) :
    zT E (d + 1) m_Downs_over 0 [some (.ref a0), some (.ref a1), some (.int a2), none, none] [] h r := by
  exact zT_st 4 (fun n => rfl) hw
set_option maxRecDepth 4000 in
theorem s_Downs_over_5 (E : zX) (d : Nat) (a0 : Nat) (a1 : Nat) (a2 : Int32) (a3 : Int32) (a4 : Int32) (h : zH) (r : zO × zH)
    (hw : ∃ o1 : Nat, fld h a0 2 0 = some (.ref o1) ∧
    ∃ x2 : Int32, fld h o1 5 4 = some (.int x2) ∧
    if x2 ≤ a4 then (
      r = (.inl (some (.int a3)), h))
    else (
      isO h a1 10 = true ∧ ∃ (x3 : Int32) (h4 : zH), zT E d m_Scene_isWhite 0 [some (.ref a1), some (.int a4)] [] h (.inl (some (.int x3)), h4) ∧
      if x3 = 0 then (
        isO h4 a0 2 = true ∧ ∃ (x5 : Int32) (h6 : zH), zT E d m_Downs_reaches 0 [some (.ref a0), some (.ref a1), some (.int a4), some (.int a2)] [] h4 (.inl (some (.int x5)), h6) ∧
        if x5 = 0 then (
          zT E (d + 1) m_Downs_over 5 [some (.ref a0), some (.ref a1), some (.int a2), some (.int a3), some (.int (a4 + 1))] [] h6 r)
        else (
          zT E (d + 1) m_Downs_over 5 [some (.ref a0), some (.ref a1), some (.int a2), some (.int (a3 ||| (1 <<< (a4 &&& 31)))), some (.int (a4 + 1))] [] h6 r))
      else (
        zT E (d + 1) m_Downs_over 5 [some (.ref a0), some (.ref a1), some (.int a2), some (.int a3), some (.int (a4 + 1))] [] h4 r))) :
    zT E (d + 1) m_Downs_over 5 [some (.ref a0), some (.ref a1), some (.int a2), some (.int a3), some (.int a4)] [] h r := by
  refine zT_st (pc' := 8) (L' := [some (.ref a0), some (.ref a1), some (.int a2), some (.int a3), some (.int a4)]) (st' := [.ref a0, .int a4]) (h' := h) 2 (fun n => rfl) ?_
  obtain ⟨o1, e, hw⟩ := hw
  refine zT_st (pc' := 11) (L' := [some (.ref a0), some (.ref a1), some (.int a2), some (.int a3), some (.int a4)]) (st' := [.ref o1, .int a4]) (h' := h) 1 (fun n => fld_eq (E := E) e _) ?_
  obtain ⟨x2, e, hw⟩ := hw
  refine zT_st (pc' := 14) (L' := [some (.ref a0), some (.ref a1), some (.int a2), some (.int a3), some (.int a4)]) (st' := [.int x2, .int a4]) (h' := h) 1 (fun n => fld_eq (E := E) e _) ?_
  by_cases hc : x2 ≤ a4
  · rw [if_pos hc] at hw
    refine zT_st (pc' := 50) (L' := [some (.ref a0), some (.ref a1), some (.int a2), some (.int a3), some (.int a4)]) (st' := []) (h' := h) 1 (fun n => if_pos hc) ?_
    subst hw
    exact zT_ret 2 rfl
  · rw [if_neg hc] at hw
    refine zT_st (pc' := 17) (L' := [some (.ref a0), some (.ref a1), some (.int a2), some (.int a3), some (.int a4)]) (st' := []) (h' := h) 1 (fun n => if_neg hc) ?_
    refine zT_st (pc' := 20) (L' := [some (.ref a0), some (.ref a1), some (.int a2), some (.int a3), some (.int a4)]) (st' := [.int a4, .ref a1]) (h' := h) 2 (fun n => rfl) ?_
    obtain ⟨hq, hw⟩ := hw
    obtain ⟨x3, h4, hx, hw⟩ := hw
    refine zT_call (pc' := 23) (rest := []) 1 (fun n => rfl) hq hx ?_
    show zT E (d + 1) m_Downs_over 23 [some (.ref a0), some (.ref a1), some (.int a2), some (.int a3), some (.int a4)] [.int x3] h4 r
    by_cases hc : x3 = 0
    · rw [if_pos hc] at hw
      refine zT_st (pc' := 26) (L' := [some (.ref a0), some (.ref a1), some (.int a2), some (.int a3), some (.int a4)]) (st' := []) (h' := h4) 1 (fun n => if_pos hc) ?_
      refine zT_st (pc' := 31) (L' := [some (.ref a0), some (.ref a1), some (.int a2), some (.int a3), some (.int a4)]) (st' := [.int a2, .int a4, .ref a1, .ref a0]) (h' := h4) 4 (fun n => rfl) ?_
      obtain ⟨hq, hw⟩ := hw
      obtain ⟨x5, h6, hx, hw⟩ := hw
      refine zT_call (pc' := 34) (rest := []) 1 (fun n => rfl) hq hx ?_
      show zT E (d + 1) m_Downs_over 34 [some (.ref a0), some (.ref a1), some (.int a2), some (.int a3), some (.int a4)] [.int x5] h6 r
      by_cases hc : x5 = 0
      · rw [if_pos hc] at hw
        refine zT_st (pc' := 44) (L' := [some (.ref a0), some (.ref a1), some (.int a2), some (.int a3), some (.int a4)]) (st' := []) (h' := h6) 1 (fun n => if_pos hc) ?_
        exact zT_st 2 (fun n => rfl) hw
      · rw [if_neg hc] at hw
        refine zT_st (pc' := 37) (L' := [some (.ref a0), some (.ref a1), some (.int a2), some (.int a3), some (.int a4)]) (st' := []) (h' := h6) 1 (fun n => if_neg hc) ?_
        exact zT_st 8 (fun n => rfl) hw
    · rw [if_neg hc] at hw
      refine zT_st (pc' := 44) (L' := [some (.ref a0), some (.ref a1), some (.int a2), some (.int a3), some (.int a4)]) (st' := []) (h' := h4) 1 (fun n => if_neg hc) ?_
      exact zT_st 2 (fun n => rfl) hw
set_option maxRecDepth 4000 in
theorem s_Downs_nearestBall_0 (E : zX) (d : Nat) (a0 : Nat) (a1 : Nat) (a2 : Int32) (h : zH) (r : zO × zH)
    (hw : zT E (d + 1) m_Downs_nearestBall 5 [some (.ref a0), some (.ref a1), some (.int a2), some (.int (-1)), some (.int 0)] [] h r) :
    zT E (d + 1) m_Downs_nearestBall 0 [some (.ref a0), some (.ref a1), some (.int a2), none, none] [] h r := by
  exact zT_st 4 (fun n => rfl) hw
set_option maxRecDepth 4000 in
theorem s_Downs_nearestBall_5 (E : zX) (d : Nat) (a0 : Nat) (a1 : Nat) (a2 : Int32) (a3 : Int32) (a4 : Int32) (h : zH) (r : zO × zH)
    (hw : ∃ o1 : Nat, fld h a0 2 0 = some (.ref o1) ∧
    ∃ x2 : Int32, fld h o1 5 4 = some (.int x2) ∧
    if x2 ≤ a4 then (
      r = (.inl (some (.int a3)), h))
    else (
      if a3 = (-1) then (
        zT E (d + 1) m_Downs_nearestBall 5 [some (.ref a0), some (.ref a1), some (.int a2), some (.int a4), some (.int (a4 + 1))] [] h r)
      else (
        ∃ o3 : Nat, fld h a0 2 0 = some (.ref o3) ∧
        isO h a1 10 = true ∧ ∃ (x4 : Int32) (h5 : zH), zT E d m_Scene_cellOf 0 [some (.ref a1), some (.int a4)] [] h (.inl (some (.int x4)), h5) ∧
        isO h5 o3 5 = true ∧ ∃ (x6 : Int32) (h7 : zH), zT E d m_Land_far 0 [some (.ref o3), some (.int x4), some (.int a2), none, none] [] h5 (.inl (some (.int x6)), h7) ∧
        ∃ o8 : Nat, fld h7 a0 2 0 = some (.ref o8) ∧
        isO h7 a1 10 = true ∧ ∃ (x9 : Int32) (h10 : zH), zT E d m_Scene_cellOf 0 [some (.ref a1), some (.int a3)] [] h7 (.inl (some (.int x9)), h10) ∧
        isO h10 o8 5 = true ∧ ∃ (x11 : Int32) (h12 : zH), zT E d m_Land_far 0 [some (.ref o8), some (.int x9), some (.int a2), none, none] [] h10 (.inl (some (.int x11)), h12) ∧
        if x11 ≤ x6 then (
          zT E (d + 1) m_Downs_nearestBall 5 [some (.ref a0), some (.ref a1), some (.int a2), some (.int a3), some (.int (a4 + 1))] [] h12 r)
        else (
          zT E (d + 1) m_Downs_nearestBall 5 [some (.ref a0), some (.ref a1), some (.int a2), some (.int a4), some (.int (a4 + 1))] [] h12 r)))) :
    zT E (d + 1) m_Downs_nearestBall 5 [some (.ref a0), some (.ref a1), some (.int a2), some (.int a3), some (.int a4)] [] h r := by
  refine zT_st (pc' := 8) (L' := [some (.ref a0), some (.ref a1), some (.int a2), some (.int a3), some (.int a4)]) (st' := [.ref a0, .int a4]) (h' := h) 2 (fun n => rfl) ?_
  obtain ⟨o1, e, hw⟩ := hw
  refine zT_st (pc' := 11) (L' := [some (.ref a0), some (.ref a1), some (.int a2), some (.int a3), some (.int a4)]) (st' := [.ref o1, .int a4]) (h' := h) 1 (fun n => fld_eq (E := E) e _) ?_
  obtain ⟨x2, e, hw⟩ := hw
  refine zT_st (pc' := 14) (L' := [some (.ref a0), some (.ref a1), some (.int a2), some (.int a3), some (.int a4)]) (st' := [.int x2, .int a4]) (h' := h) 1 (fun n => fld_eq (E := E) e _) ?_
  by_cases hc : x2 ≤ a4
  · rw [if_pos hc] at hw
    refine zT_st (pc' := 61) (L' := [some (.ref a0), some (.ref a1), some (.int a2), some (.int a3), some (.int a4)]) (st' := []) (h' := h) 1 (fun n => if_pos hc) ?_
    subst hw
    exact zT_ret 2 rfl
  · rw [if_neg hc] at hw
    refine zT_st (pc' := 17) (L' := [some (.ref a0), some (.ref a1), some (.int a2), some (.int a3), some (.int a4)]) (st' := []) (h' := h) 1 (fun n => if_neg hc) ?_
    refine zT_st (pc' := 19) (L' := [some (.ref a0), some (.ref a1), some (.int a2), some (.int a3), some (.int a4)]) (st' := [.int (-1), .int a3]) (h' := h) 2 (fun n => rfl) ?_
    by_cases hc : a3 = (-1)
    · rw [if_pos hc] at hw
      refine zT_st (pc' := 52) (L' := [some (.ref a0), some (.ref a1), some (.int a2), some (.int a3), some (.int a4)]) (st' := []) (h' := h) 1 (fun n => if_pos hc) ?_
      exact zT_st 4 (fun n => rfl) hw
    · rw [if_neg hc] at hw
      refine zT_st (pc' := 22) (L' := [some (.ref a0), some (.ref a1), some (.int a2), some (.int a3), some (.int a4)]) (st' := []) (h' := h) 1 (fun n => if_neg hc) ?_
      refine zT_st (pc' := 23) (L' := [some (.ref a0), some (.ref a1), some (.int a2), some (.int a3), some (.int a4)]) (st' := [.ref a0]) (h' := h) 1 (fun n => rfl) ?_
      obtain ⟨o3, e, hw⟩ := hw
      refine zT_st (pc' := 26) (L' := [some (.ref a0), some (.ref a1), some (.int a2), some (.int a3), some (.int a4)]) (st' := [.ref o3]) (h' := h) 1 (fun n => fld_eq (E := E) e _) ?_
      refine zT_st (pc' := 29) (L' := [some (.ref a0), some (.ref a1), some (.int a2), some (.int a3), some (.int a4)]) (st' := [.int a4, .ref a1, .ref o3]) (h' := h) 2 (fun n => rfl) ?_
      obtain ⟨hq, hw⟩ := hw
      obtain ⟨x4, h5, hx, hw⟩ := hw
      refine zT_call (pc' := 32) (rest := [.ref o3]) 1 (fun n => rfl) hq hx ?_
      show zT E (d + 1) m_Downs_nearestBall 32 [some (.ref a0), some (.ref a1), some (.int a2), some (.int a3), some (.int a4)] [.int x4, .ref o3] h5 r
      refine zT_st (pc' := 33) (L' := [some (.ref a0), some (.ref a1), some (.int a2), some (.int a3), some (.int a4)]) (st' := [.int a2, .int x4, .ref o3]) (h' := h5) 1 (fun n => rfl) ?_
      obtain ⟨hq, hw⟩ := hw
      obtain ⟨x6, h7, hx, hw⟩ := hw
      refine zT_call (pc' := 36) (rest := []) 1 (fun n => rfl) hq hx ?_
      show zT E (d + 1) m_Downs_nearestBall 36 [some (.ref a0), some (.ref a1), some (.int a2), some (.int a3), some (.int a4)] [.int x6] h7 r
      refine zT_st (pc' := 37) (L' := [some (.ref a0), some (.ref a1), some (.int a2), some (.int a3), some (.int a4)]) (st' := [.ref a0, .int x6]) (h' := h7) 1 (fun n => rfl) ?_
      obtain ⟨o8, e, hw⟩ := hw
      refine zT_st (pc' := 40) (L' := [some (.ref a0), some (.ref a1), some (.int a2), some (.int a3), some (.int a4)]) (st' := [.ref o8, .int x6]) (h' := h7) 1 (fun n => fld_eq (E := E) e _) ?_
      refine zT_st (pc' := 42) (L' := [some (.ref a0), some (.ref a1), some (.int a2), some (.int a3), some (.int a4)]) (st' := [.int a3, .ref a1, .ref o8, .int x6]) (h' := h7) 2 (fun n => rfl) ?_
      obtain ⟨hq, hw⟩ := hw
      obtain ⟨x9, h10, hx, hw⟩ := hw
      refine zT_call (pc' := 45) (rest := [.ref o8, .int x6]) 1 (fun n => rfl) hq hx ?_
      show zT E (d + 1) m_Downs_nearestBall 45 [some (.ref a0), some (.ref a1), some (.int a2), some (.int a3), some (.int a4)] [.int x9, .ref o8, .int x6] h10 r
      refine zT_st (pc' := 46) (L' := [some (.ref a0), some (.ref a1), some (.int a2), some (.int a3), some (.int a4)]) (st' := [.int a2, .int x9, .ref o8, .int x6]) (h' := h10) 1 (fun n => rfl) ?_
      obtain ⟨hq, hw⟩ := hw
      obtain ⟨x11, h12, hx, hw⟩ := hw
      refine zT_call (pc' := 49) (rest := [.int x6]) 1 (fun n => rfl) hq hx ?_
      show zT E (d + 1) m_Downs_nearestBall 49 [some (.ref a0), some (.ref a1), some (.int a2), some (.int a3), some (.int a4)] [.int x11, .int x6] h12 r
      by_cases hc : x11 ≤ x6
      · rw [if_pos hc] at hw
        refine zT_st (pc' := 55) (L' := [some (.ref a0), some (.ref a1), some (.int a2), some (.int a3), some (.int a4)]) (st' := []) (h' := h12) 1 (fun n => if_pos hc) ?_
        exact zT_st 2 (fun n => rfl) hw
      · rw [if_neg hc] at hw
        refine zT_st (pc' := 52) (L' := [some (.ref a0), some (.ref a1), some (.int a2), some (.int a3), some (.int a4)]) (st' := []) (h' := h12) 1 (fun n => if_neg hc) ?_
        exact zT_st 4 (fun n => rfl) hw
-- s_Land_init_0: by hand
set_option maxRecDepth 4000 in
theorem s_Land_clear_0 (E : zX) (d : Nat) (a0 : Nat) (h : zH) (r : zO × zH)
    (hw : (∃ w, fld h a0 5 3 = some w) ∧
    (∃ w, fld (setF h a0 3 (.int 0)) a0 5 4 = some w) ∧
    ∃ o1 : Nat, fld (setF (setF h a0 3 (.int 0)) a0 4 (.int 0)) a0 5 7 = some (.ref o1) ∧
    isO (setF (setF h a0 3 (.int 0)) a0 4 (.int 0)) o1 9 = true ∧ ∃ (h3 : zH), zT E d m_Rule_clear 0 [some (.ref o1)] [] (setF (setF h a0 3 (.int 0)) a0 4 (.int 0)) (.inl none, h3) ∧
    ∃ o4 : Nat, fld h3 a0 5 8 = some (.ref o4) ∧
    isO h3 o4 9 = true ∧ ∃ (h6 : zH), zT E d m_Rule_clear 0 [some (.ref o4)] [] h3 (.inl none, h6) ∧
    isO h6 a0 5 = true ∧ ∃ (h8 : zH), zT E d m_Land_measure 0 [some (.ref a0), some (.int 4), some (.int 4), none, none, none] [] h6 (.inl none, h8) ∧
    r = (.inl (none), h8)) :
    zT E (d + 1) m_Land_clear 0 [some (.ref a0)] [] h r := by
  refine zT_st (pc' := 2) (L' := [some (.ref a0)]) (st' := [.int 0, .ref a0]) (h' := h) 2 (fun n => rfl) ?_
  obtain ⟨⟨w, e⟩, hw⟩ := hw
  refine zT_st (pc' := 5) (L' := [some (.ref a0)]) (st' := []) (h' := (setF h a0 3 (.int 0))) 1 (fun n => put_eq e rfl _ _) ?_
  refine zT_st (pc' := 7) (L' := [some (.ref a0)]) (st' := [.int 0, .ref a0]) (h' := (setF h a0 3 (.int 0))) 2 (fun n => rfl) ?_
  obtain ⟨⟨w, e⟩, hw⟩ := hw
  refine zT_st (pc' := 10) (L' := [some (.ref a0)]) (st' := []) (h' := (setF (setF h a0 3 (.int 0)) a0 4 (.int 0))) 1 (fun n => put_eq e rfl _ _) ?_
  refine zT_st (pc' := 11) (L' := [some (.ref a0)]) (st' := [.ref a0]) (h' := (setF (setF h a0 3 (.int 0)) a0 4 (.int 0))) 1 (fun n => rfl) ?_
  obtain ⟨o1, e, hw⟩ := hw
  refine zT_st (pc' := 14) (L' := [some (.ref a0)]) (st' := [.ref o1]) (h' := (setF (setF h a0 3 (.int 0)) a0 4 (.int 0))) 1 (fun n => fld_eq (E := E) e _) ?_
  obtain ⟨hq, hw⟩ := hw
  obtain ⟨h3, hx, hw⟩ := hw
  refine zT_call (pc' := 17) (rest := []) 1 (fun n => rfl) hq hx ?_
  show zT E (d + 1) m_Land_clear 17 [some (.ref a0)] [] h3 r
  refine zT_st (pc' := 18) (L' := [some (.ref a0)]) (st' := [.ref a0]) (h' := h3) 1 (fun n => rfl) ?_
  obtain ⟨o4, e, hw⟩ := hw
  refine zT_st (pc' := 21) (L' := [some (.ref a0)]) (st' := [.ref o4]) (h' := h3) 1 (fun n => fld_eq (E := E) e _) ?_
  obtain ⟨hq, hw⟩ := hw
  obtain ⟨h6, hx, hw⟩ := hw
  refine zT_call (pc' := 24) (rest := []) 1 (fun n => rfl) hq hx ?_
  show zT E (d + 1) m_Land_clear 24 [some (.ref a0)] [] h6 r
  refine zT_st (pc' := 27) (L' := [some (.ref a0)]) (st' := [.int 4, .int 4, .ref a0]) (h' := h6) 3 (fun n => rfl) ?_
  obtain ⟨hq, hw⟩ := hw
  obtain ⟨h8, hx, hw⟩ := hw
  refine zT_call (pc' := 30) (rest := []) 1 (fun n => rfl) hq hx ?_
  show zT E (d + 1) m_Land_clear 30 [some (.ref a0)] [] h8 r
  subst hw
  exact zT_ret 1 rfl
set_option maxRecDepth 4000 in
theorem s_Land_measure_0 (E : zX) (d : Nat) (a0 : Nat) (a1 : Int32) (a2 : Int32) (h : zH) (r : zO × zH)
    (hw : (∃ w, fld h a0 5 0 = some w) ∧
    (∃ w, fld (setF h a0 0 (.int a1)) a0 5 1 = some w) ∧
    (∃ w, fld (setF (setF h a0 0 (.int a1)) a0 1 (.int a2)) a0 5 2 = some w) ∧
    zT E d m_Land_measure 22 [some (.ref a0), some (.int a1), some (.int a2), some (.int 0), some (.int 0), none] [] (setF (setF (setF h a0 0 (.int a1)) a0 1 (.int a2)) a0 2 (.int (a1 * a2))) r) :
    zT E d m_Land_measure 0 [some (.ref a0), some (.int a1), some (.int a2), none, none, none] [] h r := by
  refine zT_st (pc' := 2) (L' := [some (.ref a0), some (.int a1), some (.int a2), none, none, none]) (st' := [.int a1, .ref a0]) (h' := h) 2 (fun n => rfl) ?_
  obtain ⟨⟨w, e⟩, hw⟩ := hw
  refine zT_st (pc' := 5) (L' := [some (.ref a0), some (.int a1), some (.int a2), none, none, none]) (st' := []) (h' := (setF h a0 0 (.int a1))) 1 (fun n => put_eq e rfl _ _) ?_
  refine zT_st (pc' := 7) (L' := [some (.ref a0), some (.int a1), some (.int a2), none, none, none]) (st' := [.int a2, .ref a0]) (h' := (setF h a0 0 (.int a1))) 2 (fun n => rfl) ?_
  obtain ⟨⟨w, e⟩, hw⟩ := hw
  refine zT_st (pc' := 10) (L' := [some (.ref a0), some (.int a1), some (.int a2), none, none, none]) (st' := []) (h' := (setF (setF h a0 0 (.int a1)) a0 1 (.int a2))) 1 (fun n => put_eq e rfl _ _) ?_
  refine zT_st (pc' := 14) (L' := [some (.ref a0), some (.int a1), some (.int a2), none, none, none]) (st' := [.int (a1 * a2), .ref a0]) (h' := (setF (setF h a0 0 (.int a1)) a0 1 (.int a2))) 4 (fun n => rfl) ?_
  obtain ⟨⟨w, e⟩, hw⟩ := hw
  refine zT_st (pc' := 17) (L' := [some (.ref a0), some (.int a1), some (.int a2), none, none, none]) (st' := []) (h' := (setF (setF (setF h a0 0 (.int a1)) a0 1 (.int a2)) a0 2 (.int (a1 * a2)))) 1 (fun n => put_eq e rfl _ _) ?_
  exact zT_st 4 (fun n => rfl) hw
set_option maxRecDepth 4000 in
theorem s_Land_measure_22 (E : zX) (d : Nat) (a0 : Nat) (a1 : Int32) (a2 : Int32) (a3 : Int32) (a4 : Int32) (j5 : Option Value) (h : zH) (r : zO × zH)
    (hw : if a2 ≤ a4 then (
      r = (.inl (none), h))
    else (
      zT E d m_Land_measure 31 [some (.ref a0), some (.int a1), some (.int a2), some (.int a3), some (.int a4), some (.int 0)] [] h r)) :
    zT E d m_Land_measure 22 [some (.ref a0), some (.int a1), some (.int a2), some (.int a3), some (.int a4), j5] [] h r := by
  refine zT_st (pc' := 25) (L' := [some (.ref a0), some (.int a1), some (.int a2), some (.int a3), some (.int a4), j5]) (st' := [.int a2, .int a4]) (h' := h) 2 (fun n => rfl) ?_
  by_cases hc : a2 ≤ a4
  · rw [if_pos hc] at hw
    refine zT_st (pc' := 74) (L' := [some (.ref a0), some (.int a1), some (.int a2), some (.int a3), some (.int a4), j5]) (st' := []) (h' := h) 1 (fun n => if_pos hc) ?_
    subst hw
    exact zT_ret 1 rfl
  · rw [if_neg hc] at hw
    refine zT_st (pc' := 28) (L' := [some (.ref a0), some (.int a1), some (.int a2), some (.int a3), some (.int a4), j5]) (st' := []) (h' := h) 1 (fun n => if_neg hc) ?_
    exact zT_st 2 (fun n => rfl) hw
set_option maxRecDepth 4000 in
theorem s_Land_measure_31 (E : zX) (d : Nat) (a0 : Nat) (a1 : Int32) (a2 : Int32) (a3 : Int32) (a4 : Int32) (a5 : Int32) (h : zH) (r : zO × zH)
    (hw : if a1 ≤ a5 then (
      zT E d m_Land_measure 22 [some (.ref a0), some (.int a1), some (.int a2), some (.int a3), some (.int (a4 + 1)), some (.int a5)] [] h r)
    else (
      if 36 ≤ a3 then (
        zT E d m_Land_measure 22 [some (.ref a0), some (.int a1), some (.int a2), some (.int a3), some (.int (a4 + 1)), some (.int a5)] [] h r)
      else (
        ∃ o1 : Nat, fld h a0 5 9 = some (.ref o1) ∧
        ∃ (n2 : Nat) (f3 : Nat → Int32), arr h o1 = some (n2, f3) ∧ ¬ (a3 < 0 ∨ n2 ≤ (a3).toNatClampNeg) ∧
        ∃ o4 : Nat, fld (setA h o1 n2 (upd f3 (a3).toNatClampNeg a5)) a0 5 10 = some (.ref o4) ∧
        ∃ (n5 : Nat) (f6 : Nat → Int32), arr (setA h o1 n2 (upd f3 (a3).toNatClampNeg a5)) o4 = some (n5, f6) ∧ ¬ (a3 < 0 ∨ n5 ≤ (a3).toNatClampNeg) ∧
        zT E d m_Land_measure 31 [some (.ref a0), some (.int a1), some (.int a2), some (.int (a3 + 1)), some (.int a4), some (.int (a5 + 1))] [] (setA (setA h o1 n2 (upd f3 (a3).toNatClampNeg a5)) o4 n5 (upd f6 (a3).toNatClampNeg a4)) r))) :
    zT E d m_Land_measure 31 [some (.ref a0), some (.int a1), some (.int a2), some (.int a3), some (.int a4), some (.int a5)] [] h r := by
  refine zT_st (pc' := 34) (L' := [some (.ref a0), some (.int a1), some (.int a2), some (.int a3), some (.int a4), some (.int a5)]) (st' := [.int a1, .int a5]) (h' := h) 2 (fun n => rfl) ?_
  by_cases hc : a1 ≤ a5
  · rw [if_pos hc] at hw
    refine zT_st (pc' := 68) (L' := [some (.ref a0), some (.int a1), some (.int a2), some (.int a3), some (.int a4), some (.int a5)]) (st' := []) (h' := h) 1 (fun n => if_pos hc) ?_
    exact zT_st 2 (fun n => rfl) hw
  · rw [if_neg hc] at hw
    refine zT_st (pc' := 37) (L' := [some (.ref a0), some (.int a1), some (.int a2), some (.int a3), some (.int a4), some (.int a5)]) (st' := []) (h' := h) 1 (fun n => if_neg hc) ?_
    refine zT_st (pc' := 40) (L' := [some (.ref a0), some (.int a1), some (.int a2), some (.int a3), some (.int a4), some (.int a5)]) (st' := [.int 36, .int a3]) (h' := h) 2 (fun n => rfl) ?_
    by_cases hc : 36 ≤ a3
    · rw [if_pos hc] at hw
      refine zT_st (pc' := 68) (L' := [some (.ref a0), some (.int a1), some (.int a2), some (.int a3), some (.int a4), some (.int a5)]) (st' := []) (h' := h) 1 (fun n => if_pos hc) ?_
      exact zT_st 2 (fun n => rfl) hw
    · rw [if_neg hc] at hw
      refine zT_st (pc' := 43) (L' := [some (.ref a0), some (.int a1), some (.int a2), some (.int a3), some (.int a4), some (.int a5)]) (st' := []) (h' := h) 1 (fun n => if_neg hc) ?_
      refine zT_st (pc' := 44) (L' := [some (.ref a0), some (.int a1), some (.int a2), some (.int a3), some (.int a4), some (.int a5)]) (st' := [.ref a0]) (h' := h) 1 (fun n => rfl) ?_
      obtain ⟨o1, e, hw⟩ := hw
      refine zT_st (pc' := 47) (L' := [some (.ref a0), some (.int a1), some (.int a2), some (.int a3), some (.int a4), some (.int a5)]) (st' := [.ref o1]) (h' := h) 1 (fun n => fld_eq (E := E) e _) ?_
      refine zT_st (pc' := 50) (L' := [some (.ref a0), some (.int a1), some (.int a2), some (.int a3), some (.int a4), some (.int a5)]) (st' := [.int a5, .int a3, .ref o1]) (h' := h) 2 (fun n => rfl) ?_
      obtain ⟨n2, f3, e, hi, hw⟩ := hw
      refine zT_st (pc' := 51) (L' := [some (.ref a0), some (.int a1), some (.int a2), some (.int a3), some (.int a4), some (.int a5)]) (st' := []) (h' := (setA h o1 n2 (upd f3 (a3).toNatClampNeg a5))) 1 (fun n => set_eq e hi _ _) ?_
      refine zT_st (pc' := 52) (L' := [some (.ref a0), some (.int a1), some (.int a2), some (.int a3), some (.int a4), some (.int a5)]) (st' := [.ref a0]) (h' := (setA h o1 n2 (upd f3 (a3).toNatClampNeg a5))) 1 (fun n => rfl) ?_
      obtain ⟨o4, e, hw⟩ := hw
      refine zT_st (pc' := 55) (L' := [some (.ref a0), some (.int a1), some (.int a2), some (.int a3), some (.int a4), some (.int a5)]) (st' := [.ref o4]) (h' := (setA h o1 n2 (upd f3 (a3).toNatClampNeg a5))) 1 (fun n => fld_eq (E := E) e _) ?_
      refine zT_st (pc' := 58) (L' := [some (.ref a0), some (.int a1), some (.int a2), some (.int a3), some (.int a4), some (.int a5)]) (st' := [.int a4, .int a3, .ref o4]) (h' := (setA h o1 n2 (upd f3 (a3).toNatClampNeg a5))) 2 (fun n => rfl) ?_
      obtain ⟨n5, f6, e, hi, hw⟩ := hw
      refine zT_st (pc' := 59) (L' := [some (.ref a0), some (.int a1), some (.int a2), some (.int a3), some (.int a4), some (.int a5)]) (st' := []) (h' := (setA (setA h o1 n2 (upd f3 (a3).toNatClampNeg a5)) o4 n5 (upd f6 (a3).toNatClampNeg a4))) 1 (fun n => set_eq e hi _ _) ?_
      exact zT_st 3 (fun n => rfl) hw
set_option maxRecDepth 4000 in
theorem s_Land_far_0 (E : zX) (d : Nat) (a0 : Nat) (a1 : Int32) (a2 : Int32) (h : zH) (r : zO × zH)
    (hw : ∃ o1 : Nat, fld h a0 5 9 = some (.ref o1) ∧
    ∃ (n2 : Nat) (f3 : Nat → Int32), arr h o1 = some (n2, f3) ∧ ¬ (a1 < 0 ∨ n2 ≤ (a1).toNatClampNeg) ∧
    ∃ o4 : Nat, fld h a0 5 9 = some (.ref o4) ∧
    ∃ (n5 : Nat) (f6 : Nat → Int32), arr h o4 = some (n5, f6) ∧ ¬ (a2 < 0 ∨ n5 ≤ (a2).toNatClampNeg) ∧
    ∃ o7 : Nat, fld h a0 5 10 = some (.ref o7) ∧
    ∃ (n8 : Nat) (f9 : Nat → Int32), arr h o7 = some (n8, f9) ∧ ¬ (a1 < 0 ∨ n8 ≤ (a1).toNatClampNeg) ∧
    ∃ o10 : Nat, fld h a0 5 10 = some (.ref o10) ∧
    ∃ (n11 : Nat) (f12 : Nat → Int32), arr h o10 = some (n11, f12) ∧ ¬ (a2 < 0 ∨ n11 ≤ (a2).toNatClampNeg) ∧
    if 0 ≤ ((f3 (a1).toNatClampNeg) - (f6 (a2).toNatClampNeg)) then (
      if 0 ≤ ((f9 (a1).toNatClampNeg) - (f12 (a2).toNatClampNeg)) then (
        r = (.inl (some (.int (((f3 (a1).toNatClampNeg) - (f6 (a2).toNatClampNeg)) + ((f9 (a1).toNatClampNeg) - (f12 (a2).toNatClampNeg))))), h))
      else (
        r = (.inl (some (.int (((f3 (a1).toNatClampNeg) - (f6 (a2).toNatClampNeg)) + (-((f9 (a1).toNatClampNeg) - (f12 (a2).toNatClampNeg)))))), h)))
    else (
      if 0 ≤ ((f9 (a1).toNatClampNeg) - (f12 (a2).toNatClampNeg)) then (
        r = (.inl (some (.int ((-((f3 (a1).toNatClampNeg) - (f6 (a2).toNatClampNeg))) + ((f9 (a1).toNatClampNeg) - (f12 (a2).toNatClampNeg))))), h))
      else (
        r = (.inl (some (.int ((-((f3 (a1).toNatClampNeg) - (f6 (a2).toNatClampNeg))) + (-((f9 (a1).toNatClampNeg) - (f12 (a2).toNatClampNeg)))))), h)))) :
    zT E d m_Land_far 0 [some (.ref a0), some (.int a1), some (.int a2), none, none] [] h r := by
  refine zT_st (pc' := 1) (L' := [some (.ref a0), some (.int a1), some (.int a2), none, none]) (st' := [.ref a0]) (h' := h) 1 (fun n => rfl) ?_
  obtain ⟨o1, e, hw⟩ := hw
  refine zT_st (pc' := 4) (L' := [some (.ref a0), some (.int a1), some (.int a2), none, none]) (st' := [.ref o1]) (h' := h) 1 (fun n => fld_eq (E := E) e _) ?_
  refine zT_st (pc' := 5) (L' := [some (.ref a0), some (.int a1), some (.int a2), none, none]) (st' := [.int a1, .ref o1]) (h' := h) 1 (fun n => rfl) ?_
  obtain ⟨n2, f3, e, hi, hw⟩ := hw
  refine zT_st (pc' := 6) (L' := [some (.ref a0), some (.int a1), some (.int a2), none, none]) (st' := [.int (f3 (a1).toNatClampNeg)]) (h' := h) 1 (fun n => arr_eq (E := E) e hi [] (fun st => zrun zP zCd E n d m_Land_far 6 [some (.ref a0), some (.int a1), some (.int a2), none, none] st h)) ?_
  refine zT_st (pc' := 7) (L' := [some (.ref a0), some (.int a1), some (.int a2), none, none]) (st' := [.ref a0, .int (f3 (a1).toNatClampNeg)]) (h' := h) 1 (fun n => rfl) ?_
  obtain ⟨o4, e, hw⟩ := hw
  refine zT_st (pc' := 10) (L' := [some (.ref a0), some (.int a1), some (.int a2), none, none]) (st' := [.ref o4, .int (f3 (a1).toNatClampNeg)]) (h' := h) 1 (fun n => fld_eq (E := E) e _) ?_
  refine zT_st (pc' := 11) (L' := [some (.ref a0), some (.int a1), some (.int a2), none, none]) (st' := [.int a2, .ref o4, .int (f3 (a1).toNatClampNeg)]) (h' := h) 1 (fun n => rfl) ?_
  obtain ⟨n5, f6, e, hi, hw⟩ := hw
  refine zT_st (pc' := 12) (L' := [some (.ref a0), some (.int a1), some (.int a2), none, none]) (st' := [.int (f6 (a2).toNatClampNeg), .int (f3 (a1).toNatClampNeg)]) (h' := h) 1 (fun n => arr_eq (E := E) e hi [.int (f3 (a1).toNatClampNeg)] (fun st => zrun zP zCd E n d m_Land_far 12 [some (.ref a0), some (.int a1), some (.int a2), none, none] st h)) ?_
  refine zT_st (pc' := 15) (L' := [some (.ref a0), some (.int a1), some (.int a2), some (.int ((f3 (a1).toNatClampNeg) - (f6 (a2).toNatClampNeg))), none]) (st' := [.ref a0]) (h' := h) 3 (fun n => rfl) ?_
  obtain ⟨o7, e, hw⟩ := hw
  refine zT_st (pc' := 18) (L' := [some (.ref a0), some (.int a1), some (.int a2), some (.int ((f3 (a1).toNatClampNeg) - (f6 (a2).toNatClampNeg))), none]) (st' := [.ref o7]) (h' := h) 1 (fun n => fld_eq (E := E) e _) ?_
  refine zT_st (pc' := 19) (L' := [some (.ref a0), some (.int a1), some (.int a2), some (.int ((f3 (a1).toNatClampNeg) - (f6 (a2).toNatClampNeg))), none]) (st' := [.int a1, .ref o7]) (h' := h) 1 (fun n => rfl) ?_
  obtain ⟨n8, f9, e, hi, hw⟩ := hw
  refine zT_st (pc' := 20) (L' := [some (.ref a0), some (.int a1), some (.int a2), some (.int ((f3 (a1).toNatClampNeg) - (f6 (a2).toNatClampNeg))), none]) (st' := [.int (f9 (a1).toNatClampNeg)]) (h' := h) 1 (fun n => arr_eq (E := E) e hi [] (fun st => zrun zP zCd E n d m_Land_far 20 [some (.ref a0), some (.int a1), some (.int a2), some (.int ((f3 (a1).toNatClampNeg) - (f6 (a2).toNatClampNeg))), none] st h)) ?_
  refine zT_st (pc' := 21) (L' := [some (.ref a0), some (.int a1), some (.int a2), some (.int ((f3 (a1).toNatClampNeg) - (f6 (a2).toNatClampNeg))), none]) (st' := [.ref a0, .int (f9 (a1).toNatClampNeg)]) (h' := h) 1 (fun n => rfl) ?_
  obtain ⟨o10, e, hw⟩ := hw
  refine zT_st (pc' := 24) (L' := [some (.ref a0), some (.int a1), some (.int a2), some (.int ((f3 (a1).toNatClampNeg) - (f6 (a2).toNatClampNeg))), none]) (st' := [.ref o10, .int (f9 (a1).toNatClampNeg)]) (h' := h) 1 (fun n => fld_eq (E := E) e _) ?_
  refine zT_st (pc' := 25) (L' := [some (.ref a0), some (.int a1), some (.int a2), some (.int ((f3 (a1).toNatClampNeg) - (f6 (a2).toNatClampNeg))), none]) (st' := [.int a2, .ref o10, .int (f9 (a1).toNatClampNeg)]) (h' := h) 1 (fun n => rfl) ?_
  obtain ⟨n11, f12, e, hi, hw⟩ := hw
  refine zT_st (pc' := 26) (L' := [some (.ref a0), some (.int a1), some (.int a2), some (.int ((f3 (a1).toNatClampNeg) - (f6 (a2).toNatClampNeg))), none]) (st' := [.int (f12 (a2).toNatClampNeg), .int (f9 (a1).toNatClampNeg)]) (h' := h) 1 (fun n => arr_eq (E := E) e hi [.int (f9 (a1).toNatClampNeg)] (fun st => zrun zP zCd E n d m_Land_far 26 [some (.ref a0), some (.int a1), some (.int a2), some (.int ((f3 (a1).toNatClampNeg) - (f6 (a2).toNatClampNeg))), none] st h)) ?_
  refine zT_st (pc' := 30) (L' := [some (.ref a0), some (.int a1), some (.int a2), some (.int ((f3 (a1).toNatClampNeg) - (f6 (a2).toNatClampNeg))), some (.int ((f9 (a1).toNatClampNeg) - (f12 (a2).toNatClampNeg)))]) (st' := [.int ((f3 (a1).toNatClampNeg) - (f6 (a2).toNatClampNeg))]) (h' := h) 3 (fun n => rfl) ?_
  by_cases hc : 0 ≤ ((f3 (a1).toNatClampNeg) - (f6 (a2).toNatClampNeg))
  · rw [if_pos hc] at hw
    refine zT_st (pc' := 38) (L' := [some (.ref a0), some (.int a1), some (.int a2), some (.int ((f3 (a1).toNatClampNeg) - (f6 (a2).toNatClampNeg))), some (.int ((f9 (a1).toNatClampNeg) - (f12 (a2).toNatClampNeg)))]) (st' := []) (h' := h) 1 (fun n => if_pos hc) ?_
    refine zT_st (pc' := 41) (L' := [some (.ref a0), some (.int a1), some (.int a2), some (.int ((f3 (a1).toNatClampNeg) - (f6 (a2).toNatClampNeg))), some (.int ((f9 (a1).toNatClampNeg) - (f12 (a2).toNatClampNeg)))]) (st' := [.int ((f9 (a1).toNatClampNeg) - (f12 (a2).toNatClampNeg)), .int ((f3 (a1).toNatClampNeg) - (f6 (a2).toNatClampNeg))]) (h' := h) 2 (fun n => rfl) ?_
    by_cases hc : 0 ≤ ((f9 (a1).toNatClampNeg) - (f12 (a2).toNatClampNeg))
    · rw [if_pos hc] at hw
      refine zT_st (pc' := 50) (L' := [some (.ref a0), some (.int a1), some (.int a2), some (.int ((f3 (a1).toNatClampNeg) - (f6 (a2).toNatClampNeg))), some (.int ((f9 (a1).toNatClampNeg) - (f12 (a2).toNatClampNeg)))]) (st' := [.int ((f3 (a1).toNatClampNeg) - (f6 (a2).toNatClampNeg))]) (h' := h) 1 (fun n => if_pos hc) ?_
      subst hw
      exact zT_ret 3 rfl
    · rw [if_neg hc] at hw
      refine zT_st (pc' := 44) (L' := [some (.ref a0), some (.int a1), some (.int a2), some (.int ((f3 (a1).toNatClampNeg) - (f6 (a2).toNatClampNeg))), some (.int ((f9 (a1).toNatClampNeg) - (f12 (a2).toNatClampNeg)))]) (st' := [.int ((f3 (a1).toNatClampNeg) - (f6 (a2).toNatClampNeg))]) (h' := h) 1 (fun n => if_neg hc) ?_
      subst hw
      exact zT_ret 5 rfl
  · rw [if_neg hc] at hw
    refine zT_st (pc' := 33) (L' := [some (.ref a0), some (.int a1), some (.int a2), some (.int ((f3 (a1).toNatClampNeg) - (f6 (a2).toNatClampNeg))), some (.int ((f9 (a1).toNatClampNeg) - (f12 (a2).toNatClampNeg)))]) (st' := []) (h' := h) 1 (fun n => if_neg hc) ?_
    refine zT_st (pc' := 41) (L' := [some (.ref a0), some (.int a1), some (.int a2), some (.int ((f3 (a1).toNatClampNeg) - (f6 (a2).toNatClampNeg))), some (.int ((f9 (a1).toNatClampNeg) - (f12 (a2).toNatClampNeg)))]) (st' := [.int ((f9 (a1).toNatClampNeg) - (f12 (a2).toNatClampNeg)), .int (-((f3 (a1).toNatClampNeg) - (f6 (a2).toNatClampNeg)))]) (h' := h) 4 (fun n => rfl) ?_
    by_cases hc : 0 ≤ ((f9 (a1).toNatClampNeg) - (f12 (a2).toNatClampNeg))
    · rw [if_pos hc] at hw
      refine zT_st (pc' := 50) (L' := [some (.ref a0), some (.int a1), some (.int a2), some (.int ((f3 (a1).toNatClampNeg) - (f6 (a2).toNatClampNeg))), some (.int ((f9 (a1).toNatClampNeg) - (f12 (a2).toNatClampNeg)))]) (st' := [.int (-((f3 (a1).toNatClampNeg) - (f6 (a2).toNatClampNeg)))]) (h' := h) 1 (fun n => if_pos hc) ?_
      subst hw
      exact zT_ret 3 rfl
    · rw [if_neg hc] at hw
      refine zT_st (pc' := 44) (L' := [some (.ref a0), some (.int a1), some (.int a2), some (.int ((f3 (a1).toNatClampNeg) - (f6 (a2).toNatClampNeg))), some (.int ((f9 (a1).toNatClampNeg) - (f12 (a2).toNatClampNeg)))]) (st' := [.int (-((f3 (a1).toNatClampNeg) - (f6 (a2).toNatClampNeg)))]) (h' := h) 1 (fun n => if_neg hc) ?_
      subst hw
      exact zT_ret 5 rfl
set_option maxRecDepth 4000 in
theorem s_Land_copyFrom_0 (E : zX) (d : Nat) (a0 : Nat) (a1 : Nat) (h : zH) (r : zO × zH)
    (hw : ∃ x1 : Int32, fld h a1 5 0 = some (.int x1) ∧
    ∃ x2 : Int32, fld h a1 5 1 = some (.int x2) ∧
    isO h a0 5 = true ∧ ∃ (h4 : zH), zT E d m_Land_measure 0 [some (.ref a0), some (.int x1), some (.int x2), none, none, none] [] h (.inl none, h4) ∧
    ∃ x5 : Int32, fld h4 a1 5 3 = some (.int x5) ∧
    (∃ w, fld h4 a0 5 3 = some w) ∧
    ∃ x6 : Int32, fld (setF h4 a0 3 (.int x5)) a1 5 4 = some (.int x6) ∧
    (∃ w, fld (setF h4 a0 3 (.int x5)) a0 5 4 = some w) ∧
    ∃ o7 : Nat, fld (setF (setF h4 a0 3 (.int x5)) a0 4 (.int x6)) a1 5 5 = some (.ref o7) ∧
    ∃ o8 : Nat, fld (setF (setF h4 a0 3 (.int x5)) a0 4 (.int x6)) a0 5 5 = some (.ref o8) ∧
    ∃ (n9 : Nat) (f10 : Nat → Int32) (n11 : Nat) (f12 : Nat → Int32), arr (setF (setF h4 a0 3 (.int x5)) a0 4 (.int x6)) o7 = some (n9, f10) ∧ arr (setF (setF h4 a0 3 (.int x5)) a0 4 (.int x6)) o8 = some (n11, f12) ∧ ¬ (((0 : Int32) < 0 ∨ (0 : Int32) < 0 ∨ (7 : Int32) < 0) ∨ (n9 < ((0 : Int32)).toNatClampNeg + ((7 : Int32)).toNatClampNeg ∨ n11 < ((0 : Int32)).toNatClampNeg + ((7 : Int32)).toNatClampNeg)) ∧
    ∃ o13 : Nat, fld (setA (setF (setF h4 a0 3 (.int x5)) a0 4 (.int x6)) o8 n11 (va_cpy f10 f12 ((0 : Int32)).toNatClampNeg ((0 : Int32)).toNatClampNeg ((7 : Int32)).toNatClampNeg)) a1 5 6 = some (.ref o13) ∧
    ∃ o14 : Nat, fld (setA (setF (setF h4 a0 3 (.int x5)) a0 4 (.int x6)) o8 n11 (va_cpy f10 f12 ((0 : Int32)).toNatClampNeg ((0 : Int32)).toNatClampNeg ((7 : Int32)).toNatClampNeg)) a0 5 6 = some (.ref o14) ∧
    ∃ (n15 : Nat) (f16 : Nat → Int32) (n17 : Nat) (f18 : Nat → Int32), arr (setA (setF (setF h4 a0 3 (.int x5)) a0 4 (.int x6)) o8 n11 (va_cpy f10 f12 ((0 : Int32)).toNatClampNeg ((0 : Int32)).toNatClampNeg ((7 : Int32)).toNatClampNeg)) o13 = some (n15, f16) ∧ arr (setA (setF (setF h4 a0 3 (.int x5)) a0 4 (.int x6)) o8 n11 (va_cpy f10 f12 ((0 : Int32)).toNatClampNeg ((0 : Int32)).toNatClampNeg ((7 : Int32)).toNatClampNeg)) o14 = some (n17, f18) ∧ ¬ (((0 : Int32) < 0 ∨ (0 : Int32) < 0 ∨ (10 : Int32) < 0) ∨ (n15 < ((0 : Int32)).toNatClampNeg + ((10 : Int32)).toNatClampNeg ∨ n17 < ((0 : Int32)).toNatClampNeg + ((10 : Int32)).toNatClampNeg)) ∧
    ∃ o19 : Nat, fld (setA (setA (setF (setF h4 a0 3 (.int x5)) a0 4 (.int x6)) o8 n11 (va_cpy f10 f12 ((0 : Int32)).toNatClampNeg ((0 : Int32)).toNatClampNeg ((7 : Int32)).toNatClampNeg)) o14 n17 (va_cpy f16 f18 ((0 : Int32)).toNatClampNeg ((0 : Int32)).toNatClampNeg ((10 : Int32)).toNatClampNeg)) a0 5 7 = some (.ref o19) ∧
    ∃ o20 : Nat, fld (setA (setA (setF (setF h4 a0 3 (.int x5)) a0 4 (.int x6)) o8 n11 (va_cpy f10 f12 ((0 : Int32)).toNatClampNeg ((0 : Int32)).toNatClampNeg ((7 : Int32)).toNatClampNeg)) o14 n17 (va_cpy f16 f18 ((0 : Int32)).toNatClampNeg ((0 : Int32)).toNatClampNeg ((10 : Int32)).toNatClampNeg)) a1 5 7 = some (.ref o20) ∧
    isO (setA (setA (setF (setF h4 a0 3 (.int x5)) a0 4 (.int x6)) o8 n11 (va_cpy f10 f12 ((0 : Int32)).toNatClampNeg ((0 : Int32)).toNatClampNeg ((7 : Int32)).toNatClampNeg)) o14 n17 (va_cpy f16 f18 ((0 : Int32)).toNatClampNeg ((0 : Int32)).toNatClampNeg ((10 : Int32)).toNatClampNeg)) o19 9 = true ∧ ∃ (h22 : zH), zT E d m_Rule_copyFrom 0 [some (.ref o19), some (.ref o20)] [] (setA (setA (setF (setF h4 a0 3 (.int x5)) a0 4 (.int x6)) o8 n11 (va_cpy f10 f12 ((0 : Int32)).toNatClampNeg ((0 : Int32)).toNatClampNeg ((7 : Int32)).toNatClampNeg)) o14 n17 (va_cpy f16 f18 ((0 : Int32)).toNatClampNeg ((0 : Int32)).toNatClampNeg ((10 : Int32)).toNatClampNeg)) (.inl none, h22) ∧
    ∃ o23 : Nat, fld h22 a0 5 8 = some (.ref o23) ∧
    ∃ o24 : Nat, fld h22 a1 5 8 = some (.ref o24) ∧
    isO h22 o23 9 = true ∧ ∃ (h26 : zH), zT E d m_Rule_copyFrom 0 [some (.ref o23), some (.ref o24)] [] h22 (.inl none, h26) ∧
    r = (.inl (none), h26)) :
    zT E (d + 1) m_Land_copyFrom 0 [some (.ref a0), some (.ref a1)] [] h r := by
  refine zT_st (pc' := 2) (L' := [some (.ref a0), some (.ref a1)]) (st' := [.ref a1, .ref a0]) (h' := h) 2 (fun n => rfl) ?_
  obtain ⟨x1, e, hw⟩ := hw
  refine zT_st (pc' := 5) (L' := [some (.ref a0), some (.ref a1)]) (st' := [.int x1, .ref a0]) (h' := h) 1 (fun n => fld_eq (E := E) e _) ?_
  refine zT_st (pc' := 6) (L' := [some (.ref a0), some (.ref a1)]) (st' := [.ref a1, .int x1, .ref a0]) (h' := h) 1 (fun n => rfl) ?_
  obtain ⟨x2, e, hw⟩ := hw
  refine zT_st (pc' := 9) (L' := [some (.ref a0), some (.ref a1)]) (st' := [.int x2, .int x1, .ref a0]) (h' := h) 1 (fun n => fld_eq (E := E) e _) ?_
  obtain ⟨hq, hw⟩ := hw
  obtain ⟨h4, hx, hw⟩ := hw
  refine zT_call (pc' := 12) (rest := []) 1 (fun n => rfl) hq hx ?_
  show zT E (d + 1) m_Land_copyFrom 12 [some (.ref a0), some (.ref a1)] [] h4 r
  refine zT_st (pc' := 14) (L' := [some (.ref a0), some (.ref a1)]) (st' := [.ref a1, .ref a0]) (h' := h4) 2 (fun n => rfl) ?_
  obtain ⟨x5, e, hw⟩ := hw
  refine zT_st (pc' := 17) (L' := [some (.ref a0), some (.ref a1)]) (st' := [.int x5, .ref a0]) (h' := h4) 1 (fun n => fld_eq (E := E) e _) ?_
  obtain ⟨⟨w, e⟩, hw⟩ := hw
  refine zT_st (pc' := 20) (L' := [some (.ref a0), some (.ref a1)]) (st' := []) (h' := (setF h4 a0 3 (.int x5))) 1 (fun n => put_eq e rfl _ _) ?_
  refine zT_st (pc' := 22) (L' := [some (.ref a0), some (.ref a1)]) (st' := [.ref a1, .ref a0]) (h' := (setF h4 a0 3 (.int x5))) 2 (fun n => rfl) ?_
  obtain ⟨x6, e, hw⟩ := hw
  refine zT_st (pc' := 25) (L' := [some (.ref a0), some (.ref a1)]) (st' := [.int x6, .ref a0]) (h' := (setF h4 a0 3 (.int x5))) 1 (fun n => fld_eq (E := E) e _) ?_
  obtain ⟨⟨w, e⟩, hw⟩ := hw
  refine zT_st (pc' := 28) (L' := [some (.ref a0), some (.ref a1)]) (st' := []) (h' := (setF (setF h4 a0 3 (.int x5)) a0 4 (.int x6))) 1 (fun n => put_eq e rfl _ _) ?_
  refine zT_st (pc' := 29) (L' := [some (.ref a0), some (.ref a1)]) (st' := [.ref a1]) (h' := (setF (setF h4 a0 3 (.int x5)) a0 4 (.int x6))) 1 (fun n => rfl) ?_
  obtain ⟨o7, e, hw⟩ := hw
  refine zT_st (pc' := 32) (L' := [some (.ref a0), some (.ref a1)]) (st' := [.ref o7]) (h' := (setF (setF h4 a0 3 (.int x5)) a0 4 (.int x6))) 1 (fun n => fld_eq (E := E) e _) ?_
  refine zT_st (pc' := 34) (L' := [some (.ref a0), some (.ref a1)]) (st' := [.ref a0, .int 0, .ref o7]) (h' := (setF (setF h4 a0 3 (.int x5)) a0 4 (.int x6))) 2 (fun n => rfl) ?_
  obtain ⟨o8, e, hw⟩ := hw
  refine zT_st (pc' := 37) (L' := [some (.ref a0), some (.ref a1)]) (st' := [.ref o8, .int 0, .ref o7]) (h' := (setF (setF h4 a0 3 (.int x5)) a0 4 (.int x6))) 1 (fun n => fld_eq (E := E) e _) ?_
  refine zT_st (pc' := 40) (L' := [some (.ref a0), some (.ref a1)]) (st' := [.int 7, .int 0, .ref o8, .int 0, .ref o7]) (h' := (setF (setF h4 a0 3 (.int x5)) a0 4 (.int x6))) 2 (fun n => rfl) ?_
  obtain ⟨n9, f10, n11, f12, e0, e1, hi, hw⟩ := hw
  refine zT_st (pc' := 43) (L' := [some (.ref a0), some (.ref a1)]) (st' := []) (h' := (setA (setF (setF h4 a0 3 (.int x5)) a0 4 (.int x6)) o8 n11 (va_cpy f10 f12 ((0 : Int32)).toNatClampNeg ((0 : Int32)).toNatClampNeg ((7 : Int32)).toNatClampNeg))) 1 (fun n => cp_eq e0 e1 hi _ _) ?_
  refine zT_st (pc' := 44) (L' := [some (.ref a0), some (.ref a1)]) (st' := [.ref a1]) (h' := (setA (setF (setF h4 a0 3 (.int x5)) a0 4 (.int x6)) o8 n11 (va_cpy f10 f12 ((0 : Int32)).toNatClampNeg ((0 : Int32)).toNatClampNeg ((7 : Int32)).toNatClampNeg))) 1 (fun n => rfl) ?_
  obtain ⟨o13, e, hw⟩ := hw
  refine zT_st (pc' := 47) (L' := [some (.ref a0), some (.ref a1)]) (st' := [.ref o13]) (h' := (setA (setF (setF h4 a0 3 (.int x5)) a0 4 (.int x6)) o8 n11 (va_cpy f10 f12 ((0 : Int32)).toNatClampNeg ((0 : Int32)).toNatClampNeg ((7 : Int32)).toNatClampNeg))) 1 (fun n => fld_eq (E := E) e _) ?_
  refine zT_st (pc' := 49) (L' := [some (.ref a0), some (.ref a1)]) (st' := [.ref a0, .int 0, .ref o13]) (h' := (setA (setF (setF h4 a0 3 (.int x5)) a0 4 (.int x6)) o8 n11 (va_cpy f10 f12 ((0 : Int32)).toNatClampNeg ((0 : Int32)).toNatClampNeg ((7 : Int32)).toNatClampNeg))) 2 (fun n => rfl) ?_
  obtain ⟨o14, e, hw⟩ := hw
  refine zT_st (pc' := 52) (L' := [some (.ref a0), some (.ref a1)]) (st' := [.ref o14, .int 0, .ref o13]) (h' := (setA (setF (setF h4 a0 3 (.int x5)) a0 4 (.int x6)) o8 n11 (va_cpy f10 f12 ((0 : Int32)).toNatClampNeg ((0 : Int32)).toNatClampNeg ((7 : Int32)).toNatClampNeg))) 1 (fun n => fld_eq (E := E) e _) ?_
  refine zT_st (pc' := 55) (L' := [some (.ref a0), some (.ref a1)]) (st' := [.int 10, .int 0, .ref o14, .int 0, .ref o13]) (h' := (setA (setF (setF h4 a0 3 (.int x5)) a0 4 (.int x6)) o8 n11 (va_cpy f10 f12 ((0 : Int32)).toNatClampNeg ((0 : Int32)).toNatClampNeg ((7 : Int32)).toNatClampNeg))) 2 (fun n => rfl) ?_
  obtain ⟨n15, f16, n17, f18, e0, e1, hi, hw⟩ := hw
  refine zT_st (pc' := 58) (L' := [some (.ref a0), some (.ref a1)]) (st' := []) (h' := (setA (setA (setF (setF h4 a0 3 (.int x5)) a0 4 (.int x6)) o8 n11 (va_cpy f10 f12 ((0 : Int32)).toNatClampNeg ((0 : Int32)).toNatClampNeg ((7 : Int32)).toNatClampNeg)) o14 n17 (va_cpy f16 f18 ((0 : Int32)).toNatClampNeg ((0 : Int32)).toNatClampNeg ((10 : Int32)).toNatClampNeg))) 1 (fun n => cp_eq e0 e1 hi _ _) ?_
  refine zT_st (pc' := 59) (L' := [some (.ref a0), some (.ref a1)]) (st' := [.ref a0]) (h' := (setA (setA (setF (setF h4 a0 3 (.int x5)) a0 4 (.int x6)) o8 n11 (va_cpy f10 f12 ((0 : Int32)).toNatClampNeg ((0 : Int32)).toNatClampNeg ((7 : Int32)).toNatClampNeg)) o14 n17 (va_cpy f16 f18 ((0 : Int32)).toNatClampNeg ((0 : Int32)).toNatClampNeg ((10 : Int32)).toNatClampNeg))) 1 (fun n => rfl) ?_
  obtain ⟨o19, e, hw⟩ := hw
  refine zT_st (pc' := 62) (L' := [some (.ref a0), some (.ref a1)]) (st' := [.ref o19]) (h' := (setA (setA (setF (setF h4 a0 3 (.int x5)) a0 4 (.int x6)) o8 n11 (va_cpy f10 f12 ((0 : Int32)).toNatClampNeg ((0 : Int32)).toNatClampNeg ((7 : Int32)).toNatClampNeg)) o14 n17 (va_cpy f16 f18 ((0 : Int32)).toNatClampNeg ((0 : Int32)).toNatClampNeg ((10 : Int32)).toNatClampNeg))) 1 (fun n => fld_eq (E := E) e _) ?_
  refine zT_st (pc' := 63) (L' := [some (.ref a0), some (.ref a1)]) (st' := [.ref a1, .ref o19]) (h' := (setA (setA (setF (setF h4 a0 3 (.int x5)) a0 4 (.int x6)) o8 n11 (va_cpy f10 f12 ((0 : Int32)).toNatClampNeg ((0 : Int32)).toNatClampNeg ((7 : Int32)).toNatClampNeg)) o14 n17 (va_cpy f16 f18 ((0 : Int32)).toNatClampNeg ((0 : Int32)).toNatClampNeg ((10 : Int32)).toNatClampNeg))) 1 (fun n => rfl) ?_
  obtain ⟨o20, e, hw⟩ := hw
  refine zT_st (pc' := 66) (L' := [some (.ref a0), some (.ref a1)]) (st' := [.ref o20, .ref o19]) (h' := (setA (setA (setF (setF h4 a0 3 (.int x5)) a0 4 (.int x6)) o8 n11 (va_cpy f10 f12 ((0 : Int32)).toNatClampNeg ((0 : Int32)).toNatClampNeg ((7 : Int32)).toNatClampNeg)) o14 n17 (va_cpy f16 f18 ((0 : Int32)).toNatClampNeg ((0 : Int32)).toNatClampNeg ((10 : Int32)).toNatClampNeg))) 1 (fun n => fld_eq (E := E) e _) ?_
  obtain ⟨hq, hw⟩ := hw
  obtain ⟨h22, hx, hw⟩ := hw
  refine zT_call (pc' := 69) (rest := []) 1 (fun n => rfl) hq hx ?_
  show zT E (d + 1) m_Land_copyFrom 69 [some (.ref a0), some (.ref a1)] [] h22 r
  refine zT_st (pc' := 70) (L' := [some (.ref a0), some (.ref a1)]) (st' := [.ref a0]) (h' := h22) 1 (fun n => rfl) ?_
  obtain ⟨o23, e, hw⟩ := hw
  refine zT_st (pc' := 73) (L' := [some (.ref a0), some (.ref a1)]) (st' := [.ref o23]) (h' := h22) 1 (fun n => fld_eq (E := E) e _) ?_
  refine zT_st (pc' := 74) (L' := [some (.ref a0), some (.ref a1)]) (st' := [.ref a1, .ref o23]) (h' := h22) 1 (fun n => rfl) ?_
  obtain ⟨o24, e, hw⟩ := hw
  refine zT_st (pc' := 77) (L' := [some (.ref a0), some (.ref a1)]) (st' := [.ref o24, .ref o23]) (h' := h22) 1 (fun n => fld_eq (E := E) e _) ?_
  obtain ⟨hq, hw⟩ := hw
  obtain ⟨h26, hx, hw⟩ := hw
  refine zT_call (pc' := 80) (rest := []) 1 (fun n => rfl) hq hx ?_
  show zT E (d + 1) m_Land_copyFrom 80 [some (.ref a0), some (.ref a1)] [] h26 r
  subst hw
  exact zT_ret 1 rfl
-- s_Rule_init_0: by hand
set_option maxRecDepth 4000 in
theorem s_Rule_clear_0 (E : zX) (d : Nat) (a0 : Nat) (h : zH) (r : zO × zH)
    (hw : (∃ w, fld h a0 9 1 = some w) ∧
    r = (.inl (none), (setF h a0 1 (.int 0)))) :
    zT E d m_Rule_clear 0 [some (.ref a0)] [] h r := by
  refine zT_st (pc' := 2) (L' := [some (.ref a0)]) (st' := [.int 0, .ref a0]) (h' := h) 2 (fun n => rfl) ?_
  obtain ⟨⟨w, e⟩, hw⟩ := hw
  refine zT_st (pc' := 5) (L' := [some (.ref a0)]) (st' := []) (h' := (setF h a0 1 (.int 0))) 1 (fun n => put_eq e rfl _ _) ?_
  subst hw
  exact zT_ret 1 rfl
set_option maxRecDepth 4000 in
theorem s_Rule_isTold_0 (E : zX) (d : Nat) (a0 : Nat) (h : zH) (r : zO × zH)
    (hw : ∃ x1 : Int32, fld h a0 9 1 = some (.int x1) ∧
    if x1 ≤ 0 then (
      r = (.inl (some (.int 0)), h))
    else (
      r = (.inl (some (.int 1)), h))) :
    zT E d m_Rule_isTold 0 [some (.ref a0)] [] h r := by
  refine zT_st (pc' := 1) (L' := [some (.ref a0)]) (st' := [.ref a0]) (h' := h) 1 (fun n => rfl) ?_
  obtain ⟨x1, e, hw⟩ := hw
  refine zT_st (pc' := 4) (L' := [some (.ref a0)]) (st' := [.int x1]) (h' := h) 1 (fun n => fld_eq (E := E) e _) ?_
  by_cases hc : x1 ≤ 0
  · rw [if_pos hc] at hw
    refine zT_st (pc' := 11) (L' := [some (.ref a0)]) (st' := []) (h' := h) 1 (fun n => if_pos hc) ?_
    subst hw
    exact zT_ret 2 rfl
  · rw [if_neg hc] at hw
    refine zT_st (pc' := 7) (L' := [some (.ref a0)]) (st' := []) (h' := h) 1 (fun n => if_neg hc) ?_
    subst hw
    exact zT_ret 3 rfl
set_option maxRecDepth 4000 in
theorem s_Rule_worth_0 (E : zX) (d : Nat) (a0 : Nat) (a1 : Nat) (a2 : Nat) (h : zH) (r : zO × zH)
    (hw : zT E (d + 1) m_Rule_worth 5 [some (.ref a0), some (.ref a1), some (.ref a2), some (.int 0), some (.int 0), none] [] h r) :
    zT E (d + 1) m_Rule_worth 0 [some (.ref a0), some (.ref a1), some (.ref a2), none, none, none] [] h r := by
  exact zT_st 4 (fun n => rfl) hw
set_option maxRecDepth 4000 in
theorem s_Rule_worth_5 (E : zX) (d : Nat) (a0 : Nat) (a1 : Nat) (a2 : Nat) (a3 : Int32) (a4 : Int32) (j5 : Option Value) (h : zH) (r : zO × zH)
    (hw : ∃ x1 : Int32, fld h a0 9 1 = some (.int x1) ∧
    if x1 ≤ a4 then (
      if a3 ≤ 0 then (
        r = (.inl (some (.int 0)), h))
      else (
        ∃ (n2 : Nat) (f3 : Nat → Int32), arr h a2 = some (n2, f3) ∧ ¬ ((0 : Int32) < 0 ∨ n2 ≤ ((0 : Int32)).toNatClampNeg) ∧
        r = (.inl (some (.int (f3 ((0 : Int32)).toNatClampNeg))), h)))
    else (
      ∃ o4 : Nat, fld h a0 9 0 = some (.ref o4) ∧
      ∃ (n5 : Nat) (f6 : Nat → Int32), arr h o4 = some (n5, f6) ∧ ¬ (a4 < 0 ∨ n5 ≤ (a4).toNatClampNeg) ∧
      if (f6 (a4).toNatClampNeg) = (-3) then (
        if a3 ≤ 0 then (
          zT E (d + 1) m_Rule_worth 5 [some (.ref a0), some (.ref a1), some (.ref a2), some (.int a3), some (.int (a4 + 1)), some (.int (f6 (a4).toNatClampNeg))] [] h r)
        else (
          ∃ (n7 : Nat) (f8 : Nat → Int32), arr h a2 = some (n7, f8) ∧ ¬ ((a3 - 1) < 0 ∨ n7 ≤ ((a3 - 1)).toNatClampNeg) ∧
          if (f8 ((a3 - 1)).toNatClampNeg) = 0 then (
            ∃ (n9 : Nat) (f10 : Nat → Int32), arr h a2 = some (n9, f10) ∧ ¬ ((a3 - 1) < 0 ∨ n9 ≤ ((a3 - 1)).toNatClampNeg) ∧
            zT E (d + 1) m_Rule_worth 5 [some (.ref a0), some (.ref a1), some (.ref a2), some (.int a3), some (.int (a4 + 1)), some (.int (f6 (a4).toNatClampNeg))] [] (setA h a2 n9 (upd f10 ((a3 - 1)).toNatClampNeg 1)) r)
          else (
            ∃ (n11 : Nat) (f12 : Nat → Int32), arr h a2 = some (n11, f12) ∧ ¬ ((a3 - 1) < 0 ∨ n11 ≤ ((a3 - 1)).toNatClampNeg) ∧
            zT E (d + 1) m_Rule_worth 5 [some (.ref a0), some (.ref a1), some (.ref a2), some (.int a3), some (.int (a4 + 1)), some (.int (f6 (a4).toNatClampNeg))] [] (setA h a2 n11 (upd f12 ((a3 - 1)).toNatClampNeg 0)) r)))
      else (
        if 0 ≤ (f6 (a4).toNatClampNeg) then (
          zT E (d + 1) m_Rule_worth 67 [some (.ref a0), some (.ref a1), some (.ref a2), some (.int a3), some (.int a4), some (.int (f6 (a4).toNatClampNeg))] [] h r)
        else (
          if (-20) < (f6 (a4).toNatClampNeg) then (
            if a3 ≤ 1 then (
              zT E (d + 1) m_Rule_worth 5 [some (.ref a0), some (.ref a1), some (.ref a2), some (.int a3), some (.int (a4 + 1)), some (.int (f6 (a4).toNatClampNeg))] [] h r)
            else (
              ∃ (n13 : Nat) (f14 : Nat → Int32), arr h a2 = some (n13, f14) ∧ ¬ (((a3 + (-1)) - 1) < 0 ∨ n13 ≤ (((a3 + (-1)) - 1)).toNatClampNeg) ∧
              ∃ (n15 : Nat) (f16 : Nat → Int32), arr h a2 = some (n15, f16) ∧ ¬ ((a3 + (-1)) < 0 ∨ n15 ≤ ((a3 + (-1))).toNatClampNeg) ∧
              ∃ (x17 : Int32) (h18 : zH), zT E d m_Rule_join 0 [some (.int (f6 (a4).toNatClampNeg)), some (.int (f14 (((a3 + (-1)) - 1)).toNatClampNeg)), some (.int (f16 ((a3 + (-1))).toNatClampNeg))] [] h (.inl (some (.int x17)), h18) ∧
              ∃ (n19 : Nat) (f20 : Nat → Int32), arr h18 a2 = some (n19, f20) ∧ ¬ (((a3 + (-1)) - 1) < 0 ∨ n19 ≤ (((a3 + (-1)) - 1)).toNatClampNeg) ∧
              zT E (d + 1) m_Rule_worth 5 [some (.ref a0), some (.ref a1), some (.ref a2), some (.int (a3 + (-1))), some (.int (a4 + 1)), some (.int (f6 (a4).toNatClampNeg))] [] (setA h18 a2 n19 (upd f20 (((a3 + (-1)) - 1)).toNatClampNeg x17)) r))
          else (
            zT E (d + 1) m_Rule_worth 67 [some (.ref a0), some (.ref a1), some (.ref a2), some (.int a3), some (.int a4), some (.int (f6 (a4).toNatClampNeg))] [] h r))))) :
    zT E (d + 1) m_Rule_worth 5 [some (.ref a0), some (.ref a1), some (.ref a2), some (.int a3), some (.int a4), j5] [] h r := by
  refine zT_st (pc' := 8) (L' := [some (.ref a0), some (.ref a1), some (.ref a2), some (.int a3), some (.int a4), j5]) (st' := [.ref a0, .int a4]) (h' := h) 2 (fun n => rfl) ?_
  obtain ⟨x1, e, hw⟩ := hw
  refine zT_st (pc' := 11) (L' := [some (.ref a0), some (.ref a1), some (.ref a2), some (.int a3), some (.int a4), j5]) (st' := [.int x1, .int a4]) (h' := h) 1 (fun n => fld_eq (E := E) e _) ?_
  by_cases hc : x1 ≤ a4
  · rw [if_pos hc] at hw
    refine zT_st (pc' := 133) (L' := [some (.ref a0), some (.ref a1), some (.ref a2), some (.int a3), some (.int a4), j5]) (st' := []) (h' := h) 1 (fun n => if_pos hc) ?_
    refine zT_st (pc' := 134) (L' := [some (.ref a0), some (.ref a1), some (.ref a2), some (.int a3), some (.int a4), j5]) (st' := [.int a3]) (h' := h) 1 (fun n => rfl) ?_
    by_cases hc : a3 ≤ 0
    · rw [if_pos hc] at hw
      refine zT_st (pc' := 143) (L' := [some (.ref a0), some (.ref a1), some (.ref a2), some (.int a3), some (.int a4), j5]) (st' := []) (h' := h) 1 (fun n => if_pos hc) ?_
      subst hw
      exact zT_ret 2 rfl
    · rw [if_neg hc] at hw
      refine zT_st (pc' := 137) (L' := [some (.ref a0), some (.ref a1), some (.ref a2), some (.int a3), some (.int a4), j5]) (st' := []) (h' := h) 1 (fun n => if_neg hc) ?_
      refine zT_st (pc' := 139) (L' := [some (.ref a0), some (.ref a1), some (.ref a2), some (.int a3), some (.int a4), j5]) (st' := [.int 0, .ref a2]) (h' := h) 2 (fun n => rfl) ?_
      obtain ⟨n2, f3, e, hi, hw⟩ := hw
      refine zT_st (pc' := 140) (L' := [some (.ref a0), some (.ref a1), some (.ref a2), some (.int a3), some (.int a4), j5]) (st' := [.int (f3 ((0 : Int32)).toNatClampNeg)]) (h' := h) 1 (fun n => arr_eq (E := E) e hi [] (fun st => zrun zP zCd E n (d + 1) m_Rule_worth 140 [some (.ref a0), some (.ref a1), some (.ref a2), some (.int a3), some (.int a4), j5] st h)) ?_
      subst hw
      exact zT_ret 2 rfl
  · rw [if_neg hc] at hw
    refine zT_st (pc' := 14) (L' := [some (.ref a0), some (.ref a1), some (.ref a2), some (.int a3), some (.int a4), j5]) (st' := []) (h' := h) 1 (fun n => if_neg hc) ?_
    refine zT_st (pc' := 15) (L' := [some (.ref a0), some (.ref a1), some (.ref a2), some (.int a3), some (.int a4), j5]) (st' := [.ref a0]) (h' := h) 1 (fun n => rfl) ?_
    obtain ⟨o4, e, hw⟩ := hw
    refine zT_st (pc' := 18) (L' := [some (.ref a0), some (.ref a1), some (.ref a2), some (.int a3), some (.int a4), j5]) (st' := [.ref o4]) (h' := h) 1 (fun n => fld_eq (E := E) e _) ?_
    refine zT_st (pc' := 20) (L' := [some (.ref a0), some (.ref a1), some (.ref a2), some (.int a3), some (.int a4), j5]) (st' := [.int a4, .ref o4]) (h' := h) 1 (fun n => rfl) ?_
    obtain ⟨n5, f6, e, hi, hw⟩ := hw
    refine zT_st (pc' := 21) (L' := [some (.ref a0), some (.ref a1), some (.ref a2), some (.int a3), some (.int a4), j5]) (st' := [.int (f6 (a4).toNatClampNeg)]) (h' := h) 1 (fun n => arr_eq (E := E) e hi [] (fun st => zrun zP zCd E n (d + 1) m_Rule_worth 21 [some (.ref a0), some (.ref a1), some (.ref a2), some (.int a3), some (.int a4), j5] st h)) ?_
    refine zT_st (pc' := 27) (L' := [some (.ref a0), some (.ref a1), some (.ref a2), some (.int a3), some (.int a4), some (.int (f6 (a4).toNatClampNeg))]) (st' := [.int (-3), .int (f6 (a4).toNatClampNeg)]) (h' := h) 3 (fun n => rfl) ?_
    by_cases hc : (f6 (a4).toNatClampNeg) = (-3)
    · rw [if_pos hc] at hw
      refine zT_st (pc' := 30) (L' := [some (.ref a0), some (.ref a1), some (.ref a2), some (.int a3), some (.int a4), some (.int (f6 (a4).toNatClampNeg))]) (st' := []) (h' := h) 1 (fun n => if_pos hc) ?_
      refine zT_st (pc' := 31) (L' := [some (.ref a0), some (.ref a1), some (.ref a2), some (.int a3), some (.int a4), some (.int (f6 (a4).toNatClampNeg))]) (st' := [.int a3]) (h' := h) 1 (fun n => rfl) ?_
      by_cases hc : a3 ≤ 0
      · rw [if_pos hc] at hw
        refine zT_st (pc' := 127) (L' := [some (.ref a0), some (.ref a1), some (.ref a2), some (.int a3), some (.int a4), some (.int (f6 (a4).toNatClampNeg))]) (st' := []) (h' := h) 1 (fun n => if_pos hc) ?_
        exact zT_st 2 (fun n => rfl) hw
      · rw [if_neg hc] at hw
        refine zT_st (pc' := 34) (L' := [some (.ref a0), some (.ref a1), some (.ref a2), some (.int a3), some (.int a4), some (.int (f6 (a4).toNatClampNeg))]) (st' := []) (h' := h) 1 (fun n => if_neg hc) ?_
        refine zT_st (pc' := 42) (L' := [some (.ref a0), some (.ref a1), some (.ref a2), some (.int a3), some (.int a4), some (.int (f6 (a4).toNatClampNeg))]) (st' := [.int (a3 - 1), .ref a2, .int (a3 - 1), .ref a2]) (h' := h) 8 (fun n => rfl) ?_
        obtain ⟨n7, f8, e, hi, hw⟩ := hw
        refine zT_st (pc' := 43) (L' := [some (.ref a0), some (.ref a1), some (.ref a2), some (.int a3), some (.int a4), some (.int (f6 (a4).toNatClampNeg))]) (st' := [.int (f8 ((a3 - 1)).toNatClampNeg), .int (a3 - 1), .ref a2]) (h' := h) 1 (fun n => arr_eq (E := E) e hi [.int (a3 - 1), .ref a2] (fun st => zrun zP zCd E n (d + 1) m_Rule_worth 43 [some (.ref a0), some (.ref a1), some (.ref a2), some (.int a3), some (.int a4), some (.int (f6 (a4).toNatClampNeg))] st h)) ?_
        by_cases hc : (f8 ((a3 - 1)).toNatClampNeg) = 0
        · rw [if_pos hc] at hw
          refine zT_st (pc' := 46) (L' := [some (.ref a0), some (.ref a1), some (.ref a2), some (.int a3), some (.int a4), some (.int (f6 (a4).toNatClampNeg))]) (st' := [.int (a3 - 1), .ref a2]) (h' := h) 1 (fun n => if_pos hc) ?_
          refine zT_st (pc' := 51) (L' := [some (.ref a0), some (.ref a1), some (.ref a2), some (.int a3), some (.int a4), some (.int (f6 (a4).toNatClampNeg))]) (st' := [.int 1, .int (a3 - 1), .ref a2]) (h' := h) 2 (fun n => rfl) ?_
          obtain ⟨n9, f10, e, hi, hw⟩ := hw
          refine zT_st (pc' := 52) (L' := [some (.ref a0), some (.ref a1), some (.ref a2), some (.int a3), some (.int a4), some (.int (f6 (a4).toNatClampNeg))]) (st' := []) (h' := (setA h a2 n9 (upd f10 ((a3 - 1)).toNatClampNeg 1))) 1 (fun n => set_eq e hi _ _) ?_
          exact zT_st 3 (fun n => rfl) hw
        · rw [if_neg hc] at hw
          refine zT_st (pc' := 50) (L' := [some (.ref a0), some (.ref a1), some (.ref a2), some (.int a3), some (.int a4), some (.int (f6 (a4).toNatClampNeg))]) (st' := [.int (a3 - 1), .ref a2]) (h' := h) 1 (fun n => if_neg hc) ?_
          refine zT_st (pc' := 51) (L' := [some (.ref a0), some (.ref a1), some (.ref a2), some (.int a3), some (.int a4), some (.int (f6 (a4).toNatClampNeg))]) (st' := [.int 0, .int (a3 - 1), .ref a2]) (h' := h) 1 (fun n => rfl) ?_
          obtain ⟨n11, f12, e, hi, hw⟩ := hw
          refine zT_st (pc' := 52) (L' := [some (.ref a0), some (.ref a1), some (.ref a2), some (.int a3), some (.int a4), some (.int (f6 (a4).toNatClampNeg))]) (st' := []) (h' := (setA h a2 n11 (upd f12 ((a3 - 1)).toNatClampNeg 0))) 1 (fun n => set_eq e hi _ _) ?_
          exact zT_st 3 (fun n => rfl) hw
    · rw [if_neg hc] at hw
      refine zT_st (pc' := 55) (L' := [some (.ref a0), some (.ref a1), some (.ref a2), some (.int a3), some (.int a4), some (.int (f6 (a4).toNatClampNeg))]) (st' := []) (h' := h) 1 (fun n => if_neg hc) ?_
      refine zT_st (pc' := 57) (L' := [some (.ref a0), some (.ref a1), some (.ref a2), some (.int a3), some (.int a4), some (.int (f6 (a4).toNatClampNeg))]) (st' := [.int (f6 (a4).toNatClampNeg)]) (h' := h) 1 (fun n => rfl) ?_
      by_cases hc : 0 ≤ (f6 (a4).toNatClampNeg)
      · rw [if_pos hc] at hw
        refine zT_st (pc' := 67) (L' := [some (.ref a0), some (.ref a1), some (.ref a2), some (.int a3), some (.int a4), some (.int (f6 (a4).toNatClampNeg))]) (st' := []) (h' := h) 1 (fun n => if_pos hc) ?_
        exact hw
      · rw [if_neg hc] at hw
        refine zT_st (pc' := 60) (L' := [some (.ref a0), some (.ref a1), some (.ref a2), some (.int a3), some (.int a4), some (.int (f6 (a4).toNatClampNeg))]) (st' := []) (h' := h) 1 (fun n => if_neg hc) ?_
        refine zT_st (pc' := 64) (L' := [some (.ref a0), some (.ref a1), some (.ref a2), some (.int a3), some (.int a4), some (.int (f6 (a4).toNatClampNeg))]) (st' := [.int (-20), .int (f6 (a4).toNatClampNeg)]) (h' := h) 2 (fun n => rfl) ?_
        by_cases hc : (-20) < (f6 (a4).toNatClampNeg)
        · rw [if_pos hc] at hw
          refine zT_st (pc' := 101) (L' := [some (.ref a0), some (.ref a1), some (.ref a2), some (.int a3), some (.int a4), some (.int (f6 (a4).toNatClampNeg))]) (st' := []) (h' := h) 1 (fun n => if_pos hc) ?_
          refine zT_st (pc' := 103) (L' := [some (.ref a0), some (.ref a1), some (.ref a2), some (.int a3), some (.int a4), some (.int (f6 (a4).toNatClampNeg))]) (st' := [.int 1, .int a3]) (h' := h) 2 (fun n => rfl) ?_
          by_cases hc : a3 ≤ 1
          · rw [if_pos hc] at hw
            refine zT_st (pc' := 127) (L' := [some (.ref a0), some (.ref a1), some (.ref a2), some (.int a3), some (.int a4), some (.int (f6 (a4).toNatClampNeg))]) (st' := []) (h' := h) 1 (fun n => if_pos hc) ?_
            exact zT_st 2 (fun n => rfl) hw
          · rw [if_neg hc] at hw
            refine zT_st (pc' := 106) (L' := [some (.ref a0), some (.ref a1), some (.ref a2), some (.int a3), some (.int a4), some (.int (f6 (a4).toNatClampNeg))]) (st' := []) (h' := h) 1 (fun n => if_neg hc) ?_
            refine zT_st (pc' := 119) (L' := [some (.ref a0), some (.ref a1), some (.ref a2), some (.int (a3 + (-1))), some (.int a4), some (.int (f6 (a4).toNatClampNeg))]) (st' := [.int ((a3 + (-1)) - 1), .ref a2, .int (f6 (a4).toNatClampNeg), .int ((a3 + (-1)) - 1), .ref a2]) (h' := h) 10 (fun n => rfl) ?_
            obtain ⟨n13, f14, e, hi, hw⟩ := hw
            refine zT_st (pc' := 120) (L' := [some (.ref a0), some (.ref a1), some (.ref a2), some (.int (a3 + (-1))), some (.int a4), some (.int (f6 (a4).toNatClampNeg))]) (st' := [.int (f14 (((a3 + (-1)) - 1)).toNatClampNeg), .int (f6 (a4).toNatClampNeg), .int ((a3 + (-1)) - 1), .ref a2]) (h' := h) 1 (fun n => arr_eq (E := E) e hi [.int (f6 (a4).toNatClampNeg), .int ((a3 + (-1)) - 1), .ref a2] (fun st => zrun zP zCd E n (d + 1) m_Rule_worth 120 [some (.ref a0), some (.ref a1), some (.ref a2), some (.int (a3 + (-1))), some (.int a4), some (.int (f6 (a4).toNatClampNeg))] st h)) ?_
            refine zT_st (pc' := 122) (L' := [some (.ref a0), some (.ref a1), some (.ref a2), some (.int (a3 + (-1))), some (.int a4), some (.int (f6 (a4).toNatClampNeg))]) (st' := [.int (a3 + (-1)), .ref a2, .int (f14 (((a3 + (-1)) - 1)).toNatClampNeg), .int (f6 (a4).toNatClampNeg), .int ((a3 + (-1)) - 1), .ref a2]) (h' := h) 2 (fun n => rfl) ?_
            obtain ⟨n15, f16, e, hi, hw⟩ := hw
            refine zT_st (pc' := 123) (L' := [some (.ref a0), some (.ref a1), some (.ref a2), some (.int (a3 + (-1))), some (.int a4), some (.int (f6 (a4).toNatClampNeg))]) (st' := [.int (f16 ((a3 + (-1))).toNatClampNeg), .int (f14 (((a3 + (-1)) - 1)).toNatClampNeg), .int (f6 (a4).toNatClampNeg), .int ((a3 + (-1)) - 1), .ref a2]) (h' := h) 1 (fun n => arr_eq (E := E) e hi [.int (f14 (((a3 + (-1)) - 1)).toNatClampNeg), .int (f6 (a4).toNatClampNeg), .int ((a3 + (-1)) - 1), .ref a2] (fun st => zrun zP zCd E n (d + 1) m_Rule_worth 123 [some (.ref a0), some (.ref a1), some (.ref a2), some (.int (a3 + (-1))), some (.int a4), some (.int (f6 (a4).toNatClampNeg))] st h)) ?_
            obtain ⟨x17, h18, hx, hw⟩ := hw
            refine zT_call (pc' := 126) (rest := [.int ((a3 + (-1)) - 1), .ref a2]) 1 (fun n => rfl) rfl hx ?_
            show zT E (d + 1) m_Rule_worth 126 [some (.ref a0), some (.ref a1), some (.ref a2), some (.int (a3 + (-1))), some (.int a4), some (.int (f6 (a4).toNatClampNeg))] [.int x17, .int ((a3 + (-1)) - 1), .ref a2] h18 r
            obtain ⟨n19, f20, e, hi, hw⟩ := hw
            refine zT_st (pc' := 127) (L' := [some (.ref a0), some (.ref a1), some (.ref a2), some (.int (a3 + (-1))), some (.int a4), some (.int (f6 (a4).toNatClampNeg))]) (st' := []) (h' := (setA h18 a2 n19 (upd f20 (((a3 + (-1)) - 1)).toNatClampNeg x17))) 1 (fun n => set_eq e hi _ _) ?_
            exact zT_st 2 (fun n => rfl) hw
        · rw [if_neg hc] at hw
          refine zT_st (pc' := 67) (L' := [some (.ref a0), some (.ref a1), some (.ref a2), some (.int a3), some (.int a4), some (.int (f6 (a4).toNatClampNeg))]) (st' := []) (h' := h) 1 (fun n => if_neg hc) ?_
          exact hw
set_option maxRecDepth 4000 in
theorem s_Rule_worth_67 (E : zX) (d : Nat) (a0 : Nat) (a1 : Nat) (a2 : Nat) (a3 : Int32) (a4 : Int32) (a5 : Int32) (h : zH) (r : zO × zH)
    (hw : ∃ (n1 : Nat) (f2 : Nat → Int32), arr h a2 = some (n1, f2) ∧
    if (Int32.ofNat n1) ≤ a3 then (
      zT E (d + 1) m_Rule_worth 5 [some (.ref a0), some (.ref a1), some (.ref a2), some (.int a3), some (.int (a4 + 1)), some (.int a5)] [] h r)
    else (
      if a5 < 0 then (
        ∃ (x3 : Int32) (h4 : zH), zT E d m_Rule_valueAt 0 [some (.ref a1), some (.int ((-20) - a5))] [] h (.inl (some (.int x3)), h4) ∧
        ∃ (n5 : Nat) (f6 : Nat → Int32), arr h4 a2 = some (n5, f6) ∧ ¬ (a3 < 0 ∨ n5 ≤ (a3).toNatClampNeg) ∧
        zT E (d + 1) m_Rule_worth 5 [some (.ref a0), some (.ref a1), some (.ref a2), some (.int (a3 + 1)), some (.int (a4 + 1)), some (.int a5)] [] (setA h4 a2 n5 (upd f6 (a3).toNatClampNeg x3)) r)
      else (
        ∃ (n7 : Nat) (f8 : Nat → Int32), arr h a2 = some (n7, f8) ∧ ¬ (a3 < 0 ∨ n7 ≤ (a3).toNatClampNeg) ∧
        zT E (d + 1) m_Rule_worth 5 [some (.ref a0), some (.ref a1), some (.ref a2), some (.int (a3 + 1)), some (.int (a4 + 1)), some (.int a5)] [] (setA h a2 n7 (upd f8 (a3).toNatClampNeg a5)) r))) :
    zT E (d + 1) m_Rule_worth 67 [some (.ref a0), some (.ref a1), some (.ref a2), some (.int a3), some (.int a4), some (.int a5)] [] h r := by
  refine zT_st (pc' := 69) (L' := [some (.ref a0), some (.ref a1), some (.ref a2), some (.int a3), some (.int a4), some (.int a5)]) (st' := [.ref a2, .int a3]) (h' := h) 2 (fun n => rfl) ?_
  obtain ⟨n1, f2, e, hw⟩ := hw
  refine zT_st (pc' := 70) (L' := [some (.ref a0), some (.ref a1), some (.ref a2), some (.int a3), some (.int a4), some (.int a5)]) (st' := [.int (Int32.ofNat n1), .int a3]) (h' := h) 1 (fun n => len_eq (E := E) e [.int a3] (fun st => zrun zP zCd E n (d + 1) m_Rule_worth 70 [some (.ref a0), some (.ref a1), some (.ref a2), some (.int a3), some (.int a4), some (.int a5)] st h)) ?_
  by_cases hc : (Int32.ofNat n1) ≤ a3
  · rw [if_pos hc] at hw
    refine zT_st (pc' := 127) (L' := [some (.ref a0), some (.ref a1), some (.ref a2), some (.int a3), some (.int a4), some (.int a5)]) (st' := []) (h' := h) 1 (fun n => if_pos hc) ?_
    exact zT_st 2 (fun n => rfl) hw
  · rw [if_neg hc] at hw
    refine zT_st (pc' := 73) (L' := [some (.ref a0), some (.ref a1), some (.ref a2), some (.int a3), some (.int a4), some (.int a5)]) (st' := []) (h' := h) 1 (fun n => if_neg hc) ?_
    refine zT_st (pc' := 77) (L' := [some (.ref a0), some (.ref a1), some (.ref a2), some (.int a3), some (.int a4), some (.int a5)]) (st' := [.int a5, .int a3, .ref a2]) (h' := h) 3 (fun n => rfl) ?_
    by_cases hc : a5 < 0
    · rw [if_pos hc] at hw
      refine zT_st (pc' := 85) (L' := [some (.ref a0), some (.ref a1), some (.ref a2), some (.int a3), some (.int a4), some (.int a5)]) (st' := [.int a3, .ref a2]) (h' := h) 1 (fun n => if_pos hc) ?_
      refine zT_st (pc' := 91) (L' := [some (.ref a0), some (.ref a1), some (.ref a2), some (.int a3), some (.int a4), some (.int a5)]) (st' := [.int ((-20) - a5), .ref a1, .int a3, .ref a2]) (h' := h) 4 (fun n => rfl) ?_
      obtain ⟨x3, h4, hx, hw⟩ := hw
      refine zT_call (pc' := 94) (rest := [.int a3, .ref a2]) 1 (fun n => rfl) rfl hx ?_
      show zT E (d + 1) m_Rule_worth 94 [some (.ref a0), some (.ref a1), some (.ref a2), some (.int a3), some (.int a4), some (.int a5)] [.int x3, .int a3, .ref a2] h4 r
      obtain ⟨n5, f6, e, hi, hw⟩ := hw
      refine zT_st (pc' := 95) (L' := [some (.ref a0), some (.ref a1), some (.ref a2), some (.int a3), some (.int a4), some (.int a5)]) (st' := []) (h' := (setA h4 a2 n5 (upd f6 (a3).toNatClampNeg x3))) 1 (fun n => set_eq e hi _ _) ?_
      exact zT_st 4 (fun n => rfl) hw
    · rw [if_neg hc] at hw
      refine zT_st (pc' := 80) (L' := [some (.ref a0), some (.ref a1), some (.ref a2), some (.int a3), some (.int a4), some (.int a5)]) (st' := [.int a3, .ref a2]) (h' := h) 1 (fun n => if_neg hc) ?_
      refine zT_st (pc' := 94) (L' := [some (.ref a0), some (.ref a1), some (.ref a2), some (.int a3), some (.int a4), some (.int a5)]) (st' := [.int a5, .int a3, .ref a2]) (h' := h) 2 (fun n => rfl) ?_
      obtain ⟨n7, f8, e, hi, hw⟩ := hw
      refine zT_st (pc' := 95) (L' := [some (.ref a0), some (.ref a1), some (.ref a2), some (.int a3), some (.int a4), some (.int a5)]) (st' := []) (h' := (setA h a2 n7 (upd f8 (a3).toNatClampNeg a5))) 1 (fun n => set_eq e hi _ _) ?_
      exact zT_st 4 (fun n => rfl) hw
set_option maxRecDepth 4000 in
theorem s_Rule_valueAt_0 (E : zX) (d : Nat) (a0 : Nat) (a1 : Int32) (h : zH) (r : zO × zH)
    (hw : if a1 < 0 then (
      r = (.inl (some (.int 0)), h))
    else (
      ∃ (n1 : Nat) (f2 : Nat → Int32), arr h a0 = some (n1, f2) ∧
      if (Int32.ofNat n1) ≤ a1 then (
        r = (.inl (some (.int 0)), h))
      else (
        ∃ (n3 : Nat) (f4 : Nat → Int32), arr h a0 = some (n3, f4) ∧ ¬ (a1 < 0 ∨ n3 ≤ (a1).toNatClampNeg) ∧
        r = (.inl (some (.int (f4 (a1).toNatClampNeg))), h)))) :
    zT E d m_Rule_valueAt 0 [some (.ref a0), some (.int a1)] [] h r := by
  refine zT_st (pc' := 1) (L' := [some (.ref a0), some (.int a1)]) (st' := [.int a1]) (h' := h) 1 (fun n => rfl) ?_
  by_cases hc : a1 < 0
  · rw [if_pos hc] at hw
    refine zT_st (pc' := 16) (L' := [some (.ref a0), some (.int a1)]) (st' := []) (h' := h) 1 (fun n => if_pos hc) ?_
    subst hw
    exact zT_ret 2 rfl
  · rw [if_neg hc] at hw
    refine zT_st (pc' := 4) (L' := [some (.ref a0), some (.int a1)]) (st' := []) (h' := h) 1 (fun n => if_neg hc) ?_
    refine zT_st (pc' := 6) (L' := [some (.ref a0), some (.int a1)]) (st' := [.ref a0, .int a1]) (h' := h) 2 (fun n => rfl) ?_
    obtain ⟨n1, f2, e, hw⟩ := hw
    refine zT_st (pc' := 7) (L' := [some (.ref a0), some (.int a1)]) (st' := [.int (Int32.ofNat n1), .int a1]) (h' := h) 1 (fun n => len_eq (E := E) e [.int a1] (fun st => zrun zP zCd E n d m_Rule_valueAt 7 [some (.ref a0), some (.int a1)] st h)) ?_
    by_cases hc : (Int32.ofNat n1) ≤ a1
    · rw [if_pos hc] at hw
      refine zT_st (pc' := 16) (L' := [some (.ref a0), some (.int a1)]) (st' := []) (h' := h) 1 (fun n => if_pos hc) ?_
      subst hw
      exact zT_ret 2 rfl
    · rw [if_neg hc] at hw
      refine zT_st (pc' := 10) (L' := [some (.ref a0), some (.int a1)]) (st' := []) (h' := h) 1 (fun n => if_neg hc) ?_
      refine zT_st (pc' := 12) (L' := [some (.ref a0), some (.int a1)]) (st' := [.int a1, .ref a0]) (h' := h) 2 (fun n => rfl) ?_
      obtain ⟨n3, f4, e, hi, hw⟩ := hw
      refine zT_st (pc' := 13) (L' := [some (.ref a0), some (.int a1)]) (st' := [.int (f4 (a1).toNatClampNeg)]) (h' := h) 1 (fun n => arr_eq (E := E) e hi [] (fun st => zrun zP zCd E n d m_Rule_valueAt 13 [some (.ref a0), some (.int a1)] st h)) ?_
      subst hw
      exact zT_ret 2 rfl
set_option maxRecDepth 4000 in
theorem s_Rule_join_0 (E : zX) (d : Nat) (a0 : Int32) (a1 : Int32) (a2 : Int32) (h : zH) (r : zO × zH)
    (hw : if a0 = (-8) then (
      r = (.inl (some (.int (a1 * a2))), h))
    else if a0 = (-7) then (
      r = (.inl (some (.int (a1 - a2))), h))
    else if a0 = (-6) then (
      r = (.inl (some (.int (a1 + a2))), h))
    else if a0 = (-5) then (
      if a1 = a2 then (
        r = (.inl (some (.int 1)), h))
      else (
        r = (.inl (some (.int 0)), h)))
    else if a0 = (-4) then (
      if a2 ≤ a1 then (
        r = (.inl (some (.int 0)), h))
      else (
        r = (.inl (some (.int 1)), h)))
    else if a0 = (-3) then (
      if a2 = 0 then (
        r = (.inl (some (.int 0)), h))
      else (
        ¬ a2 = 0 ∧
        r = (.inl (some (.int (a1 / a2))), h)))
    else if a0 = (-2) then (
      if a1 = 0 then (
        r = (.inl (some (.int 0)), h))
      else (
        if a2 = 0 then (
          r = (.inl (some (.int 0)), h))
        else (
          r = (.inl (some (.int 1)), h))))
    else if a0 = (-1) then (
      if a1 = 0 then (
        if a2 = 0 then (
          r = (.inl (some (.int 0)), h))
        else (
          r = (.inl (some (.int 1)), h)))
      else (
        r = (.inl (some (.int 1)), h)))
    else (
      if a2 = 0 then (
        r = (.inl (some (.int 0)), h))
      else (
        ¬ a2 = 0 ∧
        r = (.inl (some (.int (a1 / a2))), h)))) :
    zT E d m_Rule_join 0 [some (.int a0), some (.int a1), some (.int a2)] [] h r := by
  refine zT_st (pc' := 1) (L' := [some (.int a0), some (.int a1), some (.int a2)]) (st' := [.int a0]) (h' := h) 1 (fun n => rfl) ?_
  by_cases cm8 : a0 = (-8)
  · rw [if_pos cm8] at hw
    refine zT_st (pc' := 106) (L' := [some (.int a0), some (.int a1), some (.int a2)]) (st' := []) (h' := h) 1 (fun n => zsw_in cm8 rfl) ?_
    subst hw
    exact zT_ret 4 rfl
  rw [if_neg cm8] at hw
  by_cases cm7 : a0 = (-7)
  · rw [if_pos cm7] at hw
    refine zT_st (pc' := 102) (L' := [some (.int a0), some (.int a1), some (.int a2)]) (st' := []) (h' := h) 1 (fun n => zsw_in cm7 rfl) ?_
    subst hw
    exact zT_ret 4 rfl
  rw [if_neg cm7] at hw
  by_cases cm6 : a0 = (-6)
  · rw [if_pos cm6] at hw
    refine zT_st (pc' := 98) (L' := [some (.int a0), some (.int a1), some (.int a2)]) (st' := []) (h' := h) 1 (fun n => zsw_in cm6 rfl) ?_
    subst hw
    exact zT_ret 4 rfl
  rw [if_neg cm6] at hw
  by_cases cm5 : a0 = (-5)
  · rw [if_pos cm5] at hw
    refine zT_st (pc' := 87) (L' := [some (.int a0), some (.int a1), some (.int a2)]) (st' := []) (h' := h) 1 (fun n => zsw_in cm5 rfl) ?_
    refine zT_st (pc' := 89) (L' := [some (.int a0), some (.int a1), some (.int a2)]) (st' := [.int a2, .int a1]) (h' := h) 2 (fun n => rfl) ?_
    by_cases hc : a1 = a2
    · rw [if_pos hc] at hw
      refine zT_st (pc' := 92) (L' := [some (.int a0), some (.int a1), some (.int a2)]) (st' := []) (h' := h) 1 (fun n => if_pos hc) ?_
      subst hw
      exact zT_ret 3 rfl
    · rw [if_neg hc] at hw
      refine zT_st (pc' := 96) (L' := [some (.int a0), some (.int a1), some (.int a2)]) (st' := []) (h' := h) 1 (fun n => if_neg hc) ?_
      subst hw
      exact zT_ret 2 rfl
  rw [if_neg cm5] at hw
  by_cases cm4 : a0 = (-4)
  · rw [if_pos cm4] at hw
    refine zT_st (pc' := 76) (L' := [some (.int a0), some (.int a1), some (.int a2)]) (st' := []) (h' := h) 1 (fun n => zsw_in cm4 rfl) ?_
    refine zT_st (pc' := 78) (L' := [some (.int a0), some (.int a1), some (.int a2)]) (st' := [.int a2, .int a1]) (h' := h) 2 (fun n => rfl) ?_
    by_cases hc : a2 ≤ a1
    · rw [if_pos hc] at hw
      refine zT_st (pc' := 85) (L' := [some (.int a0), some (.int a1), some (.int a2)]) (st' := []) (h' := h) 1 (fun n => if_pos hc) ?_
      subst hw
      exact zT_ret 2 rfl
    · rw [if_neg hc] at hw
      refine zT_st (pc' := 81) (L' := [some (.int a0), some (.int a1), some (.int a2)]) (st' := []) (h' := h) 1 (fun n => if_neg hc) ?_
      subst hw
      exact zT_ret 3 rfl
  rw [if_neg cm4] at hw
  by_cases cm3 : a0 = (-3)
  · rw [if_pos cm3] at hw
    refine zT_st (pc' := 110) (L' := [some (.int a0), some (.int a1), some (.int a2)]) (st' := []) (h' := h) 1 (fun n => zsw_in cm3 rfl) ?_
    refine zT_st (pc' := 111) (L' := [some (.int a0), some (.int a1), some (.int a2)]) (st' := [.int a2]) (h' := h) 1 (fun n => rfl) ?_
    by_cases hc : a2 = 0
    · rw [if_pos hc] at hw
      refine zT_st (pc' := 114) (L' := [some (.int a0), some (.int a1), some (.int a2)]) (st' := []) (h' := h) 1 (fun n => if_pos hc) ?_
      subst hw
      exact zT_ret 3 rfl
    · rw [if_neg hc] at hw
      refine zT_st (pc' := 118) (L' := [some (.int a0), some (.int a1), some (.int a2)]) (st' := []) (h' := h) 1 (fun n => if_neg hc) ?_
      refine zT_st (pc' := 120) (L' := [some (.int a0), some (.int a1), some (.int a2)]) (st' := [.int a2, .int a1]) (h' := h) 2 (fun n => rfl) ?_
      obtain ⟨hz, hw⟩ := hw
      refine zT_st (pc' := 121) (L' := [some (.int a0), some (.int a1), some (.int a2)]) (st' := [.int (a1 / a2)]) (h' := h) 1 (fun n => if_neg hz) ?_
      subst hw
      exact zT_ret 1 rfl
  rw [if_neg cm3] at hw
  by_cases cm2 : a0 = (-2)
  · rw [if_pos cm2] at hw
    refine zT_st (pc' := 62) (L' := [some (.int a0), some (.int a1), some (.int a2)]) (st' := []) (h' := h) 1 (fun n => zsw_in cm2 rfl) ?_
    refine zT_st (pc' := 63) (L' := [some (.int a0), some (.int a1), some (.int a2)]) (st' := [.int a1]) (h' := h) 1 (fun n => rfl) ?_
    by_cases hc : a1 = 0
    · rw [if_pos hc] at hw
      refine zT_st (pc' := 74) (L' := [some (.int a0), some (.int a1), some (.int a2)]) (st' := []) (h' := h) 1 (fun n => if_pos hc) ?_
      subst hw
      exact zT_ret 2 rfl
    · rw [if_neg hc] at hw
      refine zT_st (pc' := 66) (L' := [some (.int a0), some (.int a1), some (.int a2)]) (st' := []) (h' := h) 1 (fun n => if_neg hc) ?_
      refine zT_st (pc' := 67) (L' := [some (.int a0), some (.int a1), some (.int a2)]) (st' := [.int a2]) (h' := h) 1 (fun n => rfl) ?_
      by_cases hc : a2 = 0
      · rw [if_pos hc] at hw
        refine zT_st (pc' := 74) (L' := [some (.int a0), some (.int a1), some (.int a2)]) (st' := []) (h' := h) 1 (fun n => if_pos hc) ?_
        subst hw
        exact zT_ret 2 rfl
      · rw [if_neg hc] at hw
        refine zT_st (pc' := 70) (L' := [some (.int a0), some (.int a1), some (.int a2)]) (st' := []) (h' := h) 1 (fun n => if_neg hc) ?_
        subst hw
        exact zT_ret 3 rfl
  rw [if_neg cm2] at hw
  by_cases cm1 : a0 = (-1)
  · rw [if_pos cm1] at hw
    refine zT_st (pc' := 48) (L' := [some (.int a0), some (.int a1), some (.int a2)]) (st' := []) (h' := h) 1 (fun n => zsw_in cm1 rfl) ?_
    refine zT_st (pc' := 49) (L' := [some (.int a0), some (.int a1), some (.int a2)]) (st' := [.int a1]) (h' := h) 1 (fun n => rfl) ?_
    by_cases hc : a1 = 0
    · rw [if_pos hc] at hw
      refine zT_st (pc' := 52) (L' := [some (.int a0), some (.int a1), some (.int a2)]) (st' := []) (h' := h) 1 (fun n => if_pos hc) ?_
      refine zT_st (pc' := 53) (L' := [some (.int a0), some (.int a1), some (.int a2)]) (st' := [.int a2]) (h' := h) 1 (fun n => rfl) ?_
      by_cases hc : a2 = 0
      · rw [if_pos hc] at hw
        refine zT_st (pc' := 60) (L' := [some (.int a0), some (.int a1), some (.int a2)]) (st' := []) (h' := h) 1 (fun n => if_pos hc) ?_
        subst hw
        exact zT_ret 2 rfl
      · rw [if_neg hc] at hw
        refine zT_st (pc' := 56) (L' := [some (.int a0), some (.int a1), some (.int a2)]) (st' := []) (h' := h) 1 (fun n => if_neg hc) ?_
        subst hw
        exact zT_ret 3 rfl
    · rw [if_neg hc] at hw
      refine zT_st (pc' := 56) (L' := [some (.int a0), some (.int a1), some (.int a2)]) (st' := []) (h' := h) 1 (fun n => if_neg hc) ?_
      subst hw
      exact zT_ret 3 rfl
  rw [if_neg cm1] at hw
  have hs : (a0).toInt < (-8 : Int) ∨ (-1 : Int) < (a0).toInt := by
    refine zoutG (n := 8) (by decide) (by decide) (by decide) ?_
    intro k hk
    rcases k with _ | _ | _ | _ | _ | _ | _ | _ | k
    · exact cm8
    · exact cm7
    · exact cm6
    · exact cm5
    · exact cm4
    · exact cm3
    · exact cm2
    · exact cm1
    · omega
  refine zT_st (pc' := 110) (L' := [some (.int a0), some (.int a1), some (.int a2)]) (st' := []) (h' := h) 1 (fun n => zsw_out hs rfl) ?_
  refine zT_st (pc' := 111) (L' := [some (.int a0), some (.int a1), some (.int a2)]) (st' := [.int a2]) (h' := h) 1 (fun n => rfl) ?_
  by_cases hc : a2 = 0
  · rw [if_pos hc] at hw
    refine zT_st (pc' := 114) (L' := [some (.int a0), some (.int a1), some (.int a2)]) (st' := []) (h' := h) 1 (fun n => if_pos hc) ?_
    subst hw
    exact zT_ret 3 rfl
  · rw [if_neg hc] at hw
    refine zT_st (pc' := 118) (L' := [some (.int a0), some (.int a1), some (.int a2)]) (st' := []) (h' := h) 1 (fun n => if_neg hc) ?_
    refine zT_st (pc' := 120) (L' := [some (.int a0), some (.int a1), some (.int a2)]) (st' := [.int a2, .int a1]) (h' := h) 2 (fun n => rfl) ?_
    obtain ⟨hz, hw⟩ := hw
    refine zT_st (pc' := 121) (L' := [some (.int a0), some (.int a1), some (.int a2)]) (st' := [.int (a1 / a2)]) (h' := h) 1 (fun n => if_neg hz) ?_
    subst hw
    exact zT_ret 1 rfl
set_option maxRecDepth 4000 in
theorem s_Rule_add_0 (E : zX) (d : Nat) (a0 : Nat) (a1 : Int32) (h : zH) (r : zO × zH)
    (hw : ∃ x1 : Int32, fld h a0 9 1 = some (.int x1) ∧
    ∃ o2 : Nat, fld h a0 9 0 = some (.ref o2) ∧
    ∃ (n3 : Nat) (f4 : Nat → Int32), arr h o2 = some (n3, f4) ∧
    if (Int32.ofNat n3) ≤ x1 then (
      r = (.inl (none), h))
    else (
      ∃ o5 : Nat, fld h a0 9 0 = some (.ref o5) ∧
      ∃ x6 : Int32, fld h a0 9 1 = some (.int x6) ∧
      ∃ (n7 : Nat) (f8 : Nat → Int32), arr h o5 = some (n7, f8) ∧ ¬ (x6 < 0 ∨ n7 ≤ (x6).toNatClampNeg) ∧
      ∃ x9 : Int32, fld (setA h o5 n7 (upd f8 (x6).toNatClampNeg a1)) a0 9 1 = some (.int x9) ∧
      (∃ w, fld (setA h o5 n7 (upd f8 (x6).toNatClampNeg a1)) a0 9 1 = some w) ∧
      r = (.inl (none), (setF (setA h o5 n7 (upd f8 (x6).toNatClampNeg a1)) a0 1 (.int (x9 + 1)))))) :
    zT E d m_Rule_add 0 [some (.ref a0), some (.int a1)] [] h r := by
  refine zT_st (pc' := 1) (L' := [some (.ref a0), some (.int a1)]) (st' := [.ref a0]) (h' := h) 1 (fun n => rfl) ?_
  obtain ⟨x1, e, hw⟩ := hw
  refine zT_st (pc' := 4) (L' := [some (.ref a0), some (.int a1)]) (st' := [.int x1]) (h' := h) 1 (fun n => fld_eq (E := E) e _) ?_
  refine zT_st (pc' := 5) (L' := [some (.ref a0), some (.int a1)]) (st' := [.ref a0, .int x1]) (h' := h) 1 (fun n => rfl) ?_
  obtain ⟨o2, e, hw⟩ := hw
  refine zT_st (pc' := 8) (L' := [some (.ref a0), some (.int a1)]) (st' := [.ref o2, .int x1]) (h' := h) 1 (fun n => fld_eq (E := E) e _) ?_
  obtain ⟨n3, f4, e, hw⟩ := hw
  refine zT_st (pc' := 9) (L' := [some (.ref a0), some (.int a1)]) (st' := [.int (Int32.ofNat n3), .int x1]) (h' := h) 1 (fun n => len_eq (E := E) e [.int x1] (fun st => zrun zP zCd E n d m_Rule_add 9 [some (.ref a0), some (.int a1)] st h)) ?_
  by_cases hc : (Int32.ofNat n3) ≤ x1
  · rw [if_pos hc] at hw
    refine zT_st (pc' := 32) (L' := [some (.ref a0), some (.int a1)]) (st' := []) (h' := h) 1 (fun n => if_pos hc) ?_
    subst hw
    exact zT_ret 1 rfl
  · rw [if_neg hc] at hw
    refine zT_st (pc' := 12) (L' := [some (.ref a0), some (.int a1)]) (st' := []) (h' := h) 1 (fun n => if_neg hc) ?_
    refine zT_st (pc' := 13) (L' := [some (.ref a0), some (.int a1)]) (st' := [.ref a0]) (h' := h) 1 (fun n => rfl) ?_
    obtain ⟨o5, e, hw⟩ := hw
    refine zT_st (pc' := 16) (L' := [some (.ref a0), some (.int a1)]) (st' := [.ref o5]) (h' := h) 1 (fun n => fld_eq (E := E) e _) ?_
    refine zT_st (pc' := 17) (L' := [some (.ref a0), some (.int a1)]) (st' := [.ref a0, .ref o5]) (h' := h) 1 (fun n => rfl) ?_
    obtain ⟨x6, e, hw⟩ := hw
    refine zT_st (pc' := 20) (L' := [some (.ref a0), some (.int a1)]) (st' := [.int x6, .ref o5]) (h' := h) 1 (fun n => fld_eq (E := E) e _) ?_
    refine zT_st (pc' := 21) (L' := [some (.ref a0), some (.int a1)]) (st' := [.int a1, .int x6, .ref o5]) (h' := h) 1 (fun n => rfl) ?_
    obtain ⟨n7, f8, e, hi, hw⟩ := hw
    refine zT_st (pc' := 22) (L' := [some (.ref a0), some (.int a1)]) (st' := []) (h' := (setA h o5 n7 (upd f8 (x6).toNatClampNeg a1))) 1 (fun n => set_eq e hi _ _) ?_
    refine zT_st (pc' := 24) (L' := [some (.ref a0), some (.int a1)]) (st' := [.ref a0, .ref a0]) (h' := (setA h o5 n7 (upd f8 (x6).toNatClampNeg a1))) 2 (fun n => rfl) ?_
    obtain ⟨x9, e, hw⟩ := hw
    refine zT_st (pc' := 27) (L' := [some (.ref a0), some (.int a1)]) (st' := [.int x9, .ref a0]) (h' := (setA h o5 n7 (upd f8 (x6).toNatClampNeg a1))) 1 (fun n => fld_eq (E := E) e _) ?_
    refine zT_st (pc' := 29) (L' := [some (.ref a0), some (.int a1)]) (st' := [.int (x9 + 1), .ref a0]) (h' := (setA h o5 n7 (upd f8 (x6).toNatClampNeg a1))) 2 (fun n => rfl) ?_
    obtain ⟨⟨w, e⟩, hw⟩ := hw
    refine zT_st (pc' := 32) (L' := [some (.ref a0), some (.int a1)]) (st' := []) (h' := (setF (setA h o5 n7 (upd f8 (x6).toNatClampNeg a1)) a0 1 (.int (x9 + 1)))) 1 (fun n => put_eq e rfl _ _) ?_
    subst hw
    exact zT_ret 1 rfl
set_option maxRecDepth 4000 in
theorem s_Rule_copyFrom_0 (E : zX) (d : Nat) (a0 : Nat) (a1 : Nat) (h : zH) (r : zO × zH)
    (hw : ∃ x1 : Int32, fld h a1 9 1 = some (.int x1) ∧
    (∃ w, fld h a0 9 1 = some w) ∧
    ∃ o2 : Nat, fld (setF h a0 1 (.int x1)) a1 9 0 = some (.ref o2) ∧
    ∃ o3 : Nat, fld (setF h a0 1 (.int x1)) a0 9 0 = some (.ref o3) ∧
    ∃ x4 : Int32, fld (setF h a0 1 (.int x1)) a0 9 1 = some (.int x4) ∧
    ∃ (n5 : Nat) (f6 : Nat → Int32) (n7 : Nat) (f8 : Nat → Int32), arr (setF h a0 1 (.int x1)) o2 = some (n5, f6) ∧ arr (setF h a0 1 (.int x1)) o3 = some (n7, f8) ∧ ¬ (((0 : Int32) < 0 ∨ (0 : Int32) < 0 ∨ x4 < 0) ∨ (n5 < ((0 : Int32)).toNatClampNeg + (x4).toNatClampNeg ∨ n7 < ((0 : Int32)).toNatClampNeg + (x4).toNatClampNeg)) ∧
    r = (.inl (none), (setA (setF h a0 1 (.int x1)) o3 n7 (va_cpy f6 f8 ((0 : Int32)).toNatClampNeg ((0 : Int32)).toNatClampNeg (x4).toNatClampNeg)))) :
    zT E (d + 1) m_Rule_copyFrom 0 [some (.ref a0), some (.ref a1)] [] h r := by
  refine zT_st (pc' := 2) (L' := [some (.ref a0), some (.ref a1)]) (st' := [.ref a1, .ref a0]) (h' := h) 2 (fun n => rfl) ?_
  obtain ⟨x1, e, hw⟩ := hw
  refine zT_st (pc' := 5) (L' := [some (.ref a0), some (.ref a1)]) (st' := [.int x1, .ref a0]) (h' := h) 1 (fun n => fld_eq (E := E) e _) ?_
  obtain ⟨⟨w, e⟩, hw⟩ := hw
  refine zT_st (pc' := 8) (L' := [some (.ref a0), some (.ref a1)]) (st' := []) (h' := (setF h a0 1 (.int x1))) 1 (fun n => put_eq e rfl _ _) ?_
  refine zT_st (pc' := 9) (L' := [some (.ref a0), some (.ref a1)]) (st' := [.ref a1]) (h' := (setF h a0 1 (.int x1))) 1 (fun n => rfl) ?_
  obtain ⟨o2, e, hw⟩ := hw
  refine zT_st (pc' := 12) (L' := [some (.ref a0), some (.ref a1)]) (st' := [.ref o2]) (h' := (setF h a0 1 (.int x1))) 1 (fun n => fld_eq (E := E) e _) ?_
  refine zT_st (pc' := 14) (L' := [some (.ref a0), some (.ref a1)]) (st' := [.ref a0, .int 0, .ref o2]) (h' := (setF h a0 1 (.int x1))) 2 (fun n => rfl) ?_
  obtain ⟨o3, e, hw⟩ := hw
  refine zT_st (pc' := 17) (L' := [some (.ref a0), some (.ref a1)]) (st' := [.ref o3, .int 0, .ref o2]) (h' := (setF h a0 1 (.int x1))) 1 (fun n => fld_eq (E := E) e _) ?_
  refine zT_st (pc' := 19) (L' := [some (.ref a0), some (.ref a1)]) (st' := [.ref a0, .int 0, .ref o3, .int 0, .ref o2]) (h' := (setF h a0 1 (.int x1))) 2 (fun n => rfl) ?_
  obtain ⟨x4, e, hw⟩ := hw
  refine zT_st (pc' := 22) (L' := [some (.ref a0), some (.ref a1)]) (st' := [.int x4, .int 0, .ref o3, .int 0, .ref o2]) (h' := (setF h a0 1 (.int x1))) 1 (fun n => fld_eq (E := E) e _) ?_
  obtain ⟨n5, f6, n7, f8, e0, e1, hi, hw⟩ := hw
  refine zT_st (pc' := 25) (L' := [some (.ref a0), some (.ref a1)]) (st' := []) (h' := (setA (setF h a0 1 (.int x1)) o3 n7 (va_cpy f6 f8 ((0 : Int32)).toNatClampNeg ((0 : Int32)).toNatClampNeg (x4).toNatClampNeg))) 1 (fun n => cp_eq e0 e1 hi _ _) ?_
  subst hw
  exact zT_ret 1 rfl
-- s_Scene_init_0: by hand
set_option maxRecDepth 4000 in
theorem s_Scene_clear_0 (E : zX) (d : Nat) (a0 : Nat) (h : zH) (r : zO × zH)
    (hw : zT E d m_Scene_clear 2 [some (.ref a0), some (.int 0)] [] h r) :
    zT E d m_Scene_clear 0 [some (.ref a0), none] [] h r := by
  exact zT_st 2 (fun n => rfl) hw
set_option maxRecDepth 4000 in
theorem s_Scene_clear_2 (E : zX) (d : Nat) (a0 : Nat) (a1 : Int32) (h : zH) (r : zO × zH)
    (hw : if 70 ≤ a1 then (
      zT E d m_Scene_clear 23 [some (.ref a0), some (.int 0)] [] h r)
    else (
      ∃ o1 : Nat, fld h a0 10 0 = some (.ref o1) ∧
      ∃ (n2 : Nat) (f3 : Nat → Int32), arr h o1 = some (n2, f3) ∧ ¬ (a1 < 0 ∨ n2 ≤ (a1).toNatClampNeg) ∧
      zT E d m_Scene_clear 2 [some (.ref a0), some (.int (a1 + 1))] [] (setA h o1 n2 (upd f3 (a1).toNatClampNeg 0)) r)) :
    zT E d m_Scene_clear 2 [some (.ref a0), some (.int a1)] [] h r := by
  refine zT_st (pc' := 5) (L' := [some (.ref a0), some (.int a1)]) (st' := [.int 70, .int a1]) (h' := h) 2 (fun n => rfl) ?_
  by_cases hc : 70 ≤ a1
  · rw [if_pos hc] at hw
    refine zT_st (pc' := 21) (L' := [some (.ref a0), some (.int a1)]) (st' := []) (h' := h) 1 (fun n => if_pos hc) ?_
    exact zT_st 2 (fun n => rfl) hw
  · rw [if_neg hc] at hw
    refine zT_st (pc' := 8) (L' := [some (.ref a0), some (.int a1)]) (st' := []) (h' := h) 1 (fun n => if_neg hc) ?_
    refine zT_st (pc' := 9) (L' := [some (.ref a0), some (.int a1)]) (st' := [.ref a0]) (h' := h) 1 (fun n => rfl) ?_
    obtain ⟨o1, e, hw⟩ := hw
    refine zT_st (pc' := 12) (L' := [some (.ref a0), some (.int a1)]) (st' := [.ref o1]) (h' := h) 1 (fun n => fld_eq (E := E) e _) ?_
    refine zT_st (pc' := 14) (L' := [some (.ref a0), some (.int a1)]) (st' := [.int 0, .int a1, .ref o1]) (h' := h) 2 (fun n => rfl) ?_
    obtain ⟨n2, f3, e, hi, hw⟩ := hw
    refine zT_st (pc' := 15) (L' := [some (.ref a0), some (.int a1)]) (st' := []) (h' := (setA h o1 n2 (upd f3 (a1).toNatClampNeg 0))) 1 (fun n => set_eq e hi _ _) ?_
    exact zT_st 2 (fun n => rfl) hw
set_option maxRecDepth 4000 in
theorem s_Scene_clear_23 (E : zX) (d : Nat) (a0 : Nat) (a1 : Int32) (h : zH) (r : zO × zH)
    (hw : if 10 ≤ a1 then (
      r = (.inl (none), h))
    else (
      ∃ o1 : Nat, fld h a0 10 0 = some (.ref o1) ∧
      ∃ (n2 : Nat) (f3 : Nat → Int32), arr h o1 = some (n2, f3) ∧ ¬ ((50 + a1) < 0 ∨ n2 ≤ ((50 + a1)).toNatClampNeg) ∧
      zT E d m_Scene_clear 23 [some (.ref a0), some (.int (a1 + 1))] [] (setA h o1 n2 (upd f3 ((50 + a1)).toNatClampNeg (-1))) r)) :
    zT E d m_Scene_clear 23 [some (.ref a0), some (.int a1)] [] h r := by
  refine zT_st (pc' := 26) (L' := [some (.ref a0), some (.int a1)]) (st' := [.int 10, .int a1]) (h' := h) 2 (fun n => rfl) ?_
  by_cases hc : 10 ≤ a1
  · rw [if_pos hc] at hw
    refine zT_st (pc' := 45) (L' := [some (.ref a0), some (.int a1)]) (st' := []) (h' := h) 1 (fun n => if_pos hc) ?_
    subst hw
    exact zT_ret 1 rfl
  · rw [if_neg hc] at hw
    refine zT_st (pc' := 29) (L' := [some (.ref a0), some (.int a1)]) (st' := []) (h' := h) 1 (fun n => if_neg hc) ?_
    refine zT_st (pc' := 30) (L' := [some (.ref a0), some (.int a1)]) (st' := [.ref a0]) (h' := h) 1 (fun n => rfl) ?_
    obtain ⟨o1, e, hw⟩ := hw
    refine zT_st (pc' := 33) (L' := [some (.ref a0), some (.int a1)]) (st' := [.ref o1]) (h' := h) 1 (fun n => fld_eq (E := E) e _) ?_
    refine zT_st (pc' := 38) (L' := [some (.ref a0), some (.int a1)]) (st' := [.int (-1), .int (50 + a1), .ref o1]) (h' := h) 4 (fun n => rfl) ?_
    obtain ⟨n2, f3, e, hi, hw⟩ := hw
    refine zT_st (pc' := 39) (L' := [some (.ref a0), some (.int a1)]) (st' := []) (h' := (setA h o1 n2 (upd f3 ((50 + a1)).toNatClampNeg (-1)))) 1 (fun n => set_eq e hi _ _) ?_
    exact zT_st 2 (fun n => rfl) hw
set_option maxRecDepth 4000 in
theorem s_Scene_day_0 (E : zX) (d : Nat) (a0 : Nat) (h : zH) (r : zO × zH)
    (hw : ∃ o1 : Nat, fld h a0 10 0 = some (.ref o1) ∧
    ∃ (n2 : Nat) (f3 : Nat → Int32), arr h o1 = some (n2, f3) ∧ ¬ ((0 : Int32) < 0 ∨ n2 ≤ ((0 : Int32)).toNatClampNeg) ∧
    r = (.inl (some (.int (f3 ((0 : Int32)).toNatClampNeg))), h)) :
    zT E d m_Scene_day 0 [some (.ref a0)] [] h r := by
  refine zT_st (pc' := 1) (L' := [some (.ref a0)]) (st' := [.ref a0]) (h' := h) 1 (fun n => rfl) ?_
  obtain ⟨o1, e, hw⟩ := hw
  refine zT_st (pc' := 4) (L' := [some (.ref a0)]) (st' := [.ref o1]) (h' := h) 1 (fun n => fld_eq (E := E) e _) ?_
  refine zT_st (pc' := 5) (L' := [some (.ref a0)]) (st' := [.int 0, .ref o1]) (h' := h) 1 (fun n => rfl) ?_
  obtain ⟨n2, f3, e, hi, hw⟩ := hw
  refine zT_st (pc' := 6) (L' := [some (.ref a0)]) (st' := [.int (f3 ((0 : Int32)).toNatClampNeg)]) (h' := h) 1 (fun n => arr_eq (E := E) e hi [] (fun st => zrun zP zCd E n d m_Scene_day 6 [some (.ref a0)] st h)) ?_
  subst hw
  exact zT_ret 1 rfl
set_option maxRecDepth 4000 in
theorem s_Scene_temperOf_0 (E : zX) (d : Nat) (a0 : Nat) (a1 : Int32) (h : zH) (r : zO × zH)
    (hw : ∃ o1 : Nat, fld h a0 10 0 = some (.ref o1) ∧
    ∃ (n2 : Nat) (f3 : Nat → Int32), arr h o1 = some (n2, f3) ∧ ¬ ((9 + a1) < 0 ∨ n2 ≤ ((9 + a1)).toNatClampNeg) ∧
    r = (.inl (some (.int (f3 ((9 + a1)).toNatClampNeg))), h)) :
    zT E d m_Scene_temperOf 0 [some (.ref a0), some (.int a1)] [] h r := by
  refine zT_st (pc' := 1) (L' := [some (.ref a0), some (.int a1)]) (st' := [.ref a0]) (h' := h) 1 (fun n => rfl) ?_
  obtain ⟨o1, e, hw⟩ := hw
  refine zT_st (pc' := 4) (L' := [some (.ref a0), some (.int a1)]) (st' := [.ref o1]) (h' := h) 1 (fun n => fld_eq (E := E) e _) ?_
  refine zT_st (pc' := 8) (L' := [some (.ref a0), some (.int a1)]) (st' := [.int (9 + a1), .ref o1]) (h' := h) 3 (fun n => rfl) ?_
  obtain ⟨n2, f3, e, hi, hw⟩ := hw
  refine zT_st (pc' := 9) (L' := [some (.ref a0), some (.int a1)]) (st' := [.int (f3 ((9 + a1)).toNatClampNeg)]) (h' := h) 1 (fun n => arr_eq (E := E) e hi [] (fun st => zrun zP zCd E n d m_Scene_temperOf 9 [some (.ref a0), some (.int a1)] st h)) ?_
  subst hw
  exact zT_ret 1 rfl
set_option maxRecDepth 4000 in
theorem s_Scene_mildOf_0 (E : zX) (d : Nat) (a0 : Nat) (a1 : Int32) (h : zH) (r : zO × zH)
    (hw : ∃ o1 : Nat, fld h a0 10 0 = some (.ref o1) ∧
    ∃ (n2 : Nat) (f3 : Nat → Int32), arr h o1 = some (n2, f3) ∧ ¬ ((2 + a1) < 0 ∨ n2 ≤ ((2 + a1)).toNatClampNeg) ∧
    r = (.inl (some (.int (f3 ((2 + a1)).toNatClampNeg))), h)) :
    zT E d m_Scene_mildOf 0 [some (.ref a0), some (.int a1)] [] h r := by
  refine zT_st (pc' := 1) (L' := [some (.ref a0), some (.int a1)]) (st' := [.ref a0]) (h' := h) 1 (fun n => rfl) ?_
  obtain ⟨o1, e, hw⟩ := hw
  refine zT_st (pc' := 4) (L' := [some (.ref a0), some (.int a1)]) (st' := [.ref o1]) (h' := h) 1 (fun n => fld_eq (E := E) e _) ?_
  refine zT_st (pc' := 7) (L' := [some (.ref a0), some (.int a1)]) (st' := [.int (2 + a1), .ref o1]) (h' := h) 3 (fun n => rfl) ?_
  obtain ⟨n2, f3, e, hi, hw⟩ := hw
  refine zT_st (pc' := 8) (L' := [some (.ref a0), some (.int a1)]) (st' := [.int (f3 ((2 + a1)).toNatClampNeg)]) (h' := h) 1 (fun n => arr_eq (E := E) e hi [] (fun st => zrun zP zCd E n d m_Scene_mildOf 8 [some (.ref a0), some (.int a1)] st h)) ?_
  subst hw
  exact zT_ret 1 rfl
set_option maxRecDepth 4000 in
theorem s_Scene_shoutedBy_0 (E : zX) (d : Nat) (a0 : Nat) (a1 : Int32) (h : zH) (r : zO × zH)
    (hw : ∃ o1 : Nat, fld h a0 10 0 = some (.ref o1) ∧
    ∃ (n2 : Nat) (f3 : Nat → Int32), arr h o1 = some (n2, f3) ∧ ¬ ((16 + a1) < 0 ∨ n2 ≤ ((16 + a1)).toNatClampNeg) ∧
    r = (.inl (some (.int (f3 ((16 + a1)).toNatClampNeg))), h)) :
    zT E d m_Scene_shoutedBy 0 [some (.ref a0), some (.int a1)] [] h r := by
  refine zT_st (pc' := 1) (L' := [some (.ref a0), some (.int a1)]) (st' := [.ref a0]) (h' := h) 1 (fun n => rfl) ?_
  obtain ⟨o1, e, hw⟩ := hw
  refine zT_st (pc' := 4) (L' := [some (.ref a0), some (.int a1)]) (st' := [.ref o1]) (h' := h) 1 (fun n => fld_eq (E := E) e _) ?_
  refine zT_st (pc' := 8) (L' := [some (.ref a0), some (.int a1)]) (st' := [.int (16 + a1), .ref o1]) (h' := h) 3 (fun n => rfl) ?_
  obtain ⟨n2, f3, e, hi, hw⟩ := hw
  refine zT_st (pc' := 9) (L' := [some (.ref a0), some (.int a1)]) (st' := [.int (f3 ((16 + a1)).toNatClampNeg)]) (h' := h) 1 (fun n => arr_eq (E := E) e hi [] (fun st => zrun zP zCd E n d m_Scene_shoutedBy 9 [some (.ref a0), some (.int a1)] st h)) ?_
  subst hw
  exact zT_ret 1 rfl
set_option maxRecDepth 4000 in
theorem s_Scene_heardBy_0 (E : zX) (d : Nat) (a0 : Nat) (a1 : Int32) (h : zH) (r : zO × zH)
    (hw : ∃ o1 : Nat, fld h a0 10 0 = some (.ref o1) ∧
    ∃ (n2 : Nat) (f3 : Nat → Int32), arr h o1 = some (n2, f3) ∧ ¬ ((23 + a1) < 0 ∨ n2 ≤ ((23 + a1)).toNatClampNeg) ∧
    r = (.inl (some (.int (f3 ((23 + a1)).toNatClampNeg))), h)) :
    zT E d m_Scene_heardBy 0 [some (.ref a0), some (.int a1)] [] h r := by
  refine zT_st (pc' := 1) (L' := [some (.ref a0), some (.int a1)]) (st' := [.ref a0]) (h' := h) 1 (fun n => rfl) ?_
  obtain ⟨o1, e, hw⟩ := hw
  refine zT_st (pc' := 4) (L' := [some (.ref a0), some (.int a1)]) (st' := [.ref o1]) (h' := h) 1 (fun n => fld_eq (E := E) e _) ?_
  refine zT_st (pc' := 8) (L' := [some (.ref a0), some (.int a1)]) (st' := [.int (23 + a1), .ref o1]) (h' := h) 3 (fun n => rfl) ?_
  obtain ⟨n2, f3, e, hi, hw⟩ := hw
  refine zT_st (pc' := 9) (L' := [some (.ref a0), some (.int a1)]) (st' := [.int (f3 ((23 + a1)).toNatClampNeg)]) (h' := h) 1 (fun n => arr_eq (E := E) e hi [] (fun st => zrun zP zCd E n d m_Scene_heardBy 9 [some (.ref a0), some (.int a1)] st h)) ?_
  subst hw
  exact zT_ret 1 rfl
set_option maxRecDepth 4000 in
theorem s_Scene_setTemper_0 (E : zX) (d : Nat) (a0 : Nat) (a1 : Int32) (a2 : Int32) (h : zH) (r : zO × zH)
    (hw : ∃ o1 : Nat, fld h a0 10 0 = some (.ref o1) ∧
    ∃ (n2 : Nat) (f3 : Nat → Int32), arr h o1 = some (n2, f3) ∧ ¬ ((9 + a1) < 0 ∨ n2 ≤ ((9 + a1)).toNatClampNeg) ∧
    r = (.inl (none), (setA h o1 n2 (upd f3 ((9 + a1)).toNatClampNeg (zmin a2 99))))) :
    zT E (d + 1) m_Scene_setTemper 0 [some (.ref a0), some (.int a1), some (.int a2)] [] h r := by
  refine zT_st (pc' := 1) (L' := [some (.ref a0), some (.int a1), some (.int a2)]) (st' := [.ref a0]) (h' := h) 1 (fun n => rfl) ?_
  obtain ⟨o1, e, hw⟩ := hw
  refine zT_st (pc' := 4) (L' := [some (.ref a0), some (.int a1), some (.int a2)]) (st' := [.ref o1]) (h' := h) 1 (fun n => fld_eq (E := E) e _) ?_
  refine zT_st (pc' := 14) (L' := [some (.ref a0), some (.int a1), some (.int a2)]) (st' := [.int (zmin a2 99), .int (9 + a1), .ref o1]) (h' := h) 6 (fun n => rfl) ?_
  obtain ⟨n2, f3, e, hi, hw⟩ := hw
  refine zT_st (pc' := 15) (L' := [some (.ref a0), some (.int a1), some (.int a2)]) (st' := []) (h' := (setA h o1 n2 (upd f3 ((9 + a1)).toNatClampNeg (zmin a2 99)))) 1 (fun n => set_eq e hi _ _) ?_
  subst hw
  exact zT_ret 1 rfl
set_option maxRecDepth 4000 in
theorem s_Scene_isWhite_0 (E : zX) (d : Nat) (a0 : Nat) (a1 : Int32) (h : zH) (r : zO × zH)
    (hw : ∃ o1 : Nat, fld h a0 10 0 = some (.ref o1) ∧
    ∃ (n2 : Nat) (f3 : Nat → Int32), arr h o1 = some (n2, f3) ∧ ¬ ((30 + a1) < 0 ∨ n2 ≤ ((30 + a1)).toNatClampNeg) ∧
    if (f3 ((30 + a1)).toNatClampNeg) = 0 then (
      r = (.inl (some (.int 1)), h))
    else (
      r = (.inl (some (.int 0)), h))) :
    zT E d m_Scene_isWhite 0 [some (.ref a0), some (.int a1)] [] h r := by
  refine zT_st (pc' := 1) (L' := [some (.ref a0), some (.int a1)]) (st' := [.ref a0]) (h' := h) 1 (fun n => rfl) ?_
  obtain ⟨o1, e, hw⟩ := hw
  refine zT_st (pc' := 4) (L' := [some (.ref a0), some (.int a1)]) (st' := [.ref o1]) (h' := h) 1 (fun n => fld_eq (E := E) e _) ?_
  refine zT_st (pc' := 8) (L' := [some (.ref a0), some (.int a1)]) (st' := [.int (30 + a1), .ref o1]) (h' := h) 3 (fun n => rfl) ?_
  obtain ⟨n2, f3, e, hi, hw⟩ := hw
  refine zT_st (pc' := 9) (L' := [some (.ref a0), some (.int a1)]) (st' := [.int (f3 ((30 + a1)).toNatClampNeg)]) (h' := h) 1 (fun n => arr_eq (E := E) e hi [] (fun st => zrun zP zCd E n d m_Scene_isWhite 9 [some (.ref a0), some (.int a1)] st h)) ?_
  by_cases hc : (f3 ((30 + a1)).toNatClampNeg) = 0
  · rw [if_pos hc] at hw
    refine zT_st (pc' := 12) (L' := [some (.ref a0), some (.int a1)]) (st' := []) (h' := h) 1 (fun n => if_pos hc) ?_
    subst hw
    exact zT_ret 3 rfl
  · rw [if_neg hc] at hw
    refine zT_st (pc' := 16) (L' := [some (.ref a0), some (.int a1)]) (st' := []) (h' := h) 1 (fun n => if_neg hc) ?_
    subst hw
    exact zT_ret 2 rfl
set_option maxRecDepth 4000 in
theorem s_Scene_cellOf_0 (E : zX) (d : Nat) (a0 : Nat) (a1 : Int32) (h : zH) (r : zO × zH)
    (hw : ∃ o1 : Nat, fld h a0 10 0 = some (.ref o1) ∧
    ∃ (n2 : Nat) (f3 : Nat → Int32), arr h o1 = some (n2, f3) ∧ ¬ ((60 + a1) < 0 ∨ n2 ≤ ((60 + a1)).toNatClampNeg) ∧
    r = (.inl (some (.int (f3 ((60 + a1)).toNatClampNeg))), h)) :
    zT E d m_Scene_cellOf 0 [some (.ref a0), some (.int a1)] [] h r := by
  refine zT_st (pc' := 1) (L' := [some (.ref a0), some (.int a1)]) (st' := [.ref a0]) (h' := h) 1 (fun n => rfl) ?_
  obtain ⟨o1, e, hw⟩ := hw
  refine zT_st (pc' := 4) (L' := [some (.ref a0), some (.int a1)]) (st' := [.ref o1]) (h' := h) 1 (fun n => fld_eq (E := E) e _) ?_
  refine zT_st (pc' := 8) (L' := [some (.ref a0), some (.int a1)]) (st' := [.int (60 + a1), .ref o1]) (h' := h) 3 (fun n => rfl) ?_
  obtain ⟨n2, f3, e, hi, hw⟩ := hw
  refine zT_st (pc' := 9) (L' := [some (.ref a0), some (.int a1)]) (st' := [.int (f3 ((60 + a1)).toNatClampNeg)]) (h' := h) 1 (fun n => arr_eq (E := E) e hi [] (fun st => zrun zP zCd E n d m_Scene_cellOf 9 [some (.ref a0), some (.int a1)] st h)) ?_
  subst hw
  exact zT_ret 1 rfl
set_option maxRecDepth 4000 in
theorem s_Scene_fill_0 (E : zX) (d : Nat) (a0 : Nat) (a1 : Int32) (a2 : Int32) (a3 : Int32) (h : zH) (r : zO × zH)
    (hw : ∃ o1 : Nat, fld h a0 10 0 = some (.ref o1) ∧
    ∃ (n2 : Nat) (f3 : Nat → Int32), arr h o1 = some (n2, f3) ∧ ¬ ((30 + a1) < 0 ∨ n2 ≤ ((30 + a1)).toNatClampNeg) ∧
    ∃ o4 : Nat, fld (setA h o1 n2 (upd f3 ((30 + a1)).toNatClampNeg a2)) a0 10 0 = some (.ref o4) ∧
    ∃ (n5 : Nat) (f6 : Nat → Int32), arr (setA h o1 n2 (upd f3 ((30 + a1)).toNatClampNeg a2)) o4 = some (n5, f6) ∧ ¬ ((40 + a1) < 0 ∨ n5 ≤ ((40 + a1)).toNatClampNeg) ∧
    ∃ o7 : Nat, fld (setA (setA h o1 n2 (upd f3 ((30 + a1)).toNatClampNeg a2)) o4 n5 (upd f6 ((40 + a1)).toNatClampNeg 0)) a0 10 0 = some (.ref o7) ∧
    ∃ (n8 : Nat) (f9 : Nat → Int32), arr (setA (setA h o1 n2 (upd f3 ((30 + a1)).toNatClampNeg a2)) o4 n5 (upd f6 ((40 + a1)).toNatClampNeg 0)) o7 = some (n8, f9) ∧ ¬ ((50 + a1) < 0 ∨ n8 ≤ ((50 + a1)).toNatClampNeg) ∧
    r = (.inl (none), (setA (setA (setA h o1 n2 (upd f3 ((30 + a1)).toNatClampNeg a2)) o4 n5 (upd f6 ((40 + a1)).toNatClampNeg 0)) o7 n8 (upd f9 ((50 + a1)).toNatClampNeg a3)))) :
    zT E d m_Scene_fill 0 [some (.ref a0), some (.int a1), some (.int a2), some (.int a3)] [] h r := by
  refine zT_st (pc' := 1) (L' := [some (.ref a0), some (.int a1), some (.int a2), some (.int a3)]) (st' := [.ref a0]) (h' := h) 1 (fun n => rfl) ?_
  obtain ⟨o1, e, hw⟩ := hw
  refine zT_st (pc' := 4) (L' := [some (.ref a0), some (.int a1), some (.int a2), some (.int a3)]) (st' := [.ref o1]) (h' := h) 1 (fun n => fld_eq (E := E) e _) ?_
  refine zT_st (pc' := 9) (L' := [some (.ref a0), some (.int a1), some (.int a2), some (.int a3)]) (st' := [.int a2, .int (30 + a1), .ref o1]) (h' := h) 4 (fun n => rfl) ?_
  obtain ⟨n2, f3, e, hi, hw⟩ := hw
  refine zT_st (pc' := 10) (L' := [some (.ref a0), some (.int a1), some (.int a2), some (.int a3)]) (st' := []) (h' := (setA h o1 n2 (upd f3 ((30 + a1)).toNatClampNeg a2))) 1 (fun n => set_eq e hi _ _) ?_
  refine zT_st (pc' := 11) (L' := [some (.ref a0), some (.int a1), some (.int a2), some (.int a3)]) (st' := [.ref a0]) (h' := (setA h o1 n2 (upd f3 ((30 + a1)).toNatClampNeg a2))) 1 (fun n => rfl) ?_
  obtain ⟨o4, e, hw⟩ := hw
  refine zT_st (pc' := 14) (L' := [some (.ref a0), some (.int a1), some (.int a2), some (.int a3)]) (st' := [.ref o4]) (h' := (setA h o1 n2 (upd f3 ((30 + a1)).toNatClampNeg a2))) 1 (fun n => fld_eq (E := E) e _) ?_
  refine zT_st (pc' := 19) (L' := [some (.ref a0), some (.int a1), some (.int a2), some (.int a3)]) (st' := [.int 0, .int (40 + a1), .ref o4]) (h' := (setA h o1 n2 (upd f3 ((30 + a1)).toNatClampNeg a2))) 4 (fun n => rfl) ?_
  obtain ⟨n5, f6, e, hi, hw⟩ := hw
  refine zT_st (pc' := 20) (L' := [some (.ref a0), some (.int a1), some (.int a2), some (.int a3)]) (st' := []) (h' := (setA (setA h o1 n2 (upd f3 ((30 + a1)).toNatClampNeg a2)) o4 n5 (upd f6 ((40 + a1)).toNatClampNeg 0))) 1 (fun n => set_eq e hi _ _) ?_
  refine zT_st (pc' := 21) (L' := [some (.ref a0), some (.int a1), some (.int a2), some (.int a3)]) (st' := [.ref a0]) (h' := (setA (setA h o1 n2 (upd f3 ((30 + a1)).toNatClampNeg a2)) o4 n5 (upd f6 ((40 + a1)).toNatClampNeg 0))) 1 (fun n => rfl) ?_
  obtain ⟨o7, e, hw⟩ := hw
  refine zT_st (pc' := 24) (L' := [some (.ref a0), some (.int a1), some (.int a2), some (.int a3)]) (st' := [.ref o7]) (h' := (setA (setA h o1 n2 (upd f3 ((30 + a1)).toNatClampNeg a2)) o4 n5 (upd f6 ((40 + a1)).toNatClampNeg 0))) 1 (fun n => fld_eq (E := E) e _) ?_
  refine zT_st (pc' := 29) (L' := [some (.ref a0), some (.int a1), some (.int a2), some (.int a3)]) (st' := [.int a3, .int (50 + a1), .ref o7]) (h' := (setA (setA h o1 n2 (upd f3 ((30 + a1)).toNatClampNeg a2)) o4 n5 (upd f6 ((40 + a1)).toNatClampNeg 0))) 4 (fun n => rfl) ?_
  obtain ⟨n8, f9, e, hi, hw⟩ := hw
  refine zT_st (pc' := 30) (L' := [some (.ref a0), some (.int a1), some (.int a2), some (.int a3)]) (st' := []) (h' := (setA (setA (setA h o1 n2 (upd f3 ((30 + a1)).toNatClampNeg a2)) o4 n5 (upd f6 ((40 + a1)).toNatClampNeg 0)) o7 n8 (upd f9 ((50 + a1)).toNatClampNeg a3))) 1 (fun n => set_eq e hi _ _) ?_
  subst hw
  exact zT_ret 1 rfl
set_option maxRecDepth 4000 in
theorem s_Scene_shout_0 (E : zX) (d : Nat) (a0 : Nat) (a1 : Int32) (h : zH) (r : zO × zH)
    (hw : ∃ o1 : Nat, fld h a0 10 0 = some (.ref o1) ∧
    ∃ (n2 : Nat) (f3 : Nat → Int32), arr h o1 = some (n2, f3) ∧ ¬ ((16 + a1) < 0 ∨ n2 ≤ ((16 + a1)).toNatClampNeg) ∧
    ∃ (n4 : Nat) (f5 : Nat → Int32), arr h o1 = some (n4, f5) ∧ ¬ ((16 + a1) < 0 ∨ n4 ≤ ((16 + a1)).toNatClampNeg) ∧
    ∃ o6 : Nat, fld (setA h o1 n4 (upd f5 ((16 + a1)).toNatClampNeg ((f3 ((16 + a1)).toNatClampNeg) + 1))) a0 10 0 = some (.ref o6) ∧
    ∃ (n7 : Nat) (f8 : Nat → Int32), arr (setA h o1 n4 (upd f5 ((16 + a1)).toNatClampNeg ((f3 ((16 + a1)).toNatClampNeg) + 1))) o6 = some (n7, f8) ∧ ¬ ((9 + a1) < 0 ∨ n7 ≤ ((9 + a1)).toNatClampNeg) ∧
    ∃ (n9 : Nat) (f10 : Nat → Int32), arr (setA h o1 n4 (upd f5 ((16 + a1)).toNatClampNeg ((f3 ((16 + a1)).toNatClampNeg) + 1))) o6 = some (n9, f10) ∧ ¬ ((9 + a1) < 0 ∨ n9 ≤ ((9 + a1)).toNatClampNeg) ∧
    r = (.inl (none), (setA (setA h o1 n4 (upd f5 ((16 + a1)).toNatClampNeg ((f3 ((16 + a1)).toNatClampNeg) + 1))) o6 n9 (upd f10 ((9 + a1)).toNatClampNeg ((f8 ((9 + a1)).toNatClampNeg) / 2))))) :
    zT E d m_Scene_shout 0 [some (.ref a0), some (.int a1)] [] h r := by
  refine zT_st (pc' := 1) (L' := [some (.ref a0), some (.int a1)]) (st' := [.ref a0]) (h' := h) 1 (fun n => rfl) ?_
  obtain ⟨o1, e, hw⟩ := hw
  refine zT_st (pc' := 4) (L' := [some (.ref a0), some (.int a1)]) (st' := [.ref o1]) (h' := h) 1 (fun n => fld_eq (E := E) e _) ?_
  refine zT_st (pc' := 9) (L' := [some (.ref a0), some (.int a1)]) (st' := [.int (16 + a1), .ref o1, .int (16 + a1), .ref o1]) (h' := h) 4 (fun n => rfl) ?_
  obtain ⟨n2, f3, e, hi, hw⟩ := hw
  refine zT_st (pc' := 10) (L' := [some (.ref a0), some (.int a1)]) (st' := [.int (f3 ((16 + a1)).toNatClampNeg), .int (16 + a1), .ref o1]) (h' := h) 1 (fun n => arr_eq (E := E) e hi [.int (16 + a1), .ref o1] (fun st => zrun zP zCd E n d m_Scene_shout 10 [some (.ref a0), some (.int a1)] st h)) ?_
  refine zT_st (pc' := 12) (L' := [some (.ref a0), some (.int a1)]) (st' := [.int ((f3 ((16 + a1)).toNatClampNeg) + 1), .int (16 + a1), .ref o1]) (h' := h) 2 (fun n => rfl) ?_
  obtain ⟨n4, f5, e, hi, hw⟩ := hw
  refine zT_st (pc' := 13) (L' := [some (.ref a0), some (.int a1)]) (st' := []) (h' := (setA h o1 n4 (upd f5 ((16 + a1)).toNatClampNeg ((f3 ((16 + a1)).toNatClampNeg) + 1)))) 1 (fun n => set_eq e hi _ _) ?_
  refine zT_st (pc' := 14) (L' := [some (.ref a0), some (.int a1)]) (st' := [.ref a0]) (h' := (setA h o1 n4 (upd f5 ((16 + a1)).toNatClampNeg ((f3 ((16 + a1)).toNatClampNeg) + 1)))) 1 (fun n => rfl) ?_
  obtain ⟨o6, e, hw⟩ := hw
  refine zT_st (pc' := 17) (L' := [some (.ref a0), some (.int a1)]) (st' := [.ref o6]) (h' := (setA h o1 n4 (upd f5 ((16 + a1)).toNatClampNeg ((f3 ((16 + a1)).toNatClampNeg) + 1)))) 1 (fun n => fld_eq (E := E) e _) ?_
  refine zT_st (pc' := 22) (L' := [some (.ref a0), some (.int a1)]) (st' := [.int (9 + a1), .ref o6, .int (9 + a1), .ref o6]) (h' := (setA h o1 n4 (upd f5 ((16 + a1)).toNatClampNeg ((f3 ((16 + a1)).toNatClampNeg) + 1)))) 4 (fun n => rfl) ?_
  obtain ⟨n7, f8, e, hi, hw⟩ := hw
  refine zT_st (pc' := 23) (L' := [some (.ref a0), some (.int a1)]) (st' := [.int (f8 ((9 + a1)).toNatClampNeg), .int (9 + a1), .ref o6]) (h' := (setA h o1 n4 (upd f5 ((16 + a1)).toNatClampNeg ((f3 ((16 + a1)).toNatClampNeg) + 1)))) 1 (fun n => arr_eq (E := E) e hi [.int (9 + a1), .ref o6] (fun st => zrun zP zCd E n d m_Scene_shout 23 [some (.ref a0), some (.int a1)] st (setA h o1 n4 (upd f5 ((16 + a1)).toNatClampNeg ((f3 ((16 + a1)).toNatClampNeg) + 1))))) ?_
  refine zT_st (pc' := 24) (L' := [some (.ref a0), some (.int a1)]) (st' := [.int 2, .int (f8 ((9 + a1)).toNatClampNeg), .int (9 + a1), .ref o6]) (h' := (setA h o1 n4 (upd f5 ((16 + a1)).toNatClampNeg ((f3 ((16 + a1)).toNatClampNeg) + 1)))) 1 (fun n => rfl) ?_
  refine zT_st (pc' := 25) (L' := [some (.ref a0), some (.int a1)]) (st' := [.int ((f8 ((9 + a1)).toNatClampNeg) / 2), .int (9 + a1), .ref o6]) (h' := (setA h o1 n4 (upd f5 ((16 + a1)).toNatClampNeg ((f3 ((16 + a1)).toNatClampNeg) + 1)))) 1 (fun n => rfl) ?_
  obtain ⟨n9, f10, e, hi, hw⟩ := hw
  refine zT_st (pc' := 26) (L' := [some (.ref a0), some (.int a1)]) (st' := []) (h' := (setA (setA h o1 n4 (upd f5 ((16 + a1)).toNatClampNeg ((f3 ((16 + a1)).toNatClampNeg) + 1))) o6 n9 (upd f10 ((9 + a1)).toNatClampNeg ((f8 ((9 + a1)).toNatClampNeg) / 2)))) 1 (fun n => set_eq e hi _ _) ?_
  subst hw
  exact zT_ret 1 rfl
set_option maxRecDepth 4000 in
theorem s_Scene_growOld_0 (E : zX) (d : Nat) (a0 : Nat) (a1 : Int32) (h : zH) (r : zO × zH)
    (hw : ∃ o1 : Nat, fld h a0 10 0 = some (.ref o1) ∧
    ∃ (n2 : Nat) (f3 : Nat → Int32), arr h o1 = some (n2, f3) ∧ ¬ ((40 + a1) < 0 ∨ n2 ≤ ((40 + a1)).toNatClampNeg) ∧
    ∃ (n4 : Nat) (f5 : Nat → Int32), arr h o1 = some (n4, f5) ∧ ¬ ((40 + a1) < 0 ∨ n4 ≤ ((40 + a1)).toNatClampNeg) ∧
    r = (.inl (none), (setA h o1 n4 (upd f5 ((40 + a1)).toNatClampNeg ((f3 ((40 + a1)).toNatClampNeg) + 1))))) :
    zT E d m_Scene_growOld 0 [some (.ref a0), some (.int a1)] [] h r := by
  refine zT_st (pc' := 1) (L' := [some (.ref a0), some (.int a1)]) (st' := [.ref a0]) (h' := h) 1 (fun n => rfl) ?_
  obtain ⟨o1, e, hw⟩ := hw
  refine zT_st (pc' := 4) (L' := [some (.ref a0), some (.int a1)]) (st' := [.ref o1]) (h' := h) 1 (fun n => fld_eq (E := E) e _) ?_
  refine zT_st (pc' := 9) (L' := [some (.ref a0), some (.int a1)]) (st' := [.int (40 + a1), .ref o1, .int (40 + a1), .ref o1]) (h' := h) 4 (fun n => rfl) ?_
  obtain ⟨n2, f3, e, hi, hw⟩ := hw
  refine zT_st (pc' := 10) (L' := [some (.ref a0), some (.int a1)]) (st' := [.int (f3 ((40 + a1)).toNatClampNeg), .int (40 + a1), .ref o1]) (h' := h) 1 (fun n => arr_eq (E := E) e hi [.int (40 + a1), .ref o1] (fun st => zrun zP zCd E n d m_Scene_growOld 10 [some (.ref a0), some (.int a1)] st h)) ?_
  refine zT_st (pc' := 12) (L' := [some (.ref a0), some (.int a1)]) (st' := [.int ((f3 ((40 + a1)).toNatClampNeg) + 1), .int (40 + a1), .ref o1]) (h' := h) 2 (fun n => rfl) ?_
  obtain ⟨n4, f5, e, hi, hw⟩ := hw
  refine zT_st (pc' := 13) (L' := [some (.ref a0), some (.int a1)]) (st' := []) (h' := (setA h o1 n4 (upd f5 ((40 + a1)).toNatClampNeg ((f3 ((40 + a1)).toNatClampNeg) + 1)))) 1 (fun n => set_eq e hi _ _) ?_
  subst hw
  exact zT_ret 1 rfl
set_option maxRecDepth 4000 in
theorem s_Scene_heldIn_0 (E : zX) (d : Nat) (a0 : Nat) (a1 : Int32) (h : zH) (r : zO × zH)
    (hw : ∃ o1 : Nat, fld h a0 10 0 = some (.ref o1) ∧
    ∃ (n2 : Nat) (f3 : Nat → Int32), arr h o1 = some (n2, f3) ∧ ¬ ((30 + a1) < 0 ∨ n2 ≤ ((30 + a1)).toNatClampNeg) ∧
    r = (.inl (some (.int (f3 ((30 + a1)).toNatClampNeg))), h)) :
    zT E d m_Scene_heldIn 0 [some (.ref a0), some (.int a1)] [] h r := by
  refine zT_st (pc' := 1) (L' := [some (.ref a0), some (.int a1)]) (st' := [.ref a0]) (h' := h) 1 (fun n => rfl) ?_
  obtain ⟨o1, e, hw⟩ := hw
  refine zT_st (pc' := 4) (L' := [some (.ref a0), some (.int a1)]) (st' := [.ref o1]) (h' := h) 1 (fun n => fld_eq (E := E) e _) ?_
  refine zT_st (pc' := 8) (L' := [some (.ref a0), some (.int a1)]) (st' := [.int (30 + a1), .ref o1]) (h' := h) 3 (fun n => rfl) ?_
  obtain ⟨n2, f3, e, hi, hw⟩ := hw
  refine zT_st (pc' := 9) (L' := [some (.ref a0), some (.int a1)]) (st' := [.int (f3 ((30 + a1)).toNatClampNeg)]) (h' := h) 1 (fun n => arr_eq (E := E) e hi [] (fun st => zrun zP zCd E n d m_Scene_heldIn 9 [some (.ref a0), some (.int a1)] st h)) ?_
  subst hw
  exact zT_ret 1 rfl
set_option maxRecDepth 4000 in
theorem s_Scene_ageOf_0 (E : zX) (d : Nat) (a0 : Nat) (a1 : Int32) (h : zH) (r : zO × zH)
    (hw : ∃ o1 : Nat, fld h a0 10 0 = some (.ref o1) ∧
    ∃ (n2 : Nat) (f3 : Nat → Int32), arr h o1 = some (n2, f3) ∧ ¬ ((40 + a1) < 0 ∨ n2 ≤ ((40 + a1)).toNatClampNeg) ∧
    r = (.inl (some (.int (f3 ((40 + a1)).toNatClampNeg))), h)) :
    zT E d m_Scene_ageOf 0 [some (.ref a0), some (.int a1)] [] h r := by
  refine zT_st (pc' := 1) (L' := [some (.ref a0), some (.int a1)]) (st' := [.ref a0]) (h' := h) 1 (fun n => rfl) ?_
  obtain ⟨o1, e, hw⟩ := hw
  refine zT_st (pc' := 4) (L' := [some (.ref a0), some (.int a1)]) (st' := [.ref o1]) (h' := h) 1 (fun n => fld_eq (E := E) e _) ?_
  refine zT_st (pc' := 8) (L' := [some (.ref a0), some (.int a1)]) (st' := [.int (40 + a1), .ref o1]) (h' := h) 3 (fun n => rfl) ?_
  obtain ⟨n2, f3, e, hi, hw⟩ := hw
  refine zT_st (pc' := 9) (L' := [some (.ref a0), some (.int a1)]) (st' := [.int (f3 ((40 + a1)).toNatClampNeg)]) (h' := h) 1 (fun n => arr_eq (E := E) e hi [] (fun st => zrun zP zCd E n d m_Scene_ageOf 9 [some (.ref a0), some (.int a1)] st h)) ?_
  subst hw
  exact zT_ret 1 rfl
set_option maxRecDepth 4000 in
theorem s_Scene_guards_0 (E : zX) (d : Nat) (a0 : Nat) (h : zH) (r : zO × zH)
    (hw : ∃ o1 : Nat, fld h a0 10 0 = some (.ref o1) ∧
    ∃ (n2 : Nat) (f3 : Nat → Int32), arr h o1 = some (n2, f3) ∧ ¬ ((1 : Int32) < 0 ∨ n2 ≤ ((1 : Int32)).toNatClampNeg) ∧
    r = (.inl (some (.int (f3 ((1 : Int32)).toNatClampNeg))), h)) :
    zT E d m_Scene_guards 0 [some (.ref a0)] [] h r := by
  refine zT_st (pc' := 1) (L' := [some (.ref a0)]) (st' := [.ref a0]) (h' := h) 1 (fun n => rfl) ?_
  obtain ⟨o1, e, hw⟩ := hw
  refine zT_st (pc' := 4) (L' := [some (.ref a0)]) (st' := [.ref o1]) (h' := h) 1 (fun n => fld_eq (E := E) e _) ?_
  refine zT_st (pc' := 5) (L' := [some (.ref a0)]) (st' := [.int 1, .ref o1]) (h' := h) 1 (fun n => rfl) ?_
  obtain ⟨n2, f3, e, hi, hw⟩ := hw
  refine zT_st (pc' := 6) (L' := [some (.ref a0)]) (st' := [.int (f3 ((1 : Int32)).toNatClampNeg)]) (h' := h) 1 (fun n => arr_eq (E := E) e hi [] (fun st => zrun zP zCd E n d m_Scene_guards 6 [some (.ref a0)] st h)) ?_
  subst hw
  exact zT_ret 1 rfl
set_option maxRecDepth 4000 in
theorem s_Scene_hear_0 (E : zX) (d : Nat) (a0 : Nat) (a1 : Int32) (a2 : Int32) (h : zH) (r : zO × zH)
    (hw : ∃ o1 : Nat, fld h a0 10 0 = some (.ref o1) ∧
    ∃ o2 : Nat, fld h a0 10 0 = some (.ref o2) ∧
    ∃ (n3 : Nat) (f4 : Nat → Int32), arr h o2 = some (n3, f4) ∧ ¬ ((23 + a1) < 0 ∨ n3 ≤ ((23 + a1)).toNatClampNeg) ∧
    ∃ (n5 : Nat) (f6 : Nat → Int32), arr h o1 = some (n5, f6) ∧ ¬ ((23 + a1) < 0 ∨ n5 ≤ ((23 + a1)).toNatClampNeg) ∧
    isO (setA h o1 n5 (upd f6 ((23 + a1)).toNatClampNeg (zmin ((f4 ((23 + a1)).toNatClampNeg) + a2) 9999))) a0 10 = true ∧ ∃ (x7 : Int32) (h8 : zH), zT E d m_Scene_temperOf 0 [some (.ref a0), some (.int a1)] [] (setA h o1 n5 (upd f6 ((23 + a1)).toNatClampNeg (zmin ((f4 ((23 + a1)).toNatClampNeg) + a2) 9999))) (.inl (some (.int x7)), h8) ∧
    isO h8 a0 10 = true ∧ ∃ (h10 : zH), zT E d m_Scene_setTemper 0 [some (.ref a0), some (.int a1), some (.int (x7 + (5 * a2)))] [] h8 (.inl none, h10) ∧
    r = (.inl (none), h10)) :
    zT E (d + 1) m_Scene_hear 0 [some (.ref a0), some (.int a1), some (.int a2)] [] h r := by
  refine zT_st (pc' := 1) (L' := [some (.ref a0), some (.int a1), some (.int a2)]) (st' := [.ref a0]) (h' := h) 1 (fun n => rfl) ?_
  obtain ⟨o1, e, hw⟩ := hw
  refine zT_st (pc' := 4) (L' := [some (.ref a0), some (.int a1), some (.int a2)]) (st' := [.ref o1]) (h' := h) 1 (fun n => fld_eq (E := E) e _) ?_
  refine zT_st (pc' := 9) (L' := [some (.ref a0), some (.int a1), some (.int a2)]) (st' := [.ref a0, .int (23 + a1), .ref o1]) (h' := h) 4 (fun n => rfl) ?_
  obtain ⟨o2, e, hw⟩ := hw
  refine zT_st (pc' := 12) (L' := [some (.ref a0), some (.int a1), some (.int a2)]) (st' := [.ref o2, .int (23 + a1), .ref o1]) (h' := h) 1 (fun n => fld_eq (E := E) e _) ?_
  refine zT_st (pc' := 16) (L' := [some (.ref a0), some (.int a1), some (.int a2)]) (st' := [.int (23 + a1), .ref o2, .int (23 + a1), .ref o1]) (h' := h) 3 (fun n => rfl) ?_
  obtain ⟨n3, f4, e, hi, hw⟩ := hw
  refine zT_st (pc' := 17) (L' := [some (.ref a0), some (.int a1), some (.int a2)]) (st' := [.int (f4 ((23 + a1)).toNatClampNeg), .int (23 + a1), .ref o1]) (h' := h) 1 (fun n => arr_eq (E := E) e hi [.int (23 + a1), .ref o1] (fun st => zrun zP zCd E n (d + 1) m_Scene_hear 17 [some (.ref a0), some (.int a1), some (.int a2)] st h)) ?_
  refine zT_st (pc' := 25) (L' := [some (.ref a0), some (.int a1), some (.int a2)]) (st' := [.int (zmin ((f4 ((23 + a1)).toNatClampNeg) + a2) 9999), .int (23 + a1), .ref o1]) (h' := h) 4 (fun n => rfl) ?_
  obtain ⟨n5, f6, e, hi, hw⟩ := hw
  refine zT_st (pc' := 26) (L' := [some (.ref a0), some (.int a1), some (.int a2)]) (st' := []) (h' := (setA h o1 n5 (upd f6 ((23 + a1)).toNatClampNeg (zmin ((f4 ((23 + a1)).toNatClampNeg) + a2) 9999)))) 1 (fun n => set_eq e hi _ _) ?_
  refine zT_st (pc' := 30) (L' := [some (.ref a0), some (.int a1), some (.int a2)]) (st' := [.int a1, .ref a0, .int a1, .ref a0]) (h' := (setA h o1 n5 (upd f6 ((23 + a1)).toNatClampNeg (zmin ((f4 ((23 + a1)).toNatClampNeg) + a2) 9999)))) 4 (fun n => rfl) ?_
  obtain ⟨hq, hw⟩ := hw
  obtain ⟨x7, h8, hx, hw⟩ := hw
  refine zT_call (pc' := 33) (rest := [.int a1, .ref a0]) 1 (fun n => rfl) hq hx ?_
  show zT E (d + 1) m_Scene_hear 33 [some (.ref a0), some (.int a1), some (.int a2)] [.int x7, .int a1, .ref a0] h8 r
  refine zT_st (pc' := 37) (L' := [some (.ref a0), some (.int a1), some (.int a2)]) (st' := [.int (x7 + (5 * a2)), .int a1, .ref a0]) (h' := h8) 4 (fun n => rfl) ?_
  obtain ⟨hq, hw⟩ := hw
  obtain ⟨h10, hx, hw⟩ := hw
  refine zT_call (pc' := 40) (rest := []) 1 (fun n => rfl) hq hx ?_
  show zT E (d + 1) m_Scene_hear 40 [some (.ref a0), some (.int a1), some (.int a2)] [] h10 r
  subst hw
  exact zT_ret 1 rfl
set_option maxRecDepth 4000 in
theorem s_Scene_nextDay_0 (E : zX) (d : Nat) (a0 : Nat) (h : zH) (r : zO × zH)
    (hw : ∃ o1 : Nat, fld h a0 10 0 = some (.ref o1) ∧
    ∃ (n2 : Nat) (f3 : Nat → Int32), arr h o1 = some (n2, f3) ∧ ¬ ((0 : Int32) < 0 ∨ n2 ≤ ((0 : Int32)).toNatClampNeg) ∧
    ∃ (n4 : Nat) (f5 : Nat → Int32), arr h o1 = some (n4, f5) ∧ ¬ ((0 : Int32) < 0 ∨ n4 ≤ ((0 : Int32)).toNatClampNeg) ∧
    r = (.inl (none), (setA h o1 n4 (upd f5 ((0 : Int32)).toNatClampNeg ((f3 ((0 : Int32)).toNatClampNeg) + 1))))) :
    zT E d m_Scene_nextDay 0 [some (.ref a0)] [] h r := by
  refine zT_st (pc' := 1) (L' := [some (.ref a0)]) (st' := [.ref a0]) (h' := h) 1 (fun n => rfl) ?_
  obtain ⟨o1, e, hw⟩ := hw
  refine zT_st (pc' := 4) (L' := [some (.ref a0)]) (st' := [.ref o1]) (h' := h) 1 (fun n => fld_eq (E := E) e _) ?_
  refine zT_st (pc' := 6) (L' := [some (.ref a0)]) (st' := [.int 0, .ref o1, .int 0, .ref o1]) (h' := h) 2 (fun n => rfl) ?_
  obtain ⟨n2, f3, e, hi, hw⟩ := hw
  refine zT_st (pc' := 7) (L' := [some (.ref a0)]) (st' := [.int (f3 ((0 : Int32)).toNatClampNeg), .int 0, .ref o1]) (h' := h) 1 (fun n => arr_eq (E := E) e hi [.int 0, .ref o1] (fun st => zrun zP zCd E n d m_Scene_nextDay 7 [some (.ref a0)] st h)) ?_
  refine zT_st (pc' := 9) (L' := [some (.ref a0)]) (st' := [.int ((f3 ((0 : Int32)).toNatClampNeg) + 1), .int 0, .ref o1]) (h' := h) 2 (fun n => rfl) ?_
  obtain ⟨n4, f5, e, hi, hw⟩ := hw
  refine zT_st (pc' := 10) (L' := [some (.ref a0)]) (st' := []) (h' := (setA h o1 n4 (upd f5 ((0 : Int32)).toNatClampNeg ((f3 ((0 : Int32)).toNatClampNeg) + 1)))) 1 (fun n => set_eq e hi _ _) ?_
  subst hw
  exact zT_ret 1 rfl
set_option maxRecDepth 4000 in
theorem s_Scene_copyFrom_0 (E : zX) (d : Nat) (a0 : Nat) (a1 : Nat) (h : zH) (r : zO × zH)
    (hw : ∃ o1 : Nat, fld h a1 10 0 = some (.ref o1) ∧
    ∃ o2 : Nat, fld h a0 10 0 = some (.ref o2) ∧
    ∃ (n3 : Nat) (f4 : Nat → Int32) (n5 : Nat) (f6 : Nat → Int32), arr h o1 = some (n3, f4) ∧ arr h o2 = some (n5, f6) ∧ ¬ (((0 : Int32) < 0 ∨ (0 : Int32) < 0 ∨ (70 : Int32) < 0) ∨ (n3 < ((0 : Int32)).toNatClampNeg + ((70 : Int32)).toNatClampNeg ∨ n5 < ((0 : Int32)).toNatClampNeg + ((70 : Int32)).toNatClampNeg)) ∧
    r = (.inl (none), (setA h o2 n5 (va_cpy f4 f6 ((0 : Int32)).toNatClampNeg ((0 : Int32)).toNatClampNeg ((70 : Int32)).toNatClampNeg)))) :
    zT E (d + 1) m_Scene_copyFrom 0 [some (.ref a0), some (.ref a1)] [] h r := by
  refine zT_st (pc' := 1) (L' := [some (.ref a0), some (.ref a1)]) (st' := [.ref a1]) (h' := h) 1 (fun n => rfl) ?_
  obtain ⟨o1, e, hw⟩ := hw
  refine zT_st (pc' := 4) (L' := [some (.ref a0), some (.ref a1)]) (st' := [.ref o1]) (h' := h) 1 (fun n => fld_eq (E := E) e _) ?_
  refine zT_st (pc' := 6) (L' := [some (.ref a0), some (.ref a1)]) (st' := [.ref a0, .int 0, .ref o1]) (h' := h) 2 (fun n => rfl) ?_
  obtain ⟨o2, e, hw⟩ := hw
  refine zT_st (pc' := 9) (L' := [some (.ref a0), some (.ref a1)]) (st' := [.ref o2, .int 0, .ref o1]) (h' := h) 1 (fun n => fld_eq (E := E) e _) ?_
  refine zT_st (pc' := 12) (L' := [some (.ref a0), some (.ref a1)]) (st' := [.int 70, .int 0, .ref o2, .int 0, .ref o1]) (h' := h) 2 (fun n => rfl) ?_
  obtain ⟨n3, f4, n5, f6, e0, e1, hi, hw⟩ := hw
  refine zT_st (pc' := 15) (L' := [some (.ref a0), some (.ref a1)]) (st' := []) (h' := (setA h o2 n5 (va_cpy f4 f6 ((0 : Int32)).toNatClampNeg ((0 : Int32)).toNatClampNeg ((70 : Int32)).toNatClampNeg))) 1 (fun n => cp_eq e0 e1 hi _ _) ?_
  subst hw
  exact zT_ret 1 rfl
set_option maxRecDepth 4000 in
theorem s_Scene_setMild_0 (E : zX) (d : Nat) (a0 : Nat) (a1 : Int32) (a2 : Int32) (h : zH) (r : zO × zH)
    (hw : ∃ o1 : Nat, fld h a0 10 0 = some (.ref o1) ∧
    ∃ (n2 : Nat) (f3 : Nat → Int32), arr h o1 = some (n2, f3) ∧ ¬ ((2 + a1) < 0 ∨ n2 ≤ ((2 + a1)).toNatClampNeg) ∧
    r = (.inl (none), (setA h o1 n2 (upd f3 ((2 + a1)).toNatClampNeg a2)))) :
    zT E d m_Scene_setMild 0 [some (.ref a0), some (.int a1), some (.int a2)] [] h r := by
  refine zT_st (pc' := 1) (L' := [some (.ref a0), some (.int a1), some (.int a2)]) (st' := [.ref a0]) (h' := h) 1 (fun n => rfl) ?_
  obtain ⟨o1, e, hw⟩ := hw
  refine zT_st (pc' := 4) (L' := [some (.ref a0), some (.int a1), some (.int a2)]) (st' := [.ref o1]) (h' := h) 1 (fun n => fld_eq (E := E) e _) ?_
  refine zT_st (pc' := 8) (L' := [some (.ref a0), some (.int a1), some (.int a2)]) (st' := [.int a2, .int (2 + a1), .ref o1]) (h' := h) 4 (fun n => rfl) ?_
  obtain ⟨n2, f3, e, hi, hw⟩ := hw
  refine zT_st (pc' := 9) (L' := [some (.ref a0), some (.int a1), some (.int a2)]) (st' := []) (h' := (setA h o1 n2 (upd f3 ((2 + a1)).toNatClampNeg a2))) 1 (fun n => set_eq e hi _ _) ?_
  subst hw
  exact zT_ret 1 rfl
set_option maxRecDepth 4000 in
theorem s_Scene_setCell_0 (E : zX) (d : Nat) (a0 : Nat) (a1 : Int32) (a2 : Int32) (h : zH) (r : zO × zH)
    (hw : ∃ o1 : Nat, fld h a0 10 0 = some (.ref o1) ∧
    ∃ (n2 : Nat) (f3 : Nat → Int32), arr h o1 = some (n2, f3) ∧ ¬ ((60 + a1) < 0 ∨ n2 ≤ ((60 + a1)).toNatClampNeg) ∧
    r = (.inl (none), (setA h o1 n2 (upd f3 ((60 + a1)).toNatClampNeg a2)))) :
    zT E d m_Scene_setCell 0 [some (.ref a0), some (.int a1), some (.int a2)] [] h r := by
  refine zT_st (pc' := 1) (L' := [some (.ref a0), some (.int a1), some (.int a2)]) (st' := [.ref a0]) (h' := h) 1 (fun n => rfl) ?_
  obtain ⟨o1, e, hw⟩ := hw
  refine zT_st (pc' := 4) (L' := [some (.ref a0), some (.int a1), some (.int a2)]) (st' := [.ref o1]) (h' := h) 1 (fun n => fld_eq (E := E) e _) ?_
  refine zT_st (pc' := 9) (L' := [some (.ref a0), some (.int a1), some (.int a2)]) (st' := [.int a2, .int (60 + a1), .ref o1]) (h' := h) 4 (fun n => rfl) ?_
  obtain ⟨n2, f3, e, hi, hw⟩ := hw
  refine zT_st (pc' := 10) (L' := [some (.ref a0), some (.int a1), some (.int a2)]) (st' := []) (h' := (setA h o1 n2 (upd f3 ((60 + a1)).toNatClampNeg a2))) 1 (fun n => set_eq e hi _ _) ?_
  subst hw
  exact zT_ret 1 rfl
set_option maxRecDepth 4000 in
theorem s_Scene_isLoose_0 (E : zX) (d : Nat) (a0 : Nat) (a1 : Int32) (h : zH) (r : zO × zH)
    (hw : isO h a0 10 = true ∧ ∃ (x1 : Int32) (h2 : zH), zT E d m_Scene_isWhite 0 [some (.ref a0), some (.int a1)] [] h (.inl (some (.int x1)), h2) ∧
    if x1 = 0 then (
      isO h2 a0 10 = true ∧ ∃ (x3 : Int32) (h4 : zH), zT E d m_Scene_isGuarded 0 [some (.ref a0), some (.int a1)] [] h2 (.inl (some (.int x3)), h4) ∧
      if x3 = 0 then (
        r = (.inl (some (.int 1)), h4))
      else (
        r = (.inl (some (.int 0)), h4)))
    else (
      r = (.inl (some (.int 0)), h2))) :
    zT E (d + 1) m_Scene_isLoose 0 [some (.ref a0), some (.int a1)] [] h r := by
  refine zT_st (pc' := 2) (L' := [some (.ref a0), some (.int a1)]) (st' := [.int a1, .ref a0]) (h' := h) 2 (fun n => rfl) ?_
  obtain ⟨hq, hw⟩ := hw
  obtain ⟨x1, h2, hx, hw⟩ := hw
  refine zT_call (pc' := 5) (rest := []) 1 (fun n => rfl) hq hx ?_
  show zT E (d + 1) m_Scene_isLoose 5 [some (.ref a0), some (.int a1)] [.int x1] h2 r
  by_cases hc : x1 = 0
  · rw [if_pos hc] at hw
    refine zT_st (pc' := 8) (L' := [some (.ref a0), some (.int a1)]) (st' := []) (h' := h2) 1 (fun n => if_pos hc) ?_
    refine zT_st (pc' := 10) (L' := [some (.ref a0), some (.int a1)]) (st' := [.int a1, .ref a0]) (h' := h2) 2 (fun n => rfl) ?_
    obtain ⟨hq, hw⟩ := hw
    obtain ⟨x3, h4, hx, hw⟩ := hw
    refine zT_call (pc' := 13) (rest := []) 1 (fun n => rfl) hq hx ?_
    show zT E (d + 1) m_Scene_isLoose 13 [some (.ref a0), some (.int a1)] [.int x3] h4 r
    by_cases hc : x3 = 0
    · rw [if_pos hc] at hw
      refine zT_st (pc' := 16) (L' := [some (.ref a0), some (.int a1)]) (st' := []) (h' := h4) 1 (fun n => if_pos hc) ?_
      subst hw
      exact zT_ret 3 rfl
    · rw [if_neg hc] at hw
      refine zT_st (pc' := 20) (L' := [some (.ref a0), some (.int a1)]) (st' := []) (h' := h4) 1 (fun n => if_neg hc) ?_
      subst hw
      exact zT_ret 2 rfl
  · rw [if_neg hc] at hw
    refine zT_st (pc' := 20) (L' := [some (.ref a0), some (.int a1)]) (st' := []) (h' := h2) 1 (fun n => if_neg hc) ?_
    subst hw
    exact zT_ret 2 rfl
set_option maxRecDepth 4000 in
theorem s_Scene_isGuarded_0 (E : zX) (d : Nat) (a0 : Nat) (a1 : Int32) (h : zH) (r : zO × zH)
    (hw : ∃ o1 : Nat, fld h a0 10 0 = some (.ref o1) ∧
    ∃ (n2 : Nat) (f3 : Nat → Int32), arr h o1 = some (n2, f3) ∧ ¬ ((1 : Int32) < 0 ∨ n2 ≤ ((1 : Int32)).toNatClampNeg) ∧
    if ((f3 ((1 : Int32)).toNatClampNeg) &&& (1 <<< (a1 &&& 31))) = 0 then (
      r = (.inl (some (.int 0)), h))
    else (
      r = (.inl (some (.int 1)), h))) :
    zT E d m_Scene_isGuarded 0 [some (.ref a0), some (.int a1)] [] h r := by
  refine zT_st (pc' := 1) (L' := [some (.ref a0), some (.int a1)]) (st' := [.ref a0]) (h' := h) 1 (fun n => rfl) ?_
  obtain ⟨o1, e, hw⟩ := hw
  refine zT_st (pc' := 4) (L' := [some (.ref a0), some (.int a1)]) (st' := [.ref o1]) (h' := h) 1 (fun n => fld_eq (E := E) e _) ?_
  refine zT_st (pc' := 5) (L' := [some (.ref a0), some (.int a1)]) (st' := [.int 1, .ref o1]) (h' := h) 1 (fun n => rfl) ?_
  obtain ⟨n2, f3, e, hi, hw⟩ := hw
  refine zT_st (pc' := 6) (L' := [some (.ref a0), some (.int a1)]) (st' := [.int (f3 ((1 : Int32)).toNatClampNeg)]) (h' := h) 1 (fun n => arr_eq (E := E) e hi [] (fun st => zrun zP zCd E n d m_Scene_isGuarded 6 [some (.ref a0), some (.int a1)] st h)) ?_
  refine zT_st (pc' := 10) (L' := [some (.ref a0), some (.int a1)]) (st' := [.int ((f3 ((1 : Int32)).toNatClampNeg) &&& (1 <<< (a1 &&& 31)))]) (h' := h) 4 (fun n => rfl) ?_
  by_cases hc : ((f3 ((1 : Int32)).toNatClampNeg) &&& (1 <<< (a1 &&& 31))) = 0
  · rw [if_pos hc] at hw
    refine zT_st (pc' := 17) (L' := [some (.ref a0), some (.int a1)]) (st' := []) (h' := h) 1 (fun n => if_pos hc) ?_
    subst hw
    exact zT_ret 2 rfl
  · rw [if_neg hc] at hw
    refine zT_st (pc' := 13) (L' := [some (.ref a0), some (.int a1)]) (st' := []) (h' := h) 1 (fun n => if_neg hc) ?_
    subst hw
    exact zT_ret 3 rfl
set_option maxRecDepth 4000 in
theorem s_Scene_ownerOf_0 (E : zX) (d : Nat) (a0 : Nat) (a1 : Int32) (h : zH) (r : zO × zH)
    (hw : ∃ o1 : Nat, fld h a0 10 0 = some (.ref o1) ∧
    ∃ (n2 : Nat) (f3 : Nat → Int32), arr h o1 = some (n2, f3) ∧ ¬ ((50 + a1) < 0 ∨ n2 ≤ ((50 + a1)).toNatClampNeg) ∧
    r = (.inl (some (.int (f3 ((50 + a1)).toNatClampNeg))), h)) :
    zT E d m_Scene_ownerOf 0 [some (.ref a0), some (.int a1)] [] h r := by
  refine zT_st (pc' := 1) (L' := [some (.ref a0), some (.int a1)]) (st' := [.ref a0]) (h' := h) 1 (fun n => rfl) ?_
  obtain ⟨o1, e, hw⟩ := hw
  refine zT_st (pc' := 4) (L' := [some (.ref a0), some (.int a1)]) (st' := [.ref o1]) (h' := h) 1 (fun n => fld_eq (E := E) e _) ?_
  refine zT_st (pc' := 8) (L' := [some (.ref a0), some (.int a1)]) (st' := [.int (50 + a1), .ref o1]) (h' := h) 3 (fun n => rfl) ?_
  obtain ⟨n2, f3, e, hi, hw⟩ := hw
  refine zT_st (pc' := 9) (L' := [some (.ref a0), some (.int a1)]) (st' := [.int (f3 ((50 + a1)).toNatClampNeg)]) (h' := h) 1 (fun n => arr_eq (E := E) e hi [] (fun st => zrun zP zCd E n d m_Scene_ownerOf 9 [some (.ref a0), some (.int a1)] st h)) ?_
  subst hw
  exact zT_ret 1 rfl
set_option maxRecDepth 4000 in
theorem s_Scene_setGuards_0 (E : zX) (d : Nat) (a0 : Nat) (a1 : Int32) (h : zH) (r : zO × zH)
    (hw : ∃ o1 : Nat, fld h a0 10 0 = some (.ref o1) ∧
    ∃ (n2 : Nat) (f3 : Nat → Int32), arr h o1 = some (n2, f3) ∧ ¬ ((1 : Int32) < 0 ∨ n2 ≤ ((1 : Int32)).toNatClampNeg) ∧
    r = (.inl (none), (setA h o1 n2 (upd f3 ((1 : Int32)).toNatClampNeg a1)))) :
    zT E d m_Scene_setGuards 0 [some (.ref a0), some (.int a1)] [] h r := by
  refine zT_st (pc' := 1) (L' := [some (.ref a0), some (.int a1)]) (st' := [.ref a0]) (h' := h) 1 (fun n => rfl) ?_
  obtain ⟨o1, e, hw⟩ := hw
  refine zT_st (pc' := 4) (L' := [some (.ref a0), some (.int a1)]) (st' := [.ref o1]) (h' := h) 1 (fun n => fld_eq (E := E) e _) ?_
  refine zT_st (pc' := 6) (L' := [some (.ref a0), some (.int a1)]) (st' := [.int a1, .int 1, .ref o1]) (h' := h) 2 (fun n => rfl) ?_
  obtain ⟨n2, f3, e, hi, hw⟩ := hw
  refine zT_st (pc' := 7) (L' := [some (.ref a0), some (.int a1)]) (st' := []) (h' := (setA h o1 n2 (upd f3 ((1 : Int32)).toNatClampNeg a1))) 1 (fun n => set_eq e hi _ _) ?_
  subst hw
  exact zT_ret 1 rfl
