set_option maxRecDepth 4000 in
theorem w_Book_keepAct {E : zX} {d : Nat} {S : St}  {Q : St → Prop} (hd : 1 ≤ d) 
    (hw : if (S 24 1) < 40 then (
      k_Book_keepAct_36 E d S Q)
    else (
      ∀ S1, S1 = up S 24 1 39 →
      ∃ m3 : Nat, ((S1 24 1) * (70 : Int32)) = nI m3 ∧ 70 + m3 ≤ 2800 ∧ 0 + m3 ≤ 2800 ∧
      ∀ S2, S2 = setR S1 27 (va_cpy (S1 27) (S1 27) 70 0 m3) →
      k_Book_keepAct_36 E d S2 Q)) :
    k_Book_keepAct E d S Q := by
  obtain ⟨d, rfl⟩ := Nat.exists_eq_add_of_le' hd
  show wp E (d + 1) m_Book_keepAct 0 [some (.ref 24)] [] (Hp S) (QV Q)
  refine wp_st (pc' := 1) (L' := [some (.ref 24)]) (st' := [.ref 24]) (h' := Hp S) 1 (fun Z => rfl) ?_
  refine wp_st (pc' := 4) (L' := [some (.ref 24)]) (st' := [.int (S 24 1)]) (h' := Hp S) 1 (fun Z => gfI (E := E) sh24 rfl _) ?_
  refine wp_st (pc' := 6) (L' := [some (.ref 24)]) (st' := [.int 40, .int (S 24 1)]) (h' := Hp S) 1 (fun Z => rfl) ?_
  by_cases hc : (S 24 1) < 40
  · rw [if_pos hc] at hw
    refine wp_st (pc' := 36) (L' := [some (.ref 24)]) (st' := []) (h' := Hp S) 1 (fun Z => if_pos hc) ?_
    exact (show wp E (d + 1) m_Book_keepAct 36 [some (.ref 24)] [] (Hp S) (QV Q) from hw)
  · rw [if_neg hc] at hw
    refine wp_st (pc' := 9) (L' := [some (.ref 24)]) (st' := []) (h' := Hp S) 1 (fun Z => if_neg hc) ?_
    refine wp_st (pc' := 12) (L' := [some (.ref 24)]) (st' := [.int 39, .ref 24]) (h' := Hp S) 2 (fun Z => rfl) ?_
    have hw := hw _ rfl
    refine wp_st (pc' := 15) (L' := [some (.ref 24)]) (st' := []) (h' := Hp (up S 24 1 39)) 1 (fun Z => pfI sh24 rfl (Nat.le_of_ble_eq_true rfl) rfl _) ?_
    generalize up S 24 1 39 = S1 at hw ⊢
    refine wp_st (pc' := 16) (L' := [some (.ref 24)]) (st' := [.ref 24]) (h' := Hp S1) 1 (fun Z => rfl) ?_
    refine wp_st (pc' := 19) (L' := [some (.ref 24)]) (st' := [.ref 27]) (h' := Hp S1) 1 (fun Z => gfR (E := E) sh24 rfl _) ?_
    refine wp_st (pc' := 22) (L' := [some (.ref 24)]) (st' := [.ref 24, .int 70, .ref 27]) (h' := Hp S1) 2 (fun Z => rfl) ?_
    refine wp_st (pc' := 25) (L' := [some (.ref 24)]) (st' := [.ref 27, .int 70, .ref 27]) (h' := Hp S1) 1 (fun Z => gfR (E := E) sh24 rfl _) ?_
    refine wp_st (pc' := 27) (L' := [some (.ref 24)]) (st' := [.ref 24, .int 0, .ref 27, .int 70, .ref 27]) (h' := Hp S1) 2 (fun Z => rfl) ?_
    refine wp_st (pc' := 30) (L' := [some (.ref 24)]) (st' := [.int (S1 24 1), .int 0, .ref 27, .int 70, .ref 27]) (h' := Hp S1) 1 (fun Z => gfI (E := E) sh24 rfl _) ?_
    refine wp_st (pc' := 33) (L' := [some (.ref 24)]) (st' := [.int ((S1 24 1) * (70 : Int32)), .int 0, .ref 27, .int 70, .ref 27]) (h' := Hp S1) 2 (fun Z => rfl) ?_
    obtain ⟨m3, e4, hw⟩ := hw
    obtain ⟨hi1, hi2, hw⟩ := hw
    have hw := hw _ rfl
    refine wp_st (pc' := 36) (L' := [some (.ref 24)]) (st' := []) (h' := Hp (setR S1 27 (va_cpy (S1 27) (S1 27) 70 0 m3))) 1 (fun Z => (congrArg (fun v => zit E 1 Z (d + 1) m_Book_keepAct 33 [some (.ref 24)] [.int v, .int 0, .ref 27, .int 70, .ref 27] (Hp S1)) e4).trans (cpN (m := m3) (dp := 0) (sp := 70) sh27 sh27 (by decide) (by decide) hi1 hi2 _ _)) ?_
    generalize setR S1 27 (va_cpy (S1 27) (S1 27) 70 0 m3) = S2 at hw ⊢
    exact (show wp E (d + 1) m_Book_keepAct 36 [some (.ref 24)] [] (Hp S2) (QV Q) from hw)
set_option maxRecDepth 4000 in
theorem w_Book_keepAct_36 {E : zX} {d : Nat} {S : St}  {Q : St → Prop} (hd : 1 ≤ d) 
    (hw : ∃ m2 : Nat, ((S 24 1) * (70 : Int32)) = nI m2 ∧ 0 + 70 ≤ 70 ∧ m2 + 70 ≤ 2800 ∧
    ∀ S1, S1 = setR S 27 (va_cpy (S 26) (S 27) 0 m2 70) →
    ∀ S4, S4 = up S1 24 1 ((S1 24 1) + (1 : Int32)) →
    Q S4) :
    k_Book_keepAct_36 E d S Q := by
  obtain ⟨d, rfl⟩ := Nat.exists_eq_add_of_le' hd
  show wp E (d + 1) m_Book_keepAct 36 [some (.ref 24)] [] (Hp S) (QV Q)
  refine wp_st (pc' := 37) (L' := [some (.ref 24)]) (st' := [.ref 24]) (h' := Hp S) 1 (fun Z => rfl) ?_
  refine wp_st (pc' := 40) (L' := [some (.ref 24)]) (st' := [.ref 25]) (h' := Hp S) 1 (fun Z => gfR (E := E) sh24 rfl _) ?_
  refine wp_st (pc' := 43) (L' := [some (.ref 24)]) (st' := [.ref 26]) (h' := Hp S) 1 (fun Z => gfR (E := E) sh25 rfl _) ?_
  refine wp_st (pc' := 45) (L' := [some (.ref 24)]) (st' := [.ref 24, .int 0, .ref 26]) (h' := Hp S) 2 (fun Z => rfl) ?_
  refine wp_st (pc' := 48) (L' := [some (.ref 24)]) (st' := [.ref 27, .int 0, .ref 26]) (h' := Hp S) 1 (fun Z => gfR (E := E) sh24 rfl _) ?_
  refine wp_st (pc' := 49) (L' := [some (.ref 24)]) (st' := [.ref 24, .ref 27, .int 0, .ref 26]) (h' := Hp S) 1 (fun Z => rfl) ?_
  refine wp_st (pc' := 52) (L' := [some (.ref 24)]) (st' := [.int (S 24 1), .ref 27, .int 0, .ref 26]) (h' := Hp S) 1 (fun Z => gfI (E := E) sh24 rfl _) ?_
  refine wp_st (pc' := 57) (L' := [some (.ref 24)]) (st' := [.int 70, .int ((S 24 1) * (70 : Int32)), .ref 27, .int 0, .ref 26]) (h' := Hp S) 3 (fun Z => rfl) ?_
  obtain ⟨m2, e3, hw⟩ := hw
  obtain ⟨hi1, hi2, hw⟩ := hw
  have hw := hw _ rfl
  refine wp_st (pc' := 60) (L' := [some (.ref 24)]) (st' := []) (h' := Hp (setR S 27 (va_cpy (S 26) (S 27) 0 m2 70))) 1 (fun Z => (congrArg (fun v => zit E 1 Z (d + 1) m_Book_keepAct 57 [some (.ref 24)] [.int 70, .int v, .ref 27, .int 0, .ref 26] (Hp S)) e3).trans (cpN (m := 70) (dp := m2) (sp := 0) sh26 sh27 (by decide) (by decide) hi1 hi2 _ _)) ?_
  generalize setR S 27 (va_cpy (S 26) (S 27) 0 m2 70) = S1 at hw ⊢
  refine wp_st (pc' := 62) (L' := [some (.ref 24)]) (st' := [.ref 24, .ref 24]) (h' := Hp S1) 2 (fun Z => rfl) ?_
  refine wp_st (pc' := 65) (L' := [some (.ref 24)]) (st' := [.int (S1 24 1), .ref 24]) (h' := Hp S1) 1 (fun Z => gfI (E := E) sh24 rfl _) ?_
  refine wp_st (pc' := 67) (L' := [some (.ref 24)]) (st' := [.int ((S1 24 1) + (1 : Int32)), .ref 24]) (h' := Hp S1) 2 (fun Z => rfl) ?_
  have hw := hw _ rfl
  refine wp_st (pc' := 70) (L' := [some (.ref 24)]) (st' := []) (h' := Hp (up S1 24 1 ((S1 24 1) + (1 : Int32)))) 1 (fun Z => pfI sh24 rfl (Nat.le_of_ble_eq_true rfl) rfl _) ?_
  generalize up S1 24 1 ((S1 24 1) + (1 : Int32)) = S4 at hw ⊢
  exact wp_ret (fun Z => rfl) ⟨_, rfl, rfl, hw⟩
set_option maxRecDepth 4000 in
theorem w_Book_takeBackAct {E : zX} {d : Nat} {S : St}  {Q : St → Prop} (hd : 1 ≤ d) 
    (hw : if (S 24 1) ≤ 0 then (
      Q S)
    else (
      ∀ S1, S1 = up S 24 1 ((S 24 1) - (1 : Int32)) →
      ∃ m3 : Nat, ((S1 24 1) * (70 : Int32)) = nI m3 ∧ m3 + 70 ≤ 2800 ∧ 0 + 70 ≤ 70 ∧
      ∀ S2, S2 = setR S1 26 (va_cpy (S1 27) (S1 26) m3 0 70) →
      Q S2)) :
    k_Book_takeBackAct E d S Q := by
  obtain ⟨d, rfl⟩ := Nat.exists_eq_add_of_le' hd
  show wp E (d + 1) m_Book_takeBackAct 0 [some (.ref 24)] [] (Hp S) (QV Q)
  refine wp_st (pc' := 1) (L' := [some (.ref 24)]) (st' := [.ref 24]) (h' := Hp S) 1 (fun Z => rfl) ?_
  refine wp_st (pc' := 4) (L' := [some (.ref 24)]) (st' := [.int (S 24 1)]) (h' := Hp S) 1 (fun Z => gfI (E := E) sh24 rfl _) ?_
  by_cases hc : (S 24 1) ≤ 0
  · rw [if_pos hc] at hw
    refine wp_st (pc' := 41) (L' := [some (.ref 24)]) (st' := []) (h' := Hp S) 1 (fun Z => if_pos hc) ?_
    exact wp_ret (fun Z => rfl) ⟨_, rfl, rfl, hw⟩
  · rw [if_neg hc] at hw
    refine wp_st (pc' := 7) (L' := [some (.ref 24)]) (st' := []) (h' := Hp S) 1 (fun Z => if_neg hc) ?_
    refine wp_st (pc' := 9) (L' := [some (.ref 24)]) (st' := [.ref 24, .ref 24]) (h' := Hp S) 2 (fun Z => rfl) ?_
    refine wp_st (pc' := 12) (L' := [some (.ref 24)]) (st' := [.int (S 24 1), .ref 24]) (h' := Hp S) 1 (fun Z => gfI (E := E) sh24 rfl _) ?_
    refine wp_st (pc' := 14) (L' := [some (.ref 24)]) (st' := [.int ((S 24 1) - (1 : Int32)), .ref 24]) (h' := Hp S) 2 (fun Z => rfl) ?_
    have hw := hw _ rfl
    refine wp_st (pc' := 17) (L' := [some (.ref 24)]) (st' := []) (h' := Hp (up S 24 1 ((S 24 1) - (1 : Int32)))) 1 (fun Z => pfI sh24 rfl (Nat.le_of_ble_eq_true rfl) rfl _) ?_
    generalize up S 24 1 ((S 24 1) - (1 : Int32)) = S1 at hw ⊢
    refine wp_st (pc' := 18) (L' := [some (.ref 24)]) (st' := [.ref 24]) (h' := Hp S1) 1 (fun Z => rfl) ?_
    refine wp_st (pc' := 21) (L' := [some (.ref 24)]) (st' := [.ref 27]) (h' := Hp S1) 1 (fun Z => gfR (E := E) sh24 rfl _) ?_
    refine wp_st (pc' := 22) (L' := [some (.ref 24)]) (st' := [.ref 24, .ref 27]) (h' := Hp S1) 1 (fun Z => rfl) ?_
    refine wp_st (pc' := 25) (L' := [some (.ref 24)]) (st' := [.int (S1 24 1), .ref 27]) (h' := Hp S1) 1 (fun Z => gfI (E := E) sh24 rfl _) ?_
    refine wp_st (pc' := 29) (L' := [some (.ref 24)]) (st' := [.ref 24, .int ((S1 24 1) * (70 : Int32)), .ref 27]) (h' := Hp S1) 3 (fun Z => rfl) ?_
    refine wp_st (pc' := 32) (L' := [some (.ref 24)]) (st' := [.ref 25, .int ((S1 24 1) * (70 : Int32)), .ref 27]) (h' := Hp S1) 1 (fun Z => gfR (E := E) sh24 rfl _) ?_
    refine wp_st (pc' := 35) (L' := [some (.ref 24)]) (st' := [.ref 26, .int ((S1 24 1) * (70 : Int32)), .ref 27]) (h' := Hp S1) 1 (fun Z => gfR (E := E) sh25 rfl _) ?_
    refine wp_st (pc' := 38) (L' := [some (.ref 24)]) (st' := [.int 70, .int 0, .ref 26, .int ((S1 24 1) * (70 : Int32)), .ref 27]) (h' := Hp S1) 2 (fun Z => rfl) ?_
    obtain ⟨m3, e4, hw⟩ := hw
    obtain ⟨hi1, hi2, hw⟩ := hw
    have hw := hw _ rfl
    refine wp_st (pc' := 41) (L' := [some (.ref 24)]) (st' := []) (h' := Hp (setR S1 26 (va_cpy (S1 27) (S1 26) m3 0 70))) 1 (fun Z => (congrArg (fun v => zit E 1 Z (d + 1) m_Book_takeBackAct 38 [some (.ref 24)] [.int 70, .int 0, .ref 26, .int v, .ref 27] (Hp S1)) e4).trans (cpN (m := 70) (dp := 0) (sp := m3) sh27 sh26 (by decide) (by decide) hi1 hi2 _ _)) ?_
    generalize setR S1 26 (va_cpy (S1 27) (S1 26) m3 0 70) = S2 at hw ⊢
    exact wp_ret (fun Z => rfl) ⟨_, rfl, rfl, hw⟩
set_option maxRecDepth 4000 in
theorem w_Book_copyFrom {E : zX} {d : Nat} {S : St} {a0 : Nat} {a1 : Nat} {Q : St → Prop} (hd : 1 ≤ d) (ha0 : Bo a0) (ha1 : Bo a1)
    (hw : k_Scene_copyFrom E (d - 1) S (a0 + 1) (a1 + 1) (fun S2 =>
    ∀ S3, S3 = up S2 a0 1 (S2 a1 1) →
    ∃ m5 : Nat, ((S3 a0 1) * (70 : Int32)) = nI m5 ∧ 0 + m5 ≤ 2800 ∧ 0 + m5 ≤ 2800 ∧
    ∀ S4, S4 = setR S3 (a0 + 3) (va_cpy (S3 (a1 + 3)) (S3 (a0 + 3)) 0 0 m5) →
    ∀ S7, S7 = up S4 a0 3 (S4 a1 3) →
    ∀ S8, S8 = setR S7 (a0 + 4) (va_cpy (S7 (a1 + 4)) (S7 (a0 + 4)) 0 0 8) →
    ∀ S9, S9 = setR S8 (a0 + 5) (va_cpy (S8 (a1 + 5)) (S8 (a0 + 5)) 0 0 8) →
    ∀ S10, S10 = setR S9 (a0 + 6) (va_cpy (S9 (a1 + 6)) (S9 (a0 + 6)) 0 0 8) →
    Q S10)) :
    k_Book_copyFrom E d S a0 a1 Q := by
  obtain ⟨d, rfl⟩ := Nat.exists_eq_add_of_le' hd
  show wp E (d + 1) m_Book_copyFrom 0 [some (.ref a0), some (.ref a1)] [] (Hp S) (QV Q)
  refine wp_st (pc' := 1) (L' := [some (.ref a0), some (.ref a1)]) (st' := [.ref a0]) (h' := Hp S) 1 (fun Z => rfl) ?_
  refine wp_st (pc' := 4) (L' := [some (.ref a0), some (.ref a1)]) (st' := [.ref (a0 + 1)]) (h' := Hp S) 1 (fun Z => gfR (E := E) (ha0).1 rfl _) ?_
  refine wp_st (pc' := 5) (L' := [some (.ref a0), some (.ref a1)]) (st' := [.ref a1, .ref (a0 + 1)]) (h' := Hp S) 1 (fun Z => rfl) ?_
  refine wp_st (pc' := 8) (L' := [some (.ref a0), some (.ref a1)]) (st' := [.ref (a1 + 1), .ref (a0 + 1)]) (h' := Hp S) 1 (fun Z => gfR (E := E) (ha1).1 rfl _) ?_
  refine wp_call (pc' := 11) (rest := []) (fun Z => rfl) (isO_of ((ha0).2.1).1) hw ?_
  rintro o h1 ⟨S2, rfl, rfl, hw⟩
  refine ⟨_, rfl, ?_⟩
  show wp E (d + 1) m_Book_copyFrom 11 [some (.ref a0), some (.ref a1)] [] (Hp S2) (QV Q)
  refine wp_st (pc' := 13) (L' := [some (.ref a0), some (.ref a1)]) (st' := [.ref a1, .ref a0]) (h' := Hp S2) 2 (fun Z => rfl) ?_
  refine wp_st (pc' := 16) (L' := [some (.ref a0), some (.ref a1)]) (st' := [.int (S2 a1 1), .ref a0]) (h' := Hp S2) 1 (fun Z => gfI (E := E) (ha1).1 rfl _) ?_
  have hw := hw _ rfl
  refine wp_st (pc' := 19) (L' := [some (.ref a0), some (.ref a1)]) (st' := []) (h' := Hp (up S2 a0 1 (S2 a1 1))) 1 (fun Z => pfI (ha0).1 rfl (Nat.le_of_ble_eq_true rfl) rfl _) ?_
  generalize up S2 a0 1 (S2 a1 1) = S3 at hw ⊢
  refine wp_st (pc' := 20) (L' := [some (.ref a0), some (.ref a1)]) (st' := [.ref a1]) (h' := Hp S3) 1 (fun Z => rfl) ?_
  refine wp_st (pc' := 23) (L' := [some (.ref a0), some (.ref a1)]) (st' := [.ref (a1 + 3)]) (h' := Hp S3) 1 (fun Z => gfR (E := E) (ha1).1 rfl _) ?_
  refine wp_st (pc' := 25) (L' := [some (.ref a0), some (.ref a1)]) (st' := [.ref a0, .int 0, .ref (a1 + 3)]) (h' := Hp S3) 2 (fun Z => rfl) ?_
  refine wp_st (pc' := 28) (L' := [some (.ref a0), some (.ref a1)]) (st' := [.ref (a0 + 3), .int 0, .ref (a1 + 3)]) (h' := Hp S3) 1 (fun Z => gfR (E := E) (ha0).1 rfl _) ?_
  refine wp_st (pc' := 30) (L' := [some (.ref a0), some (.ref a1)]) (st' := [.ref a0, .int 0, .ref (a0 + 3), .int 0, .ref (a1 + 3)]) (h' := Hp S3) 2 (fun Z => rfl) ?_
  refine wp_st (pc' := 33) (L' := [some (.ref a0), some (.ref a1)]) (st' := [.int (S3 a0 1), .int 0, .ref (a0 + 3), .int 0, .ref (a1 + 3)]) (h' := Hp S3) 1 (fun Z => gfI (E := E) (ha0).1 rfl _) ?_
  refine wp_st (pc' := 36) (L' := [some (.ref a0), some (.ref a1)]) (st' := [.int ((S3 a0 1) * (70 : Int32)), .int 0, .ref (a0 + 3), .int 0, .ref (a1 + 3)]) (h' := Hp S3) 2 (fun Z => rfl) ?_
  obtain ⟨m5, e6, hw⟩ := hw
  obtain ⟨hi1, hi2, hw⟩ := hw
  have hw := hw _ rfl
  refine wp_st (pc' := 39) (L' := [some (.ref a0), some (.ref a1)]) (st' := []) (h' := Hp (setR S3 (a0 + 3) (va_cpy (S3 (a1 + 3)) (S3 (a0 + 3)) 0 0 m5))) 1 (fun Z => (congrArg (fun v => zit E 1 Z (d + 1) m_Book_copyFrom 36 [some (.ref a0), some (.ref a1)] [.int v, .int 0, .ref (a0 + 3), .int 0, .ref (a1 + 3)] (Hp S3)) e6).trans (cpN (m := m5) (dp := 0) (sp := 0) (ha1).2.2.1 (ha0).2.2.1 (by decide) (by decide) hi1 hi2 _ _)) ?_
  generalize setR S3 (a0 + 3) (va_cpy (S3 (a1 + 3)) (S3 (a0 + 3)) 0 0 m5) = S4 at hw ⊢
  refine wp_st (pc' := 41) (L' := [some (.ref a0), some (.ref a1)]) (st' := [.ref a1, .ref a0]) (h' := Hp S4) 2 (fun Z => rfl) ?_
  refine wp_st (pc' := 44) (L' := [some (.ref a0), some (.ref a1)]) (st' := [.int (S4 a1 3), .ref a0]) (h' := Hp S4) 1 (fun Z => gfI (E := E) (ha1).1 rfl _) ?_
  have hw := hw _ rfl
  refine wp_st (pc' := 47) (L' := [some (.ref a0), some (.ref a1)]) (st' := []) (h' := Hp (up S4 a0 3 (S4 a1 3))) 1 (fun Z => pfI (ha0).1 rfl (Nat.le_of_ble_eq_true rfl) rfl _) ?_
  generalize up S4 a0 3 (S4 a1 3) = S7 at hw ⊢
  refine wp_st (pc' := 48) (L' := [some (.ref a0), some (.ref a1)]) (st' := [.ref a1]) (h' := Hp S7) 1 (fun Z => rfl) ?_
  refine wp_st (pc' := 51) (L' := [some (.ref a0), some (.ref a1)]) (st' := [.ref (a1 + 4)]) (h' := Hp S7) 1 (fun Z => gfR (E := E) (ha1).1 rfl _) ?_
  refine wp_st (pc' := 53) (L' := [some (.ref a0), some (.ref a1)]) (st' := [.ref a0, .int 0, .ref (a1 + 4)]) (h' := Hp S7) 2 (fun Z => rfl) ?_
  refine wp_st (pc' := 56) (L' := [some (.ref a0), some (.ref a1)]) (st' := [.ref (a0 + 4), .int 0, .ref (a1 + 4)]) (h' := Hp S7) 1 (fun Z => gfR (E := E) (ha0).1 rfl _) ?_
  refine wp_st (pc' := 59) (L' := [some (.ref a0), some (.ref a1)]) (st' := [.int 8, .int 0, .ref (a0 + 4), .int 0, .ref (a1 + 4)]) (h' := Hp S7) 2 (fun Z => rfl) ?_
  have hw := hw _ rfl
  refine wp_st (pc' := 62) (L' := [some (.ref a0), some (.ref a1)]) (st' := []) (h' := Hp (setR S7 (a0 + 4) (va_cpy (S7 (a1 + 4)) (S7 (a0 + 4)) 0 0 8))) 1 (fun Z => cpN (m := 8) (dp := 0) (sp := 0) (ha1).2.2.2.1 (ha0).2.2.2.1 (by decide) (by decide) (by decide) (by decide) _ _) ?_
  generalize setR S7 (a0 + 4) (va_cpy (S7 (a1 + 4)) (S7 (a0 + 4)) 0 0 8) = S8 at hw ⊢
  refine wp_st (pc' := 63) (L' := [some (.ref a0), some (.ref a1)]) (st' := [.ref a1]) (h' := Hp S8) 1 (fun Z => rfl) ?_
  refine wp_st (pc' := 66) (L' := [some (.ref a0), some (.ref a1)]) (st' := [.ref (a1 + 5)]) (h' := Hp S8) 1 (fun Z => gfR (E := E) (ha1).1 rfl _) ?_
  refine wp_st (pc' := 68) (L' := [some (.ref a0), some (.ref a1)]) (st' := [.ref a0, .int 0, .ref (a1 + 5)]) (h' := Hp S8) 2 (fun Z => rfl) ?_
  refine wp_st (pc' := 71) (L' := [some (.ref a0), some (.ref a1)]) (st' := [.ref (a0 + 5), .int 0, .ref (a1 + 5)]) (h' := Hp S8) 1 (fun Z => gfR (E := E) (ha0).1 rfl _) ?_
  refine wp_st (pc' := 74) (L' := [some (.ref a0), some (.ref a1)]) (st' := [.int 8, .int 0, .ref (a0 + 5), .int 0, .ref (a1 + 5)]) (h' := Hp S8) 2 (fun Z => rfl) ?_
  have hw := hw _ rfl
  refine wp_st (pc' := 77) (L' := [some (.ref a0), some (.ref a1)]) (st' := []) (h' := Hp (setR S8 (a0 + 5) (va_cpy (S8 (a1 + 5)) (S8 (a0 + 5)) 0 0 8))) 1 (fun Z => cpN (m := 8) (dp := 0) (sp := 0) (ha1).2.2.2.2.1 (ha0).2.2.2.2.1 (by decide) (by decide) (by decide) (by decide) _ _) ?_
  generalize setR S8 (a0 + 5) (va_cpy (S8 (a1 + 5)) (S8 (a0 + 5)) 0 0 8) = S9 at hw ⊢
  refine wp_st (pc' := 78) (L' := [some (.ref a0), some (.ref a1)]) (st' := [.ref a1]) (h' := Hp S9) 1 (fun Z => rfl) ?_
  refine wp_st (pc' := 81) (L' := [some (.ref a0), some (.ref a1)]) (st' := [.ref (a1 + 6)]) (h' := Hp S9) 1 (fun Z => gfR (E := E) (ha1).1 rfl _) ?_
  refine wp_st (pc' := 83) (L' := [some (.ref a0), some (.ref a1)]) (st' := [.ref a0, .int 0, .ref (a1 + 6)]) (h' := Hp S9) 2 (fun Z => rfl) ?_
  refine wp_st (pc' := 86) (L' := [some (.ref a0), some (.ref a1)]) (st' := [.ref (a0 + 6), .int 0, .ref (a1 + 6)]) (h' := Hp S9) 1 (fun Z => gfR (E := E) (ha0).1 rfl _) ?_
  refine wp_st (pc' := 89) (L' := [some (.ref a0), some (.ref a1)]) (st' := [.int 8, .int 0, .ref (a0 + 6), .int 0, .ref (a1 + 6)]) (h' := Hp S9) 2 (fun Z => rfl) ?_
  have hw := hw _ rfl
  refine wp_st (pc' := 92) (L' := [some (.ref a0), some (.ref a1)]) (st' := []) (h' := Hp (setR S9 (a0 + 6) (va_cpy (S9 (a1 + 6)) (S9 (a0 + 6)) 0 0 8))) 1 (fun Z => cpN (m := 8) (dp := 0) (sp := 0) (ha1).2.2.2.2.2 (ha0).2.2.2.2.2 (by decide) (by decide) (by decide) (by decide) _ _) ?_
  generalize setR S9 (a0 + 6) (va_cpy (S9 (a1 + 6)) (S9 (a0 + 6)) 0 0 8) = S10 at hw ⊢
  exact wp_ret (fun Z => rfl) ⟨_, rfl, rfl, hw⟩
set_option maxRecDepth 4000 in
theorem w_Book_begin {E : zX} {d : Nat} {S : St}  {Q : St → Prop} (hd : 1 ≤ d) 
    (hw : k_Scene_copyFrom E (d - 1) S 25 22 (fun S2 =>
    ∀ S3, S3 = up S2 24 1 0 →
    ∀ S4, S4 = up S3 24 3 0 →
    Q S4)) :
    k_Book_begin E d S Q := by
  obtain ⟨d, rfl⟩ := Nat.exists_eq_add_of_le' hd
  show wp E (d + 1) m_Book_begin 0 [some (.ref 24), some (.ref 22)] [] (Hp S) (QV Q)
  refine wp_st (pc' := 1) (L' := [some (.ref 24), some (.ref 22)]) (st' := [.ref 24]) (h' := Hp S) 1 (fun Z => rfl) ?_
  refine wp_st (pc' := 4) (L' := [some (.ref 24), some (.ref 22)]) (st' := [.ref 25]) (h' := Hp S) 1 (fun Z => gfR (E := E) sh24 rfl _) ?_
  refine wp_st (pc' := 5) (L' := [some (.ref 24), some (.ref 22)]) (st' := [.ref 22, .ref 25]) (h' := Hp S) 1 (fun Z => rfl) ?_
  refine wp_call (pc' := 8) (rest := []) (fun Z => rfl) (isO_of sh25) hw ?_
  rintro o h1 ⟨S2, rfl, rfl, hw⟩
  refine ⟨_, rfl, ?_⟩
  show wp E (d + 1) m_Book_begin 8 [some (.ref 24), some (.ref 22)] [] (Hp S2) (QV Q)
  refine wp_st (pc' := 10) (L' := [some (.ref 24), some (.ref 22)]) (st' := [.int 0, .ref 24]) (h' := Hp S2) 2 (fun Z => rfl) ?_
  have hw := hw _ rfl
  refine wp_st (pc' := 13) (L' := [some (.ref 24), some (.ref 22)]) (st' := []) (h' := Hp (up S2 24 1 0)) 1 (fun Z => pfI sh24 rfl (Nat.le_of_ble_eq_true rfl) rfl _) ?_
  generalize up S2 24 1 0 = S3 at hw ⊢
  refine wp_st (pc' := 15) (L' := [some (.ref 24), some (.ref 22)]) (st' := [.int 0, .ref 24]) (h' := Hp S3) 2 (fun Z => rfl) ?_
  have hw := hw _ rfl
  refine wp_st (pc' := 18) (L' := [some (.ref 24), some (.ref 22)]) (st' := []) (h' := Hp (up S3 24 3 0)) 1 (fun Z => pfI sh24 rfl (Nat.le_of_ble_eq_true rfl) rfl _) ?_
  generalize up S3 24 3 0 = S4 at hw ⊢
  exact wp_ret (fun Z => rfl) ⟨_, rfl, rfl, hw⟩
set_option maxRecDepth 4000 in
theorem w_Book_addSight {E : zX} {d : Nat} {S : St} {a1 : Int32} {a2 : Int32} {a3 : Int32} {Q : St → Prop} 
    (hw : if 8 ≤ (S 24 3) then (
      Q S)
    else (
      ∃ m2 : Nat, (S 24 3) = nI m2 ∧ m2 < 8 ∧
      ∀ S1, S1 = up S 28 m2 a1 →
      ∃ m4 : Nat, (S1 24 3) = nI m4 ∧ m4 < 8 ∧
      ∀ S3, S3 = up S1 29 m4 a2 →
      if a3 = 0 then (
        ∃ m6 : Nat, (S3 24 3) = nI m6 ∧ m6 < 8 ∧
        ∀ S5, S5 = up S3 30 m6 0 →
        ∀ S7, S7 = up S5 24 3 ((S5 24 3) + (1 : Int32)) →
        Q S7)
      else (
        ∃ m9 : Nat, (S3 24 3) = nI m9 ∧ m9 < 8 ∧
        ∀ S8, S8 = up S3 30 m9 1 →
        ∀ S10, S10 = up S8 24 3 ((S8 24 3) + (1 : Int32)) →
        Q S10))) :
    k_Book_addSight E d S a1 a2 a3 Q := by
  show wp E d m_Book_addSight 0 [some (.ref 24), some (.int a1), some (.int a2), some (.int a3)] [] (Hp S) (QV Q)
  refine wp_st (pc' := 1) (L' := [some (.ref 24), some (.int a1), some (.int a2), some (.int a3)]) (st' := [.ref 24]) (h' := Hp S) 1 (fun Z => rfl) ?_
  refine wp_st (pc' := 4) (L' := [some (.ref 24), some (.int a1), some (.int a2), some (.int a3)]) (st' := [.int (S 24 3)]) (h' := Hp S) 1 (fun Z => gfI (E := E) sh24 rfl _) ?_
  refine wp_st (pc' := 6) (L' := [some (.ref 24), some (.int a1), some (.int a2), some (.int a3)]) (st' := [.int 8, .int (S 24 3)]) (h' := Hp S) 1 (fun Z => rfl) ?_
  by_cases hc : 8 ≤ (S 24 3)
  · rw [if_pos hc] at hw
    refine wp_st (pc' := 57) (L' := [some (.ref 24), some (.int a1), some (.int a2), some (.int a3)]) (st' := []) (h' := Hp S) 1 (fun Z => if_pos hc) ?_
    exact wp_ret (fun Z => rfl) ⟨_, rfl, rfl, hw⟩
  · rw [if_neg hc] at hw
    refine wp_st (pc' := 9) (L' := [some (.ref 24), some (.int a1), some (.int a2), some (.int a3)]) (st' := []) (h' := Hp S) 1 (fun Z => if_neg hc) ?_
    refine wp_st (pc' := 10) (L' := [some (.ref 24), some (.int a1), some (.int a2), some (.int a3)]) (st' := [.ref 24]) (h' := Hp S) 1 (fun Z => rfl) ?_
    refine wp_st (pc' := 13) (L' := [some (.ref 24), some (.int a1), some (.int a2), some (.int a3)]) (st' := [.ref 28]) (h' := Hp S) 1 (fun Z => gfR (E := E) sh24 rfl _) ?_
    refine wp_st (pc' := 14) (L' := [some (.ref 24), some (.int a1), some (.int a2), some (.int a3)]) (st' := [.ref 24, .ref 28]) (h' := Hp S) 1 (fun Z => rfl) ?_
    refine wp_st (pc' := 17) (L' := [some (.ref 24), some (.int a1), some (.int a2), some (.int a3)]) (st' := [.int (S 24 3), .ref 28]) (h' := Hp S) 1 (fun Z => gfI (E := E) sh24 rfl _) ?_
    refine wp_st (pc' := 18) (L' := [some (.ref 24), some (.int a1), some (.int a2), some (.int a3)]) (st' := [.int a1, .int (S 24 3), .ref 28]) (h' := Hp S) 1 (fun Z => rfl) ?_
    obtain ⟨m2, em, hi, hw⟩ := hw
    have hw := hw _ rfl
    refine wp_st (pc' := 19) (L' := [some (.ref 24), some (.int a1), some (.int a2), some (.int a3)]) (st' := []) (h' := Hp (up S 28 m2 a1)) 1 (fun Z => (congrArg (fun v => zit E 1 Z d m_Book_addSight 18 [some (.ref 24), some (.int a1), some (.int a2), some (.int a3)] [.int a1, .int v, .ref 28] (Hp S)) em).trans (stN sh28 (by decide) hi _ _)) ?_
    generalize up S 28 m2 a1 = S1 at hw ⊢
    refine wp_st (pc' := 20) (L' := [some (.ref 24), some (.int a1), some (.int a2), some (.int a3)]) (st' := [.ref 24]) (h' := Hp S1) 1 (fun Z => rfl) ?_
    refine wp_st (pc' := 23) (L' := [some (.ref 24), some (.int a1), some (.int a2), some (.int a3)]) (st' := [.ref 29]) (h' := Hp S1) 1 (fun Z => gfR (E := E) sh24 rfl _) ?_
    refine wp_st (pc' := 24) (L' := [some (.ref 24), some (.int a1), some (.int a2), some (.int a3)]) (st' := [.ref 24, .ref 29]) (h' := Hp S1) 1 (fun Z => rfl) ?_
    refine wp_st (pc' := 27) (L' := [some (.ref 24), some (.int a1), some (.int a2), some (.int a3)]) (st' := [.int (S1 24 3), .ref 29]) (h' := Hp S1) 1 (fun Z => gfI (E := E) sh24 rfl _) ?_
    refine wp_st (pc' := 28) (L' := [some (.ref 24), some (.int a1), some (.int a2), some (.int a3)]) (st' := [.int a2, .int (S1 24 3), .ref 29]) (h' := Hp S1) 1 (fun Z => rfl) ?_
    obtain ⟨m4, em, hi, hw⟩ := hw
    have hw := hw _ rfl
    refine wp_st (pc' := 29) (L' := [some (.ref 24), some (.int a1), some (.int a2), some (.int a3)]) (st' := []) (h' := Hp (up S1 29 m4 a2)) 1 (fun Z => (congrArg (fun v => zit E 1 Z d m_Book_addSight 28 [some (.ref 24), some (.int a1), some (.int a2), some (.int a3)] [.int a2, .int v, .ref 29] (Hp S1)) em).trans (stN sh29 (by decide) hi _ _)) ?_
    generalize up S1 29 m4 a2 = S3 at hw ⊢
    refine wp_st (pc' := 30) (L' := [some (.ref 24), some (.int a1), some (.int a2), some (.int a3)]) (st' := [.ref 24]) (h' := Hp S3) 1 (fun Z => rfl) ?_
    refine wp_st (pc' := 33) (L' := [some (.ref 24), some (.int a1), some (.int a2), some (.int a3)]) (st' := [.ref 30]) (h' := Hp S3) 1 (fun Z => gfR (E := E) sh24 rfl _) ?_
    refine wp_st (pc' := 34) (L' := [some (.ref 24), some (.int a1), some (.int a2), some (.int a3)]) (st' := [.ref 24, .ref 30]) (h' := Hp S3) 1 (fun Z => rfl) ?_
    refine wp_st (pc' := 37) (L' := [some (.ref 24), some (.int a1), some (.int a2), some (.int a3)]) (st' := [.int (S3 24 3), .ref 30]) (h' := Hp S3) 1 (fun Z => gfI (E := E) sh24 rfl _) ?_
    refine wp_st (pc' := 38) (L' := [some (.ref 24), some (.int a1), some (.int a2), some (.int a3)]) (st' := [.int a3, .int (S3 24 3), .ref 30]) (h' := Hp S3) 1 (fun Z => rfl) ?_
    by_cases hc : a3 = 0
    · rw [if_pos hc] at hw
      refine wp_st (pc' := 45) (L' := [some (.ref 24), some (.int a1), some (.int a2), some (.int a3)]) (st' := [.int (S3 24 3), .ref 30]) (h' := Hp S3) 1 (fun Z => if_pos hc) ?_
      refine wp_st (pc' := 46) (L' := [some (.ref 24), some (.int a1), some (.int a2), some (.int a3)]) (st' := [.int 0, .int (S3 24 3), .ref 30]) (h' := Hp S3) 1 (fun Z => rfl) ?_
      obtain ⟨m6, em, hi, hw⟩ := hw
      have hw := hw _ rfl
      refine wp_st (pc' := 47) (L' := [some (.ref 24), some (.int a1), some (.int a2), some (.int a3)]) (st' := []) (h' := Hp (up S3 30 m6 0)) 1 (fun Z => (congrArg (fun v => zit E 1 Z d m_Book_addSight 46 [some (.ref 24), some (.int a1), some (.int a2), some (.int a3)] [.int 0, .int v, .ref 30] (Hp S3)) em).trans (stN sh30 (by decide) hi _ _)) ?_
      generalize up S3 30 m6 0 = S5 at hw ⊢
      refine wp_st (pc' := 49) (L' := [some (.ref 24), some (.int a1), some (.int a2), some (.int a3)]) (st' := [.ref 24, .ref 24]) (h' := Hp S5) 2 (fun Z => rfl) ?_
      refine wp_st (pc' := 52) (L' := [some (.ref 24), some (.int a1), some (.int a2), some (.int a3)]) (st' := [.int (S5 24 3), .ref 24]) (h' := Hp S5) 1 (fun Z => gfI (E := E) sh24 rfl _) ?_
      refine wp_st (pc' := 54) (L' := [some (.ref 24), some (.int a1), some (.int a2), some (.int a3)]) (st' := [.int ((S5 24 3) + (1 : Int32)), .ref 24]) (h' := Hp S5) 2 (fun Z => rfl) ?_
      have hw := hw _ rfl
      refine wp_st (pc' := 57) (L' := [some (.ref 24), some (.int a1), some (.int a2), some (.int a3)]) (st' := []) (h' := Hp (up S5 24 3 ((S5 24 3) + (1 : Int32)))) 1 (fun Z => pfI sh24 rfl (Nat.le_of_ble_eq_true rfl) rfl _) ?_
      generalize up S5 24 3 ((S5 24 3) + (1 : Int32)) = S7 at hw ⊢
      exact wp_ret (fun Z => rfl) ⟨_, rfl, rfl, hw⟩
    · rw [if_neg hc] at hw
      refine wp_st (pc' := 41) (L' := [some (.ref 24), some (.int a1), some (.int a2), some (.int a3)]) (st' := [.int (S3 24 3), .ref 30]) (h' := Hp S3) 1 (fun Z => if_neg hc) ?_
      refine wp_st (pc' := 46) (L' := [some (.ref 24), some (.int a1), some (.int a2), some (.int a3)]) (st' := [.int 1, .int (S3 24 3), .ref 30]) (h' := Hp S3) 2 (fun Z => rfl) ?_
      obtain ⟨m9, em, hi, hw⟩ := hw
      have hw := hw _ rfl
      refine wp_st (pc' := 47) (L' := [some (.ref 24), some (.int a1), some (.int a2), some (.int a3)]) (st' := []) (h' := Hp (up S3 30 m9 1)) 1 (fun Z => (congrArg (fun v => zit E 1 Z d m_Book_addSight 46 [some (.ref 24), some (.int a1), some (.int a2), some (.int a3)] [.int 1, .int v, .ref 30] (Hp S3)) em).trans (stN sh30 (by decide) hi _ _)) ?_
      generalize up S3 30 m9 1 = S8 at hw ⊢
      refine wp_st (pc' := 49) (L' := [some (.ref 24), some (.int a1), some (.int a2), some (.int a3)]) (st' := [.ref 24, .ref 24]) (h' := Hp S8) 2 (fun Z => rfl) ?_
      refine wp_st (pc' := 52) (L' := [some (.ref 24), some (.int a1), some (.int a2), some (.int a3)]) (st' := [.int (S8 24 3), .ref 24]) (h' := Hp S8) 1 (fun Z => gfI (E := E) sh24 rfl _) ?_
      refine wp_st (pc' := 54) (L' := [some (.ref 24), some (.int a1), some (.int a2), some (.int a3)]) (st' := [.int ((S8 24 3) + (1 : Int32)), .ref 24]) (h' := Hp S8) 2 (fun Z => rfl) ?_
      have hw := hw _ rfl
      refine wp_st (pc' := 57) (L' := [some (.ref 24), some (.int a1), some (.int a2), some (.int a3)]) (st' := []) (h' := Hp (up S8 24 3 ((S8 24 3) + (1 : Int32)))) 1 (fun Z => pfI sh24 rfl (Nat.le_of_ble_eq_true rfl) rfl _) ?_
      generalize up S8 24 3 ((S8 24 3) + (1 : Int32)) = S10 at hw ⊢
      exact wp_ret (fun Z => rfl) ⟨_, rfl, rfl, hw⟩
set_option maxRecDepth 4000 in
theorem w_Downs_passDay {E : zX} {d : Nat} {S : St} {a1 : Nat} {Q : St → Prop} (hd : 1 ≤ d) (ha1 : Sc a1)
    (hw : ∀ S1, S1 = up S 39 1 0 →
    ∀ S2, S2 = up S1 39 2 0 →
    k_Downs_passDay_16 E d S2 a1 0 Q) :
    k_Downs_passDay E d S a1 Q := by
  obtain ⟨d, rfl⟩ := Nat.exists_eq_add_of_le' hd
  show wp E (d + 1) m_Downs_passDay 0 [some (.ref 38), some (.ref a1), none] [] (Hp S) (QV Q)
  refine wp_st (pc' := 1) (L' := [some (.ref 38), some (.ref a1), none]) (st' := [.ref 38]) (h' := Hp S) 1 (fun Z => rfl) ?_
  refine wp_st (pc' := 4) (L' := [some (.ref 38), some (.ref a1), none]) (st' := [.ref 39]) (h' := Hp S) 1 (fun Z => gfR (E := E) sh38 rfl _) ?_
  refine wp_st (pc' := 6) (L' := [some (.ref 38), some (.ref a1), none]) (st' := [.int 0, .int 1, .ref 39]) (h' := Hp S) 2 (fun Z => rfl) ?_
  have hw := hw _ rfl
  refine wp_st (pc' := 7) (L' := [some (.ref 38), some (.ref a1), none]) (st' := []) (h' := Hp (up S 39 1 0)) 1 (fun Z => stN sh39 (by decide) (by decide) _ _) ?_
  generalize up S 39 1 0 = S1 at hw ⊢
  refine wp_st (pc' := 8) (L' := [some (.ref 38), some (.ref a1), none]) (st' := [.ref 38]) (h' := Hp S1) 1 (fun Z => rfl) ?_
  refine wp_st (pc' := 11) (L' := [some (.ref 38), some (.ref a1), none]) (st' := [.ref 39]) (h' := Hp S1) 1 (fun Z => gfR (E := E) sh38 rfl _) ?_
  refine wp_st (pc' := 13) (L' := [some (.ref 38), some (.ref a1), none]) (st' := [.int 0, .int 2, .ref 39]) (h' := Hp S1) 2 (fun Z => rfl) ?_
  have hw := hw _ rfl
  refine wp_st (pc' := 14) (L' := [some (.ref 38), some (.ref a1), none]) (st' := []) (h' := Hp (up S1 39 2 0)) 1 (fun Z => stN sh39 (by decide) (by decide) _ _) ?_
  generalize up S1 39 2 0 = S2 at hw ⊢
  exact wp_st 2 (fun Z => rfl) (show wp E (d + 1) m_Downs_passDay 16 [some (.ref 38), some (.ref a1), some (.int 0)] [] (Hp S2) (QV Q) from hw)
set_option maxRecDepth 4000 in
theorem w_Downs_passDay_16 {E : zX} {d : Nat} {S : St} {a1 : Nat} {a2 : Nat} {Q : St → Prop} (hd : 1 ≤ d) (ha1 : Sc a1)
    (hw : if (S 3 3) ≤ (nI a2) then (
      k_Downs_passDay_41 E d S a1 0 Q)
    else (
      k_Downs_livePersonsDay E (d - 1) S a1 (nI a2) (fun S2 =>
      k_Downs_passDay_16 E d S2 a1 (a2 + 1) Q))) :
    k_Downs_passDay_16 E d S a1 a2 Q := by
  obtain ⟨d, rfl⟩ := Nat.exists_eq_add_of_le' hd
  show wp E (d + 1) m_Downs_passDay 16 [some (.ref 38), some (.ref a1), some (.int (nI a2))] [] (Hp S) (QV Q)
  refine wp_st (pc' := 18) (L' := [some (.ref 38), some (.ref a1), some (.int (nI a2))]) (st' := [.ref 38, .int (nI a2)]) (h' := Hp S) 2 (fun Z => rfl) ?_
  refine wp_st (pc' := 21) (L' := [some (.ref 38), some (.ref a1), some (.int (nI a2))]) (st' := [.ref 3, .int (nI a2)]) (h' := Hp S) 1 (fun Z => gfR (E := E) sh38 rfl _) ?_
  refine wp_st (pc' := 24) (L' := [some (.ref 38), some (.ref a1), some (.int (nI a2))]) (st' := [.int (S 3 3), .int (nI a2)]) (h' := Hp S) 1 (fun Z => gfI (E := E) sh3 rfl _) ?_
  by_cases hc : (S 3 3) ≤ (nI a2)
  · rw [if_pos hc] at hw
    refine wp_st (pc' := 39) (L' := [some (.ref 38), some (.ref a1), some (.int (nI a2))]) (st' := []) (h' := Hp S) 1 (fun Z => if_pos hc) ?_
    exact wp_st 2 (fun Z => rfl) (show wp E (d + 1) m_Downs_passDay 41 [some (.ref 38), some (.ref a1), some (.int 0)] [] (Hp S) (QV Q) from hw)
  · rw [if_neg hc] at hw
    refine wp_st (pc' := 27) (L' := [some (.ref 38), some (.ref a1), some (.int (nI a2))]) (st' := []) (h' := Hp S) 1 (fun Z => if_neg hc) ?_
    refine wp_st (pc' := 30) (L' := [some (.ref 38), some (.ref a1), some (.int (nI a2))]) (st' := [.int (nI a2), .ref a1, .ref 38]) (h' := Hp S) 3 (fun Z => rfl) ?_
    refine wp_call (pc' := 33) (rest := []) (fun Z => rfl) (isO_of sh38) hw ?_
    rintro o h1 ⟨S2, rfl, rfl, hw⟩
    refine ⟨_, rfl, ?_⟩
    show wp E (d + 1) m_Downs_passDay 33 [some (.ref 38), some (.ref a1), some (.int (nI a2))] [] (Hp S2) (QV Q)
    refine wp_st (pc' := 36) (L' := [some (.ref 38), some (.ref a1), some (.int (nI (a2 + 1)))]) (st' := []) (h' := Hp S2) 1 (fun Z => by rw [← nI_add a2 1]; rfl) ?_
    exact wp_st 1 (fun Z => rfl) (show wp E (d + 1) m_Downs_passDay 16 [some (.ref 38), some (.ref a1), some (.int (nI (a2 + 1)))] [] (Hp S2) (QV Q) from hw)
set_option maxRecDepth 4000 in
theorem w_Downs_passDay_41 {E : zX} {d : Nat} {S : St} {a1 : Nat} {a2 : Nat} {Q : St → Prop} (hd : 1 ≤ d) (ha1 : Sc a1)
    (hw : if (S 3 4) ≤ (nI a2) then (
      k_Downs_ripe E (d - 1) S a1 (fun x1 S2 =>
      k_Downs_burst E (d - 1) S2 a1 x1 (fun x3 S4 =>
      ∀ S5, S5 = up S4 39 0 x3 →
      k_Scene_nextDay E (d - 1) S5 a1 (fun S7 =>
      Q S7))))
    else (
      k_Scene_isWhite E (d - 1) S a1 (nI a2) (fun x8 S9 =>
      if x8 = 0 then (
        k_Scene_growOld E (d - 1) S9 a1 (nI a2) (fun S11 =>
        k_Downs_passDay_41 E d S11 a1 (a2 + 1) Q))
      else (
        k_Downs_passDay_41 E d S9 a1 (a2 + 1) Q)))) :
    k_Downs_passDay_41 E d S a1 a2 Q := by
  obtain ⟨d, rfl⟩ := Nat.exists_eq_add_of_le' hd
  show wp E (d + 1) m_Downs_passDay 41 [some (.ref 38), some (.ref a1), some (.int (nI a2))] [] (Hp S) (QV Q)
  refine wp_st (pc' := 43) (L' := [some (.ref 38), some (.ref a1), some (.int (nI a2))]) (st' := [.ref 38, .int (nI a2)]) (h' := Hp S) 2 (fun Z => rfl) ?_
  refine wp_st (pc' := 46) (L' := [some (.ref 38), some (.ref a1), some (.int (nI a2))]) (st' := [.ref 3, .int (nI a2)]) (h' := Hp S) 1 (fun Z => gfR (E := E) sh38 rfl _) ?_
  refine wp_st (pc' := 49) (L' := [some (.ref 38), some (.ref a1), some (.int (nI a2))]) (st' := [.int (S 3 4), .int (nI a2)]) (h' := Hp S) 1 (fun Z => gfI (E := E) sh3 rfl _) ?_
  by_cases hc : (S 3 4) ≤ (nI a2)
  · rw [if_pos hc] at hw
    refine wp_st (pc' := 71) (L' := [some (.ref 38), some (.ref a1), some (.int (nI a2))]) (st' := []) (h' := Hp S) 1 (fun Z => if_pos hc) ?_
    refine wp_st (pc' := 72) (L' := [some (.ref 38), some (.ref a1), some (.int (nI a2))]) (st' := [.ref 38]) (h' := Hp S) 1 (fun Z => rfl) ?_
    refine wp_st (pc' := 75) (L' := [some (.ref 38), some (.ref a1), some (.int (nI a2))]) (st' := [.ref 39]) (h' := Hp S) 1 (fun Z => gfR (E := E) sh38 rfl _) ?_
    refine wp_st (pc' := 80) (L' := [some (.ref 38), some (.ref a1), some (.int (nI a2))]) (st' := [.ref a1, .ref 38, .ref a1, .ref 38, .int 0, .ref 39]) (h' := Hp S) 5 (fun Z => rfl) ?_
    refine wp_call (pc' := 83) (rest := [.ref a1, .ref 38, .int 0, .ref 39]) (fun Z => rfl) (isO_of sh38) hw ?_
    rintro o h1 ⟨x1, S2, rfl, rfl, hw⟩
    refine ⟨_, rfl, ?_⟩
    show wp E (d + 1) m_Downs_passDay 83 [some (.ref 38), some (.ref a1), some (.int (nI a2))] [.int x1, .ref a1, .ref 38, .int 0, .ref 39] (Hp S2) (QV Q)
    refine wp_call (pc' := 86) (rest := [.int 0, .ref 39]) (fun Z => rfl) (isO_of sh38) hw ?_
    rintro o h1 ⟨x3, S4, rfl, rfl, hw⟩
    refine ⟨_, rfl, ?_⟩
    show wp E (d + 1) m_Downs_passDay 86 [some (.ref 38), some (.ref a1), some (.int (nI a2))] [.int x3, .int 0, .ref 39] (Hp S4) (QV Q)
    have hw := hw _ rfl
    refine wp_st (pc' := 87) (L' := [some (.ref 38), some (.ref a1), some (.int (nI a2))]) (st' := []) (h' := Hp (up S4 39 0 x3)) 1 (fun Z => stN sh39 (by decide) (by decide) _ _) ?_
    generalize up S4 39 0 x3 = S5 at hw ⊢
    refine wp_st (pc' := 88) (L' := [some (.ref 38), some (.ref a1), some (.int (nI a2))]) (st' := [.ref a1]) (h' := Hp S5) 1 (fun Z => rfl) ?_
    refine wp_call (pc' := 91) (rest := []) (fun Z => rfl) (isO_of (ha1).1) hw ?_
    rintro o h1 ⟨S7, rfl, rfl, hw⟩
    refine ⟨_, rfl, ?_⟩
    show wp E (d + 1) m_Downs_passDay 91 [some (.ref 38), some (.ref a1), some (.int (nI a2))] [] (Hp S7) (QV Q)
    exact wp_ret (fun Z => rfl) ⟨_, rfl, rfl, hw⟩
  · rw [if_neg hc] at hw
    refine wp_st (pc' := 52) (L' := [some (.ref 38), some (.ref a1), some (.int (nI a2))]) (st' := []) (h' := Hp S) 1 (fun Z => if_neg hc) ?_
    refine wp_st (pc' := 54) (L' := [some (.ref 38), some (.ref a1), some (.int (nI a2))]) (st' := [.int (nI a2), .ref a1]) (h' := Hp S) 2 (fun Z => rfl) ?_
    refine wp_call (pc' := 57) (rest := []) (fun Z => rfl) (isO_of (ha1).1) hw ?_
    rintro o h1 ⟨x8, S9, rfl, rfl, hw⟩
    refine ⟨_, rfl, ?_⟩
    show wp E (d + 1) m_Downs_passDay 57 [some (.ref 38), some (.ref a1), some (.int (nI a2))] [.int x8] (Hp S9) (QV Q)
    by_cases hc : x8 = 0
    · rw [if_pos hc] at hw
      refine wp_st (pc' := 60) (L' := [some (.ref 38), some (.ref a1), some (.int (nI a2))]) (st' := []) (h' := Hp S9) 1 (fun Z => if_pos hc) ?_
      refine wp_st (pc' := 62) (L' := [some (.ref 38), some (.ref a1), some (.int (nI a2))]) (st' := [.int (nI a2), .ref a1]) (h' := Hp S9) 2 (fun Z => rfl) ?_
      refine wp_call (pc' := 65) (rest := []) (fun Z => rfl) (isO_of (ha1).1) hw ?_
      rintro o h1 ⟨S11, rfl, rfl, hw⟩
      refine ⟨_, rfl, ?_⟩
      show wp E (d + 1) m_Downs_passDay 65 [some (.ref 38), some (.ref a1), some (.int (nI a2))] [] (Hp S11) (QV Q)
      refine wp_st (pc' := 68) (L' := [some (.ref 38), some (.ref a1), some (.int (nI (a2 + 1)))]) (st' := []) (h' := Hp S11) 1 (fun Z => by rw [← nI_add a2 1]; rfl) ?_
      exact wp_st 1 (fun Z => rfl) (show wp E (d + 1) m_Downs_passDay 41 [some (.ref 38), some (.ref a1), some (.int (nI (a2 + 1)))] [] (Hp S11) (QV Q) from hw)
    · rw [if_neg hc] at hw
      refine wp_st (pc' := 65) (L' := [some (.ref 38), some (.ref a1), some (.int (nI a2))]) (st' := []) (h' := Hp S9) 1 (fun Z => if_neg hc) ?_
      refine wp_st (pc' := 68) (L' := [some (.ref 38), some (.ref a1), some (.int (nI (a2 + 1)))]) (st' := []) (h' := Hp S9) 1 (fun Z => by rw [← nI_add a2 1]; rfl) ?_
      exact wp_st 1 (fun Z => rfl) (show wp E (d + 1) m_Downs_passDay 41 [some (.ref 38), some (.ref a1), some (.int (nI (a2 + 1)))] [] (Hp S9) (QV Q) from hw)
set_option maxRecDepth 4000 in
theorem w_Downs_livePersonsDay {E : zX} {d : Nat} {S : St} {a1 : Nat} {a2 : Nat} {Q : St → Prop} (hd : 1 ≤ d) (ha1 : Sc a1)
    (hw : k_Scene_temperOf E (d - 1) S a1 (nI a2) (fun x1 S2 =>
    k_Downs_riseOf E (d - 1) S2 a1 (nI a2) (fun x3 S4 =>
    k_Scene_setTemper E (d - 1) S4 a1 (nI a2) (x1 + x3) (fun S6 =>
    k_Scene_temperOf E (d - 1) S6 a1 (nI a2) (fun x7 S8 =>
    if 20 ≤ x7 then (
      k_Downs_goOut E (d - 1) S8 a1 (nI a2) (fun x9 S10 =>
      if x9 = 0 then (
        k_Scene_shout E (d - 1) S10 a1 (nI a2) (fun S12 =>
        ∀ S13, S13 = up S12 39 2 ((S12 39 2) ||| (bt a2)) →
        Q S13))
      else (
        ∀ S14, S14 = up S10 39 1 ((S10 39 1) ||| (bt a2)) →
        Q S14)))
    else (
      Q S8)))))) :
    k_Downs_livePersonsDay E d S a1 (nI a2) Q := by
  obtain ⟨d, rfl⟩ := Nat.exists_eq_add_of_le' hd
  show wp E (d + 1) m_Downs_livePersonsDay 0 [some (.ref 38), some (.ref a1), some (.int (nI a2))] [] (Hp S) (QV Q)
  refine wp_st (pc' := 4) (L' := [some (.ref 38), some (.ref a1), some (.int (nI a2))]) (st' := [.int (nI a2), .ref a1, .int (nI a2), .ref a1]) (h' := Hp S) 4 (fun Z => rfl) ?_
  refine wp_call (pc' := 7) (rest := [.int (nI a2), .ref a1]) (fun Z => rfl) (isO_of (ha1).1) hw ?_
  rintro o h1 ⟨x1, S2, rfl, rfl, hw⟩
  refine ⟨_, rfl, ?_⟩
  show wp E (d + 1) m_Downs_livePersonsDay 7 [some (.ref 38), some (.ref a1), some (.int (nI a2))] [.int x1, .int (nI a2), .ref a1] (Hp S2) (QV Q)
  refine wp_st (pc' := 10) (L' := [some (.ref 38), some (.ref a1), some (.int (nI a2))]) (st' := [.int (nI a2), .ref a1, .ref 38, .int x1, .int (nI a2), .ref a1]) (h' := Hp S2) 3 (fun Z => rfl) ?_
  refine wp_call (pc' := 13) (rest := [.int x1, .int (nI a2), .ref a1]) (fun Z => rfl) (isO_of sh38) hw ?_
  rintro o h1 ⟨x3, S4, rfl, rfl, hw⟩
  refine ⟨_, rfl, ?_⟩
  show wp E (d + 1) m_Downs_livePersonsDay 13 [some (.ref 38), some (.ref a1), some (.int (nI a2))] [.int x3, .int x1, .int (nI a2), .ref a1] (Hp S4) (QV Q)
  refine wp_st (pc' := 14) (L' := [some (.ref 38), some (.ref a1), some (.int (nI a2))]) (st' := [.int (x1 + x3), .int (nI a2), .ref a1]) (h' := Hp S4) 1 (fun Z => rfl) ?_
  refine wp_call (pc' := 17) (rest := []) (fun Z => rfl) (isO_of (ha1).1) hw ?_
  rintro o h1 ⟨S6, rfl, rfl, hw⟩
  refine ⟨_, rfl, ?_⟩
  show wp E (d + 1) m_Downs_livePersonsDay 17 [some (.ref 38), some (.ref a1), some (.int (nI a2))] [] (Hp S6) (QV Q)
  refine wp_st (pc' := 19) (L' := [some (.ref 38), some (.ref a1), some (.int (nI a2))]) (st' := [.int (nI a2), .ref a1]) (h' := Hp S6) 2 (fun Z => rfl) ?_
  refine wp_call (pc' := 22) (rest := []) (fun Z => rfl) (isO_of (ha1).1) hw ?_
  rintro o h1 ⟨x7, S8, rfl, rfl, hw⟩
  refine ⟨_, rfl, ?_⟩
  show wp E (d + 1) m_Downs_livePersonsDay 22 [some (.ref 38), some (.ref a1), some (.int (nI a2))] [.int x7] (Hp S8) (QV Q)
  refine wp_st (pc' := 24) (L' := [some (.ref 38), some (.ref a1), some (.int (nI a2))]) (st' := [.int 20, .int x7]) (h' := Hp S8) 1 (fun Z => rfl) ?_
  by_cases hc : 20 ≤ x7
  · rw [if_pos hc] at hw
    refine wp_st (pc' := 28) (L' := [some (.ref 38), some (.ref a1), some (.int (nI a2))]) (st' := []) (h' := Hp S8) 1 (fun Z => if_pos hc) ?_
    refine wp_st (pc' := 31) (L' := [some (.ref 38), some (.ref a1), some (.int (nI a2))]) (st' := [.int (nI a2), .ref a1, .ref 38]) (h' := Hp S8) 3 (fun Z => rfl) ?_
    refine wp_call (pc' := 34) (rest := []) (fun Z => rfl) (isO_of sh38) hw ?_
    rintro o h1 ⟨x9, S10, rfl, rfl, hw⟩
    refine ⟨_, rfl, ?_⟩
    show wp E (d + 1) m_Downs_livePersonsDay 34 [some (.ref 38), some (.ref a1), some (.int (nI a2))] [.int x9] (Hp S10) (QV Q)
    by_cases hc : x9 = 0
    · rw [if_pos hc] at hw
      refine wp_st (pc' := 52) (L' := [some (.ref 38), some (.ref a1), some (.int (nI a2))]) (st' := []) (h' := Hp S10) 1 (fun Z => if_pos hc) ?_
      refine wp_st (pc' := 54) (L' := [some (.ref 38), some (.ref a1), some (.int (nI a2))]) (st' := [.int (nI a2), .ref a1]) (h' := Hp S10) 2 (fun Z => rfl) ?_
      refine wp_call (pc' := 57) (rest := []) (fun Z => rfl) (isO_of (ha1).1) hw ?_
      rintro o h1 ⟨S12, rfl, rfl, hw⟩
      refine ⟨_, rfl, ?_⟩
      show wp E (d + 1) m_Downs_livePersonsDay 57 [some (.ref 38), some (.ref a1), some (.int (nI a2))] [] (Hp S12) (QV Q)
      refine wp_st (pc' := 58) (L' := [some (.ref 38), some (.ref a1), some (.int (nI a2))]) (st' := [.ref 38]) (h' := Hp S12) 1 (fun Z => rfl) ?_
      refine wp_st (pc' := 61) (L' := [some (.ref 38), some (.ref a1), some (.int (nI a2))]) (st' := [.ref 39]) (h' := Hp S12) 1 (fun Z => gfR (E := E) sh38 rfl _) ?_
      refine wp_st (pc' := 63) (L' := [some (.ref 38), some (.ref a1), some (.int (nI a2))]) (st' := [.int 2, .ref 39, .int 2, .ref 39]) (h' := Hp S12) 2 (fun Z => rfl) ?_
      refine wp_st (pc' := 64) (L' := [some (.ref 38), some (.ref a1), some (.int (nI a2))]) (st' := [.int (S12 39 2), .int 2, .ref 39]) (h' := Hp S12) 1 (fun Z => ldN (E := E) sh39 (by decide) (by decide) [.int 2, .ref 39] (fun st => Z (d + 1) m_Downs_livePersonsDay 64 [some (.ref 38), some (.ref a1), some (.int (nI a2))] st (Hp S12))) ?_
      refine wp_st (pc' := 68) (L' := [some (.ref 38), some (.ref a1), some (.int (nI a2))]) (st' := [.int ((S12 39 2) ||| (bt a2)), .int 2, .ref 39]) (h' := Hp S12) 4 (fun Z => rfl) ?_
      have hw := hw _ rfl
      refine wp_st (pc' := 69) (L' := [some (.ref 38), some (.ref a1), some (.int (nI a2))]) (st' := []) (h' := Hp (up S12 39 2 ((S12 39 2) ||| (bt a2)))) 1 (fun Z => stN sh39 (by decide) (by decide) _ _) ?_
      generalize up S12 39 2 ((S12 39 2) ||| (bt a2)) = S13 at hw ⊢
      exact wp_ret (fun Z => rfl) ⟨_, rfl, rfl, hw⟩
    · rw [if_neg hc] at hw
      refine wp_st (pc' := 37) (L' := [some (.ref 38), some (.ref a1), some (.int (nI a2))]) (st' := []) (h' := Hp S10) 1 (fun Z => if_neg hc) ?_
      refine wp_st (pc' := 38) (L' := [some (.ref 38), some (.ref a1), some (.int (nI a2))]) (st' := [.ref 38]) (h' := Hp S10) 1 (fun Z => rfl) ?_
      refine wp_st (pc' := 41) (L' := [some (.ref 38), some (.ref a1), some (.int (nI a2))]) (st' := [.ref 39]) (h' := Hp S10) 1 (fun Z => gfR (E := E) sh38 rfl _) ?_
      refine wp_st (pc' := 43) (L' := [some (.ref 38), some (.ref a1), some (.int (nI a2))]) (st' := [.int 1, .ref 39, .int 1, .ref 39]) (h' := Hp S10) 2 (fun Z => rfl) ?_
      refine wp_st (pc' := 44) (L' := [some (.ref 38), some (.ref a1), some (.int (nI a2))]) (st' := [.int (S10 39 1), .int 1, .ref 39]) (h' := Hp S10) 1 (fun Z => ldN (E := E) sh39 (by decide) (by decide) [.int 1, .ref 39] (fun st => Z (d + 1) m_Downs_livePersonsDay 44 [some (.ref 38), some (.ref a1), some (.int (nI a2))] st (Hp S10))) ?_
      refine wp_st (pc' := 48) (L' := [some (.ref 38), some (.ref a1), some (.int (nI a2))]) (st' := [.int ((S10 39 1) ||| (bt a2)), .int 1, .ref 39]) (h' := Hp S10) 4 (fun Z => rfl) ?_
      have hw := hw _ rfl
      refine wp_st (pc' := 49) (L' := [some (.ref 38), some (.ref a1), some (.int (nI a2))]) (st' := []) (h' := Hp (up S10 39 1 ((S10 39 1) ||| (bt a2)))) 1 (fun Z => stN sh39 (by decide) (by decide) _ _) ?_
      generalize up S10 39 1 ((S10 39 1) ||| (bt a2)) = S14 at hw ⊢
      refine wp_st (pc' := 69) (L' := [some (.ref 38), some (.ref a1), some (.int (nI a2))]) (st' := []) (h' := Hp S14) 1 (fun Z => rfl) ?_
      exact wp_ret (fun Z => rfl) ⟨_, rfl, rfl, hw⟩
  · rw [if_neg hc] at hw
    refine wp_st (pc' := 27) (L' := [some (.ref 38), some (.ref a1), some (.int (nI a2))]) (st' := []) (h' := Hp S8) 1 (fun Z => if_neg hc) ?_
    exact wp_ret (fun Z => rfl) ⟨_, rfl, rfl, hw⟩
set_option maxRecDepth 4000 in
theorem w_Downs_riseOf {E : zX} {d : Nat} {S : St} {a1 : Nat} {a2 : Nat} {Q : Int32 → St → Prop} (hd : 1 ≤ d) (ha1 : Sc a1)
    (hw : k_Rule_isTold E (d - 1) S 6 (fun x1 S2 =>
    if x1 = 0 then (
      k_Scene_mildOf E (d - 1) S2 a1 (nI a2) (fun x3 S4 =>
      Q ((10 : Int32) - x3) S4))
    else (
      k_Scene_mildOf E (d - 1) S2 a1 (nI a2) (fun x5 S6 =>
      ∀ S7, S7 = up S6 41 0 x5 →
      k_Scene_temperOf E (d - 1) S7 a1 (nI a2) (fun x8 S9 =>
      ∀ S10, S10 = up S9 41 1 x8 →
      k_Scene_shoutedBy E (d - 1) S10 a1 (nI a2) (fun x11 S12 =>
      ∀ S13, S13 = up S12 41 2 x11 →
      k_Scene_heardBy E (d - 1) S13 a1 (nI a2) (fun x14 S15 =>
      ∀ S16, S16 = up S15 41 3 x14 →
      k_Scene_day E (d - 1) S16 a1 (fun x17 S18 =>
      ∀ S19, S19 = up S18 41 4 x17 →
      k_Rule_worth E (d - 1) S19 6 (fun x20 S21 =>
      Q (zmax 0 (zmin 20 x20)) S21))))))))) :
    k_Downs_riseOf E d S a1 (nI a2) Q := by
  obtain ⟨d, rfl⟩ := Nat.exists_eq_add_of_le' hd
  show wp E (d + 1) m_Downs_riseOf 0 [some (.ref 38), some (.ref a1), some (.int (nI a2))] [] (Hp S) (QI Q)
  refine wp_st (pc' := 1) (L' := [some (.ref 38), some (.ref a1), some (.int (nI a2))]) (st' := [.ref 38]) (h' := Hp S) 1 (fun Z => rfl) ?_
  refine wp_st (pc' := 4) (L' := [some (.ref 38), some (.ref a1), some (.int (nI a2))]) (st' := [.ref 3]) (h' := Hp S) 1 (fun Z => gfR (E := E) sh38 rfl _) ?_
  refine wp_st (pc' := 7) (L' := [some (.ref 38), some (.ref a1), some (.int (nI a2))]) (st' := [.ref 6]) (h' := Hp S) 1 (fun Z => gfR (E := E) sh3 rfl _) ?_
  refine wp_call (pc' := 10) (rest := []) (fun Z => rfl) (isO_of sh6) hw ?_
  rintro o h1 ⟨x1, S2, rfl, rfl, hw⟩
  refine ⟨_, rfl, ?_⟩
  show wp E (d + 1) m_Downs_riseOf 10 [some (.ref 38), some (.ref a1), some (.int (nI a2))] [.int x1] (Hp S2) (QI Q)
  by_cases hc : x1 = 0
  · rw [if_pos hc] at hw
    refine wp_st (pc' := 13) (L' := [some (.ref 38), some (.ref a1), some (.int (nI a2))]) (st' := []) (h' := Hp S2) 1 (fun Z => if_pos hc) ?_
    refine wp_st (pc' := 17) (L' := [some (.ref 38), some (.ref a1), some (.int (nI a2))]) (st' := [.int (nI a2), .ref a1, .int 10]) (h' := Hp S2) 3 (fun Z => rfl) ?_
    refine wp_call (pc' := 20) (rest := [.int 10]) (fun Z => rfl) (isO_of (ha1).1) hw ?_
    rintro o h1 ⟨x3, S4, rfl, rfl, hw⟩
    refine ⟨_, rfl, ?_⟩
    show wp E (d + 1) m_Downs_riseOf 20 [some (.ref 38), some (.ref a1), some (.int (nI a2))] [.int x3, .int 10] (Hp S4) (QI Q)
    refine wp_st (pc' := 21) (L' := [some (.ref 38), some (.ref a1), some (.int (nI a2))]) (st' := [.int ((10 : Int32) - x3)]) (h' := Hp S4) 1 (fun Z => rfl) ?_
    exact wp_ret (fun Z => rfl) ⟨_, _, rfl, rfl, hw⟩
  · rw [if_neg hc] at hw
    refine wp_st (pc' := 22) (L' := [some (.ref 38), some (.ref a1), some (.int (nI a2))]) (st' := []) (h' := Hp S2) 1 (fun Z => if_neg hc) ?_
    refine wp_st (pc' := 23) (L' := [some (.ref 38), some (.ref a1), some (.int (nI a2))]) (st' := [.ref 38]) (h' := Hp S2) 1 (fun Z => rfl) ?_
    refine wp_st (pc' := 26) (L' := [some (.ref 38), some (.ref a1), some (.int (nI a2))]) (st' := [.ref 41]) (h' := Hp S2) 1 (fun Z => gfR (E := E) sh38 rfl _) ?_
    refine wp_st (pc' := 29) (L' := [some (.ref 38), some (.ref a1), some (.int (nI a2))]) (st' := [.int (nI a2), .ref a1, .int 0, .ref 41]) (h' := Hp S2) 3 (fun Z => rfl) ?_
    refine wp_call (pc' := 32) (rest := [.int 0, .ref 41]) (fun Z => rfl) (isO_of (ha1).1) hw ?_
    rintro o h1 ⟨x5, S6, rfl, rfl, hw⟩
    refine ⟨_, rfl, ?_⟩
    show wp E (d + 1) m_Downs_riseOf 32 [some (.ref 38), some (.ref a1), some (.int (nI a2))] [.int x5, .int 0, .ref 41] (Hp S6) (QI Q)
    have hw := hw _ rfl
    refine wp_st (pc' := 33) (L' := [some (.ref 38), some (.ref a1), some (.int (nI a2))]) (st' := []) (h' := Hp (up S6 41 0 x5)) 1 (fun Z => stN sh41 (by decide) (by decide) _ _) ?_
    generalize up S6 41 0 x5 = S7 at hw ⊢
    refine wp_st (pc' := 34) (L' := [some (.ref 38), some (.ref a1), some (.int (nI a2))]) (st' := [.ref 38]) (h' := Hp S7) 1 (fun Z => rfl) ?_
    refine wp_st (pc' := 37) (L' := [some (.ref 38), some (.ref a1), some (.int (nI a2))]) (st' := [.ref 41]) (h' := Hp S7) 1 (fun Z => gfR (E := E) sh38 rfl _) ?_
    refine wp_st (pc' := 40) (L' := [some (.ref 38), some (.ref a1), some (.int (nI a2))]) (st' := [.int (nI a2), .ref a1, .int 1, .ref 41]) (h' := Hp S7) 3 (fun Z => rfl) ?_
    refine wp_call (pc' := 43) (rest := [.int 1, .ref 41]) (fun Z => rfl) (isO_of (ha1).1) hw ?_
    rintro o h1 ⟨x8, S9, rfl, rfl, hw⟩
    refine ⟨_, rfl, ?_⟩
    show wp E (d + 1) m_Downs_riseOf 43 [some (.ref 38), some (.ref a1), some (.int (nI a2))] [.int x8, .int 1, .ref 41] (Hp S9) (QI Q)
    have hw := hw _ rfl
    refine wp_st (pc' := 44) (L' := [some (.ref 38), some (.ref a1), some (.int (nI a2))]) (st' := []) (h' := Hp (up S9 41 1 x8)) 1 (fun Z => stN sh41 (by decide) (by decide) _ _) ?_
    generalize up S9 41 1 x8 = S10 at hw ⊢
    refine wp_st (pc' := 45) (L' := [some (.ref 38), some (.ref a1), some (.int (nI a2))]) (st' := [.ref 38]) (h' := Hp S10) 1 (fun Z => rfl) ?_
    refine wp_st (pc' := 48) (L' := [some (.ref 38), some (.ref a1), some (.int (nI a2))]) (st' := [.ref 41]) (h' := Hp S10) 1 (fun Z => gfR (E := E) sh38 rfl _) ?_
    refine wp_st (pc' := 51) (L' := [some (.ref 38), some (.ref a1), some (.int (nI a2))]) (st' := [.int (nI a2), .ref a1, .int 2, .ref 41]) (h' := Hp S10) 3 (fun Z => rfl) ?_
    refine wp_call (pc' := 54) (rest := [.int 2, .ref 41]) (fun Z => rfl) (isO_of (ha1).1) hw ?_
    rintro o h1 ⟨x11, S12, rfl, rfl, hw⟩
    refine ⟨_, rfl, ?_⟩
    show wp E (d + 1) m_Downs_riseOf 54 [some (.ref 38), some (.ref a1), some (.int (nI a2))] [.int x11, .int 2, .ref 41] (Hp S12) (QI Q)
    have hw := hw _ rfl
    refine wp_st (pc' := 55) (L' := [some (.ref 38), some (.ref a1), some (.int (nI a2))]) (st' := []) (h' := Hp (up S12 41 2 x11)) 1 (fun Z => stN sh41 (by decide) (by decide) _ _) ?_
    generalize up S12 41 2 x11 = S13 at hw ⊢
    refine wp_st (pc' := 56) (L' := [some (.ref 38), some (.ref a1), some (.int (nI a2))]) (st' := [.ref 38]) (h' := Hp S13) 1 (fun Z => rfl) ?_
    refine wp_st (pc' := 59) (L' := [some (.ref 38), some (.ref a1), some (.int (nI a2))]) (st' := [.ref 41]) (h' := Hp S13) 1 (fun Z => gfR (E := E) sh38 rfl _) ?_
    refine wp_st (pc' := 62) (L' := [some (.ref 38), some (.ref a1), some (.int (nI a2))]) (st' := [.int (nI a2), .ref a1, .int 3, .ref 41]) (h' := Hp S13) 3 (fun Z => rfl) ?_
    refine wp_call (pc' := 65) (rest := [.int 3, .ref 41]) (fun Z => rfl) (isO_of (ha1).1) hw ?_
    rintro o h1 ⟨x14, S15, rfl, rfl, hw⟩
    refine ⟨_, rfl, ?_⟩
    show wp E (d + 1) m_Downs_riseOf 65 [some (.ref 38), some (.ref a1), some (.int (nI a2))] [.int x14, .int 3, .ref 41] (Hp S15) (QI Q)
    have hw := hw _ rfl
    refine wp_st (pc' := 66) (L' := [some (.ref 38), some (.ref a1), some (.int (nI a2))]) (st' := []) (h' := Hp (up S15 41 3 x14)) 1 (fun Z => stN sh41 (by decide) (by decide) _ _) ?_
    generalize up S15 41 3 x14 = S16 at hw ⊢
    refine wp_st (pc' := 67) (L' := [some (.ref 38), some (.ref a1), some (.int (nI a2))]) (st' := [.ref 38]) (h' := Hp S16) 1 (fun Z => rfl) ?_
    refine wp_st (pc' := 70) (L' := [some (.ref 38), some (.ref a1), some (.int (nI a2))]) (st' := [.ref 41]) (h' := Hp S16) 1 (fun Z => gfR (E := E) sh38 rfl _) ?_
    refine wp_st (pc' := 72) (L' := [some (.ref 38), some (.ref a1), some (.int (nI a2))]) (st' := [.ref a1, .int 4, .ref 41]) (h' := Hp S16) 2 (fun Z => rfl) ?_
    refine wp_call (pc' := 75) (rest := [.int 4, .ref 41]) (fun Z => rfl) (isO_of (ha1).1) hw ?_
    rintro o h1 ⟨x17, S18, rfl, rfl, hw⟩
    refine ⟨_, rfl, ?_⟩
    show wp E (d + 1) m_Downs_riseOf 75 [some (.ref 38), some (.ref a1), some (.int (nI a2))] [.int x17, .int 4, .ref 41] (Hp S18) (QI Q)
    have hw := hw _ rfl
    refine wp_st (pc' := 76) (L' := [some (.ref 38), some (.ref a1), some (.int (nI a2))]) (st' := []) (h' := Hp (up S18 41 4 x17)) 1 (fun Z => stN sh41 (by decide) (by decide) _ _) ?_
    generalize up S18 41 4 x17 = S19 at hw ⊢
    refine wp_st (pc' := 80) (L' := [some (.ref 38), some (.ref a1), some (.int (nI a2))]) (st' := [.ref 38, .int 20, .int 0]) (h' := Hp S19) 3 (fun Z => rfl) ?_
    refine wp_st (pc' := 83) (L' := [some (.ref 38), some (.ref a1), some (.int (nI a2))]) (st' := [.ref 3, .int 20, .int 0]) (h' := Hp S19) 1 (fun Z => gfR (E := E) sh38 rfl _) ?_
    refine wp_st (pc' := 86) (L' := [some (.ref 38), some (.ref a1), some (.int (nI a2))]) (st' := [.ref 6, .int 20, .int 0]) (h' := Hp S19) 1 (fun Z => gfR (E := E) sh3 rfl _) ?_
    refine wp_st (pc' := 87) (L' := [some (.ref 38), some (.ref a1), some (.int (nI a2))]) (st' := [.ref 38, .ref 6, .int 20, .int 0]) (h' := Hp S19) 1 (fun Z => rfl) ?_
    refine wp_st (pc' := 90) (L' := [some (.ref 38), some (.ref a1), some (.int (nI a2))]) (st' := [.ref 41, .ref 6, .int 20, .int 0]) (h' := Hp S19) 1 (fun Z => gfR (E := E) sh38 rfl _) ?_
    refine wp_st (pc' := 91) (L' := [some (.ref 38), some (.ref a1), some (.int (nI a2))]) (st' := [.ref 38, .ref 41, .ref 6, .int 20, .int 0]) (h' := Hp S19) 1 (fun Z => rfl) ?_
    refine wp_st (pc' := 94) (L' := [some (.ref 38), some (.ref a1), some (.int (nI a2))]) (st' := [.ref 42, .ref 41, .ref 6, .int 20, .int 0]) (h' := Hp S19) 1 (fun Z => gfR (E := E) sh38 rfl _) ?_
    refine wp_call (pc' := 97) (rest := [.int 20, .int 0]) (fun Z => rfl) (isO_of sh6) hw ?_
    rintro o h1 ⟨x20, S21, rfl, rfl, hw⟩
    refine ⟨_, rfl, ?_⟩
    show wp E (d + 1) m_Downs_riseOf 97 [some (.ref 38), some (.ref a1), some (.int (nI a2))] [.int x20, .int 20, .int 0] (Hp S21) (QI Q)
    refine wp_st (pc' := 103) (L' := [some (.ref 38), some (.ref a1), some (.int (nI a2))]) (st' := [.int (zmax 0 (zmin 20 x20))]) (h' := Hp S21) 2 (fun Z => rfl) ?_
    exact wp_ret (fun Z => rfl) ⟨_, _, rfl, rfl, hw⟩
set_option maxRecDepth 4000 in
theorem w_Downs_goOut {E : zX} {d : Nat} {S : St} {a1 : Nat} {a2 : Nat} {Q : Int32 → St → Prop} (hd : 1 ≤ d) (ha1 : Sc a1)
    (hw : k_Downs_nearestWhite E (d - 1) S a1 (nI a2) (fun x1 S2 =>
    if x1 = (-1) then (
      Q (0 : Int32) S2)
    else (
      k_Scene_temperOf E (d - 1) S2 a1 (nI a2) (fun x3 S4 =>
      k_Scene_fill E (d - 1) S4 a1 x1 x3 (nI a2) (fun S6 =>
      k_Scene_setTemper E (d - 1) S6 a1 (nI a2) 0 (fun S8 =>
      Q (1 : Int32) S8)))))) :
    k_Downs_goOut E d S a1 (nI a2) Q := by
  obtain ⟨d, rfl⟩ := Nat.exists_eq_add_of_le' hd
  show wp E (d + 1) m_Downs_goOut 0 [some (.ref 38), some (.ref a1), some (.int (nI a2)), none] [] (Hp S) (QI Q)
  refine wp_st (pc' := 3) (L' := [some (.ref 38), some (.ref a1), some (.int (nI a2)), none]) (st' := [.int (nI a2), .ref a1, .ref 38]) (h' := Hp S) 3 (fun Z => rfl) ?_
  refine wp_call (pc' := 6) (rest := []) (fun Z => rfl) (isO_of sh38) hw ?_
  rintro o h1 ⟨x1, S2, rfl, rfl, hw⟩
  refine ⟨_, rfl, ?_⟩
  show wp E (d + 1) m_Downs_goOut 6 [some (.ref 38), some (.ref a1), some (.int (nI a2)), none] [.int x1] (Hp S2) (QI Q)
  refine wp_st (pc' := 8) (L' := [some (.ref 38), some (.ref a1), some (.int (nI a2)), some (.int x1)]) (st' := [.int x1]) (h' := Hp S2) 2 (fun Z => rfl) ?_
  refine wp_st (pc' := 9) (L' := [some (.ref 38), some (.ref a1), some (.int (nI a2)), some (.int x1)]) (st' := [.int (-1), .int x1]) (h' := Hp S2) 1 (fun Z => congrArg (fun v => Z (d + 1) m_Downs_goOut 9 [some (.ref 38), some (.ref a1), some (.int (nI a2)), some (.int x1)] [.int v, .int x1] (Hp S2)) (show Int32.ofInt (-1) = (-1) by decide)) ?_
  by_cases hc : x1 = (-1)
  · rw [if_pos hc] at hw
    refine wp_st (pc' := 12) (L' := [some (.ref 38), some (.ref a1), some (.int (nI a2)), some (.int x1)]) (st' := []) (h' := Hp S2) 1 (fun Z => if_pos hc) ?_
    refine wp_st (pc' := 13) (L' := [some (.ref 38), some (.ref a1), some (.int (nI a2)), some (.int x1)]) (st' := [.int 0]) (h' := Hp S2) 1 (fun Z => rfl) ?_
    exact wp_ret (fun Z => rfl) ⟨_, _, rfl, rfl, hw⟩
  · rw [if_neg hc] at hw
    refine wp_st (pc' := 14) (L' := [some (.ref 38), some (.ref a1), some (.int (nI a2)), some (.int x1)]) (st' := []) (h' := Hp S2) 1 (fun Z => if_neg hc) ?_
    refine wp_st (pc' := 18) (L' := [some (.ref 38), some (.ref a1), some (.int (nI a2)), some (.int x1)]) (st' := [.int (nI a2), .ref a1, .int x1, .ref a1]) (h' := Hp S2) 4 (fun Z => rfl) ?_
    refine wp_call (pc' := 21) (rest := [.int x1, .ref a1]) (fun Z => rfl) (isO_of (ha1).1) hw ?_
    rintro o h1 ⟨x3, S4, rfl, rfl, hw⟩
    refine ⟨_, rfl, ?_⟩
    show wp E (d + 1) m_Downs_goOut 21 [some (.ref 38), some (.ref a1), some (.int (nI a2)), some (.int x1)] [.int x3, .int x1, .ref a1] (Hp S4) (QI Q)
    refine wp_st (pc' := 22) (L' := [some (.ref 38), some (.ref a1), some (.int (nI a2)), some (.int x1)]) (st' := [.int (nI a2), .int x3, .int x1, .ref a1]) (h' := Hp S4) 1 (fun Z => rfl) ?_
    refine wp_call (pc' := 25) (rest := []) (fun Z => rfl) (isO_of (ha1).1) hw ?_
    rintro o h1 ⟨S6, rfl, rfl, hw⟩
    refine ⟨_, rfl, ?_⟩
    show wp E (d + 1) m_Downs_goOut 25 [some (.ref 38), some (.ref a1), some (.int (nI a2)), some (.int x1)] [] (Hp S6) (QI Q)
    refine wp_st (pc' := 28) (L' := [some (.ref 38), some (.ref a1), some (.int (nI a2)), some (.int x1)]) (st' := [.int 0, .int (nI a2), .ref a1]) (h' := Hp S6) 3 (fun Z => rfl) ?_
    refine wp_call (pc' := 31) (rest := []) (fun Z => rfl) (isO_of (ha1).1) hw ?_
    rintro o h1 ⟨S8, rfl, rfl, hw⟩
    refine ⟨_, rfl, ?_⟩
    show wp E (d + 1) m_Downs_goOut 31 [some (.ref 38), some (.ref a1), some (.int (nI a2)), some (.int x1)] [] (Hp S8) (QI Q)
    refine wp_st (pc' := 32) (L' := [some (.ref 38), some (.ref a1), some (.int (nI a2)), some (.int x1)]) (st' := [.int 1]) (h' := Hp S8) 1 (fun Z => rfl) ?_
    exact wp_ret (fun Z => rfl) ⟨_, _, rfl, rfl, hw⟩
set_option maxRecDepth 4000 in
theorem w_Downs_nearestWhite {E : zX} {d : Nat} {S : St} {a1 : Nat} {a2 : Nat} {Q : Int32 → St → Prop} (hd : 1 ≤ d) (ha1 : Sc a1)
    (hw : k_Downs_nearestWhite_8 E d S a1 a2 (-1) 0 0 Q) :
    k_Downs_nearestWhite E d S a1 (nI a2) Q := by
  obtain ⟨d, rfl⟩ := Nat.exists_eq_add_of_le' hd
  show wp E (d + 1) m_Downs_nearestWhite 0 [some (.ref 38), some (.ref a1), some (.int (nI a2)), none, none, none, none] [] (Hp S) (QI Q)
  refine wp_st (pc' := 1) (L' := [some (.ref 38), some (.ref a1), some (.int (nI a2)), none, none, none, none]) (st' := [.int (-1)]) (h' := Hp S) 1 (fun Z => congrArg (fun v => Z (d + 1) m_Downs_nearestWhite 1 [some (.ref 38), some (.ref a1), some (.int (nI a2)), none, none, none, none] [.int v] (Hp S)) (show Int32.ofInt (-1) = (-1) by decide)) ?_
  exact wp_st 5 (fun Z => rfl) (show wp E (d + 1) m_Downs_nearestWhite 8 [some (.ref 38), some (.ref a1), some (.int (nI a2)), some (.int (-1)), some (.int 0), some (.int 0), none] [] (Hp S) (QI Q) from (hw none))
set_option maxRecDepth 4000 in
theorem w_Downs_nearestWhite_8 {E : zX} {d : Nat} {S : St} {a1 : Nat} {a2 : Nat} {a3 : Int32} {a4 : Int32} {a5 : Nat} {Q : Int32 → St → Prop} (hd : 1 ≤ d) (ha1 : Sc a1)
    (hw : if (S 3 4) ≤ (nI a5) then (
      Q a3 S)
    else (
      k_Scene_isWhite E (d - 1) S a1 (nI a5) (fun x1 S2 =>
      if x1 = 0 then (
        k_Downs_nearestWhite_8 E d S2 a1 a2 a3 a4 (a5 + 1) Q)
      else (
        a5 < 10 ∧
        k_Scene_temperOf E (d - 1) S2 a1 (nI a2) (fun x3 S4 =>
        if (S2 5 a5) < x3 then (
          k_Downs_nearestWhite_8 E d S4 a1 a2 a3 a4 (a5 + 1) Q)
        else (
          k_Scene_cellOf E (d - 1) S4 a1 (nI a5) (fun x5 S6 =>
          a2 < 7 ∧
          k_Land_far E (d - 1) S6 x5 (S6 4 a2) (fun x7 S8 =>
          if a3 = (-1) then (
            k_Downs_nearestWhite_8 E d S8 a1 a2 (nI a5) x7 (a5 + 1) Q)
          else (
            if a4 ≤ x7 then (
              k_Downs_nearestWhite_8 E d S8 a1 a2 a3 a4 (a5 + 1) Q)
            else (
              k_Downs_nearestWhite_8 E d S8 a1 a2 (nI a5) x7 (a5 + 1) Q)))))))))) :
    k_Downs_nearestWhite_8 E d S a1 a2 a3 a4 a5 Q := by
  obtain ⟨d, rfl⟩ := Nat.exists_eq_add_of_le' hd
  intro j6
  show wp E (d + 1) m_Downs_nearestWhite 8 [some (.ref 38), some (.ref a1), some (.int (nI a2)), some (.int a3), some (.int a4), some (.int (nI a5)), j6] [] (Hp S) (QI Q)
  refine wp_st (pc' := 11) (L' := [some (.ref 38), some (.ref a1), some (.int (nI a2)), some (.int a3), some (.int a4), some (.int (nI a5)), j6]) (st' := [.ref 38, .int (nI a5)]) (h' := Hp S) 2 (fun Z => rfl) ?_
  refine wp_st (pc' := 14) (L' := [some (.ref 38), some (.ref a1), some (.int (nI a2)), some (.int a3), some (.int a4), some (.int (nI a5)), j6]) (st' := [.ref 3, .int (nI a5)]) (h' := Hp S) 1 (fun Z => gfR (E := E) sh38 rfl _) ?_
  refine wp_st (pc' := 17) (L' := [some (.ref 38), some (.ref a1), some (.int (nI a2)), some (.int a3), some (.int a4), some (.int (nI a5)), j6]) (st' := [.int (S 3 4), .int (nI a5)]) (h' := Hp S) 1 (fun Z => gfI (E := E) sh3 rfl _) ?_
  by_cases hc : (S 3 4) ≤ (nI a5)
  · rw [if_pos hc] at hw
    refine wp_st (pc' := 96) (L' := [some (.ref 38), some (.ref a1), some (.int (nI a2)), some (.int a3), some (.int a4), some (.int (nI a5)), j6]) (st' := []) (h' := Hp S) 1 (fun Z => if_pos hc) ?_
    refine wp_st (pc' := 97) (L' := [some (.ref 38), some (.ref a1), some (.int (nI a2)), some (.int a3), some (.int a4), some (.int (nI a5)), j6]) (st' := [.int a3]) (h' := Hp S) 1 (fun Z => rfl) ?_
    exact wp_ret (fun Z => rfl) ⟨_, _, rfl, rfl, hw⟩
  · rw [if_neg hc] at hw
    refine wp_st (pc' := 20) (L' := [some (.ref 38), some (.ref a1), some (.int (nI a2)), some (.int a3), some (.int a4), some (.int (nI a5)), j6]) (st' := []) (h' := Hp S) 1 (fun Z => if_neg hc) ?_
    refine wp_st (pc' := 23) (L' := [some (.ref 38), some (.ref a1), some (.int (nI a2)), some (.int a3), some (.int a4), some (.int (nI a5)), j6]) (st' := [.int (nI a5), .ref a1]) (h' := Hp S) 2 (fun Z => rfl) ?_
    refine wp_call (pc' := 26) (rest := []) (fun Z => rfl) (isO_of (ha1).1) hw ?_
    rintro o h1 ⟨x1, S2, rfl, rfl, hw⟩
    refine ⟨_, rfl, ?_⟩
    show wp E (d + 1) m_Downs_nearestWhite 26 [some (.ref 38), some (.ref a1), some (.int (nI a2)), some (.int a3), some (.int a4), some (.int (nI a5)), j6] [.int x1] (Hp S2) (QI Q)
    by_cases hc : x1 = 0
    · rw [if_pos hc] at hw
      refine wp_st (pc' := 90) (L' := [some (.ref 38), some (.ref a1), some (.int (nI a2)), some (.int a3), some (.int a4), some (.int (nI a5)), j6]) (st' := []) (h' := Hp S2) 1 (fun Z => if_pos hc) ?_
      refine wp_st (pc' := 93) (L' := [some (.ref 38), some (.ref a1), some (.int (nI a2)), some (.int a3), some (.int a4), some (.int (nI (a5 + 1))), j6]) (st' := []) (h' := Hp S2) 1 (fun Z => by rw [← nI_add a5 1]; rfl) ?_
      exact wp_st 1 (fun Z => rfl) (show wp E (d + 1) m_Downs_nearestWhite 8 [some (.ref 38), some (.ref a1), some (.int (nI a2)), some (.int a3), some (.int a4), some (.int (nI (a5 + 1))), j6] [] (Hp S2) (QI Q) from (hw j6))
    · rw [if_neg hc] at hw
      refine wp_st (pc' := 29) (L' := [some (.ref 38), some (.ref a1), some (.int (nI a2)), some (.int a3), some (.int a4), some (.int (nI a5)), j6]) (st' := []) (h' := Hp S2) 1 (fun Z => if_neg hc) ?_
      refine wp_st (pc' := 30) (L' := [some (.ref 38), some (.ref a1), some (.int (nI a2)), some (.int a3), some (.int a4), some (.int (nI a5)), j6]) (st' := [.ref 38]) (h' := Hp S2) 1 (fun Z => rfl) ?_
      refine wp_st (pc' := 33) (L' := [some (.ref 38), some (.ref a1), some (.int (nI a2)), some (.int a3), some (.int a4), some (.int (nI a5)), j6]) (st' := [.ref 3]) (h' := Hp S2) 1 (fun Z => gfR (E := E) sh38 rfl _) ?_
      refine wp_st (pc' := 36) (L' := [some (.ref 38), some (.ref a1), some (.int (nI a2)), some (.int a3), some (.int a4), some (.int (nI a5)), j6]) (st' := [.ref 5]) (h' := Hp S2) 1 (fun Z => gfR (E := E) sh3 rfl _) ?_
      refine wp_st (pc' := 38) (L' := [some (.ref 38), some (.ref a1), some (.int (nI a2)), some (.int a3), some (.int a4), some (.int (nI a5)), j6]) (st' := [.int (nI a5), .ref 5]) (h' := Hp S2) 1 (fun Z => rfl) ?_
      obtain ⟨hi, hw⟩ := hw
      refine wp_st (pc' := 39) (L' := [some (.ref 38), some (.ref a1), some (.int (nI a2)), some (.int a3), some (.int a4), some (.int (nI a5)), j6]) (st' := [.int (S2 5 a5)]) (h' := Hp S2) 1 (fun Z => ldN (E := E) sh5 (by decide) hi [] (fun st => Z (d + 1) m_Downs_nearestWhite 39 [some (.ref 38), some (.ref a1), some (.int (nI a2)), some (.int a3), some (.int a4), some (.int (nI a5)), j6] st (Hp S2))) ?_
      refine wp_st (pc' := 41) (L' := [some (.ref 38), some (.ref a1), some (.int (nI a2)), some (.int a3), some (.int a4), some (.int (nI a5)), j6]) (st' := [.int (nI a2), .ref a1, .int (S2 5 a5)]) (h' := Hp S2) 2 (fun Z => rfl) ?_
      refine wp_call (pc' := 44) (rest := [.int (S2 5 a5)]) (fun Z => rfl) (isO_of (ha1).1) hw ?_
      rintro o h1 ⟨x3, S4, rfl, rfl, hw⟩
      refine ⟨_, rfl, ?_⟩
      show wp E (d + 1) m_Downs_nearestWhite 44 [some (.ref 38), some (.ref a1), some (.int (nI a2)), some (.int a3), some (.int a4), some (.int (nI a5)), j6] [.int x3, .int (S2 5 a5)] (Hp S4) (QI Q)
      by_cases hc : (S2 5 a5) < x3
      · rw [if_pos hc] at hw
        refine wp_st (pc' := 90) (L' := [some (.ref 38), some (.ref a1), some (.int (nI a2)), some (.int a3), some (.int a4), some (.int (nI a5)), j6]) (st' := []) (h' := Hp S4) 1 (fun Z => if_pos hc) ?_
        refine wp_st (pc' := 93) (L' := [some (.ref 38), some (.ref a1), some (.int (nI a2)), some (.int a3), some (.int a4), some (.int (nI (a5 + 1))), j6]) (st' := []) (h' := Hp S4) 1 (fun Z => by rw [← nI_add a5 1]; rfl) ?_
        exact wp_st 1 (fun Z => rfl) (show wp E (d + 1) m_Downs_nearestWhite 8 [some (.ref 38), some (.ref a1), some (.int (nI a2)), some (.int a3), some (.int a4), some (.int (nI (a5 + 1))), j6] [] (Hp S4) (QI Q) from (hw j6))
      · rw [if_neg hc] at hw
        refine wp_st (pc' := 47) (L' := [some (.ref 38), some (.ref a1), some (.int (nI a2)), some (.int a3), some (.int a4), some (.int (nI a5)), j6]) (st' := []) (h' := Hp S4) 1 (fun Z => if_neg hc) ?_
        refine wp_st (pc' := 48) (L' := [some (.ref 38), some (.ref a1), some (.int (nI a2)), some (.int a3), some (.int a4), some (.int (nI a5)), j6]) (st' := [.ref 38]) (h' := Hp S4) 1 (fun Z => rfl) ?_
        refine wp_st (pc' := 51) (L' := [some (.ref 38), some (.ref a1), some (.int (nI a2)), some (.int a3), some (.int a4), some (.int (nI a5)), j6]) (st' := [.ref 3]) (h' := Hp S4) 1 (fun Z => gfR (E := E) sh38 rfl _) ?_
        refine wp_st (pc' := 54) (L' := [some (.ref 38), some (.ref a1), some (.int (nI a2)), some (.int a3), some (.int a4), some (.int (nI a5)), j6]) (st' := [.int (nI a5), .ref a1, .ref 3]) (h' := Hp S4) 2 (fun Z => rfl) ?_
        refine wp_call (pc' := 57) (rest := [.ref 3]) (fun Z => rfl) (isO_of (ha1).1) hw ?_
        rintro o h1 ⟨x5, S6, rfl, rfl, hw⟩
        refine ⟨_, rfl, ?_⟩
        show wp E (d + 1) m_Downs_nearestWhite 57 [some (.ref 38), some (.ref a1), some (.int (nI a2)), some (.int a3), some (.int a4), some (.int (nI a5)), j6] [.int x5, .ref 3] (Hp S6) (QI Q)
        refine wp_st (pc' := 58) (L' := [some (.ref 38), some (.ref a1), some (.int (nI a2)), some (.int a3), some (.int a4), some (.int (nI a5)), j6]) (st' := [.ref 38, .int x5, .ref 3]) (h' := Hp S6) 1 (fun Z => rfl) ?_
        refine wp_st (pc' := 61) (L' := [some (.ref 38), some (.ref a1), some (.int (nI a2)), some (.int a3), some (.int a4), some (.int (nI a5)), j6]) (st' := [.ref 3, .int x5, .ref 3]) (h' := Hp S6) 1 (fun Z => gfR (E := E) sh38 rfl _) ?_
        refine wp_st (pc' := 64) (L' := [some (.ref 38), some (.ref a1), some (.int (nI a2)), some (.int a3), some (.int a4), some (.int (nI a5)), j6]) (st' := [.ref 4, .int x5, .ref 3]) (h' := Hp S6) 1 (fun Z => gfR (E := E) sh3 rfl _) ?_
        refine wp_st (pc' := 65) (L' := [some (.ref 38), some (.ref a1), some (.int (nI a2)), some (.int a3), some (.int a4), some (.int (nI a5)), j6]) (st' := [.int (nI a2), .ref 4, .int x5, .ref 3]) (h' := Hp S6) 1 (fun Z => rfl) ?_
        obtain ⟨hi, hw⟩ := hw
        refine wp_st (pc' := 66) (L' := [some (.ref 38), some (.ref a1), some (.int (nI a2)), some (.int a3), some (.int a4), some (.int (nI a5)), j6]) (st' := [.int (S6 4 a2), .int x5, .ref 3]) (h' := Hp S6) 1 (fun Z => ldN (E := E) sh4 (by decide) hi [.int x5, .ref 3] (fun st => Z (d + 1) m_Downs_nearestWhite 66 [some (.ref 38), some (.ref a1), some (.int (nI a2)), some (.int a3), some (.int a4), some (.int (nI a5)), j6] st (Hp S6))) ?_
        refine wp_call (pc' := 69) (rest := []) (fun Z => rfl) (isO_of sh3) hw ?_
        rintro o h1 ⟨x7, S8, rfl, rfl, hw⟩
        refine ⟨_, rfl, ?_⟩
        show wp E (d + 1) m_Downs_nearestWhite 69 [some (.ref 38), some (.ref a1), some (.int (nI a2)), some (.int a3), some (.int a4), some (.int (nI a5)), j6] [.int x7] (Hp S8) (QI Q)
        refine wp_st (pc' := 72) (L' := [some (.ref 38), some (.ref a1), some (.int (nI a2)), some (.int a3), some (.int a4), some (.int (nI a5)), some (.int x7)]) (st' := [.int a3]) (h' := Hp S8) 2 (fun Z => rfl) ?_
        refine wp_st (pc' := 73) (L' := [some (.ref 38), some (.ref a1), some (.int (nI a2)), some (.int a3), some (.int a4), some (.int (nI a5)), some (.int x7)]) (st' := [.int (-1), .int a3]) (h' := Hp S8) 1 (fun Z => congrArg (fun v => Z (d + 1) m_Downs_nearestWhite 73 [some (.ref 38), some (.ref a1), some (.int (nI a2)), some (.int a3), some (.int a4), some (.int (nI a5)), some (.int x7)] [.int v, .int a3] (Hp S8)) (show Int32.ofInt (-1) = (-1) by decide)) ?_
        by_cases hc : a3 = (-1)
        · rw [if_pos hc] at hw
          refine wp_st (pc' := 83) (L' := [some (.ref 38), some (.ref a1), some (.int (nI a2)), some (.int a3), some (.int a4), some (.int (nI a5)), some (.int x7)]) (st' := []) (h' := Hp S8) 1 (fun Z => if_pos hc) ?_
          refine wp_st (pc' := 90) (L' := [some (.ref 38), some (.ref a1), some (.int (nI a2)), some (.int (nI a5)), some (.int x7), some (.int (nI a5)), some (.int x7)]) (st' := []) (h' := Hp S8) 4 (fun Z => rfl) ?_
          refine wp_st (pc' := 93) (L' := [some (.ref 38), some (.ref a1), some (.int (nI a2)), some (.int (nI a5)), some (.int x7), some (.int (nI (a5 + 1))), some (.int x7)]) (st' := []) (h' := Hp S8) 1 (fun Z => by rw [← nI_add a5 1]; rfl) ?_
          exact wp_st 1 (fun Z => rfl) (show wp E (d + 1) m_Downs_nearestWhite 8 [some (.ref 38), some (.ref a1), some (.int (nI a2)), some (.int (nI a5)), some (.int x7), some (.int (nI (a5 + 1))), some (.int x7)] [] (Hp S8) (QI Q) from (hw (some (.int x7))))
        · rw [if_neg hc] at hw
          refine wp_st (pc' := 76) (L' := [some (.ref 38), some (.ref a1), some (.int (nI a2)), some (.int a3), some (.int a4), some (.int (nI a5)), some (.int x7)]) (st' := []) (h' := Hp S8) 1 (fun Z => if_neg hc) ?_
          refine wp_st (pc' := 80) (L' := [some (.ref 38), some (.ref a1), some (.int (nI a2)), some (.int a3), some (.int a4), some (.int (nI a5)), some (.int x7)]) (st' := [.int a4, .int x7]) (h' := Hp S8) 2 (fun Z => rfl) ?_
          by_cases hc : a4 ≤ x7
          · rw [if_pos hc] at hw
            refine wp_st (pc' := 90) (L' := [some (.ref 38), some (.ref a1), some (.int (nI a2)), some (.int a3), some (.int a4), some (.int (nI a5)), some (.int x7)]) (st' := []) (h' := Hp S8) 1 (fun Z => if_pos hc) ?_
            refine wp_st (pc' := 93) (L' := [some (.ref 38), some (.ref a1), some (.int (nI a2)), some (.int a3), some (.int a4), some (.int (nI (a5 + 1))), some (.int x7)]) (st' := []) (h' := Hp S8) 1 (fun Z => by rw [← nI_add a5 1]; rfl) ?_
            exact wp_st 1 (fun Z => rfl) (show wp E (d + 1) m_Downs_nearestWhite 8 [some (.ref 38), some (.ref a1), some (.int (nI a2)), some (.int a3), some (.int a4), some (.int (nI (a5 + 1))), some (.int x7)] [] (Hp S8) (QI Q) from (hw (some (.int x7))))
          · rw [if_neg hc] at hw
            refine wp_st (pc' := 83) (L' := [some (.ref 38), some (.ref a1), some (.int (nI a2)), some (.int a3), some (.int a4), some (.int (nI a5)), some (.int x7)]) (st' := []) (h' := Hp S8) 1 (fun Z => if_neg hc) ?_
            refine wp_st (pc' := 90) (L' := [some (.ref 38), some (.ref a1), some (.int (nI a2)), some (.int (nI a5)), some (.int x7), some (.int (nI a5)), some (.int x7)]) (st' := []) (h' := Hp S8) 4 (fun Z => rfl) ?_
            refine wp_st (pc' := 93) (L' := [some (.ref 38), some (.ref a1), some (.int (nI a2)), some (.int (nI a5)), some (.int x7), some (.int (nI (a5 + 1))), some (.int x7)]) (st' := []) (h' := Hp S8) 1 (fun Z => by rw [← nI_add a5 1]; rfl) ?_
            exact wp_st 1 (fun Z => rfl) (show wp E (d + 1) m_Downs_nearestWhite 8 [some (.ref 38), some (.ref a1), some (.int (nI a2)), some (.int (nI a5)), some (.int x7), some (.int (nI (a5 + 1))), some (.int x7)] [] (Hp S8) (QI Q) from (hw (some (.int x7))))
set_option maxRecDepth 4000 in
theorem w_Downs_ripe {E : zX} {d : Nat} {S : St} {a1 : Nat} {Q : Int32 → St → Prop} (hd : 1 ≤ d) (ha1 : Sc a1)
    (hw : k_Rule_isTold E (d - 1) S 8 (fun x1 S2 =>
    if x1 = 0 then (
      k_Downs_ripe_22 E d S2 a1 0 0 Q)
    else (
      k_Downs_link E (d - 1) S2 a1 (fun S4 =>
      k_Downs_ripe_22 E d S4 a1 0 0 Q)))) :
    k_Downs_ripe E d S a1 Q := by
  obtain ⟨d, rfl⟩ := Nat.exists_eq_add_of_le' hd
  show wp E (d + 1) m_Downs_ripe 0 [some (.ref 38), some (.ref a1), none, none] [] (Hp S) (QI Q)
  refine wp_st (pc' := 3) (L' := [some (.ref 38), some (.ref a1), some (.int 0), none]) (st' := [.ref 38]) (h' := Hp S) 3 (fun Z => rfl) ?_
  refine wp_st (pc' := 6) (L' := [some (.ref 38), some (.ref a1), some (.int 0), none]) (st' := [.ref 3]) (h' := Hp S) 1 (fun Z => gfR (E := E) sh38 rfl _) ?_
  refine wp_st (pc' := 9) (L' := [some (.ref 38), some (.ref a1), some (.int 0), none]) (st' := [.ref 8]) (h' := Hp S) 1 (fun Z => gfR (E := E) sh3 rfl _) ?_
  refine wp_call (pc' := 12) (rest := []) (fun Z => rfl) (isO_of sh8) hw ?_
  rintro o h1 ⟨x1, S2, rfl, rfl, hw⟩
  refine ⟨_, rfl, ?_⟩
  show wp E (d + 1) m_Downs_ripe 12 [some (.ref 38), some (.ref a1), some (.int 0), none] [.int x1] (Hp S2) (QI Q)
  by_cases hc : x1 = 0
  · rw [if_pos hc] at hw
    refine wp_st (pc' := 20) (L' := [some (.ref 38), some (.ref a1), some (.int 0), none]) (st' := []) (h' := Hp S2) 1 (fun Z => if_pos hc) ?_
    exact wp_st 2 (fun Z => rfl) (show wp E (d + 1) m_Downs_ripe 22 [some (.ref 38), some (.ref a1), some (.int 0), some (.int 0)] [] (Hp S2) (QI Q) from hw)
  · rw [if_neg hc] at hw
    refine wp_st (pc' := 15) (L' := [some (.ref 38), some (.ref a1), some (.int 0), none]) (st' := []) (h' := Hp S2) 1 (fun Z => if_neg hc) ?_
    refine wp_st (pc' := 17) (L' := [some (.ref 38), some (.ref a1), some (.int 0), none]) (st' := [.ref a1, .ref 38]) (h' := Hp S2) 2 (fun Z => rfl) ?_
    refine wp_call (pc' := 20) (rest := []) (fun Z => rfl) (isO_of sh38) hw ?_
    rintro o h1 ⟨S4, rfl, rfl, hw⟩
    refine ⟨_, rfl, ?_⟩
    show wp E (d + 1) m_Downs_ripe 20 [some (.ref 38), some (.ref a1), some (.int 0), none] [] (Hp S4) (QI Q)
    exact wp_st 2 (fun Z => rfl) (show wp E (d + 1) m_Downs_ripe 22 [some (.ref 38), some (.ref a1), some (.int 0), some (.int 0)] [] (Hp S4) (QI Q) from hw)
set_option maxRecDepth 4000 in
theorem w_Downs_ripe_22 {E : zX} {d : Nat} {S : St} {a1 : Nat} {a2 : Int32} {a3 : Nat} {Q : Int32 → St → Prop} (hd : 1 ≤ d) (ha1 : Sc a1)
    (hw : if (S 3 4) ≤ (nI a3) then (
      Q a2 S)
    else (
      k_Scene_isWhite E (d - 1) S a1 (nI a3) (fun x1 S2 =>
      if x1 = 0 then (
        k_Downs_isRipe E (d - 1) S2 a1 (nI a3) (fun x3 S4 =>
        if x3 = 0 then (
          k_Downs_ripe_22 E d S4 a1 a2 (a3 + 1) Q)
        else (
          k_Downs_ripe_22 E d S4 a1 (a2 ||| (bt a3)) (a3 + 1) Q)))
      else (
        k_Downs_ripe_22 E d S2 a1 a2 (a3 + 1) Q)))) :
    k_Downs_ripe_22 E d S a1 a2 a3 Q := by
  obtain ⟨d, rfl⟩ := Nat.exists_eq_add_of_le' hd
  show wp E (d + 1) m_Downs_ripe 22 [some (.ref 38), some (.ref a1), some (.int a2), some (.int (nI a3))] [] (Hp S) (QI Q)
  refine wp_st (pc' := 24) (L' := [some (.ref 38), some (.ref a1), some (.int a2), some (.int (nI a3))]) (st' := [.ref 38, .int (nI a3)]) (h' := Hp S) 2 (fun Z => rfl) ?_
  refine wp_st (pc' := 27) (L' := [some (.ref 38), some (.ref a1), some (.int a2), some (.int (nI a3))]) (st' := [.ref 3, .int (nI a3)]) (h' := Hp S) 1 (fun Z => gfR (E := E) sh38 rfl _) ?_
  refine wp_st (pc' := 30) (L' := [some (.ref 38), some (.ref a1), some (.int a2), some (.int (nI a3))]) (st' := [.int (S 3 4), .int (nI a3)]) (h' := Hp S) 1 (fun Z => gfI (E := E) sh3 rfl _) ?_
  by_cases hc : (S 3 4) ≤ (nI a3)
  · rw [if_pos hc] at hw
    refine wp_st (pc' := 62) (L' := [some (.ref 38), some (.ref a1), some (.int a2), some (.int (nI a3))]) (st' := []) (h' := Hp S) 1 (fun Z => if_pos hc) ?_
    refine wp_st (pc' := 63) (L' := [some (.ref 38), some (.ref a1), some (.int a2), some (.int (nI a3))]) (st' := [.int a2]) (h' := Hp S) 1 (fun Z => rfl) ?_
    exact wp_ret (fun Z => rfl) ⟨_, _, rfl, rfl, hw⟩
  · rw [if_neg hc] at hw
    refine wp_st (pc' := 33) (L' := [some (.ref 38), some (.ref a1), some (.int a2), some (.int (nI a3))]) (st' := []) (h' := Hp S) 1 (fun Z => if_neg hc) ?_
    refine wp_st (pc' := 35) (L' := [some (.ref 38), some (.ref a1), some (.int a2), some (.int (nI a3))]) (st' := [.int (nI a3), .ref a1]) (h' := Hp S) 2 (fun Z => rfl) ?_
    refine wp_call (pc' := 38) (rest := []) (fun Z => rfl) (isO_of (ha1).1) hw ?_
    rintro o h1 ⟨x1, S2, rfl, rfl, hw⟩
    refine ⟨_, rfl, ?_⟩
    show wp E (d + 1) m_Downs_ripe 38 [some (.ref 38), some (.ref a1), some (.int a2), some (.int (nI a3))] [.int x1] (Hp S2) (QI Q)
    by_cases hc : x1 = 0
    · rw [if_pos hc] at hw
      refine wp_st (pc' := 41) (L' := [some (.ref 38), some (.ref a1), some (.int a2), some (.int (nI a3))]) (st' := []) (h' := Hp S2) 1 (fun Z => if_pos hc) ?_
      refine wp_st (pc' := 44) (L' := [some (.ref 38), some (.ref a1), some (.int a2), some (.int (nI a3))]) (st' := [.int (nI a3), .ref a1, .ref 38]) (h' := Hp S2) 3 (fun Z => rfl) ?_
      refine wp_call (pc' := 47) (rest := []) (fun Z => rfl) (isO_of sh38) hw ?_
      rintro o h1 ⟨x3, S4, rfl, rfl, hw⟩
      refine ⟨_, rfl, ?_⟩
      show wp E (d + 1) m_Downs_ripe 47 [some (.ref 38), some (.ref a1), some (.int a2), some (.int (nI a3))] [.int x3] (Hp S4) (QI Q)
      by_cases hc : x3 = 0
      · rw [if_pos hc] at hw
        refine wp_st (pc' := 56) (L' := [some (.ref 38), some (.ref a1), some (.int a2), some (.int (nI a3))]) (st' := []) (h' := Hp S4) 1 (fun Z => if_pos hc) ?_
        refine wp_st (pc' := 59) (L' := [some (.ref 38), some (.ref a1), some (.int a2), some (.int (nI (a3 + 1)))]) (st' := []) (h' := Hp S4) 1 (fun Z => by rw [← nI_add a3 1]; rfl) ?_
        exact wp_st 1 (fun Z => rfl) (show wp E (d + 1) m_Downs_ripe 22 [some (.ref 38), some (.ref a1), some (.int a2), some (.int (nI (a3 + 1)))] [] (Hp S4) (QI Q) from hw)
      · rw [if_neg hc] at hw
        refine wp_st (pc' := 50) (L' := [some (.ref 38), some (.ref a1), some (.int a2), some (.int (nI a3))]) (st' := []) (h' := Hp S4) 1 (fun Z => if_neg hc) ?_
        refine wp_st (pc' := 56) (L' := [some (.ref 38), some (.ref a1), some (.int (a2 ||| (bt a3))), some (.int (nI a3))]) (st' := []) (h' := Hp S4) 6 (fun Z => rfl) ?_
        refine wp_st (pc' := 59) (L' := [some (.ref 38), some (.ref a1), some (.int (a2 ||| (bt a3))), some (.int (nI (a3 + 1)))]) (st' := []) (h' := Hp S4) 1 (fun Z => by rw [← nI_add a3 1]; rfl) ?_
        exact wp_st 1 (fun Z => rfl) (show wp E (d + 1) m_Downs_ripe 22 [some (.ref 38), some (.ref a1), some (.int (a2 ||| (bt a3))), some (.int (nI (a3 + 1)))] [] (Hp S4) (QI Q) from hw)
    · rw [if_neg hc] at hw
      refine wp_st (pc' := 56) (L' := [some (.ref 38), some (.ref a1), some (.int a2), some (.int (nI a3))]) (st' := []) (h' := Hp S2) 1 (fun Z => if_neg hc) ?_
      refine wp_st (pc' := 59) (L' := [some (.ref 38), some (.ref a1), some (.int a2), some (.int (nI (a3 + 1)))]) (st' := []) (h' := Hp S2) 1 (fun Z => by rw [← nI_add a3 1]; rfl) ?_
      exact wp_st 1 (fun Z => rfl) (show wp E (d + 1) m_Downs_ripe 22 [some (.ref 38), some (.ref a1), some (.int a2), some (.int (nI (a3 + 1)))] [] (Hp S2) (QI Q) from hw)
set_option maxRecDepth 4000 in
theorem w_Downs_link {E : zX} {d : Nat} {S : St} {a1 : Nat} {Q : St → Prop} (hd : 1 ≤ d) (ha1 : Sc a1)
    (hw : k_Downs_link_2 E d S a1 0 Q) :
    k_Downs_link E d S a1 Q := by
  obtain ⟨d, rfl⟩ := Nat.exists_eq_add_of_le' hd
  show wp E (d + 1) m_Downs_link 0 [some (.ref 38), some (.ref a1), none, none] [] (Hp S) (QV Q)
  exact wp_st 2 (fun Z => rfl) (show wp E (d + 1) m_Downs_link 2 [some (.ref 38), some (.ref a1), some (.int 0), none] [] (Hp S) (QV Q) from (hw none))
set_option maxRecDepth 4000 in
theorem w_Downs_link_2 {E : zX} {d : Nat} {S : St} {a1 : Nat} {a2 : Nat} {Q : St → Prop} (hd : 1 ≤ d) (ha1 : Sc a1)
    (hw : if (S 3 4) ≤ (nI a2) then (
      Q S)
    else (
      a2 < 10 ∧
      ∀ S1, S1 = up S 40 a2 0 →
      k_Downs_link_22 E d S1 a1 a2 0 Q)) :
    k_Downs_link_2 E d S a1 a2 Q := by
  obtain ⟨d, rfl⟩ := Nat.exists_eq_add_of_le' hd
  intro j3
  show wp E (d + 1) m_Downs_link 2 [some (.ref 38), some (.ref a1), some (.int (nI a2)), j3] [] (Hp S) (QV Q)
  refine wp_st (pc' := 4) (L' := [some (.ref 38), some (.ref a1), some (.int (nI a2)), j3]) (st' := [.ref 38, .int (nI a2)]) (h' := Hp S) 2 (fun Z => rfl) ?_
  refine wp_st (pc' := 7) (L' := [some (.ref 38), some (.ref a1), some (.int (nI a2)), j3]) (st' := [.ref 3, .int (nI a2)]) (h' := Hp S) 1 (fun Z => gfR (E := E) sh38 rfl _) ?_
  refine wp_st (pc' := 10) (L' := [some (.ref 38), some (.ref a1), some (.int (nI a2)), j3]) (st' := [.int (S 3 4), .int (nI a2)]) (h' := Hp S) 1 (fun Z => gfI (E := E) sh3 rfl _) ?_
  by_cases hc : (S 3 4) ≤ (nI a2)
  · rw [if_pos hc] at hw
    refine wp_st (pc' := 92) (L' := [some (.ref 38), some (.ref a1), some (.int (nI a2)), j3]) (st' := []) (h' := Hp S) 1 (fun Z => if_pos hc) ?_
    exact wp_ret (fun Z => rfl) ⟨_, rfl, rfl, hw⟩
  · rw [if_neg hc] at hw
    refine wp_st (pc' := 13) (L' := [some (.ref 38), some (.ref a1), some (.int (nI a2)), j3]) (st' := []) (h' := Hp S) 1 (fun Z => if_neg hc) ?_
    refine wp_st (pc' := 14) (L' := [some (.ref 38), some (.ref a1), some (.int (nI a2)), j3]) (st' := [.ref 38]) (h' := Hp S) 1 (fun Z => rfl) ?_
    refine wp_st (pc' := 17) (L' := [some (.ref 38), some (.ref a1), some (.int (nI a2)), j3]) (st' := [.ref 40]) (h' := Hp S) 1 (fun Z => gfR (E := E) sh38 rfl _) ?_
    refine wp_st (pc' := 19) (L' := [some (.ref 38), some (.ref a1), some (.int (nI a2)), j3]) (st' := [.int 0, .int (nI a2), .ref 40]) (h' := Hp S) 2 (fun Z => rfl) ?_
    obtain ⟨hi, hw⟩ := hw
    have hw := hw _ rfl
    refine wp_st (pc' := 20) (L' := [some (.ref 38), some (.ref a1), some (.int (nI a2)), j3]) (st' := []) (h' := Hp (up S 40 a2 0)) 1 (fun Z => stN sh40 (by decide) hi _ _) ?_
    generalize up S 40 a2 0 = S1 at hw ⊢
    exact wp_st 2 (fun Z => rfl) (show wp E (d + 1) m_Downs_link 22 [some (.ref 38), some (.ref a1), some (.int (nI a2)), some (.int 0)] [] (Hp S1) (QV Q) from hw)
set_option maxRecDepth 4000 in
theorem w_Downs_link_22 {E : zX} {d : Nat} {S : St} {a1 : Nat} {a2 : Nat} {a3 : Nat} {Q : St → Prop} (hd : 1 ≤ d) (ha1 : Sc a1)
    (hw : if (S 3 4) ≤ (nI a3) then (
      k_Downs_link_2 E d S a1 (a2 + 1) Q)
    else (
      k_Scene_isWhite E (d - 1) S a1 (nI a2) (fun x1 S2 =>
      if x1 = 0 then (
        if (nI a3) = (nI a2) then (
          k_Downs_link_22 E d S2 a1 a2 (a3 + 1) Q)
        else (
          k_Scene_isWhite E (d - 1) S2 a1 (nI a3) (fun x3 S4 =>
          if x3 = 0 then (
            k_Scene_cellOf E (d - 1) S4 a1 (nI a3) (fun x5 S6 =>
            k_Downs_reaches E (d - 1) S6 a1 (nI a2) x5 (fun x7 S8 =>
            if x7 = 0 then (
              k_Downs_link_22 E d S8 a1 a2 (a3 + 1) Q)
            else (
              a2 < 10 ∧
              a2 < 10 ∧
              ∀ S9, S9 = up S8 40 a2 ((S8 40 a2) ||| (bt a3)) →
              k_Downs_link_22 E d S9 a1 a2 (a3 + 1) Q))))
          else (
            k_Downs_link_22 E d S4 a1 a2 (a3 + 1) Q))))
      else (
        k_Downs_link_2 E d S2 a1 (a2 + 1) Q)))) :
    k_Downs_link_22 E d S a1 a2 a3 Q := by
  obtain ⟨d, rfl⟩ := Nat.exists_eq_add_of_le' hd
  show wp E (d + 1) m_Downs_link 22 [some (.ref 38), some (.ref a1), some (.int (nI a2)), some (.int (nI a3))] [] (Hp S) (QV Q)
  refine wp_st (pc' := 24) (L' := [some (.ref 38), some (.ref a1), some (.int (nI a2)), some (.int (nI a3))]) (st' := [.ref 38, .int (nI a3)]) (h' := Hp S) 2 (fun Z => rfl) ?_
  refine wp_st (pc' := 27) (L' := [some (.ref 38), some (.ref a1), some (.int (nI a2)), some (.int (nI a3))]) (st' := [.ref 3, .int (nI a3)]) (h' := Hp S) 1 (fun Z => gfR (E := E) sh38 rfl _) ?_
  refine wp_st (pc' := 30) (L' := [some (.ref 38), some (.ref a1), some (.int (nI a2)), some (.int (nI a3))]) (st' := [.int (S 3 4), .int (nI a3)]) (h' := Hp S) 1 (fun Z => gfI (E := E) sh3 rfl _) ?_
  by_cases hc : (S 3 4) ≤ (nI a3)
  · rw [if_pos hc] at hw
    refine wp_st (pc' := 86) (L' := [some (.ref 38), some (.ref a1), some (.int (nI a2)), some (.int (nI a3))]) (st' := []) (h' := Hp S) 1 (fun Z => if_pos hc) ?_
    refine wp_st (pc' := 89) (L' := [some (.ref 38), some (.ref a1), some (.int (nI (a2 + 1))), some (.int (nI a3))]) (st' := []) (h' := Hp S) 1 (fun Z => by rw [← nI_add a2 1]; rfl) ?_
    exact wp_st 1 (fun Z => rfl) (show wp E (d + 1) m_Downs_link 2 [some (.ref 38), some (.ref a1), some (.int (nI (a2 + 1))), some (.int (nI a3))] [] (Hp S) (QV Q) from (hw (some (.int (nI a3)))))
  · rw [if_neg hc] at hw
    refine wp_st (pc' := 33) (L' := [some (.ref 38), some (.ref a1), some (.int (nI a2)), some (.int (nI a3))]) (st' := []) (h' := Hp S) 1 (fun Z => if_neg hc) ?_
    refine wp_st (pc' := 35) (L' := [some (.ref 38), some (.ref a1), some (.int (nI a2)), some (.int (nI a3))]) (st' := [.int (nI a2), .ref a1]) (h' := Hp S) 2 (fun Z => rfl) ?_
    refine wp_call (pc' := 38) (rest := []) (fun Z => rfl) (isO_of (ha1).1) hw ?_
    rintro o h1 ⟨x1, S2, rfl, rfl, hw⟩
    refine ⟨_, rfl, ?_⟩
    show wp E (d + 1) m_Downs_link 38 [some (.ref 38), some (.ref a1), some (.int (nI a2)), some (.int (nI a3))] [.int x1] (Hp S2) (QV Q)
    by_cases hc : x1 = 0
    · rw [if_pos hc] at hw
      refine wp_st (pc' := 41) (L' := [some (.ref 38), some (.ref a1), some (.int (nI a2)), some (.int (nI a3))]) (st' := []) (h' := Hp S2) 1 (fun Z => if_pos hc) ?_
      refine wp_st (pc' := 43) (L' := [some (.ref 38), some (.ref a1), some (.int (nI a2)), some (.int (nI a3))]) (st' := [.int (nI a2), .int (nI a3)]) (h' := Hp S2) 2 (fun Z => rfl) ?_
      by_cases hc : (nI a3) = (nI a2)
      · rw [if_pos hc] at hw
        refine wp_st (pc' := 80) (L' := [some (.ref 38), some (.ref a1), some (.int (nI a2)), some (.int (nI a3))]) (st' := []) (h' := Hp S2) 1 (fun Z => if_pos hc) ?_
        refine wp_st (pc' := 83) (L' := [some (.ref 38), some (.ref a1), some (.int (nI a2)), some (.int (nI (a3 + 1)))]) (st' := []) (h' := Hp S2) 1 (fun Z => by rw [← nI_add a3 1]; rfl) ?_
        exact wp_st 1 (fun Z => rfl) (show wp E (d + 1) m_Downs_link 22 [some (.ref 38), some (.ref a1), some (.int (nI a2)), some (.int (nI (a3 + 1)))] [] (Hp S2) (QV Q) from hw)
      · rw [if_neg hc] at hw
        refine wp_st (pc' := 46) (L' := [some (.ref 38), some (.ref a1), some (.int (nI a2)), some (.int (nI a3))]) (st' := []) (h' := Hp S2) 1 (fun Z => if_neg hc) ?_
        refine wp_st (pc' := 48) (L' := [some (.ref 38), some (.ref a1), some (.int (nI a2)), some (.int (nI a3))]) (st' := [.int (nI a3), .ref a1]) (h' := Hp S2) 2 (fun Z => rfl) ?_
        refine wp_call (pc' := 51) (rest := []) (fun Z => rfl) (isO_of (ha1).1) hw ?_
        rintro o h1 ⟨x3, S4, rfl, rfl, hw⟩
        refine ⟨_, rfl, ?_⟩
        show wp E (d + 1) m_Downs_link 51 [some (.ref 38), some (.ref a1), some (.int (nI a2)), some (.int (nI a3))] [.int x3] (Hp S4) (QV Q)
        by_cases hc : x3 = 0
        · rw [if_pos hc] at hw
          refine wp_st (pc' := 54) (L' := [some (.ref 38), some (.ref a1), some (.int (nI a2)), some (.int (nI a3))]) (st' := []) (h' := Hp S4) 1 (fun Z => if_pos hc) ?_
          refine wp_st (pc' := 59) (L' := [some (.ref 38), some (.ref a1), some (.int (nI a2)), some (.int (nI a3))]) (st' := [.int (nI a3), .ref a1, .int (nI a2), .ref a1, .ref 38]) (h' := Hp S4) 5 (fun Z => rfl) ?_
          refine wp_call (pc' := 62) (rest := [.int (nI a2), .ref a1, .ref 38]) (fun Z => rfl) (isO_of (ha1).1) hw ?_
          rintro o h1 ⟨x5, S6, rfl, rfl, hw⟩
          refine ⟨_, rfl, ?_⟩
          show wp E (d + 1) m_Downs_link 62 [some (.ref 38), some (.ref a1), some (.int (nI a2)), some (.int (nI a3))] [.int x5, .int (nI a2), .ref a1, .ref 38] (Hp S6) (QV Q)
          refine wp_call (pc' := 65) (rest := []) (fun Z => rfl) (isO_of sh38) hw ?_
          rintro o h1 ⟨x7, S8, rfl, rfl, hw⟩
          refine ⟨_, rfl, ?_⟩
          show wp E (d + 1) m_Downs_link 65 [some (.ref 38), some (.ref a1), some (.int (nI a2)), some (.int (nI a3))] [.int x7] (Hp S8) (QV Q)
          by_cases hc : x7 = 0
          · rw [if_pos hc] at hw
            refine wp_st (pc' := 80) (L' := [some (.ref 38), some (.ref a1), some (.int (nI a2)), some (.int (nI a3))]) (st' := []) (h' := Hp S8) 1 (fun Z => if_pos hc) ?_
            refine wp_st (pc' := 83) (L' := [some (.ref 38), some (.ref a1), some (.int (nI a2)), some (.int (nI (a3 + 1)))]) (st' := []) (h' := Hp S8) 1 (fun Z => by rw [← nI_add a3 1]; rfl) ?_
            exact wp_st 1 (fun Z => rfl) (show wp E (d + 1) m_Downs_link 22 [some (.ref 38), some (.ref a1), some (.int (nI a2)), some (.int (nI (a3 + 1)))] [] (Hp S8) (QV Q) from hw)
          · rw [if_neg hc] at hw
            refine wp_st (pc' := 68) (L' := [some (.ref 38), some (.ref a1), some (.int (nI a2)), some (.int (nI a3))]) (st' := []) (h' := Hp S8) 1 (fun Z => if_neg hc) ?_
            refine wp_st (pc' := 69) (L' := [some (.ref 38), some (.ref a1), some (.int (nI a2)), some (.int (nI a3))]) (st' := [.ref 38]) (h' := Hp S8) 1 (fun Z => rfl) ?_
            refine wp_st (pc' := 72) (L' := [some (.ref 38), some (.ref a1), some (.int (nI a2)), some (.int (nI a3))]) (st' := [.ref 40]) (h' := Hp S8) 1 (fun Z => gfR (E := E) sh38 rfl _) ?_
            refine wp_st (pc' := 74) (L' := [some (.ref 38), some (.ref a1), some (.int (nI a2)), some (.int (nI a3))]) (st' := [.int (nI a2), .ref 40, .int (nI a2), .ref 40]) (h' := Hp S8) 2 (fun Z => rfl) ?_
            obtain ⟨hi, hw⟩ := hw
            refine wp_st (pc' := 75) (L' := [some (.ref 38), some (.ref a1), some (.int (nI a2)), some (.int (nI a3))]) (st' := [.int (S8 40 a2), .int (nI a2), .ref 40]) (h' := Hp S8) 1 (fun Z => ldN (E := E) sh40 (by decide) hi [.int (nI a2), .ref 40] (fun st => Z (d + 1) m_Downs_link 75 [some (.ref 38), some (.ref a1), some (.int (nI a2)), some (.int (nI a3))] st (Hp S8))) ?_
            refine wp_st (pc' := 79) (L' := [some (.ref 38), some (.ref a1), some (.int (nI a2)), some (.int (nI a3))]) (st' := [.int ((S8 40 a2) ||| (bt a3)), .int (nI a2), .ref 40]) (h' := Hp S8) 4 (fun Z => rfl) ?_
            obtain ⟨hi, hw⟩ := hw
            have hw := hw _ rfl
            refine wp_st (pc' := 80) (L' := [some (.ref 38), some (.ref a1), some (.int (nI a2)), some (.int (nI a3))]) (st' := []) (h' := Hp (up S8 40 a2 ((S8 40 a2) ||| (bt a3)))) 1 (fun Z => stN sh40 (by decide) hi _ _) ?_
            generalize up S8 40 a2 ((S8 40 a2) ||| (bt a3)) = S9 at hw ⊢
            refine wp_st (pc' := 83) (L' := [some (.ref 38), some (.ref a1), some (.int (nI a2)), some (.int (nI (a3 + 1)))]) (st' := []) (h' := Hp S9) 1 (fun Z => by rw [← nI_add a3 1]; rfl) ?_
            exact wp_st 1 (fun Z => rfl) (show wp E (d + 1) m_Downs_link 22 [some (.ref 38), some (.ref a1), some (.int (nI a2)), some (.int (nI (a3 + 1)))] [] (Hp S9) (QV Q) from hw)
        · rw [if_neg hc] at hw
          refine wp_st (pc' := 80) (L' := [some (.ref 38), some (.ref a1), some (.int (nI a2)), some (.int (nI a3))]) (st' := []) (h' := Hp S4) 1 (fun Z => if_neg hc) ?_
          refine wp_st (pc' := 83) (L' := [some (.ref 38), some (.ref a1), some (.int (nI a2)), some (.int (nI (a3 + 1)))]) (st' := []) (h' := Hp S4) 1 (fun Z => by rw [← nI_add a3 1]; rfl) ?_
          exact wp_st 1 (fun Z => rfl) (show wp E (d + 1) m_Downs_link 22 [some (.ref 38), some (.ref a1), some (.int (nI a2)), some (.int (nI (a3 + 1)))] [] (Hp S4) (QV Q) from hw)
    · rw [if_neg hc] at hw
      refine wp_st (pc' := 86) (L' := [some (.ref 38), some (.ref a1), some (.int (nI a2)), some (.int (nI a3))]) (st' := []) (h' := Hp S2) 1 (fun Z => if_neg hc) ?_
      refine wp_st (pc' := 89) (L' := [some (.ref 38), some (.ref a1), some (.int (nI (a2 + 1))), some (.int (nI a3))]) (st' := []) (h' := Hp S2) 1 (fun Z => by rw [← nI_add a2 1]; rfl) ?_
      exact wp_st 1 (fun Z => rfl) (show wp E (d + 1) m_Downs_link 2 [some (.ref 38), some (.ref a1), some (.int (nI (a2 + 1))), some (.int (nI a3))] [] (Hp S2) (QV Q) from (hw (some (.int (nI a3)))))
set_option maxRecDepth 4000 in
theorem w_Downs_reaches {E : zX} {d : Nat} {S : St} {a1 : Nat} {a2 : Nat} {a3 : Nat} {Q : Int32 → St → Prop} (hd : 1 ≤ d) (ha1 : Sc a1)
    (hw : k_Scene_cellOf E (d - 1) S a1 (nI a2) (fun x1 S2 =>
    k_Land_far E (d - 1) S2 x1 (nI a3) (fun x3 S4 =>
    k_Scene_heldIn E (d - 1) S4 a1 (nI a2) (fun x5 S6 =>
    if (x5 / 10) < x3 then (
      Q (0 : Int32) S6)
    else (
      Q (1 : Int32) S6))))) :
    k_Downs_reaches E d S a1 (nI a2) (nI a3) Q := by
  obtain ⟨d, rfl⟩ := Nat.exists_eq_add_of_le' hd
  show wp E (d + 1) m_Downs_reaches 0 [some (.ref 38), some (.ref a1), some (.int (nI a2)), some (.int (nI a3))] [] (Hp S) (QI Q)
  refine wp_st (pc' := 1) (L' := [some (.ref 38), some (.ref a1), some (.int (nI a2)), some (.int (nI a3))]) (st' := [.ref 38]) (h' := Hp S) 1 (fun Z => rfl) ?_
  refine wp_st (pc' := 4) (L' := [some (.ref 38), some (.ref a1), some (.int (nI a2)), some (.int (nI a3))]) (st' := [.ref 3]) (h' := Hp S) 1 (fun Z => gfR (E := E) sh38 rfl _) ?_
  refine wp_st (pc' := 6) (L' := [some (.ref 38), some (.ref a1), some (.int (nI a2)), some (.int (nI a3))]) (st' := [.int (nI a2), .ref a1, .ref 3]) (h' := Hp S) 2 (fun Z => rfl) ?_
  refine wp_call (pc' := 9) (rest := [.ref 3]) (fun Z => rfl) (isO_of (ha1).1) hw ?_
  rintro o h1 ⟨x1, S2, rfl, rfl, hw⟩
  refine ⟨_, rfl, ?_⟩
  show wp E (d + 1) m_Downs_reaches 9 [some (.ref 38), some (.ref a1), some (.int (nI a2)), some (.int (nI a3))] [.int x1, .ref 3] (Hp S2) (QI Q)
  refine wp_st (pc' := 10) (L' := [some (.ref 38), some (.ref a1), some (.int (nI a2)), some (.int (nI a3))]) (st' := [.int (nI a3), .int x1, .ref 3]) (h' := Hp S2) 1 (fun Z => rfl) ?_
  refine wp_call (pc' := 13) (rest := []) (fun Z => rfl) (isO_of sh3) hw ?_
  rintro o h1 ⟨x3, S4, rfl, rfl, hw⟩
  refine ⟨_, rfl, ?_⟩
  show wp E (d + 1) m_Downs_reaches 13 [some (.ref 38), some (.ref a1), some (.int (nI a2)), some (.int (nI a3))] [.int x3] (Hp S4) (QI Q)
  refine wp_st (pc' := 15) (L' := [some (.ref 38), some (.ref a1), some (.int (nI a2)), some (.int (nI a3))]) (st' := [.int (nI a2), .ref a1, .int x3]) (h' := Hp S4) 2 (fun Z => rfl) ?_
  refine wp_call (pc' := 18) (rest := [.int x3]) (fun Z => rfl) (isO_of (ha1).1) hw ?_
  rintro o h1 ⟨x5, S6, rfl, rfl, hw⟩
  refine ⟨_, rfl, ?_⟩
  show wp E (d + 1) m_Downs_reaches 18 [some (.ref 38), some (.ref a1), some (.int (nI a2)), some (.int (nI a3))] [.int x5, .int x3] (Hp S6) (QI Q)
  refine wp_st (pc' := 20) (L' := [some (.ref 38), some (.ref a1), some (.int (nI a2)), some (.int (nI a3))]) (st' := [.int 10, .int x5, .int x3]) (h' := Hp S6) 1 (fun Z => rfl) ?_
  refine wp_st (pc' := 21) (L' := [some (.ref 38), some (.ref a1), some (.int (nI a2)), some (.int (nI a3))]) (st' := [.int (x5 / 10), .int x3]) (h' := Hp S6) 1 (fun Z => rfl) ?_
  by_cases hc : (x5 / 10) < x3
  · rw [if_pos hc] at hw
    refine wp_st (pc' := 28) (L' := [some (.ref 38), some (.ref a1), some (.int (nI a2)), some (.int (nI a3))]) (st' := []) (h' := Hp S6) 1 (fun Z => if_pos hc) ?_
    refine wp_st (pc' := 29) (L' := [some (.ref 38), some (.ref a1), some (.int (nI a2)), some (.int (nI a3))]) (st' := [.int 0]) (h' := Hp S6) 1 (fun Z => rfl) ?_
    exact wp_ret (fun Z => rfl) ⟨_, _, rfl, rfl, hw⟩
  · rw [if_neg hc] at hw
    refine wp_st (pc' := 24) (L' := [some (.ref 38), some (.ref a1), some (.int (nI a2)), some (.int (nI a3))]) (st' := []) (h' := Hp S6) 1 (fun Z => if_neg hc) ?_
    refine wp_st (pc' := 29) (L' := [some (.ref 38), some (.ref a1), some (.int (nI a2)), some (.int (nI a3))]) (st' := [.int 1]) (h' := Hp S6) 2 (fun Z => rfl) ?_
    exact wp_ret (fun Z => rfl) ⟨_, _, rfl, rfl, hw⟩
set_option maxRecDepth 4000 in
theorem w_Downs_isRipe {E : zX} {d : Nat} {S : St} {a1 : Nat} {a2 : Nat} {Q : Int32 → St → Prop} (hd : 1 ≤ d) (ha1 : Sc a1)
    (hw : k_Rule_isTold E (d - 1) S 8 (fun x1 S2 =>
    if x1 = 0 then (
      k_Scene_ageOf E (d - 1) S2 a1 (nI a2) (fun x3 S4 =>
      if x3 < 10 then (
        Q (0 : Int32) S4)
      else (
        Q (1 : Int32) S4)))
    else (
      k_Scene_heldIn E (d - 1) S2 a1 (nI a2) (fun x5 S6 =>
      ∀ S7, S7 = up S6 41 0 x5 →
      a2 < 10 ∧
      ∀ S8, S8 = up S7 41 1 (S7 5 a2) →
      k_Scene_ageOf E (d - 1) S8 a1 (nI a2) (fun x9 S10 =>
      ∀ S11, S11 = up S10 41 2 x9 →
      a2 < 10 ∧
      k_Integer_bitCount E (d - 1) S11 (S11 40 a2) (fun x12 S13 =>
      ∀ S14, S14 = up S13 41 3 x12 →
      k_Scene_day E (d - 1) S14 a1 (fun x15 S16 =>
      ∀ S17, S17 = up S16 41 4 x15 →
      k_Rule_worth E (d - 1) S17 8 (fun x18 S19 =>
      if x18 ≤ 0 then (
        Q (0 : Int32) S19)
      else (
        Q (1 : Int32) S19))))))))) :
    k_Downs_isRipe E d S a1 (nI a2) Q := by
  obtain ⟨d, rfl⟩ := Nat.exists_eq_add_of_le' hd
  show wp E (d + 1) m_Downs_isRipe 0 [some (.ref 38), some (.ref a1), some (.int (nI a2))] [] (Hp S) (QI Q)
  refine wp_st (pc' := 1) (L' := [some (.ref 38), some (.ref a1), some (.int (nI a2))]) (st' := [.ref 38]) (h' := Hp S) 1 (fun Z => rfl) ?_
  refine wp_st (pc' := 4) (L' := [some (.ref 38), some (.ref a1), some (.int (nI a2))]) (st' := [.ref 3]) (h' := Hp S) 1 (fun Z => gfR (E := E) sh38 rfl _) ?_
  refine wp_st (pc' := 7) (L' := [some (.ref 38), some (.ref a1), some (.int (nI a2))]) (st' := [.ref 8]) (h' := Hp S) 1 (fun Z => gfR (E := E) sh3 rfl _) ?_
  refine wp_call (pc' := 10) (rest := []) (fun Z => rfl) (isO_of sh8) hw ?_
  rintro o h1 ⟨x1, S2, rfl, rfl, hw⟩
  refine ⟨_, rfl, ?_⟩
  show wp E (d + 1) m_Downs_isRipe 10 [some (.ref 38), some (.ref a1), some (.int (nI a2))] [.int x1] (Hp S2) (QI Q)
  by_cases hc : x1 = 0
  · rw [if_pos hc] at hw
    refine wp_st (pc' := 13) (L' := [some (.ref 38), some (.ref a1), some (.int (nI a2))]) (st' := []) (h' := Hp S2) 1 (fun Z => if_pos hc) ?_
    refine wp_st (pc' := 15) (L' := [some (.ref 38), some (.ref a1), some (.int (nI a2))]) (st' := [.int (nI a2), .ref a1]) (h' := Hp S2) 2 (fun Z => rfl) ?_
    refine wp_call (pc' := 18) (rest := []) (fun Z => rfl) (isO_of (ha1).1) hw ?_
    rintro o h1 ⟨x3, S4, rfl, rfl, hw⟩
    refine ⟨_, rfl, ?_⟩
    show wp E (d + 1) m_Downs_isRipe 18 [some (.ref 38), some (.ref a1), some (.int (nI a2))] [.int x3] (Hp S4) (QI Q)
    refine wp_st (pc' := 20) (L' := [some (.ref 38), some (.ref a1), some (.int (nI a2))]) (st' := [.int 10, .int x3]) (h' := Hp S4) 1 (fun Z => rfl) ?_
    by_cases hc : x3 < 10
    · rw [if_pos hc] at hw
      refine wp_st (pc' := 27) (L' := [some (.ref 38), some (.ref a1), some (.int (nI a2))]) (st' := []) (h' := Hp S4) 1 (fun Z => if_pos hc) ?_
      refine wp_st (pc' := 28) (L' := [some (.ref 38), some (.ref a1), some (.int (nI a2))]) (st' := [.int 0]) (h' := Hp S4) 1 (fun Z => rfl) ?_
      exact wp_ret (fun Z => rfl) ⟨_, _, rfl, rfl, hw⟩
    · rw [if_neg hc] at hw
      refine wp_st (pc' := 23) (L' := [some (.ref 38), some (.ref a1), some (.int (nI a2))]) (st' := []) (h' := Hp S4) 1 (fun Z => if_neg hc) ?_
      refine wp_st (pc' := 28) (L' := [some (.ref 38), some (.ref a1), some (.int (nI a2))]) (st' := [.int 1]) (h' := Hp S4) 2 (fun Z => rfl) ?_
      exact wp_ret (fun Z => rfl) ⟨_, _, rfl, rfl, hw⟩
  · rw [if_neg hc] at hw
    refine wp_st (pc' := 29) (L' := [some (.ref 38), some (.ref a1), some (.int (nI a2))]) (st' := []) (h' := Hp S2) 1 (fun Z => if_neg hc) ?_
    refine wp_st (pc' := 30) (L' := [some (.ref 38), some (.ref a1), some (.int (nI a2))]) (st' := [.ref 38]) (h' := Hp S2) 1 (fun Z => rfl) ?_
    refine wp_st (pc' := 33) (L' := [some (.ref 38), some (.ref a1), some (.int (nI a2))]) (st' := [.ref 41]) (h' := Hp S2) 1 (fun Z => gfR (E := E) sh38 rfl _) ?_
    refine wp_st (pc' := 36) (L' := [some (.ref 38), some (.ref a1), some (.int (nI a2))]) (st' := [.int (nI a2), .ref a1, .int 0, .ref 41]) (h' := Hp S2) 3 (fun Z => rfl) ?_
    refine wp_call (pc' := 39) (rest := [.int 0, .ref 41]) (fun Z => rfl) (isO_of (ha1).1) hw ?_
    rintro o h1 ⟨x5, S6, rfl, rfl, hw⟩
    refine ⟨_, rfl, ?_⟩
    show wp E (d + 1) m_Downs_isRipe 39 [some (.ref 38), some (.ref a1), some (.int (nI a2))] [.int x5, .int 0, .ref 41] (Hp S6) (QI Q)
    have hw := hw _ rfl
    refine wp_st (pc' := 40) (L' := [some (.ref 38), some (.ref a1), some (.int (nI a2))]) (st' := []) (h' := Hp (up S6 41 0 x5)) 1 (fun Z => stN sh41 (by decide) (by decide) _ _) ?_
    generalize up S6 41 0 x5 = S7 at hw ⊢
    refine wp_st (pc' := 41) (L' := [some (.ref 38), some (.ref a1), some (.int (nI a2))]) (st' := [.ref 38]) (h' := Hp S7) 1 (fun Z => rfl) ?_
    refine wp_st (pc' := 44) (L' := [some (.ref 38), some (.ref a1), some (.int (nI a2))]) (st' := [.ref 41]) (h' := Hp S7) 1 (fun Z => gfR (E := E) sh38 rfl _) ?_
    refine wp_st (pc' := 46) (L' := [some (.ref 38), some (.ref a1), some (.int (nI a2))]) (st' := [.ref 38, .int 1, .ref 41]) (h' := Hp S7) 2 (fun Z => rfl) ?_
    refine wp_st (pc' := 49) (L' := [some (.ref 38), some (.ref a1), some (.int (nI a2))]) (st' := [.ref 3, .int 1, .ref 41]) (h' := Hp S7) 1 (fun Z => gfR (E := E) sh38 rfl _) ?_
    refine wp_st (pc' := 52) (L' := [some (.ref 38), some (.ref a1), some (.int (nI a2))]) (st' := [.ref 5, .int 1, .ref 41]) (h' := Hp S7) 1 (fun Z => gfR (E := E) sh3 rfl _) ?_
    refine wp_st (pc' := 53) (L' := [some (.ref 38), some (.ref a1), some (.int (nI a2))]) (st' := [.int (nI a2), .ref 5, .int 1, .ref 41]) (h' := Hp S7) 1 (fun Z => rfl) ?_
    obtain ⟨hi, hw⟩ := hw
    refine wp_st (pc' := 54) (L' := [some (.ref 38), some (.ref a1), some (.int (nI a2))]) (st' := [.int (S7 5 a2), .int 1, .ref 41]) (h' := Hp S7) 1 (fun Z => ldN (E := E) sh5 (by decide) hi [.int 1, .ref 41] (fun st => Z (d + 1) m_Downs_isRipe 54 [some (.ref 38), some (.ref a1), some (.int (nI a2))] st (Hp S7))) ?_
    have hw := hw _ rfl
    refine wp_st (pc' := 55) (L' := [some (.ref 38), some (.ref a1), some (.int (nI a2))]) (st' := []) (h' := Hp (up S7 41 1 (S7 5 a2))) 1 (fun Z => stN sh41 (by decide) (by decide) _ _) ?_
    generalize up S7 41 1 (S7 5 a2) = S8 at hw ⊢
    refine wp_st (pc' := 56) (L' := [some (.ref 38), some (.ref a1), some (.int (nI a2))]) (st' := [.ref 38]) (h' := Hp S8) 1 (fun Z => rfl) ?_
    refine wp_st (pc' := 59) (L' := [some (.ref 38), some (.ref a1), some (.int (nI a2))]) (st' := [.ref 41]) (h' := Hp S8) 1 (fun Z => gfR (E := E) sh38 rfl _) ?_
    refine wp_st (pc' := 62) (L' := [some (.ref 38), some (.ref a1), some (.int (nI a2))]) (st' := [.int (nI a2), .ref a1, .int 2, .ref 41]) (h' := Hp S8) 3 (fun Z => rfl) ?_
    refine wp_call (pc' := 65) (rest := [.int 2, .ref 41]) (fun Z => rfl) (isO_of (ha1).1) hw ?_
    rintro o h1 ⟨x9, S10, rfl, rfl, hw⟩
    refine ⟨_, rfl, ?_⟩
    show wp E (d + 1) m_Downs_isRipe 65 [some (.ref 38), some (.ref a1), some (.int (nI a2))] [.int x9, .int 2, .ref 41] (Hp S10) (QI Q)
    have hw := hw _ rfl
    refine wp_st (pc' := 66) (L' := [some (.ref 38), some (.ref a1), some (.int (nI a2))]) (st' := []) (h' := Hp (up S10 41 2 x9)) 1 (fun Z => stN sh41 (by decide) (by decide) _ _) ?_
    generalize up S10 41 2 x9 = S11 at hw ⊢
    refine wp_st (pc' := 67) (L' := [some (.ref 38), some (.ref a1), some (.int (nI a2))]) (st' := [.ref 38]) (h' := Hp S11) 1 (fun Z => rfl) ?_
    refine wp_st (pc' := 70) (L' := [some (.ref 38), some (.ref a1), some (.int (nI a2))]) (st' := [.ref 41]) (h' := Hp S11) 1 (fun Z => gfR (E := E) sh38 rfl _) ?_
    refine wp_st (pc' := 72) (L' := [some (.ref 38), some (.ref a1), some (.int (nI a2))]) (st' := [.ref 38, .int 3, .ref 41]) (h' := Hp S11) 2 (fun Z => rfl) ?_
    refine wp_st (pc' := 75) (L' := [some (.ref 38), some (.ref a1), some (.int (nI a2))]) (st' := [.ref 40, .int 3, .ref 41]) (h' := Hp S11) 1 (fun Z => gfR (E := E) sh38 rfl _) ?_
    refine wp_st (pc' := 76) (L' := [some (.ref 38), some (.ref a1), some (.int (nI a2))]) (st' := [.int (nI a2), .ref 40, .int 3, .ref 41]) (h' := Hp S11) 1 (fun Z => rfl) ?_
    obtain ⟨hi, hw⟩ := hw
    refine wp_st (pc' := 77) (L' := [some (.ref 38), some (.ref a1), some (.int (nI a2))]) (st' := [.int (S11 40 a2), .int 3, .ref 41]) (h' := Hp S11) 1 (fun Z => ldN (E := E) sh40 (by decide) hi [.int 3, .ref 41] (fun st => Z (d + 1) m_Downs_isRipe 77 [some (.ref 38), some (.ref a1), some (.int (nI a2))] st (Hp S11))) ?_
    refine wp_call (pc' := 80) (rest := [.int 3, .ref 41]) (fun Z => rfl) rfl hw ?_
    rintro o h1 ⟨x12, S13, rfl, rfl, hw⟩
    refine ⟨_, rfl, ?_⟩
    show wp E (d + 1) m_Downs_isRipe 80 [some (.ref 38), some (.ref a1), some (.int (nI a2))] [.int x12, .int 3, .ref 41] (Hp S13) (QI Q)
    have hw := hw _ rfl
    refine wp_st (pc' := 81) (L' := [some (.ref 38), some (.ref a1), some (.int (nI a2))]) (st' := []) (h' := Hp (up S13 41 3 x12)) 1 (fun Z => stN sh41 (by decide) (by decide) _ _) ?_
    generalize up S13 41 3 x12 = S14 at hw ⊢
    refine wp_st (pc' := 82) (L' := [some (.ref 38), some (.ref a1), some (.int (nI a2))]) (st' := [.ref 38]) (h' := Hp S14) 1 (fun Z => rfl) ?_
    refine wp_st (pc' := 85) (L' := [some (.ref 38), some (.ref a1), some (.int (nI a2))]) (st' := [.ref 41]) (h' := Hp S14) 1 (fun Z => gfR (E := E) sh38 rfl _) ?_
    refine wp_st (pc' := 87) (L' := [some (.ref 38), some (.ref a1), some (.int (nI a2))]) (st' := [.ref a1, .int 4, .ref 41]) (h' := Hp S14) 2 (fun Z => rfl) ?_
    refine wp_call (pc' := 90) (rest := [.int 4, .ref 41]) (fun Z => rfl) (isO_of (ha1).1) hw ?_
    rintro o h1 ⟨x15, S16, rfl, rfl, hw⟩
    refine ⟨_, rfl, ?_⟩
    show wp E (d + 1) m_Downs_isRipe 90 [some (.ref 38), some (.ref a1), some (.int (nI a2))] [.int x15, .int 4, .ref 41] (Hp S16) (QI Q)
    have hw := hw _ rfl
    refine wp_st (pc' := 91) (L' := [some (.ref 38), some (.ref a1), some (.int (nI a2))]) (st' := []) (h' := Hp (up S16 41 4 x15)) 1 (fun Z => stN sh41 (by decide) (by decide) _ _) ?_
    generalize up S16 41 4 x15 = S17 at hw ⊢
    refine wp_st (pc' := 92) (L' := [some (.ref 38), some (.ref a1), some (.int (nI a2))]) (st' := [.ref 38]) (h' := Hp S17) 1 (fun Z => rfl) ?_
    refine wp_st (pc' := 95) (L' := [some (.ref 38), some (.ref a1), some (.int (nI a2))]) (st' := [.ref 3]) (h' := Hp S17) 1 (fun Z => gfR (E := E) sh38 rfl _) ?_
    refine wp_st (pc' := 98) (L' := [some (.ref 38), some (.ref a1), some (.int (nI a2))]) (st' := [.ref 8]) (h' := Hp S17) 1 (fun Z => gfR (E := E) sh3 rfl _) ?_
    refine wp_st (pc' := 99) (L' := [some (.ref 38), some (.ref a1), some (.int (nI a2))]) (st' := [.ref 38, .ref 8]) (h' := Hp S17) 1 (fun Z => rfl) ?_
    refine wp_st (pc' := 102) (L' := [some (.ref 38), some (.ref a1), some (.int (nI a2))]) (st' := [.ref 41, .ref 8]) (h' := Hp S17) 1 (fun Z => gfR (E := E) sh38 rfl _) ?_
    refine wp_st (pc' := 103) (L' := [some (.ref 38), some (.ref a1), some (.int (nI a2))]) (st' := [.ref 38, .ref 41, .ref 8]) (h' := Hp S17) 1 (fun Z => rfl) ?_
    refine wp_st (pc' := 106) (L' := [some (.ref 38), some (.ref a1), some (.int (nI a2))]) (st' := [.ref 42, .ref 41, .ref 8]) (h' := Hp S17) 1 (fun Z => gfR (E := E) sh38 rfl _) ?_
    refine wp_call (pc' := 109) (rest := []) (fun Z => rfl) (isO_of sh8) hw ?_
    rintro o h1 ⟨x18, S19, rfl, rfl, hw⟩
    refine ⟨_, rfl, ?_⟩
    show wp E (d + 1) m_Downs_isRipe 109 [some (.ref 38), some (.ref a1), some (.int (nI a2))] [.int x18] (Hp S19) (QI Q)
    by_cases hc : x18 ≤ 0
    · rw [if_pos hc] at hw
      refine wp_st (pc' := 116) (L' := [some (.ref 38), some (.ref a1), some (.int (nI a2))]) (st' := []) (h' := Hp S19) 1 (fun Z => if_pos hc) ?_
      refine wp_st (pc' := 117) (L' := [some (.ref 38), some (.ref a1), some (.int (nI a2))]) (st' := [.int 0]) (h' := Hp S19) 1 (fun Z => rfl) ?_
      exact wp_ret (fun Z => rfl) ⟨_, _, rfl, rfl, hw⟩
    · rw [if_neg hc] at hw
      refine wp_st (pc' := 112) (L' := [some (.ref 38), some (.ref a1), some (.int (nI a2))]) (st' := []) (h' := Hp S19) 1 (fun Z => if_neg hc) ?_
      refine wp_st (pc' := 117) (L' := [some (.ref 38), some (.ref a1), some (.int (nI a2))]) (st' := [.int 1]) (h' := Hp S19) 2 (fun Z => rfl) ?_
      exact wp_ret (fun Z => rfl) ⟨_, _, rfl, rfl, hw⟩
set_option maxRecDepth 4000 in
theorem w_Downs_burst {E : zX} {d : Nat} {S : St} {a1 : Nat} {a2 : Int32} {Q : Int32 → St → Prop} (hd : 1 ≤ d) (ha1 : Sc a1)
    (hw : if a2 = 0 then (
      Q (0 : Int32) S)
    else (
      k_Downs_link E (d - 1) S a1 (fun S2 =>
      k_Scene_guards E (d - 1) S2 a1 (fun x3 S4 =>
      k_Downs_chain E (d - 1) S4 a2 x3 (fun x5 S6 =>
      k_Downs_burst_24 E d S6 a1 x5 0 Q))))) :
    k_Downs_burst E d S a1 a2 Q := by
  obtain ⟨d, rfl⟩ := Nat.exists_eq_add_of_le' hd
  show wp E (d + 1) m_Downs_burst 0 [some (.ref 38), some (.ref a1), some (.int a2), none, none] [] (Hp S) (QI Q)
  refine wp_st (pc' := 1) (L' := [some (.ref 38), some (.ref a1), some (.int a2), none, none]) (st' := [.int a2]) (h' := Hp S) 1 (fun Z => rfl) ?_
  by_cases hc : a2 = 0
  · rw [if_pos hc] at hw
    refine wp_st (pc' := 4) (L' := [some (.ref 38), some (.ref a1), some (.int a2), none, none]) (st' := []) (h' := Hp S) 1 (fun Z => if_pos hc) ?_
    refine wp_st (pc' := 5) (L' := [some (.ref 38), some (.ref a1), some (.int a2), none, none]) (st' := [.int 0]) (h' := Hp S) 1 (fun Z => rfl) ?_
    exact wp_ret (fun Z => rfl) ⟨_, _, rfl, rfl, hw⟩
  · rw [if_neg hc] at hw
    refine wp_st (pc' := 6) (L' := [some (.ref 38), some (.ref a1), some (.int a2), none, none]) (st' := []) (h' := Hp S) 1 (fun Z => if_neg hc) ?_
    refine wp_st (pc' := 8) (L' := [some (.ref 38), some (.ref a1), some (.int a2), none, none]) (st' := [.ref a1, .ref 38]) (h' := Hp S) 2 (fun Z => rfl) ?_
    refine wp_call (pc' := 11) (rest := []) (fun Z => rfl) (isO_of sh38) hw ?_
    rintro o h1 ⟨S2, rfl, rfl, hw⟩
    refine ⟨_, rfl, ?_⟩
    show wp E (d + 1) m_Downs_burst 11 [some (.ref 38), some (.ref a1), some (.int a2), none, none] [] (Hp S2) (QI Q)
    refine wp_st (pc' := 14) (L' := [some (.ref 38), some (.ref a1), some (.int a2), none, none]) (st' := [.ref a1, .int a2, .ref 38]) (h' := Hp S2) 3 (fun Z => rfl) ?_
    refine wp_call (pc' := 17) (rest := [.int a2, .ref 38]) (fun Z => rfl) (isO_of (ha1).1) hw ?_
    rintro o h1 ⟨x3, S4, rfl, rfl, hw⟩
    refine ⟨_, rfl, ?_⟩
    show wp E (d + 1) m_Downs_burst 17 [some (.ref 38), some (.ref a1), some (.int a2), none, none] [.int x3, .int a2, .ref 38] (Hp S4) (QI Q)
    refine wp_call (pc' := 20) (rest := []) (fun Z => rfl) (isO_of sh38) hw ?_
    rintro o h1 ⟨x5, S6, rfl, rfl, hw⟩
    refine ⟨_, rfl, ?_⟩
    show wp E (d + 1) m_Downs_burst 20 [some (.ref 38), some (.ref a1), some (.int a2), none, none] [.int x5] (Hp S6) (QI Q)
    exact wp_st 3 (fun Z => rfl) (show wp E (d + 1) m_Downs_burst 24 [some (.ref 38), some (.ref a1), some (.int a2), some (.int x5), some (.int 0)] [] (Hp S6) (QI Q) from (hw (some (.int a2))))
set_option maxRecDepth 4000 in
theorem w_Downs_burst_24 {E : zX} {d : Nat} {S : St} {a1 : Nat} {a3 : Int32} {a4 : Nat} {Q : Int32 → St → Prop} (hd : 1 ≤ d) (ha1 : Sc a1)
    (hw : if (S 3 3) ≤ (nI a4) then (
      k_Downs_burst_59 E d S a1 a3 0 Q)
    else (
      k_Downs_heardOf E (d - 1) S a1 a3 (nI a4) (fun x1 S2 =>
      k_Scene_hear E (d - 1) S2 a1 (nI a4) x1 (fun S4 =>
      k_Downs_burst_24 E d S4 a1 a3 (a4 + 1) Q)))) :
    k_Downs_burst_24 E d S a1 a3 a4 Q := by
  obtain ⟨d, rfl⟩ := Nat.exists_eq_add_of_le' hd
  intro j2
  show wp E (d + 1) m_Downs_burst 24 [some (.ref 38), some (.ref a1), j2, some (.int a3), some (.int (nI a4))] [] (Hp S) (QI Q)
  refine wp_st (pc' := 27) (L' := [some (.ref 38), some (.ref a1), j2, some (.int a3), some (.int (nI a4))]) (st' := [.ref 38, .int (nI a4)]) (h' := Hp S) 2 (fun Z => rfl) ?_
  refine wp_st (pc' := 30) (L' := [some (.ref 38), some (.ref a1), j2, some (.int a3), some (.int (nI a4))]) (st' := [.ref 3, .int (nI a4)]) (h' := Hp S) 1 (fun Z => gfR (E := E) sh38 rfl _) ?_
  refine wp_st (pc' := 33) (L' := [some (.ref 38), some (.ref a1), j2, some (.int a3), some (.int (nI a4))]) (st' := [.int (S 3 3), .int (nI a4)]) (h' := Hp S) 1 (fun Z => gfI (E := E) sh3 rfl _) ?_
  by_cases hc : (S 3 3) ≤ (nI a4)
  · rw [if_pos hc] at hw
    refine wp_st (pc' := 56) (L' := [some (.ref 38), some (.ref a1), j2, some (.int a3), some (.int (nI a4))]) (st' := []) (h' := Hp S) 1 (fun Z => if_pos hc) ?_
    exact wp_st 2 (fun Z => rfl) (show wp E (d + 1) m_Downs_burst 59 [some (.ref 38), some (.ref a1), j2, some (.int a3), some (.int 0)] [] (Hp S) (QI Q) from (hw j2))
  · rw [if_neg hc] at hw
    refine wp_st (pc' := 36) (L' := [some (.ref 38), some (.ref a1), j2, some (.int a3), some (.int (nI a4))]) (st' := []) (h' := Hp S) 1 (fun Z => if_neg hc) ?_
    refine wp_st (pc' := 44) (L' := [some (.ref 38), some (.ref a1), j2, some (.int a3), some (.int (nI a4))]) (st' := [.int (nI a4), .int a3, .ref a1, .ref 38, .int (nI a4), .ref a1]) (h' := Hp S) 6 (fun Z => rfl) ?_
    refine wp_call (pc' := 47) (rest := [.int (nI a4), .ref a1]) (fun Z => rfl) (isO_of sh38) hw ?_
    rintro o h1 ⟨x1, S2, rfl, rfl, hw⟩
    refine ⟨_, rfl, ?_⟩
    show wp E (d + 1) m_Downs_burst 47 [some (.ref 38), some (.ref a1), j2, some (.int a3), some (.int (nI a4))] [.int x1, .int (nI a4), .ref a1] (Hp S2) (QI Q)
    refine wp_call (pc' := 50) (rest := []) (fun Z => rfl) (isO_of (ha1).1) hw ?_
    rintro o h1 ⟨S4, rfl, rfl, hw⟩
    refine ⟨_, rfl, ?_⟩
    show wp E (d + 1) m_Downs_burst 50 [some (.ref 38), some (.ref a1), j2, some (.int a3), some (.int (nI a4))] [] (Hp S4) (QI Q)
    refine wp_st (pc' := 53) (L' := [some (.ref 38), some (.ref a1), j2, some (.int a3), some (.int (nI (a4 + 1)))]) (st' := []) (h' := Hp S4) 1 (fun Z => by rw [← nI_add a4 1]; rfl) ?_
    exact wp_st 1 (fun Z => rfl) (show wp E (d + 1) m_Downs_burst 24 [some (.ref 38), some (.ref a1), j2, some (.int a3), some (.int (nI (a4 + 1)))] [] (Hp S4) (QI Q) from (hw j2))
set_option maxRecDepth 4000 in
theorem w_Downs_burst_59 {E : zX} {d : Nat} {S : St} {a1 : Nat} {a3 : Int32} {a4 : Nat} {Q : Int32 → St → Prop} (hd : 1 ≤ d) (ha1 : Sc a1)
    (hw : if (S 3 4) ≤ (nI a4) then (
      Q a3 S)
    else (
      if (a3 &&& (bt a4)) = 0 then (
        k_Downs_burst_59 E d S a1 a3 (a4 + 1) Q)
      else (
        k_Scene_fill E (d - 1) S a1 (nI a4) 0 (-1) (fun S2 =>
        k_Downs_burst_59 E d S2 a1 a3 (a4 + 1) Q)))) :
    k_Downs_burst_59 E d S a1 a3 a4 Q := by
  obtain ⟨d, rfl⟩ := Nat.exists_eq_add_of_le' hd
  intro j2
  show wp E (d + 1) m_Downs_burst 59 [some (.ref 38), some (.ref a1), j2, some (.int a3), some (.int (nI a4))] [] (Hp S) (QI Q)
  refine wp_st (pc' := 62) (L' := [some (.ref 38), some (.ref a1), j2, some (.int a3), some (.int (nI a4))]) (st' := [.ref 38, .int (nI a4)]) (h' := Hp S) 2 (fun Z => rfl) ?_
  refine wp_st (pc' := 65) (L' := [some (.ref 38), some (.ref a1), j2, some (.int a3), some (.int (nI a4))]) (st' := [.ref 3, .int (nI a4)]) (h' := Hp S) 1 (fun Z => gfR (E := E) sh38 rfl _) ?_
  refine wp_st (pc' := 68) (L' := [some (.ref 38), some (.ref a1), j2, some (.int a3), some (.int (nI a4))]) (st' := [.int (S 3 4), .int (nI a4)]) (h' := Hp S) 1 (fun Z => gfI (E := E) sh3 rfl _) ?_
  by_cases hc : (S 3 4) ≤ (nI a4)
  · rw [if_pos hc] at hw
    refine wp_st (pc' := 94) (L' := [some (.ref 38), some (.ref a1), j2, some (.int a3), some (.int (nI a4))]) (st' := []) (h' := Hp S) 1 (fun Z => if_pos hc) ?_
    refine wp_st (pc' := 95) (L' := [some (.ref 38), some (.ref a1), j2, some (.int a3), some (.int (nI a4))]) (st' := [.int a3]) (h' := Hp S) 1 (fun Z => rfl) ?_
    exact wp_ret (fun Z => rfl) ⟨_, _, rfl, rfl, hw⟩
  · rw [if_neg hc] at hw
    refine wp_st (pc' := 71) (L' := [some (.ref 38), some (.ref a1), j2, some (.int a3), some (.int (nI a4))]) (st' := []) (h' := Hp S) 1 (fun Z => if_neg hc) ?_
    refine wp_st (pc' := 77) (L' := [some (.ref 38), some (.ref a1), j2, some (.int a3), some (.int (nI a4))]) (st' := [.int (a3 &&& (bt a4))]) (h' := Hp S) 5 (fun Z => rfl) ?_
    by_cases hc : (a3 &&& (bt a4)) = 0
    · rw [if_pos hc] at hw
      refine wp_st (pc' := 88) (L' := [some (.ref 38), some (.ref a1), j2, some (.int a3), some (.int (nI a4))]) (st' := []) (h' := Hp S) 1 (fun Z => if_pos hc) ?_
      refine wp_st (pc' := 91) (L' := [some (.ref 38), some (.ref a1), j2, some (.int a3), some (.int (nI (a4 + 1)))]) (st' := []) (h' := Hp S) 1 (fun Z => by rw [← nI_add a4 1]; rfl) ?_
      exact wp_st 1 (fun Z => rfl) (show wp E (d + 1) m_Downs_burst 59 [some (.ref 38), some (.ref a1), j2, some (.int a3), some (.int (nI (a4 + 1)))] [] (Hp S) (QI Q) from (hw j2))
    · rw [if_neg hc] at hw
      refine wp_st (pc' := 80) (L' := [some (.ref 38), some (.ref a1), j2, some (.int a3), some (.int (nI a4))]) (st' := []) (h' := Hp S) 1 (fun Z => if_neg hc) ?_
      refine wp_st (pc' := 84) (L' := [some (.ref 38), some (.ref a1), j2, some (.int a3), some (.int (nI a4))]) (st' := [.int 0, .int (nI a4), .ref a1]) (h' := Hp S) 3 (fun Z => rfl) ?_
      refine wp_st (pc' := 85) (L' := [some (.ref 38), some (.ref a1), j2, some (.int a3), some (.int (nI a4))]) (st' := [.int (-1), .int 0, .int (nI a4), .ref a1]) (h' := Hp S) 1 (fun Z => congrArg (fun v => Z (d + 1) m_Downs_burst 85 [some (.ref 38), some (.ref a1), j2, some (.int a3), some (.int (nI a4))] [.int v, .int 0, .int (nI a4), .ref a1] (Hp S)) (show Int32.ofInt (-1) = (-1) by decide)) ?_
      refine wp_call (pc' := 88) (rest := []) (fun Z => rfl) (isO_of (ha1).1) hw ?_
      rintro o h1 ⟨S2, rfl, rfl, hw⟩
      refine ⟨_, rfl, ?_⟩
      show wp E (d + 1) m_Downs_burst 88 [some (.ref 38), some (.ref a1), j2, some (.int a3), some (.int (nI a4))] [] (Hp S2) (QI Q)
      refine wp_st (pc' := 91) (L' := [some (.ref 38), some (.ref a1), j2, some (.int a3), some (.int (nI (a4 + 1)))]) (st' := []) (h' := Hp S2) 1 (fun Z => by rw [← nI_add a4 1]; rfl) ?_
      exact wp_st 1 (fun Z => rfl) (show wp E (d + 1) m_Downs_burst 59 [some (.ref 38), some (.ref a1), j2, some (.int a3), some (.int (nI (a4 + 1)))] [] (Hp S2) (QI Q) from (hw j2))
set_option maxRecDepth 4000 in
theorem w_Downs_chain {E : zX} {d : Nat} {S : St} {a1 : Int32} {a2 : Int32} {Q : Int32 → St → Prop} 
    (hw : k_Downs_chain_8 E d S a2 a1 0 0 Q) :
    k_Downs_chain E d S a1 a2 Q := by
  show wp E d m_Downs_chain 0 [some (.ref 38), some (.int a1), some (.int a2), none, none, none, none] [] (Hp S) (QI Q)
  exact wp_st 6 (fun Z => rfl) (show wp E d m_Downs_chain 8 [some (.ref 38), some (.int a1), some (.int a2), some (.int a1), some (.int 0), some (.int 0), none] [] (Hp S) (QI Q) from (hw (some (.int a1)) none))
set_option maxRecDepth 4000 in
theorem w_Downs_chain_8 {E : zX} {d : Nat} {S : St} {a2 : Int32} {a3 : Int32} {a4 : Int32} {a5 : Nat} {Q : Int32 → St → Prop} 
    (hw : if (S 3 4) ≤ (nI a5) then (
      Q a3 S)
    else (
      if a3 = a4 then (
        Q a3 S)
      else (
        k_Downs_chain_32 E d S a2 a3 a3 a5 0 Q))) :
    k_Downs_chain_8 E d S a2 a3 a4 a5 Q := by
  intro j1 j6
  show wp E d m_Downs_chain 8 [some (.ref 38), j1, some (.int a2), some (.int a3), some (.int a4), some (.int (nI a5)), j6] [] (Hp S) (QI Q)
  refine wp_st (pc' := 11) (L' := [some (.ref 38), j1, some (.int a2), some (.int a3), some (.int a4), some (.int (nI a5)), j6]) (st' := [.ref 38, .int (nI a5)]) (h' := Hp S) 2 (fun Z => rfl) ?_
  refine wp_st (pc' := 14) (L' := [some (.ref 38), j1, some (.int a2), some (.int a3), some (.int a4), some (.int (nI a5)), j6]) (st' := [.ref 3, .int (nI a5)]) (h' := Hp S) 1 (fun Z => gfR (E := E) sh38 rfl _) ?_
  refine wp_st (pc' := 17) (L' := [some (.ref 38), j1, some (.int a2), some (.int a3), some (.int a4), some (.int (nI a5)), j6]) (st' := [.int (S 3 4), .int (nI a5)]) (h' := Hp S) 1 (fun Z => gfI (E := E) sh3 rfl _) ?_
  by_cases hc : (S 3 4) ≤ (nI a5)
  · rw [if_pos hc] at hw
    refine wp_st (pc' := 79) (L' := [some (.ref 38), j1, some (.int a2), some (.int a3), some (.int a4), some (.int (nI a5)), j6]) (st' := []) (h' := Hp S) 1 (fun Z => if_pos hc) ?_
    refine wp_st (pc' := 80) (L' := [some (.ref 38), j1, some (.int a2), some (.int a3), some (.int a4), some (.int (nI a5)), j6]) (st' := [.int a3]) (h' := Hp S) 1 (fun Z => rfl) ?_
    exact wp_ret (fun Z => rfl) ⟨_, _, rfl, rfl, hw⟩
  · rw [if_neg hc] at hw
    refine wp_st (pc' := 20) (L' := [some (.ref 38), j1, some (.int a2), some (.int a3), some (.int a4), some (.int (nI a5)), j6]) (st' := []) (h' := Hp S) 1 (fun Z => if_neg hc) ?_
    refine wp_st (pc' := 23) (L' := [some (.ref 38), j1, some (.int a2), some (.int a3), some (.int a4), some (.int (nI a5)), j6]) (st' := [.int a4, .int a3]) (h' := Hp S) 2 (fun Z => rfl) ?_
    by_cases hc : a3 = a4
    · rw [if_pos hc] at hw
      refine wp_st (pc' := 79) (L' := [some (.ref 38), j1, some (.int a2), some (.int a3), some (.int a4), some (.int (nI a5)), j6]) (st' := []) (h' := Hp S) 1 (fun Z => if_pos hc) ?_
      refine wp_st (pc' := 80) (L' := [some (.ref 38), j1, some (.int a2), some (.int a3), some (.int a4), some (.int (nI a5)), j6]) (st' := [.int a3]) (h' := Hp S) 1 (fun Z => rfl) ?_
      exact wp_ret (fun Z => rfl) ⟨_, _, rfl, rfl, hw⟩
    · rw [if_neg hc] at hw
      refine wp_st (pc' := 26) (L' := [some (.ref 38), j1, some (.int a2), some (.int a3), some (.int a4), some (.int (nI a5)), j6]) (st' := []) (h' := Hp S) 1 (fun Z => if_neg hc) ?_
      exact wp_st 4 (fun Z => rfl) (show wp E d m_Downs_chain 32 [some (.ref 38), j1, some (.int a2), some (.int a3), some (.int a3), some (.int (nI a5)), some (.int 0)] [] (Hp S) (QI Q) from (hw j1))
set_option maxRecDepth 4000 in
theorem w_Downs_chain_32 {E : zX} {d : Nat} {S : St} {a2 : Int32} {a3 : Int32} {a4 : Int32} {a5 : Nat} {a6 : Nat} {Q : Int32 → St → Prop} 
    (hw : if (S 3 4) ≤ (nI a6) then (
      k_Downs_chain_8 E d S a2 a3 a4 (a5 + 1) Q)
    else (
      if (a3 &&& (bt a6)) = 0 then (
        k_Downs_chain_32 E d S a2 a3 a4 a5 (a6 + 1) Q)
      else (
        a6 < 10 ∧
        k_Downs_chain_32 E d S a2 (a3 ||| ((S 40 a6) &&& (a2 ^^^ ((-1) : Int32)))) a4 a5 (a6 + 1) Q))) :
    k_Downs_chain_32 E d S a2 a3 a4 a5 a6 Q := by
  intro j1
  show wp E d m_Downs_chain 32 [some (.ref 38), j1, some (.int a2), some (.int a3), some (.int a4), some (.int (nI a5)), some (.int (nI a6))] [] (Hp S) (QI Q)
  refine wp_st (pc' := 35) (L' := [some (.ref 38), j1, some (.int a2), some (.int a3), some (.int a4), some (.int (nI a5)), some (.int (nI a6))]) (st' := [.ref 38, .int (nI a6)]) (h' := Hp S) 2 (fun Z => rfl) ?_
  refine wp_st (pc' := 38) (L' := [some (.ref 38), j1, some (.int a2), some (.int a3), some (.int a4), some (.int (nI a5)), some (.int (nI a6))]) (st' := [.ref 3, .int (nI a6)]) (h' := Hp S) 1 (fun Z => gfR (E := E) sh38 rfl _) ?_
  refine wp_st (pc' := 41) (L' := [some (.ref 38), j1, some (.int a2), some (.int a3), some (.int a4), some (.int (nI a5)), some (.int (nI a6))]) (st' := [.int (S 3 4), .int (nI a6)]) (h' := Hp S) 1 (fun Z => gfI (E := E) sh3 rfl _) ?_
  by_cases hc : (S 3 4) ≤ (nI a6)
  · rw [if_pos hc] at hw
    refine wp_st (pc' := 73) (L' := [some (.ref 38), j1, some (.int a2), some (.int a3), some (.int a4), some (.int (nI a5)), some (.int (nI a6))]) (st' := []) (h' := Hp S) 1 (fun Z => if_pos hc) ?_
    refine wp_st (pc' := 76) (L' := [some (.ref 38), j1, some (.int a2), some (.int a3), some (.int a4), some (.int (nI (a5 + 1))), some (.int (nI a6))]) (st' := []) (h' := Hp S) 1 (fun Z => by rw [← nI_add a5 1]; rfl) ?_
    exact wp_st 1 (fun Z => rfl) (show wp E d m_Downs_chain 8 [some (.ref 38), j1, some (.int a2), some (.int a3), some (.int a4), some (.int (nI (a5 + 1))), some (.int (nI a6))] [] (Hp S) (QI Q) from (hw j1 (some (.int (nI a6)))))
  · rw [if_neg hc] at hw
    refine wp_st (pc' := 44) (L' := [some (.ref 38), j1, some (.int a2), some (.int a3), some (.int a4), some (.int (nI a5)), some (.int (nI a6))]) (st' := []) (h' := Hp S) 1 (fun Z => if_neg hc) ?_
    refine wp_st (pc' := 50) (L' := [some (.ref 38), j1, some (.int a2), some (.int a3), some (.int a4), some (.int (nI a5)), some (.int (nI a6))]) (st' := [.int (a3 &&& (bt a6))]) (h' := Hp S) 5 (fun Z => rfl) ?_
    by_cases hc : (a3 &&& (bt a6)) = 0
    · rw [if_pos hc] at hw
      refine wp_st (pc' := 67) (L' := [some (.ref 38), j1, some (.int a2), some (.int a3), some (.int a4), some (.int (nI a5)), some (.int (nI a6))]) (st' := []) (h' := Hp S) 1 (fun Z => if_pos hc) ?_
      refine wp_st (pc' := 70) (L' := [some (.ref 38), j1, some (.int a2), some (.int a3), some (.int a4), some (.int (nI a5)), some (.int (nI (a6 + 1)))]) (st' := []) (h' := Hp S) 1 (fun Z => by rw [← nI_add a6 1]; rfl) ?_
      exact wp_st 1 (fun Z => rfl) (show wp E d m_Downs_chain 32 [some (.ref 38), j1, some (.int a2), some (.int a3), some (.int a4), some (.int (nI a5)), some (.int (nI (a6 + 1)))] [] (Hp S) (QI Q) from (hw j1))
    · rw [if_neg hc] at hw
      refine wp_st (pc' := 53) (L' := [some (.ref 38), j1, some (.int a2), some (.int a3), some (.int a4), some (.int (nI a5)), some (.int (nI a6))]) (st' := []) (h' := Hp S) 1 (fun Z => if_neg hc) ?_
      refine wp_st (pc' := 55) (L' := [some (.ref 38), j1, some (.int a2), some (.int a3), some (.int a4), some (.int (nI a5)), some (.int (nI a6))]) (st' := [.ref 38, .int a3]) (h' := Hp S) 2 (fun Z => rfl) ?_
      refine wp_st (pc' := 58) (L' := [some (.ref 38), j1, some (.int a2), some (.int a3), some (.int a4), some (.int (nI a5)), some (.int (nI a6))]) (st' := [.ref 40, .int a3]) (h' := Hp S) 1 (fun Z => gfR (E := E) sh38 rfl _) ?_
      refine wp_st (pc' := 60) (L' := [some (.ref 38), j1, some (.int a2), some (.int a3), some (.int a4), some (.int (nI a5)), some (.int (nI a6))]) (st' := [.int (nI a6), .ref 40, .int a3]) (h' := Hp S) 1 (fun Z => rfl) ?_
      obtain ⟨hi, hw⟩ := hw
      refine wp_st (pc' := 61) (L' := [some (.ref 38), j1, some (.int a2), some (.int a3), some (.int a4), some (.int (nI a5)), some (.int (nI a6))]) (st' := [.int (S 40 a6), .int a3]) (h' := Hp S) 1 (fun Z => ldN (E := E) sh40 (by decide) hi [.int a3] (fun st => Z d m_Downs_chain 61 [some (.ref 38), j1, some (.int a2), some (.int a3), some (.int a4), some (.int (nI a5)), some (.int (nI a6))] st (Hp S))) ?_
      refine wp_st (pc' := 62) (L' := [some (.ref 38), j1, some (.int a2), some (.int a3), some (.int a4), some (.int (nI a5)), some (.int (nI a6))]) (st' := [.int a2, .int (S 40 a6), .int a3]) (h' := Hp S) 1 (fun Z => rfl) ?_
      refine wp_st (pc' := 63) (L' := [some (.ref 38), j1, some (.int a2), some (.int a3), some (.int a4), some (.int (nI a5)), some (.int (nI a6))]) (st' := [.int (-1), .int a2, .int (S 40 a6), .int a3]) (h' := Hp S) 1 (fun Z => congrArg (fun v => Z d m_Downs_chain 63 [some (.ref 38), j1, some (.int a2), some (.int a3), some (.int a4), some (.int (nI a5)), some (.int (nI a6))] [.int v, .int a2, .int (S 40 a6), .int a3] (Hp S)) (show Int32.ofInt (-1) = (-1) by decide)) ?_
      refine wp_st (pc' := 67) (L' := [some (.ref 38), j1, some (.int a2), some (.int (a3 ||| ((S 40 a6) &&& (a2 ^^^ ((-1) : Int32))))), some (.int a4), some (.int (nI a5)), some (.int (nI a6))]) (st' := []) (h' := Hp S) 4 (fun Z => rfl) ?_
      refine wp_st (pc' := 70) (L' := [some (.ref 38), j1, some (.int a2), some (.int (a3 ||| ((S 40 a6) &&& (a2 ^^^ ((-1) : Int32))))), some (.int a4), some (.int (nI a5)), some (.int (nI (a6 + 1)))]) (st' := []) (h' := Hp S) 1 (fun Z => by rw [← nI_add a6 1]; rfl) ?_
      exact wp_st 1 (fun Z => rfl) (show wp E d m_Downs_chain 32 [some (.ref 38), j1, some (.int a2), some (.int (a3 ||| ((S 40 a6) &&& (a2 ^^^ ((-1) : Int32))))), some (.int a4), some (.int (nI a5)), some (.int (nI (a6 + 1)))] [] (Hp S) (QI Q) from (hw j1))
set_option maxRecDepth 4000 in
theorem w_Downs_heardOf {E : zX} {d : Nat} {S : St} {a1 : Nat} {a2 : Int32} {a3 : Nat} {Q : Int32 → St → Prop} (hd : 1 ≤ d) (ha1 : Sc a1)
    (hw : k_Downs_heardOf_6 E d S a1 a2 a3 0 0 Q) :
    k_Downs_heardOf E d S a1 a2 (nI a3) Q := by
  obtain ⟨d, rfl⟩ := Nat.exists_eq_add_of_le' hd
  show wp E (d + 1) m_Downs_heardOf 0 [some (.ref 38), some (.ref a1), some (.int a2), some (.int (nI a3)), none, none] [] (Hp S) (QI Q)
  exact wp_st 4 (fun Z => rfl) (show wp E (d + 1) m_Downs_heardOf 6 [some (.ref 38), some (.ref a1), some (.int a2), some (.int (nI a3)), some (.int 0), some (.int 0)] [] (Hp S) (QI Q) from hw)
set_option maxRecDepth 4000 in
theorem w_Downs_heardOf_6 {E : zX} {d : Nat} {S : St} {a1 : Nat} {a2 : Int32} {a3 : Nat} {a4 : Nat} {a5 : Nat} {Q : Int32 → St → Prop} (hd : 1 ≤ d) (ha1 : Sc a1)
    (hw : if (S 3 4) ≤ (nI a5) then (
      Q (nI a4) S)
    else (
      if (a2 &&& (bt a5)) = 0 then (
        k_Downs_heardOf_6 E d S a1 a2 a3 a4 (a5 + 1) Q)
      else (
        a3 < 7 ∧
        k_Downs_reaches E (d - 1) S a1 (nI a5) (S 4 a3) (fun x1 S2 =>
        if x1 = 0 then (
          k_Downs_heardOf_6 E d S2 a1 a2 a3 a4 (a5 + 1) Q)
        else (
          k_Downs_heardOf_6 E d S2 a1 a2 a3 (a4 + 1) (a5 + 1) Q))))) :
    k_Downs_heardOf_6 E d S a1 a2 a3 a4 a5 Q := by
  obtain ⟨d, rfl⟩ := Nat.exists_eq_add_of_le' hd
  show wp E (d + 1) m_Downs_heardOf 6 [some (.ref 38), some (.ref a1), some (.int a2), some (.int (nI a3)), some (.int (nI a4)), some (.int (nI a5))] [] (Hp S) (QI Q)
  refine wp_st (pc' := 9) (L' := [some (.ref 38), some (.ref a1), some (.int a2), some (.int (nI a3)), some (.int (nI a4)), some (.int (nI a5))]) (st' := [.ref 38, .int (nI a5)]) (h' := Hp S) 2 (fun Z => rfl) ?_
  refine wp_st (pc' := 12) (L' := [some (.ref 38), some (.ref a1), some (.int a2), some (.int (nI a3)), some (.int (nI a4)), some (.int (nI a5))]) (st' := [.ref 3, .int (nI a5)]) (h' := Hp S) 1 (fun Z => gfR (E := E) sh38 rfl _) ?_
  refine wp_st (pc' := 15) (L' := [some (.ref 38), some (.ref a1), some (.int a2), some (.int (nI a3)), some (.int (nI a4)), some (.int (nI a5))]) (st' := [.int (S 3 4), .int (nI a5)]) (h' := Hp S) 1 (fun Z => gfI (E := E) sh3 rfl _) ?_
  by_cases hc : (S 3 4) ≤ (nI a5)
  · rw [if_pos hc] at hw
    refine wp_st (pc' := 55) (L' := [some (.ref 38), some (.ref a1), some (.int a2), some (.int (nI a3)), some (.int (nI a4)), some (.int (nI a5))]) (st' := []) (h' := Hp S) 1 (fun Z => if_pos hc) ?_
    refine wp_st (pc' := 57) (L' := [some (.ref 38), some (.ref a1), some (.int a2), some (.int (nI a3)), some (.int (nI a4)), some (.int (nI a5))]) (st' := [.int (nI a4)]) (h' := Hp S) 1 (fun Z => rfl) ?_
    exact wp_ret (fun Z => rfl) ⟨_, _, rfl, rfl, hw⟩
  · rw [if_neg hc] at hw
    refine wp_st (pc' := 18) (L' := [some (.ref 38), some (.ref a1), some (.int a2), some (.int (nI a3)), some (.int (nI a4)), some (.int (nI a5))]) (st' := []) (h' := Hp S) 1 (fun Z => if_neg hc) ?_
    refine wp_st (pc' := 24) (L' := [some (.ref 38), some (.ref a1), some (.int a2), some (.int (nI a3)), some (.int (nI a4)), some (.int (nI a5))]) (st' := [.int (a2 &&& (bt a5))]) (h' := Hp S) 5 (fun Z => rfl) ?_
    by_cases hc : (a2 &&& (bt a5)) = 0
    · rw [if_pos hc] at hw
      refine wp_st (pc' := 49) (L' := [some (.ref 38), some (.ref a1), some (.int a2), some (.int (nI a3)), some (.int (nI a4)), some (.int (nI a5))]) (st' := []) (h' := Hp S) 1 (fun Z => if_pos hc) ?_
      refine wp_st (pc' := 52) (L' := [some (.ref 38), some (.ref a1), some (.int a2), some (.int (nI a3)), some (.int (nI a4)), some (.int (nI (a5 + 1)))]) (st' := []) (h' := Hp S) 1 (fun Z => by rw [← nI_add a5 1]; rfl) ?_
      exact wp_st 1 (fun Z => rfl) (show wp E (d + 1) m_Downs_heardOf 6 [some (.ref 38), some (.ref a1), some (.int a2), some (.int (nI a3)), some (.int (nI a4)), some (.int (nI (a5 + 1)))] [] (Hp S) (QI Q) from hw)
    · rw [if_neg hc] at hw
      refine wp_st (pc' := 27) (L' := [some (.ref 38), some (.ref a1), some (.int a2), some (.int (nI a3)), some (.int (nI a4)), some (.int (nI a5))]) (st' := []) (h' := Hp S) 1 (fun Z => if_neg hc) ?_
      refine wp_st (pc' := 32) (L' := [some (.ref 38), some (.ref a1), some (.int a2), some (.int (nI a3)), some (.int (nI a4)), some (.int (nI a5))]) (st' := [.ref 38, .int (nI a5), .ref a1, .ref 38]) (h' := Hp S) 4 (fun Z => rfl) ?_
      refine wp_st (pc' := 35) (L' := [some (.ref 38), some (.ref a1), some (.int a2), some (.int (nI a3)), some (.int (nI a4)), some (.int (nI a5))]) (st' := [.ref 3, .int (nI a5), .ref a1, .ref 38]) (h' := Hp S) 1 (fun Z => gfR (E := E) sh38 rfl _) ?_
      refine wp_st (pc' := 38) (L' := [some (.ref 38), some (.ref a1), some (.int a2), some (.int (nI a3)), some (.int (nI a4)), some (.int (nI a5))]) (st' := [.ref 4, .int (nI a5), .ref a1, .ref 38]) (h' := Hp S) 1 (fun Z => gfR (E := E) sh3 rfl _) ?_
      refine wp_st (pc' := 39) (L' := [some (.ref 38), some (.ref a1), some (.int a2), some (.int (nI a3)), some (.int (nI a4)), some (.int (nI a5))]) (st' := [.int (nI a3), .ref 4, .int (nI a5), .ref a1, .ref 38]) (h' := Hp S) 1 (fun Z => rfl) ?_
      obtain ⟨hi, hw⟩ := hw
      refine wp_st (pc' := 40) (L' := [some (.ref 38), some (.ref a1), some (.int a2), some (.int (nI a3)), some (.int (nI a4)), some (.int (nI a5))]) (st' := [.int (S 4 a3), .int (nI a5), .ref a1, .ref 38]) (h' := Hp S) 1 (fun Z => ldN (E := E) sh4 (by decide) hi [.int (nI a5), .ref a1, .ref 38] (fun st => Z (d + 1) m_Downs_heardOf 40 [some (.ref 38), some (.ref a1), some (.int a2), some (.int (nI a3)), some (.int (nI a4)), some (.int (nI a5))] st (Hp S))) ?_
      refine wp_call (pc' := 43) (rest := []) (fun Z => rfl) (isO_of sh38) hw ?_
      rintro o h1 ⟨x1, S2, rfl, rfl, hw⟩
      refine ⟨_, rfl, ?_⟩
      show wp E (d + 1) m_Downs_heardOf 43 [some (.ref 38), some (.ref a1), some (.int a2), some (.int (nI a3)), some (.int (nI a4)), some (.int (nI a5))] [.int x1] (Hp S2) (QI Q)
      by_cases hc : x1 = 0
      · rw [if_pos hc] at hw
        refine wp_st (pc' := 49) (L' := [some (.ref 38), some (.ref a1), some (.int a2), some (.int (nI a3)), some (.int (nI a4)), some (.int (nI a5))]) (st' := []) (h' := Hp S2) 1 (fun Z => if_pos hc) ?_
        refine wp_st (pc' := 52) (L' := [some (.ref 38), some (.ref a1), some (.int a2), some (.int (nI a3)), some (.int (nI a4)), some (.int (nI (a5 + 1)))]) (st' := []) (h' := Hp S2) 1 (fun Z => by rw [← nI_add a5 1]; rfl) ?_
        exact wp_st 1 (fun Z => rfl) (show wp E (d + 1) m_Downs_heardOf 6 [some (.ref 38), some (.ref a1), some (.int a2), some (.int (nI a3)), some (.int (nI a4)), some (.int (nI (a5 + 1)))] [] (Hp S2) (QI Q) from hw)
      · rw [if_neg hc] at hw
        refine wp_st (pc' := 46) (L' := [some (.ref 38), some (.ref a1), some (.int a2), some (.int (nI a3)), some (.int (nI a4)), some (.int (nI a5))]) (st' := []) (h' := Hp S2) 1 (fun Z => if_neg hc) ?_
        refine wp_st (pc' := 49) (L' := [some (.ref 38), some (.ref a1), some (.int a2), some (.int (nI a3)), some (.int (nI (a4 + 1))), some (.int (nI a5))]) (st' := []) (h' := Hp S2) 1 (fun Z => by rw [← nI_add a4 1]; rfl) ?_
        refine wp_st (pc' := 52) (L' := [some (.ref 38), some (.ref a1), some (.int a2), some (.int (nI a3)), some (.int (nI (a4 + 1))), some (.int (nI (a5 + 1)))]) (st' := []) (h' := Hp S2) 1 (fun Z => by rw [← nI_add a5 1]; rfl) ?_
        exact wp_st 1 (fun Z => rfl) (show wp E (d + 1) m_Downs_heardOf 6 [some (.ref 38), some (.ref a1), some (.int a2), some (.int (nI a3)), some (.int (nI (a4 + 1))), some (.int (nI (a5 + 1)))] [] (Hp S2) (QI Q) from hw)
set_option maxRecDepth 4000 in
theorem w_Downs_whites {E : zX} {d : Nat} {S : St} {a1 : Nat} {Q : Int32 → St → Prop} (hd : 1 ≤ d) (ha1 : Sc a1)
    (hw : k_Downs_whites_4 E d S a1 0 0 Q) :
    k_Downs_whites E d S a1 Q := by
  obtain ⟨d, rfl⟩ := Nat.exists_eq_add_of_le' hd
  show wp E (d + 1) m_Downs_whites 0 [some (.ref 38), some (.ref a1), none, none] [] (Hp S) (QI Q)
  exact wp_st 4 (fun Z => rfl) (show wp E (d + 1) m_Downs_whites 4 [some (.ref 38), some (.ref a1), some (.int 0), some (.int 0)] [] (Hp S) (QI Q) from hw)
set_option maxRecDepth 4000 in
theorem w_Downs_whites_4 {E : zX} {d : Nat} {S : St} {a1 : Nat} {a2 : Int32} {a3 : Nat} {Q : Int32 → St → Prop} (hd : 1 ≤ d) (ha1 : Sc a1)
    (hw : if (S 3 4) ≤ (nI a3) then (
      Q a2 S)
    else (
      k_Scene_isWhite E (d - 1) S a1 (nI a3) (fun x1 S2 =>
      if x1 = 0 then (
        k_Downs_whites_4 E d S2 a1 a2 (a3 + 1) Q)
      else (
        k_Downs_whites_4 E d S2 a1 (a2 ||| (bt a3)) (a3 + 1) Q)))) :
    k_Downs_whites_4 E d S a1 a2 a3 Q := by
  obtain ⟨d, rfl⟩ := Nat.exists_eq_add_of_le' hd
  show wp E (d + 1) m_Downs_whites 4 [some (.ref 38), some (.ref a1), some (.int a2), some (.int (nI a3))] [] (Hp S) (QI Q)
  refine wp_st (pc' := 6) (L' := [some (.ref 38), some (.ref a1), some (.int a2), some (.int (nI a3))]) (st' := [.ref 38, .int (nI a3)]) (h' := Hp S) 2 (fun Z => rfl) ?_
  refine wp_st (pc' := 9) (L' := [some (.ref 38), some (.ref a1), some (.int a2), some (.int (nI a3))]) (st' := [.ref 3, .int (nI a3)]) (h' := Hp S) 1 (fun Z => gfR (E := E) sh38 rfl _) ?_
  refine wp_st (pc' := 12) (L' := [some (.ref 38), some (.ref a1), some (.int a2), some (.int (nI a3))]) (st' := [.int (S 3 4), .int (nI a3)]) (h' := Hp S) 1 (fun Z => gfI (E := E) sh3 rfl _) ?_
  by_cases hc : (S 3 4) ≤ (nI a3)
  · rw [if_pos hc] at hw
    refine wp_st (pc' := 35) (L' := [some (.ref 38), some (.ref a1), some (.int a2), some (.int (nI a3))]) (st' := []) (h' := Hp S) 1 (fun Z => if_pos hc) ?_
    refine wp_st (pc' := 36) (L' := [some (.ref 38), some (.ref a1), some (.int a2), some (.int (nI a3))]) (st' := [.int a2]) (h' := Hp S) 1 (fun Z => rfl) ?_
    exact wp_ret (fun Z => rfl) ⟨_, _, rfl, rfl, hw⟩
  · rw [if_neg hc] at hw
    refine wp_st (pc' := 15) (L' := [some (.ref 38), some (.ref a1), some (.int a2), some (.int (nI a3))]) (st' := []) (h' := Hp S) 1 (fun Z => if_neg hc) ?_
    refine wp_st (pc' := 17) (L' := [some (.ref 38), some (.ref a1), some (.int a2), some (.int (nI a3))]) (st' := [.int (nI a3), .ref a1]) (h' := Hp S) 2 (fun Z => rfl) ?_
    refine wp_call (pc' := 20) (rest := []) (fun Z => rfl) (isO_of (ha1).1) hw ?_
    rintro o h1 ⟨x1, S2, rfl, rfl, hw⟩
    refine ⟨_, rfl, ?_⟩
    show wp E (d + 1) m_Downs_whites 20 [some (.ref 38), some (.ref a1), some (.int a2), some (.int (nI a3))] [.int x1] (Hp S2) (QI Q)
    by_cases hc : x1 = 0
    · rw [if_pos hc] at hw
      refine wp_st (pc' := 29) (L' := [some (.ref 38), some (.ref a1), some (.int a2), some (.int (nI a3))]) (st' := []) (h' := Hp S2) 1 (fun Z => if_pos hc) ?_
      refine wp_st (pc' := 32) (L' := [some (.ref 38), some (.ref a1), some (.int a2), some (.int (nI (a3 + 1)))]) (st' := []) (h' := Hp S2) 1 (fun Z => by rw [← nI_add a3 1]; rfl) ?_
      exact wp_st 1 (fun Z => rfl) (show wp E (d + 1) m_Downs_whites 4 [some (.ref 38), some (.ref a1), some (.int a2), some (.int (nI (a3 + 1)))] [] (Hp S2) (QI Q) from hw)
    · rw [if_neg hc] at hw
      refine wp_st (pc' := 23) (L' := [some (.ref 38), some (.ref a1), some (.int a2), some (.int (nI a3))]) (st' := []) (h' := Hp S2) 1 (fun Z => if_neg hc) ?_
      refine wp_st (pc' := 29) (L' := [some (.ref 38), some (.ref a1), some (.int (a2 ||| (bt a3))), some (.int (nI a3))]) (st' := []) (h' := Hp S2) 6 (fun Z => rfl) ?_
      refine wp_st (pc' := 32) (L' := [some (.ref 38), some (.ref a1), some (.int (a2 ||| (bt a3))), some (.int (nI (a3 + 1)))]) (st' := []) (h' := Hp S2) 1 (fun Z => by rw [← nI_add a3 1]; rfl) ?_
      exact wp_st 1 (fun Z => rfl) (show wp E (d + 1) m_Downs_whites 4 [some (.ref 38), some (.ref a1), some (.int (a2 ||| (bt a3))), some (.int (nI (a3 + 1)))] [] (Hp S2) (QI Q) from hw)
set_option maxRecDepth 4000 in
theorem w_Downs_heldByAll {E : zX} {d : Nat} {S : St} {a1 : Nat} {Q : Int32 → St → Prop} (hd : 1 ≤ d) (ha1 : Sc a1)
    (hw : k_Downs_heldByAll_4 E d S a1 0 0 Q) :
    k_Downs_heldByAll E d S a1 Q := by
  obtain ⟨d, rfl⟩ := Nat.exists_eq_add_of_le' hd
  show wp E (d + 1) m_Downs_heldByAll 0 [some (.ref 38), some (.ref a1), none, none] [] (Hp S) (QI Q)
  exact wp_st 4 (fun Z => rfl) (show wp E (d + 1) m_Downs_heldByAll 4 [some (.ref 38), some (.ref a1), some (.int 0), some (.int 0)] [] (Hp S) (QI Q) from hw)
set_option maxRecDepth 4000 in
theorem w_Downs_heldByAll_4 {E : zX} {d : Nat} {S : St} {a1 : Nat} {a2 : Int32} {a3 : Nat} {Q : Int32 → St → Prop} (hd : 1 ≤ d) (ha1 : Sc a1)
    (hw : if (S 3 4) ≤ (nI a3) then (
      Q a2 S)
    else (
      k_Scene_heldIn E (d - 1) S a1 (nI a3) (fun x1 S2 =>
      k_Downs_heldByAll_4 E d S2 a1 (a2 + x1) (a3 + 1) Q))) :
    k_Downs_heldByAll_4 E d S a1 a2 a3 Q := by
  obtain ⟨d, rfl⟩ := Nat.exists_eq_add_of_le' hd
  show wp E (d + 1) m_Downs_heldByAll 4 [some (.ref 38), some (.ref a1), some (.int a2), some (.int (nI a3))] [] (Hp S) (QI Q)
  refine wp_st (pc' := 6) (L' := [some (.ref 38), some (.ref a1), some (.int a2), some (.int (nI a3))]) (st' := [.ref 38, .int (nI a3)]) (h' := Hp S) 2 (fun Z => rfl) ?_
  refine wp_st (pc' := 9) (L' := [some (.ref 38), some (.ref a1), some (.int a2), some (.int (nI a3))]) (st' := [.ref 3, .int (nI a3)]) (h' := Hp S) 1 (fun Z => gfR (E := E) sh38 rfl _) ?_
  refine wp_st (pc' := 12) (L' := [some (.ref 38), some (.ref a1), some (.int a2), some (.int (nI a3))]) (st' := [.int (S 3 4), .int (nI a3)]) (h' := Hp S) 1 (fun Z => gfI (E := E) sh3 rfl _) ?_
  by_cases hc : (S 3 4) ≤ (nI a3)
  · rw [if_pos hc] at hw
    refine wp_st (pc' := 29) (L' := [some (.ref 38), some (.ref a1), some (.int a2), some (.int (nI a3))]) (st' := []) (h' := Hp S) 1 (fun Z => if_pos hc) ?_
    refine wp_st (pc' := 30) (L' := [some (.ref 38), some (.ref a1), some (.int a2), some (.int (nI a3))]) (st' := [.int a2]) (h' := Hp S) 1 (fun Z => rfl) ?_
    exact wp_ret (fun Z => rfl) ⟨_, _, rfl, rfl, hw⟩
  · rw [if_neg hc] at hw
    refine wp_st (pc' := 15) (L' := [some (.ref 38), some (.ref a1), some (.int a2), some (.int (nI a3))]) (st' := []) (h' := Hp S) 1 (fun Z => if_neg hc) ?_
    refine wp_st (pc' := 18) (L' := [some (.ref 38), some (.ref a1), some (.int a2), some (.int (nI a3))]) (st' := [.int (nI a3), .ref a1, .int a2]) (h' := Hp S) 3 (fun Z => rfl) ?_
    refine wp_call (pc' := 21) (rest := [.int a2]) (fun Z => rfl) (isO_of (ha1).1) hw ?_
    rintro o h1 ⟨x1, S2, rfl, rfl, hw⟩
    refine ⟨_, rfl, ?_⟩
    show wp E (d + 1) m_Downs_heldByAll 21 [some (.ref 38), some (.ref a1), some (.int a2), some (.int (nI a3))] [.int x1, .int a2] (Hp S2) (QI Q)
    refine wp_st (pc' := 23) (L' := [some (.ref 38), some (.ref a1), some (.int (a2 + x1)), some (.int (nI a3))]) (st' := []) (h' := Hp S2) 2 (fun Z => rfl) ?_
    refine wp_st (pc' := 26) (L' := [some (.ref 38), some (.ref a1), some (.int (a2 + x1)), some (.int (nI (a3 + 1)))]) (st' := []) (h' := Hp S2) 1 (fun Z => by rw [← nI_add a3 1]; rfl) ?_
    exact wp_st 1 (fun Z => rfl) (show wp E (d + 1) m_Downs_heldByAll 4 [some (.ref 38), some (.ref a1), some (.int (a2 + x1)), some (.int (nI (a3 + 1)))] [] (Hp S2) (QI Q) from hw)
set_option maxRecDepth 4000 in
theorem w_Downs_temperOfAll {E : zX} {d : Nat} {S : St} {a1 : Nat} {Q : Int32 → St → Prop} (hd : 1 ≤ d) (ha1 : Sc a1)
    (hw : k_Downs_temperOfAll_4 E d S a1 0 0 Q) :
    k_Downs_temperOfAll E d S a1 Q := by
  obtain ⟨d, rfl⟩ := Nat.exists_eq_add_of_le' hd
  show wp E (d + 1) m_Downs_temperOfAll 0 [some (.ref 38), some (.ref a1), none, none] [] (Hp S) (QI Q)
  exact wp_st 4 (fun Z => rfl) (show wp E (d + 1) m_Downs_temperOfAll 4 [some (.ref 38), some (.ref a1), some (.int 0), some (.int 0)] [] (Hp S) (QI Q) from hw)
set_option maxRecDepth 4000 in
theorem w_Downs_temperOfAll_4 {E : zX} {d : Nat} {S : St} {a1 : Nat} {a2 : Int32} {a3 : Nat} {Q : Int32 → St → Prop} (hd : 1 ≤ d) (ha1 : Sc a1)
    (hw : if (S 3 3) ≤ (nI a3) then (
      Q a2 S)
    else (
      k_Scene_temperOf E (d - 1) S a1 (nI a3) (fun x1 S2 =>
      k_Downs_temperOfAll_4 E d S2 a1 (a2 + x1) (a3 + 1) Q))) :
    k_Downs_temperOfAll_4 E d S a1 a2 a3 Q := by
  obtain ⟨d, rfl⟩ := Nat.exists_eq_add_of_le' hd
  show wp E (d + 1) m_Downs_temperOfAll 4 [some (.ref 38), some (.ref a1), some (.int a2), some (.int (nI a3))] [] (Hp S) (QI Q)
  refine wp_st (pc' := 6) (L' := [some (.ref 38), some (.ref a1), some (.int a2), some (.int (nI a3))]) (st' := [.ref 38, .int (nI a3)]) (h' := Hp S) 2 (fun Z => rfl) ?_
  refine wp_st (pc' := 9) (L' := [some (.ref 38), some (.ref a1), some (.int a2), some (.int (nI a3))]) (st' := [.ref 3, .int (nI a3)]) (h' := Hp S) 1 (fun Z => gfR (E := E) sh38 rfl _) ?_
  refine wp_st (pc' := 12) (L' := [some (.ref 38), some (.ref a1), some (.int a2), some (.int (nI a3))]) (st' := [.int (S 3 3), .int (nI a3)]) (h' := Hp S) 1 (fun Z => gfI (E := E) sh3 rfl _) ?_
  by_cases hc : (S 3 3) ≤ (nI a3)
  · rw [if_pos hc] at hw
    refine wp_st (pc' := 29) (L' := [some (.ref 38), some (.ref a1), some (.int a2), some (.int (nI a3))]) (st' := []) (h' := Hp S) 1 (fun Z => if_pos hc) ?_
    refine wp_st (pc' := 30) (L' := [some (.ref 38), some (.ref a1), some (.int a2), some (.int (nI a3))]) (st' := [.int a2]) (h' := Hp S) 1 (fun Z => rfl) ?_
    exact wp_ret (fun Z => rfl) ⟨_, _, rfl, rfl, hw⟩
  · rw [if_neg hc] at hw
    refine wp_st (pc' := 15) (L' := [some (.ref 38), some (.ref a1), some (.int a2), some (.int (nI a3))]) (st' := []) (h' := Hp S) 1 (fun Z => if_neg hc) ?_
    refine wp_st (pc' := 18) (L' := [some (.ref 38), some (.ref a1), some (.int a2), some (.int (nI a3))]) (st' := [.int (nI a3), .ref a1, .int a2]) (h' := Hp S) 3 (fun Z => rfl) ?_
    refine wp_call (pc' := 21) (rest := [.int a2]) (fun Z => rfl) (isO_of (ha1).1) hw ?_
    rintro o h1 ⟨x1, S2, rfl, rfl, hw⟩
    refine ⟨_, rfl, ?_⟩
    show wp E (d + 1) m_Downs_temperOfAll 21 [some (.ref 38), some (.ref a1), some (.int a2), some (.int (nI a3))] [.int x1, .int a2] (Hp S2) (QI Q)
    refine wp_st (pc' := 23) (L' := [some (.ref 38), some (.ref a1), some (.int (a2 + x1)), some (.int (nI a3))]) (st' := []) (h' := Hp S2) 2 (fun Z => rfl) ?_
    refine wp_st (pc' := 26) (L' := [some (.ref 38), some (.ref a1), some (.int (a2 + x1)), some (.int (nI (a3 + 1)))]) (st' := []) (h' := Hp S2) 1 (fun Z => by rw [← nI_add a3 1]; rfl) ?_
    exact wp_st 1 (fun Z => rfl) (show wp E (d + 1) m_Downs_temperOfAll 4 [some (.ref 38), some (.ref a1), some (.int (a2 + x1)), some (.int (nI (a3 + 1)))] [] (Hp S2) (QI Q) from hw)
set_option maxRecDepth 4000 in
theorem w_Downs_shoutedByAll {E : zX} {d : Nat} {S : St} {a1 : Nat} {Q : Int32 → St → Prop} (hd : 1 ≤ d) (ha1 : Sc a1)
    (hw : k_Downs_shoutedByAll_4 E d S a1 0 0 Q) :
    k_Downs_shoutedByAll E d S a1 Q := by
  obtain ⟨d, rfl⟩ := Nat.exists_eq_add_of_le' hd
  show wp E (d + 1) m_Downs_shoutedByAll 0 [some (.ref 38), some (.ref a1), none, none] [] (Hp S) (QI Q)
  exact wp_st 4 (fun Z => rfl) (show wp E (d + 1) m_Downs_shoutedByAll 4 [some (.ref 38), some (.ref a1), some (.int 0), some (.int 0)] [] (Hp S) (QI Q) from hw)
set_option maxRecDepth 4000 in
theorem w_Downs_shoutedByAll_4 {E : zX} {d : Nat} {S : St} {a1 : Nat} {a2 : Int32} {a3 : Nat} {Q : Int32 → St → Prop} (hd : 1 ≤ d) (ha1 : Sc a1)
    (hw : if (S 3 3) ≤ (nI a3) then (
      Q a2 S)
    else (
      k_Scene_shoutedBy E (d - 1) S a1 (nI a3) (fun x1 S2 =>
      k_Downs_shoutedByAll_4 E d S2 a1 (a2 + x1) (a3 + 1) Q))) :
    k_Downs_shoutedByAll_4 E d S a1 a2 a3 Q := by
  obtain ⟨d, rfl⟩ := Nat.exists_eq_add_of_le' hd
  show wp E (d + 1) m_Downs_shoutedByAll 4 [some (.ref 38), some (.ref a1), some (.int a2), some (.int (nI a3))] [] (Hp S) (QI Q)
  refine wp_st (pc' := 6) (L' := [some (.ref 38), some (.ref a1), some (.int a2), some (.int (nI a3))]) (st' := [.ref 38, .int (nI a3)]) (h' := Hp S) 2 (fun Z => rfl) ?_
  refine wp_st (pc' := 9) (L' := [some (.ref 38), some (.ref a1), some (.int a2), some (.int (nI a3))]) (st' := [.ref 3, .int (nI a3)]) (h' := Hp S) 1 (fun Z => gfR (E := E) sh38 rfl _) ?_
  refine wp_st (pc' := 12) (L' := [some (.ref 38), some (.ref a1), some (.int a2), some (.int (nI a3))]) (st' := [.int (S 3 3), .int (nI a3)]) (h' := Hp S) 1 (fun Z => gfI (E := E) sh3 rfl _) ?_
  by_cases hc : (S 3 3) ≤ (nI a3)
  · rw [if_pos hc] at hw
    refine wp_st (pc' := 29) (L' := [some (.ref 38), some (.ref a1), some (.int a2), some (.int (nI a3))]) (st' := []) (h' := Hp S) 1 (fun Z => if_pos hc) ?_
    refine wp_st (pc' := 30) (L' := [some (.ref 38), some (.ref a1), some (.int a2), some (.int (nI a3))]) (st' := [.int a2]) (h' := Hp S) 1 (fun Z => rfl) ?_
    exact wp_ret (fun Z => rfl) ⟨_, _, rfl, rfl, hw⟩
  · rw [if_neg hc] at hw
    refine wp_st (pc' := 15) (L' := [some (.ref 38), some (.ref a1), some (.int a2), some (.int (nI a3))]) (st' := []) (h' := Hp S) 1 (fun Z => if_neg hc) ?_
    refine wp_st (pc' := 18) (L' := [some (.ref 38), some (.ref a1), some (.int a2), some (.int (nI a3))]) (st' := [.int (nI a3), .ref a1, .int a2]) (h' := Hp S) 3 (fun Z => rfl) ?_
    refine wp_call (pc' := 21) (rest := [.int a2]) (fun Z => rfl) (isO_of (ha1).1) hw ?_
    rintro o h1 ⟨x1, S2, rfl, rfl, hw⟩
    refine ⟨_, rfl, ?_⟩
    show wp E (d + 1) m_Downs_shoutedByAll 21 [some (.ref 38), some (.ref a1), some (.int a2), some (.int (nI a3))] [.int x1, .int a2] (Hp S2) (QI Q)
    refine wp_st (pc' := 23) (L' := [some (.ref 38), some (.ref a1), some (.int (a2 + x1)), some (.int (nI a3))]) (st' := []) (h' := Hp S2) 2 (fun Z => rfl) ?_
    refine wp_st (pc' := 26) (L' := [some (.ref 38), some (.ref a1), some (.int (a2 + x1)), some (.int (nI (a3 + 1)))]) (st' := []) (h' := Hp S2) 1 (fun Z => by rw [← nI_add a3 1]; rfl) ?_
    exact wp_st 1 (fun Z => rfl) (show wp E (d + 1) m_Downs_shoutedByAll 4 [some (.ref 38), some (.ref a1), some (.int (a2 + x1)), some (.int (nI (a3 + 1)))] [] (Hp S2) (QI Q) from hw)
set_option maxRecDepth 4000 in
theorem w_Downs_ownedBy {E : zX} {d : Nat} {S : St} {a1 : Nat} {a2 : Int32} {Q : Int32 → St → Prop} (hd : 1 ≤ d) (ha1 : Sc a1)
    (hw : k_Downs_ownedBy_5 E d S a1 a2 0 0 Q) :
    k_Downs_ownedBy E d S a1 a2 Q := by
  obtain ⟨d, rfl⟩ := Nat.exists_eq_add_of_le' hd
  show wp E (d + 1) m_Downs_ownedBy 0 [some (.ref 38), some (.ref a1), some (.int a2), none, none] [] (Hp S) (QI Q)
  exact wp_st 4 (fun Z => rfl) (show wp E (d + 1) m_Downs_ownedBy 5 [some (.ref 38), some (.ref a1), some (.int a2), some (.int 0), some (.int 0)] [] (Hp S) (QI Q) from hw)
set_option maxRecDepth 4000 in
theorem w_Downs_ownedBy_5 {E : zX} {d : Nat} {S : St} {a1 : Nat} {a2 : Int32} {a3 : Int32} {a4 : Nat} {Q : Int32 → St → Prop} (hd : 1 ≤ d) (ha1 : Sc a1)
    (hw : if (S 3 4) ≤ (nI a4) then (
      Q a3 S)
    else (
      k_Scene_ownerOf E (d - 1) S a1 (nI a4) (fun x1 S2 =>
      if x1 = a2 then (
        k_Downs_ownedBy_5 E d S2 a1 a2 (a3 ||| (bt a4)) (a4 + 1) Q)
      else (
        k_Downs_ownedBy_5 E d S2 a1 a2 a3 (a4 + 1) Q)))) :
    k_Downs_ownedBy_5 E d S a1 a2 a3 a4 Q := by
  obtain ⟨d, rfl⟩ := Nat.exists_eq_add_of_le' hd
  show wp E (d + 1) m_Downs_ownedBy 5 [some (.ref 38), some (.ref a1), some (.int a2), some (.int a3), some (.int (nI a4))] [] (Hp S) (QI Q)
  refine wp_st (pc' := 8) (L' := [some (.ref 38), some (.ref a1), some (.int a2), some (.int a3), some (.int (nI a4))]) (st' := [.ref 38, .int (nI a4)]) (h' := Hp S) 2 (fun Z => rfl) ?_
  refine wp_st (pc' := 11) (L' := [some (.ref 38), some (.ref a1), some (.int a2), some (.int a3), some (.int (nI a4))]) (st' := [.ref 3, .int (nI a4)]) (h' := Hp S) 1 (fun Z => gfR (E := E) sh38 rfl _) ?_
  refine wp_st (pc' := 14) (L' := [some (.ref 38), some (.ref a1), some (.int a2), some (.int a3), some (.int (nI a4))]) (st' := [.int (S 3 4), .int (nI a4)]) (h' := Hp S) 1 (fun Z => gfI (E := E) sh3 rfl _) ?_
  by_cases hc : (S 3 4) ≤ (nI a4)
  · rw [if_pos hc] at hw
    refine wp_st (pc' := 40) (L' := [some (.ref 38), some (.ref a1), some (.int a2), some (.int a3), some (.int (nI a4))]) (st' := []) (h' := Hp S) 1 (fun Z => if_pos hc) ?_
    refine wp_st (pc' := 41) (L' := [some (.ref 38), some (.ref a1), some (.int a2), some (.int a3), some (.int (nI a4))]) (st' := [.int a3]) (h' := Hp S) 1 (fun Z => rfl) ?_
    exact wp_ret (fun Z => rfl) ⟨_, _, rfl, rfl, hw⟩
  · rw [if_neg hc] at hw
    refine wp_st (pc' := 17) (L' := [some (.ref 38), some (.ref a1), some (.int a2), some (.int a3), some (.int (nI a4))]) (st' := []) (h' := Hp S) 1 (fun Z => if_neg hc) ?_
    refine wp_st (pc' := 20) (L' := [some (.ref 38), some (.ref a1), some (.int a2), some (.int a3), some (.int (nI a4))]) (st' := [.int (nI a4), .ref a1]) (h' := Hp S) 2 (fun Z => rfl) ?_
    refine wp_call (pc' := 23) (rest := []) (fun Z => rfl) (isO_of (ha1).1) hw ?_
    rintro o h1 ⟨x1, S2, rfl, rfl, hw⟩
    refine ⟨_, rfl, ?_⟩
    show wp E (d + 1) m_Downs_ownedBy 23 [some (.ref 38), some (.ref a1), some (.int a2), some (.int a3), some (.int (nI a4))] [.int x1] (Hp S2) (QI Q)
    refine wp_st (pc' := 24) (L' := [some (.ref 38), some (.ref a1), some (.int a2), some (.int a3), some (.int (nI a4))]) (st' := [.int a2, .int x1]) (h' := Hp S2) 1 (fun Z => rfl) ?_
    by_cases hc : x1 = a2
    · rw [if_pos hc] at hw
      refine wp_st (pc' := 27) (L' := [some (.ref 38), some (.ref a1), some (.int a2), some (.int a3), some (.int (nI a4))]) (st' := []) (h' := Hp S2) 1 (fun Z => if_pos hc) ?_
      refine wp_st (pc' := 34) (L' := [some (.ref 38), some (.ref a1), some (.int a2), some (.int (a3 ||| (bt a4))), some (.int (nI a4))]) (st' := []) (h' := Hp S2) 6 (fun Z => rfl) ?_
      refine wp_st (pc' := 37) (L' := [some (.ref 38), some (.ref a1), some (.int a2), some (.int (a3 ||| (bt a4))), some (.int (nI (a4 + 1)))]) (st' := []) (h' := Hp S2) 1 (fun Z => by rw [← nI_add a4 1]; rfl) ?_
      exact wp_st 1 (fun Z => rfl) (show wp E (d + 1) m_Downs_ownedBy 5 [some (.ref 38), some (.ref a1), some (.int a2), some (.int (a3 ||| (bt a4))), some (.int (nI (a4 + 1)))] [] (Hp S2) (QI Q) from hw)
    · rw [if_neg hc] at hw
      refine wp_st (pc' := 34) (L' := [some (.ref 38), some (.ref a1), some (.int a2), some (.int a3), some (.int (nI a4))]) (st' := []) (h' := Hp S2) 1 (fun Z => if_neg hc) ?_
      refine wp_st (pc' := 37) (L' := [some (.ref 38), some (.ref a1), some (.int a2), some (.int a3), some (.int (nI (a4 + 1)))]) (st' := []) (h' := Hp S2) 1 (fun Z => by rw [← nI_add a4 1]; rfl) ?_
      exact wp_st 1 (fun Z => rfl) (show wp E (d + 1) m_Downs_ownedBy 5 [some (.ref 38), some (.ref a1), some (.int a2), some (.int a3), some (.int (nI (a4 + 1)))] [] (Hp S2) (QI Q) from hw)
set_option maxRecDepth 4000 in
theorem w_Downs_setOffBy {E : zX} {d : Nat} {S : St} {a1 : Nat} {a2 : Nat} {Q : Int32 → St → Prop} (hd : 1 ≤ d) (ha1 : Sc a1)
    (hw : k_Scene_isWhite E (d - 1) S a1 (nI a2) (fun x1 S2 =>
    if x1 = 0 then (
      k_Downs_link E (d - 1) S2 a1 (fun S4 =>
      k_Scene_guards E (d - 1) S4 a1 (fun x5 S6 =>
      k_Downs_chain E (d - 1) S6 (bt a2) x5 (fun x7 S8 =>
      Q x7 S8))))
    else (
      Q (0 : Int32) S2))) :
    k_Downs_setOffBy E d S a1 (nI a2) Q := by
  obtain ⟨d, rfl⟩ := Nat.exists_eq_add_of_le' hd
  show wp E (d + 1) m_Downs_setOffBy 0 [some (.ref 38), some (.ref a1), some (.int (nI a2))] [] (Hp S) (QI Q)
  refine wp_st (pc' := 2) (L' := [some (.ref 38), some (.ref a1), some (.int (nI a2))]) (st' := [.int (nI a2), .ref a1]) (h' := Hp S) 2 (fun Z => rfl) ?_
  refine wp_call (pc' := 5) (rest := []) (fun Z => rfl) (isO_of (ha1).1) hw ?_
  rintro o h1 ⟨x1, S2, rfl, rfl, hw⟩
  refine ⟨_, rfl, ?_⟩
  show wp E (d + 1) m_Downs_setOffBy 5 [some (.ref 38), some (.ref a1), some (.int (nI a2))] [.int x1] (Hp S2) (QI Q)
  by_cases hc : x1 = 0
  · rw [if_pos hc] at hw
    refine wp_st (pc' := 10) (L' := [some (.ref 38), some (.ref a1), some (.int (nI a2))]) (st' := []) (h' := Hp S2) 1 (fun Z => if_pos hc) ?_
    refine wp_st (pc' := 12) (L' := [some (.ref 38), some (.ref a1), some (.int (nI a2))]) (st' := [.ref a1, .ref 38]) (h' := Hp S2) 2 (fun Z => rfl) ?_
    refine wp_call (pc' := 15) (rest := []) (fun Z => rfl) (isO_of sh38) hw ?_
    rintro o h1 ⟨S4, rfl, rfl, hw⟩
    refine ⟨_, rfl, ?_⟩
    show wp E (d + 1) m_Downs_setOffBy 15 [some (.ref 38), some (.ref a1), some (.int (nI a2))] [] (Hp S4) (QI Q)
    refine wp_st (pc' := 20) (L' := [some (.ref 38), some (.ref a1), some (.int (nI a2))]) (st' := [.ref a1, .int (bt a2), .ref 38]) (h' := Hp S4) 5 (fun Z => rfl) ?_
    refine wp_call (pc' := 23) (rest := [.int (bt a2), .ref 38]) (fun Z => rfl) (isO_of (ha1).1) hw ?_
    rintro o h1 ⟨x5, S6, rfl, rfl, hw⟩
    refine ⟨_, rfl, ?_⟩
    show wp E (d + 1) m_Downs_setOffBy 23 [some (.ref 38), some (.ref a1), some (.int (nI a2))] [.int x5, .int (bt a2), .ref 38] (Hp S6) (QI Q)
    refine wp_call (pc' := 26) (rest := []) (fun Z => rfl) (isO_of sh38) hw ?_
    rintro o h1 ⟨x7, S8, rfl, rfl, hw⟩
    refine ⟨_, rfl, ?_⟩
    show wp E (d + 1) m_Downs_setOffBy 26 [some (.ref 38), some (.ref a1), some (.int (nI a2))] [.int x7] (Hp S8) (QI Q)
    exact wp_ret (fun Z => rfl) ⟨_, _, rfl, rfl, hw⟩
  · rw [if_neg hc] at hw
    refine wp_st (pc' := 8) (L' := [some (.ref 38), some (.ref a1), some (.int (nI a2))]) (st' := []) (h' := Hp S2) 1 (fun Z => if_neg hc) ?_
    refine wp_st (pc' := 9) (L' := [some (.ref 38), some (.ref a1), some (.int (nI a2))]) (st' := [.int 0]) (h' := Hp S2) 1 (fun Z => rfl) ?_
    exact wp_ret (fun Z => rfl) ⟨_, _, rfl, rfl, hw⟩
set_option maxRecDepth 4000 in
theorem w_Downs_hearers {E : zX} {d : Nat} {S : St} {a1 : Nat} {a2 : Int32} {Q : Int32 → St → Prop} (hd : 1 ≤ d) (ha1 : Sc a1)
    (hw : k_Downs_hearers_5 E d S a1 a2 0 0 Q) :
    k_Downs_hearers E d S a1 a2 Q := by
  obtain ⟨d, rfl⟩ := Nat.exists_eq_add_of_le' hd
  show wp E (d + 1) m_Downs_hearers 0 [some (.ref 38), some (.ref a1), some (.int a2), none, none] [] (Hp S) (QI Q)
  exact wp_st 4 (fun Z => rfl) (show wp E (d + 1) m_Downs_hearers 5 [some (.ref 38), some (.ref a1), some (.int a2), some (.int 0), some (.int 0)] [] (Hp S) (QI Q) from hw)
set_option maxRecDepth 4000 in
theorem w_Downs_hearers_5 {E : zX} {d : Nat} {S : St} {a1 : Nat} {a2 : Int32} {a3 : Int32} {a4 : Nat} {Q : Int32 → St → Prop} (hd : 1 ≤ d) (ha1 : Sc a1)
    (hw : if (S 3 3) ≤ (nI a4) then (
      Q a3 S)
    else (
      k_Downs_heardOf E (d - 1) S a1 a2 (nI a4) (fun x1 S2 =>
      if x1 ≤ 0 then (
        k_Downs_hearers_5 E d S2 a1 a2 a3 (a4 + 1) Q)
      else (
        k_Downs_hearers_5 E d S2 a1 a2 (a3 ||| (bt a4)) (a4 + 1) Q)))) :
    k_Downs_hearers_5 E d S a1 a2 a3 a4 Q := by
  obtain ⟨d, rfl⟩ := Nat.exists_eq_add_of_le' hd
  show wp E (d + 1) m_Downs_hearers 5 [some (.ref 38), some (.ref a1), some (.int a2), some (.int a3), some (.int (nI a4))] [] (Hp S) (QI Q)
  refine wp_st (pc' := 8) (L' := [some (.ref 38), some (.ref a1), some (.int a2), some (.int a3), some (.int (nI a4))]) (st' := [.ref 38, .int (nI a4)]) (h' := Hp S) 2 (fun Z => rfl) ?_
  refine wp_st (pc' := 11) (L' := [some (.ref 38), some (.ref a1), some (.int a2), some (.int a3), some (.int (nI a4))]) (st' := [.ref 3, .int (nI a4)]) (h' := Hp S) 1 (fun Z => gfR (E := E) sh38 rfl _) ?_
  refine wp_st (pc' := 14) (L' := [some (.ref 38), some (.ref a1), some (.int a2), some (.int a3), some (.int (nI a4))]) (st' := [.int (S 3 3), .int (nI a4)]) (h' := Hp S) 1 (fun Z => gfI (E := E) sh3 rfl _) ?_
  by_cases hc : (S 3 3) ≤ (nI a4)
  · rw [if_pos hc] at hw
    refine wp_st (pc' := 41) (L' := [some (.ref 38), some (.ref a1), some (.int a2), some (.int a3), some (.int (nI a4))]) (st' := []) (h' := Hp S) 1 (fun Z => if_pos hc) ?_
    refine wp_st (pc' := 42) (L' := [some (.ref 38), some (.ref a1), some (.int a2), some (.int a3), some (.int (nI a4))]) (st' := [.int a3]) (h' := Hp S) 1 (fun Z => rfl) ?_
    exact wp_ret (fun Z => rfl) ⟨_, _, rfl, rfl, hw⟩
  · rw [if_neg hc] at hw
    refine wp_st (pc' := 17) (L' := [some (.ref 38), some (.ref a1), some (.int a2), some (.int a3), some (.int (nI a4))]) (st' := []) (h' := Hp S) 1 (fun Z => if_neg hc) ?_
    refine wp_st (pc' := 22) (L' := [some (.ref 38), some (.ref a1), some (.int a2), some (.int a3), some (.int (nI a4))]) (st' := [.int (nI a4), .int a2, .ref a1, .ref 38]) (h' := Hp S) 4 (fun Z => rfl) ?_
    refine wp_call (pc' := 25) (rest := []) (fun Z => rfl) (isO_of sh38) hw ?_
    rintro o h1 ⟨x1, S2, rfl, rfl, hw⟩
    refine ⟨_, rfl, ?_⟩
    show wp E (d + 1) m_Downs_hearers 25 [some (.ref 38), some (.ref a1), some (.int a2), some (.int a3), some (.int (nI a4))] [.int x1] (Hp S2) (QI Q)
    by_cases hc : x1 ≤ 0
    · rw [if_pos hc] at hw
      refine wp_st (pc' := 35) (L' := [some (.ref 38), some (.ref a1), some (.int a2), some (.int a3), some (.int (nI a4))]) (st' := []) (h' := Hp S2) 1 (fun Z => if_pos hc) ?_
      refine wp_st (pc' := 38) (L' := [some (.ref 38), some (.ref a1), some (.int a2), some (.int a3), some (.int (nI (a4 + 1)))]) (st' := []) (h' := Hp S2) 1 (fun Z => by rw [← nI_add a4 1]; rfl) ?_
      exact wp_st 1 (fun Z => rfl) (show wp E (d + 1) m_Downs_hearers 5 [some (.ref 38), some (.ref a1), some (.int a2), some (.int a3), some (.int (nI (a4 + 1)))] [] (Hp S2) (QI Q) from hw)
    · rw [if_neg hc] at hw
      refine wp_st (pc' := 28) (L' := [some (.ref 38), some (.ref a1), some (.int a2), some (.int a3), some (.int (nI a4))]) (st' := []) (h' := Hp S2) 1 (fun Z => if_neg hc) ?_
      refine wp_st (pc' := 35) (L' := [some (.ref 38), some (.ref a1), some (.int a2), some (.int (a3 ||| (bt a4))), some (.int (nI a4))]) (st' := []) (h' := Hp S2) 6 (fun Z => rfl) ?_
      refine wp_st (pc' := 38) (L' := [some (.ref 38), some (.ref a1), some (.int a2), some (.int (a3 ||| (bt a4))), some (.int (nI (a4 + 1)))]) (st' := []) (h' := Hp S2) 1 (fun Z => by rw [← nI_add a4 1]; rfl) ?_
      exact wp_st 1 (fun Z => rfl) (show wp E (d + 1) m_Downs_hearers 5 [some (.ref 38), some (.ref a1), some (.int a2), some (.int (a3 ||| (bt a4))), some (.int (nI (a4 + 1)))] [] (Hp S2) (QI Q) from hw)
set_option maxRecDepth 4000 in
theorem w_Downs_crossest {E : zX} {d : Nat} {S : St} {a1 : Nat} {Q : Int32 → St → Prop} (hd : 1 ≤ d) (ha1 : Sc a1)
    (hw : k_Downs_crossest_4 E d S a1 (-1) 0 Q) :
    k_Downs_crossest E d S a1 Q := by
  obtain ⟨d, rfl⟩ := Nat.exists_eq_add_of_le' hd
  show wp E (d + 1) m_Downs_crossest 0 [some (.ref 38), some (.ref a1), none, none] [] (Hp S) (QI Q)
  refine wp_st (pc' := 1) (L' := [some (.ref 38), some (.ref a1), none, none]) (st' := [.int (-1)]) (h' := Hp S) 1 (fun Z => congrArg (fun v => Z (d + 1) m_Downs_crossest 1 [some (.ref 38), some (.ref a1), none, none] [.int v] (Hp S)) (show Int32.ofInt (-1) = (-1) by decide)) ?_
  exact wp_st 3 (fun Z => rfl) (show wp E (d + 1) m_Downs_crossest 4 [some (.ref 38), some (.ref a1), some (.int (-1)), some (.int 0)] [] (Hp S) (QI Q) from hw)
set_option maxRecDepth 4000 in
theorem w_Downs_crossest_4 {E : zX} {d : Nat} {S : St} {a1 : Nat} {a2 : Int32} {a3 : Nat} {Q : Int32 → St → Prop} (hd : 1 ≤ d) (ha1 : Sc a1)
    (hw : if (S 3 3) ≤ (nI a3) then (
      Q a2 S)
    else (
      if a2 = (-1) then (
        k_Downs_crossest_4 E d S a1 (nI a3) (a3 + 1) Q)
      else (
        k_Scene_temperOf E (d - 1) S a1 (nI a3) (fun x1 S2 =>
        k_Scene_temperOf E (d - 1) S2 a1 a2 (fun x3 S4 =>
        if x1 ≤ x3 then (
          k_Downs_crossest_4 E d S4 a1 a2 (a3 + 1) Q)
        else (
          k_Downs_crossest_4 E d S4 a1 (nI a3) (a3 + 1) Q)))))) :
    k_Downs_crossest_4 E d S a1 a2 a3 Q := by
  obtain ⟨d, rfl⟩ := Nat.exists_eq_add_of_le' hd
  show wp E (d + 1) m_Downs_crossest 4 [some (.ref 38), some (.ref a1), some (.int a2), some (.int (nI a3))] [] (Hp S) (QI Q)
  refine wp_st (pc' := 6) (L' := [some (.ref 38), some (.ref a1), some (.int a2), some (.int (nI a3))]) (st' := [.ref 38, .int (nI a3)]) (h' := Hp S) 2 (fun Z => rfl) ?_
  refine wp_st (pc' := 9) (L' := [some (.ref 38), some (.ref a1), some (.int a2), some (.int (nI a3))]) (st' := [.ref 3, .int (nI a3)]) (h' := Hp S) 1 (fun Z => gfR (E := E) sh38 rfl _) ?_
  refine wp_st (pc' := 12) (L' := [some (.ref 38), some (.ref a1), some (.int a2), some (.int (nI a3))]) (st' := [.int (S 3 3), .int (nI a3)]) (h' := Hp S) 1 (fun Z => gfI (E := E) sh3 rfl _) ?_
  by_cases hc : (S 3 3) ≤ (nI a3)
  · rw [if_pos hc] at hw
    refine wp_st (pc' := 41) (L' := [some (.ref 38), some (.ref a1), some (.int a2), some (.int (nI a3))]) (st' := []) (h' := Hp S) 1 (fun Z => if_pos hc) ?_
    refine wp_st (pc' := 42) (L' := [some (.ref 38), some (.ref a1), some (.int a2), some (.int (nI a3))]) (st' := [.int a2]) (h' := Hp S) 1 (fun Z => rfl) ?_
    exact wp_ret (fun Z => rfl) ⟨_, _, rfl, rfl, hw⟩
  · rw [if_neg hc] at hw
    refine wp_st (pc' := 15) (L' := [some (.ref 38), some (.ref a1), some (.int a2), some (.int (nI a3))]) (st' := []) (h' := Hp S) 1 (fun Z => if_neg hc) ?_
    refine wp_st (pc' := 16) (L' := [some (.ref 38), some (.ref a1), some (.int a2), some (.int (nI a3))]) (st' := [.int a2]) (h' := Hp S) 1 (fun Z => rfl) ?_
    refine wp_st (pc' := 17) (L' := [some (.ref 38), some (.ref a1), some (.int a2), some (.int (nI a3))]) (st' := [.int (-1), .int a2]) (h' := Hp S) 1 (fun Z => congrArg (fun v => Z (d + 1) m_Downs_crossest 17 [some (.ref 38), some (.ref a1), some (.int a2), some (.int (nI a3))] [.int v, .int a2] (Hp S)) (show Int32.ofInt (-1) = (-1) by decide)) ?_
    by_cases hc : a2 = (-1)
    · rw [if_pos hc] at hw
      refine wp_st (pc' := 33) (L' := [some (.ref 38), some (.ref a1), some (.int a2), some (.int (nI a3))]) (st' := []) (h' := Hp S) 1 (fun Z => if_pos hc) ?_
      refine wp_st (pc' := 35) (L' := [some (.ref 38), some (.ref a1), some (.int (nI a3)), some (.int (nI a3))]) (st' := []) (h' := Hp S) 2 (fun Z => rfl) ?_
      refine wp_st (pc' := 38) (L' := [some (.ref 38), some (.ref a1), some (.int (nI a3)), some (.int (nI (a3 + 1)))]) (st' := []) (h' := Hp S) 1 (fun Z => by rw [← nI_add a3 1]; rfl) ?_
      exact wp_st 1 (fun Z => rfl) (show wp E (d + 1) m_Downs_crossest 4 [some (.ref 38), some (.ref a1), some (.int (nI a3)), some (.int (nI (a3 + 1)))] [] (Hp S) (QI Q) from hw)
    · rw [if_neg hc] at hw
      refine wp_st (pc' := 20) (L' := [some (.ref 38), some (.ref a1), some (.int a2), some (.int (nI a3))]) (st' := []) (h' := Hp S) 1 (fun Z => if_neg hc) ?_
      refine wp_st (pc' := 22) (L' := [some (.ref 38), some (.ref a1), some (.int a2), some (.int (nI a3))]) (st' := [.int (nI a3), .ref a1]) (h' := Hp S) 2 (fun Z => rfl) ?_
      refine wp_call (pc' := 25) (rest := []) (fun Z => rfl) (isO_of (ha1).1) hw ?_
      rintro o h1 ⟨x1, S2, rfl, rfl, hw⟩
      refine ⟨_, rfl, ?_⟩
      show wp E (d + 1) m_Downs_crossest 25 [some (.ref 38), some (.ref a1), some (.int a2), some (.int (nI a3))] [.int x1] (Hp S2) (QI Q)
      refine wp_st (pc' := 27) (L' := [some (.ref 38), some (.ref a1), some (.int a2), some (.int (nI a3))]) (st' := [.int a2, .ref a1, .int x1]) (h' := Hp S2) 2 (fun Z => rfl) ?_
      refine wp_call (pc' := 30) (rest := [.int x1]) (fun Z => rfl) (isO_of (ha1).1) hw ?_
      rintro o h1 ⟨x3, S4, rfl, rfl, hw⟩
      refine ⟨_, rfl, ?_⟩
      show wp E (d + 1) m_Downs_crossest 30 [some (.ref 38), some (.ref a1), some (.int a2), some (.int (nI a3))] [.int x3, .int x1] (Hp S4) (QI Q)
      by_cases hc : x1 ≤ x3
      · rw [if_pos hc] at hw
        refine wp_st (pc' := 35) (L' := [some (.ref 38), some (.ref a1), some (.int a2), some (.int (nI a3))]) (st' := []) (h' := Hp S4) 1 (fun Z => if_pos hc) ?_
        refine wp_st (pc' := 38) (L' := [some (.ref 38), some (.ref a1), some (.int a2), some (.int (nI (a3 + 1)))]) (st' := []) (h' := Hp S4) 1 (fun Z => by rw [← nI_add a3 1]; rfl) ?_
        exact wp_st 1 (fun Z => rfl) (show wp E (d + 1) m_Downs_crossest 4 [some (.ref 38), some (.ref a1), some (.int a2), some (.int (nI (a3 + 1)))] [] (Hp S4) (QI Q) from hw)
      · rw [if_neg hc] at hw
        refine wp_st (pc' := 33) (L' := [some (.ref 38), some (.ref a1), some (.int a2), some (.int (nI a3))]) (st' := []) (h' := Hp S4) 1 (fun Z => if_neg hc) ?_
        refine wp_st (pc' := 35) (L' := [some (.ref 38), some (.ref a1), some (.int (nI a3)), some (.int (nI a3))]) (st' := []) (h' := Hp S4) 2 (fun Z => rfl) ?_
        refine wp_st (pc' := 38) (L' := [some (.ref 38), some (.ref a1), some (.int (nI a3)), some (.int (nI (a3 + 1)))]) (st' := []) (h' := Hp S4) 1 (fun Z => by rw [← nI_add a3 1]; rfl) ?_
        exact wp_st 1 (fun Z => rfl) (show wp E (d + 1) m_Downs_crossest 4 [some (.ref 38), some (.ref a1), some (.int (nI a3)), some (.int (nI (a3 + 1)))] [] (Hp S4) (QI Q) from hw)
set_option maxRecDepth 4000 in
theorem w_Downs_fullest {E : zX} {d : Nat} {S : St} {a1 : Nat} {a2 : Int32} {Q : Int32 → St → Prop} (hd : 1 ≤ d) (ha1 : Sc a1)
    (hw : k_Downs_fullest_5 E d S a1 a2 (-1) 0 Q) :
    k_Downs_fullest E d S a1 a2 Q := by
  obtain ⟨d, rfl⟩ := Nat.exists_eq_add_of_le' hd
  show wp E (d + 1) m_Downs_fullest 0 [some (.ref 38), some (.ref a1), some (.int a2), none, none] [] (Hp S) (QI Q)
  refine wp_st (pc' := 1) (L' := [some (.ref 38), some (.ref a1), some (.int a2), none, none]) (st' := [.int (-1)]) (h' := Hp S) 1 (fun Z => congrArg (fun v => Z (d + 1) m_Downs_fullest 1 [some (.ref 38), some (.ref a1), some (.int a2), none, none] [.int v] (Hp S)) (show Int32.ofInt (-1) = (-1) by decide)) ?_
  exact wp_st 3 (fun Z => rfl) (show wp E (d + 1) m_Downs_fullest 5 [some (.ref 38), some (.ref a1), some (.int a2), some (.int (-1)), some (.int 0)] [] (Hp S) (QI Q) from hw)
set_option maxRecDepth 4000 in
theorem w_Downs_fullest_5 {E : zX} {d : Nat} {S : St} {a1 : Nat} {a2 : Int32} {a3 : Int32} {a4 : Nat} {Q : Int32 → St → Prop} (hd : 1 ≤ d) (ha1 : Sc a1)
    (hw : if (S 3 4) ≤ (nI a4) then (
      Q a3 S)
    else (
      k_Scene_isWhite E (d - 1) S a1 (nI a4) (fun x1 S2 =>
      if x1 = 0 then (
        if (a2 &&& (bt a4)) = 0 then (
          if a3 = (-1) then (
            k_Downs_fullest_5 E d S2 a1 a2 (nI a4) (a4 + 1) Q)
          else (
            k_Scene_heldIn E (d - 1) S2 a1 (nI a4) (fun x3 S4 =>
            k_Scene_heldIn E (d - 1) S4 a1 a3 (fun x5 S6 =>
            if x3 ≤ x5 then (
              k_Downs_fullest_5 E d S6 a1 a2 a3 (a4 + 1) Q)
            else (
              k_Downs_fullest_5 E d S6 a1 a2 (nI a4) (a4 + 1) Q)))))
        else (
          k_Downs_fullest_5 E d S2 a1 a2 a3 (a4 + 1) Q))
      else (
        k_Downs_fullest_5 E d S2 a1 a2 a3 (a4 + 1) Q)))) :
    k_Downs_fullest_5 E d S a1 a2 a3 a4 Q := by
  obtain ⟨d, rfl⟩ := Nat.exists_eq_add_of_le' hd
  show wp E (d + 1) m_Downs_fullest 5 [some (.ref 38), some (.ref a1), some (.int a2), some (.int a3), some (.int (nI a4))] [] (Hp S) (QI Q)
  refine wp_st (pc' := 8) (L' := [some (.ref 38), some (.ref a1), some (.int a2), some (.int a3), some (.int (nI a4))]) (st' := [.ref 38, .int (nI a4)]) (h' := Hp S) 2 (fun Z => rfl) ?_
  refine wp_st (pc' := 11) (L' := [some (.ref 38), some (.ref a1), some (.int a2), some (.int a3), some (.int (nI a4))]) (st' := [.ref 3, .int (nI a4)]) (h' := Hp S) 1 (fun Z => gfR (E := E) sh38 rfl _) ?_
  refine wp_st (pc' := 14) (L' := [some (.ref 38), some (.ref a1), some (.int a2), some (.int a3), some (.int (nI a4))]) (st' := [.int (S 3 4), .int (nI a4)]) (h' := Hp S) 1 (fun Z => gfI (E := E) sh3 rfl _) ?_
  by_cases hc : (S 3 4) ≤ (nI a4)
  · rw [if_pos hc] at hw
    refine wp_st (pc' := 63) (L' := [some (.ref 38), some (.ref a1), some (.int a2), some (.int a3), some (.int (nI a4))]) (st' := []) (h' := Hp S) 1 (fun Z => if_pos hc) ?_
    refine wp_st (pc' := 64) (L' := [some (.ref 38), some (.ref a1), some (.int a2), some (.int a3), some (.int (nI a4))]) (st' := [.int a3]) (h' := Hp S) 1 (fun Z => rfl) ?_
    exact wp_ret (fun Z => rfl) ⟨_, _, rfl, rfl, hw⟩
  · rw [if_neg hc] at hw
    refine wp_st (pc' := 17) (L' := [some (.ref 38), some (.ref a1), some (.int a2), some (.int a3), some (.int (nI a4))]) (st' := []) (h' := Hp S) 1 (fun Z => if_neg hc) ?_
    refine wp_st (pc' := 20) (L' := [some (.ref 38), some (.ref a1), some (.int a2), some (.int a3), some (.int (nI a4))]) (st' := [.int (nI a4), .ref a1]) (h' := Hp S) 2 (fun Z => rfl) ?_
    refine wp_call (pc' := 23) (rest := []) (fun Z => rfl) (isO_of (ha1).1) hw ?_
    rintro o h1 ⟨x1, S2, rfl, rfl, hw⟩
    refine ⟨_, rfl, ?_⟩
    show wp E (d + 1) m_Downs_fullest 23 [some (.ref 38), some (.ref a1), some (.int a2), some (.int a3), some (.int (nI a4))] [.int x1] (Hp S2) (QI Q)
    by_cases hc : x1 = 0
    · rw [if_pos hc] at hw
      refine wp_st (pc' := 26) (L' := [some (.ref 38), some (.ref a1), some (.int a2), some (.int a3), some (.int (nI a4))]) (st' := []) (h' := Hp S2) 1 (fun Z => if_pos hc) ?_
      refine wp_st (pc' := 32) (L' := [some (.ref 38), some (.ref a1), some (.int a2), some (.int a3), some (.int (nI a4))]) (st' := [.int (a2 &&& (bt a4))]) (h' := Hp S2) 5 (fun Z => rfl) ?_
      by_cases hc : (a2 &&& (bt a4)) = 0
      · rw [if_pos hc] at hw
        refine wp_st (pc' := 35) (L' := [some (.ref 38), some (.ref a1), some (.int a2), some (.int a3), some (.int (nI a4))]) (st' := []) (h' := Hp S2) 1 (fun Z => if_pos hc) ?_
        refine wp_st (pc' := 36) (L' := [some (.ref 38), some (.ref a1), some (.int a2), some (.int a3), some (.int (nI a4))]) (st' := [.int a3]) (h' := Hp S2) 1 (fun Z => rfl) ?_
        refine wp_st (pc' := 37) (L' := [some (.ref 38), some (.ref a1), some (.int a2), some (.int a3), some (.int (nI a4))]) (st' := [.int (-1), .int a3]) (h' := Hp S2) 1 (fun Z => congrArg (fun v => Z (d + 1) m_Downs_fullest 37 [some (.ref 38), some (.ref a1), some (.int a2), some (.int a3), some (.int (nI a4))] [.int v, .int a3] (Hp S2)) (show Int32.ofInt (-1) = (-1) by decide)) ?_
        by_cases hc : a3 = (-1)
        · rw [if_pos hc] at hw
          refine wp_st (pc' := 54) (L' := [some (.ref 38), some (.ref a1), some (.int a2), some (.int a3), some (.int (nI a4))]) (st' := []) (h' := Hp S2) 1 (fun Z => if_pos hc) ?_
          refine wp_st (pc' := 57) (L' := [some (.ref 38), some (.ref a1), some (.int a2), some (.int (nI a4)), some (.int (nI a4))]) (st' := []) (h' := Hp S2) 2 (fun Z => rfl) ?_
          refine wp_st (pc' := 60) (L' := [some (.ref 38), some (.ref a1), some (.int a2), some (.int (nI a4)), some (.int (nI (a4 + 1)))]) (st' := []) (h' := Hp S2) 1 (fun Z => by rw [← nI_add a4 1]; rfl) ?_
          exact wp_st 1 (fun Z => rfl) (show wp E (d + 1) m_Downs_fullest 5 [some (.ref 38), some (.ref a1), some (.int a2), some (.int (nI a4)), some (.int (nI (a4 + 1)))] [] (Hp S2) (QI Q) from hw)
        · rw [if_neg hc] at hw
          refine wp_st (pc' := 40) (L' := [some (.ref 38), some (.ref a1), some (.int a2), some (.int a3), some (.int (nI a4))]) (st' := []) (h' := Hp S2) 1 (fun Z => if_neg hc) ?_
          refine wp_st (pc' := 43) (L' := [some (.ref 38), some (.ref a1), some (.int a2), some (.int a3), some (.int (nI a4))]) (st' := [.int (nI a4), .ref a1]) (h' := Hp S2) 2 (fun Z => rfl) ?_
          refine wp_call (pc' := 46) (rest := []) (fun Z => rfl) (isO_of (ha1).1) hw ?_
          rintro o h1 ⟨x3, S4, rfl, rfl, hw⟩
          refine ⟨_, rfl, ?_⟩
          show wp E (d + 1) m_Downs_fullest 46 [some (.ref 38), some (.ref a1), some (.int a2), some (.int a3), some (.int (nI a4))] [.int x3] (Hp S4) (QI Q)
          refine wp_st (pc' := 48) (L' := [some (.ref 38), some (.ref a1), some (.int a2), some (.int a3), some (.int (nI a4))]) (st' := [.int a3, .ref a1, .int x3]) (h' := Hp S4) 2 (fun Z => rfl) ?_
          refine wp_call (pc' := 51) (rest := [.int x3]) (fun Z => rfl) (isO_of (ha1).1) hw ?_
          rintro o h1 ⟨x5, S6, rfl, rfl, hw⟩
          refine ⟨_, rfl, ?_⟩
          show wp E (d + 1) m_Downs_fullest 51 [some (.ref 38), some (.ref a1), some (.int a2), some (.int a3), some (.int (nI a4))] [.int x5, .int x3] (Hp S6) (QI Q)
          by_cases hc : x3 ≤ x5
          · rw [if_pos hc] at hw
            refine wp_st (pc' := 57) (L' := [some (.ref 38), some (.ref a1), some (.int a2), some (.int a3), some (.int (nI a4))]) (st' := []) (h' := Hp S6) 1 (fun Z => if_pos hc) ?_
            refine wp_st (pc' := 60) (L' := [some (.ref 38), some (.ref a1), some (.int a2), some (.int a3), some (.int (nI (a4 + 1)))]) (st' := []) (h' := Hp S6) 1 (fun Z => by rw [← nI_add a4 1]; rfl) ?_
            exact wp_st 1 (fun Z => rfl) (show wp E (d + 1) m_Downs_fullest 5 [some (.ref 38), some (.ref a1), some (.int a2), some (.int a3), some (.int (nI (a4 + 1)))] [] (Hp S6) (QI Q) from hw)
          · rw [if_neg hc] at hw
            refine wp_st (pc' := 54) (L' := [some (.ref 38), some (.ref a1), some (.int a2), some (.int a3), some (.int (nI a4))]) (st' := []) (h' := Hp S6) 1 (fun Z => if_neg hc) ?_
            refine wp_st (pc' := 57) (L' := [some (.ref 38), some (.ref a1), some (.int a2), some (.int (nI a4)), some (.int (nI a4))]) (st' := []) (h' := Hp S6) 2 (fun Z => rfl) ?_
            refine wp_st (pc' := 60) (L' := [some (.ref 38), some (.ref a1), some (.int a2), some (.int (nI a4)), some (.int (nI (a4 + 1)))]) (st' := []) (h' := Hp S6) 1 (fun Z => by rw [← nI_add a4 1]; rfl) ?_
            exact wp_st 1 (fun Z => rfl) (show wp E (d + 1) m_Downs_fullest 5 [some (.ref 38), some (.ref a1), some (.int a2), some (.int (nI a4)), some (.int (nI (a4 + 1)))] [] (Hp S6) (QI Q) from hw)
      · rw [if_neg hc] at hw
        refine wp_st (pc' := 57) (L' := [some (.ref 38), some (.ref a1), some (.int a2), some (.int a3), some (.int (nI a4))]) (st' := []) (h' := Hp S2) 1 (fun Z => if_neg hc) ?_
        refine wp_st (pc' := 60) (L' := [some (.ref 38), some (.ref a1), some (.int a2), some (.int a3), some (.int (nI (a4 + 1)))]) (st' := []) (h' := Hp S2) 1 (fun Z => by rw [← nI_add a4 1]; rfl) ?_
        exact wp_st 1 (fun Z => rfl) (show wp E (d + 1) m_Downs_fullest 5 [some (.ref 38), some (.ref a1), some (.int a2), some (.int a3), some (.int (nI (a4 + 1)))] [] (Hp S2) (QI Q) from hw)
    · rw [if_neg hc] at hw
      refine wp_st (pc' := 57) (L' := [some (.ref 38), some (.ref a1), some (.int a2), some (.int a3), some (.int (nI a4))]) (st' := []) (h' := Hp S2) 1 (fun Z => if_neg hc) ?_
      refine wp_st (pc' := 60) (L' := [some (.ref 38), some (.ref a1), some (.int a2), some (.int a3), some (.int (nI (a4 + 1)))]) (st' := []) (h' := Hp S2) 1 (fun Z => by rw [← nI_add a4 1]; rfl) ?_
      exact wp_st 1 (fun Z => rfl) (show wp E (d + 1) m_Downs_fullest 5 [some (.ref 38), some (.ref a1), some (.int a2), some (.int a3), some (.int (nI (a4 + 1)))] [] (Hp S2) (QI Q) from hw)
set_option maxRecDepth 4000 in
theorem w_Downs_over {E : zX} {d : Nat} {S : St} {a1 : Nat} {a2 : Nat} {Q : Int32 → St → Prop} (hd : 1 ≤ d) (ha1 : Sc a1)
    (hw : k_Downs_over_5 E d S a1 a2 0 0 Q) :
    k_Downs_over E d S a1 (nI a2) Q := by
  obtain ⟨d, rfl⟩ := Nat.exists_eq_add_of_le' hd
  show wp E (d + 1) m_Downs_over 0 [some (.ref 38), some (.ref a1), some (.int (nI a2)), none, none] [] (Hp S) (QI Q)
  exact wp_st 4 (fun Z => rfl) (show wp E (d + 1) m_Downs_over 5 [some (.ref 38), some (.ref a1), some (.int (nI a2)), some (.int 0), some (.int 0)] [] (Hp S) (QI Q) from hw)
set_option maxRecDepth 4000 in
theorem w_Downs_over_5 {E : zX} {d : Nat} {S : St} {a1 : Nat} {a2 : Nat} {a3 : Int32} {a4 : Nat} {Q : Int32 → St → Prop} (hd : 1 ≤ d) (ha1 : Sc a1)
    (hw : if (S 3 4) ≤ (nI a4) then (
      Q a3 S)
    else (
      k_Scene_isWhite E (d - 1) S a1 (nI a4) (fun x1 S2 =>
      if x1 = 0 then (
        k_Downs_reaches E (d - 1) S2 a1 (nI a4) (nI a2) (fun x3 S4 =>
        if x3 = 0 then (
          k_Downs_over_5 E d S4 a1 a2 a3 (a4 + 1) Q)
        else (
          k_Downs_over_5 E d S4 a1 a2 (a3 ||| (bt a4)) (a4 + 1) Q)))
      else (
        k_Downs_over_5 E d S2 a1 a2 a3 (a4 + 1) Q)))) :
    k_Downs_over_5 E d S a1 a2 a3 a4 Q := by
  obtain ⟨d, rfl⟩ := Nat.exists_eq_add_of_le' hd
  show wp E (d + 1) m_Downs_over 5 [some (.ref 38), some (.ref a1), some (.int (nI a2)), some (.int a3), some (.int (nI a4))] [] (Hp S) (QI Q)
  refine wp_st (pc' := 8) (L' := [some (.ref 38), some (.ref a1), some (.int (nI a2)), some (.int a3), some (.int (nI a4))]) (st' := [.ref 38, .int (nI a4)]) (h' := Hp S) 2 (fun Z => rfl) ?_
  refine wp_st (pc' := 11) (L' := [some (.ref 38), some (.ref a1), some (.int (nI a2)), some (.int a3), some (.int (nI a4))]) (st' := [.ref 3, .int (nI a4)]) (h' := Hp S) 1 (fun Z => gfR (E := E) sh38 rfl _) ?_
  refine wp_st (pc' := 14) (L' := [some (.ref 38), some (.ref a1), some (.int (nI a2)), some (.int a3), some (.int (nI a4))]) (st' := [.int (S 3 4), .int (nI a4)]) (h' := Hp S) 1 (fun Z => gfI (E := E) sh3 rfl _) ?_
  by_cases hc : (S 3 4) ≤ (nI a4)
  · rw [if_pos hc] at hw
    refine wp_st (pc' := 50) (L' := [some (.ref 38), some (.ref a1), some (.int (nI a2)), some (.int a3), some (.int (nI a4))]) (st' := []) (h' := Hp S) 1 (fun Z => if_pos hc) ?_
    refine wp_st (pc' := 51) (L' := [some (.ref 38), some (.ref a1), some (.int (nI a2)), some (.int a3), some (.int (nI a4))]) (st' := [.int a3]) (h' := Hp S) 1 (fun Z => rfl) ?_
    exact wp_ret (fun Z => rfl) ⟨_, _, rfl, rfl, hw⟩
  · rw [if_neg hc] at hw
    refine wp_st (pc' := 17) (L' := [some (.ref 38), some (.ref a1), some (.int (nI a2)), some (.int a3), some (.int (nI a4))]) (st' := []) (h' := Hp S) 1 (fun Z => if_neg hc) ?_
    refine wp_st (pc' := 20) (L' := [some (.ref 38), some (.ref a1), some (.int (nI a2)), some (.int a3), some (.int (nI a4))]) (st' := [.int (nI a4), .ref a1]) (h' := Hp S) 2 (fun Z => rfl) ?_
    refine wp_call (pc' := 23) (rest := []) (fun Z => rfl) (isO_of (ha1).1) hw ?_
    rintro o h1 ⟨x1, S2, rfl, rfl, hw⟩
    refine ⟨_, rfl, ?_⟩
    show wp E (d + 1) m_Downs_over 23 [some (.ref 38), some (.ref a1), some (.int (nI a2)), some (.int a3), some (.int (nI a4))] [.int x1] (Hp S2) (QI Q)
    by_cases hc : x1 = 0
    · rw [if_pos hc] at hw
      refine wp_st (pc' := 26) (L' := [some (.ref 38), some (.ref a1), some (.int (nI a2)), some (.int a3), some (.int (nI a4))]) (st' := []) (h' := Hp S2) 1 (fun Z => if_pos hc) ?_
      refine wp_st (pc' := 31) (L' := [some (.ref 38), some (.ref a1), some (.int (nI a2)), some (.int a3), some (.int (nI a4))]) (st' := [.int (nI a2), .int (nI a4), .ref a1, .ref 38]) (h' := Hp S2) 4 (fun Z => rfl) ?_
      refine wp_call (pc' := 34) (rest := []) (fun Z => rfl) (isO_of sh38) hw ?_
      rintro o h1 ⟨x3, S4, rfl, rfl, hw⟩
      refine ⟨_, rfl, ?_⟩
      show wp E (d + 1) m_Downs_over 34 [some (.ref 38), some (.ref a1), some (.int (nI a2)), some (.int a3), some (.int (nI a4))] [.int x3] (Hp S4) (QI Q)
      by_cases hc : x3 = 0
      · rw [if_pos hc] at hw
        refine wp_st (pc' := 44) (L' := [some (.ref 38), some (.ref a1), some (.int (nI a2)), some (.int a3), some (.int (nI a4))]) (st' := []) (h' := Hp S4) 1 (fun Z => if_pos hc) ?_
        refine wp_st (pc' := 47) (L' := [some (.ref 38), some (.ref a1), some (.int (nI a2)), some (.int a3), some (.int (nI (a4 + 1)))]) (st' := []) (h' := Hp S4) 1 (fun Z => by rw [← nI_add a4 1]; rfl) ?_
        exact wp_st 1 (fun Z => rfl) (show wp E (d + 1) m_Downs_over 5 [some (.ref 38), some (.ref a1), some (.int (nI a2)), some (.int a3), some (.int (nI (a4 + 1)))] [] (Hp S4) (QI Q) from hw)
      · rw [if_neg hc] at hw
        refine wp_st (pc' := 37) (L' := [some (.ref 38), some (.ref a1), some (.int (nI a2)), some (.int a3), some (.int (nI a4))]) (st' := []) (h' := Hp S4) 1 (fun Z => if_neg hc) ?_
        refine wp_st (pc' := 44) (L' := [some (.ref 38), some (.ref a1), some (.int (nI a2)), some (.int (a3 ||| (bt a4))), some (.int (nI a4))]) (st' := []) (h' := Hp S4) 6 (fun Z => rfl) ?_
        refine wp_st (pc' := 47) (L' := [some (.ref 38), some (.ref a1), some (.int (nI a2)), some (.int (a3 ||| (bt a4))), some (.int (nI (a4 + 1)))]) (st' := []) (h' := Hp S4) 1 (fun Z => by rw [← nI_add a4 1]; rfl) ?_
        exact wp_st 1 (fun Z => rfl) (show wp E (d + 1) m_Downs_over 5 [some (.ref 38), some (.ref a1), some (.int (nI a2)), some (.int (a3 ||| (bt a4))), some (.int (nI (a4 + 1)))] [] (Hp S4) (QI Q) from hw)
    · rw [if_neg hc] at hw
      refine wp_st (pc' := 44) (L' := [some (.ref 38), some (.ref a1), some (.int (nI a2)), some (.int a3), some (.int (nI a4))]) (st' := []) (h' := Hp S2) 1 (fun Z => if_neg hc) ?_
      refine wp_st (pc' := 47) (L' := [some (.ref 38), some (.ref a1), some (.int (nI a2)), some (.int a3), some (.int (nI (a4 + 1)))]) (st' := []) (h' := Hp S2) 1 (fun Z => by rw [← nI_add a4 1]; rfl) ?_
      exact wp_st 1 (fun Z => rfl) (show wp E (d + 1) m_Downs_over 5 [some (.ref 38), some (.ref a1), some (.int (nI a2)), some (.int a3), some (.int (nI (a4 + 1)))] [] (Hp S2) (QI Q) from hw)
set_option maxRecDepth 4000 in
theorem w_Downs_nearestBall {E : zX} {d : Nat} {S : St} {a1 : Nat} {a2 : Nat} {Q : Int32 → St → Prop} (hd : 1 ≤ d) (ha1 : Sc a1)
    (hw : k_Downs_nearestBall_5 E d S a1 a2 (-1) 0 Q) :
    k_Downs_nearestBall E d S a1 (nI a2) Q := by
  obtain ⟨d, rfl⟩ := Nat.exists_eq_add_of_le' hd
  show wp E (d + 1) m_Downs_nearestBall 0 [some (.ref 38), some (.ref a1), some (.int (nI a2)), none, none] [] (Hp S) (QI Q)
  refine wp_st (pc' := 1) (L' := [some (.ref 38), some (.ref a1), some (.int (nI a2)), none, none]) (st' := [.int (-1)]) (h' := Hp S) 1 (fun Z => congrArg (fun v => Z (d + 1) m_Downs_nearestBall 1 [some (.ref 38), some (.ref a1), some (.int (nI a2)), none, none] [.int v] (Hp S)) (show Int32.ofInt (-1) = (-1) by decide)) ?_
  exact wp_st 3 (fun Z => rfl) (show wp E (d + 1) m_Downs_nearestBall 5 [some (.ref 38), some (.ref a1), some (.int (nI a2)), some (.int (-1)), some (.int 0)] [] (Hp S) (QI Q) from hw)
set_option maxRecDepth 4000 in
theorem w_Downs_nearestBall_5 {E : zX} {d : Nat} {S : St} {a1 : Nat} {a2 : Nat} {a3 : Int32} {a4 : Nat} {Q : Int32 → St → Prop} (hd : 1 ≤ d) (ha1 : Sc a1)
    (hw : if (S 3 4) ≤ (nI a4) then (
      Q a3 S)
    else (
      if a3 = (-1) then (
        k_Downs_nearestBall_5 E d S a1 a2 (nI a4) (a4 + 1) Q)
      else (
        k_Scene_cellOf E (d - 1) S a1 (nI a4) (fun x1 S2 =>
        k_Land_far E (d - 1) S2 x1 (nI a2) (fun x3 S4 =>
        k_Scene_cellOf E (d - 1) S4 a1 a3 (fun x5 S6 =>
        k_Land_far E (d - 1) S6 x5 (nI a2) (fun x7 S8 =>
        if x7 ≤ x3 then (
          k_Downs_nearestBall_5 E d S8 a1 a2 a3 (a4 + 1) Q)
        else (
          k_Downs_nearestBall_5 E d S8 a1 a2 (nI a4) (a4 + 1) Q)))))))) :
    k_Downs_nearestBall_5 E d S a1 a2 a3 a4 Q := by
  obtain ⟨d, rfl⟩ := Nat.exists_eq_add_of_le' hd
  show wp E (d + 1) m_Downs_nearestBall 5 [some (.ref 38), some (.ref a1), some (.int (nI a2)), some (.int a3), some (.int (nI a4))] [] (Hp S) (QI Q)
  refine wp_st (pc' := 8) (L' := [some (.ref 38), some (.ref a1), some (.int (nI a2)), some (.int a3), some (.int (nI a4))]) (st' := [.ref 38, .int (nI a4)]) (h' := Hp S) 2 (fun Z => rfl) ?_
  refine wp_st (pc' := 11) (L' := [some (.ref 38), some (.ref a1), some (.int (nI a2)), some (.int a3), some (.int (nI a4))]) (st' := [.ref 3, .int (nI a4)]) (h' := Hp S) 1 (fun Z => gfR (E := E) sh38 rfl _) ?_
  refine wp_st (pc' := 14) (L' := [some (.ref 38), some (.ref a1), some (.int (nI a2)), some (.int a3), some (.int (nI a4))]) (st' := [.int (S 3 4), .int (nI a4)]) (h' := Hp S) 1 (fun Z => gfI (E := E) sh3 rfl _) ?_
  by_cases hc : (S 3 4) ≤ (nI a4)
  · rw [if_pos hc] at hw
    refine wp_st (pc' := 61) (L' := [some (.ref 38), some (.ref a1), some (.int (nI a2)), some (.int a3), some (.int (nI a4))]) (st' := []) (h' := Hp S) 1 (fun Z => if_pos hc) ?_
    refine wp_st (pc' := 62) (L' := [some (.ref 38), some (.ref a1), some (.int (nI a2)), some (.int a3), some (.int (nI a4))]) (st' := [.int a3]) (h' := Hp S) 1 (fun Z => rfl) ?_
    exact wp_ret (fun Z => rfl) ⟨_, _, rfl, rfl, hw⟩
  · rw [if_neg hc] at hw
    refine wp_st (pc' := 17) (L' := [some (.ref 38), some (.ref a1), some (.int (nI a2)), some (.int a3), some (.int (nI a4))]) (st' := []) (h' := Hp S) 1 (fun Z => if_neg hc) ?_
    refine wp_st (pc' := 18) (L' := [some (.ref 38), some (.ref a1), some (.int (nI a2)), some (.int a3), some (.int (nI a4))]) (st' := [.int a3]) (h' := Hp S) 1 (fun Z => rfl) ?_
    refine wp_st (pc' := 19) (L' := [some (.ref 38), some (.ref a1), some (.int (nI a2)), some (.int a3), some (.int (nI a4))]) (st' := [.int (-1), .int a3]) (h' := Hp S) 1 (fun Z => congrArg (fun v => Z (d + 1) m_Downs_nearestBall 19 [some (.ref 38), some (.ref a1), some (.int (nI a2)), some (.int a3), some (.int (nI a4))] [.int v, .int a3] (Hp S)) (show Int32.ofInt (-1) = (-1) by decide)) ?_
    by_cases hc : a3 = (-1)
    · rw [if_pos hc] at hw
      refine wp_st (pc' := 52) (L' := [some (.ref 38), some (.ref a1), some (.int (nI a2)), some (.int a3), some (.int (nI a4))]) (st' := []) (h' := Hp S) 1 (fun Z => if_pos hc) ?_
      refine wp_st (pc' := 55) (L' := [some (.ref 38), some (.ref a1), some (.int (nI a2)), some (.int (nI a4)), some (.int (nI a4))]) (st' := []) (h' := Hp S) 2 (fun Z => rfl) ?_
      refine wp_st (pc' := 58) (L' := [some (.ref 38), some (.ref a1), some (.int (nI a2)), some (.int (nI a4)), some (.int (nI (a4 + 1)))]) (st' := []) (h' := Hp S) 1 (fun Z => by rw [← nI_add a4 1]; rfl) ?_
      exact wp_st 1 (fun Z => rfl) (show wp E (d + 1) m_Downs_nearestBall 5 [some (.ref 38), some (.ref a1), some (.int (nI a2)), some (.int (nI a4)), some (.int (nI (a4 + 1)))] [] (Hp S) (QI Q) from hw)
    · rw [if_neg hc] at hw
      refine wp_st (pc' := 22) (L' := [some (.ref 38), some (.ref a1), some (.int (nI a2)), some (.int a3), some (.int (nI a4))]) (st' := []) (h' := Hp S) 1 (fun Z => if_neg hc) ?_
      refine wp_st (pc' := 23) (L' := [some (.ref 38), some (.ref a1), some (.int (nI a2)), some (.int a3), some (.int (nI a4))]) (st' := [.ref 38]) (h' := Hp S) 1 (fun Z => rfl) ?_
      refine wp_st (pc' := 26) (L' := [some (.ref 38), some (.ref a1), some (.int (nI a2)), some (.int a3), some (.int (nI a4))]) (st' := [.ref 3]) (h' := Hp S) 1 (fun Z => gfR (E := E) sh38 rfl _) ?_
      refine wp_st (pc' := 29) (L' := [some (.ref 38), some (.ref a1), some (.int (nI a2)), some (.int a3), some (.int (nI a4))]) (st' := [.int (nI a4), .ref a1, .ref 3]) (h' := Hp S) 2 (fun Z => rfl) ?_
      refine wp_call (pc' := 32) (rest := [.ref 3]) (fun Z => rfl) (isO_of (ha1).1) hw ?_
      rintro o h1 ⟨x1, S2, rfl, rfl, hw⟩
      refine ⟨_, rfl, ?_⟩
      show wp E (d + 1) m_Downs_nearestBall 32 [some (.ref 38), some (.ref a1), some (.int (nI a2)), some (.int a3), some (.int (nI a4))] [.int x1, .ref 3] (Hp S2) (QI Q)
      refine wp_st (pc' := 33) (L' := [some (.ref 38), some (.ref a1), some (.int (nI a2)), some (.int a3), some (.int (nI a4))]) (st' := [.int (nI a2), .int x1, .ref 3]) (h' := Hp S2) 1 (fun Z => rfl) ?_
      refine wp_call (pc' := 36) (rest := []) (fun Z => rfl) (isO_of sh3) hw ?_
      rintro o h1 ⟨x3, S4, rfl, rfl, hw⟩
      refine ⟨_, rfl, ?_⟩
      show wp E (d + 1) m_Downs_nearestBall 36 [some (.ref 38), some (.ref a1), some (.int (nI a2)), some (.int a3), some (.int (nI a4))] [.int x3] (Hp S4) (QI Q)
      refine wp_st (pc' := 37) (L' := [some (.ref 38), some (.ref a1), some (.int (nI a2)), some (.int a3), some (.int (nI a4))]) (st' := [.ref 38, .int x3]) (h' := Hp S4) 1 (fun Z => rfl) ?_
      refine wp_st (pc' := 40) (L' := [some (.ref 38), some (.ref a1), some (.int (nI a2)), some (.int a3), some (.int (nI a4))]) (st' := [.ref 3, .int x3]) (h' := Hp S4) 1 (fun Z => gfR (E := E) sh38 rfl _) ?_
      refine wp_st (pc' := 42) (L' := [some (.ref 38), some (.ref a1), some (.int (nI a2)), some (.int a3), some (.int (nI a4))]) (st' := [.int a3, .ref a1, .ref 3, .int x3]) (h' := Hp S4) 2 (fun Z => rfl) ?_
      refine wp_call (pc' := 45) (rest := [.ref 3, .int x3]) (fun Z => rfl) (isO_of (ha1).1) hw ?_
      rintro o h1 ⟨x5, S6, rfl, rfl, hw⟩
      refine ⟨_, rfl, ?_⟩
      show wp E (d + 1) m_Downs_nearestBall 45 [some (.ref 38), some (.ref a1), some (.int (nI a2)), some (.int a3), some (.int (nI a4))] [.int x5, .ref 3, .int x3] (Hp S6) (QI Q)
      refine wp_st (pc' := 46) (L' := [some (.ref 38), some (.ref a1), some (.int (nI a2)), some (.int a3), some (.int (nI a4))]) (st' := [.int (nI a2), .int x5, .ref 3, .int x3]) (h' := Hp S6) 1 (fun Z => rfl) ?_
      refine wp_call (pc' := 49) (rest := [.int x3]) (fun Z => rfl) (isO_of sh3) hw ?_
      rintro o h1 ⟨x7, S8, rfl, rfl, hw⟩
      refine ⟨_, rfl, ?_⟩
      show wp E (d + 1) m_Downs_nearestBall 49 [some (.ref 38), some (.ref a1), some (.int (nI a2)), some (.int a3), some (.int (nI a4))] [.int x7, .int x3] (Hp S8) (QI Q)
      by_cases hc : x7 ≤ x3
      · rw [if_pos hc] at hw
        refine wp_st (pc' := 55) (L' := [some (.ref 38), some (.ref a1), some (.int (nI a2)), some (.int a3), some (.int (nI a4))]) (st' := []) (h' := Hp S8) 1 (fun Z => if_pos hc) ?_
        refine wp_st (pc' := 58) (L' := [some (.ref 38), some (.ref a1), some (.int (nI a2)), some (.int a3), some (.int (nI (a4 + 1)))]) (st' := []) (h' := Hp S8) 1 (fun Z => by rw [← nI_add a4 1]; rfl) ?_
        exact wp_st 1 (fun Z => rfl) (show wp E (d + 1) m_Downs_nearestBall 5 [some (.ref 38), some (.ref a1), some (.int (nI a2)), some (.int a3), some (.int (nI (a4 + 1)))] [] (Hp S8) (QI Q) from hw)
      · rw [if_neg hc] at hw
        refine wp_st (pc' := 52) (L' := [some (.ref 38), some (.ref a1), some (.int (nI a2)), some (.int a3), some (.int (nI a4))]) (st' := []) (h' := Hp S8) 1 (fun Z => if_neg hc) ?_
        refine wp_st (pc' := 55) (L' := [some (.ref 38), some (.ref a1), some (.int (nI a2)), some (.int (nI a4)), some (.int (nI a4))]) (st' := []) (h' := Hp S8) 2 (fun Z => rfl) ?_
        refine wp_st (pc' := 58) (L' := [some (.ref 38), some (.ref a1), some (.int (nI a2)), some (.int (nI a4)), some (.int (nI (a4 + 1)))]) (st' := []) (h' := Hp S8) 1 (fun Z => by rw [← nI_add a4 1]; rfl) ?_
        exact wp_st 1 (fun Z => rfl) (show wp E (d + 1) m_Downs_nearestBall 5 [some (.ref 38), some (.ref a1), some (.int (nI a2)), some (.int (nI a4)), some (.int (nI (a4 + 1)))] [] (Hp S8) (QI Q) from hw)
set_option maxRecDepth 4000 in
theorem w_Land_clear {E : zX} {d : Nat} {S : St} {a0 : Nat} {Q : St → Prop} (hd : 1 ≤ d) (ha0 : La a0)
    (hw : ∀ S1, S1 = up S a0 3 0 →
    ∀ S2, S2 = up S1 a0 4 0 →
    k_Rule_clear E (d - 1) S2 (a0 + 3) (fun S4 =>
    k_Rule_clear E (d - 1) S4 (a0 + 5) (fun S6 =>
    k_Land_measure E (d - 1) S6 a0 4 4 (fun S8 =>
    Q S8)))) :
    k_Land_clear E d S a0 Q := by
  obtain ⟨d, rfl⟩ := Nat.exists_eq_add_of_le' hd
  show wp E (d + 1) m_Land_clear 0 [some (.ref a0)] [] (Hp S) (QV Q)
  refine wp_st (pc' := 2) (L' := [some (.ref a0)]) (st' := [.int 0, .ref a0]) (h' := Hp S) 2 (fun Z => rfl) ?_
  have hw := hw _ rfl
  refine wp_st (pc' := 5) (L' := [some (.ref a0)]) (st' := []) (h' := Hp (up S a0 3 0)) 1 (fun Z => pfI (ha0).1 rfl (Nat.le_of_ble_eq_true rfl) rfl _) ?_
  generalize up S a0 3 0 = S1 at hw ⊢
  refine wp_st (pc' := 7) (L' := [some (.ref a0)]) (st' := [.int 0, .ref a0]) (h' := Hp S1) 2 (fun Z => rfl) ?_
  have hw := hw _ rfl
  refine wp_st (pc' := 10) (L' := [some (.ref a0)]) (st' := []) (h' := Hp (up S1 a0 4 0)) 1 (fun Z => pfI (ha0).1 rfl (Nat.le_of_ble_eq_true rfl) rfl _) ?_
  generalize up S1 a0 4 0 = S2 at hw ⊢
  refine wp_st (pc' := 11) (L' := [some (.ref a0)]) (st' := [.ref a0]) (h' := Hp S2) 1 (fun Z => rfl) ?_
  refine wp_st (pc' := 14) (L' := [some (.ref a0)]) (st' := [.ref (a0 + 3)]) (h' := Hp S2) 1 (fun Z => gfR (E := E) (ha0).1 rfl _) ?_
  refine wp_call (pc' := 17) (rest := []) (fun Z => rfl) (isO_of ((ha0).2.1).1) hw ?_
  rintro o h1 ⟨S4, rfl, rfl, hw⟩
  refine ⟨_, rfl, ?_⟩
  show wp E (d + 1) m_Land_clear 17 [some (.ref a0)] [] (Hp S4) (QV Q)
  refine wp_st (pc' := 18) (L' := [some (.ref a0)]) (st' := [.ref a0]) (h' := Hp S4) 1 (fun Z => rfl) ?_
  refine wp_st (pc' := 21) (L' := [some (.ref a0)]) (st' := [.ref (a0 + 5)]) (h' := Hp S4) 1 (fun Z => gfR (E := E) (ha0).1 rfl _) ?_
  refine wp_call (pc' := 24) (rest := []) (fun Z => rfl) (isO_of ((ha0).2.2.1).1) hw ?_
  rintro o h1 ⟨S6, rfl, rfl, hw⟩
  refine ⟨_, rfl, ?_⟩
  show wp E (d + 1) m_Land_clear 24 [some (.ref a0)] [] (Hp S6) (QV Q)
  refine wp_st (pc' := 27) (L' := [some (.ref a0)]) (st' := [.int 4, .int 4, .ref a0]) (h' := Hp S6) 3 (fun Z => rfl) ?_
  refine wp_call (pc' := 30) (rest := []) (fun Z => rfl) (isO_of (ha0).1) hw ?_
  rintro o h1 ⟨S8, rfl, rfl, hw⟩
  refine ⟨_, rfl, ?_⟩
  show wp E (d + 1) m_Land_clear 30 [some (.ref a0)] [] (Hp S8) (QV Q)
  exact wp_ret (fun Z => rfl) ⟨_, rfl, rfl, hw⟩
set_option maxRecDepth 4000 in
theorem w_Land_measure {E : zX} {d : Nat} {S : St} {a0 : Nat} {a1 : Int32} {a2 : Int32} {Q : St → Prop} (ha0 : La a0)
    (hw : ∀ S1, S1 = up S a0 0 a1 →
    ∀ S2, S2 = up S1 a0 1 a2 →
    ∀ S3, S3 = up S2 a0 2 (a1 * a2) →
    k_Land_measure_22 E d S3 a0 a1 a2 0 0 Q) :
    k_Land_measure E d S a0 a1 a2 Q := by
  show wp E d m_Land_measure 0 [some (.ref a0), some (.int a1), some (.int a2), none, none, none] [] (Hp S) (QV Q)
  refine wp_st (pc' := 2) (L' := [some (.ref a0), some (.int a1), some (.int a2), none, none, none]) (st' := [.int a1, .ref a0]) (h' := Hp S) 2 (fun Z => rfl) ?_
  have hw := hw _ rfl
  refine wp_st (pc' := 5) (L' := [some (.ref a0), some (.int a1), some (.int a2), none, none, none]) (st' := []) (h' := Hp (up S a0 0 a1)) 1 (fun Z => pfI (ha0).1 rfl (Nat.le_of_ble_eq_true rfl) rfl _) ?_
  generalize up S a0 0 a1 = S1 at hw ⊢
  refine wp_st (pc' := 7) (L' := [some (.ref a0), some (.int a1), some (.int a2), none, none, none]) (st' := [.int a2, .ref a0]) (h' := Hp S1) 2 (fun Z => rfl) ?_
  have hw := hw _ rfl
  refine wp_st (pc' := 10) (L' := [some (.ref a0), some (.int a1), some (.int a2), none, none, none]) (st' := []) (h' := Hp (up S1 a0 1 a2)) 1 (fun Z => pfI (ha0).1 rfl (Nat.le_of_ble_eq_true rfl) rfl _) ?_
  generalize up S1 a0 1 a2 = S2 at hw ⊢
  refine wp_st (pc' := 14) (L' := [some (.ref a0), some (.int a1), some (.int a2), none, none, none]) (st' := [.int (a1 * a2), .ref a0]) (h' := Hp S2) 4 (fun Z => rfl) ?_
  have hw := hw _ rfl
  refine wp_st (pc' := 17) (L' := [some (.ref a0), some (.int a1), some (.int a2), none, none, none]) (st' := []) (h' := Hp (up S2 a0 2 (a1 * a2))) 1 (fun Z => pfI (ha0).1 rfl (Nat.le_of_ble_eq_true rfl) rfl _) ?_
  generalize up S2 a0 2 (a1 * a2) = S3 at hw ⊢
  exact wp_st 4 (fun Z => rfl) (show wp E d m_Land_measure 22 [some (.ref a0), some (.int a1), some (.int a2), some (.int 0), some (.int 0), none] [] (Hp S3) (QV Q) from (hw none))
set_option maxRecDepth 4000 in
theorem w_Land_measure_22 {E : zX} {d : Nat} {S : St} {a0 : Nat} {a1 : Int32} {a2 : Int32} {a3 : Nat} {a4 : Nat} {Q : St → Prop} (ha0 : La a0)
    (hw : if a2 ≤ (nI a4) then (
      Q S)
    else (
      k_Land_measure_31 E d S a0 a1 a2 a3 a4 0 Q)) :
    k_Land_measure_22 E d S a0 a1 a2 a3 a4 Q := by
  intro j5
  show wp E d m_Land_measure 22 [some (.ref a0), some (.int a1), some (.int a2), some (.int (nI a3)), some (.int (nI a4)), j5] [] (Hp S) (QV Q)
  refine wp_st (pc' := 25) (L' := [some (.ref a0), some (.int a1), some (.int a2), some (.int (nI a3)), some (.int (nI a4)), j5]) (st' := [.int a2, .int (nI a4)]) (h' := Hp S) 2 (fun Z => rfl) ?_
  by_cases hc : a2 ≤ (nI a4)
  · rw [if_pos hc] at hw
    refine wp_st (pc' := 74) (L' := [some (.ref a0), some (.int a1), some (.int a2), some (.int (nI a3)), some (.int (nI a4)), j5]) (st' := []) (h' := Hp S) 1 (fun Z => if_pos hc) ?_
    exact wp_ret (fun Z => rfl) ⟨_, rfl, rfl, hw⟩
  · rw [if_neg hc] at hw
    refine wp_st (pc' := 28) (L' := [some (.ref a0), some (.int a1), some (.int a2), some (.int (nI a3)), some (.int (nI a4)), j5]) (st' := []) (h' := Hp S) 1 (fun Z => if_neg hc) ?_
    exact wp_st 2 (fun Z => rfl) (show wp E d m_Land_measure 31 [some (.ref a0), some (.int a1), some (.int a2), some (.int (nI a3)), some (.int (nI a4)), some (.int 0)] [] (Hp S) (QV Q) from hw)
set_option maxRecDepth 4000 in
theorem w_Land_measure_31 {E : zX} {d : Nat} {S : St} {a0 : Nat} {a1 : Int32} {a2 : Int32} {a3 : Nat} {a4 : Nat} {a5 : Nat} {Q : St → Prop} (ha0 : La a0)
    (hw : if a1 ≤ (nI a5) then (
      k_Land_measure_22 E d S a0 a1 a2 a3 (a4 + 1) Q)
    else (
      if nI 36 ≤ (nI a3) then (
        k_Land_measure_22 E d S a0 a1 a2 a3 (a4 + 1) Q)
      else (
        a3 < 36 ∧
        ∀ S1, S1 = up S (a0 + 7) a3 (nI a5) →
        a3 < 36 ∧
        ∀ S2, S2 = up S1 (a0 + 8) a3 (nI a4) →
        k_Land_measure_31 E d S2 a0 a1 a2 (a3 + 1) a4 (a5 + 1) Q))) :
    k_Land_measure_31 E d S a0 a1 a2 a3 a4 a5 Q := by
  show wp E d m_Land_measure 31 [some (.ref a0), some (.int a1), some (.int a2), some (.int (nI a3)), some (.int (nI a4)), some (.int (nI a5))] [] (Hp S) (QV Q)
  refine wp_st (pc' := 34) (L' := [some (.ref a0), some (.int a1), some (.int a2), some (.int (nI a3)), some (.int (nI a4)), some (.int (nI a5))]) (st' := [.int a1, .int (nI a5)]) (h' := Hp S) 2 (fun Z => rfl) ?_
  by_cases hc : a1 ≤ (nI a5)
  · rw [if_pos hc] at hw
    refine wp_st (pc' := 68) (L' := [some (.ref a0), some (.int a1), some (.int a2), some (.int (nI a3)), some (.int (nI a4)), some (.int (nI a5))]) (st' := []) (h' := Hp S) 1 (fun Z => if_pos hc) ?_
    refine wp_st (pc' := 71) (L' := [some (.ref a0), some (.int a1), some (.int a2), some (.int (nI a3)), some (.int (nI (a4 + 1))), some (.int (nI a5))]) (st' := []) (h' := Hp S) 1 (fun Z => by rw [← nI_add a4 1]; rfl) ?_
    exact wp_st 1 (fun Z => rfl) (show wp E d m_Land_measure 22 [some (.ref a0), some (.int a1), some (.int a2), some (.int (nI a3)), some (.int (nI (a4 + 1))), some (.int (nI a5))] [] (Hp S) (QV Q) from (hw (some (.int (nI a5)))))
  · rw [if_neg hc] at hw
    refine wp_st (pc' := 37) (L' := [some (.ref a0), some (.int a1), some (.int a2), some (.int (nI a3)), some (.int (nI a4)), some (.int (nI a5))]) (st' := []) (h' := Hp S) 1 (fun Z => if_neg hc) ?_
    refine wp_st (pc' := 40) (L' := [some (.ref a0), some (.int a1), some (.int a2), some (.int (nI a3)), some (.int (nI a4)), some (.int (nI a5))]) (st' := [.int 36, .int (nI a3)]) (h' := Hp S) 2 (fun Z => rfl) ?_
    by_cases hc : nI 36 ≤ (nI a3)
    · rw [if_pos hc] at hw
      refine wp_st (pc' := 68) (L' := [some (.ref a0), some (.int a1), some (.int a2), some (.int (nI a3)), some (.int (nI a4)), some (.int (nI a5))]) (st' := []) (h' := Hp S) 1 (fun Z => if_pos hc) ?_
      refine wp_st (pc' := 71) (L' := [some (.ref a0), some (.int a1), some (.int a2), some (.int (nI a3)), some (.int (nI (a4 + 1))), some (.int (nI a5))]) (st' := []) (h' := Hp S) 1 (fun Z => by rw [← nI_add a4 1]; rfl) ?_
      exact wp_st 1 (fun Z => rfl) (show wp E d m_Land_measure 22 [some (.ref a0), some (.int a1), some (.int a2), some (.int (nI a3)), some (.int (nI (a4 + 1))), some (.int (nI a5))] [] (Hp S) (QV Q) from (hw (some (.int (nI a5)))))
    · rw [if_neg hc] at hw
      refine wp_st (pc' := 43) (L' := [some (.ref a0), some (.int a1), some (.int a2), some (.int (nI a3)), some (.int (nI a4)), some (.int (nI a5))]) (st' := []) (h' := Hp S) 1 (fun Z => if_neg hc) ?_
      refine wp_st (pc' := 44) (L' := [some (.ref a0), some (.int a1), some (.int a2), some (.int (nI a3)), some (.int (nI a4)), some (.int (nI a5))]) (st' := [.ref a0]) (h' := Hp S) 1 (fun Z => rfl) ?_
      refine wp_st (pc' := 47) (L' := [some (.ref a0), some (.int a1), some (.int a2), some (.int (nI a3)), some (.int (nI a4)), some (.int (nI a5))]) (st' := [.ref (a0 + 7)]) (h' := Hp S) 1 (fun Z => gfR (E := E) (ha0).1 rfl _) ?_
      refine wp_st (pc' := 50) (L' := [some (.ref a0), some (.int a1), some (.int a2), some (.int (nI a3)), some (.int (nI a4)), some (.int (nI a5))]) (st' := [.int (nI a5), .int (nI a3), .ref (a0 + 7)]) (h' := Hp S) 2 (fun Z => rfl) ?_
      obtain ⟨hi, hw⟩ := hw
      have hw := hw _ rfl
      refine wp_st (pc' := 51) (L' := [some (.ref a0), some (.int a1), some (.int a2), some (.int (nI a3)), some (.int (nI a4)), some (.int (nI a5))]) (st' := []) (h' := Hp (up S (a0 + 7) a3 (nI a5))) 1 (fun Z => stN (ha0).2.2.2.1 (by decide) hi _ _) ?_
      generalize up S (a0 + 7) a3 (nI a5) = S1 at hw ⊢
      refine wp_st (pc' := 52) (L' := [some (.ref a0), some (.int a1), some (.int a2), some (.int (nI a3)), some (.int (nI a4)), some (.int (nI a5))]) (st' := [.ref a0]) (h' := Hp S1) 1 (fun Z => rfl) ?_
      refine wp_st (pc' := 55) (L' := [some (.ref a0), some (.int a1), some (.int a2), some (.int (nI a3)), some (.int (nI a4)), some (.int (nI a5))]) (st' := [.ref (a0 + 8)]) (h' := Hp S1) 1 (fun Z => gfR (E := E) (ha0).1 rfl _) ?_
      refine wp_st (pc' := 58) (L' := [some (.ref a0), some (.int a1), some (.int a2), some (.int (nI a3)), some (.int (nI a4)), some (.int (nI a5))]) (st' := [.int (nI a4), .int (nI a3), .ref (a0 + 8)]) (h' := Hp S1) 2 (fun Z => rfl) ?_
      obtain ⟨hi, hw⟩ := hw
      have hw := hw _ rfl
      refine wp_st (pc' := 59) (L' := [some (.ref a0), some (.int a1), some (.int a2), some (.int (nI a3)), some (.int (nI a4)), some (.int (nI a5))]) (st' := []) (h' := Hp (up S1 (a0 + 8) a3 (nI a4))) 1 (fun Z => stN (ha0).2.2.2.2 (by decide) hi _ _) ?_
      generalize up S1 (a0 + 8) a3 (nI a4) = S2 at hw ⊢
      refine wp_st (pc' := 62) (L' := [some (.ref a0), some (.int a1), some (.int a2), some (.int (nI (a3 + 1))), some (.int (nI a4)), some (.int (nI a5))]) (st' := []) (h' := Hp S2) 1 (fun Z => by rw [← nI_add a3 1]; rfl) ?_
      refine wp_st (pc' := 65) (L' := [some (.ref a0), some (.int a1), some (.int a2), some (.int (nI (a3 + 1))), some (.int (nI a4)), some (.int (nI (a5 + 1)))]) (st' := []) (h' := Hp S2) 1 (fun Z => by rw [← nI_add a5 1]; rfl) ?_
      exact wp_st 1 (fun Z => rfl) (show wp E d m_Land_measure 31 [some (.ref a0), some (.int a1), some (.int a2), some (.int (nI (a3 + 1))), some (.int (nI a4)), some (.int (nI (a5 + 1)))] [] (Hp S2) (QV Q) from hw)
set_option maxRecDepth 4000 in
theorem w_Land_far {E : zX} {d : Nat} {S : St} {a1 : Nat} {a2 : Nat} {Q : Int32 → St → Prop} 
    (hw : a1 < 36 ∧
    a2 < 36 ∧
    a1 < 36 ∧
    a2 < 36 ∧
    if 0 ≤ ((S 10 a1) - (S 10 a2)) then (
      if 0 ≤ ((S 11 a1) - (S 11 a2)) then (
        Q (((S 10 a1) - (S 10 a2)) + ((S 11 a1) - (S 11 a2))) S)
      else (
        Q (((S 10 a1) - (S 10 a2)) + (-((S 11 a1) - (S 11 a2)))) S))
    else (
      if 0 ≤ ((S 11 a1) - (S 11 a2)) then (
        Q ((-((S 10 a1) - (S 10 a2))) + ((S 11 a1) - (S 11 a2))) S)
      else (
        Q ((-((S 10 a1) - (S 10 a2))) + (-((S 11 a1) - (S 11 a2)))) S))) :
    k_Land_far E d S (nI a1) (nI a2) Q := by
  show wp E d m_Land_far 0 [some (.ref 3), some (.int (nI a1)), some (.int (nI a2)), none, none] [] (Hp S) (QI Q)
  refine wp_st (pc' := 1) (L' := [some (.ref 3), some (.int (nI a1)), some (.int (nI a2)), none, none]) (st' := [.ref 3]) (h' := Hp S) 1 (fun Z => rfl) ?_
  refine wp_st (pc' := 4) (L' := [some (.ref 3), some (.int (nI a1)), some (.int (nI a2)), none, none]) (st' := [.ref 10]) (h' := Hp S) 1 (fun Z => gfR (E := E) sh3 rfl _) ?_
  refine wp_st (pc' := 5) (L' := [some (.ref 3), some (.int (nI a1)), some (.int (nI a2)), none, none]) (st' := [.int (nI a1), .ref 10]) (h' := Hp S) 1 (fun Z => rfl) ?_
  obtain ⟨hi, hw⟩ := hw
  refine wp_st (pc' := 6) (L' := [some (.ref 3), some (.int (nI a1)), some (.int (nI a2)), none, none]) (st' := [.int (S 10 a1)]) (h' := Hp S) 1 (fun Z => ldN (E := E) sh10 (by decide) hi [] (fun st => Z d m_Land_far 6 [some (.ref 3), some (.int (nI a1)), some (.int (nI a2)), none, none] st (Hp S))) ?_
  refine wp_st (pc' := 7) (L' := [some (.ref 3), some (.int (nI a1)), some (.int (nI a2)), none, none]) (st' := [.ref 3, .int (S 10 a1)]) (h' := Hp S) 1 (fun Z => rfl) ?_
  refine wp_st (pc' := 10) (L' := [some (.ref 3), some (.int (nI a1)), some (.int (nI a2)), none, none]) (st' := [.ref 10, .int (S 10 a1)]) (h' := Hp S) 1 (fun Z => gfR (E := E) sh3 rfl _) ?_
  refine wp_st (pc' := 11) (L' := [some (.ref 3), some (.int (nI a1)), some (.int (nI a2)), none, none]) (st' := [.int (nI a2), .ref 10, .int (S 10 a1)]) (h' := Hp S) 1 (fun Z => rfl) ?_
  obtain ⟨hi, hw⟩ := hw
  refine wp_st (pc' := 12) (L' := [some (.ref 3), some (.int (nI a1)), some (.int (nI a2)), none, none]) (st' := [.int (S 10 a2), .int (S 10 a1)]) (h' := Hp S) 1 (fun Z => ldN (E := E) sh10 (by decide) hi [.int (S 10 a1)] (fun st => Z d m_Land_far 12 [some (.ref 3), some (.int (nI a1)), some (.int (nI a2)), none, none] st (Hp S))) ?_
  refine wp_st (pc' := 15) (L' := [some (.ref 3), some (.int (nI a1)), some (.int (nI a2)), some (.int ((S 10 a1) - (S 10 a2))), none]) (st' := [.ref 3]) (h' := Hp S) 3 (fun Z => rfl) ?_
  refine wp_st (pc' := 18) (L' := [some (.ref 3), some (.int (nI a1)), some (.int (nI a2)), some (.int ((S 10 a1) - (S 10 a2))), none]) (st' := [.ref 11]) (h' := Hp S) 1 (fun Z => gfR (E := E) sh3 rfl _) ?_
  refine wp_st (pc' := 19) (L' := [some (.ref 3), some (.int (nI a1)), some (.int (nI a2)), some (.int ((S 10 a1) - (S 10 a2))), none]) (st' := [.int (nI a1), .ref 11]) (h' := Hp S) 1 (fun Z => rfl) ?_
  obtain ⟨hi, hw⟩ := hw
  refine wp_st (pc' := 20) (L' := [some (.ref 3), some (.int (nI a1)), some (.int (nI a2)), some (.int ((S 10 a1) - (S 10 a2))), none]) (st' := [.int (S 11 a1)]) (h' := Hp S) 1 (fun Z => ldN (E := E) sh11 (by decide) hi [] (fun st => Z d m_Land_far 20 [some (.ref 3), some (.int (nI a1)), some (.int (nI a2)), some (.int ((S 10 a1) - (S 10 a2))), none] st (Hp S))) ?_
  refine wp_st (pc' := 21) (L' := [some (.ref 3), some (.int (nI a1)), some (.int (nI a2)), some (.int ((S 10 a1) - (S 10 a2))), none]) (st' := [.ref 3, .int (S 11 a1)]) (h' := Hp S) 1 (fun Z => rfl) ?_
  refine wp_st (pc' := 24) (L' := [some (.ref 3), some (.int (nI a1)), some (.int (nI a2)), some (.int ((S 10 a1) - (S 10 a2))), none]) (st' := [.ref 11, .int (S 11 a1)]) (h' := Hp S) 1 (fun Z => gfR (E := E) sh3 rfl _) ?_
  refine wp_st (pc' := 25) (L' := [some (.ref 3), some (.int (nI a1)), some (.int (nI a2)), some (.int ((S 10 a1) - (S 10 a2))), none]) (st' := [.int (nI a2), .ref 11, .int (S 11 a1)]) (h' := Hp S) 1 (fun Z => rfl) ?_
  obtain ⟨hi, hw⟩ := hw
  refine wp_st (pc' := 26) (L' := [some (.ref 3), some (.int (nI a1)), some (.int (nI a2)), some (.int ((S 10 a1) - (S 10 a2))), none]) (st' := [.int (S 11 a2), .int (S 11 a1)]) (h' := Hp S) 1 (fun Z => ldN (E := E) sh11 (by decide) hi [.int (S 11 a1)] (fun st => Z d m_Land_far 26 [some (.ref 3), some (.int (nI a1)), some (.int (nI a2)), some (.int ((S 10 a1) - (S 10 a2))), none] st (Hp S))) ?_
  refine wp_st (pc' := 30) (L' := [some (.ref 3), some (.int (nI a1)), some (.int (nI a2)), some (.int ((S 10 a1) - (S 10 a2))), some (.int ((S 11 a1) - (S 11 a2)))]) (st' := [.int ((S 10 a1) - (S 10 a2))]) (h' := Hp S) 3 (fun Z => rfl) ?_
  by_cases hc : 0 ≤ ((S 10 a1) - (S 10 a2))
  · rw [if_pos hc] at hw
    refine wp_st (pc' := 38) (L' := [some (.ref 3), some (.int (nI a1)), some (.int (nI a2)), some (.int ((S 10 a1) - (S 10 a2))), some (.int ((S 11 a1) - (S 11 a2)))]) (st' := []) (h' := Hp S) 1 (fun Z => if_pos hc) ?_
    refine wp_st (pc' := 41) (L' := [some (.ref 3), some (.int (nI a1)), some (.int (nI a2)), some (.int ((S 10 a1) - (S 10 a2))), some (.int ((S 11 a1) - (S 11 a2)))]) (st' := [.int ((S 11 a1) - (S 11 a2)), .int ((S 10 a1) - (S 10 a2))]) (h' := Hp S) 2 (fun Z => rfl) ?_
    by_cases hc : 0 ≤ ((S 11 a1) - (S 11 a2))
    · rw [if_pos hc] at hw
      refine wp_st (pc' := 50) (L' := [some (.ref 3), some (.int (nI a1)), some (.int (nI a2)), some (.int ((S 10 a1) - (S 10 a2))), some (.int ((S 11 a1) - (S 11 a2)))]) (st' := [.int ((S 10 a1) - (S 10 a2))]) (h' := Hp S) 1 (fun Z => if_pos hc) ?_
      refine wp_st (pc' := 53) (L' := [some (.ref 3), some (.int (nI a1)), some (.int (nI a2)), some (.int ((S 10 a1) - (S 10 a2))), some (.int ((S 11 a1) - (S 11 a2)))]) (st' := [.int (((S 10 a1) - (S 10 a2)) + ((S 11 a1) - (S 11 a2)))]) (h' := Hp S) 2 (fun Z => rfl) ?_
      exact wp_ret (fun Z => rfl) ⟨_, _, rfl, rfl, hw⟩
    · rw [if_neg hc] at hw
      refine wp_st (pc' := 44) (L' := [some (.ref 3), some (.int (nI a1)), some (.int (nI a2)), some (.int ((S 10 a1) - (S 10 a2))), some (.int ((S 11 a1) - (S 11 a2)))]) (st' := [.int ((S 10 a1) - (S 10 a2))]) (h' := Hp S) 1 (fun Z => if_neg hc) ?_
      refine wp_st (pc' := 53) (L' := [some (.ref 3), some (.int (nI a1)), some (.int (nI a2)), some (.int ((S 10 a1) - (S 10 a2))), some (.int ((S 11 a1) - (S 11 a2)))]) (st' := [.int (((S 10 a1) - (S 10 a2)) + (-((S 11 a1) - (S 11 a2))))]) (h' := Hp S) 4 (fun Z => rfl) ?_
      exact wp_ret (fun Z => rfl) ⟨_, _, rfl, rfl, hw⟩
  · rw [if_neg hc] at hw
    refine wp_st (pc' := 33) (L' := [some (.ref 3), some (.int (nI a1)), some (.int (nI a2)), some (.int ((S 10 a1) - (S 10 a2))), some (.int ((S 11 a1) - (S 11 a2)))]) (st' := []) (h' := Hp S) 1 (fun Z => if_neg hc) ?_
    refine wp_st (pc' := 41) (L' := [some (.ref 3), some (.int (nI a1)), some (.int (nI a2)), some (.int ((S 10 a1) - (S 10 a2))), some (.int ((S 11 a1) - (S 11 a2)))]) (st' := [.int ((S 11 a1) - (S 11 a2)), .int (-((S 10 a1) - (S 10 a2)))]) (h' := Hp S) 4 (fun Z => rfl) ?_
    by_cases hc : 0 ≤ ((S 11 a1) - (S 11 a2))
    · rw [if_pos hc] at hw
      refine wp_st (pc' := 50) (L' := [some (.ref 3), some (.int (nI a1)), some (.int (nI a2)), some (.int ((S 10 a1) - (S 10 a2))), some (.int ((S 11 a1) - (S 11 a2)))]) (st' := [.int (-((S 10 a1) - (S 10 a2)))]) (h' := Hp S) 1 (fun Z => if_pos hc) ?_
      refine wp_st (pc' := 53) (L' := [some (.ref 3), some (.int (nI a1)), some (.int (nI a2)), some (.int ((S 10 a1) - (S 10 a2))), some (.int ((S 11 a1) - (S 11 a2)))]) (st' := [.int ((-((S 10 a1) - (S 10 a2))) + ((S 11 a1) - (S 11 a2)))]) (h' := Hp S) 2 (fun Z => rfl) ?_
      exact wp_ret (fun Z => rfl) ⟨_, _, rfl, rfl, hw⟩
    · rw [if_neg hc] at hw
      refine wp_st (pc' := 44) (L' := [some (.ref 3), some (.int (nI a1)), some (.int (nI a2)), some (.int ((S 10 a1) - (S 10 a2))), some (.int ((S 11 a1) - (S 11 a2)))]) (st' := [.int (-((S 10 a1) - (S 10 a2)))]) (h' := Hp S) 1 (fun Z => if_neg hc) ?_
      refine wp_st (pc' := 53) (L' := [some (.ref 3), some (.int (nI a1)), some (.int (nI a2)), some (.int ((S 10 a1) - (S 10 a2))), some (.int ((S 11 a1) - (S 11 a2)))]) (st' := [.int ((-((S 10 a1) - (S 10 a2))) + (-((S 11 a1) - (S 11 a2))))]) (h' := Hp S) 4 (fun Z => rfl) ?_
      exact wp_ret (fun Z => rfl) ⟨_, _, rfl, rfl, hw⟩
set_option maxRecDepth 4000 in
theorem w_Land_copyFrom {E : zX} {d : Nat} {S : St}  {Q : St → Prop} (hd : 1 ≤ d) 
    (hw : k_Land_measure E (d - 1) S 3 (S 13 0) (S 13 1) (fun S2 =>
    ∀ S3, S3 = up S2 3 3 (S2 13 3) →
    ∀ S4, S4 = up S3 3 4 (S3 13 4) →
    ∀ S5, S5 = setR S4 4 (va_cpy (S4 14) (S4 4) 0 0 7) →
    ∀ S6, S6 = setR S5 5 (va_cpy (S5 15) (S5 5) 0 0 10) →
    k_Rule_copyFrom E (d - 1) S6 6 16 (fun S8 =>
    k_Rule_copyFrom E (d - 1) S8 8 18 (fun S10 =>
    Q S10)))) :
    k_Land_copyFrom E d S Q := by
  obtain ⟨d, rfl⟩ := Nat.exists_eq_add_of_le' hd
  show wp E (d + 1) m_Land_copyFrom 0 [some (.ref 3), some (.ref 13)] [] (Hp S) (QV Q)
  refine wp_st (pc' := 2) (L' := [some (.ref 3), some (.ref 13)]) (st' := [.ref 13, .ref 3]) (h' := Hp S) 2 (fun Z => rfl) ?_
  refine wp_st (pc' := 5) (L' := [some (.ref 3), some (.ref 13)]) (st' := [.int (S 13 0), .ref 3]) (h' := Hp S) 1 (fun Z => gfI (E := E) sh13 rfl _) ?_
  refine wp_st (pc' := 6) (L' := [some (.ref 3), some (.ref 13)]) (st' := [.ref 13, .int (S 13 0), .ref 3]) (h' := Hp S) 1 (fun Z => rfl) ?_
  refine wp_st (pc' := 9) (L' := [some (.ref 3), some (.ref 13)]) (st' := [.int (S 13 1), .int (S 13 0), .ref 3]) (h' := Hp S) 1 (fun Z => gfI (E := E) sh13 rfl _) ?_
  refine wp_call (pc' := 12) (rest := []) (fun Z => rfl) (isO_of sh3) hw ?_
  rintro o h1 ⟨S2, rfl, rfl, hw⟩
  refine ⟨_, rfl, ?_⟩
  show wp E (d + 1) m_Land_copyFrom 12 [some (.ref 3), some (.ref 13)] [] (Hp S2) (QV Q)
  refine wp_st (pc' := 14) (L' := [some (.ref 3), some (.ref 13)]) (st' := [.ref 13, .ref 3]) (h' := Hp S2) 2 (fun Z => rfl) ?_
  refine wp_st (pc' := 17) (L' := [some (.ref 3), some (.ref 13)]) (st' := [.int (S2 13 3), .ref 3]) (h' := Hp S2) 1 (fun Z => gfI (E := E) sh13 rfl _) ?_
  have hw := hw _ rfl
  refine wp_st (pc' := 20) (L' := [some (.ref 3), some (.ref 13)]) (st' := []) (h' := Hp (up S2 3 3 (S2 13 3))) 1 (fun Z => pfI sh3 rfl (Nat.le_of_ble_eq_true rfl) rfl _) ?_
  generalize up S2 3 3 (S2 13 3) = S3 at hw ⊢
  refine wp_st (pc' := 22) (L' := [some (.ref 3), some (.ref 13)]) (st' := [.ref 13, .ref 3]) (h' := Hp S3) 2 (fun Z => rfl) ?_
  refine wp_st (pc' := 25) (L' := [some (.ref 3), some (.ref 13)]) (st' := [.int (S3 13 4), .ref 3]) (h' := Hp S3) 1 (fun Z => gfI (E := E) sh13 rfl _) ?_
  have hw := hw _ rfl
  refine wp_st (pc' := 28) (L' := [some (.ref 3), some (.ref 13)]) (st' := []) (h' := Hp (up S3 3 4 (S3 13 4))) 1 (fun Z => pfI sh3 rfl (Nat.le_of_ble_eq_true rfl) rfl _) ?_
  generalize up S3 3 4 (S3 13 4) = S4 at hw ⊢
  refine wp_st (pc' := 29) (L' := [some (.ref 3), some (.ref 13)]) (st' := [.ref 13]) (h' := Hp S4) 1 (fun Z => rfl) ?_
  refine wp_st (pc' := 32) (L' := [some (.ref 3), some (.ref 13)]) (st' := [.ref 14]) (h' := Hp S4) 1 (fun Z => gfR (E := E) sh13 rfl _) ?_
  refine wp_st (pc' := 34) (L' := [some (.ref 3), some (.ref 13)]) (st' := [.ref 3, .int 0, .ref 14]) (h' := Hp S4) 2 (fun Z => rfl) ?_
  refine wp_st (pc' := 37) (L' := [some (.ref 3), some (.ref 13)]) (st' := [.ref 4, .int 0, .ref 14]) (h' := Hp S4) 1 (fun Z => gfR (E := E) sh3 rfl _) ?_
  refine wp_st (pc' := 40) (L' := [some (.ref 3), some (.ref 13)]) (st' := [.int 7, .int 0, .ref 4, .int 0, .ref 14]) (h' := Hp S4) 2 (fun Z => rfl) ?_
  have hw := hw _ rfl
  refine wp_st (pc' := 43) (L' := [some (.ref 3), some (.ref 13)]) (st' := []) (h' := Hp (setR S4 4 (va_cpy (S4 14) (S4 4) 0 0 7))) 1 (fun Z => cpN (m := 7) (dp := 0) (sp := 0) sh14 sh4 (by decide) (by decide) (by decide) (by decide) _ _) ?_
  generalize setR S4 4 (va_cpy (S4 14) (S4 4) 0 0 7) = S5 at hw ⊢
  refine wp_st (pc' := 44) (L' := [some (.ref 3), some (.ref 13)]) (st' := [.ref 13]) (h' := Hp S5) 1 (fun Z => rfl) ?_
  refine wp_st (pc' := 47) (L' := [some (.ref 3), some (.ref 13)]) (st' := [.ref 15]) (h' := Hp S5) 1 (fun Z => gfR (E := E) sh13 rfl _) ?_
  refine wp_st (pc' := 49) (L' := [some (.ref 3), some (.ref 13)]) (st' := [.ref 3, .int 0, .ref 15]) (h' := Hp S5) 2 (fun Z => rfl) ?_
  refine wp_st (pc' := 52) (L' := [some (.ref 3), some (.ref 13)]) (st' := [.ref 5, .int 0, .ref 15]) (h' := Hp S5) 1 (fun Z => gfR (E := E) sh3 rfl _) ?_
  refine wp_st (pc' := 55) (L' := [some (.ref 3), some (.ref 13)]) (st' := [.int 10, .int 0, .ref 5, .int 0, .ref 15]) (h' := Hp S5) 2 (fun Z => rfl) ?_
  have hw := hw _ rfl
  refine wp_st (pc' := 58) (L' := [some (.ref 3), some (.ref 13)]) (st' := []) (h' := Hp (setR S5 5 (va_cpy (S5 15) (S5 5) 0 0 10))) 1 (fun Z => cpN (m := 10) (dp := 0) (sp := 0) sh15 sh5 (by decide) (by decide) (by decide) (by decide) _ _) ?_
  generalize setR S5 5 (va_cpy (S5 15) (S5 5) 0 0 10) = S6 at hw ⊢
  refine wp_st (pc' := 59) (L' := [some (.ref 3), some (.ref 13)]) (st' := [.ref 3]) (h' := Hp S6) 1 (fun Z => rfl) ?_
  refine wp_st (pc' := 62) (L' := [some (.ref 3), some (.ref 13)]) (st' := [.ref 6]) (h' := Hp S6) 1 (fun Z => gfR (E := E) sh3 rfl _) ?_
  refine wp_st (pc' := 63) (L' := [some (.ref 3), some (.ref 13)]) (st' := [.ref 13, .ref 6]) (h' := Hp S6) 1 (fun Z => rfl) ?_
  refine wp_st (pc' := 66) (L' := [some (.ref 3), some (.ref 13)]) (st' := [.ref 16, .ref 6]) (h' := Hp S6) 1 (fun Z => gfR (E := E) sh13 rfl _) ?_
  refine wp_call (pc' := 69) (rest := []) (fun Z => rfl) (isO_of sh6) hw ?_
  rintro o h1 ⟨S8, rfl, rfl, hw⟩
  refine ⟨_, rfl, ?_⟩
  show wp E (d + 1) m_Land_copyFrom 69 [some (.ref 3), some (.ref 13)] [] (Hp S8) (QV Q)
  refine wp_st (pc' := 70) (L' := [some (.ref 3), some (.ref 13)]) (st' := [.ref 3]) (h' := Hp S8) 1 (fun Z => rfl) ?_
  refine wp_st (pc' := 73) (L' := [some (.ref 3), some (.ref 13)]) (st' := [.ref 8]) (h' := Hp S8) 1 (fun Z => gfR (E := E) sh3 rfl _) ?_
  refine wp_st (pc' := 74) (L' := [some (.ref 3), some (.ref 13)]) (st' := [.ref 13, .ref 8]) (h' := Hp S8) 1 (fun Z => rfl) ?_
  refine wp_st (pc' := 77) (L' := [some (.ref 3), some (.ref 13)]) (st' := [.ref 18, .ref 8]) (h' := Hp S8) 1 (fun Z => gfR (E := E) sh13 rfl _) ?_
  refine wp_call (pc' := 80) (rest := []) (fun Z => rfl) (isO_of sh8) hw ?_
  rintro o h1 ⟨S10, rfl, rfl, hw⟩
  refine ⟨_, rfl, ?_⟩
  show wp E (d + 1) m_Land_copyFrom 80 [some (.ref 3), some (.ref 13)] [] (Hp S10) (QV Q)
  exact wp_ret (fun Z => rfl) ⟨_, rfl, rfl, hw⟩
set_option maxRecDepth 4000 in
theorem w_Rule_clear {E : zX} {d : Nat} {S : St} {a0 : Nat} {Q : St → Prop} (ha0 : Ru a0)
    (hw : ∀ S1, S1 = up S a0 1 0 →
    Q S1) :
    k_Rule_clear E d S a0 Q := by
  show wp E d m_Rule_clear 0 [some (.ref a0)] [] (Hp S) (QV Q)
  refine wp_st (pc' := 2) (L' := [some (.ref a0)]) (st' := [.int 0, .ref a0]) (h' := Hp S) 2 (fun Z => rfl) ?_
  have hw := hw _ rfl
  refine wp_st (pc' := 5) (L' := [some (.ref a0)]) (st' := []) (h' := Hp (up S a0 1 0)) 1 (fun Z => pfI (ha0).1 rfl (Nat.le_of_ble_eq_true rfl) rfl _) ?_
  generalize up S a0 1 0 = S1 at hw ⊢
  exact wp_ret (fun Z => rfl) ⟨_, rfl, rfl, hw⟩
set_option maxRecDepth 4000 in
theorem w_Rule_isTold {E : zX} {d : Nat} {S : St} {a0 : Nat} {Q : Int32 → St → Prop} (ha0 : Ru a0)
    (hw : if (S a0 1) ≤ 0 then (
      Q (0 : Int32) S)
    else (
      Q (1 : Int32) S)) :
    k_Rule_isTold E d S a0 Q := by
  show wp E d m_Rule_isTold 0 [some (.ref a0)] [] (Hp S) (QI Q)
  refine wp_st (pc' := 1) (L' := [some (.ref a0)]) (st' := [.ref a0]) (h' := Hp S) 1 (fun Z => rfl) ?_
  refine wp_st (pc' := 4) (L' := [some (.ref a0)]) (st' := [.int (S a0 1)]) (h' := Hp S) 1 (fun Z => gfI (E := E) (ha0).1 rfl _) ?_
  by_cases hc : (S a0 1) ≤ 0
  · rw [if_pos hc] at hw
    refine wp_st (pc' := 11) (L' := [some (.ref a0)]) (st' := []) (h' := Hp S) 1 (fun Z => if_pos hc) ?_
    refine wp_st (pc' := 12) (L' := [some (.ref a0)]) (st' := [.int 0]) (h' := Hp S) 1 (fun Z => rfl) ?_
    exact wp_ret (fun Z => rfl) ⟨_, _, rfl, rfl, hw⟩
  · rw [if_neg hc] at hw
    refine wp_st (pc' := 7) (L' := [some (.ref a0)]) (st' := []) (h' := Hp S) 1 (fun Z => if_neg hc) ?_
    refine wp_st (pc' := 12) (L' := [some (.ref a0)]) (st' := [.int 1]) (h' := Hp S) 2 (fun Z => rfl) ?_
    exact wp_ret (fun Z => rfl) ⟨_, _, rfl, rfl, hw⟩
set_option maxRecDepth 4000 in
theorem w_Rule_worth {E : zX} {d : Nat} {S : St} {a0 : Nat} {Q : Int32 → St → Prop} (hd : 1 ≤ d) (ha0 : Ru a0)
    (hw : k_Rule_worth_5 E d S a0 0 0 Q) :
    k_Rule_worth E d S a0 Q := by
  obtain ⟨d, rfl⟩ := Nat.exists_eq_add_of_le' hd
  show wp E (d + 1) m_Rule_worth 0 [some (.ref a0), some (.ref 41), some (.ref 42), none, none, none] [] (Hp S) (QI Q)
  exact wp_st 4 (fun Z => rfl) (show wp E (d + 1) m_Rule_worth 5 [some (.ref a0), some (.ref 41), some (.ref 42), some (.int 0), some (.int 0), none] [] (Hp S) (QI Q) from (hw none))
set_option maxRecDepth 4000 in
theorem w_Rule_worth_5 {E : zX} {d : Nat} {S : St} {a0 : Nat} {a3 : Int32} {a4 : Nat} {Q : Int32 → St → Prop} (hd : 1 ≤ d) (ha0 : Ru a0)
    (hw : if (S a0 1) ≤ (nI a4) then (
      if a3 ≤ 0 then (
        Q (0 : Int32) S)
      else (
        Q (S 42 0) S))
    else (
      a4 < 700 ∧
      if (S (a0 + 1) a4) = (-3) then (
        if a3 ≤ 0 then (
          k_Rule_worth_5 E d S a0 a3 (a4 + 1) Q)
        else (
          ∃ m1 : Nat, (a3 - (1 : Int32)) = nI m1 ∧ m1 < 40 ∧
          if (S 42 m1) = 0 then (
            ∃ m3 : Nat, (a3 - (1 : Int32)) = nI m3 ∧ m3 < 40 ∧
            ∀ S2, S2 = up S 42 m3 1 →
            k_Rule_worth_5 E d S2 a0 a3 (a4 + 1) Q)
          else (
            ∃ m5 : Nat, (a3 - (1 : Int32)) = nI m5 ∧ m5 < 40 ∧
            ∀ S4, S4 = up S 42 m5 0 →
            k_Rule_worth_5 E d S4 a0 a3 (a4 + 1) Q)))
      else (
        if 0 ≤ (S (a0 + 1) a4) then (
          k_Rule_worth_67 E d S a0 a3 a4 (S (a0 + 1) a4) Q)
        else (
          if (-20) < (S (a0 + 1) a4) then (
            if a3 ≤ 1 then (
              k_Rule_worth_5 E d S a0 a3 (a4 + 1) Q)
            else (
              ∃ m6 : Nat, ((a3 + (-1)) - (1 : Int32)) = nI m6 ∧ m6 < 40 ∧
              ∃ m7 : Nat, (a3 + (-1)) = nI m7 ∧ m7 < 40 ∧
              k_Rule_join E (d - 1) S (S (a0 + 1) a4) (S 42 m6) (S 42 m7) (fun x8 S9 =>
              ∃ m11 : Nat, ((a3 + (-1)) - (1 : Int32)) = nI m11 ∧ m11 < 40 ∧
              ∀ S10, S10 = up S9 42 m11 x8 →
              k_Rule_worth_5 E d S10 a0 (a3 + (-1)) (a4 + 1) Q)))
          else (
            k_Rule_worth_67 E d S a0 a3 a4 (S (a0 + 1) a4) Q))))) :
    k_Rule_worth_5 E d S a0 a3 a4 Q := by
  obtain ⟨d, rfl⟩ := Nat.exists_eq_add_of_le' hd
  intro j5
  show wp E (d + 1) m_Rule_worth 5 [some (.ref a0), some (.ref 41), some (.ref 42), some (.int a3), some (.int (nI a4)), j5] [] (Hp S) (QI Q)
  refine wp_st (pc' := 8) (L' := [some (.ref a0), some (.ref 41), some (.ref 42), some (.int a3), some (.int (nI a4)), j5]) (st' := [.ref a0, .int (nI a4)]) (h' := Hp S) 2 (fun Z => rfl) ?_
  refine wp_st (pc' := 11) (L' := [some (.ref a0), some (.ref 41), some (.ref 42), some (.int a3), some (.int (nI a4)), j5]) (st' := [.int (S a0 1), .int (nI a4)]) (h' := Hp S) 1 (fun Z => gfI (E := E) (ha0).1 rfl _) ?_
  by_cases hc : (S a0 1) ≤ (nI a4)
  · rw [if_pos hc] at hw
    refine wp_st (pc' := 133) (L' := [some (.ref a0), some (.ref 41), some (.ref 42), some (.int a3), some (.int (nI a4)), j5]) (st' := []) (h' := Hp S) 1 (fun Z => if_pos hc) ?_
    refine wp_st (pc' := 134) (L' := [some (.ref a0), some (.ref 41), some (.ref 42), some (.int a3), some (.int (nI a4)), j5]) (st' := [.int a3]) (h' := Hp S) 1 (fun Z => rfl) ?_
    by_cases hc : a3 ≤ 0
    · rw [if_pos hc] at hw
      refine wp_st (pc' := 143) (L' := [some (.ref a0), some (.ref 41), some (.ref 42), some (.int a3), some (.int (nI a4)), j5]) (st' := []) (h' := Hp S) 1 (fun Z => if_pos hc) ?_
      refine wp_st (pc' := 144) (L' := [some (.ref a0), some (.ref 41), some (.ref 42), some (.int a3), some (.int (nI a4)), j5]) (st' := [.int 0]) (h' := Hp S) 1 (fun Z => rfl) ?_
      exact wp_ret (fun Z => rfl) ⟨_, _, rfl, rfl, hw⟩
    · rw [if_neg hc] at hw
      refine wp_st (pc' := 137) (L' := [some (.ref a0), some (.ref 41), some (.ref 42), some (.int a3), some (.int (nI a4)), j5]) (st' := []) (h' := Hp S) 1 (fun Z => if_neg hc) ?_
      refine wp_st (pc' := 139) (L' := [some (.ref a0), some (.ref 41), some (.ref 42), some (.int a3), some (.int (nI a4)), j5]) (st' := [.int 0, .ref 42]) (h' := Hp S) 2 (fun Z => rfl) ?_
      refine wp_st (pc' := 140) (L' := [some (.ref a0), some (.ref 41), some (.ref 42), some (.int a3), some (.int (nI a4)), j5]) (st' := [.int (S 42 0)]) (h' := Hp S) 1 (fun Z => ldN (E := E) sh42 (by decide) (by decide) [] (fun st => Z (d + 1) m_Rule_worth 140 [some (.ref a0), some (.ref 41), some (.ref 42), some (.int a3), some (.int (nI a4)), j5] st (Hp S))) ?_
      refine wp_st (pc' := 144) (L' := [some (.ref a0), some (.ref 41), some (.ref 42), some (.int a3), some (.int (nI a4)), j5]) (st' := [.int (S 42 0)]) (h' := Hp S) 1 (fun Z => rfl) ?_
      exact wp_ret (fun Z => rfl) ⟨_, _, rfl, rfl, hw⟩
  · rw [if_neg hc] at hw
    refine wp_st (pc' := 14) (L' := [some (.ref a0), some (.ref 41), some (.ref 42), some (.int a3), some (.int (nI a4)), j5]) (st' := []) (h' := Hp S) 1 (fun Z => if_neg hc) ?_
    refine wp_st (pc' := 15) (L' := [some (.ref a0), some (.ref 41), some (.ref 42), some (.int a3), some (.int (nI a4)), j5]) (st' := [.ref a0]) (h' := Hp S) 1 (fun Z => rfl) ?_
    refine wp_st (pc' := 18) (L' := [some (.ref a0), some (.ref 41), some (.ref 42), some (.int a3), some (.int (nI a4)), j5]) (st' := [.ref (a0 + 1)]) (h' := Hp S) 1 (fun Z => gfR (E := E) (ha0).1 rfl _) ?_
    refine wp_st (pc' := 20) (L' := [some (.ref a0), some (.ref 41), some (.ref 42), some (.int a3), some (.int (nI a4)), j5]) (st' := [.int (nI a4), .ref (a0 + 1)]) (h' := Hp S) 1 (fun Z => rfl) ?_
    obtain ⟨hi, hw⟩ := hw
    refine wp_st (pc' := 21) (L' := [some (.ref a0), some (.ref 41), some (.ref 42), some (.int a3), some (.int (nI a4)), j5]) (st' := [.int (S (a0 + 1) a4)]) (h' := Hp S) 1 (fun Z => ldN (E := E) (ha0).2 (by decide) hi [] (fun st => Z (d + 1) m_Rule_worth 21 [some (.ref a0), some (.ref 41), some (.ref 42), some (.int a3), some (.int (nI a4)), j5] st (Hp S))) ?_
    refine wp_st (pc' := 25) (L' := [some (.ref a0), some (.ref 41), some (.ref 42), some (.int a3), some (.int (nI a4)), some (.int (S (a0 + 1) a4))]) (st' := [.int (S (a0 + 1) a4)]) (h' := Hp S) 2 (fun Z => rfl) ?_
    refine wp_st (pc' := 27) (L' := [some (.ref a0), some (.ref 41), some (.ref 42), some (.int a3), some (.int (nI a4)), some (.int (S (a0 + 1) a4))]) (st' := [.int (-3), .int (S (a0 + 1) a4)]) (h' := Hp S) 1 (fun Z => congrArg (fun v => Z (d + 1) m_Rule_worth 27 [some (.ref a0), some (.ref 41), some (.ref 42), some (.int a3), some (.int (nI a4)), some (.int (S (a0 + 1) a4))] [.int v, .int (S (a0 + 1) a4)] (Hp S)) (show (Int8.ofInt (-3)).toInt32 = (-3) by decide)) ?_
    by_cases hc : (S (a0 + 1) a4) = (-3)
    · rw [if_pos hc] at hw
      refine wp_st (pc' := 30) (L' := [some (.ref a0), some (.ref 41), some (.ref 42), some (.int a3), some (.int (nI a4)), some (.int (S (a0 + 1) a4))]) (st' := []) (h' := Hp S) 1 (fun Z => if_pos hc) ?_
      refine wp_st (pc' := 31) (L' := [some (.ref a0), some (.ref 41), some (.ref 42), some (.int a3), some (.int (nI a4)), some (.int (S (a0 + 1) a4))]) (st' := [.int a3]) (h' := Hp S) 1 (fun Z => rfl) ?_
      by_cases hc : a3 ≤ 0
      · rw [if_pos hc] at hw
        refine wp_st (pc' := 127) (L' := [some (.ref a0), some (.ref 41), some (.ref 42), some (.int a3), some (.int (nI a4)), some (.int (S (a0 + 1) a4))]) (st' := []) (h' := Hp S) 1 (fun Z => if_pos hc) ?_
        refine wp_st (pc' := 130) (L' := [some (.ref a0), some (.ref 41), some (.ref 42), some (.int a3), some (.int (nI (a4 + 1))), some (.int (S (a0 + 1) a4))]) (st' := []) (h' := Hp S) 1 (fun Z => by rw [← nI_add a4 1]; rfl) ?_
        exact wp_st 1 (fun Z => rfl) (show wp E (d + 1) m_Rule_worth 5 [some (.ref a0), some (.ref 41), some (.ref 42), some (.int a3), some (.int (nI (a4 + 1))), some (.int (S (a0 + 1) a4))] [] (Hp S) (QI Q) from (hw (some (.int (S (a0 + 1) a4)))))
      · rw [if_neg hc] at hw
        refine wp_st (pc' := 34) (L' := [some (.ref a0), some (.ref 41), some (.ref 42), some (.int a3), some (.int (nI a4)), some (.int (S (a0 + 1) a4))]) (st' := []) (h' := Hp S) 1 (fun Z => if_neg hc) ?_
        refine wp_st (pc' := 42) (L' := [some (.ref a0), some (.ref 41), some (.ref 42), some (.int a3), some (.int (nI a4)), some (.int (S (a0 + 1) a4))]) (st' := [.int (a3 - (1 : Int32)), .ref 42, .int (a3 - (1 : Int32)), .ref 42]) (h' := Hp S) 8 (fun Z => rfl) ?_
        obtain ⟨m1, em, hi, hw⟩ := hw
        refine wp_st (pc' := 43) (L' := [some (.ref a0), some (.ref 41), some (.ref 42), some (.int a3), some (.int (nI a4)), some (.int (S (a0 + 1) a4))]) (st' := [.int (S 42 m1), .int (a3 - (1 : Int32)), .ref 42]) (h' := Hp S) 1 (fun Z => (congrArg (fun v => zit E 1 Z (d + 1) m_Rule_worth 42 [some (.ref a0), some (.ref 41), some (.ref 42), some (.int a3), some (.int (nI a4)), some (.int (S (a0 + 1) a4))] [.int v, .ref 42, .int (a3 - (1 : Int32)), .ref 42] (Hp S)) em).trans (ldN (E := E) sh42 (by decide) hi [.int (a3 - (1 : Int32)), .ref 42] (fun st => Z (d + 1) m_Rule_worth 43 [some (.ref a0), some (.ref 41), some (.ref 42), some (.int a3), some (.int (nI a4)), some (.int (S (a0 + 1) a4))] st (Hp S)))) ?_
        by_cases hc : (S 42 m1) = 0
        · rw [if_pos hc] at hw
          refine wp_st (pc' := 46) (L' := [some (.ref a0), some (.ref 41), some (.ref 42), some (.int a3), some (.int (nI a4)), some (.int (S (a0 + 1) a4))]) (st' := [.int (a3 - (1 : Int32)), .ref 42]) (h' := Hp S) 1 (fun Z => if_pos hc) ?_
          refine wp_st (pc' := 51) (L' := [some (.ref a0), some (.ref 41), some (.ref 42), some (.int a3), some (.int (nI a4)), some (.int (S (a0 + 1) a4))]) (st' := [.int 1, .int (a3 - (1 : Int32)), .ref 42]) (h' := Hp S) 2 (fun Z => rfl) ?_
          obtain ⟨m3, em, hi, hw⟩ := hw
          have hw := hw _ rfl
          refine wp_st (pc' := 52) (L' := [some (.ref a0), some (.ref 41), some (.ref 42), some (.int a3), some (.int (nI a4)), some (.int (S (a0 + 1) a4))]) (st' := []) (h' := Hp (up S 42 m3 1)) 1 (fun Z => (congrArg (fun v => zit E 1 Z (d + 1) m_Rule_worth 51 [some (.ref a0), some (.ref 41), some (.ref 42), some (.int a3), some (.int (nI a4)), some (.int (S (a0 + 1) a4))] [.int 1, .int v, .ref 42] (Hp S)) em).trans (stN sh42 (by decide) hi _ _)) ?_
          generalize up S 42 m3 1 = S2 at hw ⊢
          refine wp_st (pc' := 127) (L' := [some (.ref a0), some (.ref 41), some (.ref 42), some (.int a3), some (.int (nI a4)), some (.int (S (a0 + 1) a4))]) (st' := []) (h' := Hp S2) 1 (fun Z => rfl) ?_
          refine wp_st (pc' := 130) (L' := [some (.ref a0), some (.ref 41), some (.ref 42), some (.int a3), some (.int (nI (a4 + 1))), some (.int (S (a0 + 1) a4))]) (st' := []) (h' := Hp S2) 1 (fun Z => by rw [← nI_add a4 1]; rfl) ?_
          exact wp_st 1 (fun Z => rfl) (show wp E (d + 1) m_Rule_worth 5 [some (.ref a0), some (.ref 41), some (.ref 42), some (.int a3), some (.int (nI (a4 + 1))), some (.int (S (a0 + 1) a4))] [] (Hp S2) (QI Q) from (hw (some (.int (S (a0 + 1) a4)))))
        · rw [if_neg hc] at hw
          refine wp_st (pc' := 50) (L' := [some (.ref a0), some (.ref 41), some (.ref 42), some (.int a3), some (.int (nI a4)), some (.int (S (a0 + 1) a4))]) (st' := [.int (a3 - (1 : Int32)), .ref 42]) (h' := Hp S) 1 (fun Z => if_neg hc) ?_
          refine wp_st (pc' := 51) (L' := [some (.ref a0), some (.ref 41), some (.ref 42), some (.int a3), some (.int (nI a4)), some (.int (S (a0 + 1) a4))]) (st' := [.int 0, .int (a3 - (1 : Int32)), .ref 42]) (h' := Hp S) 1 (fun Z => rfl) ?_
          obtain ⟨m5, em, hi, hw⟩ := hw
          have hw := hw _ rfl
          refine wp_st (pc' := 52) (L' := [some (.ref a0), some (.ref 41), some (.ref 42), some (.int a3), some (.int (nI a4)), some (.int (S (a0 + 1) a4))]) (st' := []) (h' := Hp (up S 42 m5 0)) 1 (fun Z => (congrArg (fun v => zit E 1 Z (d + 1) m_Rule_worth 51 [some (.ref a0), some (.ref 41), some (.ref 42), some (.int a3), some (.int (nI a4)), some (.int (S (a0 + 1) a4))] [.int 0, .int v, .ref 42] (Hp S)) em).trans (stN sh42 (by decide) hi _ _)) ?_
          generalize up S 42 m5 0 = S4 at hw ⊢
          refine wp_st (pc' := 127) (L' := [some (.ref a0), some (.ref 41), some (.ref 42), some (.int a3), some (.int (nI a4)), some (.int (S (a0 + 1) a4))]) (st' := []) (h' := Hp S4) 1 (fun Z => rfl) ?_
          refine wp_st (pc' := 130) (L' := [some (.ref a0), some (.ref 41), some (.ref 42), some (.int a3), some (.int (nI (a4 + 1))), some (.int (S (a0 + 1) a4))]) (st' := []) (h' := Hp S4) 1 (fun Z => by rw [← nI_add a4 1]; rfl) ?_
          exact wp_st 1 (fun Z => rfl) (show wp E (d + 1) m_Rule_worth 5 [some (.ref a0), some (.ref 41), some (.ref 42), some (.int a3), some (.int (nI (a4 + 1))), some (.int (S (a0 + 1) a4))] [] (Hp S4) (QI Q) from (hw (some (.int (S (a0 + 1) a4)))))
    · rw [if_neg hc] at hw
      refine wp_st (pc' := 55) (L' := [some (.ref a0), some (.ref 41), some (.ref 42), some (.int a3), some (.int (nI a4)), some (.int (S (a0 + 1) a4))]) (st' := []) (h' := Hp S) 1 (fun Z => if_neg hc) ?_
      refine wp_st (pc' := 57) (L' := [some (.ref a0), some (.ref 41), some (.ref 42), some (.int a3), some (.int (nI a4)), some (.int (S (a0 + 1) a4))]) (st' := [.int (S (a0 + 1) a4)]) (h' := Hp S) 1 (fun Z => rfl) ?_
      by_cases hc : 0 ≤ (S (a0 + 1) a4)
      · rw [if_pos hc] at hw
        refine wp_st (pc' := 67) (L' := [some (.ref a0), some (.ref 41), some (.ref 42), some (.int a3), some (.int (nI a4)), some (.int (S (a0 + 1) a4))]) (st' := []) (h' := Hp S) 1 (fun Z => if_pos hc) ?_
        exact (show wp E (d + 1) m_Rule_worth 67 [some (.ref a0), some (.ref 41), some (.ref 42), some (.int a3), some (.int (nI a4)), some (.int (S (a0 + 1) a4))] [] (Hp S) (QI Q) from hw)
      · rw [if_neg hc] at hw
        refine wp_st (pc' := 60) (L' := [some (.ref a0), some (.ref 41), some (.ref 42), some (.int a3), some (.int (nI a4)), some (.int (S (a0 + 1) a4))]) (st' := []) (h' := Hp S) 1 (fun Z => if_neg hc) ?_
        refine wp_st (pc' := 62) (L' := [some (.ref a0), some (.ref 41), some (.ref 42), some (.int a3), some (.int (nI a4)), some (.int (S (a0 + 1) a4))]) (st' := [.int (S (a0 + 1) a4)]) (h' := Hp S) 1 (fun Z => rfl) ?_
        refine wp_st (pc' := 64) (L' := [some (.ref a0), some (.ref 41), some (.ref 42), some (.int a3), some (.int (nI a4)), some (.int (S (a0 + 1) a4))]) (st' := [.int (-20), .int (S (a0 + 1) a4)]) (h' := Hp S) 1 (fun Z => congrArg (fun v => Z (d + 1) m_Rule_worth 64 [some (.ref a0), some (.ref 41), some (.ref 42), some (.int a3), some (.int (nI a4)), some (.int (S (a0 + 1) a4))] [.int v, .int (S (a0 + 1) a4)] (Hp S)) (show (Int8.ofInt (-20)).toInt32 = (-20) by decide)) ?_
        by_cases hc : (-20) < (S (a0 + 1) a4)
        · rw [if_pos hc] at hw
          refine wp_st (pc' := 101) (L' := [some (.ref a0), some (.ref 41), some (.ref 42), some (.int a3), some (.int (nI a4)), some (.int (S (a0 + 1) a4))]) (st' := []) (h' := Hp S) 1 (fun Z => if_pos hc) ?_
          refine wp_st (pc' := 103) (L' := [some (.ref a0), some (.ref 41), some (.ref 42), some (.int a3), some (.int (nI a4)), some (.int (S (a0 + 1) a4))]) (st' := [.int 1, .int a3]) (h' := Hp S) 2 (fun Z => rfl) ?_
          by_cases hc : a3 ≤ 1
          · rw [if_pos hc] at hw
            refine wp_st (pc' := 127) (L' := [some (.ref a0), some (.ref 41), some (.ref 42), some (.int a3), some (.int (nI a4)), some (.int (S (a0 + 1) a4))]) (st' := []) (h' := Hp S) 1 (fun Z => if_pos hc) ?_
            refine wp_st (pc' := 130) (L' := [some (.ref a0), some (.ref 41), some (.ref 42), some (.int a3), some (.int (nI (a4 + 1))), some (.int (S (a0 + 1) a4))]) (st' := []) (h' := Hp S) 1 (fun Z => by rw [← nI_add a4 1]; rfl) ?_
            exact wp_st 1 (fun Z => rfl) (show wp E (d + 1) m_Rule_worth 5 [some (.ref a0), some (.ref 41), some (.ref 42), some (.int a3), some (.int (nI (a4 + 1))), some (.int (S (a0 + 1) a4))] [] (Hp S) (QI Q) from (hw (some (.int (S (a0 + 1) a4)))))
          · rw [if_neg hc] at hw
            refine wp_st (pc' := 106) (L' := [some (.ref a0), some (.ref 41), some (.ref 42), some (.int a3), some (.int (nI a4)), some (.int (S (a0 + 1) a4))]) (st' := []) (h' := Hp S) 1 (fun Z => if_neg hc) ?_
            refine wp_st (pc' := 109) (L' := [some (.ref a0), some (.ref 41), some (.ref 42), some (.int (a3 + (-1))), some (.int (nI a4)), some (.int (S (a0 + 1) a4))]) (st' := []) (h' := Hp S) 1 (fun Z => congrArg (fun v => Z (d + 1) m_Rule_worth 109 [some (.ref a0), some (.ref 41), some (.ref 42), some (.int (a3 + v)), some (.int (nI a4)), some (.int (S (a0 + 1) a4))] [] (Hp S)) (show Int32.ofInt (-1) = (-1) by decide)) ?_
            refine wp_st (pc' := 119) (L' := [some (.ref a0), some (.ref 41), some (.ref 42), some (.int (a3 + (-1))), some (.int (nI a4)), some (.int (S (a0 + 1) a4))]) (st' := [.int ((a3 + (-1)) - (1 : Int32)), .ref 42, .int (S (a0 + 1) a4), .int ((a3 + (-1)) - (1 : Int32)), .ref 42]) (h' := Hp S) 9 (fun Z => rfl) ?_
            obtain ⟨m6, em, hi, hw⟩ := hw
            refine wp_st (pc' := 120) (L' := [some (.ref a0), some (.ref 41), some (.ref 42), some (.int (a3 + (-1))), some (.int (nI a4)), some (.int (S (a0 + 1) a4))]) (st' := [.int (S 42 m6), .int (S (a0 + 1) a4), .int ((a3 + (-1)) - (1 : Int32)), .ref 42]) (h' := Hp S) 1 (fun Z => (congrArg (fun v => zit E 1 Z (d + 1) m_Rule_worth 119 [some (.ref a0), some (.ref 41), some (.ref 42), some (.int (a3 + (-1))), some (.int (nI a4)), some (.int (S (a0 + 1) a4))] [.int v, .ref 42, .int (S (a0 + 1) a4), .int ((a3 + (-1)) - (1 : Int32)), .ref 42] (Hp S)) em).trans (ldN (E := E) sh42 (by decide) hi [.int (S (a0 + 1) a4), .int ((a3 + (-1)) - (1 : Int32)), .ref 42] (fun st => Z (d + 1) m_Rule_worth 120 [some (.ref a0), some (.ref 41), some (.ref 42), some (.int (a3 + (-1))), some (.int (nI a4)), some (.int (S (a0 + 1) a4))] st (Hp S)))) ?_
            refine wp_st (pc' := 122) (L' := [some (.ref a0), some (.ref 41), some (.ref 42), some (.int (a3 + (-1))), some (.int (nI a4)), some (.int (S (a0 + 1) a4))]) (st' := [.int (a3 + (-1)), .ref 42, .int (S 42 m6), .int (S (a0 + 1) a4), .int ((a3 + (-1)) - (1 : Int32)), .ref 42]) (h' := Hp S) 2 (fun Z => rfl) ?_
            obtain ⟨m7, em, hi, hw⟩ := hw
            refine wp_st (pc' := 123) (L' := [some (.ref a0), some (.ref 41), some (.ref 42), some (.int (a3 + (-1))), some (.int (nI a4)), some (.int (S (a0 + 1) a4))]) (st' := [.int (S 42 m7), .int (S 42 m6), .int (S (a0 + 1) a4), .int ((a3 + (-1)) - (1 : Int32)), .ref 42]) (h' := Hp S) 1 (fun Z => (congrArg (fun v => zit E 1 Z (d + 1) m_Rule_worth 122 [some (.ref a0), some (.ref 41), some (.ref 42), some (.int (a3 + (-1))), some (.int (nI a4)), some (.int (S (a0 + 1) a4))] [.int v, .ref 42, .int (S 42 m6), .int (S (a0 + 1) a4), .int ((a3 + (-1)) - (1 : Int32)), .ref 42] (Hp S)) em).trans (ldN (E := E) sh42 (by decide) hi [.int (S 42 m6), .int (S (a0 + 1) a4), .int ((a3 + (-1)) - (1 : Int32)), .ref 42] (fun st => Z (d + 1) m_Rule_worth 123 [some (.ref a0), some (.ref 41), some (.ref 42), some (.int (a3 + (-1))), some (.int (nI a4)), some (.int (S (a0 + 1) a4))] st (Hp S)))) ?_
            refine wp_call (pc' := 126) (rest := [.int ((a3 + (-1)) - (1 : Int32)), .ref 42]) (fun Z => rfl) rfl hw ?_
            rintro o h1 ⟨x8, S9, rfl, rfl, hw⟩
            refine ⟨_, rfl, ?_⟩
            show wp E (d + 1) m_Rule_worth 126 [some (.ref a0), some (.ref 41), some (.ref 42), some (.int (a3 + (-1))), some (.int (nI a4)), some (.int (S (a0 + 1) a4))] [.int x8, .int ((a3 + (-1)) - (1 : Int32)), .ref 42] (Hp S9) (QI Q)
            obtain ⟨m11, em, hi, hw⟩ := hw
            have hw := hw _ rfl
            refine wp_st (pc' := 127) (L' := [some (.ref a0), some (.ref 41), some (.ref 42), some (.int (a3 + (-1))), some (.int (nI a4)), some (.int (S (a0 + 1) a4))]) (st' := []) (h' := Hp (up S9 42 m11 x8)) 1 (fun Z => (congrArg (fun v => zit E 1 Z (d + 1) m_Rule_worth 126 [some (.ref a0), some (.ref 41), some (.ref 42), some (.int (a3 + (-1))), some (.int (nI a4)), some (.int (S (a0 + 1) a4))] [.int x8, .int v, .ref 42] (Hp S9)) em).trans (stN sh42 (by decide) hi _ _)) ?_
            generalize up S9 42 m11 x8 = S10 at hw ⊢
            refine wp_st (pc' := 130) (L' := [some (.ref a0), some (.ref 41), some (.ref 42), some (.int (a3 + (-1))), some (.int (nI (a4 + 1))), some (.int (S (a0 + 1) a4))]) (st' := []) (h' := Hp S10) 1 (fun Z => by rw [← nI_add a4 1]; rfl) ?_
            exact wp_st 1 (fun Z => rfl) (show wp E (d + 1) m_Rule_worth 5 [some (.ref a0), some (.ref 41), some (.ref 42), some (.int (a3 + (-1))), some (.int (nI (a4 + 1))), some (.int (S (a0 + 1) a4))] [] (Hp S10) (QI Q) from (hw (some (.int (S (a0 + 1) a4)))))
        · rw [if_neg hc] at hw
          refine wp_st (pc' := 67) (L' := [some (.ref a0), some (.ref 41), some (.ref 42), some (.int a3), some (.int (nI a4)), some (.int (S (a0 + 1) a4))]) (st' := []) (h' := Hp S) 1 (fun Z => if_neg hc) ?_
          exact (show wp E (d + 1) m_Rule_worth 67 [some (.ref a0), some (.ref 41), some (.ref 42), some (.int a3), some (.int (nI a4)), some (.int (S (a0 + 1) a4))] [] (Hp S) (QI Q) from hw)
set_option maxRecDepth 4000 in
theorem w_Rule_worth_67 {E : zX} {d : Nat} {S : St} {a0 : Nat} {a3 : Int32} {a4 : Nat} {a5 : Int32} {Q : Int32 → St → Prop} (hd : 1 ≤ d) (ha0 : Ru a0)
    (hw : if 40 ≤ a3 then (
      k_Rule_worth_5 E d S a0 a3 (a4 + 1) Q)
    else (
      if a5 < 0 then (
        k_Rule_valueAt E (d - 1) S (((-20) : Int32) - a5) (fun x1 S2 =>
        ∃ m4 : Nat, a3 = nI m4 ∧ m4 < 40 ∧
        ∀ S3, S3 = up S2 42 m4 x1 →
        k_Rule_worth_5 E d S3 a0 (a3 + 1) (a4 + 1) Q))
      else (
        ∃ m6 : Nat, a3 = nI m6 ∧ m6 < 40 ∧
        ∀ S5, S5 = up S 42 m6 a5 →
        k_Rule_worth_5 E d S5 a0 (a3 + 1) (a4 + 1) Q))) :
    k_Rule_worth_67 E d S a0 a3 a4 a5 Q := by
  obtain ⟨d, rfl⟩ := Nat.exists_eq_add_of_le' hd
  show wp E (d + 1) m_Rule_worth 67 [some (.ref a0), some (.ref 41), some (.ref 42), some (.int a3), some (.int (nI a4)), some (.int a5)] [] (Hp S) (QI Q)
  refine wp_st (pc' := 69) (L' := [some (.ref a0), some (.ref 41), some (.ref 42), some (.int a3), some (.int (nI a4)), some (.int a5)]) (st' := [.ref 42, .int a3]) (h' := Hp S) 2 (fun Z => rfl) ?_
  refine wp_st (pc' := 70) (L' := [some (.ref a0), some (.ref 41), some (.ref 42), some (.int a3), some (.int (nI a4)), some (.int a5)]) (st' := [.int 40, .int a3]) (h' := Hp S) 1 (fun Z => lnX (E := E) sh42 [.int a3] (fun st => Z (d + 1) m_Rule_worth 70 [some (.ref a0), some (.ref 41), some (.ref 42), some (.int a3), some (.int (nI a4)), some (.int a5)] st (Hp S))) ?_
  by_cases hc : 40 ≤ a3
  · rw [if_pos hc] at hw
    refine wp_st (pc' := 127) (L' := [some (.ref a0), some (.ref 41), some (.ref 42), some (.int a3), some (.int (nI a4)), some (.int a5)]) (st' := []) (h' := Hp S) 1 (fun Z => if_pos hc) ?_
    refine wp_st (pc' := 130) (L' := [some (.ref a0), some (.ref 41), some (.ref 42), some (.int a3), some (.int (nI (a4 + 1))), some (.int a5)]) (st' := []) (h' := Hp S) 1 (fun Z => by rw [← nI_add a4 1]; rfl) ?_
    exact wp_st 1 (fun Z => rfl) (show wp E (d + 1) m_Rule_worth 5 [some (.ref a0), some (.ref 41), some (.ref 42), some (.int a3), some (.int (nI (a4 + 1))), some (.int a5)] [] (Hp S) (QI Q) from (hw (some (.int a5))))
  · rw [if_neg hc] at hw
    refine wp_st (pc' := 73) (L' := [some (.ref a0), some (.ref 41), some (.ref 42), some (.int a3), some (.int (nI a4)), some (.int a5)]) (st' := []) (h' := Hp S) 1 (fun Z => if_neg hc) ?_
    refine wp_st (pc' := 77) (L' := [some (.ref a0), some (.ref 41), some (.ref 42), some (.int a3), some (.int (nI a4)), some (.int a5)]) (st' := [.int a5, .int a3, .ref 42]) (h' := Hp S) 3 (fun Z => rfl) ?_
    by_cases hc : a5 < 0
    · rw [if_pos hc] at hw
      refine wp_st (pc' := 85) (L' := [some (.ref a0), some (.ref 41), some (.ref 42), some (.int a3), some (.int (nI a4)), some (.int a5)]) (st' := [.int a3, .ref 42]) (h' := Hp S) 1 (fun Z => if_pos hc) ?_
      refine wp_st (pc' := 86) (L' := [some (.ref a0), some (.ref 41), some (.ref 42), some (.int a3), some (.int (nI a4)), some (.int a5)]) (st' := [.ref 41, .int a3, .ref 42]) (h' := Hp S) 1 (fun Z => rfl) ?_
      refine wp_st (pc' := 88) (L' := [some (.ref a0), some (.ref 41), some (.ref 42), some (.int a3), some (.int (nI a4)), some (.int a5)]) (st' := [.int (-20), .ref 41, .int a3, .ref 42]) (h' := Hp S) 1 (fun Z => congrArg (fun v => Z (d + 1) m_Rule_worth 88 [some (.ref a0), some (.ref 41), some (.ref 42), some (.int a3), some (.int (nI a4)), some (.int a5)] [.int v, .ref 41, .int a3, .ref 42] (Hp S)) (show (Int8.ofInt (-20)).toInt32 = (-20) by decide)) ?_
      refine wp_st (pc' := 91) (L' := [some (.ref a0), some (.ref 41), some (.ref 42), some (.int a3), some (.int (nI a4)), some (.int a5)]) (st' := [.int (((-20) : Int32) - a5), .ref 41, .int a3, .ref 42]) (h' := Hp S) 2 (fun Z => rfl) ?_
      refine wp_call (pc' := 94) (rest := [.int a3, .ref 42]) (fun Z => rfl) rfl hw ?_
      rintro o h1 ⟨x1, S2, rfl, rfl, hw⟩
      refine ⟨_, rfl, ?_⟩
      show wp E (d + 1) m_Rule_worth 94 [some (.ref a0), some (.ref 41), some (.ref 42), some (.int a3), some (.int (nI a4)), some (.int a5)] [.int x1, .int a3, .ref 42] (Hp S2) (QI Q)
      obtain ⟨m4, em, hi, hw⟩ := hw
      have hw := hw _ rfl
      refine wp_st (pc' := 95) (L' := [some (.ref a0), some (.ref 41), some (.ref 42), some (.int a3), some (.int (nI a4)), some (.int a5)]) (st' := []) (h' := Hp (up S2 42 m4 x1)) 1 (fun Z => (congrArg (fun v => zit E 1 Z (d + 1) m_Rule_worth 94 [some (.ref a0), some (.ref 41), some (.ref 42), some (.int a3), some (.int (nI a4)), some (.int a5)] [.int x1, .int v, .ref 42] (Hp S2)) em).trans (stN sh42 (by decide) hi _ _)) ?_
      generalize up S2 42 m4 x1 = S3 at hw ⊢
      refine wp_st (pc' := 98) (L' := [some (.ref a0), some (.ref 41), some (.ref 42), some (.int (a3 + 1)), some (.int (nI a4)), some (.int a5)]) (st' := []) (h' := Hp S3) 1 (fun Z => congrArg (fun v => Z (d + 1) m_Rule_worth 98 [some (.ref a0), some (.ref 41), some (.ref 42), some (.int (a3 + v)), some (.int (nI a4)), some (.int a5)] [] (Hp S3)) (show Int32.ofInt (1) = (1) by decide)) ?_
      refine wp_st (pc' := 127) (L' := [some (.ref a0), some (.ref 41), some (.ref 42), some (.int (a3 + 1)), some (.int (nI a4)), some (.int a5)]) (st' := []) (h' := Hp S3) 1 (fun Z => rfl) ?_
      refine wp_st (pc' := 130) (L' := [some (.ref a0), some (.ref 41), some (.ref 42), some (.int (a3 + 1)), some (.int (nI (a4 + 1))), some (.int a5)]) (st' := []) (h' := Hp S3) 1 (fun Z => by rw [← nI_add a4 1]; rfl) ?_
      exact wp_st 1 (fun Z => rfl) (show wp E (d + 1) m_Rule_worth 5 [some (.ref a0), some (.ref 41), some (.ref 42), some (.int (a3 + 1)), some (.int (nI (a4 + 1))), some (.int a5)] [] (Hp S3) (QI Q) from (hw (some (.int a5))))
    · rw [if_neg hc] at hw
      refine wp_st (pc' := 80) (L' := [some (.ref a0), some (.ref 41), some (.ref 42), some (.int a3), some (.int (nI a4)), some (.int a5)]) (st' := [.int a3, .ref 42]) (h' := Hp S) 1 (fun Z => if_neg hc) ?_
      refine wp_st (pc' := 94) (L' := [some (.ref a0), some (.ref 41), some (.ref 42), some (.int a3), some (.int (nI a4)), some (.int a5)]) (st' := [.int a5, .int a3, .ref 42]) (h' := Hp S) 2 (fun Z => rfl) ?_
      obtain ⟨m6, em, hi, hw⟩ := hw
      have hw := hw _ rfl
      refine wp_st (pc' := 95) (L' := [some (.ref a0), some (.ref 41), some (.ref 42), some (.int a3), some (.int (nI a4)), some (.int a5)]) (st' := []) (h' := Hp (up S 42 m6 a5)) 1 (fun Z => (congrArg (fun v => zit E 1 Z (d + 1) m_Rule_worth 94 [some (.ref a0), some (.ref 41), some (.ref 42), some (.int a3), some (.int (nI a4)), some (.int a5)] [.int a5, .int v, .ref 42] (Hp S)) em).trans (stN sh42 (by decide) hi _ _)) ?_
      generalize up S 42 m6 a5 = S5 at hw ⊢
      refine wp_st (pc' := 98) (L' := [some (.ref a0), some (.ref 41), some (.ref 42), some (.int (a3 + 1)), some (.int (nI a4)), some (.int a5)]) (st' := []) (h' := Hp S5) 1 (fun Z => congrArg (fun v => Z (d + 1) m_Rule_worth 98 [some (.ref a0), some (.ref 41), some (.ref 42), some (.int (a3 + v)), some (.int (nI a4)), some (.int a5)] [] (Hp S5)) (show Int32.ofInt (1) = (1) by decide)) ?_
      refine wp_st (pc' := 127) (L' := [some (.ref a0), some (.ref 41), some (.ref 42), some (.int (a3 + 1)), some (.int (nI a4)), some (.int a5)]) (st' := []) (h' := Hp S5) 1 (fun Z => rfl) ?_
      refine wp_st (pc' := 130) (L' := [some (.ref a0), some (.ref 41), some (.ref 42), some (.int (a3 + 1)), some (.int (nI (a4 + 1))), some (.int a5)]) (st' := []) (h' := Hp S5) 1 (fun Z => by rw [← nI_add a4 1]; rfl) ?_
      exact wp_st 1 (fun Z => rfl) (show wp E (d + 1) m_Rule_worth 5 [some (.ref a0), some (.ref 41), some (.ref 42), some (.int (a3 + 1)), some (.int (nI (a4 + 1))), some (.int a5)] [] (Hp S5) (QI Q) from (hw (some (.int a5))))
set_option maxRecDepth 4000 in
theorem w_Rule_valueAt {E : zX} {d : Nat} {S : St} {a1 : Nat} {Q : Int32 → St → Prop} 
    (hw : if (nI a1) < 0 then (
      Q (0 : Int32) S)
    else (
      if nI 5 ≤ (nI a1) then (
        Q (0 : Int32) S)
      else (
        a1 < 5 ∧
        Q (S 41 a1) S))) :
    k_Rule_valueAt E d S (nI a1) Q := by
  show wp E d m_Rule_valueAt 0 [some (.ref 41), some (.int (nI a1))] [] (Hp S) (QI Q)
  refine wp_st (pc' := 1) (L' := [some (.ref 41), some (.int (nI a1))]) (st' := [.int (nI a1)]) (h' := Hp S) 1 (fun Z => rfl) ?_
  by_cases hc : (nI a1) < 0
  · rw [if_pos hc] at hw
    refine wp_st (pc' := 16) (L' := [some (.ref 41), some (.int (nI a1))]) (st' := []) (h' := Hp S) 1 (fun Z => if_pos hc) ?_
    refine wp_st (pc' := 17) (L' := [some (.ref 41), some (.int (nI a1))]) (st' := [.int 0]) (h' := Hp S) 1 (fun Z => rfl) ?_
    exact wp_ret (fun Z => rfl) ⟨_, _, rfl, rfl, hw⟩
  · rw [if_neg hc] at hw
    refine wp_st (pc' := 4) (L' := [some (.ref 41), some (.int (nI a1))]) (st' := []) (h' := Hp S) 1 (fun Z => if_neg hc) ?_
    refine wp_st (pc' := 6) (L' := [some (.ref 41), some (.int (nI a1))]) (st' := [.ref 41, .int (nI a1)]) (h' := Hp S) 2 (fun Z => rfl) ?_
    refine wp_st (pc' := 7) (L' := [some (.ref 41), some (.int (nI a1))]) (st' := [.int 5, .int (nI a1)]) (h' := Hp S) 1 (fun Z => lnX (E := E) sh41 [.int (nI a1)] (fun st => Z d m_Rule_valueAt 7 [some (.ref 41), some (.int (nI a1))] st (Hp S))) ?_
    by_cases hc : nI 5 ≤ (nI a1)
    · rw [if_pos hc] at hw
      refine wp_st (pc' := 16) (L' := [some (.ref 41), some (.int (nI a1))]) (st' := []) (h' := Hp S) 1 (fun Z => if_pos hc) ?_
      refine wp_st (pc' := 17) (L' := [some (.ref 41), some (.int (nI a1))]) (st' := [.int 0]) (h' := Hp S) 1 (fun Z => rfl) ?_
      exact wp_ret (fun Z => rfl) ⟨_, _, rfl, rfl, hw⟩
    · rw [if_neg hc] at hw
      refine wp_st (pc' := 10) (L' := [some (.ref 41), some (.int (nI a1))]) (st' := []) (h' := Hp S) 1 (fun Z => if_neg hc) ?_
      refine wp_st (pc' := 12) (L' := [some (.ref 41), some (.int (nI a1))]) (st' := [.int (nI a1), .ref 41]) (h' := Hp S) 2 (fun Z => rfl) ?_
      obtain ⟨hi, hw⟩ := hw
      refine wp_st (pc' := 13) (L' := [some (.ref 41), some (.int (nI a1))]) (st' := [.int (S 41 a1)]) (h' := Hp S) 1 (fun Z => ldN (E := E) sh41 (by decide) hi [] (fun st => Z d m_Rule_valueAt 13 [some (.ref 41), some (.int (nI a1))] st (Hp S))) ?_
      refine wp_st (pc' := 17) (L' := [some (.ref 41), some (.int (nI a1))]) (st' := [.int (S 41 a1)]) (h' := Hp S) 1 (fun Z => rfl) ?_
      exact wp_ret (fun Z => rfl) ⟨_, _, rfl, rfl, hw⟩
set_option maxRecDepth 4000 in
theorem w_Rule_join {E : zX} {d : Nat} {S : St} {a0 : Int32} {a1 : Int32} {a2 : Int32} {Q : Int32 → St → Prop} 
    (hw : if a0 = (-8) then (
      Q (a1 * a2) S)
    else if a0 = (-7) then (
      Q (a1 - a2) S)
    else if a0 = (-6) then (
      Q (a1 + a2) S)
    else if a0 = (-5) then (
      if a1 = a2 then (
        Q (1 : Int32) S)
      else (
        Q (0 : Int32) S))
    else if a0 = (-4) then (
      if a2 ≤ a1 then (
        Q (0 : Int32) S)
      else (
        Q (1 : Int32) S))
    else if a0 = (-3) then (
      if a2 = 0 then (
        Q (0 : Int32) S)
      else (
        ¬ a2 = 0 ∧
        Q (a1 / a2) S))
    else if a0 = (-2) then (
      if a1 = 0 then (
        Q (0 : Int32) S)
      else (
        if a2 = 0 then (
          Q (0 : Int32) S)
        else (
          Q (1 : Int32) S)))
    else if a0 = (-1) then (
      if a1 = 0 then (
        if a2 = 0 then (
          Q (0 : Int32) S)
        else (
          Q (1 : Int32) S))
      else (
        Q (1 : Int32) S))
    else (
      if a2 = 0 then (
      Q (0 : Int32) S)
    else (
      ¬ a2 = 0 ∧
      Q (a1 / a2) S))) :
    k_Rule_join E d S a0 a1 a2 Q := by
  show wp E d m_Rule_join 0 [some (.int a0), some (.int a1), some (.int a2)] [] (Hp S) (QI Q)
  refine wp_st (pc' := 1) (L' := [some (.int a0), some (.int a1), some (.int a2)]) (st' := [.int a0]) (h' := Hp S) 1 (fun Z => rfl) ?_
  by_cases cm8 : a0 = (-8)
  · rw [if_pos cm8] at hw
    refine wp_st (pc' := 106) (L' := [some (.int a0), some (.int a1), some (.int a2)]) (st' := []) (h' := Hp S) 1 (fun Z => (show zsw (.tableswitch 109 (-8) (-1) #[105, 101, 97, 86, 75, 109, 61, 47]) 1 (.int a0 :: []) (fun t st1 => Z d m_Rule_join t [some (.int a0), some (.int a1), some (.int a2)] st1 (Hp S)) = _ from zsw_at (c := (-8)) (by rw [cm8]; decide) (by decide) rfl rfl)) ?_
    refine wp_st (pc' := 109) (L' := [some (.int a0), some (.int a1), some (.int a2)]) (st' := [.int (a1 * a2)]) (h' := Hp S) 3 (fun Z => rfl) ?_
    exact wp_ret (fun Z => rfl) ⟨_, _, rfl, rfl, hw⟩
  rw [if_neg cm8] at hw
  by_cases cm7 : a0 = (-7)
  · rw [if_pos cm7] at hw
    refine wp_st (pc' := 102) (L' := [some (.int a0), some (.int a1), some (.int a2)]) (st' := []) (h' := Hp S) 1 (fun Z => (show zsw (.tableswitch 109 (-8) (-1) #[105, 101, 97, 86, 75, 109, 61, 47]) 1 (.int a0 :: []) (fun t st1 => Z d m_Rule_join t [some (.int a0), some (.int a1), some (.int a2)] st1 (Hp S)) = _ from zsw_at (c := (-7)) (by rw [cm7]; decide) (by decide) rfl rfl)) ?_
    refine wp_st (pc' := 105) (L' := [some (.int a0), some (.int a1), some (.int a2)]) (st' := [.int (a1 - a2)]) (h' := Hp S) 3 (fun Z => rfl) ?_
    exact wp_ret (fun Z => rfl) ⟨_, _, rfl, rfl, hw⟩
  rw [if_neg cm7] at hw
  by_cases cm6 : a0 = (-6)
  · rw [if_pos cm6] at hw
    refine wp_st (pc' := 98) (L' := [some (.int a0), some (.int a1), some (.int a2)]) (st' := []) (h' := Hp S) 1 (fun Z => (show zsw (.tableswitch 109 (-8) (-1) #[105, 101, 97, 86, 75, 109, 61, 47]) 1 (.int a0 :: []) (fun t st1 => Z d m_Rule_join t [some (.int a0), some (.int a1), some (.int a2)] st1 (Hp S)) = _ from zsw_at (c := (-6)) (by rw [cm6]; decide) (by decide) rfl rfl)) ?_
    refine wp_st (pc' := 101) (L' := [some (.int a0), some (.int a1), some (.int a2)]) (st' := [.int (a1 + a2)]) (h' := Hp S) 3 (fun Z => rfl) ?_
    exact wp_ret (fun Z => rfl) ⟨_, _, rfl, rfl, hw⟩
  rw [if_neg cm6] at hw
  by_cases cm5 : a0 = (-5)
  · rw [if_pos cm5] at hw
    refine wp_st (pc' := 87) (L' := [some (.int a0), some (.int a1), some (.int a2)]) (st' := []) (h' := Hp S) 1 (fun Z => (show zsw (.tableswitch 109 (-8) (-1) #[105, 101, 97, 86, 75, 109, 61, 47]) 1 (.int a0 :: []) (fun t st1 => Z d m_Rule_join t [some (.int a0), some (.int a1), some (.int a2)] st1 (Hp S)) = _ from zsw_at (c := (-5)) (by rw [cm5]; decide) (by decide) rfl rfl)) ?_
    refine wp_st (pc' := 89) (L' := [some (.int a0), some (.int a1), some (.int a2)]) (st' := [.int a2, .int a1]) (h' := Hp S) 2 (fun Z => rfl) ?_
    by_cases hc : a1 = a2
    · rw [if_pos hc] at hw
      refine wp_st (pc' := 92) (L' := [some (.int a0), some (.int a1), some (.int a2)]) (st' := []) (h' := Hp S) 1 (fun Z => if_pos hc) ?_
      refine wp_st (pc' := 97) (L' := [some (.int a0), some (.int a1), some (.int a2)]) (st' := [.int 1]) (h' := Hp S) 2 (fun Z => rfl) ?_
      exact wp_ret (fun Z => rfl) ⟨_, _, rfl, rfl, hw⟩
    · rw [if_neg hc] at hw
      refine wp_st (pc' := 96) (L' := [some (.int a0), some (.int a1), some (.int a2)]) (st' := []) (h' := Hp S) 1 (fun Z => if_neg hc) ?_
      refine wp_st (pc' := 97) (L' := [some (.int a0), some (.int a1), some (.int a2)]) (st' := [.int 0]) (h' := Hp S) 1 (fun Z => rfl) ?_
      exact wp_ret (fun Z => rfl) ⟨_, _, rfl, rfl, hw⟩
  rw [if_neg cm5] at hw
  by_cases cm4 : a0 = (-4)
  · rw [if_pos cm4] at hw
    refine wp_st (pc' := 76) (L' := [some (.int a0), some (.int a1), some (.int a2)]) (st' := []) (h' := Hp S) 1 (fun Z => (show zsw (.tableswitch 109 (-8) (-1) #[105, 101, 97, 86, 75, 109, 61, 47]) 1 (.int a0 :: []) (fun t st1 => Z d m_Rule_join t [some (.int a0), some (.int a1), some (.int a2)] st1 (Hp S)) = _ from zsw_at (c := (-4)) (by rw [cm4]; decide) (by decide) rfl rfl)) ?_
    refine wp_st (pc' := 78) (L' := [some (.int a0), some (.int a1), some (.int a2)]) (st' := [.int a2, .int a1]) (h' := Hp S) 2 (fun Z => rfl) ?_
    by_cases hc : a2 ≤ a1
    · rw [if_pos hc] at hw
      refine wp_st (pc' := 85) (L' := [some (.int a0), some (.int a1), some (.int a2)]) (st' := []) (h' := Hp S) 1 (fun Z => if_pos hc) ?_
      refine wp_st (pc' := 86) (L' := [some (.int a0), some (.int a1), some (.int a2)]) (st' := [.int 0]) (h' := Hp S) 1 (fun Z => rfl) ?_
      exact wp_ret (fun Z => rfl) ⟨_, _, rfl, rfl, hw⟩
    · rw [if_neg hc] at hw
      refine wp_st (pc' := 81) (L' := [some (.int a0), some (.int a1), some (.int a2)]) (st' := []) (h' := Hp S) 1 (fun Z => if_neg hc) ?_
      refine wp_st (pc' := 86) (L' := [some (.int a0), some (.int a1), some (.int a2)]) (st' := [.int 1]) (h' := Hp S) 2 (fun Z => rfl) ?_
      exact wp_ret (fun Z => rfl) ⟨_, _, rfl, rfl, hw⟩
  rw [if_neg cm4] at hw
  by_cases cm3 : a0 = (-3)
  · rw [if_pos cm3] at hw
    refine wp_st (pc' := 110) (L' := [some (.int a0), some (.int a1), some (.int a2)]) (st' := []) (h' := Hp S) 1 (fun Z => (show zsw (.tableswitch 109 (-8) (-1) #[105, 101, 97, 86, 75, 109, 61, 47]) 1 (.int a0 :: []) (fun t st1 => Z d m_Rule_join t [some (.int a0), some (.int a1), some (.int a2)] st1 (Hp S)) = _ from zsw_at (c := (-3)) (by rw [cm3]; decide) (by decide) rfl rfl)) ?_
    refine wp_st (pc' := 111) (L' := [some (.int a0), some (.int a1), some (.int a2)]) (st' := [.int a2]) (h' := Hp S) 1 (fun Z => rfl) ?_
    by_cases hc : a2 = 0
    · rw [if_pos hc] at hw
      refine wp_st (pc' := 114) (L' := [some (.int a0), some (.int a1), some (.int a2)]) (st' := []) (h' := Hp S) 1 (fun Z => if_pos hc) ?_
      refine wp_st (pc' := 121) (L' := [some (.int a0), some (.int a1), some (.int a2)]) (st' := [.int 0]) (h' := Hp S) 2 (fun Z => rfl) ?_
      exact wp_ret (fun Z => rfl) ⟨_, _, rfl, rfl, hw⟩
    · rw [if_neg hc] at hw
      refine wp_st (pc' := 118) (L' := [some (.int a0), some (.int a1), some (.int a2)]) (st' := []) (h' := Hp S) 1 (fun Z => if_neg hc) ?_
      refine wp_st (pc' := 120) (L' := [some (.int a0), some (.int a1), some (.int a2)]) (st' := [.int a2, .int a1]) (h' := Hp S) 2 (fun Z => rfl) ?_
      obtain ⟨hz, hw⟩ := hw
      refine wp_st (pc' := 121) (L' := [some (.int a0), some (.int a1), some (.int a2)]) (st' := [.int (a1 / a2)]) (h' := Hp S) 1 (fun Z => if_neg hz) ?_
      exact wp_ret (fun Z => rfl) ⟨_, _, rfl, rfl, hw⟩
  rw [if_neg cm3] at hw
  by_cases cm2 : a0 = (-2)
  · rw [if_pos cm2] at hw
    refine wp_st (pc' := 62) (L' := [some (.int a0), some (.int a1), some (.int a2)]) (st' := []) (h' := Hp S) 1 (fun Z => (show zsw (.tableswitch 109 (-8) (-1) #[105, 101, 97, 86, 75, 109, 61, 47]) 1 (.int a0 :: []) (fun t st1 => Z d m_Rule_join t [some (.int a0), some (.int a1), some (.int a2)] st1 (Hp S)) = _ from zsw_at (c := (-2)) (by rw [cm2]; decide) (by decide) rfl rfl)) ?_
    refine wp_st (pc' := 63) (L' := [some (.int a0), some (.int a1), some (.int a2)]) (st' := [.int a1]) (h' := Hp S) 1 (fun Z => rfl) ?_
    by_cases hc : a1 = 0
    · rw [if_pos hc] at hw
      refine wp_st (pc' := 74) (L' := [some (.int a0), some (.int a1), some (.int a2)]) (st' := []) (h' := Hp S) 1 (fun Z => if_pos hc) ?_
      refine wp_st (pc' := 75) (L' := [some (.int a0), some (.int a1), some (.int a2)]) (st' := [.int 0]) (h' := Hp S) 1 (fun Z => rfl) ?_
      exact wp_ret (fun Z => rfl) ⟨_, _, rfl, rfl, hw⟩
    · rw [if_neg hc] at hw
      refine wp_st (pc' := 66) (L' := [some (.int a0), some (.int a1), some (.int a2)]) (st' := []) (h' := Hp S) 1 (fun Z => if_neg hc) ?_
      refine wp_st (pc' := 67) (L' := [some (.int a0), some (.int a1), some (.int a2)]) (st' := [.int a2]) (h' := Hp S) 1 (fun Z => rfl) ?_
      by_cases hc : a2 = 0
      · rw [if_pos hc] at hw
        refine wp_st (pc' := 74) (L' := [some (.int a0), some (.int a1), some (.int a2)]) (st' := []) (h' := Hp S) 1 (fun Z => if_pos hc) ?_
        refine wp_st (pc' := 75) (L' := [some (.int a0), some (.int a1), some (.int a2)]) (st' := [.int 0]) (h' := Hp S) 1 (fun Z => rfl) ?_
        exact wp_ret (fun Z => rfl) ⟨_, _, rfl, rfl, hw⟩
      · rw [if_neg hc] at hw
        refine wp_st (pc' := 70) (L' := [some (.int a0), some (.int a1), some (.int a2)]) (st' := []) (h' := Hp S) 1 (fun Z => if_neg hc) ?_
        refine wp_st (pc' := 75) (L' := [some (.int a0), some (.int a1), some (.int a2)]) (st' := [.int 1]) (h' := Hp S) 2 (fun Z => rfl) ?_
        exact wp_ret (fun Z => rfl) ⟨_, _, rfl, rfl, hw⟩
  rw [if_neg cm2] at hw
  by_cases cm1 : a0 = (-1)
  · rw [if_pos cm1] at hw
    refine wp_st (pc' := 48) (L' := [some (.int a0), some (.int a1), some (.int a2)]) (st' := []) (h' := Hp S) 1 (fun Z => (show zsw (.tableswitch 109 (-8) (-1) #[105, 101, 97, 86, 75, 109, 61, 47]) 1 (.int a0 :: []) (fun t st1 => Z d m_Rule_join t [some (.int a0), some (.int a1), some (.int a2)] st1 (Hp S)) = _ from zsw_at (c := (-1)) (by rw [cm1]; decide) (by decide) rfl rfl)) ?_
    refine wp_st (pc' := 49) (L' := [some (.int a0), some (.int a1), some (.int a2)]) (st' := [.int a1]) (h' := Hp S) 1 (fun Z => rfl) ?_
    by_cases hc : a1 = 0
    · rw [if_pos hc] at hw
      refine wp_st (pc' := 52) (L' := [some (.int a0), some (.int a1), some (.int a2)]) (st' := []) (h' := Hp S) 1 (fun Z => if_pos hc) ?_
      refine wp_st (pc' := 53) (L' := [some (.int a0), some (.int a1), some (.int a2)]) (st' := [.int a2]) (h' := Hp S) 1 (fun Z => rfl) ?_
      by_cases hc : a2 = 0
      · rw [if_pos hc] at hw
        refine wp_st (pc' := 60) (L' := [some (.int a0), some (.int a1), some (.int a2)]) (st' := []) (h' := Hp S) 1 (fun Z => if_pos hc) ?_
        refine wp_st (pc' := 61) (L' := [some (.int a0), some (.int a1), some (.int a2)]) (st' := [.int 0]) (h' := Hp S) 1 (fun Z => rfl) ?_
        exact wp_ret (fun Z => rfl) ⟨_, _, rfl, rfl, hw⟩
      · rw [if_neg hc] at hw
        refine wp_st (pc' := 56) (L' := [some (.int a0), some (.int a1), some (.int a2)]) (st' := []) (h' := Hp S) 1 (fun Z => if_neg hc) ?_
        refine wp_st (pc' := 61) (L' := [some (.int a0), some (.int a1), some (.int a2)]) (st' := [.int 1]) (h' := Hp S) 2 (fun Z => rfl) ?_
        exact wp_ret (fun Z => rfl) ⟨_, _, rfl, rfl, hw⟩
    · rw [if_neg hc] at hw
      refine wp_st (pc' := 56) (L' := [some (.int a0), some (.int a1), some (.int a2)]) (st' := []) (h' := Hp S) 1 (fun Z => if_neg hc) ?_
      refine wp_st (pc' := 61) (L' := [some (.int a0), some (.int a1), some (.int a2)]) (st' := [.int 1]) (h' := Hp S) 2 (fun Z => rfl) ?_
      exact wp_ret (fun Z => rfl) ⟨_, _, rfl, rfl, hw⟩
  rw [if_neg cm1] at hw
  have hs : (a0).toInt < (-8 : Int) ∨ (-1 : Int) < (a0).toInt := by
    refine zoutG (n := 8) (by decide) (by decide) (by decide) ?_
    intro k hk
    rcases k with _ | _ | _ | _ | _ | _ | _ | _ | k
    · exact cm8
    · exact cm7
    · exact cm6
    · exact cm5
    · exact cm4
    · exact cm3
    · exact cm2
    · exact cm1
    · omega
  refine wp_st (pc' := 110) (L' := [some (.int a0), some (.int a1), some (.int a2)]) (st' := []) (h' := Hp S) 1 (fun Z => (show zsw (.tableswitch 109 (-8) (-1) #[105, 101, 97, 86, 75, 109, 61, 47]) 1 (.int a0 :: []) (fun t st1 => Z d m_Rule_join t [some (.int a0), some (.int a1), some (.int a2)] st1 (Hp S)) = _ from zsw_out hs rfl)) ?_
  refine wp_st (pc' := 111) (L' := [some (.int a0), some (.int a1), some (.int a2)]) (st' := [.int a2]) (h' := Hp S) 1 (fun Z => rfl) ?_
  by_cases hc : a2 = 0
  · rw [if_pos hc] at hw
    refine wp_st (pc' := 114) (L' := [some (.int a0), some (.int a1), some (.int a2)]) (st' := []) (h' := Hp S) 1 (fun Z => if_pos hc) ?_
    refine wp_st (pc' := 121) (L' := [some (.int a0), some (.int a1), some (.int a2)]) (st' := [.int 0]) (h' := Hp S) 2 (fun Z => rfl) ?_
    exact wp_ret (fun Z => rfl) ⟨_, _, rfl, rfl, hw⟩
  · rw [if_neg hc] at hw
    refine wp_st (pc' := 118) (L' := [some (.int a0), some (.int a1), some (.int a2)]) (st' := []) (h' := Hp S) 1 (fun Z => if_neg hc) ?_
    refine wp_st (pc' := 120) (L' := [some (.int a0), some (.int a1), some (.int a2)]) (st' := [.int a2, .int a1]) (h' := Hp S) 2 (fun Z => rfl) ?_
    obtain ⟨hz, hw⟩ := hw
    refine wp_st (pc' := 121) (L' := [some (.int a0), some (.int a1), some (.int a2)]) (st' := [.int (a1 / a2)]) (h' := Hp S) 1 (fun Z => if_neg hz) ?_
    exact wp_ret (fun Z => rfl) ⟨_, _, rfl, rfl, hw⟩
set_option maxRecDepth 4000 in
theorem w_Rule_add {E : zX} {d : Nat} {S : St} {a0 : Nat} {a1 : Int32} {Q : St → Prop} (ha0 : Ru a0)
    (hw : if 700 ≤ (S a0 1) then (
      Q S)
    else (
      ∃ m2 : Nat, (S a0 1) = nI m2 ∧ m2 < 700 ∧
      ∀ S1, S1 = up S (a0 + 1) m2 a1 →
      ∀ S3, S3 = up S1 a0 1 ((S1 a0 1) + (1 : Int32)) →
      Q S3)) :
    k_Rule_add E d S a0 a1 Q := by
  show wp E d m_Rule_add 0 [some (.ref a0), some (.int a1)] [] (Hp S) (QV Q)
  refine wp_st (pc' := 1) (L' := [some (.ref a0), some (.int a1)]) (st' := [.ref a0]) (h' := Hp S) 1 (fun Z => rfl) ?_
  refine wp_st (pc' := 4) (L' := [some (.ref a0), some (.int a1)]) (st' := [.int (S a0 1)]) (h' := Hp S) 1 (fun Z => gfI (E := E) (ha0).1 rfl _) ?_
  refine wp_st (pc' := 5) (L' := [some (.ref a0), some (.int a1)]) (st' := [.ref a0, .int (S a0 1)]) (h' := Hp S) 1 (fun Z => rfl) ?_
  refine wp_st (pc' := 8) (L' := [some (.ref a0), some (.int a1)]) (st' := [.ref (a0 + 1), .int (S a0 1)]) (h' := Hp S) 1 (fun Z => gfR (E := E) (ha0).1 rfl _) ?_
  refine wp_st (pc' := 9) (L' := [some (.ref a0), some (.int a1)]) (st' := [.int 700, .int (S a0 1)]) (h' := Hp S) 1 (fun Z => lnX (E := E) (ha0).2 [.int (S a0 1)] (fun st => Z d m_Rule_add 9 [some (.ref a0), some (.int a1)] st (Hp S))) ?_
  by_cases hc : 700 ≤ (S a0 1)
  · rw [if_pos hc] at hw
    refine wp_st (pc' := 32) (L' := [some (.ref a0), some (.int a1)]) (st' := []) (h' := Hp S) 1 (fun Z => if_pos hc) ?_
    exact wp_ret (fun Z => rfl) ⟨_, rfl, rfl, hw⟩
  · rw [if_neg hc] at hw
    refine wp_st (pc' := 12) (L' := [some (.ref a0), some (.int a1)]) (st' := []) (h' := Hp S) 1 (fun Z => if_neg hc) ?_
    refine wp_st (pc' := 13) (L' := [some (.ref a0), some (.int a1)]) (st' := [.ref a0]) (h' := Hp S) 1 (fun Z => rfl) ?_
    refine wp_st (pc' := 16) (L' := [some (.ref a0), some (.int a1)]) (st' := [.ref (a0 + 1)]) (h' := Hp S) 1 (fun Z => gfR (E := E) (ha0).1 rfl _) ?_
    refine wp_st (pc' := 17) (L' := [some (.ref a0), some (.int a1)]) (st' := [.ref a0, .ref (a0 + 1)]) (h' := Hp S) 1 (fun Z => rfl) ?_
    refine wp_st (pc' := 20) (L' := [some (.ref a0), some (.int a1)]) (st' := [.int (S a0 1), .ref (a0 + 1)]) (h' := Hp S) 1 (fun Z => gfI (E := E) (ha0).1 rfl _) ?_
    refine wp_st (pc' := 21) (L' := [some (.ref a0), some (.int a1)]) (st' := [.int a1, .int (S a0 1), .ref (a0 + 1)]) (h' := Hp S) 1 (fun Z => rfl) ?_
    obtain ⟨m2, em, hi, hw⟩ := hw
    have hw := hw _ rfl
    refine wp_st (pc' := 22) (L' := [some (.ref a0), some (.int a1)]) (st' := []) (h' := Hp (up S (a0 + 1) m2 a1)) 1 (fun Z => (congrArg (fun v => zit E 1 Z d m_Rule_add 21 [some (.ref a0), some (.int a1)] [.int a1, .int v, .ref (a0 + 1)] (Hp S)) em).trans (stN (ha0).2 (by decide) hi _ _)) ?_
    generalize up S (a0 + 1) m2 a1 = S1 at hw ⊢
    refine wp_st (pc' := 24) (L' := [some (.ref a0), some (.int a1)]) (st' := [.ref a0, .ref a0]) (h' := Hp S1) 2 (fun Z => rfl) ?_
    refine wp_st (pc' := 27) (L' := [some (.ref a0), some (.int a1)]) (st' := [.int (S1 a0 1), .ref a0]) (h' := Hp S1) 1 (fun Z => gfI (E := E) (ha0).1 rfl _) ?_
    refine wp_st (pc' := 29) (L' := [some (.ref a0), some (.int a1)]) (st' := [.int ((S1 a0 1) + (1 : Int32)), .ref a0]) (h' := Hp S1) 2 (fun Z => rfl) ?_
    have hw := hw _ rfl
    refine wp_st (pc' := 32) (L' := [some (.ref a0), some (.int a1)]) (st' := []) (h' := Hp (up S1 a0 1 ((S1 a0 1) + (1 : Int32)))) 1 (fun Z => pfI (ha0).1 rfl (Nat.le_of_ble_eq_true rfl) rfl _) ?_
    generalize up S1 a0 1 ((S1 a0 1) + (1 : Int32)) = S3 at hw ⊢
    exact wp_ret (fun Z => rfl) ⟨_, rfl, rfl, hw⟩
set_option maxRecDepth 4000 in
theorem w_Rule_copyFrom {E : zX} {d : Nat} {S : St} {a0 : Nat} {a1 : Nat} {Q : St → Prop} (hd : 1 ≤ d) (ha0 : Ru a0) (ha1 : Ru a1)
    (hw : ∀ S1, S1 = up S a0 1 (S a1 1) →
    ∃ m3 : Nat, (S1 a0 1) = nI m3 ∧ 0 + m3 ≤ 700 ∧ 0 + m3 ≤ 700 ∧
    ∀ S2, S2 = setR S1 (a0 + 1) (va_cpy (S1 (a1 + 1)) (S1 (a0 + 1)) 0 0 m3) →
    Q S2) :
    k_Rule_copyFrom E d S a0 a1 Q := by
  obtain ⟨d, rfl⟩ := Nat.exists_eq_add_of_le' hd
  show wp E (d + 1) m_Rule_copyFrom 0 [some (.ref a0), some (.ref a1)] [] (Hp S) (QV Q)
  refine wp_st (pc' := 2) (L' := [some (.ref a0), some (.ref a1)]) (st' := [.ref a1, .ref a0]) (h' := Hp S) 2 (fun Z => rfl) ?_
  refine wp_st (pc' := 5) (L' := [some (.ref a0), some (.ref a1)]) (st' := [.int (S a1 1), .ref a0]) (h' := Hp S) 1 (fun Z => gfI (E := E) (ha1).1 rfl _) ?_
  have hw := hw _ rfl
  refine wp_st (pc' := 8) (L' := [some (.ref a0), some (.ref a1)]) (st' := []) (h' := Hp (up S a0 1 (S a1 1))) 1 (fun Z => pfI (ha0).1 rfl (Nat.le_of_ble_eq_true rfl) rfl _) ?_
  generalize up S a0 1 (S a1 1) = S1 at hw ⊢
  refine wp_st (pc' := 9) (L' := [some (.ref a0), some (.ref a1)]) (st' := [.ref a1]) (h' := Hp S1) 1 (fun Z => rfl) ?_
  refine wp_st (pc' := 12) (L' := [some (.ref a0), some (.ref a1)]) (st' := [.ref (a1 + 1)]) (h' := Hp S1) 1 (fun Z => gfR (E := E) (ha1).1 rfl _) ?_
  refine wp_st (pc' := 14) (L' := [some (.ref a0), some (.ref a1)]) (st' := [.ref a0, .int 0, .ref (a1 + 1)]) (h' := Hp S1) 2 (fun Z => rfl) ?_
  refine wp_st (pc' := 17) (L' := [some (.ref a0), some (.ref a1)]) (st' := [.ref (a0 + 1), .int 0, .ref (a1 + 1)]) (h' := Hp S1) 1 (fun Z => gfR (E := E) (ha0).1 rfl _) ?_
  refine wp_st (pc' := 19) (L' := [some (.ref a0), some (.ref a1)]) (st' := [.ref a0, .int 0, .ref (a0 + 1), .int 0, .ref (a1 + 1)]) (h' := Hp S1) 2 (fun Z => rfl) ?_
  refine wp_st (pc' := 22) (L' := [some (.ref a0), some (.ref a1)]) (st' := [.int (S1 a0 1), .int 0, .ref (a0 + 1), .int 0, .ref (a1 + 1)]) (h' := Hp S1) 1 (fun Z => gfI (E := E) (ha0).1 rfl _) ?_
  obtain ⟨m3, e4, hw⟩ := hw
  obtain ⟨hi1, hi2, hw⟩ := hw
  have hw := hw _ rfl
  refine wp_st (pc' := 25) (L' := [some (.ref a0), some (.ref a1)]) (st' := []) (h' := Hp (setR S1 (a0 + 1) (va_cpy (S1 (a1 + 1)) (S1 (a0 + 1)) 0 0 m3))) 1 (fun Z => (congrArg (fun v => zit E 1 Z (d + 1) m_Rule_copyFrom 22 [some (.ref a0), some (.ref a1)] [.int v, .int 0, .ref (a0 + 1), .int 0, .ref (a1 + 1)] (Hp S1)) e4).trans (cpN (m := m3) (dp := 0) (sp := 0) (ha1).2 (ha0).2 (by decide) (by decide) hi1 hi2 _ _)) ?_
  generalize setR S1 (a0 + 1) (va_cpy (S1 (a1 + 1)) (S1 (a0 + 1)) 0 0 m3) = S2 at hw ⊢
  exact wp_ret (fun Z => rfl) ⟨_, rfl, rfl, hw⟩
set_option maxRecDepth 4000 in
theorem w_Scene_clear {E : zX} {d : Nat} {S : St} {a0 : Nat} {Q : St → Prop} (ha0 : Sc a0)
    (hw : k_Scene_clear_2 E d S a0 0 Q) :
    k_Scene_clear E d S a0 Q := by
  show wp E d m_Scene_clear 0 [some (.ref a0), none] [] (Hp S) (QV Q)
  exact wp_st 2 (fun Z => rfl) (show wp E d m_Scene_clear 2 [some (.ref a0), some (.int 0)] [] (Hp S) (QV Q) from hw)
set_option maxRecDepth 4000 in
theorem w_Scene_clear_2 {E : zX} {d : Nat} {S : St} {a0 : Nat} {a1 : Nat} {Q : St → Prop} (ha0 : Sc a0)
    (hw : if nI 70 ≤ (nI a1) then (
      k_Scene_clear_23 E d S a0 0 Q)
    else (
      a1 < 70 ∧
      ∀ S1, S1 = up S (a0 + 1) a1 0 →
      k_Scene_clear_2 E d S1 a0 (a1 + 1) Q)) :
    k_Scene_clear_2 E d S a0 a1 Q := by
  show wp E d m_Scene_clear 2 [some (.ref a0), some (.int (nI a1))] [] (Hp S) (QV Q)
  refine wp_st (pc' := 5) (L' := [some (.ref a0), some (.int (nI a1))]) (st' := [.int 70, .int (nI a1)]) (h' := Hp S) 2 (fun Z => rfl) ?_
  by_cases hc : nI 70 ≤ (nI a1)
  · rw [if_pos hc] at hw
    refine wp_st (pc' := 21) (L' := [some (.ref a0), some (.int (nI a1))]) (st' := []) (h' := Hp S) 1 (fun Z => if_pos hc) ?_
    exact wp_st 2 (fun Z => rfl) (show wp E d m_Scene_clear 23 [some (.ref a0), some (.int 0)] [] (Hp S) (QV Q) from hw)
  · rw [if_neg hc] at hw
    refine wp_st (pc' := 8) (L' := [some (.ref a0), some (.int (nI a1))]) (st' := []) (h' := Hp S) 1 (fun Z => if_neg hc) ?_
    refine wp_st (pc' := 9) (L' := [some (.ref a0), some (.int (nI a1))]) (st' := [.ref a0]) (h' := Hp S) 1 (fun Z => rfl) ?_
    refine wp_st (pc' := 12) (L' := [some (.ref a0), some (.int (nI a1))]) (st' := [.ref (a0 + 1)]) (h' := Hp S) 1 (fun Z => gfR (E := E) (ha0).1 rfl _) ?_
    refine wp_st (pc' := 14) (L' := [some (.ref a0), some (.int (nI a1))]) (st' := [.int 0, .int (nI a1), .ref (a0 + 1)]) (h' := Hp S) 2 (fun Z => rfl) ?_
    obtain ⟨hi, hw⟩ := hw
    have hw := hw _ rfl
    refine wp_st (pc' := 15) (L' := [some (.ref a0), some (.int (nI a1))]) (st' := []) (h' := Hp (up S (a0 + 1) a1 0)) 1 (fun Z => stN (ha0).2 (by decide) hi _ _) ?_
    generalize up S (a0 + 1) a1 0 = S1 at hw ⊢
    refine wp_st (pc' := 18) (L' := [some (.ref a0), some (.int (nI (a1 + 1)))]) (st' := []) (h' := Hp S1) 1 (fun Z => by rw [← nI_add a1 1]; rfl) ?_
    exact wp_st 1 (fun Z => rfl) (show wp E d m_Scene_clear 2 [some (.ref a0), some (.int (nI (a1 + 1)))] [] (Hp S1) (QV Q) from hw)
set_option maxRecDepth 4000 in
theorem w_Scene_clear_23 {E : zX} {d : Nat} {S : St} {a0 : Nat} {a1 : Nat} {Q : St → Prop} (ha0 : Sc a0)
    (hw : if nI 10 ≤ (nI a1) then (
      Q S)
    else (
      (50 + a1) < 70 ∧
      ∀ S1, S1 = up S (a0 + 1) (50 + a1) (-1) →
      k_Scene_clear_23 E d S1 a0 (a1 + 1) Q)) :
    k_Scene_clear_23 E d S a0 a1 Q := by
  show wp E d m_Scene_clear 23 [some (.ref a0), some (.int (nI a1))] [] (Hp S) (QV Q)
  refine wp_st (pc' := 26) (L' := [some (.ref a0), some (.int (nI a1))]) (st' := [.int 10, .int (nI a1)]) (h' := Hp S) 2 (fun Z => rfl) ?_
  by_cases hc : nI 10 ≤ (nI a1)
  · rw [if_pos hc] at hw
    refine wp_st (pc' := 45) (L' := [some (.ref a0), some (.int (nI a1))]) (st' := []) (h' := Hp S) 1 (fun Z => if_pos hc) ?_
    exact wp_ret (fun Z => rfl) ⟨_, rfl, rfl, hw⟩
  · rw [if_neg hc] at hw
    refine wp_st (pc' := 29) (L' := [some (.ref a0), some (.int (nI a1))]) (st' := []) (h' := Hp S) 1 (fun Z => if_neg hc) ?_
    refine wp_st (pc' := 30) (L' := [some (.ref a0), some (.int (nI a1))]) (st' := [.ref a0]) (h' := Hp S) 1 (fun Z => rfl) ?_
    refine wp_st (pc' := 33) (L' := [some (.ref a0), some (.int (nI a1))]) (st' := [.ref (a0 + 1)]) (h' := Hp S) 1 (fun Z => gfR (E := E) (ha0).1 rfl _) ?_
    refine wp_st (pc' := 36) (L' := [some (.ref a0), some (.int (nI a1))]) (st' := [.int (nI a1), .int 50, .ref (a0 + 1)]) (h' := Hp S) 2 (fun Z => rfl) ?_
    refine wp_st (pc' := 37) (L' := [some (.ref a0), some (.int (nI a1))]) (st' := [.int (nI (50 + a1)), .ref (a0 + 1)]) (h' := Hp S) 1 (fun Z => by rw [← nI_add 50 a1]; rfl) ?_
    refine wp_st (pc' := 38) (L' := [some (.ref a0), some (.int (nI a1))]) (st' := [.int (-1), .int (nI (50 + a1)), .ref (a0 + 1)]) (h' := Hp S) 1 (fun Z => congrArg (fun v => Z d m_Scene_clear 38 [some (.ref a0), some (.int (nI a1))] [.int v, .int (nI (50 + a1)), .ref (a0 + 1)] (Hp S)) (show Int32.ofInt (-1) = (-1) by decide)) ?_
    obtain ⟨hi, hw⟩ := hw
    have hw := hw _ rfl
    refine wp_st (pc' := 39) (L' := [some (.ref a0), some (.int (nI a1))]) (st' := []) (h' := Hp (up S (a0 + 1) (50 + a1) (-1))) 1 (fun Z => stN (ha0).2 (by decide) hi _ _) ?_
    generalize up S (a0 + 1) (50 + a1) (-1) = S1 at hw ⊢
    refine wp_st (pc' := 42) (L' := [some (.ref a0), some (.int (nI (a1 + 1)))]) (st' := []) (h' := Hp S1) 1 (fun Z => by rw [← nI_add a1 1]; rfl) ?_
    exact wp_st 1 (fun Z => rfl) (show wp E d m_Scene_clear 23 [some (.ref a0), some (.int (nI (a1 + 1)))] [] (Hp S1) (QV Q) from hw)
set_option maxRecDepth 4000 in
theorem w_Scene_day {E : zX} {d : Nat} {S : St} {a0 : Nat} {Q : Int32 → St → Prop} (ha0 : Sc a0)
    (hw : Q (S (a0 + 1) 0) S) :
    k_Scene_day E d S a0 Q := by
  show wp E d m_Scene_day 0 [some (.ref a0)] [] (Hp S) (QI Q)
  refine wp_st (pc' := 1) (L' := [some (.ref a0)]) (st' := [.ref a0]) (h' := Hp S) 1 (fun Z => rfl) ?_
  refine wp_st (pc' := 4) (L' := [some (.ref a0)]) (st' := [.ref (a0 + 1)]) (h' := Hp S) 1 (fun Z => gfR (E := E) (ha0).1 rfl _) ?_
  refine wp_st (pc' := 5) (L' := [some (.ref a0)]) (st' := [.int 0, .ref (a0 + 1)]) (h' := Hp S) 1 (fun Z => rfl) ?_
  refine wp_st (pc' := 6) (L' := [some (.ref a0)]) (st' := [.int (S (a0 + 1) 0)]) (h' := Hp S) 1 (fun Z => ldN (E := E) (ha0).2 (by decide) (by decide) [] (fun st => Z d m_Scene_day 6 [some (.ref a0)] st (Hp S))) ?_
  exact wp_ret (fun Z => rfl) ⟨_, _, rfl, rfl, hw⟩
set_option maxRecDepth 4000 in
theorem w_Scene_temperOf {E : zX} {d : Nat} {S : St} {a0 : Nat} {a1 : Nat} {Q : Int32 → St → Prop} (ha0 : Sc a0)
    (hw : (9 + a1) < 70 ∧
    Q (S (a0 + 1) (9 + a1)) S) :
    k_Scene_temperOf E d S a0 (nI a1) Q := by
  show wp E d m_Scene_temperOf 0 [some (.ref a0), some (.int (nI a1))] [] (Hp S) (QI Q)
  refine wp_st (pc' := 1) (L' := [some (.ref a0), some (.int (nI a1))]) (st' := [.ref a0]) (h' := Hp S) 1 (fun Z => rfl) ?_
  refine wp_st (pc' := 4) (L' := [some (.ref a0), some (.int (nI a1))]) (st' := [.ref (a0 + 1)]) (h' := Hp S) 1 (fun Z => gfR (E := E) (ha0).1 rfl _) ?_
  refine wp_st (pc' := 7) (L' := [some (.ref a0), some (.int (nI a1))]) (st' := [.int (nI a1), .int 9, .ref (a0 + 1)]) (h' := Hp S) 2 (fun Z => rfl) ?_
  refine wp_st (pc' := 8) (L' := [some (.ref a0), some (.int (nI a1))]) (st' := [.int (nI (9 + a1)), .ref (a0 + 1)]) (h' := Hp S) 1 (fun Z => by rw [← nI_add 9 a1]; rfl) ?_
  obtain ⟨hi, hw⟩ := hw
  refine wp_st (pc' := 9) (L' := [some (.ref a0), some (.int (nI a1))]) (st' := [.int (S (a0 + 1) (9 + a1))]) (h' := Hp S) 1 (fun Z => ldN (E := E) (ha0).2 (by decide) hi [] (fun st => Z d m_Scene_temperOf 9 [some (.ref a0), some (.int (nI a1))] st (Hp S))) ?_
  exact wp_ret (fun Z => rfl) ⟨_, _, rfl, rfl, hw⟩
set_option maxRecDepth 4000 in
theorem w_Scene_mildOf {E : zX} {d : Nat} {S : St} {a0 : Nat} {a1 : Nat} {Q : Int32 → St → Prop} (ha0 : Sc a0)
    (hw : (2 + a1) < 70 ∧
    Q (S (a0 + 1) (2 + a1)) S) :
    k_Scene_mildOf E d S a0 (nI a1) Q := by
  show wp E d m_Scene_mildOf 0 [some (.ref a0), some (.int (nI a1))] [] (Hp S) (QI Q)
  refine wp_st (pc' := 1) (L' := [some (.ref a0), some (.int (nI a1))]) (st' := [.ref a0]) (h' := Hp S) 1 (fun Z => rfl) ?_
  refine wp_st (pc' := 4) (L' := [some (.ref a0), some (.int (nI a1))]) (st' := [.ref (a0 + 1)]) (h' := Hp S) 1 (fun Z => gfR (E := E) (ha0).1 rfl _) ?_
  refine wp_st (pc' := 6) (L' := [some (.ref a0), some (.int (nI a1))]) (st' := [.int (nI a1), .int 2, .ref (a0 + 1)]) (h' := Hp S) 2 (fun Z => rfl) ?_
  refine wp_st (pc' := 7) (L' := [some (.ref a0), some (.int (nI a1))]) (st' := [.int (nI (2 + a1)), .ref (a0 + 1)]) (h' := Hp S) 1 (fun Z => by rw [← nI_add 2 a1]; rfl) ?_
  obtain ⟨hi, hw⟩ := hw
  refine wp_st (pc' := 8) (L' := [some (.ref a0), some (.int (nI a1))]) (st' := [.int (S (a0 + 1) (2 + a1))]) (h' := Hp S) 1 (fun Z => ldN (E := E) (ha0).2 (by decide) hi [] (fun st => Z d m_Scene_mildOf 8 [some (.ref a0), some (.int (nI a1))] st (Hp S))) ?_
  exact wp_ret (fun Z => rfl) ⟨_, _, rfl, rfl, hw⟩
set_option maxRecDepth 4000 in
theorem w_Scene_shoutedBy {E : zX} {d : Nat} {S : St} {a0 : Nat} {a1 : Nat} {Q : Int32 → St → Prop} (ha0 : Sc a0)
    (hw : (16 + a1) < 70 ∧
    Q (S (a0 + 1) (16 + a1)) S) :
    k_Scene_shoutedBy E d S a0 (nI a1) Q := by
  show wp E d m_Scene_shoutedBy 0 [some (.ref a0), some (.int (nI a1))] [] (Hp S) (QI Q)
  refine wp_st (pc' := 1) (L' := [some (.ref a0), some (.int (nI a1))]) (st' := [.ref a0]) (h' := Hp S) 1 (fun Z => rfl) ?_
  refine wp_st (pc' := 4) (L' := [some (.ref a0), some (.int (nI a1))]) (st' := [.ref (a0 + 1)]) (h' := Hp S) 1 (fun Z => gfR (E := E) (ha0).1 rfl _) ?_
  refine wp_st (pc' := 7) (L' := [some (.ref a0), some (.int (nI a1))]) (st' := [.int (nI a1), .int 16, .ref (a0 + 1)]) (h' := Hp S) 2 (fun Z => rfl) ?_
  refine wp_st (pc' := 8) (L' := [some (.ref a0), some (.int (nI a1))]) (st' := [.int (nI (16 + a1)), .ref (a0 + 1)]) (h' := Hp S) 1 (fun Z => by rw [← nI_add 16 a1]; rfl) ?_
  obtain ⟨hi, hw⟩ := hw
  refine wp_st (pc' := 9) (L' := [some (.ref a0), some (.int (nI a1))]) (st' := [.int (S (a0 + 1) (16 + a1))]) (h' := Hp S) 1 (fun Z => ldN (E := E) (ha0).2 (by decide) hi [] (fun st => Z d m_Scene_shoutedBy 9 [some (.ref a0), some (.int (nI a1))] st (Hp S))) ?_
  exact wp_ret (fun Z => rfl) ⟨_, _, rfl, rfl, hw⟩
set_option maxRecDepth 4000 in
theorem w_Scene_heardBy {E : zX} {d : Nat} {S : St} {a0 : Nat} {a1 : Nat} {Q : Int32 → St → Prop} (ha0 : Sc a0)
    (hw : (23 + a1) < 70 ∧
    Q (S (a0 + 1) (23 + a1)) S) :
    k_Scene_heardBy E d S a0 (nI a1) Q := by
  show wp E d m_Scene_heardBy 0 [some (.ref a0), some (.int (nI a1))] [] (Hp S) (QI Q)
  refine wp_st (pc' := 1) (L' := [some (.ref a0), some (.int (nI a1))]) (st' := [.ref a0]) (h' := Hp S) 1 (fun Z => rfl) ?_
  refine wp_st (pc' := 4) (L' := [some (.ref a0), some (.int (nI a1))]) (st' := [.ref (a0 + 1)]) (h' := Hp S) 1 (fun Z => gfR (E := E) (ha0).1 rfl _) ?_
  refine wp_st (pc' := 7) (L' := [some (.ref a0), some (.int (nI a1))]) (st' := [.int (nI a1), .int 23, .ref (a0 + 1)]) (h' := Hp S) 2 (fun Z => rfl) ?_
  refine wp_st (pc' := 8) (L' := [some (.ref a0), some (.int (nI a1))]) (st' := [.int (nI (23 + a1)), .ref (a0 + 1)]) (h' := Hp S) 1 (fun Z => by rw [← nI_add 23 a1]; rfl) ?_
  obtain ⟨hi, hw⟩ := hw
  refine wp_st (pc' := 9) (L' := [some (.ref a0), some (.int (nI a1))]) (st' := [.int (S (a0 + 1) (23 + a1))]) (h' := Hp S) 1 (fun Z => ldN (E := E) (ha0).2 (by decide) hi [] (fun st => Z d m_Scene_heardBy 9 [some (.ref a0), some (.int (nI a1))] st (Hp S))) ?_
  exact wp_ret (fun Z => rfl) ⟨_, _, rfl, rfl, hw⟩
set_option maxRecDepth 4000 in
theorem w_Scene_setTemper {E : zX} {d : Nat} {S : St} {a0 : Nat} {a1 : Nat} {a2 : Int32} {Q : St → Prop} (hd : 1 ≤ d) (ha0 : Sc a0)
    (hw : (9 + a1) < 70 ∧
    ∀ S1, S1 = up S (a0 + 1) (9 + a1) (zmin a2 99) →
    Q S1) :
    k_Scene_setTemper E d S a0 (nI a1) a2 Q := by
  obtain ⟨d, rfl⟩ := Nat.exists_eq_add_of_le' hd
  show wp E (d + 1) m_Scene_setTemper 0 [some (.ref a0), some (.int (nI a1)), some (.int a2)] [] (Hp S) (QV Q)
  refine wp_st (pc' := 1) (L' := [some (.ref a0), some (.int (nI a1)), some (.int a2)]) (st' := [.ref a0]) (h' := Hp S) 1 (fun Z => rfl) ?_
  refine wp_st (pc' := 4) (L' := [some (.ref a0), some (.int (nI a1)), some (.int a2)]) (st' := [.ref (a0 + 1)]) (h' := Hp S) 1 (fun Z => gfR (E := E) (ha0).1 rfl _) ?_
  refine wp_st (pc' := 7) (L' := [some (.ref a0), some (.int (nI a1)), some (.int a2)]) (st' := [.int (nI a1), .int 9, .ref (a0 + 1)]) (h' := Hp S) 2 (fun Z => rfl) ?_
  refine wp_st (pc' := 8) (L' := [some (.ref a0), some (.int (nI a1)), some (.int a2)]) (st' := [.int (nI (9 + a1)), .ref (a0 + 1)]) (h' := Hp S) 1 (fun Z => by rw [← nI_add 9 a1]; rfl) ?_
  refine wp_st (pc' := 14) (L' := [some (.ref a0), some (.int (nI a1)), some (.int a2)]) (st' := [.int (zmin a2 99), .int (nI (9 + a1)), .ref (a0 + 1)]) (h' := Hp S) 3 (fun Z => rfl) ?_
  obtain ⟨hi, hw⟩ := hw
  have hw := hw _ rfl
  refine wp_st (pc' := 15) (L' := [some (.ref a0), some (.int (nI a1)), some (.int a2)]) (st' := []) (h' := Hp (up S (a0 + 1) (9 + a1) (zmin a2 99))) 1 (fun Z => stN (ha0).2 (by decide) hi _ _) ?_
  generalize up S (a0 + 1) (9 + a1) (zmin a2 99) = S1 at hw ⊢
  exact wp_ret (fun Z => rfl) ⟨_, rfl, rfl, hw⟩
set_option maxRecDepth 4000 in
theorem w_Scene_isWhite {E : zX} {d : Nat} {S : St} {a0 : Nat} {a1 : Nat} {Q : Int32 → St → Prop} (ha0 : Sc a0)
    (hw : (30 + a1) < 70 ∧
    if (S (a0 + 1) (30 + a1)) = 0 then (
      Q (1 : Int32) S)
    else (
      Q (0 : Int32) S)) :
    k_Scene_isWhite E d S a0 (nI a1) Q := by
  show wp E d m_Scene_isWhite 0 [some (.ref a0), some (.int (nI a1))] [] (Hp S) (QI Q)
  refine wp_st (pc' := 1) (L' := [some (.ref a0), some (.int (nI a1))]) (st' := [.ref a0]) (h' := Hp S) 1 (fun Z => rfl) ?_
  refine wp_st (pc' := 4) (L' := [some (.ref a0), some (.int (nI a1))]) (st' := [.ref (a0 + 1)]) (h' := Hp S) 1 (fun Z => gfR (E := E) (ha0).1 rfl _) ?_
  refine wp_st (pc' := 7) (L' := [some (.ref a0), some (.int (nI a1))]) (st' := [.int (nI a1), .int 30, .ref (a0 + 1)]) (h' := Hp S) 2 (fun Z => rfl) ?_
  refine wp_st (pc' := 8) (L' := [some (.ref a0), some (.int (nI a1))]) (st' := [.int (nI (30 + a1)), .ref (a0 + 1)]) (h' := Hp S) 1 (fun Z => by rw [← nI_add 30 a1]; rfl) ?_
  obtain ⟨hi, hw⟩ := hw
  refine wp_st (pc' := 9) (L' := [some (.ref a0), some (.int (nI a1))]) (st' := [.int (S (a0 + 1) (30 + a1))]) (h' := Hp S) 1 (fun Z => ldN (E := E) (ha0).2 (by decide) hi [] (fun st => Z d m_Scene_isWhite 9 [some (.ref a0), some (.int (nI a1))] st (Hp S))) ?_
  by_cases hc : (S (a0 + 1) (30 + a1)) = 0
  · rw [if_pos hc] at hw
    refine wp_st (pc' := 12) (L' := [some (.ref a0), some (.int (nI a1))]) (st' := []) (h' := Hp S) 1 (fun Z => if_pos hc) ?_
    refine wp_st (pc' := 17) (L' := [some (.ref a0), some (.int (nI a1))]) (st' := [.int 1]) (h' := Hp S) 2 (fun Z => rfl) ?_
    exact wp_ret (fun Z => rfl) ⟨_, _, rfl, rfl, hw⟩
  · rw [if_neg hc] at hw
    refine wp_st (pc' := 16) (L' := [some (.ref a0), some (.int (nI a1))]) (st' := []) (h' := Hp S) 1 (fun Z => if_neg hc) ?_
    refine wp_st (pc' := 17) (L' := [some (.ref a0), some (.int (nI a1))]) (st' := [.int 0]) (h' := Hp S) 1 (fun Z => rfl) ?_
    exact wp_ret (fun Z => rfl) ⟨_, _, rfl, rfl, hw⟩
set_option maxRecDepth 4000 in
theorem w_Scene_cellOf {E : zX} {d : Nat} {S : St} {a0 : Nat} {a1 : Nat} {Q : Int32 → St → Prop} (ha0 : Sc a0)
    (hw : (60 + a1) < 70 ∧
    Q (S (a0 + 1) (60 + a1)) S) :
    k_Scene_cellOf E d S a0 (nI a1) Q := by
  show wp E d m_Scene_cellOf 0 [some (.ref a0), some (.int (nI a1))] [] (Hp S) (QI Q)
  refine wp_st (pc' := 1) (L' := [some (.ref a0), some (.int (nI a1))]) (st' := [.ref a0]) (h' := Hp S) 1 (fun Z => rfl) ?_
  refine wp_st (pc' := 4) (L' := [some (.ref a0), some (.int (nI a1))]) (st' := [.ref (a0 + 1)]) (h' := Hp S) 1 (fun Z => gfR (E := E) (ha0).1 rfl _) ?_
  refine wp_st (pc' := 7) (L' := [some (.ref a0), some (.int (nI a1))]) (st' := [.int (nI a1), .int 60, .ref (a0 + 1)]) (h' := Hp S) 2 (fun Z => rfl) ?_
  refine wp_st (pc' := 8) (L' := [some (.ref a0), some (.int (nI a1))]) (st' := [.int (nI (60 + a1)), .ref (a0 + 1)]) (h' := Hp S) 1 (fun Z => by rw [← nI_add 60 a1]; rfl) ?_
  obtain ⟨hi, hw⟩ := hw
  refine wp_st (pc' := 9) (L' := [some (.ref a0), some (.int (nI a1))]) (st' := [.int (S (a0 + 1) (60 + a1))]) (h' := Hp S) 1 (fun Z => ldN (E := E) (ha0).2 (by decide) hi [] (fun st => Z d m_Scene_cellOf 9 [some (.ref a0), some (.int (nI a1))] st (Hp S))) ?_
  exact wp_ret (fun Z => rfl) ⟨_, _, rfl, rfl, hw⟩
set_option maxRecDepth 4000 in
theorem w_Scene_fill {E : zX} {d : Nat} {S : St} {a0 : Nat} {a1 : Nat} {a2 : Int32} {a3 : Int32} {Q : St → Prop} (ha0 : Sc a0)
    (hw : (30 + a1) < 70 ∧
    ∀ S1, S1 = up S (a0 + 1) (30 + a1) a2 →
    (40 + a1) < 70 ∧
    ∀ S2, S2 = up S1 (a0 + 1) (40 + a1) 0 →
    (50 + a1) < 70 ∧
    ∀ S3, S3 = up S2 (a0 + 1) (50 + a1) a3 →
    Q S3) :
    k_Scene_fill E d S a0 (nI a1) a2 a3 Q := by
  show wp E d m_Scene_fill 0 [some (.ref a0), some (.int (nI a1)), some (.int a2), some (.int a3)] [] (Hp S) (QV Q)
  refine wp_st (pc' := 1) (L' := [some (.ref a0), some (.int (nI a1)), some (.int a2), some (.int a3)]) (st' := [.ref a0]) (h' := Hp S) 1 (fun Z => rfl) ?_
  refine wp_st (pc' := 4) (L' := [some (.ref a0), some (.int (nI a1)), some (.int a2), some (.int a3)]) (st' := [.ref (a0 + 1)]) (h' := Hp S) 1 (fun Z => gfR (E := E) (ha0).1 rfl _) ?_
  refine wp_st (pc' := 7) (L' := [some (.ref a0), some (.int (nI a1)), some (.int a2), some (.int a3)]) (st' := [.int (nI a1), .int 30, .ref (a0 + 1)]) (h' := Hp S) 2 (fun Z => rfl) ?_
  refine wp_st (pc' := 8) (L' := [some (.ref a0), some (.int (nI a1)), some (.int a2), some (.int a3)]) (st' := [.int (nI (30 + a1)), .ref (a0 + 1)]) (h' := Hp S) 1 (fun Z => by rw [← nI_add 30 a1]; rfl) ?_
  refine wp_st (pc' := 9) (L' := [some (.ref a0), some (.int (nI a1)), some (.int a2), some (.int a3)]) (st' := [.int a2, .int (nI (30 + a1)), .ref (a0 + 1)]) (h' := Hp S) 1 (fun Z => rfl) ?_
  obtain ⟨hi, hw⟩ := hw
  have hw := hw _ rfl
  refine wp_st (pc' := 10) (L' := [some (.ref a0), some (.int (nI a1)), some (.int a2), some (.int a3)]) (st' := []) (h' := Hp (up S (a0 + 1) (30 + a1) a2)) 1 (fun Z => stN (ha0).2 (by decide) hi _ _) ?_
  generalize up S (a0 + 1) (30 + a1) a2 = S1 at hw ⊢
  refine wp_st (pc' := 11) (L' := [some (.ref a0), some (.int (nI a1)), some (.int a2), some (.int a3)]) (st' := [.ref a0]) (h' := Hp S1) 1 (fun Z => rfl) ?_
  refine wp_st (pc' := 14) (L' := [some (.ref a0), some (.int (nI a1)), some (.int a2), some (.int a3)]) (st' := [.ref (a0 + 1)]) (h' := Hp S1) 1 (fun Z => gfR (E := E) (ha0).1 rfl _) ?_
  refine wp_st (pc' := 17) (L' := [some (.ref a0), some (.int (nI a1)), some (.int a2), some (.int a3)]) (st' := [.int (nI a1), .int 40, .ref (a0 + 1)]) (h' := Hp S1) 2 (fun Z => rfl) ?_
  refine wp_st (pc' := 18) (L' := [some (.ref a0), some (.int (nI a1)), some (.int a2), some (.int a3)]) (st' := [.int (nI (40 + a1)), .ref (a0 + 1)]) (h' := Hp S1) 1 (fun Z => by rw [← nI_add 40 a1]; rfl) ?_
  refine wp_st (pc' := 19) (L' := [some (.ref a0), some (.int (nI a1)), some (.int a2), some (.int a3)]) (st' := [.int 0, .int (nI (40 + a1)), .ref (a0 + 1)]) (h' := Hp S1) 1 (fun Z => rfl) ?_
  obtain ⟨hi, hw⟩ := hw
  have hw := hw _ rfl
  refine wp_st (pc' := 20) (L' := [some (.ref a0), some (.int (nI a1)), some (.int a2), some (.int a3)]) (st' := []) (h' := Hp (up S1 (a0 + 1) (40 + a1) 0)) 1 (fun Z => stN (ha0).2 (by decide) hi _ _) ?_
  generalize up S1 (a0 + 1) (40 + a1) 0 = S2 at hw ⊢
  refine wp_st (pc' := 21) (L' := [some (.ref a0), some (.int (nI a1)), some (.int a2), some (.int a3)]) (st' := [.ref a0]) (h' := Hp S2) 1 (fun Z => rfl) ?_
  refine wp_st (pc' := 24) (L' := [some (.ref a0), some (.int (nI a1)), some (.int a2), some (.int a3)]) (st' := [.ref (a0 + 1)]) (h' := Hp S2) 1 (fun Z => gfR (E := E) (ha0).1 rfl _) ?_
  refine wp_st (pc' := 27) (L' := [some (.ref a0), some (.int (nI a1)), some (.int a2), some (.int a3)]) (st' := [.int (nI a1), .int 50, .ref (a0 + 1)]) (h' := Hp S2) 2 (fun Z => rfl) ?_
  refine wp_st (pc' := 28) (L' := [some (.ref a0), some (.int (nI a1)), some (.int a2), some (.int a3)]) (st' := [.int (nI (50 + a1)), .ref (a0 + 1)]) (h' := Hp S2) 1 (fun Z => by rw [← nI_add 50 a1]; rfl) ?_
  refine wp_st (pc' := 29) (L' := [some (.ref a0), some (.int (nI a1)), some (.int a2), some (.int a3)]) (st' := [.int a3, .int (nI (50 + a1)), .ref (a0 + 1)]) (h' := Hp S2) 1 (fun Z => rfl) ?_
  obtain ⟨hi, hw⟩ := hw
  have hw := hw _ rfl
  refine wp_st (pc' := 30) (L' := [some (.ref a0), some (.int (nI a1)), some (.int a2), some (.int a3)]) (st' := []) (h' := Hp (up S2 (a0 + 1) (50 + a1) a3)) 1 (fun Z => stN (ha0).2 (by decide) hi _ _) ?_
  generalize up S2 (a0 + 1) (50 + a1) a3 = S3 at hw ⊢
  exact wp_ret (fun Z => rfl) ⟨_, rfl, rfl, hw⟩
set_option maxRecDepth 4000 in
theorem w_Scene_shout {E : zX} {d : Nat} {S : St} {a0 : Nat} {a1 : Nat} {Q : St → Prop} (ha0 : Sc a0)
    (hw : (16 + a1) < 70 ∧
    (16 + a1) < 70 ∧
    ∀ S1, S1 = up S (a0 + 1) (16 + a1) ((S (a0 + 1) (16 + a1)) + (1 : Int32)) →
    (9 + a1) < 70 ∧
    (9 + a1) < 70 ∧
    ∀ S2, S2 = up S1 (a0 + 1) (9 + a1) ((S1 (a0 + 1) (9 + a1)) / 2) →
    Q S2) :
    k_Scene_shout E d S a0 (nI a1) Q := by
  show wp E d m_Scene_shout 0 [some (.ref a0), some (.int (nI a1))] [] (Hp S) (QV Q)
  refine wp_st (pc' := 1) (L' := [some (.ref a0), some (.int (nI a1))]) (st' := [.ref a0]) (h' := Hp S) 1 (fun Z => rfl) ?_
  refine wp_st (pc' := 4) (L' := [some (.ref a0), some (.int (nI a1))]) (st' := [.ref (a0 + 1)]) (h' := Hp S) 1 (fun Z => gfR (E := E) (ha0).1 rfl _) ?_
  refine wp_st (pc' := 7) (L' := [some (.ref a0), some (.int (nI a1))]) (st' := [.int (nI a1), .int 16, .ref (a0 + 1)]) (h' := Hp S) 2 (fun Z => rfl) ?_
  refine wp_st (pc' := 8) (L' := [some (.ref a0), some (.int (nI a1))]) (st' := [.int (nI (16 + a1)), .ref (a0 + 1)]) (h' := Hp S) 1 (fun Z => by rw [← nI_add 16 a1]; rfl) ?_
  refine wp_st (pc' := 9) (L' := [some (.ref a0), some (.int (nI a1))]) (st' := [.int (nI (16 + a1)), .ref (a0 + 1), .int (nI (16 + a1)), .ref (a0 + 1)]) (h' := Hp S) 1 (fun Z => rfl) ?_
  obtain ⟨hi, hw⟩ := hw
  refine wp_st (pc' := 10) (L' := [some (.ref a0), some (.int (nI a1))]) (st' := [.int (S (a0 + 1) (16 + a1)), .int (nI (16 + a1)), .ref (a0 + 1)]) (h' := Hp S) 1 (fun Z => ldN (E := E) (ha0).2 (by decide) hi [.int (nI (16 + a1)), .ref (a0 + 1)] (fun st => Z d m_Scene_shout 10 [some (.ref a0), some (.int (nI a1))] st (Hp S))) ?_
  refine wp_st (pc' := 12) (L' := [some (.ref a0), some (.int (nI a1))]) (st' := [.int ((S (a0 + 1) (16 + a1)) + (1 : Int32)), .int (nI (16 + a1)), .ref (a0 + 1)]) (h' := Hp S) 2 (fun Z => rfl) ?_
  obtain ⟨hi, hw⟩ := hw
  have hw := hw _ rfl
  refine wp_st (pc' := 13) (L' := [some (.ref a0), some (.int (nI a1))]) (st' := []) (h' := Hp (up S (a0 + 1) (16 + a1) ((S (a0 + 1) (16 + a1)) + (1 : Int32)))) 1 (fun Z => stN (ha0).2 (by decide) hi _ _) ?_
  generalize up S (a0 + 1) (16 + a1) ((S (a0 + 1) (16 + a1)) + (1 : Int32)) = S1 at hw ⊢
  refine wp_st (pc' := 14) (L' := [some (.ref a0), some (.int (nI a1))]) (st' := [.ref a0]) (h' := Hp S1) 1 (fun Z => rfl) ?_
  refine wp_st (pc' := 17) (L' := [some (.ref a0), some (.int (nI a1))]) (st' := [.ref (a0 + 1)]) (h' := Hp S1) 1 (fun Z => gfR (E := E) (ha0).1 rfl _) ?_
  refine wp_st (pc' := 20) (L' := [some (.ref a0), some (.int (nI a1))]) (st' := [.int (nI a1), .int 9, .ref (a0 + 1)]) (h' := Hp S1) 2 (fun Z => rfl) ?_
  refine wp_st (pc' := 21) (L' := [some (.ref a0), some (.int (nI a1))]) (st' := [.int (nI (9 + a1)), .ref (a0 + 1)]) (h' := Hp S1) 1 (fun Z => by rw [← nI_add 9 a1]; rfl) ?_
  refine wp_st (pc' := 22) (L' := [some (.ref a0), some (.int (nI a1))]) (st' := [.int (nI (9 + a1)), .ref (a0 + 1), .int (nI (9 + a1)), .ref (a0 + 1)]) (h' := Hp S1) 1 (fun Z => rfl) ?_
  obtain ⟨hi, hw⟩ := hw
  refine wp_st (pc' := 23) (L' := [some (.ref a0), some (.int (nI a1))]) (st' := [.int (S1 (a0 + 1) (9 + a1)), .int (nI (9 + a1)), .ref (a0 + 1)]) (h' := Hp S1) 1 (fun Z => ldN (E := E) (ha0).2 (by decide) hi [.int (nI (9 + a1)), .ref (a0 + 1)] (fun st => Z d m_Scene_shout 23 [some (.ref a0), some (.int (nI a1))] st (Hp S1))) ?_
  refine wp_st (pc' := 24) (L' := [some (.ref a0), some (.int (nI a1))]) (st' := [.int 2, .int (S1 (a0 + 1) (9 + a1)), .int (nI (9 + a1)), .ref (a0 + 1)]) (h' := Hp S1) 1 (fun Z => rfl) ?_
  refine wp_st (pc' := 25) (L' := [some (.ref a0), some (.int (nI a1))]) (st' := [.int ((S1 (a0 + 1) (9 + a1)) / 2), .int (nI (9 + a1)), .ref (a0 + 1)]) (h' := Hp S1) 1 (fun Z => rfl) ?_
  obtain ⟨hi, hw⟩ := hw
  have hw := hw _ rfl
  refine wp_st (pc' := 26) (L' := [some (.ref a0), some (.int (nI a1))]) (st' := []) (h' := Hp (up S1 (a0 + 1) (9 + a1) ((S1 (a0 + 1) (9 + a1)) / 2))) 1 (fun Z => stN (ha0).2 (by decide) hi _ _) ?_
  generalize up S1 (a0 + 1) (9 + a1) ((S1 (a0 + 1) (9 + a1)) / 2) = S2 at hw ⊢
  exact wp_ret (fun Z => rfl) ⟨_, rfl, rfl, hw⟩
set_option maxRecDepth 4000 in
theorem w_Scene_growOld {E : zX} {d : Nat} {S : St} {a0 : Nat} {a1 : Nat} {Q : St → Prop} (ha0 : Sc a0)
    (hw : (40 + a1) < 70 ∧
    (40 + a1) < 70 ∧
    ∀ S1, S1 = up S (a0 + 1) (40 + a1) ((S (a0 + 1) (40 + a1)) + (1 : Int32)) →
    Q S1) :
    k_Scene_growOld E d S a0 (nI a1) Q := by
  show wp E d m_Scene_growOld 0 [some (.ref a0), some (.int (nI a1))] [] (Hp S) (QV Q)
  refine wp_st (pc' := 1) (L' := [some (.ref a0), some (.int (nI a1))]) (st' := [.ref a0]) (h' := Hp S) 1 (fun Z => rfl) ?_
  refine wp_st (pc' := 4) (L' := [some (.ref a0), some (.int (nI a1))]) (st' := [.ref (a0 + 1)]) (h' := Hp S) 1 (fun Z => gfR (E := E) (ha0).1 rfl _) ?_
  refine wp_st (pc' := 7) (L' := [some (.ref a0), some (.int (nI a1))]) (st' := [.int (nI a1), .int 40, .ref (a0 + 1)]) (h' := Hp S) 2 (fun Z => rfl) ?_
  refine wp_st (pc' := 8) (L' := [some (.ref a0), some (.int (nI a1))]) (st' := [.int (nI (40 + a1)), .ref (a0 + 1)]) (h' := Hp S) 1 (fun Z => by rw [← nI_add 40 a1]; rfl) ?_
  refine wp_st (pc' := 9) (L' := [some (.ref a0), some (.int (nI a1))]) (st' := [.int (nI (40 + a1)), .ref (a0 + 1), .int (nI (40 + a1)), .ref (a0 + 1)]) (h' := Hp S) 1 (fun Z => rfl) ?_
  obtain ⟨hi, hw⟩ := hw
  refine wp_st (pc' := 10) (L' := [some (.ref a0), some (.int (nI a1))]) (st' := [.int (S (a0 + 1) (40 + a1)), .int (nI (40 + a1)), .ref (a0 + 1)]) (h' := Hp S) 1 (fun Z => ldN (E := E) (ha0).2 (by decide) hi [.int (nI (40 + a1)), .ref (a0 + 1)] (fun st => Z d m_Scene_growOld 10 [some (.ref a0), some (.int (nI a1))] st (Hp S))) ?_
  refine wp_st (pc' := 12) (L' := [some (.ref a0), some (.int (nI a1))]) (st' := [.int ((S (a0 + 1) (40 + a1)) + (1 : Int32)), .int (nI (40 + a1)), .ref (a0 + 1)]) (h' := Hp S) 2 (fun Z => rfl) ?_
  obtain ⟨hi, hw⟩ := hw
  have hw := hw _ rfl
  refine wp_st (pc' := 13) (L' := [some (.ref a0), some (.int (nI a1))]) (st' := []) (h' := Hp (up S (a0 + 1) (40 + a1) ((S (a0 + 1) (40 + a1)) + (1 : Int32)))) 1 (fun Z => stN (ha0).2 (by decide) hi _ _) ?_
  generalize up S (a0 + 1) (40 + a1) ((S (a0 + 1) (40 + a1)) + (1 : Int32)) = S1 at hw ⊢
  exact wp_ret (fun Z => rfl) ⟨_, rfl, rfl, hw⟩
set_option maxRecDepth 4000 in
theorem w_Scene_heldIn {E : zX} {d : Nat} {S : St} {a0 : Nat} {a1 : Nat} {Q : Int32 → St → Prop} (ha0 : Sc a0)
    (hw : (30 + a1) < 70 ∧
    Q (S (a0 + 1) (30 + a1)) S) :
    k_Scene_heldIn E d S a0 (nI a1) Q := by
  show wp E d m_Scene_heldIn 0 [some (.ref a0), some (.int (nI a1))] [] (Hp S) (QI Q)
  refine wp_st (pc' := 1) (L' := [some (.ref a0), some (.int (nI a1))]) (st' := [.ref a0]) (h' := Hp S) 1 (fun Z => rfl) ?_
  refine wp_st (pc' := 4) (L' := [some (.ref a0), some (.int (nI a1))]) (st' := [.ref (a0 + 1)]) (h' := Hp S) 1 (fun Z => gfR (E := E) (ha0).1 rfl _) ?_
  refine wp_st (pc' := 7) (L' := [some (.ref a0), some (.int (nI a1))]) (st' := [.int (nI a1), .int 30, .ref (a0 + 1)]) (h' := Hp S) 2 (fun Z => rfl) ?_
  refine wp_st (pc' := 8) (L' := [some (.ref a0), some (.int (nI a1))]) (st' := [.int (nI (30 + a1)), .ref (a0 + 1)]) (h' := Hp S) 1 (fun Z => by rw [← nI_add 30 a1]; rfl) ?_
  obtain ⟨hi, hw⟩ := hw
  refine wp_st (pc' := 9) (L' := [some (.ref a0), some (.int (nI a1))]) (st' := [.int (S (a0 + 1) (30 + a1))]) (h' := Hp S) 1 (fun Z => ldN (E := E) (ha0).2 (by decide) hi [] (fun st => Z d m_Scene_heldIn 9 [some (.ref a0), some (.int (nI a1))] st (Hp S))) ?_
  exact wp_ret (fun Z => rfl) ⟨_, _, rfl, rfl, hw⟩
set_option maxRecDepth 4000 in
theorem w_Scene_ageOf {E : zX} {d : Nat} {S : St} {a0 : Nat} {a1 : Nat} {Q : Int32 → St → Prop} (ha0 : Sc a0)
    (hw : (40 + a1) < 70 ∧
    Q (S (a0 + 1) (40 + a1)) S) :
    k_Scene_ageOf E d S a0 (nI a1) Q := by
  show wp E d m_Scene_ageOf 0 [some (.ref a0), some (.int (nI a1))] [] (Hp S) (QI Q)
  refine wp_st (pc' := 1) (L' := [some (.ref a0), some (.int (nI a1))]) (st' := [.ref a0]) (h' := Hp S) 1 (fun Z => rfl) ?_
  refine wp_st (pc' := 4) (L' := [some (.ref a0), some (.int (nI a1))]) (st' := [.ref (a0 + 1)]) (h' := Hp S) 1 (fun Z => gfR (E := E) (ha0).1 rfl _) ?_
  refine wp_st (pc' := 7) (L' := [some (.ref a0), some (.int (nI a1))]) (st' := [.int (nI a1), .int 40, .ref (a0 + 1)]) (h' := Hp S) 2 (fun Z => rfl) ?_
  refine wp_st (pc' := 8) (L' := [some (.ref a0), some (.int (nI a1))]) (st' := [.int (nI (40 + a1)), .ref (a0 + 1)]) (h' := Hp S) 1 (fun Z => by rw [← nI_add 40 a1]; rfl) ?_
  obtain ⟨hi, hw⟩ := hw
  refine wp_st (pc' := 9) (L' := [some (.ref a0), some (.int (nI a1))]) (st' := [.int (S (a0 + 1) (40 + a1))]) (h' := Hp S) 1 (fun Z => ldN (E := E) (ha0).2 (by decide) hi [] (fun st => Z d m_Scene_ageOf 9 [some (.ref a0), some (.int (nI a1))] st (Hp S))) ?_
  exact wp_ret (fun Z => rfl) ⟨_, _, rfl, rfl, hw⟩
set_option maxRecDepth 4000 in
theorem w_Scene_guards {E : zX} {d : Nat} {S : St} {a0 : Nat} {Q : Int32 → St → Prop} (ha0 : Sc a0)
    (hw : Q (S (a0 + 1) 1) S) :
    k_Scene_guards E d S a0 Q := by
  show wp E d m_Scene_guards 0 [some (.ref a0)] [] (Hp S) (QI Q)
  refine wp_st (pc' := 1) (L' := [some (.ref a0)]) (st' := [.ref a0]) (h' := Hp S) 1 (fun Z => rfl) ?_
  refine wp_st (pc' := 4) (L' := [some (.ref a0)]) (st' := [.ref (a0 + 1)]) (h' := Hp S) 1 (fun Z => gfR (E := E) (ha0).1 rfl _) ?_
  refine wp_st (pc' := 5) (L' := [some (.ref a0)]) (st' := [.int 1, .ref (a0 + 1)]) (h' := Hp S) 1 (fun Z => rfl) ?_
  refine wp_st (pc' := 6) (L' := [some (.ref a0)]) (st' := [.int (S (a0 + 1) 1)]) (h' := Hp S) 1 (fun Z => ldN (E := E) (ha0).2 (by decide) (by decide) [] (fun st => Z d m_Scene_guards 6 [some (.ref a0)] st (Hp S))) ?_
  exact wp_ret (fun Z => rfl) ⟨_, _, rfl, rfl, hw⟩
set_option maxRecDepth 4000 in
theorem w_Scene_hear {E : zX} {d : Nat} {S : St} {a0 : Nat} {a1 : Nat} {a2 : Int32} {Q : St → Prop} (hd : 1 ≤ d) (ha0 : Sc a0)
    (hw : (23 + a1) < 70 ∧
    (23 + a1) < 70 ∧
    ∀ S1, S1 = up S (a0 + 1) (23 + a1) (zmin ((S (a0 + 1) (23 + a1)) + a2) 9999) →
    k_Scene_temperOf E (d - 1) S1 a0 (nI a1) (fun x2 S3 =>
    k_Scene_setTemper E (d - 1) S3 a0 (nI a1) (x2 + ((5 : Int32) * a2)) (fun S5 =>
    Q S5))) :
    k_Scene_hear E d S a0 (nI a1) a2 Q := by
  obtain ⟨d, rfl⟩ := Nat.exists_eq_add_of_le' hd
  show wp E (d + 1) m_Scene_hear 0 [some (.ref a0), some (.int (nI a1)), some (.int a2)] [] (Hp S) (QV Q)
  refine wp_st (pc' := 1) (L' := [some (.ref a0), some (.int (nI a1)), some (.int a2)]) (st' := [.ref a0]) (h' := Hp S) 1 (fun Z => rfl) ?_
  refine wp_st (pc' := 4) (L' := [some (.ref a0), some (.int (nI a1)), some (.int a2)]) (st' := [.ref (a0 + 1)]) (h' := Hp S) 1 (fun Z => gfR (E := E) (ha0).1 rfl _) ?_
  refine wp_st (pc' := 7) (L' := [some (.ref a0), some (.int (nI a1)), some (.int a2)]) (st' := [.int (nI a1), .int 23, .ref (a0 + 1)]) (h' := Hp S) 2 (fun Z => rfl) ?_
  refine wp_st (pc' := 8) (L' := [some (.ref a0), some (.int (nI a1)), some (.int a2)]) (st' := [.int (nI (23 + a1)), .ref (a0 + 1)]) (h' := Hp S) 1 (fun Z => by rw [← nI_add 23 a1]; rfl) ?_
  refine wp_st (pc' := 9) (L' := [some (.ref a0), some (.int (nI a1)), some (.int a2)]) (st' := [.ref a0, .int (nI (23 + a1)), .ref (a0 + 1)]) (h' := Hp S) 1 (fun Z => rfl) ?_
  refine wp_st (pc' := 12) (L' := [some (.ref a0), some (.int (nI a1)), some (.int a2)]) (st' := [.ref (a0 + 1), .int (nI (23 + a1)), .ref (a0 + 1)]) (h' := Hp S) 1 (fun Z => gfR (E := E) (ha0).1 rfl _) ?_
  refine wp_st (pc' := 15) (L' := [some (.ref a0), some (.int (nI a1)), some (.int a2)]) (st' := [.int (nI a1), .int 23, .ref (a0 + 1), .int (nI (23 + a1)), .ref (a0 + 1)]) (h' := Hp S) 2 (fun Z => rfl) ?_
  refine wp_st (pc' := 16) (L' := [some (.ref a0), some (.int (nI a1)), some (.int a2)]) (st' := [.int (nI (23 + a1)), .ref (a0 + 1), .int (nI (23 + a1)), .ref (a0 + 1)]) (h' := Hp S) 1 (fun Z => by rw [← nI_add 23 a1]; rfl) ?_
  obtain ⟨hi, hw⟩ := hw
  refine wp_st (pc' := 17) (L' := [some (.ref a0), some (.int (nI a1)), some (.int a2)]) (st' := [.int (S (a0 + 1) (23 + a1)), .int (nI (23 + a1)), .ref (a0 + 1)]) (h' := Hp S) 1 (fun Z => ldN (E := E) (ha0).2 (by decide) hi [.int (nI (23 + a1)), .ref (a0 + 1)] (fun st => Z (d + 1) m_Scene_hear 17 [some (.ref a0), some (.int (nI a1)), some (.int a2)] st (Hp S))) ?_
  refine wp_st (pc' := 25) (L' := [some (.ref a0), some (.int (nI a1)), some (.int a2)]) (st' := [.int (zmin ((S (a0 + 1) (23 + a1)) + a2) 9999), .int (nI (23 + a1)), .ref (a0 + 1)]) (h' := Hp S) 4 (fun Z => rfl) ?_
  obtain ⟨hi, hw⟩ := hw
  have hw := hw _ rfl
  refine wp_st (pc' := 26) (L' := [some (.ref a0), some (.int (nI a1)), some (.int a2)]) (st' := []) (h' := Hp (up S (a0 + 1) (23 + a1) (zmin ((S (a0 + 1) (23 + a1)) + a2) 9999))) 1 (fun Z => stN (ha0).2 (by decide) hi _ _) ?_
  generalize up S (a0 + 1) (23 + a1) (zmin ((S (a0 + 1) (23 + a1)) + a2) 9999) = S1 at hw ⊢
  refine wp_st (pc' := 30) (L' := [some (.ref a0), some (.int (nI a1)), some (.int a2)]) (st' := [.int (nI a1), .ref a0, .int (nI a1), .ref a0]) (h' := Hp S1) 4 (fun Z => rfl) ?_
  refine wp_call (pc' := 33) (rest := [.int (nI a1), .ref a0]) (fun Z => rfl) (isO_of (ha0).1) hw ?_
  rintro o h1 ⟨x2, S3, rfl, rfl, hw⟩
  refine ⟨_, rfl, ?_⟩
  show wp E (d + 1) m_Scene_hear 33 [some (.ref a0), some (.int (nI a1)), some (.int a2)] [.int x2, .int (nI a1), .ref a0] (Hp S3) (QV Q)
  refine wp_st (pc' := 37) (L' := [some (.ref a0), some (.int (nI a1)), some (.int a2)]) (st' := [.int (x2 + ((5 : Int32) * a2)), .int (nI a1), .ref a0]) (h' := Hp S3) 4 (fun Z => rfl) ?_
  refine wp_call (pc' := 40) (rest := []) (fun Z => rfl) (isO_of (ha0).1) hw ?_
  rintro o h1 ⟨S5, rfl, rfl, hw⟩
  refine ⟨_, rfl, ?_⟩
  show wp E (d + 1) m_Scene_hear 40 [some (.ref a0), some (.int (nI a1)), some (.int a2)] [] (Hp S5) (QV Q)
  exact wp_ret (fun Z => rfl) ⟨_, rfl, rfl, hw⟩
set_option maxRecDepth 4000 in
theorem w_Scene_nextDay {E : zX} {d : Nat} {S : St} {a0 : Nat} {Q : St → Prop} (ha0 : Sc a0)
    (hw : ∀ S1, S1 = up S (a0 + 1) 0 ((S (a0 + 1) 0) + (1 : Int32)) →
    Q S1) :
    k_Scene_nextDay E d S a0 Q := by
  show wp E d m_Scene_nextDay 0 [some (.ref a0)] [] (Hp S) (QV Q)
  refine wp_st (pc' := 1) (L' := [some (.ref a0)]) (st' := [.ref a0]) (h' := Hp S) 1 (fun Z => rfl) ?_
  refine wp_st (pc' := 4) (L' := [some (.ref a0)]) (st' := [.ref (a0 + 1)]) (h' := Hp S) 1 (fun Z => gfR (E := E) (ha0).1 rfl _) ?_
  refine wp_st (pc' := 6) (L' := [some (.ref a0)]) (st' := [.int 0, .ref (a0 + 1), .int 0, .ref (a0 + 1)]) (h' := Hp S) 2 (fun Z => rfl) ?_
  refine wp_st (pc' := 7) (L' := [some (.ref a0)]) (st' := [.int (S (a0 + 1) 0), .int 0, .ref (a0 + 1)]) (h' := Hp S) 1 (fun Z => ldN (E := E) (ha0).2 (by decide) (by decide) [.int 0, .ref (a0 + 1)] (fun st => Z d m_Scene_nextDay 7 [some (.ref a0)] st (Hp S))) ?_
  refine wp_st (pc' := 9) (L' := [some (.ref a0)]) (st' := [.int ((S (a0 + 1) 0) + (1 : Int32)), .int 0, .ref (a0 + 1)]) (h' := Hp S) 2 (fun Z => rfl) ?_
  have hw := hw _ rfl
  refine wp_st (pc' := 10) (L' := [some (.ref a0)]) (st' := []) (h' := Hp (up S (a0 + 1) 0 ((S (a0 + 1) 0) + (1 : Int32)))) 1 (fun Z => stN (ha0).2 (by decide) (by decide) _ _) ?_
  generalize up S (a0 + 1) 0 ((S (a0 + 1) 0) + (1 : Int32)) = S1 at hw ⊢
  exact wp_ret (fun Z => rfl) ⟨_, rfl, rfl, hw⟩
set_option maxRecDepth 4000 in
theorem w_Scene_copyFrom {E : zX} {d : Nat} {S : St} {a0 : Nat} {a1 : Nat} {Q : St → Prop} (hd : 1 ≤ d) (ha0 : Sc a0) (ha1 : Sc a1)
    (hw : ∀ S1, S1 = setR S (a0 + 1) (va_cpy (S (a1 + 1)) (S (a0 + 1)) 0 0 70) →
    Q S1) :
    k_Scene_copyFrom E d S a0 a1 Q := by
  obtain ⟨d, rfl⟩ := Nat.exists_eq_add_of_le' hd
  show wp E (d + 1) m_Scene_copyFrom 0 [some (.ref a0), some (.ref a1)] [] (Hp S) (QV Q)
  refine wp_st (pc' := 1) (L' := [some (.ref a0), some (.ref a1)]) (st' := [.ref a1]) (h' := Hp S) 1 (fun Z => rfl) ?_
  refine wp_st (pc' := 4) (L' := [some (.ref a0), some (.ref a1)]) (st' := [.ref (a1 + 1)]) (h' := Hp S) 1 (fun Z => gfR (E := E) (ha1).1 rfl _) ?_
  refine wp_st (pc' := 6) (L' := [some (.ref a0), some (.ref a1)]) (st' := [.ref a0, .int 0, .ref (a1 + 1)]) (h' := Hp S) 2 (fun Z => rfl) ?_
  refine wp_st (pc' := 9) (L' := [some (.ref a0), some (.ref a1)]) (st' := [.ref (a0 + 1), .int 0, .ref (a1 + 1)]) (h' := Hp S) 1 (fun Z => gfR (E := E) (ha0).1 rfl _) ?_
  refine wp_st (pc' := 12) (L' := [some (.ref a0), some (.ref a1)]) (st' := [.int 70, .int 0, .ref (a0 + 1), .int 0, .ref (a1 + 1)]) (h' := Hp S) 2 (fun Z => rfl) ?_
  have hw := hw _ rfl
  refine wp_st (pc' := 15) (L' := [some (.ref a0), some (.ref a1)]) (st' := []) (h' := Hp (setR S (a0 + 1) (va_cpy (S (a1 + 1)) (S (a0 + 1)) 0 0 70))) 1 (fun Z => cpN (m := 70) (dp := 0) (sp := 0) (ha1).2 (ha0).2 (by decide) (by decide) (by decide) (by decide) _ _) ?_
  generalize setR S (a0 + 1) (va_cpy (S (a1 + 1)) (S (a0 + 1)) 0 0 70) = S1 at hw ⊢
  exact wp_ret (fun Z => rfl) ⟨_, rfl, rfl, hw⟩
set_option maxRecDepth 4000 in
theorem w_Scene_setMild {E : zX} {d : Nat} {S : St} {a0 : Nat} {a1 : Nat} {a2 : Int32} {Q : St → Prop} (ha0 : Sc a0)
    (hw : (2 + a1) < 70 ∧
    ∀ S1, S1 = up S (a0 + 1) (2 + a1) a2 →
    Q S1) :
    k_Scene_setMild E d S a0 (nI a1) a2 Q := by
  show wp E d m_Scene_setMild 0 [some (.ref a0), some (.int (nI a1)), some (.int a2)] [] (Hp S) (QV Q)
  refine wp_st (pc' := 1) (L' := [some (.ref a0), some (.int (nI a1)), some (.int a2)]) (st' := [.ref a0]) (h' := Hp S) 1 (fun Z => rfl) ?_
  refine wp_st (pc' := 4) (L' := [some (.ref a0), some (.int (nI a1)), some (.int a2)]) (st' := [.ref (a0 + 1)]) (h' := Hp S) 1 (fun Z => gfR (E := E) (ha0).1 rfl _) ?_
  refine wp_st (pc' := 6) (L' := [some (.ref a0), some (.int (nI a1)), some (.int a2)]) (st' := [.int (nI a1), .int 2, .ref (a0 + 1)]) (h' := Hp S) 2 (fun Z => rfl) ?_
  refine wp_st (pc' := 7) (L' := [some (.ref a0), some (.int (nI a1)), some (.int a2)]) (st' := [.int (nI (2 + a1)), .ref (a0 + 1)]) (h' := Hp S) 1 (fun Z => by rw [← nI_add 2 a1]; rfl) ?_
  refine wp_st (pc' := 8) (L' := [some (.ref a0), some (.int (nI a1)), some (.int a2)]) (st' := [.int a2, .int (nI (2 + a1)), .ref (a0 + 1)]) (h' := Hp S) 1 (fun Z => rfl) ?_
  obtain ⟨hi, hw⟩ := hw
  have hw := hw _ rfl
  refine wp_st (pc' := 9) (L' := [some (.ref a0), some (.int (nI a1)), some (.int a2)]) (st' := []) (h' := Hp (up S (a0 + 1) (2 + a1) a2)) 1 (fun Z => stN (ha0).2 (by decide) hi _ _) ?_
  generalize up S (a0 + 1) (2 + a1) a2 = S1 at hw ⊢
  exact wp_ret (fun Z => rfl) ⟨_, rfl, rfl, hw⟩
set_option maxRecDepth 4000 in
theorem w_Scene_setCell {E : zX} {d : Nat} {S : St} {a0 : Nat} {a1 : Nat} {a2 : Int32} {Q : St → Prop} (ha0 : Sc a0)
    (hw : (60 + a1) < 70 ∧
    ∀ S1, S1 = up S (a0 + 1) (60 + a1) a2 →
    Q S1) :
    k_Scene_setCell E d S a0 (nI a1) a2 Q := by
  show wp E d m_Scene_setCell 0 [some (.ref a0), some (.int (nI a1)), some (.int a2)] [] (Hp S) (QV Q)
  refine wp_st (pc' := 1) (L' := [some (.ref a0), some (.int (nI a1)), some (.int a2)]) (st' := [.ref a0]) (h' := Hp S) 1 (fun Z => rfl) ?_
  refine wp_st (pc' := 4) (L' := [some (.ref a0), some (.int (nI a1)), some (.int a2)]) (st' := [.ref (a0 + 1)]) (h' := Hp S) 1 (fun Z => gfR (E := E) (ha0).1 rfl _) ?_
  refine wp_st (pc' := 7) (L' := [some (.ref a0), some (.int (nI a1)), some (.int a2)]) (st' := [.int (nI a1), .int 60, .ref (a0 + 1)]) (h' := Hp S) 2 (fun Z => rfl) ?_
  refine wp_st (pc' := 8) (L' := [some (.ref a0), some (.int (nI a1)), some (.int a2)]) (st' := [.int (nI (60 + a1)), .ref (a0 + 1)]) (h' := Hp S) 1 (fun Z => by rw [← nI_add 60 a1]; rfl) ?_
  refine wp_st (pc' := 9) (L' := [some (.ref a0), some (.int (nI a1)), some (.int a2)]) (st' := [.int a2, .int (nI (60 + a1)), .ref (a0 + 1)]) (h' := Hp S) 1 (fun Z => rfl) ?_
  obtain ⟨hi, hw⟩ := hw
  have hw := hw _ rfl
  refine wp_st (pc' := 10) (L' := [some (.ref a0), some (.int (nI a1)), some (.int a2)]) (st' := []) (h' := Hp (up S (a0 + 1) (60 + a1) a2)) 1 (fun Z => stN (ha0).2 (by decide) hi _ _) ?_
  generalize up S (a0 + 1) (60 + a1) a2 = S1 at hw ⊢
  exact wp_ret (fun Z => rfl) ⟨_, rfl, rfl, hw⟩
set_option maxRecDepth 4000 in
theorem w_Scene_isLoose {E : zX} {d : Nat} {S : St} {a0 : Nat} {a1 : Nat} {Q : Int32 → St → Prop} (hd : 1 ≤ d) (ha0 : Sc a0)
    (hw : k_Scene_isWhite E (d - 1) S a0 (nI a1) (fun x1 S2 =>
    if x1 = 0 then (
      k_Scene_isGuarded E (d - 1) S2 a0 (nI a1) (fun x3 S4 =>
      if x3 = 0 then (
        Q (1 : Int32) S4)
      else (
        Q (0 : Int32) S4)))
    else (
      Q (0 : Int32) S2))) :
    k_Scene_isLoose E d S a0 (nI a1) Q := by
  obtain ⟨d, rfl⟩ := Nat.exists_eq_add_of_le' hd
  show wp E (d + 1) m_Scene_isLoose 0 [some (.ref a0), some (.int (nI a1))] [] (Hp S) (QI Q)
  refine wp_st (pc' := 2) (L' := [some (.ref a0), some (.int (nI a1))]) (st' := [.int (nI a1), .ref a0]) (h' := Hp S) 2 (fun Z => rfl) ?_
  refine wp_call (pc' := 5) (rest := []) (fun Z => rfl) (isO_of (ha0).1) hw ?_
  rintro o h1 ⟨x1, S2, rfl, rfl, hw⟩
  refine ⟨_, rfl, ?_⟩
  show wp E (d + 1) m_Scene_isLoose 5 [some (.ref a0), some (.int (nI a1))] [.int x1] (Hp S2) (QI Q)
  by_cases hc : x1 = 0
  · rw [if_pos hc] at hw
    refine wp_st (pc' := 8) (L' := [some (.ref a0), some (.int (nI a1))]) (st' := []) (h' := Hp S2) 1 (fun Z => if_pos hc) ?_
    refine wp_st (pc' := 10) (L' := [some (.ref a0), some (.int (nI a1))]) (st' := [.int (nI a1), .ref a0]) (h' := Hp S2) 2 (fun Z => rfl) ?_
    refine wp_call (pc' := 13) (rest := []) (fun Z => rfl) (isO_of (ha0).1) hw ?_
    rintro o h1 ⟨x3, S4, rfl, rfl, hw⟩
    refine ⟨_, rfl, ?_⟩
    show wp E (d + 1) m_Scene_isLoose 13 [some (.ref a0), some (.int (nI a1))] [.int x3] (Hp S4) (QI Q)
    by_cases hc : x3 = 0
    · rw [if_pos hc] at hw
      refine wp_st (pc' := 16) (L' := [some (.ref a0), some (.int (nI a1))]) (st' := []) (h' := Hp S4) 1 (fun Z => if_pos hc) ?_
      refine wp_st (pc' := 21) (L' := [some (.ref a0), some (.int (nI a1))]) (st' := [.int 1]) (h' := Hp S4) 2 (fun Z => rfl) ?_
      exact wp_ret (fun Z => rfl) ⟨_, _, rfl, rfl, hw⟩
    · rw [if_neg hc] at hw
      refine wp_st (pc' := 20) (L' := [some (.ref a0), some (.int (nI a1))]) (st' := []) (h' := Hp S4) 1 (fun Z => if_neg hc) ?_
      refine wp_st (pc' := 21) (L' := [some (.ref a0), some (.int (nI a1))]) (st' := [.int 0]) (h' := Hp S4) 1 (fun Z => rfl) ?_
      exact wp_ret (fun Z => rfl) ⟨_, _, rfl, rfl, hw⟩
  · rw [if_neg hc] at hw
    refine wp_st (pc' := 20) (L' := [some (.ref a0), some (.int (nI a1))]) (st' := []) (h' := Hp S2) 1 (fun Z => if_neg hc) ?_
    refine wp_st (pc' := 21) (L' := [some (.ref a0), some (.int (nI a1))]) (st' := [.int 0]) (h' := Hp S2) 1 (fun Z => rfl) ?_
    exact wp_ret (fun Z => rfl) ⟨_, _, rfl, rfl, hw⟩
set_option maxRecDepth 4000 in
theorem w_Scene_isGuarded {E : zX} {d : Nat} {S : St} {a0 : Nat} {a1 : Nat} {Q : Int32 → St → Prop} (ha0 : Sc a0)
    (hw : if ((S (a0 + 1) 1) &&& (bt a1)) = 0 then (
      Q (0 : Int32) S)
    else (
      Q (1 : Int32) S)) :
    k_Scene_isGuarded E d S a0 (nI a1) Q := by
  show wp E d m_Scene_isGuarded 0 [some (.ref a0), some (.int (nI a1))] [] (Hp S) (QI Q)
  refine wp_st (pc' := 1) (L' := [some (.ref a0), some (.int (nI a1))]) (st' := [.ref a0]) (h' := Hp S) 1 (fun Z => rfl) ?_
  refine wp_st (pc' := 4) (L' := [some (.ref a0), some (.int (nI a1))]) (st' := [.ref (a0 + 1)]) (h' := Hp S) 1 (fun Z => gfR (E := E) (ha0).1 rfl _) ?_
  refine wp_st (pc' := 5) (L' := [some (.ref a0), some (.int (nI a1))]) (st' := [.int 1, .ref (a0 + 1)]) (h' := Hp S) 1 (fun Z => rfl) ?_
  refine wp_st (pc' := 6) (L' := [some (.ref a0), some (.int (nI a1))]) (st' := [.int (S (a0 + 1) 1)]) (h' := Hp S) 1 (fun Z => ldN (E := E) (ha0).2 (by decide) (by decide) [] (fun st => Z d m_Scene_isGuarded 6 [some (.ref a0), some (.int (nI a1))] st (Hp S))) ?_
  refine wp_st (pc' := 10) (L' := [some (.ref a0), some (.int (nI a1))]) (st' := [.int ((S (a0 + 1) 1) &&& (bt a1))]) (h' := Hp S) 4 (fun Z => rfl) ?_
  by_cases hc : ((S (a0 + 1) 1) &&& (bt a1)) = 0
  · rw [if_pos hc] at hw
    refine wp_st (pc' := 17) (L' := [some (.ref a0), some (.int (nI a1))]) (st' := []) (h' := Hp S) 1 (fun Z => if_pos hc) ?_
    refine wp_st (pc' := 18) (L' := [some (.ref a0), some (.int (nI a1))]) (st' := [.int 0]) (h' := Hp S) 1 (fun Z => rfl) ?_
    exact wp_ret (fun Z => rfl) ⟨_, _, rfl, rfl, hw⟩
  · rw [if_neg hc] at hw
    refine wp_st (pc' := 13) (L' := [some (.ref a0), some (.int (nI a1))]) (st' := []) (h' := Hp S) 1 (fun Z => if_neg hc) ?_
    refine wp_st (pc' := 18) (L' := [some (.ref a0), some (.int (nI a1))]) (st' := [.int 1]) (h' := Hp S) 2 (fun Z => rfl) ?_
    exact wp_ret (fun Z => rfl) ⟨_, _, rfl, rfl, hw⟩
set_option maxRecDepth 4000 in
theorem w_Scene_ownerOf {E : zX} {d : Nat} {S : St} {a0 : Nat} {a1 : Nat} {Q : Int32 → St → Prop} (ha0 : Sc a0)
    (hw : (50 + a1) < 70 ∧
    Q (S (a0 + 1) (50 + a1)) S) :
    k_Scene_ownerOf E d S a0 (nI a1) Q := by
  show wp E d m_Scene_ownerOf 0 [some (.ref a0), some (.int (nI a1))] [] (Hp S) (QI Q)
  refine wp_st (pc' := 1) (L' := [some (.ref a0), some (.int (nI a1))]) (st' := [.ref a0]) (h' := Hp S) 1 (fun Z => rfl) ?_
  refine wp_st (pc' := 4) (L' := [some (.ref a0), some (.int (nI a1))]) (st' := [.ref (a0 + 1)]) (h' := Hp S) 1 (fun Z => gfR (E := E) (ha0).1 rfl _) ?_
  refine wp_st (pc' := 7) (L' := [some (.ref a0), some (.int (nI a1))]) (st' := [.int (nI a1), .int 50, .ref (a0 + 1)]) (h' := Hp S) 2 (fun Z => rfl) ?_
  refine wp_st (pc' := 8) (L' := [some (.ref a0), some (.int (nI a1))]) (st' := [.int (nI (50 + a1)), .ref (a0 + 1)]) (h' := Hp S) 1 (fun Z => by rw [← nI_add 50 a1]; rfl) ?_
  obtain ⟨hi, hw⟩ := hw
  refine wp_st (pc' := 9) (L' := [some (.ref a0), some (.int (nI a1))]) (st' := [.int (S (a0 + 1) (50 + a1))]) (h' := Hp S) 1 (fun Z => ldN (E := E) (ha0).2 (by decide) hi [] (fun st => Z d m_Scene_ownerOf 9 [some (.ref a0), some (.int (nI a1))] st (Hp S))) ?_
  exact wp_ret (fun Z => rfl) ⟨_, _, rfl, rfl, hw⟩
set_option maxRecDepth 4000 in
theorem w_Scene_setGuards {E : zX} {d : Nat} {S : St} {a0 : Nat} {a1 : Int32} {Q : St → Prop} (ha0 : Sc a0)
    (hw : ∀ S1, S1 = up S (a0 + 1) 1 a1 →
    Q S1) :
    k_Scene_setGuards E d S a0 a1 Q := by
  show wp E d m_Scene_setGuards 0 [some (.ref a0), some (.int a1)] [] (Hp S) (QV Q)
  refine wp_st (pc' := 1) (L' := [some (.ref a0), some (.int a1)]) (st' := [.ref a0]) (h' := Hp S) 1 (fun Z => rfl) ?_
  refine wp_st (pc' := 4) (L' := [some (.ref a0), some (.int a1)]) (st' := [.ref (a0 + 1)]) (h' := Hp S) 1 (fun Z => gfR (E := E) (ha0).1 rfl _) ?_
  refine wp_st (pc' := 6) (L' := [some (.ref a0), some (.int a1)]) (st' := [.int a1, .int 1, .ref (a0 + 1)]) (h' := Hp S) 2 (fun Z => rfl) ?_
  have hw := hw _ rfl
  refine wp_st (pc' := 7) (L' := [some (.ref a0), some (.int a1)]) (st' := []) (h' := Hp (up S (a0 + 1) 1 a1)) 1 (fun Z => stN (ha0).2 (by decide) (by decide) _ _) ?_
  generalize up S (a0 + 1) 1 a1 = S1 at hw ⊢
  exact wp_ret (fun Z => rfl) ⟨_, rfl, rfl, hw⟩
