set_option maxRecDepth 4000 in
theorem w_x_feed {E : zX} {d : Nat} {S : St} {a1 : Int32} {a2 : Int32} {a3 : Int32} {a4 : Int32} {a5 : Int32} {Q : Int32 → St → Prop} (hd : 1 ≤ d) 
    (hw : if ((S 0 1) + (20 : Int32)) ≤ 700 then (
      k_x_append E (d - 1) S a1 (fun S2 =>
      k_x_append E (d - 1) S2 a2 (fun S4 =>
      k_x_append E (d - 1) S4 a3 (fun S6 =>
      k_x_append E (d - 1) S6 a4 (fun S8 =>
      k_x_append E (d - 1) S8 a5 (fun S10 =>
      Q (S10 0 1) S10))))))
    else (
      Q ((-1) : Int32) S)) :
    k_x_feed E d S a1 a2 a3 a4 a5 Q := by
  obtain ⟨d, rfl⟩ := Nat.exists_eq_add_of_le' hd
  show wp E (d + 1) m_x_feed 0 [some (.ref 0), some (.int a1), some (.int a2), some (.int a3), some (.int a4), some (.int a5)] [] (Hp S) (QI Q)
  refine wp_st (pc' := 1) (L' := [some (.ref 0), some (.int a1), some (.int a2), some (.int a3), some (.int a4), some (.int a5)]) (st' := [.ref 0]) (h' := Hp S) 1 (fun Z => rfl) ?_
  refine wp_st (pc' := 4) (L' := [some (.ref 0), some (.int a1), some (.int a2), some (.int a3), some (.int a4), some (.int a5)]) (st' := [.int (S 0 1)]) (h' := Hp S) 1 (fun Z => gfI (E := E) sh0 rfl _) ?_
  refine wp_st (pc' := 10) (L' := [some (.ref 0), some (.int a1), some (.int a2), some (.int a3), some (.int a4), some (.int a5)]) (st' := [.int 700, .int ((S 0 1) + (20 : Int32))]) (h' := Hp S) 3 (fun Z => rfl) ?_
  by_cases hc : ((S 0 1) + (20 : Int32)) ≤ 700
  · rw [if_pos hc] at hw
    refine wp_st (pc' := 15) (L' := [some (.ref 0), some (.int a1), some (.int a2), some (.int a3), some (.int a4), some (.int a5)]) (st' := []) (h' := Hp S) 1 (fun Z => if_pos hc) ?_
    refine wp_st (pc' := 17) (L' := [some (.ref 0), some (.int a1), some (.int a2), some (.int a3), some (.int a4), some (.int a5)]) (st' := [.int a1, .ref 0]) (h' := Hp S) 2 (fun Z => rfl) ?_
    refine wp_call (pc' := 20) (rest := []) (fun Z => rfl) (isO_of sh0) hw ?_
    rintro o h1 ⟨S2, rfl, rfl, hw⟩
    refine ⟨_, rfl, ?_⟩
    show wp E (d + 1) m_x_feed 20 [some (.ref 0), some (.int a1), some (.int a2), some (.int a3), some (.int a4), some (.int a5)] [] (Hp S2) (QI Q)
    refine wp_st (pc' := 22) (L' := [some (.ref 0), some (.int a1), some (.int a2), some (.int a3), some (.int a4), some (.int a5)]) (st' := [.int a2, .ref 0]) (h' := Hp S2) 2 (fun Z => rfl) ?_
    refine wp_call (pc' := 25) (rest := []) (fun Z => rfl) (isO_of sh0) hw ?_
    rintro o h1 ⟨S4, rfl, rfl, hw⟩
    refine ⟨_, rfl, ?_⟩
    show wp E (d + 1) m_x_feed 25 [some (.ref 0), some (.int a1), some (.int a2), some (.int a3), some (.int a4), some (.int a5)] [] (Hp S4) (QI Q)
    refine wp_st (pc' := 27) (L' := [some (.ref 0), some (.int a1), some (.int a2), some (.int a3), some (.int a4), some (.int a5)]) (st' := [.int a3, .ref 0]) (h' := Hp S4) 2 (fun Z => rfl) ?_
    refine wp_call (pc' := 30) (rest := []) (fun Z => rfl) (isO_of sh0) hw ?_
    rintro o h1 ⟨S6, rfl, rfl, hw⟩
    refine ⟨_, rfl, ?_⟩
    show wp E (d + 1) m_x_feed 30 [some (.ref 0), some (.int a1), some (.int a2), some (.int a3), some (.int a4), some (.int a5)] [] (Hp S6) (QI Q)
    refine wp_st (pc' := 33) (L' := [some (.ref 0), some (.int a1), some (.int a2), some (.int a3), some (.int a4), some (.int a5)]) (st' := [.int a4, .ref 0]) (h' := Hp S6) 2 (fun Z => rfl) ?_
    refine wp_call (pc' := 36) (rest := []) (fun Z => rfl) (isO_of sh0) hw ?_
    rintro o h1 ⟨S8, rfl, rfl, hw⟩
    refine ⟨_, rfl, ?_⟩
    show wp E (d + 1) m_x_feed 36 [some (.ref 0), some (.int a1), some (.int a2), some (.int a3), some (.int a4), some (.int a5)] [] (Hp S8) (QI Q)
    refine wp_st (pc' := 39) (L' := [some (.ref 0), some (.int a1), some (.int a2), some (.int a3), some (.int a4), some (.int a5)]) (st' := [.int a5, .ref 0]) (h' := Hp S8) 2 (fun Z => rfl) ?_
    refine wp_call (pc' := 42) (rest := []) (fun Z => rfl) (isO_of sh0) hw ?_
    rintro o h1 ⟨S10, rfl, rfl, hw⟩
    refine ⟨_, rfl, ?_⟩
    show wp E (d + 1) m_x_feed 42 [some (.ref 0), some (.int a1), some (.int a2), some (.int a3), some (.int a4), some (.int a5)] [] (Hp S10) (QI Q)
    refine wp_st (pc' := 43) (L' := [some (.ref 0), some (.int a1), some (.int a2), some (.int a3), some (.int a4), some (.int a5)]) (st' := [.ref 0]) (h' := Hp S10) 1 (fun Z => rfl) ?_
    refine wp_st (pc' := 46) (L' := [some (.ref 0), some (.int a1), some (.int a2), some (.int a3), some (.int a4), some (.int a5)]) (st' := [.int (S10 0 1)]) (h' := Hp S10) 1 (fun Z => gfI (E := E) sh0 rfl _) ?_
    exact wp_ret (fun Z => rfl) ⟨_, _, rfl, rfl, hw⟩
  · rw [if_neg hc] at hw
    refine wp_st (pc' := 13) (L' := [some (.ref 0), some (.int a1), some (.int a2), some (.int a3), some (.int a4), some (.int a5)]) (st' := []) (h' := Hp S) 1 (fun Z => if_neg hc) ?_
    refine wp_st (pc' := 14) (L' := [some (.ref 0), some (.int a1), some (.int a2), some (.int a3), some (.int a4), some (.int a5)]) (st' := [.int (-1)]) (h' := Hp S) 1 (fun Z => congrArg (fun v => Z (d + 1) m_x_feed 14 [some (.ref 0), some (.int a1), some (.int a2), some (.int a3), some (.int a4), some (.int a5)] [.int v] (Hp S)) (show Int32.ofInt (-1) = (-1) by decide)) ?_
    exact wp_ret (fun Z => rfl) ⟨_, _, rfl, rfl, hw⟩
set_option maxRecDepth 4000 in
theorem w_x_append {E : zX} {d : Nat} {S : St} {a1 : Int32} {Q : St → Prop} 
    (hw : k_x_append_3 E d S a1 24 Q) :
    k_x_append E d S a1 Q := by
  show wp E d m_x_append 0 [some (.ref 0), some (.int a1), none] [] (Hp S) (QV Q)
  exact wp_st 2 (fun Z => rfl) (show wp E d m_x_append 3 [some (.ref 0), some (.int a1), some (.int 24)] [] (Hp S) (QV Q) from hw)
set_option maxRecDepth 4000 in
theorem w_x_append_3 {E : zX} {d : Nat} {S : St} {a1 : Int32} {a2 : Int32} {Q : St → Prop} 
    (hw : if a2 < 0 then (
      Q S)
    else (
      if 700 ≤ (S 0 1) then (
        Q S)
      else (
        ∃ m2 : Nat, (S 0 1) = nI m2 ∧ m2 < 700 ∧
        ∀ S1, S1 = up S 1 m2 ((zushr a1 a2) &&& (255 : Int32)) →
        ∀ S3, S3 = up S1 0 1 ((S1 0 1) + (1 : Int32)) →
        k_x_append_3 E d S3 a1 (a2 + (-8)) Q))) :
    k_x_append_3 E d S a1 a2 Q := by
  show wp E d m_x_append 3 [some (.ref 0), some (.int a1), some (.int a2)] [] (Hp S) (QV Q)
  refine wp_st (pc' := 4) (L' := [some (.ref 0), some (.int a1), some (.int a2)]) (st' := [.int a2]) (h' := Hp S) 1 (fun Z => rfl) ?_
  by_cases hc : a2 < 0
  · rw [if_pos hc] at hw
    refine wp_st (pc' := 49) (L' := [some (.ref 0), some (.int a1), some (.int a2)]) (st' := []) (h' := Hp S) 1 (fun Z => if_pos hc) ?_
    exact wp_ret (fun Z => rfl) ⟨_, rfl, rfl, hw⟩
  · rw [if_neg hc] at hw
    refine wp_st (pc' := 7) (L' := [some (.ref 0), some (.int a1), some (.int a2)]) (st' := []) (h' := Hp S) 1 (fun Z => if_neg hc) ?_
    refine wp_st (pc' := 8) (L' := [some (.ref 0), some (.int a1), some (.int a2)]) (st' := [.ref 0]) (h' := Hp S) 1 (fun Z => rfl) ?_
    refine wp_st (pc' := 11) (L' := [some (.ref 0), some (.int a1), some (.int a2)]) (st' := [.int (S 0 1)]) (h' := Hp S) 1 (fun Z => gfI (E := E) sh0 rfl _) ?_
    refine wp_st (pc' := 14) (L' := [some (.ref 0), some (.int a1), some (.int a2)]) (st' := [.int 700, .int (S 0 1)]) (h' := Hp S) 1 (fun Z => rfl) ?_
    by_cases hc : 700 ≤ (S 0 1)
    · rw [if_pos hc] at hw
      refine wp_st (pc' := 49) (L' := [some (.ref 0), some (.int a1), some (.int a2)]) (st' := []) (h' := Hp S) 1 (fun Z => if_pos hc) ?_
      exact wp_ret (fun Z => rfl) ⟨_, rfl, rfl, hw⟩
    · rw [if_neg hc] at hw
      refine wp_st (pc' := 17) (L' := [some (.ref 0), some (.int a1), some (.int a2)]) (st' := []) (h' := Hp S) 1 (fun Z => if_neg hc) ?_
      refine wp_st (pc' := 18) (L' := [some (.ref 0), some (.int a1), some (.int a2)]) (st' := [.ref 0]) (h' := Hp S) 1 (fun Z => rfl) ?_
      refine wp_st (pc' := 21) (L' := [some (.ref 0), some (.int a1), some (.int a2)]) (st' := [.ref 1]) (h' := Hp S) 1 (fun Z => gfR (E := E) sh0 rfl _) ?_
      refine wp_st (pc' := 22) (L' := [some (.ref 0), some (.int a1), some (.int a2)]) (st' := [.ref 0, .ref 1]) (h' := Hp S) 1 (fun Z => rfl) ?_
      refine wp_st (pc' := 25) (L' := [some (.ref 0), some (.int a1), some (.int a2)]) (st' := [.int (S 0 1), .ref 1]) (h' := Hp S) 1 (fun Z => gfI (E := E) sh0 rfl _) ?_
      refine wp_st (pc' := 32) (L' := [some (.ref 0), some (.int a1), some (.int a2)]) (st' := [.int ((zushr a1 a2) &&& (255 : Int32)), .int (S 0 1), .ref 1]) (h' := Hp S) 5 (fun Z => rfl) ?_
      obtain ⟨m2, em, hi, hw⟩ := hw
      have hw := hw _ rfl
      refine wp_st (pc' := 33) (L' := [some (.ref 0), some (.int a1), some (.int a2)]) (st' := []) (h' := Hp (up S 1 m2 ((zushr a1 a2) &&& (255 : Int32)))) 1 (fun Z => (congrArg (fun v => zit E 1 Z d m_x_append 32 [some (.ref 0), some (.int a1), some (.int a2)] [.int ((zushr a1 a2) &&& (255 : Int32)), .int v, .ref 1] (Hp S)) em).trans (stN sh1 (by decide) hi _ _)) ?_
      generalize up S 1 m2 ((zushr a1 a2) &&& (255 : Int32)) = S1 at hw ⊢
      refine wp_st (pc' := 35) (L' := [some (.ref 0), some (.int a1), some (.int a2)]) (st' := [.ref 0, .ref 0]) (h' := Hp S1) 2 (fun Z => rfl) ?_
      refine wp_st (pc' := 38) (L' := [some (.ref 0), some (.int a1), some (.int a2)]) (st' := [.int (S1 0 1), .ref 0]) (h' := Hp S1) 1 (fun Z => gfI (E := E) sh0 rfl _) ?_
      refine wp_st (pc' := 40) (L' := [some (.ref 0), some (.int a1), some (.int a2)]) (st' := [.int ((S1 0 1) + (1 : Int32)), .ref 0]) (h' := Hp S1) 2 (fun Z => rfl) ?_
      have hw := hw _ rfl
      refine wp_st (pc' := 43) (L' := [some (.ref 0), some (.int a1), some (.int a2)]) (st' := []) (h' := Hp (up S1 0 1 ((S1 0 1) + (1 : Int32)))) 1 (fun Z => pfI sh0 rfl (Nat.le_of_ble_eq_true rfl) rfl _) ?_
      generalize up S1 0 1 ((S1 0 1) + (1 : Int32)) = S3 at hw ⊢
      refine wp_st (pc' := 46) (L' := [some (.ref 0), some (.int a1), some (.int (a2 + (-8)))]) (st' := []) (h' := Hp S3) 1 (fun Z => congrArg (fun v => Z d m_x_append 46 [some (.ref 0), some (.int a1), some (.int (a2 + v))] [] (Hp S3)) (show Int32.ofInt (-8) = (-8) by decide)) ?_
      exact wp_st 1 (fun Z => rfl) (show wp E d m_x_append 3 [some (.ref 0), some (.int a1), some (.int (a2 + (-8)))] [] (Hp S3) (QV Q) from hw)
set_option maxRecDepth 4000 in
theorem w_x_fault {E : zX} {d : Nat} {S : St}  {Q : Int32 → St → Prop} 
    (hw : Q (S 0 2) S) :
    k_x_fault E d S Q := by
  show wp E d m_x_fault 0 [some (.ref 0)] [] (Hp S) (QI Q)
  refine wp_st (pc' := 1) (L' := [some (.ref 0)]) (st' := [.ref 0]) (h' := Hp S) 1 (fun Z => rfl) ?_
  refine wp_st (pc' := 4) (L' := [some (.ref 0)]) (st' := [.int (S 0 2)]) (h' := Hp S) 1 (fun Z => gfI (E := E) sh0 rfl _) ?_
  exact wp_ret (fun Z => rfl) ⟨_, _, rfl, rfl, hw⟩
set_option maxRecDepth 4000 in
theorem w_x_days {E : zX} {d : Nat} {S : St} {a1 : Int32} {Q : Int32 → St → Prop} (hd : 1 ≤ d) 
    (hw : if a1 < 1 then (
      k_x_refuse E (d - 1) S 1 (fun x1 S2 =>
      Q x1 S2))
    else (
      if 20 < a1 then (
        k_x_refuse E (d - 1) S 1 (fun x3 S4 =>
        Q x3 S4))
      else (
        k_Scene_day E (d - 1) S 25 (fun x5 S6 =>
        if (x5 + a1) ≤ 9999 then (
          k_Book_keepAct E (d - 1) S6 (fun S8 =>
          k_x_days_41 E d S8 a1 0 Q))
        else (
          k_x_refuse E (d - 1) S6 1 (fun x9 S10 =>
          Q x9 S10)))))) :
    k_x_days E d S a1 Q := by
  obtain ⟨d, rfl⟩ := Nat.exists_eq_add_of_le' hd
  show wp E (d + 1) m_x_days 0 [some (.ref 0), some (.int a1), none] [] (Hp S) (QI Q)
  refine wp_st (pc' := 2) (L' := [some (.ref 0), some (.int a1), none]) (st' := [.int 1, .int a1]) (h' := Hp S) 2 (fun Z => rfl) ?_
  by_cases hc : a1 < 1
  · rw [if_pos hc] at hw
    refine wp_st (pc' := 26) (L' := [some (.ref 0), some (.int a1), none]) (st' := []) (h' := Hp S) 1 (fun Z => if_pos hc) ?_
    refine wp_st (pc' := 28) (L' := [some (.ref 0), some (.int a1), none]) (st' := [.int 1, .ref 0]) (h' := Hp S) 2 (fun Z => rfl) ?_
    refine wp_call (pc' := 31) (rest := []) (fun Z => rfl) (isO_of sh0) hw ?_
    rintro o h1 ⟨x1, S2, rfl, rfl, hw⟩
    refine ⟨_, rfl, ?_⟩
    show wp E (d + 1) m_x_days 31 [some (.ref 0), some (.int a1), none] [.int x1] (Hp S2) (QI Q)
    exact wp_ret (fun Z => rfl) ⟨_, _, rfl, rfl, hw⟩
  · rw [if_neg hc] at hw
    refine wp_st (pc' := 5) (L' := [some (.ref 0), some (.int a1), none]) (st' := []) (h' := Hp S) 1 (fun Z => if_neg hc) ?_
    refine wp_st (pc' := 8) (L' := [some (.ref 0), some (.int a1), none]) (st' := [.int 20, .int a1]) (h' := Hp S) 2 (fun Z => rfl) ?_
    by_cases hc : 20 < a1
    · rw [if_pos hc] at hw
      refine wp_st (pc' := 26) (L' := [some (.ref 0), some (.int a1), none]) (st' := []) (h' := Hp S) 1 (fun Z => if_pos hc) ?_
      refine wp_st (pc' := 28) (L' := [some (.ref 0), some (.int a1), none]) (st' := [.int 1, .ref 0]) (h' := Hp S) 2 (fun Z => rfl) ?_
      refine wp_call (pc' := 31) (rest := []) (fun Z => rfl) (isO_of sh0) hw ?_
      rintro o h1 ⟨x3, S4, rfl, rfl, hw⟩
      refine ⟨_, rfl, ?_⟩
      show wp E (d + 1) m_x_days 31 [some (.ref 0), some (.int a1), none] [.int x3] (Hp S4) (QI Q)
      exact wp_ret (fun Z => rfl) ⟨_, _, rfl, rfl, hw⟩
    · rw [if_neg hc] at hw
      refine wp_st (pc' := 11) (L' := [some (.ref 0), some (.int a1), none]) (st' := []) (h' := Hp S) 1 (fun Z => if_neg hc) ?_
      refine wp_st (pc' := 12) (L' := [some (.ref 0), some (.int a1), none]) (st' := [.ref 0]) (h' := Hp S) 1 (fun Z => rfl) ?_
      refine wp_st (pc' := 15) (L' := [some (.ref 0), some (.int a1), none]) (st' := [.ref 25]) (h' := Hp S) 1 (fun Z => gfR (E := E) sh0 rfl _) ?_
      refine wp_call (pc' := 18) (rest := []) (fun Z => rfl) (isO_of sh25) hw ?_
      rintro o h1 ⟨x5, S6, rfl, rfl, hw⟩
      refine ⟨_, rfl, ?_⟩
      show wp E (d + 1) m_x_days 18 [some (.ref 0), some (.int a1), none] [.int x5] (Hp S6) (QI Q)
      refine wp_st (pc' := 23) (L' := [some (.ref 0), some (.int a1), none]) (st' := [.int 9999, .int (x5 + a1)]) (h' := Hp S6) 3 (fun Z => rfl) ?_
      by_cases hc : (x5 + a1) ≤ 9999
      · rw [if_pos hc] at hw
        refine wp_st (pc' := 32) (L' := [some (.ref 0), some (.int a1), none]) (st' := []) (h' := Hp S6) 1 (fun Z => if_pos hc) ?_
        refine wp_st (pc' := 33) (L' := [some (.ref 0), some (.int a1), none]) (st' := [.ref 0]) (h' := Hp S6) 1 (fun Z => rfl) ?_
        refine wp_st (pc' := 36) (L' := [some (.ref 0), some (.int a1), none]) (st' := [.ref 24]) (h' := Hp S6) 1 (fun Z => gfR (E := E) sh0 rfl _) ?_
        refine wp_call (pc' := 39) (rest := []) (fun Z => rfl) (isO_of sh24) hw ?_
        rintro o h1 ⟨S8, rfl, rfl, hw⟩
        refine ⟨_, rfl, ?_⟩
        show wp E (d + 1) m_x_days 39 [some (.ref 0), some (.int a1), none] [] (Hp S8) (QI Q)
        exact wp_st 2 (fun Z => rfl) (show wp E (d + 1) m_x_days 41 [some (.ref 0), some (.int a1), some (.int 0)] [] (Hp S8) (QI Q) from hw)
      · rw [if_neg hc] at hw
        refine wp_st (pc' := 26) (L' := [some (.ref 0), some (.int a1), none]) (st' := []) (h' := Hp S6) 1 (fun Z => if_neg hc) ?_
        refine wp_st (pc' := 28) (L' := [some (.ref 0), some (.int a1), none]) (st' := [.int 1, .ref 0]) (h' := Hp S6) 2 (fun Z => rfl) ?_
        refine wp_call (pc' := 31) (rest := []) (fun Z => rfl) (isO_of sh0) hw ?_
        rintro o h1 ⟨x9, S10, rfl, rfl, hw⟩
        refine ⟨_, rfl, ?_⟩
        show wp E (d + 1) m_x_days 31 [some (.ref 0), some (.int a1), none] [.int x9] (Hp S10) (QI Q)
        exact wp_ret (fun Z => rfl) ⟨_, _, rfl, rfl, hw⟩
set_option maxRecDepth 4000 in
theorem w_x_days_41 {E : zX} {d : Nat} {S : St} {a1 : Int32} {a2 : Nat} {Q : Int32 → St → Prop} (hd : 1 ≤ d) 
    (hw : if a1 ≤ (nI a2) then (
      k_Scene_day E (d - 1) S 25 (fun x1 S2 =>
      Q x1 S2))
    else (
      k_Downs_passDay E (d - 1) S 25 (fun S4 =>
      k_x_days_41 E d S4 a1 (a2 + 1) Q))) :
    k_x_days_41 E d S a1 a2 Q := by
  obtain ⟨d, rfl⟩ := Nat.exists_eq_add_of_le' hd
  show wp E (d + 1) m_x_days 41 [some (.ref 0), some (.int a1), some (.int (nI a2))] [] (Hp S) (QI Q)
  refine wp_st (pc' := 43) (L' := [some (.ref 0), some (.int a1), some (.int (nI a2))]) (st' := [.int a1, .int (nI a2)]) (h' := Hp S) 2 (fun Z => rfl) ?_
  by_cases hc : a1 ≤ (nI a2)
  · rw [if_pos hc] at hw
    refine wp_st (pc' := 63) (L' := [some (.ref 0), some (.int a1), some (.int (nI a2))]) (st' := []) (h' := Hp S) 1 (fun Z => if_pos hc) ?_
    refine wp_st (pc' := 64) (L' := [some (.ref 0), some (.int a1), some (.int (nI a2))]) (st' := [.ref 0]) (h' := Hp S) 1 (fun Z => rfl) ?_
    refine wp_st (pc' := 67) (L' := [some (.ref 0), some (.int a1), some (.int (nI a2))]) (st' := [.ref 25]) (h' := Hp S) 1 (fun Z => gfR (E := E) sh0 rfl _) ?_
    refine wp_call (pc' := 70) (rest := []) (fun Z => rfl) (isO_of sh25) hw ?_
    rintro o h1 ⟨x1, S2, rfl, rfl, hw⟩
    refine ⟨_, rfl, ?_⟩
    show wp E (d + 1) m_x_days 70 [some (.ref 0), some (.int a1), some (.int (nI a2))] [.int x1] (Hp S2) (QI Q)
    exact wp_ret (fun Z => rfl) ⟨_, _, rfl, rfl, hw⟩
  · rw [if_neg hc] at hw
    refine wp_st (pc' := 46) (L' := [some (.ref 0), some (.int a1), some (.int (nI a2))]) (st' := []) (h' := Hp S) 1 (fun Z => if_neg hc) ?_
    refine wp_st (pc' := 47) (L' := [some (.ref 0), some (.int a1), some (.int (nI a2))]) (st' := [.ref 0]) (h' := Hp S) 1 (fun Z => rfl) ?_
    refine wp_st (pc' := 50) (L' := [some (.ref 0), some (.int a1), some (.int (nI a2))]) (st' := [.ref 38]) (h' := Hp S) 1 (fun Z => gfR (E := E) sh0 rfl _) ?_
    refine wp_st (pc' := 51) (L' := [some (.ref 0), some (.int a1), some (.int (nI a2))]) (st' := [.ref 0, .ref 38]) (h' := Hp S) 1 (fun Z => rfl) ?_
    refine wp_st (pc' := 54) (L' := [some (.ref 0), some (.int a1), some (.int (nI a2))]) (st' := [.ref 25, .ref 38]) (h' := Hp S) 1 (fun Z => gfR (E := E) sh0 rfl _) ?_
    refine wp_call (pc' := 57) (rest := []) (fun Z => rfl) (isO_of sh38) hw ?_
    rintro o h1 ⟨S4, rfl, rfl, hw⟩
    refine ⟨_, rfl, ?_⟩
    show wp E (d + 1) m_x_days 57 [some (.ref 0), some (.int a1), some (.int (nI a2))] [] (Hp S4) (QI Q)
    refine wp_st (pc' := 60) (L' := [some (.ref 0), some (.int a1), some (.int (nI (a2 + 1)))]) (st' := []) (h' := Hp S4) 1 (fun Z => by rw [← nI_add a2 1]; rfl) ?_
    exact wp_st 1 (fun Z => rfl) (show wp E (d + 1) m_x_days 41 [some (.ref 0), some (.int a1), some (.int (nI (a2 + 1)))] [] (Hp S4) (QI Q) from hw)
set_option maxRecDepth 4000 in
theorem w_x_refuse {E : zX} {d : Nat} {S : St} {a1 : Int32} {Q : Int32 → St → Prop} 
    (hw : ∃ m1 : Nat, a1 = nI m1 ∧ m1 < 3 ∧
    ∃ m3 : Nat, a1 = nI m3 ∧ m3 < 3 ∧
    ∀ S2, S2 = up S 2 m3 ((S 2 m1) + (1 : Int32)) →
    Q ((-1) : Int32) S2) :
    k_x_refuse E d S a1 Q := by
  show wp E d m_x_refuse 0 [some (.ref 0), some (.int a1)] [] (Hp S) (QI Q)
  refine wp_st (pc' := 1) (L' := [some (.ref 0), some (.int a1)]) (st' := [.ref 0]) (h' := Hp S) 1 (fun Z => rfl) ?_
  refine wp_st (pc' := 4) (L' := [some (.ref 0), some (.int a1)]) (st' := [.ref 2]) (h' := Hp S) 1 (fun Z => gfR (E := E) sh0 rfl _) ?_
  refine wp_st (pc' := 6) (L' := [some (.ref 0), some (.int a1)]) (st' := [.int a1, .ref 2, .int a1, .ref 2]) (h' := Hp S) 2 (fun Z => rfl) ?_
  obtain ⟨m1, em, hi, hw⟩ := hw
  refine wp_st (pc' := 7) (L' := [some (.ref 0), some (.int a1)]) (st' := [.int (S 2 m1), .int a1, .ref 2]) (h' := Hp S) 1 (fun Z => (congrArg (fun v => zit E 1 Z d m_x_refuse 6 [some (.ref 0), some (.int a1)] [.int v, .ref 2, .int a1, .ref 2] (Hp S)) em).trans (ldN (E := E) sh2 (by decide) hi [.int a1, .ref 2] (fun st => Z d m_x_refuse 7 [some (.ref 0), some (.int a1)] st (Hp S)))) ?_
  refine wp_st (pc' := 9) (L' := [some (.ref 0), some (.int a1)]) (st' := [.int ((S 2 m1) + (1 : Int32)), .int a1, .ref 2]) (h' := Hp S) 2 (fun Z => rfl) ?_
  obtain ⟨m3, em, hi, hw⟩ := hw
  have hw := hw _ rfl
  refine wp_st (pc' := 10) (L' := [some (.ref 0), some (.int a1)]) (st' := []) (h' := Hp (up S 2 m3 ((S 2 m1) + (1 : Int32)))) 1 (fun Z => (congrArg (fun v => zit E 1 Z d m_x_refuse 9 [some (.ref 0), some (.int a1)] [.int ((S 2 m1) + (1 : Int32)), .int v, .ref 2] (Hp S)) em).trans (stN sh2 (by decide) hi _ _)) ?_
  generalize up S 2 m3 ((S 2 m1) + (1 : Int32)) = S2 at hw ⊢
  refine wp_st (pc' := 11) (L' := [some (.ref 0), some (.int a1)]) (st' := [.int (-1)]) (h' := Hp S2) 1 (fun Z => congrArg (fun v => Z d m_x_refuse 11 [some (.ref 0), some (.int a1)] [.int v] (Hp S2)) (show Int32.ofInt (-1) = (-1) by decide)) ?_
  exact wp_ret (fun Z => rfl) ⟨_, _, rfl, rfl, hw⟩
set_option maxRecDepth 4000 in
theorem w_x_undo {E : zX} {d : Nat} {S : St}  {Q : Int32 → St → Prop} (hd : 1 ≤ d) 
    (hw : if (S 24 1) = 0 then (
      Q ((-1) : Int32) S)
    else (
      k_Book_takeBackAct E (d - 1) S (fun S2 =>
      Q (S2 24 1) S2))) :
    k_x_undo E d S Q := by
  obtain ⟨d, rfl⟩ := Nat.exists_eq_add_of_le' hd
  show wp E (d + 1) m_x_undo 0 [some (.ref 0)] [] (Hp S) (QI Q)
  refine wp_st (pc' := 1) (L' := [some (.ref 0)]) (st' := [.ref 0]) (h' := Hp S) 1 (fun Z => rfl) ?_
  refine wp_st (pc' := 4) (L' := [some (.ref 0)]) (st' := [.ref 24]) (h' := Hp S) 1 (fun Z => gfR (E := E) sh0 rfl _) ?_
  refine wp_st (pc' := 7) (L' := [some (.ref 0)]) (st' := [.int (S 24 1)]) (h' := Hp S) 1 (fun Z => gfI (E := E) sh24 rfl _) ?_
  by_cases hc : (S 24 1) = 0
  · rw [if_pos hc] at hw
    refine wp_st (pc' := 10) (L' := [some (.ref 0)]) (st' := []) (h' := Hp S) 1 (fun Z => if_pos hc) ?_
    refine wp_st (pc' := 11) (L' := [some (.ref 0)]) (st' := [.int (-1)]) (h' := Hp S) 1 (fun Z => congrArg (fun v => Z (d + 1) m_x_undo 11 [some (.ref 0)] [.int v] (Hp S)) (show Int32.ofInt (-1) = (-1) by decide)) ?_
    exact wp_ret (fun Z => rfl) ⟨_, _, rfl, rfl, hw⟩
  · rw [if_neg hc] at hw
    refine wp_st (pc' := 12) (L' := [some (.ref 0)]) (st' := []) (h' := Hp S) 1 (fun Z => if_neg hc) ?_
    refine wp_st (pc' := 13) (L' := [some (.ref 0)]) (st' := [.ref 0]) (h' := Hp S) 1 (fun Z => rfl) ?_
    refine wp_st (pc' := 16) (L' := [some (.ref 0)]) (st' := [.ref 24]) (h' := Hp S) 1 (fun Z => gfR (E := E) sh0 rfl _) ?_
    refine wp_call (pc' := 19) (rest := []) (fun Z => rfl) (isO_of sh24) hw ?_
    rintro o h1 ⟨S2, rfl, rfl, hw⟩
    refine ⟨_, rfl, ?_⟩
    show wp E (d + 1) m_x_undo 19 [some (.ref 0)] [] (Hp S2) (QI Q)
    refine wp_st (pc' := 20) (L' := [some (.ref 0)]) (st' := [.ref 0]) (h' := Hp S2) 1 (fun Z => rfl) ?_
    refine wp_st (pc' := 23) (L' := [some (.ref 0)]) (st' := [.ref 24]) (h' := Hp S2) 1 (fun Z => gfR (E := E) sh0 rfl _) ?_
    refine wp_st (pc' := 26) (L' := [some (.ref 0)]) (st' := [.int (S2 24 1)]) (h' := Hp S2) 1 (fun Z => gfI (E := E) sh24 rfl _) ?_
    exact wp_ret (fun Z => rfl) ⟨_, _, rfl, rfl, hw⟩
set_option maxRecDepth 4000 in
theorem w_x_first {E : zX} {d : Nat} {S : St}  {Q : Int32 → St → Prop} (hd : 1 ≤ d) 
    (hw : k_Forecast_firstToBurst E (d - 1) S (fun x1 S2 =>
    Q x1 S2)) :
    k_x_first E d S Q := by
  obtain ⟨d, rfl⟩ := Nat.exists_eq_add_of_le' hd
  show wp E (d + 1) m_x_first 0 [some (.ref 0)] [] (Hp S) (QI Q)
  refine wp_st (pc' := 1) (L' := [some (.ref 0)]) (st' := [.ref 0]) (h' := Hp S) 1 (fun Z => rfl) ?_
  refine wp_st (pc' := 4) (L' := [some (.ref 0)]) (st' := [.ref 43]) (h' := Hp S) 1 (fun Z => gfR (E := E) sh0 rfl _) ?_
  refine wp_call (pc' := 7) (rest := []) (fun Z => rfl) (isO_of sh43) hw ?_
  rintro o h1 ⟨x1, S2, rfl, rfl, hw⟩
  refine ⟨_, rfl, ?_⟩
  show wp E (d + 1) m_x_first 7 [some (.ref 0)] [.int x1] (Hp S2) (QI Q)
  exact wp_ret (fun Z => rfl) ⟨_, _, rfl, rfl, hw⟩
set_option maxRecDepth 4000 in
theorem w_x_forget {E : zX} {d : Nat} {S : St}  {Q : St → Prop} 
    (hw : ∀ S1, S1 = up S 24 3 0 →
    Q S1) :
    k_x_forget E d S Q := by
  show wp E d m_x_forget 0 [some (.ref 0)] [] (Hp S) (QV Q)
  refine wp_st (pc' := 1) (L' := [some (.ref 0)]) (st' := [.ref 0]) (h' := Hp S) 1 (fun Z => rfl) ?_
  refine wp_st (pc' := 4) (L' := [some (.ref 0)]) (st' := [.ref 24]) (h' := Hp S) 1 (fun Z => gfR (E := E) sh0 rfl _) ?_
  refine wp_st (pc' := 5) (L' := [some (.ref 0)]) (st' := [.int 0, .ref 24]) (h' := Hp S) 1 (fun Z => rfl) ?_
  have hw := hw _ rfl
  refine wp_st (pc' := 8) (L' := [some (.ref 0)]) (st' := []) (h' := Hp (up S 24 3 0)) 1 (fun Z => pfI sh24 rfl (Nat.le_of_ble_eq_true rfl) rfl _) ?_
  generalize up S 24 3 0 = S1 at hw ⊢
  exact wp_ret (fun Z => rfl) ⟨_, rfl, rfl, hw⟩
set_option maxRecDepth 4000 in
theorem w_x_image {E : zX} {d : Nat} {S : St}  {Q : St → Prop} (hd : 1 ≤ d) 
    (hw : k_Book_copyFrom E (d - 1) S 31 24 (fun S2 =>
    ∀ S3, S3 = up S2 0 8 1 →
    Q S3)) :
    k_x_image E d S Q := by
  obtain ⟨d, rfl⟩ := Nat.exists_eq_add_of_le' hd
  show wp E (d + 1) m_x_image 0 [some (.ref 0)] [] (Hp S) (QV Q)
  refine wp_st (pc' := 1) (L' := [some (.ref 0)]) (st' := [.ref 0]) (h' := Hp S) 1 (fun Z => rfl) ?_
  refine wp_st (pc' := 4) (L' := [some (.ref 0)]) (st' := [.ref 31]) (h' := Hp S) 1 (fun Z => gfR (E := E) sh0 rfl _) ?_
  refine wp_st (pc' := 5) (L' := [some (.ref 0)]) (st' := [.ref 0, .ref 31]) (h' := Hp S) 1 (fun Z => rfl) ?_
  refine wp_st (pc' := 8) (L' := [some (.ref 0)]) (st' := [.ref 24, .ref 31]) (h' := Hp S) 1 (fun Z => gfR (E := E) sh0 rfl _) ?_
  refine wp_call (pc' := 11) (rest := []) (fun Z => rfl) (isO_of sh31) hw ?_
  rintro o h1 ⟨S2, rfl, rfl, hw⟩
  refine ⟨_, rfl, ?_⟩
  show wp E (d + 1) m_x_image 11 [some (.ref 0)] [] (Hp S2) (QV Q)
  refine wp_st (pc' := 13) (L' := [some (.ref 0)]) (st' := [.int 1, .ref 0]) (h' := Hp S2) 2 (fun Z => rfl) ?_
  have hw := hw _ rfl
  refine wp_st (pc' := 16) (L' := [some (.ref 0)]) (st' := []) (h' := Hp (up S2 0 8 1)) 1 (fun Z => pfI sh0 rfl (Nat.le_of_ble_eq_true rfl) rfl _) ?_
  generalize up S2 0 8 1 = S3 at hw ⊢
  exact wp_ret (fun Z => rfl) ⟨_, rfl, rfl, hw⟩
set_option maxRecDepth 4000 in
theorem w_x_restore {E : zX} {d : Nat} {S : St}  {Q : Int32 → St → Prop} (hd : 1 ≤ d) 
    (hw : if (S 0 8) = 0 then (
      Q (0 : Int32) S)
    else (
      k_Book_copyFrom E (d - 1) S 24 31 (fun S2 =>
      Q (1 : Int32) S2))) :
    k_x_restore E d S Q := by
  obtain ⟨d, rfl⟩ := Nat.exists_eq_add_of_le' hd
  show wp E (d + 1) m_x_restore 0 [some (.ref 0)] [] (Hp S) (QI Q)
  refine wp_st (pc' := 1) (L' := [some (.ref 0)]) (st' := [.ref 0]) (h' := Hp S) 1 (fun Z => rfl) ?_
  refine wp_st (pc' := 4) (L' := [some (.ref 0)]) (st' := [.int (S 0 8)]) (h' := Hp S) 1 (fun Z => gfI (E := E) sh0 rfl _) ?_
  by_cases hc : (S 0 8) = 0
  · rw [if_pos hc] at hw
    refine wp_st (pc' := 7) (L' := [some (.ref 0)]) (st' := []) (h' := Hp S) 1 (fun Z => if_pos hc) ?_
    refine wp_st (pc' := 8) (L' := [some (.ref 0)]) (st' := [.int 0]) (h' := Hp S) 1 (fun Z => rfl) ?_
    exact wp_ret (fun Z => rfl) ⟨_, _, rfl, rfl, hw⟩
  · rw [if_neg hc] at hw
    refine wp_st (pc' := 9) (L' := [some (.ref 0)]) (st' := []) (h' := Hp S) 1 (fun Z => if_neg hc) ?_
    refine wp_st (pc' := 10) (L' := [some (.ref 0)]) (st' := [.ref 0]) (h' := Hp S) 1 (fun Z => rfl) ?_
    refine wp_st (pc' := 13) (L' := [some (.ref 0)]) (st' := [.ref 24]) (h' := Hp S) 1 (fun Z => gfR (E := E) sh0 rfl _) ?_
    refine wp_st (pc' := 14) (L' := [some (.ref 0)]) (st' := [.ref 0, .ref 24]) (h' := Hp S) 1 (fun Z => rfl) ?_
    refine wp_st (pc' := 17) (L' := [some (.ref 0)]) (st' := [.ref 31, .ref 24]) (h' := Hp S) 1 (fun Z => gfR (E := E) sh0 rfl _) ?_
    refine wp_call (pc' := 20) (rest := []) (fun Z => rfl) (isO_of sh24) hw ?_
    rintro o h1 ⟨S2, rfl, rfl, hw⟩
    refine ⟨_, rfl, ?_⟩
    show wp E (d + 1) m_x_restore 20 [some (.ref 0)] [] (Hp S2) (QI Q)
    refine wp_st (pc' := 21) (L' := [some (.ref 0)]) (st' := [.int 1]) (h' := Hp S2) 1 (fun Z => rfl) ?_
    exact wp_ret (fun Z => rfl) ⟨_, _, rfl, rfl, hw⟩
set_option maxRecDepth 4000 in
theorem w_x_county {E : zX} {d : Nat} {S : St} {a1 : Int32} {Q : Int32 → St → Prop} {X : Nat → St → Prop} (hd : 8 ≤ d) 
    (hw : if a1 < 0 then (
      (S 1000 0).toNatClampNeg < 1000000 ∧ X 1 (upT S))
    else (
      if a1 ≤ (S 0 1) then (
        ∀ S1, S1 = up S 0 1 0 →
        k_Reader_readText E (d - 1) S1 a1 (fun x2 S3 =>
        if x2 = 0 then (
          ∀ S4, S4 = up S3 0 2 (-1) →
          k_Land_copyFrom E (d - 1) S4 (fun S6 =>
          k_Book_begin E (d - 1) S6 (fun S8 =>
          ∀ S9, S9 = up S8 0 8 0 →
          Q (0 : Int32) S9)))
        else (
          ∀ S10, S10 = up S3 2 0 ((S3 2 0) + (1 : Int32)) →
          ∀ S11, S11 = up S10 0 2 (S10 12 2) →
          Q x2 S11)))
      else (
        (S 1000 0).toNatClampNeg < 1000000 ∧ X 1 (upT S)))) :
    k_x_county E d S a1 Q X := by
  obtain ⟨d, rfl⟩ := Nat.exists_eq_add_of_le' hd
  show wp E (d + 8) m_x_county 0 [some (.ref 0), some (.int a1), none] [] (Hp S) (QX (QI Q) X)
  refine wp_st (pc' := 1) (L' := [some (.ref 0), some (.int a1), none]) (st' := [.int a1]) (h' := Hp S) 1 (fun Z => rfl) ?_
  by_cases hc : a1 < 0
  · rw [if_pos hc] at hw
    refine wp_st (pc' := 12) (L' := [some (.ref 0), some (.int a1), none]) (st' := []) (h' := Hp S) 1 (fun Z => if_pos hc) ?_
    obtain ⟨hn, hw⟩ := hw
    refine wp_ret (h' := Hp (upT S)) (o := .inr 1) (fun Z => ?_) (Or.inr ⟨_, _, rfl, rfl, hw⟩)
    rw [upT_eq hn]
    rfl
  · rw [if_neg hc] at hw
    refine wp_st (pc' := 4) (L' := [some (.ref 0), some (.int a1), none]) (st' := []) (h' := Hp S) 1 (fun Z => if_neg hc) ?_
    refine wp_st (pc' := 6) (L' := [some (.ref 0), some (.int a1), none]) (st' := [.ref 0, .int a1]) (h' := Hp S) 2 (fun Z => rfl) ?_
    refine wp_st (pc' := 9) (L' := [some (.ref 0), some (.int a1), none]) (st' := [.int (S 0 1), .int a1]) (h' := Hp S) 1 (fun Z => gfI (E := E) sh0 rfl _) ?_
    by_cases hc : a1 ≤ (S 0 1)
    · rw [if_pos hc] at hw
      refine wp_st (pc' := 22) (L' := [some (.ref 0), some (.int a1), none]) (st' := []) (h' := Hp S) 1 (fun Z => if_pos hc) ?_
      refine wp_st (pc' := 24) (L' := [some (.ref 0), some (.int a1), none]) (st' := [.int 0, .ref 0]) (h' := Hp S) 2 (fun Z => rfl) ?_
      have hw := hw _ rfl
      refine wp_st (pc' := 27) (L' := [some (.ref 0), some (.int a1), none]) (st' := []) (h' := Hp (up S 0 1 0)) 1 (fun Z => pfI sh0 rfl (Nat.le_of_ble_eq_true rfl) rfl _) ?_
      generalize up S 0 1 0 = S1 at hw ⊢
      refine wp_st (pc' := 28) (L' := [some (.ref 0), some (.int a1), none]) (st' := [.ref 0]) (h' := Hp S1) 1 (fun Z => rfl) ?_
      refine wp_st (pc' := 31) (L' := [some (.ref 0), some (.int a1), none]) (st' := [.ref 12]) (h' := Hp S1) 1 (fun Z => gfR (E := E) sh0 rfl _) ?_
      refine wp_st (pc' := 32) (L' := [some (.ref 0), some (.int a1), none]) (st' := [.int a1, .ref 12]) (h' := Hp S1) 1 (fun Z => rfl) ?_
      refine wp_call (pc' := 35) (rest := []) (fun Z => rfl) (isO_of sh12) hw ?_
      rintro o h1 ⟨x2, S3, rfl, rfl, hw⟩
      refine ⟨_, rfl, ?_⟩
      show wp E (d + 8) m_x_county 35 [some (.ref 0), some (.int a1), none] [.int x2] (Hp S3) (QX (QI Q) X)
      refine wp_st (pc' := 37) (L' := [some (.ref 0), some (.int a1), some (.int x2)]) (st' := [.int x2]) (h' := Hp S3) 2 (fun Z => rfl) ?_
      by_cases hc : x2 = 0
      · rw [if_pos hc] at hw
        refine wp_st (pc' := 63) (L' := [some (.ref 0), some (.int a1), some (.int x2)]) (st' := []) (h' := Hp S3) 1 (fun Z => if_pos hc) ?_
        refine wp_st (pc' := 64) (L' := [some (.ref 0), some (.int a1), some (.int x2)]) (st' := [.ref 0]) (h' := Hp S3) 1 (fun Z => rfl) ?_
        refine wp_st (pc' := 65) (L' := [some (.ref 0), some (.int a1), some (.int x2)]) (st' := [.int (-1), .ref 0]) (h' := Hp S3) 1 (fun Z => congrArg (fun v => Z (d + 8) m_x_county 65 [some (.ref 0), some (.int a1), some (.int x2)] [.int v, .ref 0] (Hp S3)) (show Int32.ofInt (-1) = (-1) by decide)) ?_
        have hw := hw _ rfl
        refine wp_st (pc' := 68) (L' := [some (.ref 0), some (.int a1), some (.int x2)]) (st' := []) (h' := Hp (up S3 0 2 (-1))) 1 (fun Z => pfI sh0 rfl (Nat.le_of_ble_eq_true rfl) rfl _) ?_
        generalize up S3 0 2 (-1) = S4 at hw ⊢
        refine wp_st (pc' := 69) (L' := [some (.ref 0), some (.int a1), some (.int x2)]) (st' := [.ref 0]) (h' := Hp S4) 1 (fun Z => rfl) ?_
        refine wp_st (pc' := 72) (L' := [some (.ref 0), some (.int a1), some (.int x2)]) (st' := [.ref 3]) (h' := Hp S4) 1 (fun Z => gfR (E := E) sh0 rfl _) ?_
        refine wp_st (pc' := 73) (L' := [some (.ref 0), some (.int a1), some (.int x2)]) (st' := [.ref 0, .ref 3]) (h' := Hp S4) 1 (fun Z => rfl) ?_
        refine wp_st (pc' := 76) (L' := [some (.ref 0), some (.int a1), some (.int x2)]) (st' := [.ref 12, .ref 3]) (h' := Hp S4) 1 (fun Z => gfR (E := E) sh0 rfl _) ?_
        refine wp_st (pc' := 79) (L' := [some (.ref 0), some (.int a1), some (.int x2)]) (st' := [.ref 13, .ref 3]) (h' := Hp S4) 1 (fun Z => gfR (E := E) sh12 rfl _) ?_
        refine wp_call (pc' := 82) (rest := []) (fun Z => rfl) (isO_of sh3) hw ?_
        rintro o h1 ⟨S6, rfl, rfl, hw⟩
        refine ⟨_, rfl, ?_⟩
        show wp E (d + 8) m_x_county 82 [some (.ref 0), some (.int a1), some (.int x2)] [] (Hp S6) (QX (QI Q) X)
        refine wp_st (pc' := 83) (L' := [some (.ref 0), some (.int a1), some (.int x2)]) (st' := [.ref 0]) (h' := Hp S6) 1 (fun Z => rfl) ?_
        refine wp_st (pc' := 86) (L' := [some (.ref 0), some (.int a1), some (.int x2)]) (st' := [.ref 24]) (h' := Hp S6) 1 (fun Z => gfR (E := E) sh0 rfl _) ?_
        refine wp_st (pc' := 87) (L' := [some (.ref 0), some (.int a1), some (.int x2)]) (st' := [.ref 0, .ref 24]) (h' := Hp S6) 1 (fun Z => rfl) ?_
        refine wp_st (pc' := 90) (L' := [some (.ref 0), some (.int a1), some (.int x2)]) (st' := [.ref 12, .ref 24]) (h' := Hp S6) 1 (fun Z => gfR (E := E) sh0 rfl _) ?_
        refine wp_st (pc' := 93) (L' := [some (.ref 0), some (.int a1), some (.int x2)]) (st' := [.ref 22, .ref 24]) (h' := Hp S6) 1 (fun Z => gfR (E := E) sh12 rfl _) ?_
        refine wp_call (pc' := 96) (rest := []) (fun Z => rfl) (isO_of sh24) hw ?_
        rintro o h1 ⟨S8, rfl, rfl, hw⟩
        refine ⟨_, rfl, ?_⟩
        show wp E (d + 8) m_x_county 96 [some (.ref 0), some (.int a1), some (.int x2)] [] (Hp S8) (QX (QI Q) X)
        refine wp_st (pc' := 98) (L' := [some (.ref 0), some (.int a1), some (.int x2)]) (st' := [.int 0, .ref 0]) (h' := Hp S8) 2 (fun Z => rfl) ?_
        have hw := hw _ rfl
        refine wp_st (pc' := 101) (L' := [some (.ref 0), some (.int a1), some (.int x2)]) (st' := []) (h' := Hp (up S8 0 8 0)) 1 (fun Z => pfI sh0 rfl (Nat.le_of_ble_eq_true rfl) rfl _) ?_
        generalize up S8 0 8 0 = S9 at hw ⊢
        refine wp_st (pc' := 102) (L' := [some (.ref 0), some (.int a1), some (.int x2)]) (st' := [.int 0]) (h' := Hp S9) 1 (fun Z => rfl) ?_
        exact wp_ret (fun Z => rfl) (Or.inl ⟨_, _, rfl, rfl, hw⟩)
      · rw [if_neg hc] at hw
        refine wp_st (pc' := 40) (L' := [some (.ref 0), some (.int a1), some (.int x2)]) (st' := []) (h' := Hp S3) 1 (fun Z => if_neg hc) ?_
        refine wp_st (pc' := 41) (L' := [some (.ref 0), some (.int a1), some (.int x2)]) (st' := [.ref 0]) (h' := Hp S3) 1 (fun Z => rfl) ?_
        refine wp_st (pc' := 44) (L' := [some (.ref 0), some (.int a1), some (.int x2)]) (st' := [.ref 2]) (h' := Hp S3) 1 (fun Z => gfR (E := E) sh0 rfl _) ?_
        refine wp_st (pc' := 46) (L' := [some (.ref 0), some (.int a1), some (.int x2)]) (st' := [.int 0, .ref 2, .int 0, .ref 2]) (h' := Hp S3) 2 (fun Z => rfl) ?_
        refine wp_st (pc' := 47) (L' := [some (.ref 0), some (.int a1), some (.int x2)]) (st' := [.int (S3 2 0), .int 0, .ref 2]) (h' := Hp S3) 1 (fun Z => ldN (E := E) sh2 (by decide) (by decide) [.int 0, .ref 2] (fun st => Z (d + 8) m_x_county 47 [some (.ref 0), some (.int a1), some (.int x2)] st (Hp S3))) ?_
        refine wp_st (pc' := 49) (L' := [some (.ref 0), some (.int a1), some (.int x2)]) (st' := [.int ((S3 2 0) + (1 : Int32)), .int 0, .ref 2]) (h' := Hp S3) 2 (fun Z => rfl) ?_
        have hw := hw _ rfl
        refine wp_st (pc' := 50) (L' := [some (.ref 0), some (.int a1), some (.int x2)]) (st' := []) (h' := Hp (up S3 2 0 ((S3 2 0) + (1 : Int32)))) 1 (fun Z => stN sh2 (by decide) (by decide) _ _) ?_
        generalize up S3 2 0 ((S3 2 0) + (1 : Int32)) = S10 at hw ⊢
        refine wp_st (pc' := 52) (L' := [some (.ref 0), some (.int a1), some (.int x2)]) (st' := [.ref 0, .ref 0]) (h' := Hp S10) 2 (fun Z => rfl) ?_
        refine wp_st (pc' := 55) (L' := [some (.ref 0), some (.int a1), some (.int x2)]) (st' := [.ref 12, .ref 0]) (h' := Hp S10) 1 (fun Z => gfR (E := E) sh0 rfl _) ?_
        refine wp_st (pc' := 58) (L' := [some (.ref 0), some (.int a1), some (.int x2)]) (st' := [.int (S10 12 2), .ref 0]) (h' := Hp S10) 1 (fun Z => gfI (E := E) sh12 rfl _) ?_
        have hw := hw _ rfl
        refine wp_st (pc' := 61) (L' := [some (.ref 0), some (.int a1), some (.int x2)]) (st' := []) (h' := Hp (up S10 0 2 (S10 12 2))) 1 (fun Z => pfI sh0 rfl (Nat.le_of_ble_eq_true rfl) rfl _) ?_
        generalize up S10 0 2 (S10 12 2) = S11 at hw ⊢
        refine wp_st (pc' := 62) (L' := [some (.ref 0), some (.int a1), some (.int x2)]) (st' := [.int x2]) (h' := Hp S11) 1 (fun Z => rfl) ?_
        exact wp_ret (fun Z => rfl) (Or.inl ⟨_, _, rfl, rfl, hw⟩)
    · rw [if_neg hc] at hw
      refine wp_st (pc' := 12) (L' := [some (.ref 0), some (.int a1), none]) (st' := []) (h' := Hp S) 1 (fun Z => if_neg hc) ?_
      obtain ⟨hn, hw⟩ := hw
      refine wp_ret (h' := Hp (upT S)) (o := .inr 1) (fun Z => ?_) (Or.inr ⟨_, _, rfl, rfl, hw⟩)
      rw [upT_eq hn]
      rfl
set_option maxRecDepth 4000 in
theorem w_x_count {E : zX} {d : Nat} {S : St} {a1 : Int32} {Q : Int32 → St → Prop} {X : Nat → St → Prop} (hd : 8 ≤ d) 
    (hw : if a1 = 0 then (
      Q (S 3 3) S)
    else if a1 = 1 then (
      Q (S 3 4) S)
    else if a1 = 2 then (
      Q (S 3 0) S)
    else if a1 = 3 then (
      Q (S 3 1) S)
    else if a1 = 4 then (
      k_Scene_day E (d - 1) S 25 (fun x1 S2 =>
      Q x1 S2))
    else if a1 = 5 then (
      k_Downs_whites E (d - 1) S 25 (fun x3 S4 =>
      Q x3 S4))
    else if a1 = 6 then (
      k_Scene_guards E (d - 1) S 25 (fun x5 S6 =>
      Q x5 S6))
    else if a1 = 7 then (
      k_Downs_heldByAll E (d - 1) S 25 (fun x7 S8 =>
      Q x7 S8))
    else if a1 = 8 then (
      k_Downs_temperOfAll E (d - 1) S 25 (fun x9 S10 =>
      Q x9 S10))
    else if a1 = 9 then (
      k_Downs_shoutedByAll E (d - 1) S 25 (fun x11 S12 =>
      Q x11 S12))
    else if a1 = 10 then (
      k_Plans_allAtOnce E (d - 1) S (fun x13 S14 =>
      Q x13 S14))
    else if a1 = 11 then (
      Q (S 24 1) S)
    else if a1 = 12 then (
      Q (S 24 3) S)
    else if a1 = 13 then (
      Q (S 0 1) S)
    else if a1 = 14 then (
      Q (S 2 0) S)
    else if a1 = 15 then (
      Q (S 2 1) S)
    else if a1 = 16 then (
      Q (S 2 2) S)
    else (
      (S 1000 0).toNatClampNeg < 1000000 ∧ X 0 (upT S))) :
    k_x_count E d S a1 Q X := by
  obtain ⟨d, rfl⟩ := Nat.exists_eq_add_of_le' hd
  show wp E (d + 8) m_x_count 0 [some (.ref 0), some (.int a1)] [] (Hp S) (QX (QI Q) X)
  refine wp_st (pc' := 1) (L' := [some (.ref 0), some (.int a1)]) (st' := [.int a1]) (h' := Hp S) 1 (fun Z => rfl) ?_
  by_cases c0 : a1 = 0
  · rw [if_pos c0] at hw
    refine wp_st (pc' := 84) (L' := [some (.ref 0), some (.int a1)]) (st' := []) (h' := Hp S) 1 (fun Z => (show zsw (.tableswitch 229 0 16 #[83, 91, 99, 107, 115, 123, 135, 143, 155, 167, 179, 187, 195, 203, 208, 215, 222]) 1 (.int a1 :: []) (fun t st1 => Z (d + 8) m_x_count t [some (.ref 0), some (.int a1)] st1 (Hp S)) = _ from zsw_at (c := 0) (by rw [c0]; decide) (by decide) rfl rfl)) ?_
    refine wp_st (pc' := 85) (L' := [some (.ref 0), some (.int a1)]) (st' := [.ref 0]) (h' := Hp S) 1 (fun Z => rfl) ?_
    refine wp_st (pc' := 88) (L' := [some (.ref 0), some (.int a1)]) (st' := [.ref 3]) (h' := Hp S) 1 (fun Z => gfR (E := E) sh0 rfl _) ?_
    refine wp_st (pc' := 91) (L' := [some (.ref 0), some (.int a1)]) (st' := [.int (S 3 3)]) (h' := Hp S) 1 (fun Z => gfI (E := E) sh3 rfl _) ?_
    exact wp_ret (fun Z => rfl) (Or.inl ⟨_, _, rfl, rfl, hw⟩)
  rw [if_neg c0] at hw
  by_cases c1 : a1 = 1
  · rw [if_pos c1] at hw
    refine wp_st (pc' := 92) (L' := [some (.ref 0), some (.int a1)]) (st' := []) (h' := Hp S) 1 (fun Z => (show zsw (.tableswitch 229 0 16 #[83, 91, 99, 107, 115, 123, 135, 143, 155, 167, 179, 187, 195, 203, 208, 215, 222]) 1 (.int a1 :: []) (fun t st1 => Z (d + 8) m_x_count t [some (.ref 0), some (.int a1)] st1 (Hp S)) = _ from zsw_at (c := 1) (by rw [c1]; decide) (by decide) rfl rfl)) ?_
    refine wp_st (pc' := 93) (L' := [some (.ref 0), some (.int a1)]) (st' := [.ref 0]) (h' := Hp S) 1 (fun Z => rfl) ?_
    refine wp_st (pc' := 96) (L' := [some (.ref 0), some (.int a1)]) (st' := [.ref 3]) (h' := Hp S) 1 (fun Z => gfR (E := E) sh0 rfl _) ?_
    refine wp_st (pc' := 99) (L' := [some (.ref 0), some (.int a1)]) (st' := [.int (S 3 4)]) (h' := Hp S) 1 (fun Z => gfI (E := E) sh3 rfl _) ?_
    exact wp_ret (fun Z => rfl) (Or.inl ⟨_, _, rfl, rfl, hw⟩)
  rw [if_neg c1] at hw
  by_cases c2 : a1 = 2
  · rw [if_pos c2] at hw
    refine wp_st (pc' := 100) (L' := [some (.ref 0), some (.int a1)]) (st' := []) (h' := Hp S) 1 (fun Z => (show zsw (.tableswitch 229 0 16 #[83, 91, 99, 107, 115, 123, 135, 143, 155, 167, 179, 187, 195, 203, 208, 215, 222]) 1 (.int a1 :: []) (fun t st1 => Z (d + 8) m_x_count t [some (.ref 0), some (.int a1)] st1 (Hp S)) = _ from zsw_at (c := 2) (by rw [c2]; decide) (by decide) rfl rfl)) ?_
    refine wp_st (pc' := 101) (L' := [some (.ref 0), some (.int a1)]) (st' := [.ref 0]) (h' := Hp S) 1 (fun Z => rfl) ?_
    refine wp_st (pc' := 104) (L' := [some (.ref 0), some (.int a1)]) (st' := [.ref 3]) (h' := Hp S) 1 (fun Z => gfR (E := E) sh0 rfl _) ?_
    refine wp_st (pc' := 107) (L' := [some (.ref 0), some (.int a1)]) (st' := [.int (S 3 0)]) (h' := Hp S) 1 (fun Z => gfI (E := E) sh3 rfl _) ?_
    exact wp_ret (fun Z => rfl) (Or.inl ⟨_, _, rfl, rfl, hw⟩)
  rw [if_neg c2] at hw
  by_cases c3 : a1 = 3
  · rw [if_pos c3] at hw
    refine wp_st (pc' := 108) (L' := [some (.ref 0), some (.int a1)]) (st' := []) (h' := Hp S) 1 (fun Z => (show zsw (.tableswitch 229 0 16 #[83, 91, 99, 107, 115, 123, 135, 143, 155, 167, 179, 187, 195, 203, 208, 215, 222]) 1 (.int a1 :: []) (fun t st1 => Z (d + 8) m_x_count t [some (.ref 0), some (.int a1)] st1 (Hp S)) = _ from zsw_at (c := 3) (by rw [c3]; decide) (by decide) rfl rfl)) ?_
    refine wp_st (pc' := 109) (L' := [some (.ref 0), some (.int a1)]) (st' := [.ref 0]) (h' := Hp S) 1 (fun Z => rfl) ?_
    refine wp_st (pc' := 112) (L' := [some (.ref 0), some (.int a1)]) (st' := [.ref 3]) (h' := Hp S) 1 (fun Z => gfR (E := E) sh0 rfl _) ?_
    refine wp_st (pc' := 115) (L' := [some (.ref 0), some (.int a1)]) (st' := [.int (S 3 1)]) (h' := Hp S) 1 (fun Z => gfI (E := E) sh3 rfl _) ?_
    exact wp_ret (fun Z => rfl) (Or.inl ⟨_, _, rfl, rfl, hw⟩)
  rw [if_neg c3] at hw
  by_cases c4 : a1 = 4
  · rw [if_pos c4] at hw
    refine wp_st (pc' := 116) (L' := [some (.ref 0), some (.int a1)]) (st' := []) (h' := Hp S) 1 (fun Z => (show zsw (.tableswitch 229 0 16 #[83, 91, 99, 107, 115, 123, 135, 143, 155, 167, 179, 187, 195, 203, 208, 215, 222]) 1 (.int a1 :: []) (fun t st1 => Z (d + 8) m_x_count t [some (.ref 0), some (.int a1)] st1 (Hp S)) = _ from zsw_at (c := 4) (by rw [c4]; decide) (by decide) rfl rfl)) ?_
    refine wp_st (pc' := 117) (L' := [some (.ref 0), some (.int a1)]) (st' := [.ref 0]) (h' := Hp S) 1 (fun Z => rfl) ?_
    refine wp_st (pc' := 120) (L' := [some (.ref 0), some (.int a1)]) (st' := [.ref 25]) (h' := Hp S) 1 (fun Z => gfR (E := E) sh0 rfl _) ?_
    refine wp_call (pc' := 123) (rest := []) (fun Z => rfl) (isO_of sh25) hw ?_
    rintro o h1 ⟨x1, S2, rfl, rfl, hw⟩
    refine ⟨_, rfl, ?_⟩
    show wp E (d + 8) m_x_count 123 [some (.ref 0), some (.int a1)] [.int x1] (Hp S2) (QX (QI Q) X)
    exact wp_ret (fun Z => rfl) (Or.inl ⟨_, _, rfl, rfl, hw⟩)
  rw [if_neg c4] at hw
  by_cases c5 : a1 = 5
  · rw [if_pos c5] at hw
    refine wp_st (pc' := 124) (L' := [some (.ref 0), some (.int a1)]) (st' := []) (h' := Hp S) 1 (fun Z => (show zsw (.tableswitch 229 0 16 #[83, 91, 99, 107, 115, 123, 135, 143, 155, 167, 179, 187, 195, 203, 208, 215, 222]) 1 (.int a1 :: []) (fun t st1 => Z (d + 8) m_x_count t [some (.ref 0), some (.int a1)] st1 (Hp S)) = _ from zsw_at (c := 5) (by rw [c5]; decide) (by decide) rfl rfl)) ?_
    refine wp_st (pc' := 125) (L' := [some (.ref 0), some (.int a1)]) (st' := [.ref 0]) (h' := Hp S) 1 (fun Z => rfl) ?_
    refine wp_st (pc' := 128) (L' := [some (.ref 0), some (.int a1)]) (st' := [.ref 38]) (h' := Hp S) 1 (fun Z => gfR (E := E) sh0 rfl _) ?_
    refine wp_st (pc' := 129) (L' := [some (.ref 0), some (.int a1)]) (st' := [.ref 0, .ref 38]) (h' := Hp S) 1 (fun Z => rfl) ?_
    refine wp_st (pc' := 132) (L' := [some (.ref 0), some (.int a1)]) (st' := [.ref 25, .ref 38]) (h' := Hp S) 1 (fun Z => gfR (E := E) sh0 rfl _) ?_
    refine wp_call (pc' := 135) (rest := []) (fun Z => rfl) (isO_of sh38) hw ?_
    rintro o h1 ⟨x3, S4, rfl, rfl, hw⟩
    refine ⟨_, rfl, ?_⟩
    show wp E (d + 8) m_x_count 135 [some (.ref 0), some (.int a1)] [.int x3] (Hp S4) (QX (QI Q) X)
    exact wp_ret (fun Z => rfl) (Or.inl ⟨_, _, rfl, rfl, hw⟩)
  rw [if_neg c5] at hw
  by_cases c6 : a1 = 6
  · rw [if_pos c6] at hw
    refine wp_st (pc' := 136) (L' := [some (.ref 0), some (.int a1)]) (st' := []) (h' := Hp S) 1 (fun Z => (show zsw (.tableswitch 229 0 16 #[83, 91, 99, 107, 115, 123, 135, 143, 155, 167, 179, 187, 195, 203, 208, 215, 222]) 1 (.int a1 :: []) (fun t st1 => Z (d + 8) m_x_count t [some (.ref 0), some (.int a1)] st1 (Hp S)) = _ from zsw_at (c := 6) (by rw [c6]; decide) (by decide) rfl rfl)) ?_
    refine wp_st (pc' := 137) (L' := [some (.ref 0), some (.int a1)]) (st' := [.ref 0]) (h' := Hp S) 1 (fun Z => rfl) ?_
    refine wp_st (pc' := 140) (L' := [some (.ref 0), some (.int a1)]) (st' := [.ref 25]) (h' := Hp S) 1 (fun Z => gfR (E := E) sh0 rfl _) ?_
    refine wp_call (pc' := 143) (rest := []) (fun Z => rfl) (isO_of sh25) hw ?_
    rintro o h1 ⟨x5, S6, rfl, rfl, hw⟩
    refine ⟨_, rfl, ?_⟩
    show wp E (d + 8) m_x_count 143 [some (.ref 0), some (.int a1)] [.int x5] (Hp S6) (QX (QI Q) X)
    exact wp_ret (fun Z => rfl) (Or.inl ⟨_, _, rfl, rfl, hw⟩)
  rw [if_neg c6] at hw
  by_cases c7 : a1 = 7
  · rw [if_pos c7] at hw
    refine wp_st (pc' := 144) (L' := [some (.ref 0), some (.int a1)]) (st' := []) (h' := Hp S) 1 (fun Z => (show zsw (.tableswitch 229 0 16 #[83, 91, 99, 107, 115, 123, 135, 143, 155, 167, 179, 187, 195, 203, 208, 215, 222]) 1 (.int a1 :: []) (fun t st1 => Z (d + 8) m_x_count t [some (.ref 0), some (.int a1)] st1 (Hp S)) = _ from zsw_at (c := 7) (by rw [c7]; decide) (by decide) rfl rfl)) ?_
    refine wp_st (pc' := 145) (L' := [some (.ref 0), some (.int a1)]) (st' := [.ref 0]) (h' := Hp S) 1 (fun Z => rfl) ?_
    refine wp_st (pc' := 148) (L' := [some (.ref 0), some (.int a1)]) (st' := [.ref 38]) (h' := Hp S) 1 (fun Z => gfR (E := E) sh0 rfl _) ?_
    refine wp_st (pc' := 149) (L' := [some (.ref 0), some (.int a1)]) (st' := [.ref 0, .ref 38]) (h' := Hp S) 1 (fun Z => rfl) ?_
    refine wp_st (pc' := 152) (L' := [some (.ref 0), some (.int a1)]) (st' := [.ref 25, .ref 38]) (h' := Hp S) 1 (fun Z => gfR (E := E) sh0 rfl _) ?_
    refine wp_call (pc' := 155) (rest := []) (fun Z => rfl) (isO_of sh38) hw ?_
    rintro o h1 ⟨x7, S8, rfl, rfl, hw⟩
    refine ⟨_, rfl, ?_⟩
    show wp E (d + 8) m_x_count 155 [some (.ref 0), some (.int a1)] [.int x7] (Hp S8) (QX (QI Q) X)
    exact wp_ret (fun Z => rfl) (Or.inl ⟨_, _, rfl, rfl, hw⟩)
  rw [if_neg c7] at hw
  by_cases c8 : a1 = 8
  · rw [if_pos c8] at hw
    refine wp_st (pc' := 156) (L' := [some (.ref 0), some (.int a1)]) (st' := []) (h' := Hp S) 1 (fun Z => (show zsw (.tableswitch 229 0 16 #[83, 91, 99, 107, 115, 123, 135, 143, 155, 167, 179, 187, 195, 203, 208, 215, 222]) 1 (.int a1 :: []) (fun t st1 => Z (d + 8) m_x_count t [some (.ref 0), some (.int a1)] st1 (Hp S)) = _ from zsw_at (c := 8) (by rw [c8]; decide) (by decide) rfl rfl)) ?_
    refine wp_st (pc' := 157) (L' := [some (.ref 0), some (.int a1)]) (st' := [.ref 0]) (h' := Hp S) 1 (fun Z => rfl) ?_
    refine wp_st (pc' := 160) (L' := [some (.ref 0), some (.int a1)]) (st' := [.ref 38]) (h' := Hp S) 1 (fun Z => gfR (E := E) sh0 rfl _) ?_
    refine wp_st (pc' := 161) (L' := [some (.ref 0), some (.int a1)]) (st' := [.ref 0, .ref 38]) (h' := Hp S) 1 (fun Z => rfl) ?_
    refine wp_st (pc' := 164) (L' := [some (.ref 0), some (.int a1)]) (st' := [.ref 25, .ref 38]) (h' := Hp S) 1 (fun Z => gfR (E := E) sh0 rfl _) ?_
    refine wp_call (pc' := 167) (rest := []) (fun Z => rfl) (isO_of sh38) hw ?_
    rintro o h1 ⟨x9, S10, rfl, rfl, hw⟩
    refine ⟨_, rfl, ?_⟩
    show wp E (d + 8) m_x_count 167 [some (.ref 0), some (.int a1)] [.int x9] (Hp S10) (QX (QI Q) X)
    exact wp_ret (fun Z => rfl) (Or.inl ⟨_, _, rfl, rfl, hw⟩)
  rw [if_neg c8] at hw
  by_cases c9 : a1 = 9
  · rw [if_pos c9] at hw
    refine wp_st (pc' := 168) (L' := [some (.ref 0), some (.int a1)]) (st' := []) (h' := Hp S) 1 (fun Z => (show zsw (.tableswitch 229 0 16 #[83, 91, 99, 107, 115, 123, 135, 143, 155, 167, 179, 187, 195, 203, 208, 215, 222]) 1 (.int a1 :: []) (fun t st1 => Z (d + 8) m_x_count t [some (.ref 0), some (.int a1)] st1 (Hp S)) = _ from zsw_at (c := 9) (by rw [c9]; decide) (by decide) rfl rfl)) ?_
    refine wp_st (pc' := 169) (L' := [some (.ref 0), some (.int a1)]) (st' := [.ref 0]) (h' := Hp S) 1 (fun Z => rfl) ?_
    refine wp_st (pc' := 172) (L' := [some (.ref 0), some (.int a1)]) (st' := [.ref 38]) (h' := Hp S) 1 (fun Z => gfR (E := E) sh0 rfl _) ?_
    refine wp_st (pc' := 173) (L' := [some (.ref 0), some (.int a1)]) (st' := [.ref 0, .ref 38]) (h' := Hp S) 1 (fun Z => rfl) ?_
    refine wp_st (pc' := 176) (L' := [some (.ref 0), some (.int a1)]) (st' := [.ref 25, .ref 38]) (h' := Hp S) 1 (fun Z => gfR (E := E) sh0 rfl _) ?_
    refine wp_call (pc' := 179) (rest := []) (fun Z => rfl) (isO_of sh38) hw ?_
    rintro o h1 ⟨x11, S12, rfl, rfl, hw⟩
    refine ⟨_, rfl, ?_⟩
    show wp E (d + 8) m_x_count 179 [some (.ref 0), some (.int a1)] [.int x11] (Hp S12) (QX (QI Q) X)
    exact wp_ret (fun Z => rfl) (Or.inl ⟨_, _, rfl, rfl, hw⟩)
  rw [if_neg c9] at hw
  by_cases c10 : a1 = 10
  · rw [if_pos c10] at hw
    refine wp_st (pc' := 180) (L' := [some (.ref 0), some (.int a1)]) (st' := []) (h' := Hp S) 1 (fun Z => (show zsw (.tableswitch 229 0 16 #[83, 91, 99, 107, 115, 123, 135, 143, 155, 167, 179, 187, 195, 203, 208, 215, 222]) 1 (.int a1 :: []) (fun t st1 => Z (d + 8) m_x_count t [some (.ref 0), some (.int a1)] st1 (Hp S)) = _ from zsw_at (c := 10) (by rw [c10]; decide) (by decide) rfl rfl)) ?_
    refine wp_st (pc' := 181) (L' := [some (.ref 0), some (.int a1)]) (st' := [.ref 0]) (h' := Hp S) 1 (fun Z => rfl) ?_
    refine wp_st (pc' := 184) (L' := [some (.ref 0), some (.int a1)]) (st' := [.ref 46]) (h' := Hp S) 1 (fun Z => gfR (E := E) sh0 rfl _) ?_
    refine wp_call (pc' := 187) (rest := []) (fun Z => rfl) (isO_of sh46) hw ?_
    rintro o h1 ⟨x13, S14, rfl, rfl, hw⟩
    refine ⟨_, rfl, ?_⟩
    show wp E (d + 8) m_x_count 187 [some (.ref 0), some (.int a1)] [.int x13] (Hp S14) (QX (QI Q) X)
    exact wp_ret (fun Z => rfl) (Or.inl ⟨_, _, rfl, rfl, hw⟩)
  rw [if_neg c10] at hw
  by_cases c11 : a1 = 11
  · rw [if_pos c11] at hw
    refine wp_st (pc' := 188) (L' := [some (.ref 0), some (.int a1)]) (st' := []) (h' := Hp S) 1 (fun Z => (show zsw (.tableswitch 229 0 16 #[83, 91, 99, 107, 115, 123, 135, 143, 155, 167, 179, 187, 195, 203, 208, 215, 222]) 1 (.int a1 :: []) (fun t st1 => Z (d + 8) m_x_count t [some (.ref 0), some (.int a1)] st1 (Hp S)) = _ from zsw_at (c := 11) (by rw [c11]; decide) (by decide) rfl rfl)) ?_
    refine wp_st (pc' := 189) (L' := [some (.ref 0), some (.int a1)]) (st' := [.ref 0]) (h' := Hp S) 1 (fun Z => rfl) ?_
    refine wp_st (pc' := 192) (L' := [some (.ref 0), some (.int a1)]) (st' := [.ref 24]) (h' := Hp S) 1 (fun Z => gfR (E := E) sh0 rfl _) ?_
    refine wp_st (pc' := 195) (L' := [some (.ref 0), some (.int a1)]) (st' := [.int (S 24 1)]) (h' := Hp S) 1 (fun Z => gfI (E := E) sh24 rfl _) ?_
    exact wp_ret (fun Z => rfl) (Or.inl ⟨_, _, rfl, rfl, hw⟩)
  rw [if_neg c11] at hw
  by_cases c12 : a1 = 12
  · rw [if_pos c12] at hw
    refine wp_st (pc' := 196) (L' := [some (.ref 0), some (.int a1)]) (st' := []) (h' := Hp S) 1 (fun Z => (show zsw (.tableswitch 229 0 16 #[83, 91, 99, 107, 115, 123, 135, 143, 155, 167, 179, 187, 195, 203, 208, 215, 222]) 1 (.int a1 :: []) (fun t st1 => Z (d + 8) m_x_count t [some (.ref 0), some (.int a1)] st1 (Hp S)) = _ from zsw_at (c := 12) (by rw [c12]; decide) (by decide) rfl rfl)) ?_
    refine wp_st (pc' := 197) (L' := [some (.ref 0), some (.int a1)]) (st' := [.ref 0]) (h' := Hp S) 1 (fun Z => rfl) ?_
    refine wp_st (pc' := 200) (L' := [some (.ref 0), some (.int a1)]) (st' := [.ref 24]) (h' := Hp S) 1 (fun Z => gfR (E := E) sh0 rfl _) ?_
    refine wp_st (pc' := 203) (L' := [some (.ref 0), some (.int a1)]) (st' := [.int (S 24 3)]) (h' := Hp S) 1 (fun Z => gfI (E := E) sh24 rfl _) ?_
    exact wp_ret (fun Z => rfl) (Or.inl ⟨_, _, rfl, rfl, hw⟩)
  rw [if_neg c12] at hw
  by_cases c13 : a1 = 13
  · rw [if_pos c13] at hw
    refine wp_st (pc' := 204) (L' := [some (.ref 0), some (.int a1)]) (st' := []) (h' := Hp S) 1 (fun Z => (show zsw (.tableswitch 229 0 16 #[83, 91, 99, 107, 115, 123, 135, 143, 155, 167, 179, 187, 195, 203, 208, 215, 222]) 1 (.int a1 :: []) (fun t st1 => Z (d + 8) m_x_count t [some (.ref 0), some (.int a1)] st1 (Hp S)) = _ from zsw_at (c := 13) (by rw [c13]; decide) (by decide) rfl rfl)) ?_
    refine wp_st (pc' := 205) (L' := [some (.ref 0), some (.int a1)]) (st' := [.ref 0]) (h' := Hp S) 1 (fun Z => rfl) ?_
    refine wp_st (pc' := 208) (L' := [some (.ref 0), some (.int a1)]) (st' := [.int (S 0 1)]) (h' := Hp S) 1 (fun Z => gfI (E := E) sh0 rfl _) ?_
    exact wp_ret (fun Z => rfl) (Or.inl ⟨_, _, rfl, rfl, hw⟩)
  rw [if_neg c13] at hw
  by_cases c14 : a1 = 14
  · rw [if_pos c14] at hw
    refine wp_st (pc' := 209) (L' := [some (.ref 0), some (.int a1)]) (st' := []) (h' := Hp S) 1 (fun Z => (show zsw (.tableswitch 229 0 16 #[83, 91, 99, 107, 115, 123, 135, 143, 155, 167, 179, 187, 195, 203, 208, 215, 222]) 1 (.int a1 :: []) (fun t st1 => Z (d + 8) m_x_count t [some (.ref 0), some (.int a1)] st1 (Hp S)) = _ from zsw_at (c := 14) (by rw [c14]; decide) (by decide) rfl rfl)) ?_
    refine wp_st (pc' := 210) (L' := [some (.ref 0), some (.int a1)]) (st' := [.ref 0]) (h' := Hp S) 1 (fun Z => rfl) ?_
    refine wp_st (pc' := 213) (L' := [some (.ref 0), some (.int a1)]) (st' := [.ref 2]) (h' := Hp S) 1 (fun Z => gfR (E := E) sh0 rfl _) ?_
    refine wp_st (pc' := 214) (L' := [some (.ref 0), some (.int a1)]) (st' := [.int 0, .ref 2]) (h' := Hp S) 1 (fun Z => rfl) ?_
    refine wp_st (pc' := 215) (L' := [some (.ref 0), some (.int a1)]) (st' := [.int (S 2 0)]) (h' := Hp S) 1 (fun Z => ldN (E := E) sh2 (by decide) (by decide) [] (fun st => Z (d + 8) m_x_count 215 [some (.ref 0), some (.int a1)] st (Hp S))) ?_
    exact wp_ret (fun Z => rfl) (Or.inl ⟨_, _, rfl, rfl, hw⟩)
  rw [if_neg c14] at hw
  by_cases c15 : a1 = 15
  · rw [if_pos c15] at hw
    refine wp_st (pc' := 216) (L' := [some (.ref 0), some (.int a1)]) (st' := []) (h' := Hp S) 1 (fun Z => (show zsw (.tableswitch 229 0 16 #[83, 91, 99, 107, 115, 123, 135, 143, 155, 167, 179, 187, 195, 203, 208, 215, 222]) 1 (.int a1 :: []) (fun t st1 => Z (d + 8) m_x_count t [some (.ref 0), some (.int a1)] st1 (Hp S)) = _ from zsw_at (c := 15) (by rw [c15]; decide) (by decide) rfl rfl)) ?_
    refine wp_st (pc' := 217) (L' := [some (.ref 0), some (.int a1)]) (st' := [.ref 0]) (h' := Hp S) 1 (fun Z => rfl) ?_
    refine wp_st (pc' := 220) (L' := [some (.ref 0), some (.int a1)]) (st' := [.ref 2]) (h' := Hp S) 1 (fun Z => gfR (E := E) sh0 rfl _) ?_
    refine wp_st (pc' := 221) (L' := [some (.ref 0), some (.int a1)]) (st' := [.int 1, .ref 2]) (h' := Hp S) 1 (fun Z => rfl) ?_
    refine wp_st (pc' := 222) (L' := [some (.ref 0), some (.int a1)]) (st' := [.int (S 2 1)]) (h' := Hp S) 1 (fun Z => ldN (E := E) sh2 (by decide) (by decide) [] (fun st => Z (d + 8) m_x_count 222 [some (.ref 0), some (.int a1)] st (Hp S))) ?_
    exact wp_ret (fun Z => rfl) (Or.inl ⟨_, _, rfl, rfl, hw⟩)
  rw [if_neg c15] at hw
  by_cases c16 : a1 = 16
  · rw [if_pos c16] at hw
    refine wp_st (pc' := 223) (L' := [some (.ref 0), some (.int a1)]) (st' := []) (h' := Hp S) 1 (fun Z => (show zsw (.tableswitch 229 0 16 #[83, 91, 99, 107, 115, 123, 135, 143, 155, 167, 179, 187, 195, 203, 208, 215, 222]) 1 (.int a1 :: []) (fun t st1 => Z (d + 8) m_x_count t [some (.ref 0), some (.int a1)] st1 (Hp S)) = _ from zsw_at (c := 16) (by rw [c16]; decide) (by decide) rfl rfl)) ?_
    refine wp_st (pc' := 224) (L' := [some (.ref 0), some (.int a1)]) (st' := [.ref 0]) (h' := Hp S) 1 (fun Z => rfl) ?_
    refine wp_st (pc' := 227) (L' := [some (.ref 0), some (.int a1)]) (st' := [.ref 2]) (h' := Hp S) 1 (fun Z => gfR (E := E) sh0 rfl _) ?_
    refine wp_st (pc' := 228) (L' := [some (.ref 0), some (.int a1)]) (st' := [.int 2, .ref 2]) (h' := Hp S) 1 (fun Z => rfl) ?_
    refine wp_st (pc' := 229) (L' := [some (.ref 0), some (.int a1)]) (st' := [.int (S 2 2)]) (h' := Hp S) 1 (fun Z => ldN (E := E) sh2 (by decide) (by decide) [] (fun st => Z (d + 8) m_x_count 229 [some (.ref 0), some (.int a1)] st (Hp S))) ?_
    exact wp_ret (fun Z => rfl) (Or.inl ⟨_, _, rfl, rfl, hw⟩)
  rw [if_neg c16] at hw
  have hs : (a1).toInt < (0 : Int) ∨ (16 : Int) < (a1).toInt := by
    refine zoutG (n := 17) (by decide) (by decide) (by decide) ?_
    intro k hk
    rcases k with _ | _ | _ | _ | _ | _ | _ | _ | _ | _ | _ | _ | _ | _ | _ | _ | _ | k
    · exact c0
    · exact c1
    · exact c2
    · exact c3
    · exact c4
    · exact c5
    · exact c6
    · exact c7
    · exact c8
    · exact c9
    · exact c10
    · exact c11
    · exact c12
    · exact c13
    · exact c14
    · exact c15
    · exact c16
    · omega
  refine wp_st (pc' := 230) (L' := [some (.ref 0), some (.int a1)]) (st' := []) (h' := Hp S) 1 (fun Z => (show zsw (.tableswitch 229 0 16 #[83, 91, 99, 107, 115, 123, 135, 143, 155, 167, 179, 187, 195, 203, 208, 215, 222]) 1 (.int a1 :: []) (fun t st1 => Z (d + 8) m_x_count t [some (.ref 0), some (.int a1)] st1 (Hp S)) = _ from zsw_out hs rfl)) ?_
  obtain ⟨hn, hw⟩ := hw
  refine wp_ret (h' := Hp (upT S)) (o := .inr 0) (fun Z => ?_) (Or.inr ⟨_, _, rfl, rfl, hw⟩)
  rw [upT_eq hn]
  rfl
set_option maxRecDepth 4000 in
theorem w_x_person {E : zX} {d : Nat} {S : St} {a1 : Int32} {a2 : Int32} {Q : Int32 → St → Prop} {X : Nat → St → Prop} (hd : 8 ≤ d) 
    (hw : k_x_needPerson E (d - 1) S a1 (fun S2 =>
    if a2 = 0 then (
        ∃ m3 : Nat, a1 = nI m3 ∧ m3 < 7 ∧
        Q (S2 4 m3) S2)
      else if a2 = 1 then (
        k_Scene_mildOf E (d - 1) S2 25 a1 (fun x4 S5 =>
        Q x4 S5))
      else if a2 = 2 then (
        k_Scene_temperOf E (d - 1) S2 25 a1 (fun x6 S7 =>
        Q x6 S7))
      else if a2 = 3 then (
        k_Scene_shoutedBy E (d - 1) S2 25 a1 (fun x8 S9 =>
        Q x8 S9))
      else if a2 = 4 then (
        k_Scene_heardBy E (d - 1) S2 25 a1 (fun x10 S11 =>
        Q x10 S11))
      else if a2 = 5 then (
        k_Downs_ownedBy E (d - 1) S2 25 a1 (fun x12 S13 =>
        Q x12 S13))
      else if a2 = 6 then (
        k_Downs_nearestWhite E (d - 1) S2 25 a1 (fun x14 S15 =>
        Q x14 S15))
      else (
        (S2 1000 0).toNatClampNeg < 1000000 ∧ X 0 (upT S2))) X) :
    k_x_person E d S a1 a2 Q X := by
  obtain ⟨d, rfl⟩ := Nat.exists_eq_add_of_le' hd
  show wp E (d + 8) m_x_person 0 [some (.ref 0), some (.int a1), some (.int a2)] [] (Hp S) (QX (QI Q) X)
  refine wp_st (pc' := 2) (L' := [some (.ref 0), some (.int a1), some (.int a2)]) (st' := [.int a1, .ref 0]) (h' := Hp S) 2 (fun Z => rfl) ?_
  refine wp_callX (pc' := 5) (rest := []) (fun Z => rfl) (isO_of sh0) hw ?_
  rintro o h1 (⟨S2, rfl, rfl, hw⟩ | ⟨x, S9, rfl, rfl, hw⟩)
  · refine Or.inl ⟨_, rfl, ?_⟩
    show wp E (d + 8) m_x_person 5 [some (.ref 0), some (.int a1), some (.int a2)] [] (Hp S2) (QX (QI Q) X)
    refine wp_st (pc' := 6) (L' := [some (.ref 0), some (.int a1), some (.int a2)]) (st' := [.int a2]) (h' := Hp S2) 1 (fun Z => rfl) ?_
    by_cases c0 : a2 = 0
    · rw [if_pos c0] at hw
      refine wp_st (pc' := 48) (L' := [some (.ref 0), some (.int a1), some (.int a2)]) (st' := []) (h' := Hp S2) 1 (fun Z => (show zsw (.tableswitch 114 0 6 #[42, 52, 61, 70, 79, 88, 101]) 6 (.int a2 :: []) (fun t st1 => Z (d + 8) m_x_person t [some (.ref 0), some (.int a1), some (.int a2)] st1 (Hp S2)) = _ from zsw_at (c := 0) (by rw [c0]; decide) (by decide) rfl rfl)) ?_
      refine wp_st (pc' := 49) (L' := [some (.ref 0), some (.int a1), some (.int a2)]) (st' := [.ref 0]) (h' := Hp S2) 1 (fun Z => rfl) ?_
      refine wp_st (pc' := 52) (L' := [some (.ref 0), some (.int a1), some (.int a2)]) (st' := [.ref 3]) (h' := Hp S2) 1 (fun Z => gfR (E := E) sh0 rfl _) ?_
      refine wp_st (pc' := 55) (L' := [some (.ref 0), some (.int a1), some (.int a2)]) (st' := [.ref 4]) (h' := Hp S2) 1 (fun Z => gfR (E := E) sh3 rfl _) ?_
      refine wp_st (pc' := 56) (L' := [some (.ref 0), some (.int a1), some (.int a2)]) (st' := [.int a1, .ref 4]) (h' := Hp S2) 1 (fun Z => rfl) ?_
      obtain ⟨m3, em, hi, hw⟩ := hw
      refine wp_st (pc' := 57) (L' := [some (.ref 0), some (.int a1), some (.int a2)]) (st' := [.int (S2 4 m3)]) (h' := Hp S2) 1 (fun Z => (congrArg (fun v => zit E 1 Z (d + 8) m_x_person 56 [some (.ref 0), some (.int a1), some (.int a2)] [.int v, .ref 4] (Hp S2)) em).trans (ldN (E := E) sh4 (by decide) hi [] (fun st => Z (d + 8) m_x_person 57 [some (.ref 0), some (.int a1), some (.int a2)] st (Hp S2)))) ?_
      exact wp_ret (fun Z => rfl) (Or.inl ⟨_, _, rfl, rfl, hw⟩)
    rw [if_neg c0] at hw
    by_cases c1 : a2 = 1
    · rw [if_pos c1] at hw
      refine wp_st (pc' := 58) (L' := [some (.ref 0), some (.int a1), some (.int a2)]) (st' := []) (h' := Hp S2) 1 (fun Z => (show zsw (.tableswitch 114 0 6 #[42, 52, 61, 70, 79, 88, 101]) 6 (.int a2 :: []) (fun t st1 => Z (d + 8) m_x_person t [some (.ref 0), some (.int a1), some (.int a2)] st1 (Hp S2)) = _ from zsw_at (c := 1) (by rw [c1]; decide) (by decide) rfl rfl)) ?_
      refine wp_st (pc' := 59) (L' := [some (.ref 0), some (.int a1), some (.int a2)]) (st' := [.ref 0]) (h' := Hp S2) 1 (fun Z => rfl) ?_
      refine wp_st (pc' := 62) (L' := [some (.ref 0), some (.int a1), some (.int a2)]) (st' := [.ref 25]) (h' := Hp S2) 1 (fun Z => gfR (E := E) sh0 rfl _) ?_
      refine wp_st (pc' := 63) (L' := [some (.ref 0), some (.int a1), some (.int a2)]) (st' := [.int a1, .ref 25]) (h' := Hp S2) 1 (fun Z => rfl) ?_
      refine wp_call (pc' := 66) (rest := []) (fun Z => rfl) (isO_of sh25) hw ?_
      rintro o h1 ⟨x4, S5, rfl, rfl, hw⟩
      refine ⟨_, rfl, ?_⟩
      show wp E (d + 8) m_x_person 66 [some (.ref 0), some (.int a1), some (.int a2)] [.int x4] (Hp S5) (QX (QI Q) X)
      exact wp_ret (fun Z => rfl) (Or.inl ⟨_, _, rfl, rfl, hw⟩)
    rw [if_neg c1] at hw
    by_cases c2 : a2 = 2
    · rw [if_pos c2] at hw
      refine wp_st (pc' := 67) (L' := [some (.ref 0), some (.int a1), some (.int a2)]) (st' := []) (h' := Hp S2) 1 (fun Z => (show zsw (.tableswitch 114 0 6 #[42, 52, 61, 70, 79, 88, 101]) 6 (.int a2 :: []) (fun t st1 => Z (d + 8) m_x_person t [some (.ref 0), some (.int a1), some (.int a2)] st1 (Hp S2)) = _ from zsw_at (c := 2) (by rw [c2]; decide) (by decide) rfl rfl)) ?_
      refine wp_st (pc' := 68) (L' := [some (.ref 0), some (.int a1), some (.int a2)]) (st' := [.ref 0]) (h' := Hp S2) 1 (fun Z => rfl) ?_
      refine wp_st (pc' := 71) (L' := [some (.ref 0), some (.int a1), some (.int a2)]) (st' := [.ref 25]) (h' := Hp S2) 1 (fun Z => gfR (E := E) sh0 rfl _) ?_
      refine wp_st (pc' := 72) (L' := [some (.ref 0), some (.int a1), some (.int a2)]) (st' := [.int a1, .ref 25]) (h' := Hp S2) 1 (fun Z => rfl) ?_
      refine wp_call (pc' := 75) (rest := []) (fun Z => rfl) (isO_of sh25) hw ?_
      rintro o h1 ⟨x6, S7, rfl, rfl, hw⟩
      refine ⟨_, rfl, ?_⟩
      show wp E (d + 8) m_x_person 75 [some (.ref 0), some (.int a1), some (.int a2)] [.int x6] (Hp S7) (QX (QI Q) X)
      exact wp_ret (fun Z => rfl) (Or.inl ⟨_, _, rfl, rfl, hw⟩)
    rw [if_neg c2] at hw
    by_cases c3 : a2 = 3
    · rw [if_pos c3] at hw
      refine wp_st (pc' := 76) (L' := [some (.ref 0), some (.int a1), some (.int a2)]) (st' := []) (h' := Hp S2) 1 (fun Z => (show zsw (.tableswitch 114 0 6 #[42, 52, 61, 70, 79, 88, 101]) 6 (.int a2 :: []) (fun t st1 => Z (d + 8) m_x_person t [some (.ref 0), some (.int a1), some (.int a2)] st1 (Hp S2)) = _ from zsw_at (c := 3) (by rw [c3]; decide) (by decide) rfl rfl)) ?_
      refine wp_st (pc' := 77) (L' := [some (.ref 0), some (.int a1), some (.int a2)]) (st' := [.ref 0]) (h' := Hp S2) 1 (fun Z => rfl) ?_
      refine wp_st (pc' := 80) (L' := [some (.ref 0), some (.int a1), some (.int a2)]) (st' := [.ref 25]) (h' := Hp S2) 1 (fun Z => gfR (E := E) sh0 rfl _) ?_
      refine wp_st (pc' := 81) (L' := [some (.ref 0), some (.int a1), some (.int a2)]) (st' := [.int a1, .ref 25]) (h' := Hp S2) 1 (fun Z => rfl) ?_
      refine wp_call (pc' := 84) (rest := []) (fun Z => rfl) (isO_of sh25) hw ?_
      rintro o h1 ⟨x8, S9, rfl, rfl, hw⟩
      refine ⟨_, rfl, ?_⟩
      show wp E (d + 8) m_x_person 84 [some (.ref 0), some (.int a1), some (.int a2)] [.int x8] (Hp S9) (QX (QI Q) X)
      exact wp_ret (fun Z => rfl) (Or.inl ⟨_, _, rfl, rfl, hw⟩)
    rw [if_neg c3] at hw
    by_cases c4 : a2 = 4
    · rw [if_pos c4] at hw
      refine wp_st (pc' := 85) (L' := [some (.ref 0), some (.int a1), some (.int a2)]) (st' := []) (h' := Hp S2) 1 (fun Z => (show zsw (.tableswitch 114 0 6 #[42, 52, 61, 70, 79, 88, 101]) 6 (.int a2 :: []) (fun t st1 => Z (d + 8) m_x_person t [some (.ref 0), some (.int a1), some (.int a2)] st1 (Hp S2)) = _ from zsw_at (c := 4) (by rw [c4]; decide) (by decide) rfl rfl)) ?_
      refine wp_st (pc' := 86) (L' := [some (.ref 0), some (.int a1), some (.int a2)]) (st' := [.ref 0]) (h' := Hp S2) 1 (fun Z => rfl) ?_
      refine wp_st (pc' := 89) (L' := [some (.ref 0), some (.int a1), some (.int a2)]) (st' := [.ref 25]) (h' := Hp S2) 1 (fun Z => gfR (E := E) sh0 rfl _) ?_
      refine wp_st (pc' := 90) (L' := [some (.ref 0), some (.int a1), some (.int a2)]) (st' := [.int a1, .ref 25]) (h' := Hp S2) 1 (fun Z => rfl) ?_
      refine wp_call (pc' := 93) (rest := []) (fun Z => rfl) (isO_of sh25) hw ?_
      rintro o h1 ⟨x10, S11, rfl, rfl, hw⟩
      refine ⟨_, rfl, ?_⟩
      show wp E (d + 8) m_x_person 93 [some (.ref 0), some (.int a1), some (.int a2)] [.int x10] (Hp S11) (QX (QI Q) X)
      exact wp_ret (fun Z => rfl) (Or.inl ⟨_, _, rfl, rfl, hw⟩)
    rw [if_neg c4] at hw
    by_cases c5 : a2 = 5
    · rw [if_pos c5] at hw
      refine wp_st (pc' := 94) (L' := [some (.ref 0), some (.int a1), some (.int a2)]) (st' := []) (h' := Hp S2) 1 (fun Z => (show zsw (.tableswitch 114 0 6 #[42, 52, 61, 70, 79, 88, 101]) 6 (.int a2 :: []) (fun t st1 => Z (d + 8) m_x_person t [some (.ref 0), some (.int a1), some (.int a2)] st1 (Hp S2)) = _ from zsw_at (c := 5) (by rw [c5]; decide) (by decide) rfl rfl)) ?_
      refine wp_st (pc' := 95) (L' := [some (.ref 0), some (.int a1), some (.int a2)]) (st' := [.ref 0]) (h' := Hp S2) 1 (fun Z => rfl) ?_
      refine wp_st (pc' := 98) (L' := [some (.ref 0), some (.int a1), some (.int a2)]) (st' := [.ref 38]) (h' := Hp S2) 1 (fun Z => gfR (E := E) sh0 rfl _) ?_
      refine wp_st (pc' := 99) (L' := [some (.ref 0), some (.int a1), some (.int a2)]) (st' := [.ref 0, .ref 38]) (h' := Hp S2) 1 (fun Z => rfl) ?_
      refine wp_st (pc' := 102) (L' := [some (.ref 0), some (.int a1), some (.int a2)]) (st' := [.ref 25, .ref 38]) (h' := Hp S2) 1 (fun Z => gfR (E := E) sh0 rfl _) ?_
      refine wp_st (pc' := 103) (L' := [some (.ref 0), some (.int a1), some (.int a2)]) (st' := [.int a1, .ref 25, .ref 38]) (h' := Hp S2) 1 (fun Z => rfl) ?_
      refine wp_call (pc' := 106) (rest := []) (fun Z => rfl) (isO_of sh38) hw ?_
      rintro o h1 ⟨x12, S13, rfl, rfl, hw⟩
      refine ⟨_, rfl, ?_⟩
      show wp E (d + 8) m_x_person 106 [some (.ref 0), some (.int a1), some (.int a2)] [.int x12] (Hp S13) (QX (QI Q) X)
      exact wp_ret (fun Z => rfl) (Or.inl ⟨_, _, rfl, rfl, hw⟩)
    rw [if_neg c5] at hw
    by_cases c6 : a2 = 6
    · rw [if_pos c6] at hw
      refine wp_st (pc' := 107) (L' := [some (.ref 0), some (.int a1), some (.int a2)]) (st' := []) (h' := Hp S2) 1 (fun Z => (show zsw (.tableswitch 114 0 6 #[42, 52, 61, 70, 79, 88, 101]) 6 (.int a2 :: []) (fun t st1 => Z (d + 8) m_x_person t [some (.ref 0), some (.int a1), some (.int a2)] st1 (Hp S2)) = _ from zsw_at (c := 6) (by rw [c6]; decide) (by decide) rfl rfl)) ?_
      refine wp_st (pc' := 108) (L' := [some (.ref 0), some (.int a1), some (.int a2)]) (st' := [.ref 0]) (h' := Hp S2) 1 (fun Z => rfl) ?_
      refine wp_st (pc' := 111) (L' := [some (.ref 0), some (.int a1), some (.int a2)]) (st' := [.ref 38]) (h' := Hp S2) 1 (fun Z => gfR (E := E) sh0 rfl _) ?_
      refine wp_st (pc' := 112) (L' := [some (.ref 0), some (.int a1), some (.int a2)]) (st' := [.ref 0, .ref 38]) (h' := Hp S2) 1 (fun Z => rfl) ?_
      refine wp_st (pc' := 115) (L' := [some (.ref 0), some (.int a1), some (.int a2)]) (st' := [.ref 25, .ref 38]) (h' := Hp S2) 1 (fun Z => gfR (E := E) sh0 rfl _) ?_
      refine wp_st (pc' := 116) (L' := [some (.ref 0), some (.int a1), some (.int a2)]) (st' := [.int a1, .ref 25, .ref 38]) (h' := Hp S2) 1 (fun Z => rfl) ?_
      refine wp_call (pc' := 119) (rest := []) (fun Z => rfl) (isO_of sh38) hw ?_
      rintro o h1 ⟨x14, S15, rfl, rfl, hw⟩
      refine ⟨_, rfl, ?_⟩
      show wp E (d + 8) m_x_person 119 [some (.ref 0), some (.int a1), some (.int a2)] [.int x14] (Hp S15) (QX (QI Q) X)
      exact wp_ret (fun Z => rfl) (Or.inl ⟨_, _, rfl, rfl, hw⟩)
    rw [if_neg c6] at hw
    have hs : (a2).toInt < (0 : Int) ∨ (6 : Int) < (a2).toInt := by
      refine zoutG (n := 7) (by decide) (by decide) (by decide) ?_
      intro k hk
      rcases k with _ | _ | _ | _ | _ | _ | _ | k
      · exact c0
      · exact c1
      · exact c2
      · exact c3
      · exact c4
      · exact c5
      · exact c6
      · omega
    refine wp_st (pc' := 120) (L' := [some (.ref 0), some (.int a1), some (.int a2)]) (st' := []) (h' := Hp S2) 1 (fun Z => (show zsw (.tableswitch 114 0 6 #[42, 52, 61, 70, 79, 88, 101]) 6 (.int a2 :: []) (fun t st1 => Z (d + 8) m_x_person t [some (.ref 0), some (.int a1), some (.int a2)] st1 (Hp S2)) = _ from zsw_out hs rfl)) ?_
    obtain ⟨hn, hw⟩ := hw
    refine wp_ret (h' := Hp (upT S2)) (o := .inr 0) (fun Z => ?_) (Or.inr ⟨_, _, rfl, rfl, hw⟩)
    rw [upT_eq hn]
    rfl
  · exact Or.inr ⟨x, rfl, Or.inr ⟨_, _, rfl, rfl, hw⟩⟩
set_option maxRecDepth 4000 in
theorem w_x_needPerson {E : zX} {d : Nat} {S : St} {a1 : Int32} {Q : St → Prop} {X : Nat → St → Prop} (hd : 8 ≤ d) 
    (hw : if a1 < 0 then (
      (S 1000 0).toNatClampNeg < 1000000 ∧ X 0 (upT S))
    else (
      if a1 < (S 3 3) then (
        Q S)
      else (
        (S 1000 0).toNatClampNeg < 1000000 ∧ X 0 (upT S)))) :
    k_x_needPerson E d S a1 Q X := by
  obtain ⟨d, rfl⟩ := Nat.exists_eq_add_of_le' hd
  show wp E (d + 8) m_x_needPerson 0 [some (.ref 0), some (.int a1)] [] (Hp S) (QX (QV Q) X)
  refine wp_st (pc' := 1) (L' := [some (.ref 0), some (.int a1)]) (st' := [.int a1]) (h' := Hp S) 1 (fun Z => rfl) ?_
  by_cases hc : a1 < 0
  · rw [if_pos hc] at hw
    refine wp_st (pc' := 15) (L' := [some (.ref 0), some (.int a1)]) (st' := []) (h' := Hp S) 1 (fun Z => if_pos hc) ?_
    obtain ⟨hn, hw⟩ := hw
    refine wp_ret (h' := Hp (upT S)) (o := .inr 0) (fun Z => ?_) (Or.inr ⟨_, _, rfl, rfl, hw⟩)
    rw [upT_eq hn]
    rfl
  · rw [if_neg hc] at hw
    refine wp_st (pc' := 4) (L' := [some (.ref 0), some (.int a1)]) (st' := []) (h' := Hp S) 1 (fun Z => if_neg hc) ?_
    refine wp_st (pc' := 6) (L' := [some (.ref 0), some (.int a1)]) (st' := [.ref 0, .int a1]) (h' := Hp S) 2 (fun Z => rfl) ?_
    refine wp_st (pc' := 9) (L' := [some (.ref 0), some (.int a1)]) (st' := [.ref 3, .int a1]) (h' := Hp S) 1 (fun Z => gfR (E := E) sh0 rfl _) ?_
    refine wp_st (pc' := 12) (L' := [some (.ref 0), some (.int a1)]) (st' := [.int (S 3 3), .int a1]) (h' := Hp S) 1 (fun Z => gfI (E := E) sh3 rfl _) ?_
    by_cases hc : a1 < (S 3 3)
    · rw [if_pos hc] at hw
      refine wp_st (pc' := 26) (L' := [some (.ref 0), some (.int a1)]) (st' := []) (h' := Hp S) 1 (fun Z => if_pos hc) ?_
      exact wp_ret (fun Z => rfl) (Or.inl ⟨_, rfl, rfl, hw⟩)
    · rw [if_neg hc] at hw
      refine wp_st (pc' := 15) (L' := [some (.ref 0), some (.int a1)]) (st' := []) (h' := Hp S) 1 (fun Z => if_neg hc) ?_
      obtain ⟨hn, hw⟩ := hw
      refine wp_ret (h' := Hp (upT S)) (o := .inr 0) (fun Z => ?_) (Or.inr ⟨_, _, rfl, rfl, hw⟩)
      rw [upT_eq hn]
      rfl
set_option maxRecDepth 4000 in
theorem w_x_ball {E : zX} {d : Nat} {S : St} {a1 : Int32} {a2 : Int32} {Q : Int32 → St → Prop} {X : Nat → St → Prop} (hd : 8 ≤ d) 
    (hw : k_x_needBall E (d - 1) S a1 (fun S2 =>
    if a2 = 0 then (
        k_Scene_cellOf E (d - 1) S2 25 a1 (fun x3 S4 =>
        Q x3 S4))
      else if a2 = 1 then (
        ∃ m5 : Nat, a1 = nI m5 ∧ m5 < 10 ∧
        Q (S2 5 m5) S2)
      else if a2 = 2 then (
        k_Scene_heldIn E (d - 1) S2 25 a1 (fun x6 S7 =>
        Q x6 S7))
      else if a2 = 3 then (
        k_Scene_ageOf E (d - 1) S2 25 a1 (fun x8 S9 =>
        Q x8 S9))
      else if a2 = 4 then (
        k_Scene_ownerOf E (d - 1) S2 25 a1 (fun x10 S11 =>
        Q x10 S11))
      else if a2 = 5 then (
        k_Scene_isGuarded E (d - 1) S2 25 a1 (fun x12 S13 =>
        if x12 = 0 then (
          Q (0 : Int32) S13)
        else (
          Q (1 : Int32) S13)))
      else if a2 = 6 then (
        k_Downs_setOffBy E (d - 1) S2 25 a1 (fun x14 S15 =>
        Q x14 S15))
      else if a2 = 7 then (
        k_Downs_setOffBy E (d - 1) S2 25 a1 (fun x16 S17 =>
        k_Downs_hearers E (d - 1) S17 25 x16 (fun x18 S19 =>
        Q x18 S19)))
      else (
        (S2 1000 0).toNatClampNeg < 1000000 ∧ X 0 (upT S2))) X) :
    k_x_ball E d S a1 a2 Q X := by
  obtain ⟨d, rfl⟩ := Nat.exists_eq_add_of_le' hd
  show wp E (d + 8) m_x_ball 0 [some (.ref 0), some (.int a1), some (.int a2)] [] (Hp S) (QX (QI Q) X)
  refine wp_st (pc' := 2) (L' := [some (.ref 0), some (.int a1), some (.int a2)]) (st' := [.int a1, .ref 0]) (h' := Hp S) 2 (fun Z => rfl) ?_
  refine wp_callX (pc' := 5) (rest := []) (fun Z => rfl) (isO_of sh0) hw ?_
  rintro o h1 (⟨S2, rfl, rfl, hw⟩ | ⟨x, S9, rfl, rfl, hw⟩)
  · refine Or.inl ⟨_, rfl, ?_⟩
    show wp E (d + 8) m_x_ball 5 [some (.ref 0), some (.int a1), some (.int a2)] [] (Hp S2) (QX (QI Q) X)
    refine wp_st (pc' := 6) (L' := [some (.ref 0), some (.int a1), some (.int a2)]) (st' := [.int a2]) (h' := Hp S2) 1 (fun Z => rfl) ?_
    by_cases c0 : a2 = 0
    · rw [if_pos c0] at hw
      refine wp_st (pc' := 52) (L' := [some (.ref 0), some (.int a1), some (.int a2)]) (st' := []) (h' := Hp S2) 1 (fun Z => (show zsw (.tableswitch 146 0 7 #[46, 55, 65, 74, 83, 92, 109, 122]) 6 (.int a2 :: []) (fun t st1 => Z (d + 8) m_x_ball t [some (.ref 0), some (.int a1), some (.int a2)] st1 (Hp S2)) = _ from zsw_at (c := 0) (by rw [c0]; decide) (by decide) rfl rfl)) ?_
      refine wp_st (pc' := 53) (L' := [some (.ref 0), some (.int a1), some (.int a2)]) (st' := [.ref 0]) (h' := Hp S2) 1 (fun Z => rfl) ?_
      refine wp_st (pc' := 56) (L' := [some (.ref 0), some (.int a1), some (.int a2)]) (st' := [.ref 25]) (h' := Hp S2) 1 (fun Z => gfR (E := E) sh0 rfl _) ?_
      refine wp_st (pc' := 57) (L' := [some (.ref 0), some (.int a1), some (.int a2)]) (st' := [.int a1, .ref 25]) (h' := Hp S2) 1 (fun Z => rfl) ?_
      refine wp_call (pc' := 60) (rest := []) (fun Z => rfl) (isO_of sh25) hw ?_
      rintro o h1 ⟨x3, S4, rfl, rfl, hw⟩
      refine ⟨_, rfl, ?_⟩
      show wp E (d + 8) m_x_ball 60 [some (.ref 0), some (.int a1), some (.int a2)] [.int x3] (Hp S4) (QX (QI Q) X)
      exact wp_ret (fun Z => rfl) (Or.inl ⟨_, _, rfl, rfl, hw⟩)
    rw [if_neg c0] at hw
    by_cases c1 : a2 = 1
    · rw [if_pos c1] at hw
      refine wp_st (pc' := 61) (L' := [some (.ref 0), some (.int a1), some (.int a2)]) (st' := []) (h' := Hp S2) 1 (fun Z => (show zsw (.tableswitch 146 0 7 #[46, 55, 65, 74, 83, 92, 109, 122]) 6 (.int a2 :: []) (fun t st1 => Z (d + 8) m_x_ball t [some (.ref 0), some (.int a1), some (.int a2)] st1 (Hp S2)) = _ from zsw_at (c := 1) (by rw [c1]; decide) (by decide) rfl rfl)) ?_
      refine wp_st (pc' := 62) (L' := [some (.ref 0), some (.int a1), some (.int a2)]) (st' := [.ref 0]) (h' := Hp S2) 1 (fun Z => rfl) ?_
      refine wp_st (pc' := 65) (L' := [some (.ref 0), some (.int a1), some (.int a2)]) (st' := [.ref 3]) (h' := Hp S2) 1 (fun Z => gfR (E := E) sh0 rfl _) ?_
      refine wp_st (pc' := 68) (L' := [some (.ref 0), some (.int a1), some (.int a2)]) (st' := [.ref 5]) (h' := Hp S2) 1 (fun Z => gfR (E := E) sh3 rfl _) ?_
      refine wp_st (pc' := 69) (L' := [some (.ref 0), some (.int a1), some (.int a2)]) (st' := [.int a1, .ref 5]) (h' := Hp S2) 1 (fun Z => rfl) ?_
      obtain ⟨m5, em, hi, hw⟩ := hw
      refine wp_st (pc' := 70) (L' := [some (.ref 0), some (.int a1), some (.int a2)]) (st' := [.int (S2 5 m5)]) (h' := Hp S2) 1 (fun Z => (congrArg (fun v => zit E 1 Z (d + 8) m_x_ball 69 [some (.ref 0), some (.int a1), some (.int a2)] [.int v, .ref 5] (Hp S2)) em).trans (ldN (E := E) sh5 (by decide) hi [] (fun st => Z (d + 8) m_x_ball 70 [some (.ref 0), some (.int a1), some (.int a2)] st (Hp S2)))) ?_
      exact wp_ret (fun Z => rfl) (Or.inl ⟨_, _, rfl, rfl, hw⟩)
    rw [if_neg c1] at hw
    by_cases c2 : a2 = 2
    · rw [if_pos c2] at hw
      refine wp_st (pc' := 71) (L' := [some (.ref 0), some (.int a1), some (.int a2)]) (st' := []) (h' := Hp S2) 1 (fun Z => (show zsw (.tableswitch 146 0 7 #[46, 55, 65, 74, 83, 92, 109, 122]) 6 (.int a2 :: []) (fun t st1 => Z (d + 8) m_x_ball t [some (.ref 0), some (.int a1), some (.int a2)] st1 (Hp S2)) = _ from zsw_at (c := 2) (by rw [c2]; decide) (by decide) rfl rfl)) ?_
      refine wp_st (pc' := 72) (L' := [some (.ref 0), some (.int a1), some (.int a2)]) (st' := [.ref 0]) (h' := Hp S2) 1 (fun Z => rfl) ?_
      refine wp_st (pc' := 75) (L' := [some (.ref 0), some (.int a1), some (.int a2)]) (st' := [.ref 25]) (h' := Hp S2) 1 (fun Z => gfR (E := E) sh0 rfl _) ?_
      refine wp_st (pc' := 76) (L' := [some (.ref 0), some (.int a1), some (.int a2)]) (st' := [.int a1, .ref 25]) (h' := Hp S2) 1 (fun Z => rfl) ?_
      refine wp_call (pc' := 79) (rest := []) (fun Z => rfl) (isO_of sh25) hw ?_
      rintro o h1 ⟨x6, S7, rfl, rfl, hw⟩
      refine ⟨_, rfl, ?_⟩
      show wp E (d + 8) m_x_ball 79 [some (.ref 0), some (.int a1), some (.int a2)] [.int x6] (Hp S7) (QX (QI Q) X)
      exact wp_ret (fun Z => rfl) (Or.inl ⟨_, _, rfl, rfl, hw⟩)
    rw [if_neg c2] at hw
    by_cases c3 : a2 = 3
    · rw [if_pos c3] at hw
      refine wp_st (pc' := 80) (L' := [some (.ref 0), some (.int a1), some (.int a2)]) (st' := []) (h' := Hp S2) 1 (fun Z => (show zsw (.tableswitch 146 0 7 #[46, 55, 65, 74, 83, 92, 109, 122]) 6 (.int a2 :: []) (fun t st1 => Z (d + 8) m_x_ball t [some (.ref 0), some (.int a1), some (.int a2)] st1 (Hp S2)) = _ from zsw_at (c := 3) (by rw [c3]; decide) (by decide) rfl rfl)) ?_
      refine wp_st (pc' := 81) (L' := [some (.ref 0), some (.int a1), some (.int a2)]) (st' := [.ref 0]) (h' := Hp S2) 1 (fun Z => rfl) ?_
      refine wp_st (pc' := 84) (L' := [some (.ref 0), some (.int a1), some (.int a2)]) (st' := [.ref 25]) (h' := Hp S2) 1 (fun Z => gfR (E := E) sh0 rfl _) ?_
      refine wp_st (pc' := 85) (L' := [some (.ref 0), some (.int a1), some (.int a2)]) (st' := [.int a1, .ref 25]) (h' := Hp S2) 1 (fun Z => rfl) ?_
      refine wp_call (pc' := 88) (rest := []) (fun Z => rfl) (isO_of sh25) hw ?_
      rintro o h1 ⟨x8, S9, rfl, rfl, hw⟩
      refine ⟨_, rfl, ?_⟩
      show wp E (d + 8) m_x_ball 88 [some (.ref 0), some (.int a1), some (.int a2)] [.int x8] (Hp S9) (QX (QI Q) X)
      exact wp_ret (fun Z => rfl) (Or.inl ⟨_, _, rfl, rfl, hw⟩)
    rw [if_neg c3] at hw
    by_cases c4 : a2 = 4
    · rw [if_pos c4] at hw
      refine wp_st (pc' := 89) (L' := [some (.ref 0), some (.int a1), some (.int a2)]) (st' := []) (h' := Hp S2) 1 (fun Z => (show zsw (.tableswitch 146 0 7 #[46, 55, 65, 74, 83, 92, 109, 122]) 6 (.int a2 :: []) (fun t st1 => Z (d + 8) m_x_ball t [some (.ref 0), some (.int a1), some (.int a2)] st1 (Hp S2)) = _ from zsw_at (c := 4) (by rw [c4]; decide) (by decide) rfl rfl)) ?_
      refine wp_st (pc' := 90) (L' := [some (.ref 0), some (.int a1), some (.int a2)]) (st' := [.ref 0]) (h' := Hp S2) 1 (fun Z => rfl) ?_
      refine wp_st (pc' := 93) (L' := [some (.ref 0), some (.int a1), some (.int a2)]) (st' := [.ref 25]) (h' := Hp S2) 1 (fun Z => gfR (E := E) sh0 rfl _) ?_
      refine wp_st (pc' := 94) (L' := [some (.ref 0), some (.int a1), some (.int a2)]) (st' := [.int a1, .ref 25]) (h' := Hp S2) 1 (fun Z => rfl) ?_
      refine wp_call (pc' := 97) (rest := []) (fun Z => rfl) (isO_of sh25) hw ?_
      rintro o h1 ⟨x10, S11, rfl, rfl, hw⟩
      refine ⟨_, rfl, ?_⟩
      show wp E (d + 8) m_x_ball 97 [some (.ref 0), some (.int a1), some (.int a2)] [.int x10] (Hp S11) (QX (QI Q) X)
      exact wp_ret (fun Z => rfl) (Or.inl ⟨_, _, rfl, rfl, hw⟩)
    rw [if_neg c4] at hw
    by_cases c5 : a2 = 5
    · rw [if_pos c5] at hw
      refine wp_st (pc' := 98) (L' := [some (.ref 0), some (.int a1), some (.int a2)]) (st' := []) (h' := Hp S2) 1 (fun Z => (show zsw (.tableswitch 146 0 7 #[46, 55, 65, 74, 83, 92, 109, 122]) 6 (.int a2 :: []) (fun t st1 => Z (d + 8) m_x_ball t [some (.ref 0), some (.int a1), some (.int a2)] st1 (Hp S2)) = _ from zsw_at (c := 5) (by rw [c5]; decide) (by decide) rfl rfl)) ?_
      refine wp_st (pc' := 99) (L' := [some (.ref 0), some (.int a1), some (.int a2)]) (st' := [.ref 0]) (h' := Hp S2) 1 (fun Z => rfl) ?_
      refine wp_st (pc' := 102) (L' := [some (.ref 0), some (.int a1), some (.int a2)]) (st' := [.ref 25]) (h' := Hp S2) 1 (fun Z => gfR (E := E) sh0 rfl _) ?_
      refine wp_st (pc' := 103) (L' := [some (.ref 0), some (.int a1), some (.int a2)]) (st' := [.int a1, .ref 25]) (h' := Hp S2) 1 (fun Z => rfl) ?_
      refine wp_call (pc' := 106) (rest := []) (fun Z => rfl) (isO_of sh25) hw ?_
      rintro o h1 ⟨x12, S13, rfl, rfl, hw⟩
      refine ⟨_, rfl, ?_⟩
      show wp E (d + 8) m_x_ball 106 [some (.ref 0), some (.int a1), some (.int a2)] [.int x12] (Hp S13) (QX (QI Q) X)
      by_cases hc : x12 = 0
      · rw [if_pos hc] at hw
        refine wp_st (pc' := 113) (L' := [some (.ref 0), some (.int a1), some (.int a2)]) (st' := []) (h' := Hp S13) 1 (fun Z => if_pos hc) ?_
        refine wp_st (pc' := 114) (L' := [some (.ref 0), some (.int a1), some (.int a2)]) (st' := [.int 0]) (h' := Hp S13) 1 (fun Z => rfl) ?_
        exact wp_ret (fun Z => rfl) (Or.inl ⟨_, _, rfl, rfl, hw⟩)
      · rw [if_neg hc] at hw
        refine wp_st (pc' := 109) (L' := [some (.ref 0), some (.int a1), some (.int a2)]) (st' := []) (h' := Hp S13) 1 (fun Z => if_neg hc) ?_
        refine wp_st (pc' := 114) (L' := [some (.ref 0), some (.int a1), some (.int a2)]) (st' := [.int 1]) (h' := Hp S13) 2 (fun Z => rfl) ?_
        exact wp_ret (fun Z => rfl) (Or.inl ⟨_, _, rfl, rfl, hw⟩)
    rw [if_neg c5] at hw
    by_cases c6 : a2 = 6
    · rw [if_pos c6] at hw
      refine wp_st (pc' := 115) (L' := [some (.ref 0), some (.int a1), some (.int a2)]) (st' := []) (h' := Hp S2) 1 (fun Z => (show zsw (.tableswitch 146 0 7 #[46, 55, 65, 74, 83, 92, 109, 122]) 6 (.int a2 :: []) (fun t st1 => Z (d + 8) m_x_ball t [some (.ref 0), some (.int a1), some (.int a2)] st1 (Hp S2)) = _ from zsw_at (c := 6) (by rw [c6]; decide) (by decide) rfl rfl)) ?_
      refine wp_st (pc' := 116) (L' := [some (.ref 0), some (.int a1), some (.int a2)]) (st' := [.ref 0]) (h' := Hp S2) 1 (fun Z => rfl) ?_
      refine wp_st (pc' := 119) (L' := [some (.ref 0), some (.int a1), some (.int a2)]) (st' := [.ref 38]) (h' := Hp S2) 1 (fun Z => gfR (E := E) sh0 rfl _) ?_
      refine wp_st (pc' := 120) (L' := [some (.ref 0), some (.int a1), some (.int a2)]) (st' := [.ref 0, .ref 38]) (h' := Hp S2) 1 (fun Z => rfl) ?_
      refine wp_st (pc' := 123) (L' := [some (.ref 0), some (.int a1), some (.int a2)]) (st' := [.ref 25, .ref 38]) (h' := Hp S2) 1 (fun Z => gfR (E := E) sh0 rfl _) ?_
      refine wp_st (pc' := 124) (L' := [some (.ref 0), some (.int a1), some (.int a2)]) (st' := [.int a1, .ref 25, .ref 38]) (h' := Hp S2) 1 (fun Z => rfl) ?_
      refine wp_call (pc' := 127) (rest := []) (fun Z => rfl) (isO_of sh38) hw ?_
      rintro o h1 ⟨x14, S15, rfl, rfl, hw⟩
      refine ⟨_, rfl, ?_⟩
      show wp E (d + 8) m_x_ball 127 [some (.ref 0), some (.int a1), some (.int a2)] [.int x14] (Hp S15) (QX (QI Q) X)
      exact wp_ret (fun Z => rfl) (Or.inl ⟨_, _, rfl, rfl, hw⟩)
    rw [if_neg c6] at hw
    by_cases c7 : a2 = 7
    · rw [if_pos c7] at hw
      refine wp_st (pc' := 128) (L' := [some (.ref 0), some (.int a1), some (.int a2)]) (st' := []) (h' := Hp S2) 1 (fun Z => (show zsw (.tableswitch 146 0 7 #[46, 55, 65, 74, 83, 92, 109, 122]) 6 (.int a2 :: []) (fun t st1 => Z (d + 8) m_x_ball t [some (.ref 0), some (.int a1), some (.int a2)] st1 (Hp S2)) = _ from zsw_at (c := 7) (by rw [c7]; decide) (by decide) rfl rfl)) ?_
      refine wp_st (pc' := 129) (L' := [some (.ref 0), some (.int a1), some (.int a2)]) (st' := [.ref 0]) (h' := Hp S2) 1 (fun Z => rfl) ?_
      refine wp_st (pc' := 132) (L' := [some (.ref 0), some (.int a1), some (.int a2)]) (st' := [.ref 38]) (h' := Hp S2) 1 (fun Z => gfR (E := E) sh0 rfl _) ?_
      refine wp_st (pc' := 133) (L' := [some (.ref 0), some (.int a1), some (.int a2)]) (st' := [.ref 0, .ref 38]) (h' := Hp S2) 1 (fun Z => rfl) ?_
      refine wp_st (pc' := 136) (L' := [some (.ref 0), some (.int a1), some (.int a2)]) (st' := [.ref 25, .ref 38]) (h' := Hp S2) 1 (fun Z => gfR (E := E) sh0 rfl _) ?_
      refine wp_st (pc' := 137) (L' := [some (.ref 0), some (.int a1), some (.int a2)]) (st' := [.ref 0, .ref 25, .ref 38]) (h' := Hp S2) 1 (fun Z => rfl) ?_
      refine wp_st (pc' := 140) (L' := [some (.ref 0), some (.int a1), some (.int a2)]) (st' := [.ref 38, .ref 25, .ref 38]) (h' := Hp S2) 1 (fun Z => gfR (E := E) sh0 rfl _) ?_
      refine wp_st (pc' := 141) (L' := [some (.ref 0), some (.int a1), some (.int a2)]) (st' := [.ref 0, .ref 38, .ref 25, .ref 38]) (h' := Hp S2) 1 (fun Z => rfl) ?_
      refine wp_st (pc' := 144) (L' := [some (.ref 0), some (.int a1), some (.int a2)]) (st' := [.ref 25, .ref 38, .ref 25, .ref 38]) (h' := Hp S2) 1 (fun Z => gfR (E := E) sh0 rfl _) ?_
      refine wp_st (pc' := 145) (L' := [some (.ref 0), some (.int a1), some (.int a2)]) (st' := [.int a1, .ref 25, .ref 38, .ref 25, .ref 38]) (h' := Hp S2) 1 (fun Z => rfl) ?_
      refine wp_call (pc' := 148) (rest := [.ref 25, .ref 38]) (fun Z => rfl) (isO_of sh38) hw ?_
      rintro o h1 ⟨x16, S17, rfl, rfl, hw⟩
      refine ⟨_, rfl, ?_⟩
      show wp E (d + 8) m_x_ball 148 [some (.ref 0), some (.int a1), some (.int a2)] [.int x16, .ref 25, .ref 38] (Hp S17) (QX (QI Q) X)
      refine wp_call (pc' := 151) (rest := []) (fun Z => rfl) (isO_of sh38) hw ?_
      rintro o h1 ⟨x18, S19, rfl, rfl, hw⟩
      refine ⟨_, rfl, ?_⟩
      show wp E (d + 8) m_x_ball 151 [some (.ref 0), some (.int a1), some (.int a2)] [.int x18] (Hp S19) (QX (QI Q) X)
      exact wp_ret (fun Z => rfl) (Or.inl ⟨_, _, rfl, rfl, hw⟩)
    rw [if_neg c7] at hw
    have hs : (a2).toInt < (0 : Int) ∨ (7 : Int) < (a2).toInt := by
      refine zoutG (n := 8) (by decide) (by decide) (by decide) ?_
      intro k hk
      rcases k with _ | _ | _ | _ | _ | _ | _ | _ | k
      · exact c0
      · exact c1
      · exact c2
      · exact c3
      · exact c4
      · exact c5
      · exact c6
      · exact c7
      · omega
    refine wp_st (pc' := 152) (L' := [some (.ref 0), some (.int a1), some (.int a2)]) (st' := []) (h' := Hp S2) 1 (fun Z => (show zsw (.tableswitch 146 0 7 #[46, 55, 65, 74, 83, 92, 109, 122]) 6 (.int a2 :: []) (fun t st1 => Z (d + 8) m_x_ball t [some (.ref 0), some (.int a1), some (.int a2)] st1 (Hp S2)) = _ from zsw_out hs rfl)) ?_
    obtain ⟨hn, hw⟩ := hw
    refine wp_ret (h' := Hp (upT S2)) (o := .inr 0) (fun Z => ?_) (Or.inr ⟨_, _, rfl, rfl, hw⟩)
    rw [upT_eq hn]
    rfl
  · exact Or.inr ⟨x, rfl, Or.inr ⟨_, _, rfl, rfl, hw⟩⟩
set_option maxRecDepth 4000 in
theorem w_x_needBall {E : zX} {d : Nat} {S : St} {a1 : Int32} {Q : St → Prop} {X : Nat → St → Prop} (hd : 8 ≤ d) 
    (hw : if a1 < 0 then (
      (S 1000 0).toNatClampNeg < 1000000 ∧ X 0 (upT S))
    else (
      if a1 < (S 3 4) then (
        Q S)
      else (
        (S 1000 0).toNatClampNeg < 1000000 ∧ X 0 (upT S)))) :
    k_x_needBall E d S a1 Q X := by
  obtain ⟨d, rfl⟩ := Nat.exists_eq_add_of_le' hd
  show wp E (d + 8) m_x_needBall 0 [some (.ref 0), some (.int a1)] [] (Hp S) (QX (QV Q) X)
  refine wp_st (pc' := 1) (L' := [some (.ref 0), some (.int a1)]) (st' := [.int a1]) (h' := Hp S) 1 (fun Z => rfl) ?_
  by_cases hc : a1 < 0
  · rw [if_pos hc] at hw
    refine wp_st (pc' := 15) (L' := [some (.ref 0), some (.int a1)]) (st' := []) (h' := Hp S) 1 (fun Z => if_pos hc) ?_
    obtain ⟨hn, hw⟩ := hw
    refine wp_ret (h' := Hp (upT S)) (o := .inr 0) (fun Z => ?_) (Or.inr ⟨_, _, rfl, rfl, hw⟩)
    rw [upT_eq hn]
    rfl
  · rw [if_neg hc] at hw
    refine wp_st (pc' := 4) (L' := [some (.ref 0), some (.int a1)]) (st' := []) (h' := Hp S) 1 (fun Z => if_neg hc) ?_
    refine wp_st (pc' := 6) (L' := [some (.ref 0), some (.int a1)]) (st' := [.ref 0, .int a1]) (h' := Hp S) 2 (fun Z => rfl) ?_
    refine wp_st (pc' := 9) (L' := [some (.ref 0), some (.int a1)]) (st' := [.ref 3, .int a1]) (h' := Hp S) 1 (fun Z => gfR (E := E) sh0 rfl _) ?_
    refine wp_st (pc' := 12) (L' := [some (.ref 0), some (.int a1)]) (st' := [.int (S 3 4), .int a1]) (h' := Hp S) 1 (fun Z => gfI (E := E) sh3 rfl _) ?_
    by_cases hc : a1 < (S 3 4)
    · rw [if_pos hc] at hw
      refine wp_st (pc' := 26) (L' := [some (.ref 0), some (.int a1)]) (st' := []) (h' := Hp S) 1 (fun Z => if_pos hc) ?_
      exact wp_ret (fun Z => rfl) (Or.inl ⟨_, rfl, rfl, hw⟩)
    · rw [if_neg hc] at hw
      refine wp_st (pc' := 15) (L' := [some (.ref 0), some (.int a1)]) (st' := []) (h' := Hp S) 1 (fun Z => if_neg hc) ?_
      obtain ⟨hn, hw⟩ := hw
      refine wp_ret (h' := Hp (upT S)) (o := .inr 0) (fun Z => ?_) (Or.inr ⟨_, _, rfl, rfl, hw⟩)
      rw [upT_eq hn]
      rfl
set_option maxRecDepth 4000 in
theorem w_x_tread {E : zX} {d : Nat} {S : St} {a1 : Int32} {Q : Int32 → St → Prop} {X : Nat → St → Prop} (hd : 1 ≤ d) 
    (hw : k_x_needBall E (d - 1) S a1 (fun S2 =>
    k_Scene_isLoose E (d - 1) S2 25 a1 (fun x3 S4 =>
      if x3 = 0 then (
        k_x_refuse E (d - 1) S4 1 (fun x5 S6 =>
        Q x5 S6))
      else (
        k_Book_keepAct E (d - 1) S4 (fun S8 =>
        k_Downs_burst E (d - 1) S8 25 ((1 : Int32) <<< (a1 &&& 31)) (fun x9 S10 =>
        k_Integer_bitCount E (d - 1) S10 x9 (fun x11 S12 =>
        Q x11 S12)))))) X) :
    k_x_tread E d S a1 Q X := by
  obtain ⟨d, rfl⟩ := Nat.exists_eq_add_of_le' hd
  show wp E (d + 1) m_x_tread 0 [some (.ref 0), some (.int a1)] [] (Hp S) (QX (QI Q) X)
  refine wp_st (pc' := 2) (L' := [some (.ref 0), some (.int a1)]) (st' := [.int a1, .ref 0]) (h' := Hp S) 2 (fun Z => rfl) ?_
  refine wp_callX (pc' := 5) (rest := []) (fun Z => rfl) (isO_of sh0) hw ?_
  rintro o h1 (⟨S2, rfl, rfl, hw⟩ | ⟨x, S9, rfl, rfl, hw⟩)
  · refine Or.inl ⟨_, rfl, ?_⟩
    show wp E (d + 1) m_x_tread 5 [some (.ref 0), some (.int a1)] [] (Hp S2) (QX (QI Q) X)
    refine wp_st (pc' := 6) (L' := [some (.ref 0), some (.int a1)]) (st' := [.ref 0]) (h' := Hp S2) 1 (fun Z => rfl) ?_
    refine wp_st (pc' := 9) (L' := [some (.ref 0), some (.int a1)]) (st' := [.ref 25]) (h' := Hp S2) 1 (fun Z => gfR (E := E) sh0 rfl _) ?_
    refine wp_st (pc' := 10) (L' := [some (.ref 0), some (.int a1)]) (st' := [.int a1, .ref 25]) (h' := Hp S2) 1 (fun Z => rfl) ?_
    refine wp_call (pc' := 13) (rest := []) (fun Z => rfl) (isO_of sh25) hw ?_
    rintro o h1 ⟨x3, S4, rfl, rfl, hw⟩
    refine ⟨_, rfl, ?_⟩
    show wp E (d + 1) m_x_tread 13 [some (.ref 0), some (.int a1)] [.int x3] (Hp S4) (QX (QI Q) X)
    by_cases hc : x3 = 0
    · rw [if_pos hc] at hw
      refine wp_st (pc' := 16) (L' := [some (.ref 0), some (.int a1)]) (st' := []) (h' := Hp S4) 1 (fun Z => if_pos hc) ?_
      refine wp_st (pc' := 18) (L' := [some (.ref 0), some (.int a1)]) (st' := [.int 1, .ref 0]) (h' := Hp S4) 2 (fun Z => rfl) ?_
      refine wp_call (pc' := 21) (rest := []) (fun Z => rfl) (isO_of sh0) hw ?_
      rintro o h1 ⟨x5, S6, rfl, rfl, hw⟩
      refine ⟨_, rfl, ?_⟩
      show wp E (d + 1) m_x_tread 21 [some (.ref 0), some (.int a1)] [.int x5] (Hp S6) (QX (QI Q) X)
      exact wp_ret (fun Z => rfl) (Or.inl ⟨_, _, rfl, rfl, hw⟩)
    · rw [if_neg hc] at hw
      refine wp_st (pc' := 22) (L' := [some (.ref 0), some (.int a1)]) (st' := []) (h' := Hp S4) 1 (fun Z => if_neg hc) ?_
      refine wp_st (pc' := 23) (L' := [some (.ref 0), some (.int a1)]) (st' := [.ref 0]) (h' := Hp S4) 1 (fun Z => rfl) ?_
      refine wp_st (pc' := 26) (L' := [some (.ref 0), some (.int a1)]) (st' := [.ref 24]) (h' := Hp S4) 1 (fun Z => gfR (E := E) sh0 rfl _) ?_
      refine wp_call (pc' := 29) (rest := []) (fun Z => rfl) (isO_of sh24) hw ?_
      rintro o h1 ⟨S8, rfl, rfl, hw⟩
      refine ⟨_, rfl, ?_⟩
      show wp E (d + 1) m_x_tread 29 [some (.ref 0), some (.int a1)] [] (Hp S8) (QX (QI Q) X)
      refine wp_st (pc' := 30) (L' := [some (.ref 0), some (.int a1)]) (st' := [.ref 0]) (h' := Hp S8) 1 (fun Z => rfl) ?_
      refine wp_st (pc' := 33) (L' := [some (.ref 0), some (.int a1)]) (st' := [.ref 38]) (h' := Hp S8) 1 (fun Z => gfR (E := E) sh0 rfl _) ?_
      refine wp_st (pc' := 34) (L' := [some (.ref 0), some (.int a1)]) (st' := [.ref 0, .ref 38]) (h' := Hp S8) 1 (fun Z => rfl) ?_
      refine wp_st (pc' := 37) (L' := [some (.ref 0), some (.int a1)]) (st' := [.ref 25, .ref 38]) (h' := Hp S8) 1 (fun Z => gfR (E := E) sh0 rfl _) ?_
      refine wp_st (pc' := 40) (L' := [some (.ref 0), some (.int a1)]) (st' := [.int ((1 : Int32) <<< (a1 &&& 31)), .ref 25, .ref 38]) (h' := Hp S8) 3 (fun Z => rfl) ?_
      refine wp_call (pc' := 43) (rest := []) (fun Z => rfl) (isO_of sh38) hw ?_
      rintro o h1 ⟨x9, S10, rfl, rfl, hw⟩
      refine ⟨_, rfl, ?_⟩
      show wp E (d + 1) m_x_tread 43 [some (.ref 0), some (.int a1)] [.int x9] (Hp S10) (QX (QI Q) X)
      refine wp_call (pc' := 46) (rest := []) (fun Z => rfl) rfl hw ?_
      rintro o h1 ⟨x11, S12, rfl, rfl, hw⟩
      refine ⟨_, rfl, ?_⟩
      show wp E (d + 1) m_x_tread 46 [some (.ref 0), some (.int a1)] [.int x11] (Hp S12) (QX (QI Q) X)
      exact wp_ret (fun Z => rfl) (Or.inl ⟨_, _, rfl, rfl, hw⟩)
  · exact Or.inr ⟨x, rfl, Or.inr ⟨_, _, rfl, rfl, hw⟩⟩
set_option maxRecDepth 4000 in
theorem w_x_carry {E : zX} {d : Nat} {S : St} {a1 : Int32} {a2 : Int32} {Q : Int32 → St → Prop} {X : Nat → St → Prop} (hd : 1 ≤ d) 
    (hw : k_x_needBall E (d - 1) S a1 (fun S2 =>
    k_x_needCell E (d - 1) S2 a2 (fun S4 =>
      k_Scene_cellOf E (d - 1) S4 25 a1 (fun x5 S6 =>
        if x5 = a2 then (
          k_x_refuse E (d - 1) S6 1 (fun x7 S8 =>
          Q x7 S8))
        else (
          k_Book_keepAct E (d - 1) S6 (fun S10 =>
          k_Scene_setCell E (d - 1) S10 25 a1 a2 (fun S12 =>
          Q x5 S12))))) X) X) :
    k_x_carry E d S a1 a2 Q X := by
  obtain ⟨d, rfl⟩ := Nat.exists_eq_add_of_le' hd
  show wp E (d + 1) m_x_carry 0 [some (.ref 0), some (.int a1), some (.int a2), none] [] (Hp S) (QX (QI Q) X)
  refine wp_st (pc' := 2) (L' := [some (.ref 0), some (.int a1), some (.int a2), none]) (st' := [.int a1, .ref 0]) (h' := Hp S) 2 (fun Z => rfl) ?_
  refine wp_callX (pc' := 5) (rest := []) (fun Z => rfl) (isO_of sh0) hw ?_
  rintro o h1 (⟨S2, rfl, rfl, hw⟩ | ⟨x, S9, rfl, rfl, hw⟩)
  · refine Or.inl ⟨_, rfl, ?_⟩
    show wp E (d + 1) m_x_carry 5 [some (.ref 0), some (.int a1), some (.int a2), none] [] (Hp S2) (QX (QI Q) X)
    refine wp_st (pc' := 7) (L' := [some (.ref 0), some (.int a1), some (.int a2), none]) (st' := [.int a2, .ref 0]) (h' := Hp S2) 2 (fun Z => rfl) ?_
    refine wp_callX (pc' := 10) (rest := []) (fun Z => rfl) (isO_of sh0) hw ?_
    rintro o h1 (⟨S4, rfl, rfl, hw⟩ | ⟨x, S9, rfl, rfl, hw⟩)
    · refine Or.inl ⟨_, rfl, ?_⟩
      show wp E (d + 1) m_x_carry 10 [some (.ref 0), some (.int a1), some (.int a2), none] [] (Hp S4) (QX (QI Q) X)
      refine wp_st (pc' := 11) (L' := [some (.ref 0), some (.int a1), some (.int a2), none]) (st' := [.ref 0]) (h' := Hp S4) 1 (fun Z => rfl) ?_
      refine wp_st (pc' := 14) (L' := [some (.ref 0), some (.int a1), some (.int a2), none]) (st' := [.ref 25]) (h' := Hp S4) 1 (fun Z => gfR (E := E) sh0 rfl _) ?_
      refine wp_st (pc' := 15) (L' := [some (.ref 0), some (.int a1), some (.int a2), none]) (st' := [.int a1, .ref 25]) (h' := Hp S4) 1 (fun Z => rfl) ?_
      refine wp_call (pc' := 18) (rest := []) (fun Z => rfl) (isO_of sh25) hw ?_
      rintro o h1 ⟨x5, S6, rfl, rfl, hw⟩
      refine ⟨_, rfl, ?_⟩
      show wp E (d + 1) m_x_carry 18 [some (.ref 0), some (.int a1), some (.int a2), none] [.int x5] (Hp S6) (QX (QI Q) X)
      refine wp_st (pc' := 21) (L' := [some (.ref 0), some (.int a1), some (.int a2), some (.int x5)]) (st' := [.int a2, .int x5]) (h' := Hp S6) 3 (fun Z => rfl) ?_
      by_cases hc : x5 = a2
      · rw [if_pos hc] at hw
        refine wp_st (pc' := 24) (L' := [some (.ref 0), some (.int a1), some (.int a2), some (.int x5)]) (st' := []) (h' := Hp S6) 1 (fun Z => if_pos hc) ?_
        refine wp_st (pc' := 26) (L' := [some (.ref 0), some (.int a1), some (.int a2), some (.int x5)]) (st' := [.int 1, .ref 0]) (h' := Hp S6) 2 (fun Z => rfl) ?_
        refine wp_call (pc' := 29) (rest := []) (fun Z => rfl) (isO_of sh0) hw ?_
        rintro o h1 ⟨x7, S8, rfl, rfl, hw⟩
        refine ⟨_, rfl, ?_⟩
        show wp E (d + 1) m_x_carry 29 [some (.ref 0), some (.int a1), some (.int a2), some (.int x5)] [.int x7] (Hp S8) (QX (QI Q) X)
        exact wp_ret (fun Z => rfl) (Or.inl ⟨_, _, rfl, rfl, hw⟩)
      · rw [if_neg hc] at hw
        refine wp_st (pc' := 30) (L' := [some (.ref 0), some (.int a1), some (.int a2), some (.int x5)]) (st' := []) (h' := Hp S6) 1 (fun Z => if_neg hc) ?_
        refine wp_st (pc' := 31) (L' := [some (.ref 0), some (.int a1), some (.int a2), some (.int x5)]) (st' := [.ref 0]) (h' := Hp S6) 1 (fun Z => rfl) ?_
        refine wp_st (pc' := 34) (L' := [some (.ref 0), some (.int a1), some (.int a2), some (.int x5)]) (st' := [.ref 24]) (h' := Hp S6) 1 (fun Z => gfR (E := E) sh0 rfl _) ?_
        refine wp_call (pc' := 37) (rest := []) (fun Z => rfl) (isO_of sh24) hw ?_
        rintro o h1 ⟨S10, rfl, rfl, hw⟩
        refine ⟨_, rfl, ?_⟩
        show wp E (d + 1) m_x_carry 37 [some (.ref 0), some (.int a1), some (.int a2), some (.int x5)] [] (Hp S10) (QX (QI Q) X)
        refine wp_st (pc' := 38) (L' := [some (.ref 0), some (.int a1), some (.int a2), some (.int x5)]) (st' := [.ref 0]) (h' := Hp S10) 1 (fun Z => rfl) ?_
        refine wp_st (pc' := 41) (L' := [some (.ref 0), some (.int a1), some (.int a2), some (.int x5)]) (st' := [.ref 25]) (h' := Hp S10) 1 (fun Z => gfR (E := E) sh0 rfl _) ?_
        refine wp_st (pc' := 43) (L' := [some (.ref 0), some (.int a1), some (.int a2), some (.int x5)]) (st' := [.int a2, .int a1, .ref 25]) (h' := Hp S10) 2 (fun Z => rfl) ?_
        refine wp_call (pc' := 46) (rest := []) (fun Z => rfl) (isO_of sh25) hw ?_
        rintro o h1 ⟨S12, rfl, rfl, hw⟩
        refine ⟨_, rfl, ?_⟩
        show wp E (d + 1) m_x_carry 46 [some (.ref 0), some (.int a1), some (.int a2), some (.int x5)] [] (Hp S12) (QX (QI Q) X)
        refine wp_st (pc' := 47) (L' := [some (.ref 0), some (.int a1), some (.int a2), some (.int x5)]) (st' := [.int x5]) (h' := Hp S12) 1 (fun Z => rfl) ?_
        exact wp_ret (fun Z => rfl) (Or.inl ⟨_, _, rfl, rfl, hw⟩)
    · exact Or.inr ⟨x, rfl, Or.inr ⟨_, _, rfl, rfl, hw⟩⟩
  · exact Or.inr ⟨x, rfl, Or.inr ⟨_, _, rfl, rfl, hw⟩⟩
set_option maxRecDepth 4000 in
theorem w_x_needCell {E : zX} {d : Nat} {S : St} {a1 : Int32} {Q : St → Prop} {X : Nat → St → Prop} (hd : 8 ≤ d) 
    (hw : if a1 < 0 then (
      (S 1000 0).toNatClampNeg < 1000000 ∧ X 0 (upT S))
    else (
      if a1 < (S 3 2) then (
        Q S)
      else (
        (S 1000 0).toNatClampNeg < 1000000 ∧ X 0 (upT S)))) :
    k_x_needCell E d S a1 Q X := by
  obtain ⟨d, rfl⟩ := Nat.exists_eq_add_of_le' hd
  show wp E (d + 8) m_x_needCell 0 [some (.ref 0), some (.int a1)] [] (Hp S) (QX (QV Q) X)
  refine wp_st (pc' := 1) (L' := [some (.ref 0), some (.int a1)]) (st' := [.int a1]) (h' := Hp S) 1 (fun Z => rfl) ?_
  by_cases hc : a1 < 0
  · rw [if_pos hc] at hw
    refine wp_st (pc' := 15) (L' := [some (.ref 0), some (.int a1)]) (st' := []) (h' := Hp S) 1 (fun Z => if_pos hc) ?_
    obtain ⟨hn, hw⟩ := hw
    refine wp_ret (h' := Hp (upT S)) (o := .inr 0) (fun Z => ?_) (Or.inr ⟨_, _, rfl, rfl, hw⟩)
    rw [upT_eq hn]
    rfl
  · rw [if_neg hc] at hw
    refine wp_st (pc' := 4) (L' := [some (.ref 0), some (.int a1)]) (st' := []) (h' := Hp S) 1 (fun Z => if_neg hc) ?_
    refine wp_st (pc' := 6) (L' := [some (.ref 0), some (.int a1)]) (st' := [.ref 0, .int a1]) (h' := Hp S) 2 (fun Z => rfl) ?_
    refine wp_st (pc' := 9) (L' := [some (.ref 0), some (.int a1)]) (st' := [.ref 3, .int a1]) (h' := Hp S) 1 (fun Z => gfR (E := E) sh0 rfl _) ?_
    refine wp_st (pc' := 12) (L' := [some (.ref 0), some (.int a1)]) (st' := [.int (S 3 2), .int a1]) (h' := Hp S) 1 (fun Z => gfI (E := E) sh3 rfl _) ?_
    by_cases hc : a1 < (S 3 2)
    · rw [if_pos hc] at hw
      refine wp_st (pc' := 26) (L' := [some (.ref 0), some (.int a1)]) (st' := []) (h' := Hp S) 1 (fun Z => if_pos hc) ?_
      exact wp_ret (fun Z => rfl) (Or.inl ⟨_, rfl, rfl, hw⟩)
    · rw [if_neg hc] at hw
      refine wp_st (pc' := 15) (L' := [some (.ref 0), some (.int a1)]) (st' := []) (h' := Hp S) 1 (fun Z => if_neg hc) ?_
      obtain ⟨hn, hw⟩ := hw
      refine wp_ret (h' := Hp (upT S)) (o := .inr 0) (fun Z => ?_) (Or.inr ⟨_, _, rfl, rfl, hw⟩)
      rw [upT_eq hn]
      rfl
set_option maxRecDepth 4000 in
theorem w_x_guard {E : zX} {d : Nat} {S : St} {a1 : Int32} {a2 : Int32} {Q : Int32 → St → Prop} {X : Nat → St → Prop} (hd : 1 ≤ d) 
    (hw : k_x_needBall E (d - 1) S a1 (fun S2 =>
    k_Scene_isGuarded E (d - 1) S2 25 a1 (fun x3 S4 =>
      if x3 = a2 then (
        k_x_refuse E (d - 1) S4 1 (fun x5 S6 =>
        Q (0 : Int32) S6))
      else (
        k_Book_keepAct E (d - 1) S4 (fun S8 =>
        k_Scene_guards E (d - 1) S8 25 (fun x9 S10 =>
        k_Scene_setGuards E (d - 1) S10 25 (x9 ^^^ ((1 : Int32) <<< (a1 &&& 31))) (fun S12 =>
        Q (1 : Int32) S12)))))) X) :
    k_x_guard E d S a1 a2 Q X := by
  obtain ⟨d, rfl⟩ := Nat.exists_eq_add_of_le' hd
  show wp E (d + 1) m_x_guard 0 [some (.ref 0), some (.int a1), some (.int a2)] [] (Hp S) (QX (QI Q) X)
  refine wp_st (pc' := 2) (L' := [some (.ref 0), some (.int a1), some (.int a2)]) (st' := [.int a1, .ref 0]) (h' := Hp S) 2 (fun Z => rfl) ?_
  refine wp_callX (pc' := 5) (rest := []) (fun Z => rfl) (isO_of sh0) hw ?_
  rintro o h1 (⟨S2, rfl, rfl, hw⟩ | ⟨x, S9, rfl, rfl, hw⟩)
  · refine Or.inl ⟨_, rfl, ?_⟩
    show wp E (d + 1) m_x_guard 5 [some (.ref 0), some (.int a1), some (.int a2)] [] (Hp S2) (QX (QI Q) X)
    refine wp_st (pc' := 6) (L' := [some (.ref 0), some (.int a1), some (.int a2)]) (st' := [.ref 0]) (h' := Hp S2) 1 (fun Z => rfl) ?_
    refine wp_st (pc' := 9) (L' := [some (.ref 0), some (.int a1), some (.int a2)]) (st' := [.ref 25]) (h' := Hp S2) 1 (fun Z => gfR (E := E) sh0 rfl _) ?_
    refine wp_st (pc' := 10) (L' := [some (.ref 0), some (.int a1), some (.int a2)]) (st' := [.int a1, .ref 25]) (h' := Hp S2) 1 (fun Z => rfl) ?_
    refine wp_call (pc' := 13) (rest := []) (fun Z => rfl) (isO_of sh25) hw ?_
    rintro o h1 ⟨x3, S4, rfl, rfl, hw⟩
    refine ⟨_, rfl, ?_⟩
    show wp E (d + 1) m_x_guard 13 [some (.ref 0), some (.int a1), some (.int a2)] [.int x3] (Hp S4) (QX (QI Q) X)
    refine wp_st (pc' := 14) (L' := [some (.ref 0), some (.int a1), some (.int a2)]) (st' := [.int a2, .int x3]) (h' := Hp S4) 1 (fun Z => rfl) ?_
    by_cases hc : x3 = a2
    · rw [if_pos hc] at hw
      refine wp_st (pc' := 17) (L' := [some (.ref 0), some (.int a1), some (.int a2)]) (st' := []) (h' := Hp S4) 1 (fun Z => if_pos hc) ?_
      refine wp_st (pc' := 19) (L' := [some (.ref 0), some (.int a1), some (.int a2)]) (st' := [.int 1, .ref 0]) (h' := Hp S4) 2 (fun Z => rfl) ?_
      refine wp_call (pc' := 22) (rest := []) (fun Z => rfl) (isO_of sh0) hw ?_
      rintro o h1 ⟨x5, S6, rfl, rfl, hw⟩
      refine ⟨_, rfl, ?_⟩
      show wp E (d + 1) m_x_guard 22 [some (.ref 0), some (.int a1), some (.int a2)] [.int x5] (Hp S6) (QX (QI Q) X)
      refine wp_st (pc' := 24) (L' := [some (.ref 0), some (.int a1), some (.int a2)]) (st' := [.int 0]) (h' := Hp S6) 2 (fun Z => rfl) ?_
      exact wp_ret (fun Z => rfl) (Or.inl ⟨_, _, rfl, rfl, hw⟩)
    · rw [if_neg hc] at hw
      refine wp_st (pc' := 25) (L' := [some (.ref 0), some (.int a1), some (.int a2)]) (st' := []) (h' := Hp S4) 1 (fun Z => if_neg hc) ?_
      refine wp_st (pc' := 26) (L' := [some (.ref 0), some (.int a1), some (.int a2)]) (st' := [.ref 0]) (h' := Hp S4) 1 (fun Z => rfl) ?_
      refine wp_st (pc' := 29) (L' := [some (.ref 0), some (.int a1), some (.int a2)]) (st' := [.ref 24]) (h' := Hp S4) 1 (fun Z => gfR (E := E) sh0 rfl _) ?_
      refine wp_call (pc' := 32) (rest := []) (fun Z => rfl) (isO_of sh24) hw ?_
      rintro o h1 ⟨S8, rfl, rfl, hw⟩
      refine ⟨_, rfl, ?_⟩
      show wp E (d + 1) m_x_guard 32 [some (.ref 0), some (.int a1), some (.int a2)] [] (Hp S8) (QX (QI Q) X)
      refine wp_st (pc' := 33) (L' := [some (.ref 0), some (.int a1), some (.int a2)]) (st' := [.ref 0]) (h' := Hp S8) 1 (fun Z => rfl) ?_
      refine wp_st (pc' := 36) (L' := [some (.ref 0), some (.int a1), some (.int a2)]) (st' := [.ref 25]) (h' := Hp S8) 1 (fun Z => gfR (E := E) sh0 rfl _) ?_
      refine wp_st (pc' := 37) (L' := [some (.ref 0), some (.int a1), some (.int a2)]) (st' := [.ref 0, .ref 25]) (h' := Hp S8) 1 (fun Z => rfl) ?_
      refine wp_st (pc' := 40) (L' := [some (.ref 0), some (.int a1), some (.int a2)]) (st' := [.ref 25, .ref 25]) (h' := Hp S8) 1 (fun Z => gfR (E := E) sh0 rfl _) ?_
      refine wp_call (pc' := 43) (rest := [.ref 25]) (fun Z => rfl) (isO_of sh25) hw ?_
      rintro o h1 ⟨x9, S10, rfl, rfl, hw⟩
      refine ⟨_, rfl, ?_⟩
      show wp E (d + 1) m_x_guard 43 [some (.ref 0), some (.int a1), some (.int a2)] [.int x9, .ref 25] (Hp S10) (QX (QI Q) X)
      refine wp_st (pc' := 47) (L' := [some (.ref 0), some (.int a1), some (.int a2)]) (st' := [.int (x9 ^^^ ((1 : Int32) <<< (a1 &&& 31))), .ref 25]) (h' := Hp S10) 4 (fun Z => rfl) ?_
      refine wp_call (pc' := 50) (rest := []) (fun Z => rfl) (isO_of sh25) hw ?_
      rintro o h1 ⟨S12, rfl, rfl, hw⟩
      refine ⟨_, rfl, ?_⟩
      show wp E (d + 1) m_x_guard 50 [some (.ref 0), some (.int a1), some (.int a2)] [] (Hp S12) (QX (QI Q) X)
      refine wp_st (pc' := 51) (L' := [some (.ref 0), some (.int a1), some (.int a2)]) (st' := [.int 1]) (h' := Hp S12) 1 (fun Z => rfl) ?_
      exact wp_ret (fun Z => rfl) (Or.inl ⟨_, _, rfl, rfl, hw⟩)
  · exact Or.inr ⟨x, rfl, Or.inr ⟨_, _, rfl, rfl, hw⟩⟩
set_option maxRecDepth 4000 in
theorem w_x_soothe {E : zX} {d : Nat} {S : St} {a1 : Int32} {a2 : Int32} {Q : Int32 → St → Prop} {X : Nat → St → Prop} (hd : 1 ≤ d) 
    (hw : k_x_needPerson E (d - 1) S a1 (fun S2 =>
    if a2 < 0 then (
        k_x_refuse E (d - 1) S2 1 (fun x3 S4 =>
        Q x3 S4))
      else (
        if a2 ≤ 99 then (
          k_Book_keepAct E (d - 1) S2 (fun S6 =>
          k_Scene_temperOf E (d - 1) S6 25 a1 (fun x7 S8 =>
          k_Scene_setTemper E (d - 1) S8 25 a1 a2 (fun S10 =>
          Q x7 S10))))
        else (
          k_x_refuse E (d - 1) S2 1 (fun x11 S12 =>
          Q x11 S12)))) X) :
    k_x_soothe E d S a1 a2 Q X := by
  obtain ⟨d, rfl⟩ := Nat.exists_eq_add_of_le' hd
  show wp E (d + 1) m_x_soothe 0 [some (.ref 0), some (.int a1), some (.int a2), none] [] (Hp S) (QX (QI Q) X)
  refine wp_st (pc' := 2) (L' := [some (.ref 0), some (.int a1), some (.int a2), none]) (st' := [.int a1, .ref 0]) (h' := Hp S) 2 (fun Z => rfl) ?_
  refine wp_callX (pc' := 5) (rest := []) (fun Z => rfl) (isO_of sh0) hw ?_
  rintro o h1 (⟨S2, rfl, rfl, hw⟩ | ⟨x, S9, rfl, rfl, hw⟩)
  · refine Or.inl ⟨_, rfl, ?_⟩
    show wp E (d + 1) m_x_soothe 5 [some (.ref 0), some (.int a1), some (.int a2), none] [] (Hp S2) (QX (QI Q) X)
    refine wp_st (pc' := 6) (L' := [some (.ref 0), some (.int a1), some (.int a2), none]) (st' := [.int a2]) (h' := Hp S2) 1 (fun Z => rfl) ?_
    by_cases hc : a2 < 0
    · rw [if_pos hc] at hw
      refine wp_st (pc' := 15) (L' := [some (.ref 0), some (.int a1), some (.int a2), none]) (st' := []) (h' := Hp S2) 1 (fun Z => if_pos hc) ?_
      refine wp_st (pc' := 17) (L' := [some (.ref 0), some (.int a1), some (.int a2), none]) (st' := [.int 1, .ref 0]) (h' := Hp S2) 2 (fun Z => rfl) ?_
      refine wp_call (pc' := 20) (rest := []) (fun Z => rfl) (isO_of sh0) hw ?_
      rintro o h1 ⟨x3, S4, rfl, rfl, hw⟩
      refine ⟨_, rfl, ?_⟩
      show wp E (d + 1) m_x_soothe 20 [some (.ref 0), some (.int a1), some (.int a2), none] [.int x3] (Hp S4) (QX (QI Q) X)
      exact wp_ret (fun Z => rfl) (Or.inl ⟨_, _, rfl, rfl, hw⟩)
    · rw [if_neg hc] at hw
      refine wp_st (pc' := 9) (L' := [some (.ref 0), some (.int a1), some (.int a2), none]) (st' := []) (h' := Hp S2) 1 (fun Z => if_neg hc) ?_
      refine wp_st (pc' := 12) (L' := [some (.ref 0), some (.int a1), some (.int a2), none]) (st' := [.int 99, .int a2]) (h' := Hp S2) 2 (fun Z => rfl) ?_
      by_cases hc : a2 ≤ 99
      · rw [if_pos hc] at hw
        refine wp_st (pc' := 21) (L' := [some (.ref 0), some (.int a1), some (.int a2), none]) (st' := []) (h' := Hp S2) 1 (fun Z => if_pos hc) ?_
        refine wp_st (pc' := 22) (L' := [some (.ref 0), some (.int a1), some (.int a2), none]) (st' := [.ref 0]) (h' := Hp S2) 1 (fun Z => rfl) ?_
        refine wp_st (pc' := 25) (L' := [some (.ref 0), some (.int a1), some (.int a2), none]) (st' := [.ref 24]) (h' := Hp S2) 1 (fun Z => gfR (E := E) sh0 rfl _) ?_
        refine wp_call (pc' := 28) (rest := []) (fun Z => rfl) (isO_of sh24) hw ?_
        rintro o h1 ⟨S6, rfl, rfl, hw⟩
        refine ⟨_, rfl, ?_⟩
        show wp E (d + 1) m_x_soothe 28 [some (.ref 0), some (.int a1), some (.int a2), none] [] (Hp S6) (QX (QI Q) X)
        refine wp_st (pc' := 29) (L' := [some (.ref 0), some (.int a1), some (.int a2), none]) (st' := [.ref 0]) (h' := Hp S6) 1 (fun Z => rfl) ?_
        refine wp_st (pc' := 32) (L' := [some (.ref 0), some (.int a1), some (.int a2), none]) (st' := [.ref 25]) (h' := Hp S6) 1 (fun Z => gfR (E := E) sh0 rfl _) ?_
        refine wp_st (pc' := 33) (L' := [some (.ref 0), some (.int a1), some (.int a2), none]) (st' := [.int a1, .ref 25]) (h' := Hp S6) 1 (fun Z => rfl) ?_
        refine wp_call (pc' := 36) (rest := []) (fun Z => rfl) (isO_of sh25) hw ?_
        rintro o h1 ⟨x7, S8, rfl, rfl, hw⟩
        refine ⟨_, rfl, ?_⟩
        show wp E (d + 1) m_x_soothe 36 [some (.ref 0), some (.int a1), some (.int a2), none] [.int x7] (Hp S8) (QX (QI Q) X)
        refine wp_st (pc' := 38) (L' := [some (.ref 0), some (.int a1), some (.int a2), some (.int x7)]) (st' := [.ref 0]) (h' := Hp S8) 2 (fun Z => rfl) ?_
        refine wp_st (pc' := 41) (L' := [some (.ref 0), some (.int a1), some (.int a2), some (.int x7)]) (st' := [.ref 25]) (h' := Hp S8) 1 (fun Z => gfR (E := E) sh0 rfl _) ?_
        refine wp_st (pc' := 43) (L' := [some (.ref 0), some (.int a1), some (.int a2), some (.int x7)]) (st' := [.int a2, .int a1, .ref 25]) (h' := Hp S8) 2 (fun Z => rfl) ?_
        refine wp_call (pc' := 46) (rest := []) (fun Z => rfl) (isO_of sh25) hw ?_
        rintro o h1 ⟨S10, rfl, rfl, hw⟩
        refine ⟨_, rfl, ?_⟩
        show wp E (d + 1) m_x_soothe 46 [some (.ref 0), some (.int a1), some (.int a2), some (.int x7)] [] (Hp S10) (QX (QI Q) X)
        refine wp_st (pc' := 47) (L' := [some (.ref 0), some (.int a1), some (.int a2), some (.int x7)]) (st' := [.int x7]) (h' := Hp S10) 1 (fun Z => rfl) ?_
        exact wp_ret (fun Z => rfl) (Or.inl ⟨_, _, rfl, rfl, hw⟩)
      · rw [if_neg hc] at hw
        refine wp_st (pc' := 15) (L' := [some (.ref 0), some (.int a1), some (.int a2), none]) (st' := []) (h' := Hp S2) 1 (fun Z => if_neg hc) ?_
        refine wp_st (pc' := 17) (L' := [some (.ref 0), some (.int a1), some (.int a2), none]) (st' := [.int 1, .ref 0]) (h' := Hp S2) 2 (fun Z => rfl) ?_
        refine wp_call (pc' := 20) (rest := []) (fun Z => rfl) (isO_of sh0) hw ?_
        rintro o h1 ⟨x11, S12, rfl, rfl, hw⟩
        refine ⟨_, rfl, ?_⟩
        show wp E (d + 1) m_x_soothe 20 [some (.ref 0), some (.int a1), some (.int a2), none] [.int x11] (Hp S12) (QX (QI Q) X)
        exact wp_ret (fun Z => rfl) (Or.inl ⟨_, _, rfl, rfl, hw⟩)
  · exact Or.inr ⟨x, rfl, Or.inr ⟨_, _, rfl, rfl, hw⟩⟩
set_option maxRecDepth 4000 in
theorem w_x_then {E : zX} {d : Nat} {S : St} {a1 : Int32} {a2 : Int32} {a3 : Int32} {Q : Int32 → St → Prop} {X : Nat → St → Prop} (hd : 1 ≤ d) 
    (hw : k_x_needBall E (d - 1) S a1 (fun S2 =>
    k_x_needWhat E (d - 1) S2 a3 2 (fun S4 =>
      k_x_needDays E (d - 1) S4 a2 0 (fun S6 =>
        k_Forecast_behind E (d - 1) S6 a2 (fun o7 S8 =>
          if a3 = 0 then (
            Sc o7 ∧
            k_Scene_heldIn E (d - 1) S8 o7 a1 (fun x9 S10 =>
            Q x9 S10))
          else (
            if a3 = 1 then (
              Sc o7 ∧
              k_Scene_ageOf E (d - 1) S8 o7 a1 (fun x12 S13 =>
              Q x12 S13))
            else (
              Sc o7 ∧
              k_Scene_ownerOf E (d - 1) S8 o7 a1 (fun x15 S16 =>
              Q x15 S16))))) X) X) X) :
    k_x_then E d S a1 a2 a3 Q X := by
  obtain ⟨d, rfl⟩ := Nat.exists_eq_add_of_le' hd
  show wp E (d + 1) m_x_then 0 [some (.ref 0), some (.int a1), some (.int a2), some (.int a3), none] [] (Hp S) (QX (QI Q) X)
  refine wp_st (pc' := 2) (L' := [some (.ref 0), some (.int a1), some (.int a2), some (.int a3), none]) (st' := [.int a1, .ref 0]) (h' := Hp S) 2 (fun Z => rfl) ?_
  refine wp_callX (pc' := 5) (rest := []) (fun Z => rfl) (isO_of sh0) hw ?_
  rintro o h1 (⟨S2, rfl, rfl, hw⟩ | ⟨x, S9, rfl, rfl, hw⟩)
  · refine Or.inl ⟨_, rfl, ?_⟩
    show wp E (d + 1) m_x_then 5 [some (.ref 0), some (.int a1), some (.int a2), some (.int a3), none] [] (Hp S2) (QX (QI Q) X)
    refine wp_st (pc' := 8) (L' := [some (.ref 0), some (.int a1), some (.int a2), some (.int a3), none]) (st' := [.int 2, .int a3, .ref 0]) (h' := Hp S2) 3 (fun Z => rfl) ?_
    refine wp_callX (pc' := 11) (rest := []) (fun Z => rfl) (isO_of sh0) hw ?_
    rintro o h1 (⟨S4, rfl, rfl, hw⟩ | ⟨x, S9, rfl, rfl, hw⟩)
    · refine Or.inl ⟨_, rfl, ?_⟩
      show wp E (d + 1) m_x_then 11 [some (.ref 0), some (.int a1), some (.int a2), some (.int a3), none] [] (Hp S4) (QX (QI Q) X)
      refine wp_st (pc' := 14) (L' := [some (.ref 0), some (.int a1), some (.int a2), some (.int a3), none]) (st' := [.int 0, .int a2, .ref 0]) (h' := Hp S4) 3 (fun Z => rfl) ?_
      refine wp_callX (pc' := 17) (rest := []) (fun Z => rfl) (isO_of sh0) hw ?_
      rintro o h1 (⟨S6, rfl, rfl, hw⟩ | ⟨x, S9, rfl, rfl, hw⟩)
      · refine Or.inl ⟨_, rfl, ?_⟩
        show wp E (d + 1) m_x_then 17 [some (.ref 0), some (.int a1), some (.int a2), some (.int a3), none] [] (Hp S6) (QX (QI Q) X)
        refine wp_st (pc' := 18) (L' := [some (.ref 0), some (.int a1), some (.int a2), some (.int a3), none]) (st' := [.ref 0]) (h' := Hp S6) 1 (fun Z => rfl) ?_
        refine wp_st (pc' := 21) (L' := [some (.ref 0), some (.int a1), some (.int a2), some (.int a3), none]) (st' := [.ref 43]) (h' := Hp S6) 1 (fun Z => gfR (E := E) sh0 rfl _) ?_
        refine wp_st (pc' := 22) (L' := [some (.ref 0), some (.int a1), some (.int a2), some (.int a3), none]) (st' := [.int a2, .ref 43]) (h' := Hp S6) 1 (fun Z => rfl) ?_
        refine wp_call (pc' := 25) (rest := []) (fun Z => rfl) (isO_of sh43) hw ?_
        rintro o h1 ⟨o7, S8, rfl, rfl, hw⟩
        refine ⟨_, rfl, ?_⟩
        show wp E (d + 1) m_x_then 25 [some (.ref 0), some (.int a1), some (.int a2), some (.int a3), none] [.ref o7] (Hp S8) (QX (QI Q) X)
        refine wp_st (pc' := 28) (L' := [some (.ref 0), some (.int a1), some (.int a2), some (.int a3), some (.ref o7)]) (st' := [.int a3]) (h' := Hp S8) 2 (fun Z => rfl) ?_
        by_cases hc : a3 = 0
        · rw [if_pos hc] at hw
          refine wp_st (pc' := 31) (L' := [some (.ref 0), some (.int a1), some (.int a2), some (.int a3), some (.ref o7)]) (st' := []) (h' := Hp S8) 1 (fun Z => if_pos hc) ?_
          refine wp_st (pc' := 34) (L' := [some (.ref 0), some (.int a1), some (.int a2), some (.int a3), some (.ref o7)]) (st' := [.int a1, .ref o7]) (h' := Hp S8) 2 (fun Z => rfl) ?_
          obtain ⟨g11, hw⟩ := hw
          refine wp_call (pc' := 37) (rest := []) (fun Z => rfl) (isO_of (g11).1) hw ?_
          rintro o h1 ⟨x9, S10, rfl, rfl, hw⟩
          refine ⟨_, rfl, ?_⟩
          show wp E (d + 1) m_x_then 37 [some (.ref 0), some (.int a1), some (.int a2), some (.int a3), some (.ref o7)] [.int x9] (Hp S10) (QX (QI Q) X)
          exact wp_ret (fun Z => rfl) (Or.inl ⟨_, _, rfl, rfl, hw⟩)
        · rw [if_neg hc] at hw
          refine wp_st (pc' := 38) (L' := [some (.ref 0), some (.int a1), some (.int a2), some (.int a3), some (.ref o7)]) (st' := []) (h' := Hp S8) 1 (fun Z => if_neg hc) ?_
          refine wp_st (pc' := 40) (L' := [some (.ref 0), some (.int a1), some (.int a2), some (.int a3), some (.ref o7)]) (st' := [.int 1, .int a3]) (h' := Hp S8) 2 (fun Z => rfl) ?_
          by_cases hc : a3 = 1
          · rw [if_pos hc] at hw
            refine wp_st (pc' := 43) (L' := [some (.ref 0), some (.int a1), some (.int a2), some (.int a3), some (.ref o7)]) (st' := []) (h' := Hp S8) 1 (fun Z => if_pos hc) ?_
            refine wp_st (pc' := 46) (L' := [some (.ref 0), some (.int a1), some (.int a2), some (.int a3), some (.ref o7)]) (st' := [.int a1, .ref o7]) (h' := Hp S8) 2 (fun Z => rfl) ?_
            obtain ⟨g14, hw⟩ := hw
            refine wp_call (pc' := 49) (rest := []) (fun Z => rfl) (isO_of (g14).1) hw ?_
            rintro o h1 ⟨x12, S13, rfl, rfl, hw⟩
            refine ⟨_, rfl, ?_⟩
            show wp E (d + 1) m_x_then 49 [some (.ref 0), some (.int a1), some (.int a2), some (.int a3), some (.ref o7)] [.int x12] (Hp S13) (QX (QI Q) X)
            refine wp_st (pc' := 58) (L' := [some (.ref 0), some (.int a1), some (.int a2), some (.int a3), some (.ref o7)]) (st' := [.int x12]) (h' := Hp S13) 1 (fun Z => rfl) ?_
            exact wp_ret (fun Z => rfl) (Or.inl ⟨_, _, rfl, rfl, hw⟩)
          · rw [if_neg hc] at hw
            refine wp_st (pc' := 52) (L' := [some (.ref 0), some (.int a1), some (.int a2), some (.int a3), some (.ref o7)]) (st' := []) (h' := Hp S8) 1 (fun Z => if_neg hc) ?_
            refine wp_st (pc' := 55) (L' := [some (.ref 0), some (.int a1), some (.int a2), some (.int a3), some (.ref o7)]) (st' := [.int a1, .ref o7]) (h' := Hp S8) 2 (fun Z => rfl) ?_
            obtain ⟨g17, hw⟩ := hw
            refine wp_call (pc' := 58) (rest := []) (fun Z => rfl) (isO_of (g17).1) hw ?_
            rintro o h1 ⟨x15, S16, rfl, rfl, hw⟩
            refine ⟨_, rfl, ?_⟩
            show wp E (d + 1) m_x_then 58 [some (.ref 0), some (.int a1), some (.int a2), some (.int a3), some (.ref o7)] [.int x15] (Hp S16) (QX (QI Q) X)
            exact wp_ret (fun Z => rfl) (Or.inl ⟨_, _, rfl, rfl, hw⟩)
      · exact Or.inr ⟨x, rfl, Or.inr ⟨_, _, rfl, rfl, hw⟩⟩
    · exact Or.inr ⟨x, rfl, Or.inr ⟨_, _, rfl, rfl, hw⟩⟩
  · exact Or.inr ⟨x, rfl, Or.inr ⟨_, _, rfl, rfl, hw⟩⟩
set_option maxRecDepth 4000 in
theorem w_x_needWhat {E : zX} {d : Nat} {S : St} {a1 : Int32} {a2 : Int32} {Q : St → Prop} {X : Nat → St → Prop} (hd : 8 ≤ d) 
    (hw : if a1 < 0 then (
      (S 1000 0).toNatClampNeg < 1000000 ∧ X 0 (upT S))
    else (
      if a1 ≤ a2 then (
        Q S)
      else (
        (S 1000 0).toNatClampNeg < 1000000 ∧ X 0 (upT S)))) :
    k_x_needWhat E d S a1 a2 Q X := by
  obtain ⟨d, rfl⟩ := Nat.exists_eq_add_of_le' hd
  show wp E (d + 8) m_x_needWhat 0 [some (.ref 0), some (.int a1), some (.int a2)] [] (Hp S) (QX (QV Q) X)
  refine wp_st (pc' := 1) (L' := [some (.ref 0), some (.int a1), some (.int a2)]) (st' := [.int a1]) (h' := Hp S) 1 (fun Z => rfl) ?_
  by_cases hc : a1 < 0
  · rw [if_pos hc] at hw
    refine wp_st (pc' := 9) (L' := [some (.ref 0), some (.int a1), some (.int a2)]) (st' := []) (h' := Hp S) 1 (fun Z => if_pos hc) ?_
    obtain ⟨hn, hw⟩ := hw
    refine wp_ret (h' := Hp (upT S)) (o := .inr 0) (fun Z => ?_) (Or.inr ⟨_, _, rfl, rfl, hw⟩)
    rw [upT_eq hn]
    rfl
  · rw [if_neg hc] at hw
    refine wp_st (pc' := 4) (L' := [some (.ref 0), some (.int a1), some (.int a2)]) (st' := []) (h' := Hp S) 1 (fun Z => if_neg hc) ?_
    refine wp_st (pc' := 6) (L' := [some (.ref 0), some (.int a1), some (.int a2)]) (st' := [.int a2, .int a1]) (h' := Hp S) 2 (fun Z => rfl) ?_
    by_cases hc : a1 ≤ a2
    · rw [if_pos hc] at hw
      refine wp_st (pc' := 20) (L' := [some (.ref 0), some (.int a1), some (.int a2)]) (st' := []) (h' := Hp S) 1 (fun Z => if_pos hc) ?_
      exact wp_ret (fun Z => rfl) (Or.inl ⟨_, rfl, rfl, hw⟩)
    · rw [if_neg hc] at hw
      refine wp_st (pc' := 9) (L' := [some (.ref 0), some (.int a1), some (.int a2)]) (st' := []) (h' := Hp S) 1 (fun Z => if_neg hc) ?_
      obtain ⟨hn, hw⟩ := hw
      refine wp_ret (h' := Hp (upT S)) (o := .inr 0) (fun Z => ?_) (Or.inr ⟨_, _, rfl, rfl, hw⟩)
      rw [upT_eq hn]
      rfl
set_option maxRecDepth 4000 in
theorem w_x_needDays {E : zX} {d : Nat} {S : St} {a1 : Int32} {a2 : Int32} {Q : St → Prop} {X : Nat → St → Prop} (hd : 8 ≤ d) 
    (hw : if a1 < a2 then (
      (S 1000 0).toNatClampNeg < 1000000 ∧ X 1 (upT S))
    else (
      if a1 ≤ 60 then (
        Q S)
      else (
        (S 1000 0).toNatClampNeg < 1000000 ∧ X 1 (upT S)))) :
    k_x_needDays E d S a1 a2 Q X := by
  obtain ⟨d, rfl⟩ := Nat.exists_eq_add_of_le' hd
  show wp E (d + 8) m_x_needDays 0 [some (.ref 0), some (.int a1), some (.int a2)] [] (Hp S) (QX (QV Q) X)
  refine wp_st (pc' := 2) (L' := [some (.ref 0), some (.int a1), some (.int a2)]) (st' := [.int a2, .int a1]) (h' := Hp S) 2 (fun Z => rfl) ?_
  by_cases hc : a1 < a2
  · rw [if_pos hc] at hw
    refine wp_st (pc' := 11) (L' := [some (.ref 0), some (.int a1), some (.int a2)]) (st' := []) (h' := Hp S) 1 (fun Z => if_pos hc) ?_
    obtain ⟨hn, hw⟩ := hw
    refine wp_ret (h' := Hp (upT S)) (o := .inr 1) (fun Z => ?_) (Or.inr ⟨_, _, rfl, rfl, hw⟩)
    rw [upT_eq hn]
    rfl
  · rw [if_neg hc] at hw
    refine wp_st (pc' := 5) (L' := [some (.ref 0), some (.int a1), some (.int a2)]) (st' := []) (h' := Hp S) 1 (fun Z => if_neg hc) ?_
    refine wp_st (pc' := 8) (L' := [some (.ref 0), some (.int a1), some (.int a2)]) (st' := [.int 60, .int a1]) (h' := Hp S) 2 (fun Z => rfl) ?_
    by_cases hc : a1 ≤ 60
    · rw [if_pos hc] at hw
      refine wp_st (pc' := 22) (L' := [some (.ref 0), some (.int a1), some (.int a2)]) (st' := []) (h' := Hp S) 1 (fun Z => if_pos hc) ?_
      exact wp_ret (fun Z => rfl) (Or.inl ⟨_, rfl, rfl, hw⟩)
    · rw [if_neg hc] at hw
      refine wp_st (pc' := 11) (L' := [some (.ref 0), some (.int a1), some (.int a2)]) (st' := []) (h' := Hp S) 1 (fun Z => if_neg hc) ?_
      obtain ⟨hn, hw⟩ := hw
      refine wp_ret (h' := Hp (upT S)) (o := .inr 1) (fun Z => ?_) (Or.inr ⟨_, _, rfl, rfl, hw⟩)
      rw [upT_eq hn]
      rfl
set_option maxRecDepth 4000 in
theorem w_x_mood {E : zX} {d : Nat} {S : St} {a1 : Int32} {a2 : Int32} {a3 : Int32} {Q : Int32 → St → Prop} {X : Nat → St → Prop} (hd : 1 ≤ d) 
    (hw : k_x_needPerson E (d - 1) S a1 (fun S2 =>
    k_x_needWhat E (d - 1) S2 a3 2 (fun S4 =>
      k_x_needDays E (d - 1) S4 a2 0 (fun S6 =>
        k_Forecast_behind E (d - 1) S6 a2 (fun o7 S8 =>
          if a3 = 0 then (
            Sc o7 ∧
            k_Scene_temperOf E (d - 1) S8 o7 a1 (fun x9 S10 =>
            Q x9 S10))
          else (
            if a3 = 1 then (
              Sc o7 ∧
              k_Scene_shoutedBy E (d - 1) S8 o7 a1 (fun x12 S13 =>
              Q x12 S13))
            else (
              Sc o7 ∧
              k_Scene_heardBy E (d - 1) S8 o7 a1 (fun x15 S16 =>
              Q x15 S16))))) X) X) X) :
    k_x_mood E d S a1 a2 a3 Q X := by
  obtain ⟨d, rfl⟩ := Nat.exists_eq_add_of_le' hd
  show wp E (d + 1) m_x_mood 0 [some (.ref 0), some (.int a1), some (.int a2), some (.int a3), none] [] (Hp S) (QX (QI Q) X)
  refine wp_st (pc' := 2) (L' := [some (.ref 0), some (.int a1), some (.int a2), some (.int a3), none]) (st' := [.int a1, .ref 0]) (h' := Hp S) 2 (fun Z => rfl) ?_
  refine wp_callX (pc' := 5) (rest := []) (fun Z => rfl) (isO_of sh0) hw ?_
  rintro o h1 (⟨S2, rfl, rfl, hw⟩ | ⟨x, S9, rfl, rfl, hw⟩)
  · refine Or.inl ⟨_, rfl, ?_⟩
    show wp E (d + 1) m_x_mood 5 [some (.ref 0), some (.int a1), some (.int a2), some (.int a3), none] [] (Hp S2) (QX (QI Q) X)
    refine wp_st (pc' := 8) (L' := [some (.ref 0), some (.int a1), some (.int a2), some (.int a3), none]) (st' := [.int 2, .int a3, .ref 0]) (h' := Hp S2) 3 (fun Z => rfl) ?_
    refine wp_callX (pc' := 11) (rest := []) (fun Z => rfl) (isO_of sh0) hw ?_
    rintro o h1 (⟨S4, rfl, rfl, hw⟩ | ⟨x, S9, rfl, rfl, hw⟩)
    · refine Or.inl ⟨_, rfl, ?_⟩
      show wp E (d + 1) m_x_mood 11 [some (.ref 0), some (.int a1), some (.int a2), some (.int a3), none] [] (Hp S4) (QX (QI Q) X)
      refine wp_st (pc' := 14) (L' := [some (.ref 0), some (.int a1), some (.int a2), some (.int a3), none]) (st' := [.int 0, .int a2, .ref 0]) (h' := Hp S4) 3 (fun Z => rfl) ?_
      refine wp_callX (pc' := 17) (rest := []) (fun Z => rfl) (isO_of sh0) hw ?_
      rintro o h1 (⟨S6, rfl, rfl, hw⟩ | ⟨x, S9, rfl, rfl, hw⟩)
      · refine Or.inl ⟨_, rfl, ?_⟩
        show wp E (d + 1) m_x_mood 17 [some (.ref 0), some (.int a1), some (.int a2), some (.int a3), none] [] (Hp S6) (QX (QI Q) X)
        refine wp_st (pc' := 18) (L' := [some (.ref 0), some (.int a1), some (.int a2), some (.int a3), none]) (st' := [.ref 0]) (h' := Hp S6) 1 (fun Z => rfl) ?_
        refine wp_st (pc' := 21) (L' := [some (.ref 0), some (.int a1), some (.int a2), some (.int a3), none]) (st' := [.ref 43]) (h' := Hp S6) 1 (fun Z => gfR (E := E) sh0 rfl _) ?_
        refine wp_st (pc' := 22) (L' := [some (.ref 0), some (.int a1), some (.int a2), some (.int a3), none]) (st' := [.int a2, .ref 43]) (h' := Hp S6) 1 (fun Z => rfl) ?_
        refine wp_call (pc' := 25) (rest := []) (fun Z => rfl) (isO_of sh43) hw ?_
        rintro o h1 ⟨o7, S8, rfl, rfl, hw⟩
        refine ⟨_, rfl, ?_⟩
        show wp E (d + 1) m_x_mood 25 [some (.ref 0), some (.int a1), some (.int a2), some (.int a3), none] [.ref o7] (Hp S8) (QX (QI Q) X)
        refine wp_st (pc' := 28) (L' := [some (.ref 0), some (.int a1), some (.int a2), some (.int a3), some (.ref o7)]) (st' := [.int a3]) (h' := Hp S8) 2 (fun Z => rfl) ?_
        by_cases hc : a3 = 0
        · rw [if_pos hc] at hw
          refine wp_st (pc' := 31) (L' := [some (.ref 0), some (.int a1), some (.int a2), some (.int a3), some (.ref o7)]) (st' := []) (h' := Hp S8) 1 (fun Z => if_pos hc) ?_
          refine wp_st (pc' := 34) (L' := [some (.ref 0), some (.int a1), some (.int a2), some (.int a3), some (.ref o7)]) (st' := [.int a1, .ref o7]) (h' := Hp S8) 2 (fun Z => rfl) ?_
          obtain ⟨g11, hw⟩ := hw
          refine wp_call (pc' := 37) (rest := []) (fun Z => rfl) (isO_of (g11).1) hw ?_
          rintro o h1 ⟨x9, S10, rfl, rfl, hw⟩
          refine ⟨_, rfl, ?_⟩
          show wp E (d + 1) m_x_mood 37 [some (.ref 0), some (.int a1), some (.int a2), some (.int a3), some (.ref o7)] [.int x9] (Hp S10) (QX (QI Q) X)
          exact wp_ret (fun Z => rfl) (Or.inl ⟨_, _, rfl, rfl, hw⟩)
        · rw [if_neg hc] at hw
          refine wp_st (pc' := 38) (L' := [some (.ref 0), some (.int a1), some (.int a2), some (.int a3), some (.ref o7)]) (st' := []) (h' := Hp S8) 1 (fun Z => if_neg hc) ?_
          refine wp_st (pc' := 40) (L' := [some (.ref 0), some (.int a1), some (.int a2), some (.int a3), some (.ref o7)]) (st' := [.int 1, .int a3]) (h' := Hp S8) 2 (fun Z => rfl) ?_
          by_cases hc : a3 = 1
          · rw [if_pos hc] at hw
            refine wp_st (pc' := 43) (L' := [some (.ref 0), some (.int a1), some (.int a2), some (.int a3), some (.ref o7)]) (st' := []) (h' := Hp S8) 1 (fun Z => if_pos hc) ?_
            refine wp_st (pc' := 46) (L' := [some (.ref 0), some (.int a1), some (.int a2), some (.int a3), some (.ref o7)]) (st' := [.int a1, .ref o7]) (h' := Hp S8) 2 (fun Z => rfl) ?_
            obtain ⟨g14, hw⟩ := hw
            refine wp_call (pc' := 49) (rest := []) (fun Z => rfl) (isO_of (g14).1) hw ?_
            rintro o h1 ⟨x12, S13, rfl, rfl, hw⟩
            refine ⟨_, rfl, ?_⟩
            show wp E (d + 1) m_x_mood 49 [some (.ref 0), some (.int a1), some (.int a2), some (.int a3), some (.ref o7)] [.int x12] (Hp S13) (QX (QI Q) X)
            refine wp_st (pc' := 58) (L' := [some (.ref 0), some (.int a1), some (.int a2), some (.int a3), some (.ref o7)]) (st' := [.int x12]) (h' := Hp S13) 1 (fun Z => rfl) ?_
            exact wp_ret (fun Z => rfl) (Or.inl ⟨_, _, rfl, rfl, hw⟩)
          · rw [if_neg hc] at hw
            refine wp_st (pc' := 52) (L' := [some (.ref 0), some (.int a1), some (.int a2), some (.int a3), some (.ref o7)]) (st' := []) (h' := Hp S8) 1 (fun Z => if_neg hc) ?_
            refine wp_st (pc' := 55) (L' := [some (.ref 0), some (.int a1), some (.int a2), some (.int a3), some (.ref o7)]) (st' := [.int a1, .ref o7]) (h' := Hp S8) 2 (fun Z => rfl) ?_
            obtain ⟨g17, hw⟩ := hw
            refine wp_call (pc' := 58) (rest := []) (fun Z => rfl) (isO_of (g17).1) hw ?_
            rintro o h1 ⟨x15, S16, rfl, rfl, hw⟩
            refine ⟨_, rfl, ?_⟩
            show wp E (d + 1) m_x_mood 58 [some (.ref 0), some (.int a1), some (.int a2), some (.int a3), some (.ref o7)] [.int x15] (Hp S16) (QX (QI Q) X)
            exact wp_ret (fun Z => rfl) (Or.inl ⟨_, _, rfl, rfl, hw⟩)
      · exact Or.inr ⟨x, rfl, Or.inr ⟨_, _, rfl, rfl, hw⟩⟩
    · exact Or.inr ⟨x, rfl, Or.inr ⟨_, _, rfl, rfl, hw⟩⟩
  · exact Or.inr ⟨x, rfl, Or.inr ⟨_, _, rfl, rfl, hw⟩⟩
set_option maxRecDepth 4000 in
theorem w_x_off {E : zX} {d : Nat} {S : St} {a1 : Int32} {Q : Int32 → St → Prop} {X : Nat → St → Prop} (hd : 1 ≤ d) 
    (hw : k_x_needBall E (d - 1) S a1 (fun S2 =>
    k_Forecast_firstDay E (d - 1) S2 0 ((1 : Int32) <<< (a1 &&& 31)) (fun x3 S4 =>
      Q x3 S4)) X) :
    k_x_off E d S a1 Q X := by
  obtain ⟨d, rfl⟩ := Nat.exists_eq_add_of_le' hd
  show wp E (d + 1) m_x_off 0 [some (.ref 0), some (.int a1)] [] (Hp S) (QX (QI Q) X)
  refine wp_st (pc' := 2) (L' := [some (.ref 0), some (.int a1)]) (st' := [.int a1, .ref 0]) (h' := Hp S) 2 (fun Z => rfl) ?_
  refine wp_callX (pc' := 5) (rest := []) (fun Z => rfl) (isO_of sh0) hw ?_
  rintro o h1 (⟨S2, rfl, rfl, hw⟩ | ⟨x, S9, rfl, rfl, hw⟩)
  · refine Or.inl ⟨_, rfl, ?_⟩
    show wp E (d + 1) m_x_off 5 [some (.ref 0), some (.int a1)] [] (Hp S2) (QX (QI Q) X)
    refine wp_st (pc' := 6) (L' := [some (.ref 0), some (.int a1)]) (st' := [.ref 0]) (h' := Hp S2) 1 (fun Z => rfl) ?_
    refine wp_st (pc' := 9) (L' := [some (.ref 0), some (.int a1)]) (st' := [.ref 43]) (h' := Hp S2) 1 (fun Z => gfR (E := E) sh0 rfl _) ?_
    refine wp_st (pc' := 13) (L' := [some (.ref 0), some (.int a1)]) (st' := [.int ((1 : Int32) <<< (a1 &&& 31)), .int 0, .ref 43]) (h' := Hp S2) 4 (fun Z => rfl) ?_
    refine wp_call (pc' := 16) (rest := []) (fun Z => rfl) (isO_of sh43) hw ?_
    rintro o h1 ⟨x3, S4, rfl, rfl, hw⟩
    refine ⟨_, rfl, ?_⟩
    show wp E (d + 1) m_x_off 16 [some (.ref 0), some (.int a1)] [.int x3] (Hp S4) (QX (QI Q) X)
    exact wp_ret (fun Z => rfl) (Or.inl ⟨_, _, rfl, rfl, hw⟩)
  · exact Or.inr ⟨x, rfl, Or.inr ⟨_, _, rfl, rfl, hw⟩⟩
set_option maxRecDepth 4000 in
theorem w_x_later {E : zX} {d : Nat} {S : St} {a1 : Int32} {a2 : Int32} {Q : Int32 → St → Prop} {X : Nat → St → Prop} (hd : 1 ≤ d) 
    (hw : k_x_needWhat E (d - 1) S a2 3 (fun S2 =>
    k_x_needDays E (d - 1) S2 a1 0 (fun S4 =>
      if a2 = 0 then (
          k_Forecast_bursts E (d - 1) S4 a1 (fun x5 S6 =>
          Q x5 S6))
        else (
          k_Forecast_behind E (d - 1) S4 a1 (fun o7 S8 =>
          if a2 = 1 then (
            k_Downs_heldByAll E (d - 1) S8 o7 (fun x9 S10 =>
            Q x9 S10))
          else (
            if a2 = 2 then (
              k_Downs_whites E (d - 1) S8 o7 (fun x11 S12 =>
              Q x11 S12))
            else (
              k_Downs_crossest E (d - 1) S8 o7 (fun x13 S14 =>
              Q x13 S14)))))) X) X) :
    k_x_later E d S a1 a2 Q X := by
  obtain ⟨d, rfl⟩ := Nat.exists_eq_add_of_le' hd
  show wp E (d + 1) m_x_later 0 [some (.ref 0), some (.int a1), some (.int a2), none] [] (Hp S) (QX (QI Q) X)
  refine wp_st (pc' := 3) (L' := [some (.ref 0), some (.int a1), some (.int a2), none]) (st' := [.int 3, .int a2, .ref 0]) (h' := Hp S) 3 (fun Z => rfl) ?_
  refine wp_callX (pc' := 6) (rest := []) (fun Z => rfl) (isO_of sh0) hw ?_
  rintro o h1 (⟨S2, rfl, rfl, hw⟩ | ⟨x, S9, rfl, rfl, hw⟩)
  · refine Or.inl ⟨_, rfl, ?_⟩
    show wp E (d + 1) m_x_later 6 [some (.ref 0), some (.int a1), some (.int a2), none] [] (Hp S2) (QX (QI Q) X)
    refine wp_st (pc' := 9) (L' := [some (.ref 0), some (.int a1), some (.int a2), none]) (st' := [.int 0, .int a1, .ref 0]) (h' := Hp S2) 3 (fun Z => rfl) ?_
    refine wp_callX (pc' := 12) (rest := []) (fun Z => rfl) (isO_of sh0) hw ?_
    rintro o h1 (⟨S4, rfl, rfl, hw⟩ | ⟨x, S9, rfl, rfl, hw⟩)
    · refine Or.inl ⟨_, rfl, ?_⟩
      show wp E (d + 1) m_x_later 12 [some (.ref 0), some (.int a1), some (.int a2), none] [] (Hp S4) (QX (QI Q) X)
      refine wp_st (pc' := 13) (L' := [some (.ref 0), some (.int a1), some (.int a2), none]) (st' := [.int a2]) (h' := Hp S4) 1 (fun Z => rfl) ?_
      by_cases hc : a2 = 0
      · rw [if_pos hc] at hw
        refine wp_st (pc' := 16) (L' := [some (.ref 0), some (.int a1), some (.int a2), none]) (st' := []) (h' := Hp S4) 1 (fun Z => if_pos hc) ?_
        refine wp_st (pc' := 17) (L' := [some (.ref 0), some (.int a1), some (.int a2), none]) (st' := [.ref 0]) (h' := Hp S4) 1 (fun Z => rfl) ?_
        refine wp_st (pc' := 20) (L' := [some (.ref 0), some (.int a1), some (.int a2), none]) (st' := [.ref 43]) (h' := Hp S4) 1 (fun Z => gfR (E := E) sh0 rfl _) ?_
        refine wp_st (pc' := 21) (L' := [some (.ref 0), some (.int a1), some (.int a2), none]) (st' := [.int a1, .ref 43]) (h' := Hp S4) 1 (fun Z => rfl) ?_
        refine wp_call (pc' := 24) (rest := []) (fun Z => rfl) (isO_of sh43) hw ?_
        rintro o h1 ⟨x5, S6, rfl, rfl, hw⟩
        refine ⟨_, rfl, ?_⟩
        show wp E (d + 1) m_x_later 24 [some (.ref 0), some (.int a1), some (.int a2), none] [.int x5] (Hp S6) (QX (QI Q) X)
        exact wp_ret (fun Z => rfl) (Or.inl ⟨_, _, rfl, rfl, hw⟩)
      · rw [if_neg hc] at hw
        refine wp_st (pc' := 25) (L' := [some (.ref 0), some (.int a1), some (.int a2), none]) (st' := []) (h' := Hp S4) 1 (fun Z => if_neg hc) ?_
        refine wp_st (pc' := 26) (L' := [some (.ref 0), some (.int a1), some (.int a2), none]) (st' := [.ref 0]) (h' := Hp S4) 1 (fun Z => rfl) ?_
        refine wp_st (pc' := 29) (L' := [some (.ref 0), some (.int a1), some (.int a2), none]) (st' := [.ref 43]) (h' := Hp S4) 1 (fun Z => gfR (E := E) sh0 rfl _) ?_
        refine wp_st (pc' := 30) (L' := [some (.ref 0), some (.int a1), some (.int a2), none]) (st' := [.int a1, .ref 43]) (h' := Hp S4) 1 (fun Z => rfl) ?_
        refine wp_call (pc' := 33) (rest := []) (fun Z => rfl) (isO_of sh43) hw ?_
        rintro o h1 ⟨o7, S8, rfl, rfl, hw⟩
        refine ⟨_, rfl, ?_⟩
        show wp E (d + 1) m_x_later 33 [some (.ref 0), some (.int a1), some (.int a2), none] [.ref o7] (Hp S8) (QX (QI Q) X)
        refine wp_st (pc' := 36) (L' := [some (.ref 0), some (.int a1), some (.int a2), some (.ref o7)]) (st' := [.int 1, .int a2]) (h' := Hp S8) 3 (fun Z => rfl) ?_
        by_cases hc : a2 = 1
        · rw [if_pos hc] at hw
          refine wp_st (pc' := 39) (L' := [some (.ref 0), some (.int a1), some (.int a2), some (.ref o7)]) (st' := []) (h' := Hp S8) 1 (fun Z => if_pos hc) ?_
          refine wp_st (pc' := 40) (L' := [some (.ref 0), some (.int a1), some (.int a2), some (.ref o7)]) (st' := [.ref 0]) (h' := Hp S8) 1 (fun Z => rfl) ?_
          refine wp_st (pc' := 43) (L' := [some (.ref 0), some (.int a1), some (.int a2), some (.ref o7)]) (st' := [.ref 38]) (h' := Hp S8) 1 (fun Z => gfR (E := E) sh0 rfl _) ?_
          refine wp_st (pc' := 44) (L' := [some (.ref 0), some (.int a1), some (.int a2), some (.ref o7)]) (st' := [.ref o7, .ref 38]) (h' := Hp S8) 1 (fun Z => rfl) ?_
          refine wp_call (pc' := 47) (rest := []) (fun Z => rfl) (isO_of sh38) hw ?_
          rintro o h1 ⟨x9, S10, rfl, rfl, hw⟩
          refine ⟨_, rfl, ?_⟩
          show wp E (d + 1) m_x_later 47 [some (.ref 0), some (.int a1), some (.int a2), some (.ref o7)] [.int x9] (Hp S10) (QX (QI Q) X)
          exact wp_ret (fun Z => rfl) (Or.inl ⟨_, _, rfl, rfl, hw⟩)
        · rw [if_neg hc] at hw
          refine wp_st (pc' := 48) (L' := [some (.ref 0), some (.int a1), some (.int a2), some (.ref o7)]) (st' := []) (h' := Hp S8) 1 (fun Z => if_neg hc) ?_
          refine wp_st (pc' := 50) (L' := [some (.ref 0), some (.int a1), some (.int a2), some (.ref o7)]) (st' := [.int 2, .int a2]) (h' := Hp S8) 2 (fun Z => rfl) ?_
          by_cases hc : a2 = 2
          · rw [if_pos hc] at hw
            refine wp_st (pc' := 53) (L' := [some (.ref 0), some (.int a1), some (.int a2), some (.ref o7)]) (st' := []) (h' := Hp S8) 1 (fun Z => if_pos hc) ?_
            refine wp_st (pc' := 54) (L' := [some (.ref 0), some (.int a1), some (.int a2), some (.ref o7)]) (st' := [.ref 0]) (h' := Hp S8) 1 (fun Z => rfl) ?_
            refine wp_st (pc' := 57) (L' := [some (.ref 0), some (.int a1), some (.int a2), some (.ref o7)]) (st' := [.ref 38]) (h' := Hp S8) 1 (fun Z => gfR (E := E) sh0 rfl _) ?_
            refine wp_st (pc' := 58) (L' := [some (.ref 0), some (.int a1), some (.int a2), some (.ref o7)]) (st' := [.ref o7, .ref 38]) (h' := Hp S8) 1 (fun Z => rfl) ?_
            refine wp_call (pc' := 61) (rest := []) (fun Z => rfl) (isO_of sh38) hw ?_
            rintro o h1 ⟨x11, S12, rfl, rfl, hw⟩
            refine ⟨_, rfl, ?_⟩
            show wp E (d + 1) m_x_later 61 [some (.ref 0), some (.int a1), some (.int a2), some (.ref o7)] [.int x11] (Hp S12) (QX (QI Q) X)
            refine wp_st (pc' := 72) (L' := [some (.ref 0), some (.int a1), some (.int a2), some (.ref o7)]) (st' := [.int x11]) (h' := Hp S12) 1 (fun Z => rfl) ?_
            exact wp_ret (fun Z => rfl) (Or.inl ⟨_, _, rfl, rfl, hw⟩)
          · rw [if_neg hc] at hw
            refine wp_st (pc' := 64) (L' := [some (.ref 0), some (.int a1), some (.int a2), some (.ref o7)]) (st' := []) (h' := Hp S8) 1 (fun Z => if_neg hc) ?_
            refine wp_st (pc' := 65) (L' := [some (.ref 0), some (.int a1), some (.int a2), some (.ref o7)]) (st' := [.ref 0]) (h' := Hp S8) 1 (fun Z => rfl) ?_
            refine wp_st (pc' := 68) (L' := [some (.ref 0), some (.int a1), some (.int a2), some (.ref o7)]) (st' := [.ref 38]) (h' := Hp S8) 1 (fun Z => gfR (E := E) sh0 rfl _) ?_
            refine wp_st (pc' := 69) (L' := [some (.ref 0), some (.int a1), some (.int a2), some (.ref o7)]) (st' := [.ref o7, .ref 38]) (h' := Hp S8) 1 (fun Z => rfl) ?_
            refine wp_call (pc' := 72) (rest := []) (fun Z => rfl) (isO_of sh38) hw ?_
            rintro o h1 ⟨x13, S14, rfl, rfl, hw⟩
            refine ⟨_, rfl, ?_⟩
            show wp E (d + 1) m_x_later 72 [some (.ref 0), some (.int a1), some (.int a2), some (.ref o7)] [.int x13] (Hp S14) (QX (QI Q) X)
            exact wp_ret (fun Z => rfl) (Or.inl ⟨_, _, rfl, rfl, hw⟩)
    · exact Or.inr ⟨x, rfl, Or.inr ⟨_, _, rfl, rfl, hw⟩⟩
  · exact Or.inr ⟨x, rfl, Or.inr ⟨_, _, rfl, rfl, hw⟩⟩
set_option maxRecDepth 4000 in
theorem w_x_toGuard {E : zX} {d : Nat} {S : St} {a1 : Int32} {a2 : Int32} {Q : Int32 → St → Prop} {X : Nat → St → Prop} (hd : 1 ≤ d) 
    (hw : k_x_needBall E (d - 1) S a1 (fun S2 =>
    k_x_needBall E (d - 1) S2 a2 (fun S4 =>
      if a1 = a2 then (
          Q ((-1) : Int32) S4)
        else (
          k_Plans_guardsBetween E (d - 1) S4 a1 a2 (fun x5 S6 =>
          Q x5 S6))) X) X) :
    k_x_toGuard E d S a1 a2 Q X := by
  obtain ⟨d, rfl⟩ := Nat.exists_eq_add_of_le' hd
  show wp E (d + 1) m_x_toGuard 0 [some (.ref 0), some (.int a1), some (.int a2)] [] (Hp S) (QX (QI Q) X)
  refine wp_st (pc' := 2) (L' := [some (.ref 0), some (.int a1), some (.int a2)]) (st' := [.int a1, .ref 0]) (h' := Hp S) 2 (fun Z => rfl) ?_
  refine wp_callX (pc' := 5) (rest := []) (fun Z => rfl) (isO_of sh0) hw ?_
  rintro o h1 (⟨S2, rfl, rfl, hw⟩ | ⟨x, S9, rfl, rfl, hw⟩)
  · refine Or.inl ⟨_, rfl, ?_⟩
    show wp E (d + 1) m_x_toGuard 5 [some (.ref 0), some (.int a1), some (.int a2)] [] (Hp S2) (QX (QI Q) X)
    refine wp_st (pc' := 7) (L' := [some (.ref 0), some (.int a1), some (.int a2)]) (st' := [.int a2, .ref 0]) (h' := Hp S2) 2 (fun Z => rfl) ?_
    refine wp_callX (pc' := 10) (rest := []) (fun Z => rfl) (isO_of sh0) hw ?_
    rintro o h1 (⟨S4, rfl, rfl, hw⟩ | ⟨x, S9, rfl, rfl, hw⟩)
    · refine Or.inl ⟨_, rfl, ?_⟩
      show wp E (d + 1) m_x_toGuard 10 [some (.ref 0), some (.int a1), some (.int a2)] [] (Hp S4) (QX (QI Q) X)
      refine wp_st (pc' := 12) (L' := [some (.ref 0), some (.int a1), some (.int a2)]) (st' := [.int a2, .int a1]) (h' := Hp S4) 2 (fun Z => rfl) ?_
      by_cases hc : a1 = a2
      · rw [if_pos hc] at hw
        refine wp_st (pc' := 15) (L' := [some (.ref 0), some (.int a1), some (.int a2)]) (st' := []) (h' := Hp S4) 1 (fun Z => if_pos hc) ?_
        refine wp_st (pc' := 16) (L' := [some (.ref 0), some (.int a1), some (.int a2)]) (st' := [.int (-1)]) (h' := Hp S4) 1 (fun Z => congrArg (fun v => Z (d + 1) m_x_toGuard 16 [some (.ref 0), some (.int a1), some (.int a2)] [.int v] (Hp S4)) (show Int32.ofInt (-1) = (-1) by decide)) ?_
        refine wp_st (pc' := 28) (L' := [some (.ref 0), some (.int a1), some (.int a2)]) (st' := [.int (-1)]) (h' := Hp S4) 1 (fun Z => rfl) ?_
        exact wp_ret (fun Z => rfl) (Or.inl ⟨_, _, rfl, rfl, hw⟩)
      · rw [if_neg hc] at hw
        refine wp_st (pc' := 19) (L' := [some (.ref 0), some (.int a1), some (.int a2)]) (st' := []) (h' := Hp S4) 1 (fun Z => if_neg hc) ?_
        refine wp_st (pc' := 20) (L' := [some (.ref 0), some (.int a1), some (.int a2)]) (st' := [.ref 0]) (h' := Hp S4) 1 (fun Z => rfl) ?_
        refine wp_st (pc' := 23) (L' := [some (.ref 0), some (.int a1), some (.int a2)]) (st' := [.ref 46]) (h' := Hp S4) 1 (fun Z => gfR (E := E) sh0 rfl _) ?_
        refine wp_st (pc' := 25) (L' := [some (.ref 0), some (.int a1), some (.int a2)]) (st' := [.int a2, .int a1, .ref 46]) (h' := Hp S4) 2 (fun Z => rfl) ?_
        refine wp_call (pc' := 28) (rest := []) (fun Z => rfl) (isO_of sh46) hw ?_
        rintro o h1 ⟨x5, S6, rfl, rfl, hw⟩
        refine ⟨_, rfl, ?_⟩
        show wp E (d + 1) m_x_toGuard 28 [some (.ref 0), some (.int a1), some (.int a2)] [.int x5] (Hp S6) (QX (QI Q) X)
        exact wp_ret (fun Z => rfl) (Or.inl ⟨_, _, rfl, rfl, hw⟩)
    · exact Or.inr ⟨x, rfl, Or.inr ⟨_, _, rfl, rfl, hw⟩⟩
  · exact Or.inr ⟨x, rfl, Or.inr ⟨_, _, rfl, rfl, hw⟩⟩
set_option maxRecDepth 4000 in
theorem w_x_fire {E : zX} {d : Nat} {S : St} {a1 : Int32} {a2 : Int32} {Q : Int32 → St → Prop} {X : Nat → St → Prop} (hd : 1 ≤ d) 
    (hw : k_x_needBall E (d - 1) S a1 (fun S2 =>
    k_x_needWhat E (d - 1) S2 a2 1 (fun S4 =>
      k_Plans_bestCellFor E (d - 1) S4 a1 (fun x5 S6 =>
        if a2 = 0 then (
          Q x5 S6)
        else (
          k_Plans_homesInReach E (d - 1) S6 a1 x5 (fun x7 S8 =>
          Q x7 S8)))) X) X) :
    k_x_fire E d S a1 a2 Q X := by
  obtain ⟨d, rfl⟩ := Nat.exists_eq_add_of_le' hd
  show wp E (d + 1) m_x_fire 0 [some (.ref 0), some (.int a1), some (.int a2), none] [] (Hp S) (QX (QI Q) X)
  refine wp_st (pc' := 2) (L' := [some (.ref 0), some (.int a1), some (.int a2), none]) (st' := [.int a1, .ref 0]) (h' := Hp S) 2 (fun Z => rfl) ?_
  refine wp_callX (pc' := 5) (rest := []) (fun Z => rfl) (isO_of sh0) hw ?_
  rintro o h1 (⟨S2, rfl, rfl, hw⟩ | ⟨x, S9, rfl, rfl, hw⟩)
  · refine Or.inl ⟨_, rfl, ?_⟩
    show wp E (d + 1) m_x_fire 5 [some (.ref 0), some (.int a1), some (.int a2), none] [] (Hp S2) (QX (QI Q) X)
    refine wp_st (pc' := 8) (L' := [some (.ref 0), some (.int a1), some (.int a2), none]) (st' := [.int 1, .int a2, .ref 0]) (h' := Hp S2) 3 (fun Z => rfl) ?_
    refine wp_callX (pc' := 11) (rest := []) (fun Z => rfl) (isO_of sh0) hw ?_
    rintro o h1 (⟨S4, rfl, rfl, hw⟩ | ⟨x, S9, rfl, rfl, hw⟩)
    · refine Or.inl ⟨_, rfl, ?_⟩
      show wp E (d + 1) m_x_fire 11 [some (.ref 0), some (.int a1), some (.int a2), none] [] (Hp S4) (QX (QI Q) X)
      refine wp_st (pc' := 12) (L' := [some (.ref 0), some (.int a1), some (.int a2), none]) (st' := [.ref 0]) (h' := Hp S4) 1 (fun Z => rfl) ?_
      refine wp_st (pc' := 15) (L' := [some (.ref 0), some (.int a1), some (.int a2), none]) (st' := [.ref 46]) (h' := Hp S4) 1 (fun Z => gfR (E := E) sh0 rfl _) ?_
      refine wp_st (pc' := 16) (L' := [some (.ref 0), some (.int a1), some (.int a2), none]) (st' := [.int a1, .ref 46]) (h' := Hp S4) 1 (fun Z => rfl) ?_
      refine wp_call (pc' := 19) (rest := []) (fun Z => rfl) (isO_of sh46) hw ?_
      rintro o h1 ⟨x5, S6, rfl, rfl, hw⟩
      refine ⟨_, rfl, ?_⟩
      show wp E (d + 1) m_x_fire 19 [some (.ref 0), some (.int a1), some (.int a2), none] [.int x5] (Hp S6) (QX (QI Q) X)
      refine wp_st (pc' := 21) (L' := [some (.ref 0), some (.int a1), some (.int a2), some (.int x5)]) (st' := [.int a2]) (h' := Hp S6) 2 (fun Z => rfl) ?_
      by_cases hc : a2 = 0
      · rw [if_pos hc] at hw
        refine wp_st (pc' := 24) (L' := [some (.ref 0), some (.int a1), some (.int a2), some (.int x5)]) (st' := []) (h' := Hp S6) 1 (fun Z => if_pos hc) ?_
        refine wp_st (pc' := 37) (L' := [some (.ref 0), some (.int a1), some (.int a2), some (.int x5)]) (st' := [.int x5]) (h' := Hp S6) 2 (fun Z => rfl) ?_
        exact wp_ret (fun Z => rfl) (Or.inl ⟨_, _, rfl, rfl, hw⟩)
      · rw [if_neg hc] at hw
        refine wp_st (pc' := 28) (L' := [some (.ref 0), some (.int a1), some (.int a2), some (.int x5)]) (st' := []) (h' := Hp S6) 1 (fun Z => if_neg hc) ?_
        refine wp_st (pc' := 29) (L' := [some (.ref 0), some (.int a1), some (.int a2), some (.int x5)]) (st' := [.ref 0]) (h' := Hp S6) 1 (fun Z => rfl) ?_
        refine wp_st (pc' := 32) (L' := [some (.ref 0), some (.int a1), some (.int a2), some (.int x5)]) (st' := [.ref 46]) (h' := Hp S6) 1 (fun Z => gfR (E := E) sh0 rfl _) ?_
        refine wp_st (pc' := 34) (L' := [some (.ref 0), some (.int a1), some (.int a2), some (.int x5)]) (st' := [.int x5, .int a1, .ref 46]) (h' := Hp S6) 2 (fun Z => rfl) ?_
        refine wp_call (pc' := 37) (rest := []) (fun Z => rfl) (isO_of sh46) hw ?_
        rintro o h1 ⟨x7, S8, rfl, rfl, hw⟩
        refine ⟨_, rfl, ?_⟩
        show wp E (d + 1) m_x_fire 37 [some (.ref 0), some (.int a1), some (.int a2), some (.int x5)] [.int x7] (Hp S8) (QX (QI Q) X)
        exact wp_ret (fun Z => rfl) (Or.inl ⟨_, _, rfl, rfl, hw⟩)
    · exact Or.inr ⟨x, rfl, Or.inr ⟨_, _, rfl, rfl, hw⟩⟩
  · exact Or.inr ⟨x, rfl, Or.inr ⟨_, _, rfl, rfl, hw⟩⟩
set_option maxRecDepth 4000 in
theorem w_x_pram {E : zX} {d : Nat} {S : St} {a1 : Int32} {a2 : Int32} {a3 : Int32} {Q : Int32 → St → Prop} {X : Nat → St → Prop} (hd : 1 ≤ d) 
    (hw : k_x_needCell E (d - 1) S a1 (fun S2 =>
    k_x_needCell E (d - 1) S2 a2 (fun S4 =>
      k_x_needWhat E (d - 1) S4 a3 1 (fun S6 =>
        if a3 = 0 then (
            k_Plans_stepsBetween E (d - 1) S6 a1 a2 (fun x7 S8 =>
            Q x7 S8))
          else (
            k_Plans_firstStep E (d - 1) S6 a1 a2 (fun x9 S10 =>
            Q x9 S10))) X) X) X) :
    k_x_pram E d S a1 a2 a3 Q X := by
  obtain ⟨d, rfl⟩ := Nat.exists_eq_add_of_le' hd
  show wp E (d + 1) m_x_pram 0 [some (.ref 0), some (.int a1), some (.int a2), some (.int a3)] [] (Hp S) (QX (QI Q) X)
  refine wp_st (pc' := 2) (L' := [some (.ref 0), some (.int a1), some (.int a2), some (.int a3)]) (st' := [.int a1, .ref 0]) (h' := Hp S) 2 (fun Z => rfl) ?_
  refine wp_callX (pc' := 5) (rest := []) (fun Z => rfl) (isO_of sh0) hw ?_
  rintro o h1 (⟨S2, rfl, rfl, hw⟩ | ⟨x, S9, rfl, rfl, hw⟩)
  · refine Or.inl ⟨_, rfl, ?_⟩
    show wp E (d + 1) m_x_pram 5 [some (.ref 0), some (.int a1), some (.int a2), some (.int a3)] [] (Hp S2) (QX (QI Q) X)
    refine wp_st (pc' := 7) (L' := [some (.ref 0), some (.int a1), some (.int a2), some (.int a3)]) (st' := [.int a2, .ref 0]) (h' := Hp S2) 2 (fun Z => rfl) ?_
    refine wp_callX (pc' := 10) (rest := []) (fun Z => rfl) (isO_of sh0) hw ?_
    rintro o h1 (⟨S4, rfl, rfl, hw⟩ | ⟨x, S9, rfl, rfl, hw⟩)
    · refine Or.inl ⟨_, rfl, ?_⟩
      show wp E (d + 1) m_x_pram 10 [some (.ref 0), some (.int a1), some (.int a2), some (.int a3)] [] (Hp S4) (QX (QI Q) X)
      refine wp_st (pc' := 13) (L' := [some (.ref 0), some (.int a1), some (.int a2), some (.int a3)]) (st' := [.int 1, .int a3, .ref 0]) (h' := Hp S4) 3 (fun Z => rfl) ?_
      refine wp_callX (pc' := 16) (rest := []) (fun Z => rfl) (isO_of sh0) hw ?_
      rintro o h1 (⟨S6, rfl, rfl, hw⟩ | ⟨x, S9, rfl, rfl, hw⟩)
      · refine Or.inl ⟨_, rfl, ?_⟩
        show wp E (d + 1) m_x_pram 16 [some (.ref 0), some (.int a1), some (.int a2), some (.int a3)] [] (Hp S6) (QX (QI Q) X)
        refine wp_st (pc' := 17) (L' := [some (.ref 0), some (.int a1), some (.int a2), some (.int a3)]) (st' := [.int a3]) (h' := Hp S6) 1 (fun Z => rfl) ?_
        by_cases hc : a3 = 0
        · rw [if_pos hc] at hw
          refine wp_st (pc' := 20) (L' := [some (.ref 0), some (.int a1), some (.int a2), some (.int a3)]) (st' := []) (h' := Hp S6) 1 (fun Z => if_pos hc) ?_
          refine wp_st (pc' := 21) (L' := [some (.ref 0), some (.int a1), some (.int a2), some (.int a3)]) (st' := [.ref 0]) (h' := Hp S6) 1 (fun Z => rfl) ?_
          refine wp_st (pc' := 24) (L' := [some (.ref 0), some (.int a1), some (.int a2), some (.int a3)]) (st' := [.ref 46]) (h' := Hp S6) 1 (fun Z => gfR (E := E) sh0 rfl _) ?_
          refine wp_st (pc' := 26) (L' := [some (.ref 0), some (.int a1), some (.int a2), some (.int a3)]) (st' := [.int a2, .int a1, .ref 46]) (h' := Hp S6) 2 (fun Z => rfl) ?_
          refine wp_call (pc' := 29) (rest := []) (fun Z => rfl) (isO_of sh46) hw ?_
          rintro o h1 ⟨x7, S8, rfl, rfl, hw⟩
          refine ⟨_, rfl, ?_⟩
          show wp E (d + 1) m_x_pram 29 [some (.ref 0), some (.int a1), some (.int a2), some (.int a3)] [.int x7] (Hp S8) (QX (QI Q) X)
          refine wp_st (pc' := 41) (L' := [some (.ref 0), some (.int a1), some (.int a2), some (.int a3)]) (st' := [.int x7]) (h' := Hp S8) 1 (fun Z => rfl) ?_
          exact wp_ret (fun Z => rfl) (Or.inl ⟨_, _, rfl, rfl, hw⟩)
        · rw [if_neg hc] at hw
          refine wp_st (pc' := 32) (L' := [some (.ref 0), some (.int a1), some (.int a2), some (.int a3)]) (st' := []) (h' := Hp S6) 1 (fun Z => if_neg hc) ?_
          refine wp_st (pc' := 33) (L' := [some (.ref 0), some (.int a1), some (.int a2), some (.int a3)]) (st' := [.ref 0]) (h' := Hp S6) 1 (fun Z => rfl) ?_
          refine wp_st (pc' := 36) (L' := [some (.ref 0), some (.int a1), some (.int a2), some (.int a3)]) (st' := [.ref 46]) (h' := Hp S6) 1 (fun Z => gfR (E := E) sh0 rfl _) ?_
          refine wp_st (pc' := 38) (L' := [some (.ref 0), some (.int a1), some (.int a2), some (.int a3)]) (st' := [.int a2, .int a1, .ref 46]) (h' := Hp S6) 2 (fun Z => rfl) ?_
          refine wp_call (pc' := 41) (rest := []) (fun Z => rfl) (isO_of sh46) hw ?_
          rintro o h1 ⟨x9, S10, rfl, rfl, hw⟩
          refine ⟨_, rfl, ?_⟩
          show wp E (d + 1) m_x_pram 41 [some (.ref 0), some (.int a1), some (.int a2), some (.int a3)] [.int x9] (Hp S10) (QX (QI Q) X)
          exact wp_ret (fun Z => rfl) (Or.inl ⟨_, _, rfl, rfl, hw⟩)
      · exact Or.inr ⟨x, rfl, Or.inr ⟨_, _, rfl, rfl, hw⟩⟩
    · exact Or.inr ⟨x, rfl, Or.inr ⟨_, _, rfl, rfl, hw⟩⟩
  · exact Or.inr ⟨x, rfl, Or.inr ⟨_, _, rfl, rfl, hw⟩⟩
set_option maxRecDepth 4000 in
theorem w_x_putBy {E : zX} {d : Nat} {S : St} {a1 : Int32} {Q : Int32 → St → Prop} {X : Nat → St → Prop} (hd : 1 ≤ d) 
    (hw : k_x_needWhat E (d - 1) S a1 1 (fun S2 =>
    k_PutBy_choose E (d - 1) S2 (fun S4 =>
      if a1 = 0 then (
        Q (S4 50 0) S4)
      else (
        Q (S4 50 1) S4))) X) :
    k_x_putBy E d S a1 Q X := by
  obtain ⟨d, rfl⟩ := Nat.exists_eq_add_of_le' hd
  show wp E (d + 1) m_x_putBy 0 [some (.ref 0), some (.int a1)] [] (Hp S) (QX (QI Q) X)
  refine wp_st (pc' := 3) (L' := [some (.ref 0), some (.int a1)]) (st' := [.int 1, .int a1, .ref 0]) (h' := Hp S) 3 (fun Z => rfl) ?_
  refine wp_callX (pc' := 6) (rest := []) (fun Z => rfl) (isO_of sh0) hw ?_
  rintro o h1 (⟨S2, rfl, rfl, hw⟩ | ⟨x, S9, rfl, rfl, hw⟩)
  · refine Or.inl ⟨_, rfl, ?_⟩
    show wp E (d + 1) m_x_putBy 6 [some (.ref 0), some (.int a1)] [] (Hp S2) (QX (QI Q) X)
    refine wp_st (pc' := 7) (L' := [some (.ref 0), some (.int a1)]) (st' := [.ref 0]) (h' := Hp S2) 1 (fun Z => rfl) ?_
    refine wp_st (pc' := 10) (L' := [some (.ref 0), some (.int a1)]) (st' := [.ref 50]) (h' := Hp S2) 1 (fun Z => gfR (E := E) sh0 rfl _) ?_
    refine wp_call (pc' := 13) (rest := []) (fun Z => rfl) (isO_of sh50) hw ?_
    rintro o h1 ⟨S4, rfl, rfl, hw⟩
    refine ⟨_, rfl, ?_⟩
    show wp E (d + 1) m_x_putBy 13 [some (.ref 0), some (.int a1)] [] (Hp S4) (QX (QI Q) X)
    refine wp_st (pc' := 14) (L' := [some (.ref 0), some (.int a1)]) (st' := [.int a1]) (h' := Hp S4) 1 (fun Z => rfl) ?_
    by_cases hc : a1 = 0
    · rw [if_pos hc] at hw
      refine wp_st (pc' := 17) (L' := [some (.ref 0), some (.int a1)]) (st' := []) (h' := Hp S4) 1 (fun Z => if_pos hc) ?_
      refine wp_st (pc' := 18) (L' := [some (.ref 0), some (.int a1)]) (st' := [.ref 0]) (h' := Hp S4) 1 (fun Z => rfl) ?_
      refine wp_st (pc' := 21) (L' := [some (.ref 0), some (.int a1)]) (st' := [.ref 50]) (h' := Hp S4) 1 (fun Z => gfR (E := E) sh0 rfl _) ?_
      refine wp_st (pc' := 24) (L' := [some (.ref 0), some (.int a1)]) (st' := [.int (S4 50 0)]) (h' := Hp S4) 1 (fun Z => gfI (E := E) sh50 rfl _) ?_
      refine wp_st (pc' := 34) (L' := [some (.ref 0), some (.int a1)]) (st' := [.int (S4 50 0)]) (h' := Hp S4) 1 (fun Z => rfl) ?_
      exact wp_ret (fun Z => rfl) (Or.inl ⟨_, _, rfl, rfl, hw⟩)
    · rw [if_neg hc] at hw
      refine wp_st (pc' := 27) (L' := [some (.ref 0), some (.int a1)]) (st' := []) (h' := Hp S4) 1 (fun Z => if_neg hc) ?_
      refine wp_st (pc' := 28) (L' := [some (.ref 0), some (.int a1)]) (st' := [.ref 0]) (h' := Hp S4) 1 (fun Z => rfl) ?_
      refine wp_st (pc' := 31) (L' := [some (.ref 0), some (.int a1)]) (st' := [.ref 50]) (h' := Hp S4) 1 (fun Z => gfR (E := E) sh0 rfl _) ?_
      refine wp_st (pc' := 34) (L' := [some (.ref 0), some (.int a1)]) (st' := [.int (S4 50 1)]) (h' := Hp S4) 1 (fun Z => gfI (E := E) sh50 rfl _) ?_
      exact wp_ret (fun Z => rfl) (Or.inl ⟨_, _, rfl, rfl, hw⟩)
  · exact Or.inr ⟨x, rfl, Or.inr ⟨_, _, rfl, rfl, hw⟩⟩
set_option maxRecDepth 4000 in
theorem w_x_put {E : zX} {d : Nat} {S : St} {a1 : Int32} {Q : Int32 → St → Prop} {X : Nat → St → Prop} (hd : 1 ≤ d) 
    (hw : k_x_needPerson E (d - 1) S a1 (fun S2 =>
    k_PutBy_choose E (d - 1) S2 (fun S4 =>
      ∃ m5 : Nat, a1 = nI m5 ∧ m5 < 7 ∧
      Q (S4 51 m5) S4)) X) :
    k_x_put E d S a1 Q X := by
  obtain ⟨d, rfl⟩ := Nat.exists_eq_add_of_le' hd
  show wp E (d + 1) m_x_put 0 [some (.ref 0), some (.int a1)] [] (Hp S) (QX (QI Q) X)
  refine wp_st (pc' := 2) (L' := [some (.ref 0), some (.int a1)]) (st' := [.int a1, .ref 0]) (h' := Hp S) 2 (fun Z => rfl) ?_
  refine wp_callX (pc' := 5) (rest := []) (fun Z => rfl) (isO_of sh0) hw ?_
  rintro o h1 (⟨S2, rfl, rfl, hw⟩ | ⟨x, S9, rfl, rfl, hw⟩)
  · refine Or.inl ⟨_, rfl, ?_⟩
    show wp E (d + 1) m_x_put 5 [some (.ref 0), some (.int a1)] [] (Hp S2) (QX (QI Q) X)
    refine wp_st (pc' := 6) (L' := [some (.ref 0), some (.int a1)]) (st' := [.ref 0]) (h' := Hp S2) 1 (fun Z => rfl) ?_
    refine wp_st (pc' := 9) (L' := [some (.ref 0), some (.int a1)]) (st' := [.ref 50]) (h' := Hp S2) 1 (fun Z => gfR (E := E) sh0 rfl _) ?_
    refine wp_call (pc' := 12) (rest := []) (fun Z => rfl) (isO_of sh50) hw ?_
    rintro o h1 ⟨S4, rfl, rfl, hw⟩
    refine ⟨_, rfl, ?_⟩
    show wp E (d + 1) m_x_put 12 [some (.ref 0), some (.int a1)] [] (Hp S4) (QX (QI Q) X)
    refine wp_st (pc' := 13) (L' := [some (.ref 0), some (.int a1)]) (st' := [.ref 0]) (h' := Hp S4) 1 (fun Z => rfl) ?_
    refine wp_st (pc' := 16) (L' := [some (.ref 0), some (.int a1)]) (st' := [.ref 50]) (h' := Hp S4) 1 (fun Z => gfR (E := E) sh0 rfl _) ?_
    refine wp_st (pc' := 19) (L' := [some (.ref 0), some (.int a1)]) (st' := [.ref 51]) (h' := Hp S4) 1 (fun Z => gfR (E := E) sh50 rfl _) ?_
    refine wp_st (pc' := 20) (L' := [some (.ref 0), some (.int a1)]) (st' := [.int a1, .ref 51]) (h' := Hp S4) 1 (fun Z => rfl) ?_
    obtain ⟨m5, em, hi, hw⟩ := hw
    refine wp_st (pc' := 21) (L' := [some (.ref 0), some (.int a1)]) (st' := [.int (S4 51 m5)]) (h' := Hp S4) 1 (fun Z => (congrArg (fun v => zit E 1 Z (d + 1) m_x_put 20 [some (.ref 0), some (.int a1)] [.int v, .ref 51] (Hp S4)) em).trans (ldN (E := E) sh51 (by decide) hi [] (fun st => Z (d + 1) m_x_put 21 [some (.ref 0), some (.int a1)] st (Hp S4)))) ?_
    exact wp_ret (fun Z => rfl) (Or.inl ⟨_, _, rfl, rfl, hw⟩)
  · exact Or.inr ⟨x, rfl, Or.inr ⟨_, _, rfl, rfl, hw⟩⟩
set_option maxRecDepth 4000 in
theorem w_x_see {E : zX} {d : Nat} {S : St} {a1 : Int32} {a2 : Int32} {a3 : Int32} {Q : Int32 → St → Prop} {X : Nat → St → Prop} (hd : 1 ≤ d) 
    (hw : k_x_needBall E (d - 1) S a1 (fun S2 =>
    if a2 < 0 then (
        k_x_refuse E (d - 1) S2 2 (fun x3 S4 =>
        Q x3 S4))
      else (
        if 20 < a2 then (
          k_x_refuse E (d - 1) S2 2 (fun x5 S6 =>
          Q x5 S6))
        else (
          if (S2 24 3) < 8 then (
            k_Book_addSight E (d - 1) S2 a1 a2 a3 (fun S8 =>
            Q (S8 24 3) S8))
          else (
            k_x_refuse E (d - 1) S2 2 (fun x9 S10 =>
            Q x9 S10))))) X) :
    k_x_see E d S a1 a2 a3 Q X := by
  obtain ⟨d, rfl⟩ := Nat.exists_eq_add_of_le' hd
  show wp E (d + 1) m_x_see 0 [some (.ref 0), some (.int a1), some (.int a2), some (.int a3)] [] (Hp S) (QX (QI Q) X)
  refine wp_st (pc' := 2) (L' := [some (.ref 0), some (.int a1), some (.int a2), some (.int a3)]) (st' := [.int a1, .ref 0]) (h' := Hp S) 2 (fun Z => rfl) ?_
  refine wp_callX (pc' := 5) (rest := []) (fun Z => rfl) (isO_of sh0) hw ?_
  rintro o h1 (⟨S2, rfl, rfl, hw⟩ | ⟨x, S9, rfl, rfl, hw⟩)
  · refine Or.inl ⟨_, rfl, ?_⟩
    show wp E (d + 1) m_x_see 5 [some (.ref 0), some (.int a1), some (.int a2), some (.int a3)] [] (Hp S2) (QX (QI Q) X)
    refine wp_st (pc' := 6) (L' := [some (.ref 0), some (.int a1), some (.int a2), some (.int a3)]) (st' := [.int a2]) (h' := Hp S2) 1 (fun Z => rfl) ?_
    by_cases hc : a2 < 0
    · rw [if_pos hc] at hw
      refine wp_st (pc' := 27) (L' := [some (.ref 0), some (.int a1), some (.int a2), some (.int a3)]) (st' := []) (h' := Hp S2) 1 (fun Z => if_pos hc) ?_
      refine wp_st (pc' := 29) (L' := [some (.ref 0), some (.int a1), some (.int a2), some (.int a3)]) (st' := [.int 2, .ref 0]) (h' := Hp S2) 2 (fun Z => rfl) ?_
      refine wp_call (pc' := 32) (rest := []) (fun Z => rfl) (isO_of sh0) hw ?_
      rintro o h1 ⟨x3, S4, rfl, rfl, hw⟩
      refine ⟨_, rfl, ?_⟩
      show wp E (d + 1) m_x_see 32 [some (.ref 0), some (.int a1), some (.int a2), some (.int a3)] [.int x3] (Hp S4) (QX (QI Q) X)
      exact wp_ret (fun Z => rfl) (Or.inl ⟨_, _, rfl, rfl, hw⟩)
    · rw [if_neg hc] at hw
      refine wp_st (pc' := 9) (L' := [some (.ref 0), some (.int a1), some (.int a2), some (.int a3)]) (st' := []) (h' := Hp S2) 1 (fun Z => if_neg hc) ?_
      refine wp_st (pc' := 12) (L' := [some (.ref 0), some (.int a1), some (.int a2), some (.int a3)]) (st' := [.int 20, .int a2]) (h' := Hp S2) 2 (fun Z => rfl) ?_
      by_cases hc : 20 < a2
      · rw [if_pos hc] at hw
        refine wp_st (pc' := 27) (L' := [some (.ref 0), some (.int a1), some (.int a2), some (.int a3)]) (st' := []) (h' := Hp S2) 1 (fun Z => if_pos hc) ?_
        refine wp_st (pc' := 29) (L' := [some (.ref 0), some (.int a1), some (.int a2), some (.int a3)]) (st' := [.int 2, .ref 0]) (h' := Hp S2) 2 (fun Z => rfl) ?_
        refine wp_call (pc' := 32) (rest := []) (fun Z => rfl) (isO_of sh0) hw ?_
        rintro o h1 ⟨x5, S6, rfl, rfl, hw⟩
        refine ⟨_, rfl, ?_⟩
        show wp E (d + 1) m_x_see 32 [some (.ref 0), some (.int a1), some (.int a2), some (.int a3)] [.int x5] (Hp S6) (QX (QI Q) X)
        exact wp_ret (fun Z => rfl) (Or.inl ⟨_, _, rfl, rfl, hw⟩)
      · rw [if_neg hc] at hw
        refine wp_st (pc' := 15) (L' := [some (.ref 0), some (.int a1), some (.int a2), some (.int a3)]) (st' := []) (h' := Hp S2) 1 (fun Z => if_neg hc) ?_
        refine wp_st (pc' := 16) (L' := [some (.ref 0), some (.int a1), some (.int a2), some (.int a3)]) (st' := [.ref 0]) (h' := Hp S2) 1 (fun Z => rfl) ?_
        refine wp_st (pc' := 19) (L' := [some (.ref 0), some (.int a1), some (.int a2), some (.int a3)]) (st' := [.ref 24]) (h' := Hp S2) 1 (fun Z => gfR (E := E) sh0 rfl _) ?_
        refine wp_st (pc' := 22) (L' := [some (.ref 0), some (.int a1), some (.int a2), some (.int a3)]) (st' := [.int (S2 24 3)]) (h' := Hp S2) 1 (fun Z => gfI (E := E) sh24 rfl _) ?_
        refine wp_st (pc' := 24) (L' := [some (.ref 0), some (.int a1), some (.int a2), some (.int a3)]) (st' := [.int 8, .int (S2 24 3)]) (h' := Hp S2) 1 (fun Z => rfl) ?_
        by_cases hc : (S2 24 3) < 8
        · rw [if_pos hc] at hw
          refine wp_st (pc' := 33) (L' := [some (.ref 0), some (.int a1), some (.int a2), some (.int a3)]) (st' := []) (h' := Hp S2) 1 (fun Z => if_pos hc) ?_
          refine wp_st (pc' := 34) (L' := [some (.ref 0), some (.int a1), some (.int a2), some (.int a3)]) (st' := [.ref 0]) (h' := Hp S2) 1 (fun Z => rfl) ?_
          refine wp_st (pc' := 37) (L' := [some (.ref 0), some (.int a1), some (.int a2), some (.int a3)]) (st' := [.ref 24]) (h' := Hp S2) 1 (fun Z => gfR (E := E) sh0 rfl _) ?_
          refine wp_st (pc' := 40) (L' := [some (.ref 0), some (.int a1), some (.int a2), some (.int a3)]) (st' := [.int a3, .int a2, .int a1, .ref 24]) (h' := Hp S2) 3 (fun Z => rfl) ?_
          refine wp_call (pc' := 43) (rest := []) (fun Z => rfl) (isO_of sh24) hw ?_
          rintro o h1 ⟨S8, rfl, rfl, hw⟩
          refine ⟨_, rfl, ?_⟩
          show wp E (d + 1) m_x_see 43 [some (.ref 0), some (.int a1), some (.int a2), some (.int a3)] [] (Hp S8) (QX (QI Q) X)
          refine wp_st (pc' := 44) (L' := [some (.ref 0), some (.int a1), some (.int a2), some (.int a3)]) (st' := [.ref 0]) (h' := Hp S8) 1 (fun Z => rfl) ?_
          refine wp_st (pc' := 47) (L' := [some (.ref 0), some (.int a1), some (.int a2), some (.int a3)]) (st' := [.ref 24]) (h' := Hp S8) 1 (fun Z => gfR (E := E) sh0 rfl _) ?_
          refine wp_st (pc' := 50) (L' := [some (.ref 0), some (.int a1), some (.int a2), some (.int a3)]) (st' := [.int (S8 24 3)]) (h' := Hp S8) 1 (fun Z => gfI (E := E) sh24 rfl _) ?_
          exact wp_ret (fun Z => rfl) (Or.inl ⟨_, _, rfl, rfl, hw⟩)
        · rw [if_neg hc] at hw
          refine wp_st (pc' := 27) (L' := [some (.ref 0), some (.int a1), some (.int a2), some (.int a3)]) (st' := []) (h' := Hp S2) 1 (fun Z => if_neg hc) ?_
          refine wp_st (pc' := 29) (L' := [some (.ref 0), some (.int a1), some (.int a2), some (.int a3)]) (st' := [.int 2, .ref 0]) (h' := Hp S2) 2 (fun Z => rfl) ?_
          refine wp_call (pc' := 32) (rest := []) (fun Z => rfl) (isO_of sh0) hw ?_
          rintro o h1 ⟨x9, S10, rfl, rfl, hw⟩
          refine ⟨_, rfl, ?_⟩
          show wp E (d + 1) m_x_see 32 [some (.ref 0), some (.int a1), some (.int a2), some (.int a3)] [.int x9] (Hp S10) (QX (QI Q) X)
          exact wp_ret (fun Z => rfl) (Or.inl ⟨_, _, rfl, rfl, hw⟩)
  · exact Or.inr ⟨x, rfl, Or.inr ⟨_, _, rfl, rfl, hw⟩⟩
set_option maxRecDepth 4000 in
theorem w_x_milder {E : zX} {d : Nat} {S : St} {a1 : Int32} {Q : Int32 → St → Prop} {X : Nat → St → Prop} (hd : 1 ≤ d) 
    (hw : k_x_needWhat E (d - 1) S a1 2 (fun S2 =>
    if a1 = 2 then (
        k_Guess_isSoAnyway E (d - 1) S2 (fun x3 S4 =>
        if x3 = 0 then (
          Q (0 : Int32) S4)
        else (
          Q (1 : Int32) S4)))
      else (
        k_Guess_search E (d - 1) S2 0 (fun S6 =>
        if a1 = 0 then (
          Q (S6 54 0) S6)
        else (
          Q (S6 54 1) S6)))) X) :
    k_x_milder E d S a1 Q X := by
  obtain ⟨d, rfl⟩ := Nat.exists_eq_add_of_le' hd
  show wp E (d + 1) m_x_milder 0 [some (.ref 0), some (.int a1)] [] (Hp S) (QX (QI Q) X)
  refine wp_st (pc' := 3) (L' := [some (.ref 0), some (.int a1)]) (st' := [.int 2, .int a1, .ref 0]) (h' := Hp S) 3 (fun Z => rfl) ?_
  refine wp_callX (pc' := 6) (rest := []) (fun Z => rfl) (isO_of sh0) hw ?_
  rintro o h1 (⟨S2, rfl, rfl, hw⟩ | ⟨x, S9, rfl, rfl, hw⟩)
  · refine Or.inl ⟨_, rfl, ?_⟩
    show wp E (d + 1) m_x_milder 6 [some (.ref 0), some (.int a1)] [] (Hp S2) (QX (QI Q) X)
    refine wp_st (pc' := 8) (L' := [some (.ref 0), some (.int a1)]) (st' := [.int 2, .int a1]) (h' := Hp S2) 2 (fun Z => rfl) ?_
    by_cases hc : a1 = 2
    · rw [if_pos hc] at hw
      refine wp_st (pc' := 11) (L' := [some (.ref 0), some (.int a1)]) (st' := []) (h' := Hp S2) 1 (fun Z => if_pos hc) ?_
      refine wp_st (pc' := 12) (L' := [some (.ref 0), some (.int a1)]) (st' := [.ref 0]) (h' := Hp S2) 1 (fun Z => rfl) ?_
      refine wp_st (pc' := 15) (L' := [some (.ref 0), some (.int a1)]) (st' := [.ref 54]) (h' := Hp S2) 1 (fun Z => gfR (E := E) sh0 rfl _) ?_
      refine wp_call (pc' := 18) (rest := []) (fun Z => rfl) (isO_of sh54) hw ?_
      rintro o h1 ⟨x3, S4, rfl, rfl, hw⟩
      refine ⟨_, rfl, ?_⟩
      show wp E (d + 1) m_x_milder 18 [some (.ref 0), some (.int a1)] [.int x3] (Hp S4) (QX (QI Q) X)
      by_cases hc : x3 = 0
      · rw [if_pos hc] at hw
        refine wp_st (pc' := 25) (L' := [some (.ref 0), some (.int a1)]) (st' := []) (h' := Hp S4) 1 (fun Z => if_pos hc) ?_
        refine wp_st (pc' := 26) (L' := [some (.ref 0), some (.int a1)]) (st' := [.int 0]) (h' := Hp S4) 1 (fun Z => rfl) ?_
        exact wp_ret (fun Z => rfl) (Or.inl ⟨_, _, rfl, rfl, hw⟩)
      · rw [if_neg hc] at hw
        refine wp_st (pc' := 21) (L' := [some (.ref 0), some (.int a1)]) (st' := []) (h' := Hp S4) 1 (fun Z => if_neg hc) ?_
        refine wp_st (pc' := 26) (L' := [some (.ref 0), some (.int a1)]) (st' := [.int 1]) (h' := Hp S4) 2 (fun Z => rfl) ?_
        exact wp_ret (fun Z => rfl) (Or.inl ⟨_, _, rfl, rfl, hw⟩)
    · rw [if_neg hc] at hw
      refine wp_st (pc' := 27) (L' := [some (.ref 0), some (.int a1)]) (st' := []) (h' := Hp S2) 1 (fun Z => if_neg hc) ?_
      refine wp_st (pc' := 28) (L' := [some (.ref 0), some (.int a1)]) (st' := [.ref 0]) (h' := Hp S2) 1 (fun Z => rfl) ?_
      refine wp_st (pc' := 31) (L' := [some (.ref 0), some (.int a1)]) (st' := [.ref 54]) (h' := Hp S2) 1 (fun Z => gfR (E := E) sh0 rfl _) ?_
      refine wp_st (pc' := 32) (L' := [some (.ref 0), some (.int a1)]) (st' := [.int 0, .ref 54]) (h' := Hp S2) 1 (fun Z => rfl) ?_
      refine wp_call (pc' := 35) (rest := []) (fun Z => rfl) (isO_of sh54) hw ?_
      rintro o h1 ⟨S6, rfl, rfl, hw⟩
      refine ⟨_, rfl, ?_⟩
      show wp E (d + 1) m_x_milder 35 [some (.ref 0), some (.int a1)] [] (Hp S6) (QX (QI Q) X)
      refine wp_st (pc' := 36) (L' := [some (.ref 0), some (.int a1)]) (st' := [.int a1]) (h' := Hp S6) 1 (fun Z => rfl) ?_
      by_cases hc : a1 = 0
      · rw [if_pos hc] at hw
        refine wp_st (pc' := 39) (L' := [some (.ref 0), some (.int a1)]) (st' := []) (h' := Hp S6) 1 (fun Z => if_pos hc) ?_
        refine wp_st (pc' := 40) (L' := [some (.ref 0), some (.int a1)]) (st' := [.ref 0]) (h' := Hp S6) 1 (fun Z => rfl) ?_
        refine wp_st (pc' := 43) (L' := [some (.ref 0), some (.int a1)]) (st' := [.ref 54]) (h' := Hp S6) 1 (fun Z => gfR (E := E) sh0 rfl _) ?_
        refine wp_st (pc' := 46) (L' := [some (.ref 0), some (.int a1)]) (st' := [.int (S6 54 0)]) (h' := Hp S6) 1 (fun Z => gfI (E := E) sh54 rfl _) ?_
        refine wp_st (pc' := 56) (L' := [some (.ref 0), some (.int a1)]) (st' := [.int (S6 54 0)]) (h' := Hp S6) 1 (fun Z => rfl) ?_
        exact wp_ret (fun Z => rfl) (Or.inl ⟨_, _, rfl, rfl, hw⟩)
      · rw [if_neg hc] at hw
        refine wp_st (pc' := 49) (L' := [some (.ref 0), some (.int a1)]) (st' := []) (h' := Hp S6) 1 (fun Z => if_neg hc) ?_
        refine wp_st (pc' := 50) (L' := [some (.ref 0), some (.int a1)]) (st' := [.ref 0]) (h' := Hp S6) 1 (fun Z => rfl) ?_
        refine wp_st (pc' := 53) (L' := [some (.ref 0), some (.int a1)]) (st' := [.ref 54]) (h' := Hp S6) 1 (fun Z => gfR (E := E) sh0 rfl _) ?_
        refine wp_st (pc' := 56) (L' := [some (.ref 0), some (.int a1)]) (st' := [.int (S6 54 1)]) (h' := Hp S6) 1 (fun Z => gfI (E := E) sh54 rfl _) ?_
        exact wp_ret (fun Z => rfl) (Or.inl ⟨_, _, rfl, rfl, hw⟩)
  · exact Or.inr ⟨x, rfl, Or.inr ⟨_, _, rfl, rfl, hw⟩⟩
set_option maxRecDepth 4000 in
theorem w_x_look {E : zX} {d : Nat} {S : St} {a1 : Int32} {Q : Int32 → St → Prop} {X : Nat → St → Prop} (hd : 1 ≤ d) 
    (hw : k_x_needWhat E (d - 1) S a1 1 (fun S2 =>
    k_Guess_search E (d - 1) S2 8 (fun S4 =>
      k_Guess_mostUnlike E (d - 1) S4 (fun x5 S6 =>
      if a1 = 0 then (
        Q x5 S6)
      else (
        if x5 = (-1) then (
          Q (0 : Int32) S6)
        else (
          k_Guess_unlikeIn E (d - 1) S6 x5 (fun x7 S8 =>
          Q x7 S8)))))) X) :
    k_x_look E d S a1 Q X := by
  obtain ⟨d, rfl⟩ := Nat.exists_eq_add_of_le' hd
  show wp E (d + 1) m_x_look 0 [some (.ref 0), some (.int a1), none] [] (Hp S) (QX (QI Q) X)
  refine wp_st (pc' := 3) (L' := [some (.ref 0), some (.int a1), none]) (st' := [.int 1, .int a1, .ref 0]) (h' := Hp S) 3 (fun Z => rfl) ?_
  refine wp_callX (pc' := 6) (rest := []) (fun Z => rfl) (isO_of sh0) hw ?_
  rintro o h1 (⟨S2, rfl, rfl, hw⟩ | ⟨x, S9, rfl, rfl, hw⟩)
  · refine Or.inl ⟨_, rfl, ?_⟩
    show wp E (d + 1) m_x_look 6 [some (.ref 0), some (.int a1), none] [] (Hp S2) (QX (QI Q) X)
    refine wp_st (pc' := 7) (L' := [some (.ref 0), some (.int a1), none]) (st' := [.ref 0]) (h' := Hp S2) 1 (fun Z => rfl) ?_
    refine wp_st (pc' := 10) (L' := [some (.ref 0), some (.int a1), none]) (st' := [.ref 54]) (h' := Hp S2) 1 (fun Z => gfR (E := E) sh0 rfl _) ?_
    refine wp_st (pc' := 12) (L' := [some (.ref 0), some (.int a1), none]) (st' := [.int 8, .ref 54]) (h' := Hp S2) 1 (fun Z => rfl) ?_
    refine wp_call (pc' := 15) (rest := []) (fun Z => rfl) (isO_of sh54) hw ?_
    rintro o h1 ⟨S4, rfl, rfl, hw⟩
    refine ⟨_, rfl, ?_⟩
    show wp E (d + 1) m_x_look 15 [some (.ref 0), some (.int a1), none] [] (Hp S4) (QX (QI Q) X)
    refine wp_st (pc' := 16) (L' := [some (.ref 0), some (.int a1), none]) (st' := [.ref 0]) (h' := Hp S4) 1 (fun Z => rfl) ?_
    refine wp_st (pc' := 19) (L' := [some (.ref 0), some (.int a1), none]) (st' := [.ref 54]) (h' := Hp S4) 1 (fun Z => gfR (E := E) sh0 rfl _) ?_
    refine wp_call (pc' := 22) (rest := []) (fun Z => rfl) (isO_of sh54) hw ?_
    rintro o h1 ⟨x5, S6, rfl, rfl, hw⟩
    refine ⟨_, rfl, ?_⟩
    show wp E (d + 1) m_x_look 22 [some (.ref 0), some (.int a1), none] [.int x5] (Hp S6) (QX (QI Q) X)
    refine wp_st (pc' := 24) (L' := [some (.ref 0), some (.int a1), some (.int x5)]) (st' := [.int a1]) (h' := Hp S6) 2 (fun Z => rfl) ?_
    by_cases hc : a1 = 0
    · rw [if_pos hc] at hw
      refine wp_st (pc' := 27) (L' := [some (.ref 0), some (.int a1), some (.int x5)]) (st' := []) (h' := Hp S6) 1 (fun Z => if_pos hc) ?_
      refine wp_st (pc' := 28) (L' := [some (.ref 0), some (.int a1), some (.int x5)]) (st' := [.int x5]) (h' := Hp S6) 1 (fun Z => rfl) ?_
      exact wp_ret (fun Z => rfl) (Or.inl ⟨_, _, rfl, rfl, hw⟩)
    · rw [if_neg hc] at hw
      refine wp_st (pc' := 29) (L' := [some (.ref 0), some (.int a1), some (.int x5)]) (st' := []) (h' := Hp S6) 1 (fun Z => if_neg hc) ?_
      refine wp_st (pc' := 30) (L' := [some (.ref 0), some (.int a1), some (.int x5)]) (st' := [.int x5]) (h' := Hp S6) 1 (fun Z => rfl) ?_
      refine wp_st (pc' := 31) (L' := [some (.ref 0), some (.int a1), some (.int x5)]) (st' := [.int (-1), .int x5]) (h' := Hp S6) 1 (fun Z => congrArg (fun v => Z (d + 1) m_x_look 31 [some (.ref 0), some (.int a1), some (.int x5)] [.int v, .int x5] (Hp S6)) (show Int32.ofInt (-1) = (-1) by decide)) ?_
      by_cases hc : x5 = (-1)
      · rw [if_pos hc] at hw
        refine wp_st (pc' := 34) (L' := [some (.ref 0), some (.int a1), some (.int x5)]) (st' := []) (h' := Hp S6) 1 (fun Z => if_pos hc) ?_
        refine wp_st (pc' := 46) (L' := [some (.ref 0), some (.int a1), some (.int x5)]) (st' := [.int 0]) (h' := Hp S6) 2 (fun Z => rfl) ?_
        exact wp_ret (fun Z => rfl) (Or.inl ⟨_, _, rfl, rfl, hw⟩)
      · rw [if_neg hc] at hw
        refine wp_st (pc' := 38) (L' := [some (.ref 0), some (.int a1), some (.int x5)]) (st' := []) (h' := Hp S6) 1 (fun Z => if_neg hc) ?_
        refine wp_st (pc' := 39) (L' := [some (.ref 0), some (.int a1), some (.int x5)]) (st' := [.ref 0]) (h' := Hp S6) 1 (fun Z => rfl) ?_
        refine wp_st (pc' := 42) (L' := [some (.ref 0), some (.int a1), some (.int x5)]) (st' := [.ref 54]) (h' := Hp S6) 1 (fun Z => gfR (E := E) sh0 rfl _) ?_
        refine wp_st (pc' := 43) (L' := [some (.ref 0), some (.int a1), some (.int x5)]) (st' := [.int x5, .ref 54]) (h' := Hp S6) 1 (fun Z => rfl) ?_
        refine wp_call (pc' := 46) (rest := []) (fun Z => rfl) (isO_of sh54) hw ?_
        rintro o h1 ⟨x7, S8, rfl, rfl, hw⟩
        refine ⟨_, rfl, ?_⟩
        show wp E (d + 1) m_x_look 46 [some (.ref 0), some (.int a1), some (.int x5)] [.int x7] (Hp S8) (QX (QI Q) X)
        exact wp_ret (fun Z => rfl) (Or.inl ⟨_, _, rfl, rfl, hw⟩)
  · exact Or.inr ⟨x, rfl, Or.inr ⟨_, _, rfl, rfl, hw⟩⟩
set_option maxRecDepth 4000 in
theorem w_x_boys {E : zX} {d : Nat} {S : St} {a1 : Int32} {a2 : Int32} {a3 : Int32} {Q : Int32 → St → Prop} {X : Nat → St → Prop} (hd : 8 ≤ d) 
    (hw : k_x_needBall E (d - 1) S a1 (fun S2 =>
    if a2 < 1 then (
        (S2 1000 0).toNatClampNeg < 1000000 ∧ X 1 (upT S2))
      else (
        if 5 < a2 then (
          (S2 1000 0).toNatClampNeg < 1000000 ∧ X 1 (upT S2))
        else (
          if a3 < 0 then (
            (S2 1000 0).toNatClampNeg < 1000000 ∧ X 1 (upT S2))
          else (
            if a3 ≤ 10 then (
              k_Chance_whiteByBoys E (d - 1) S2 a1 a2 a3 (fun x3 S4 =>
              Q x3 S4))
            else (
              (S2 1000 0).toNatClampNeg < 1000000 ∧ X 1 (upT S2)))))) X) :
    k_x_boys E d S a1 a2 a3 Q X := by
  obtain ⟨d, rfl⟩ := Nat.exists_eq_add_of_le' hd
  show wp E (d + 8) m_x_boys 0 [some (.ref 0), some (.int a1), some (.int a2), some (.int a3)] [] (Hp S) (QX (QI Q) X)
  refine wp_st (pc' := 2) (L' := [some (.ref 0), some (.int a1), some (.int a2), some (.int a3)]) (st' := [.int a1, .ref 0]) (h' := Hp S) 2 (fun Z => rfl) ?_
  refine wp_callX (pc' := 5) (rest := []) (fun Z => rfl) (isO_of sh0) hw ?_
  rintro o h1 (⟨S2, rfl, rfl, hw⟩ | ⟨x, S9, rfl, rfl, hw⟩)
  · refine Or.inl ⟨_, rfl, ?_⟩
    show wp E (d + 8) m_x_boys 5 [some (.ref 0), some (.int a1), some (.int a2), some (.int a3)] [] (Hp S2) (QX (QI Q) X)
    refine wp_st (pc' := 7) (L' := [some (.ref 0), some (.int a1), some (.int a2), some (.int a3)]) (st' := [.int 1, .int a2]) (h' := Hp S2) 2 (fun Z => rfl) ?_
    by_cases hc : a2 < 1
    · rw [if_pos hc] at hw
      refine wp_st (pc' := 25) (L' := [some (.ref 0), some (.int a1), some (.int a2), some (.int a3)]) (st' := []) (h' := Hp S2) 1 (fun Z => if_pos hc) ?_
      obtain ⟨hn, hw⟩ := hw
      refine wp_ret (h' := Hp (upT S2)) (o := .inr 1) (fun Z => ?_) (Or.inr ⟨_, _, rfl, rfl, hw⟩)
      rw [upT_eq hn]
      rfl
    · rw [if_neg hc] at hw
      refine wp_st (pc' := 10) (L' := [some (.ref 0), some (.int a1), some (.int a2), some (.int a3)]) (st' := []) (h' := Hp S2) 1 (fun Z => if_neg hc) ?_
      refine wp_st (pc' := 12) (L' := [some (.ref 0), some (.int a1), some (.int a2), some (.int a3)]) (st' := [.int 5, .int a2]) (h' := Hp S2) 2 (fun Z => rfl) ?_
      by_cases hc : 5 < a2
      · rw [if_pos hc] at hw
        refine wp_st (pc' := 25) (L' := [some (.ref 0), some (.int a1), some (.int a2), some (.int a3)]) (st' := []) (h' := Hp S2) 1 (fun Z => if_pos hc) ?_
        obtain ⟨hn, hw⟩ := hw
        refine wp_ret (h' := Hp (upT S2)) (o := .inr 1) (fun Z => ?_) (Or.inr ⟨_, _, rfl, rfl, hw⟩)
        rw [upT_eq hn]
        rfl
      · rw [if_neg hc] at hw
        refine wp_st (pc' := 15) (L' := [some (.ref 0), some (.int a1), some (.int a2), some (.int a3)]) (st' := []) (h' := Hp S2) 1 (fun Z => if_neg hc) ?_
        refine wp_st (pc' := 16) (L' := [some (.ref 0), some (.int a1), some (.int a2), some (.int a3)]) (st' := [.int a3]) (h' := Hp S2) 1 (fun Z => rfl) ?_
        by_cases hc : a3 < 0
        · rw [if_pos hc] at hw
          refine wp_st (pc' := 25) (L' := [some (.ref 0), some (.int a1), some (.int a2), some (.int a3)]) (st' := []) (h' := Hp S2) 1 (fun Z => if_pos hc) ?_
          obtain ⟨hn, hw⟩ := hw
          refine wp_ret (h' := Hp (upT S2)) (o := .inr 1) (fun Z => ?_) (Or.inr ⟨_, _, rfl, rfl, hw⟩)
          rw [upT_eq hn]
          rfl
        · rw [if_neg hc] at hw
          refine wp_st (pc' := 19) (L' := [some (.ref 0), some (.int a1), some (.int a2), some (.int a3)]) (st' := []) (h' := Hp S2) 1 (fun Z => if_neg hc) ?_
          refine wp_st (pc' := 22) (L' := [some (.ref 0), some (.int a1), some (.int a2), some (.int a3)]) (st' := [.int 10, .int a3]) (h' := Hp S2) 2 (fun Z => rfl) ?_
          by_cases hc : a3 ≤ 10
          · rw [if_pos hc] at hw
            refine wp_st (pc' := 36) (L' := [some (.ref 0), some (.int a1), some (.int a2), some (.int a3)]) (st' := []) (h' := Hp S2) 1 (fun Z => if_pos hc) ?_
            refine wp_st (pc' := 37) (L' := [some (.ref 0), some (.int a1), some (.int a2), some (.int a3)]) (st' := [.ref 0]) (h' := Hp S2) 1 (fun Z => rfl) ?_
            refine wp_st (pc' := 40) (L' := [some (.ref 0), some (.int a1), some (.int a2), some (.int a3)]) (st' := [.ref 60]) (h' := Hp S2) 1 (fun Z => gfR (E := E) sh0 rfl _) ?_
            refine wp_st (pc' := 43) (L' := [some (.ref 0), some (.int a1), some (.int a2), some (.int a3)]) (st' := [.int a3, .int a2, .int a1, .ref 60]) (h' := Hp S2) 3 (fun Z => rfl) ?_
            refine wp_call (pc' := 46) (rest := []) (fun Z => rfl) (isO_of sh60) hw ?_
            rintro o h1 ⟨x3, S4, rfl, rfl, hw⟩
            refine ⟨_, rfl, ?_⟩
            show wp E (d + 8) m_x_boys 46 [some (.ref 0), some (.int a1), some (.int a2), some (.int a3)] [.int x3] (Hp S4) (QX (QI Q) X)
            exact wp_ret (fun Z => rfl) (Or.inl ⟨_, _, rfl, rfl, hw⟩)
          · rw [if_neg hc] at hw
            refine wp_st (pc' := 25) (L' := [some (.ref 0), some (.int a1), some (.int a2), some (.int a3)]) (st' := []) (h' := Hp S2) 1 (fun Z => if_neg hc) ?_
            obtain ⟨hn, hw⟩ := hw
            refine wp_ret (h' := Hp (upT S2)) (o := .inr 1) (fun Z => ?_) (Or.inr ⟨_, _, rfl, rfl, hw⟩)
            rw [upT_eq hn]
            rfl
  · exact Or.inr ⟨x, rfl, Or.inr ⟨_, _, rfl, rfl, hw⟩⟩
set_option maxRecDepth 4000 in
theorem w_x_game {E : zX} {d : Nat} {S : St} {a1 : Int32} {a2 : Int32} {a3 : Int32} {Q : Int32 → St → Prop} {X : Nat → St → Prop} (hd : 8 ≤ d) 
    (hw : k_x_needPerson E (d - 1) S a1 (fun S2 =>
    k_x_needPerson E (d - 1) S2 a2 (fun S4 =>
      k_x_needWhat E (d - 1) S4 a3 1 (fun S6 =>
        if a1 = a2 then (
            (S6 1000 0).toNatClampNeg < 1000000 ∧ X 1 (upT S6))
          else (
            k_Scene_temperOf E (d - 1) S6 25 a1 (fun x7 S8 =>
            if x7 = 0 then (
              Q ((-1) : Int32) S8)
            else (
              k_Scene_temperOf E (d - 1) S8 25 a2 (fun x9 S10 =>
              if x9 = 0 then (
                Q ((-1) : Int32) S10)
              else (
                k_Chance_play E (d - 1) S10 a1 a2 (fun S12 =>
                if a3 = 0 then (
                  k_Chance_resting E (d - 1) S12 (fun x13 S14 =>
                  Q x13 S14))
                else (
                  k_Chance_firstResting E (d - 1) S12 (fun x15 S16 =>
                  Q x15 S16))))))))) X) X) X) :
    k_x_game E d S a1 a2 a3 Q X := by
  obtain ⟨d, rfl⟩ := Nat.exists_eq_add_of_le' hd
  show wp E (d + 8) m_x_game 0 [some (.ref 0), some (.int a1), some (.int a2), some (.int a3)] [] (Hp S) (QX (QI Q) X)
  refine wp_st (pc' := 2) (L' := [some (.ref 0), some (.int a1), some (.int a2), some (.int a3)]) (st' := [.int a1, .ref 0]) (h' := Hp S) 2 (fun Z => rfl) ?_
  refine wp_callX (pc' := 5) (rest := []) (fun Z => rfl) (isO_of sh0) hw ?_
  rintro o h1 (⟨S2, rfl, rfl, hw⟩ | ⟨x, S9, rfl, rfl, hw⟩)
  · refine Or.inl ⟨_, rfl, ?_⟩
    show wp E (d + 8) m_x_game 5 [some (.ref 0), some (.int a1), some (.int a2), some (.int a3)] [] (Hp S2) (QX (QI Q) X)
    refine wp_st (pc' := 7) (L' := [some (.ref 0), some (.int a1), some (.int a2), some (.int a3)]) (st' := [.int a2, .ref 0]) (h' := Hp S2) 2 (fun Z => rfl) ?_
    refine wp_callX (pc' := 10) (rest := []) (fun Z => rfl) (isO_of sh0) hw ?_
    rintro o h1 (⟨S4, rfl, rfl, hw⟩ | ⟨x, S9, rfl, rfl, hw⟩)
    · refine Or.inl ⟨_, rfl, ?_⟩
      show wp E (d + 8) m_x_game 10 [some (.ref 0), some (.int a1), some (.int a2), some (.int a3)] [] (Hp S4) (QX (QI Q) X)
      refine wp_st (pc' := 13) (L' := [some (.ref 0), some (.int a1), some (.int a2), some (.int a3)]) (st' := [.int 1, .int a3, .ref 0]) (h' := Hp S4) 3 (fun Z => rfl) ?_
      refine wp_callX (pc' := 16) (rest := []) (fun Z => rfl) (isO_of sh0) hw ?_
      rintro o h1 (⟨S6, rfl, rfl, hw⟩ | ⟨x, S9, rfl, rfl, hw⟩)
      · refine Or.inl ⟨_, rfl, ?_⟩
        show wp E (d + 8) m_x_game 16 [some (.ref 0), some (.int a1), some (.int a2), some (.int a3)] [] (Hp S6) (QX (QI Q) X)
        refine wp_st (pc' := 18) (L' := [some (.ref 0), some (.int a1), some (.int a2), some (.int a3)]) (st' := [.int a2, .int a1]) (h' := Hp S6) 2 (fun Z => rfl) ?_
        by_cases hc : a1 = a2
        · rw [if_pos hc] at hw
          refine wp_st (pc' := 21) (L' := [some (.ref 0), some (.int a1), some (.int a2), some (.int a3)]) (st' := []) (h' := Hp S6) 1 (fun Z => if_pos hc) ?_
          obtain ⟨hn, hw⟩ := hw
          refine wp_ret (h' := Hp (upT S6)) (o := .inr 1) (fun Z => ?_) (Or.inr ⟨_, _, rfl, rfl, hw⟩)
          rw [upT_eq hn]
          rfl
        · rw [if_neg hc] at hw
          refine wp_st (pc' := 32) (L' := [some (.ref 0), some (.int a1), some (.int a2), some (.int a3)]) (st' := []) (h' := Hp S6) 1 (fun Z => if_neg hc) ?_
          refine wp_st (pc' := 33) (L' := [some (.ref 0), some (.int a1), some (.int a2), some (.int a3)]) (st' := [.ref 0]) (h' := Hp S6) 1 (fun Z => rfl) ?_
          refine wp_st (pc' := 36) (L' := [some (.ref 0), some (.int a1), some (.int a2), some (.int a3)]) (st' := [.ref 25]) (h' := Hp S6) 1 (fun Z => gfR (E := E) sh0 rfl _) ?_
          refine wp_st (pc' := 37) (L' := [some (.ref 0), some (.int a1), some (.int a2), some (.int a3)]) (st' := [.int a1, .ref 25]) (h' := Hp S6) 1 (fun Z => rfl) ?_
          refine wp_call (pc' := 40) (rest := []) (fun Z => rfl) (isO_of sh25) hw ?_
          rintro o h1 ⟨x7, S8, rfl, rfl, hw⟩
          refine ⟨_, rfl, ?_⟩
          show wp E (d + 8) m_x_game 40 [some (.ref 0), some (.int a1), some (.int a2), some (.int a3)] [.int x7] (Hp S8) (QX (QI Q) X)
          by_cases hc : x7 = 0
          · rw [if_pos hc] at hw
            refine wp_st (pc' := 54) (L' := [some (.ref 0), some (.int a1), some (.int a2), some (.int a3)]) (st' := []) (h' := Hp S8) 1 (fun Z => if_pos hc) ?_
            refine wp_st (pc' := 55) (L' := [some (.ref 0), some (.int a1), some (.int a2), some (.int a3)]) (st' := [.int (-1)]) (h' := Hp S8) 1 (fun Z => congrArg (fun v => Z (d + 8) m_x_game 55 [some (.ref 0), some (.int a1), some (.int a2), some (.int a3)] [.int v] (Hp S8)) (show Int32.ofInt (-1) = (-1) by decide)) ?_
            exact wp_ret (fun Z => rfl) (Or.inl ⟨_, _, rfl, rfl, hw⟩)
          · rw [if_neg hc] at hw
            refine wp_st (pc' := 43) (L' := [some (.ref 0), some (.int a1), some (.int a2), some (.int a3)]) (st' := []) (h' := Hp S8) 1 (fun Z => if_neg hc) ?_
            refine wp_st (pc' := 44) (L' := [some (.ref 0), some (.int a1), some (.int a2), some (.int a3)]) (st' := [.ref 0]) (h' := Hp S8) 1 (fun Z => rfl) ?_
            refine wp_st (pc' := 47) (L' := [some (.ref 0), some (.int a1), some (.int a2), some (.int a3)]) (st' := [.ref 25]) (h' := Hp S8) 1 (fun Z => gfR (E := E) sh0 rfl _) ?_
            refine wp_st (pc' := 48) (L' := [some (.ref 0), some (.int a1), some (.int a2), some (.int a3)]) (st' := [.int a2, .ref 25]) (h' := Hp S8) 1 (fun Z => rfl) ?_
            refine wp_call (pc' := 51) (rest := []) (fun Z => rfl) (isO_of sh25) hw ?_
            rintro o h1 ⟨x9, S10, rfl, rfl, hw⟩
            refine ⟨_, rfl, ?_⟩
            show wp E (d + 8) m_x_game 51 [some (.ref 0), some (.int a1), some (.int a2), some (.int a3)] [.int x9] (Hp S10) (QX (QI Q) X)
            by_cases hc : x9 = 0
            · rw [if_pos hc] at hw
              refine wp_st (pc' := 54) (L' := [some (.ref 0), some (.int a1), some (.int a2), some (.int a3)]) (st' := []) (h' := Hp S10) 1 (fun Z => if_pos hc) ?_
              refine wp_st (pc' := 55) (L' := [some (.ref 0), some (.int a1), some (.int a2), some (.int a3)]) (st' := [.int (-1)]) (h' := Hp S10) 1 (fun Z => congrArg (fun v => Z (d + 8) m_x_game 55 [some (.ref 0), some (.int a1), some (.int a2), some (.int a3)] [.int v] (Hp S10)) (show Int32.ofInt (-1) = (-1) by decide)) ?_
              exact wp_ret (fun Z => rfl) (Or.inl ⟨_, _, rfl, rfl, hw⟩)
            · rw [if_neg hc] at hw
              refine wp_st (pc' := 56) (L' := [some (.ref 0), some (.int a1), some (.int a2), some (.int a3)]) (st' := []) (h' := Hp S10) 1 (fun Z => if_neg hc) ?_
              refine wp_st (pc' := 57) (L' := [some (.ref 0), some (.int a1), some (.int a2), some (.int a3)]) (st' := [.ref 0]) (h' := Hp S10) 1 (fun Z => rfl) ?_
              refine wp_st (pc' := 60) (L' := [some (.ref 0), some (.int a1), some (.int a2), some (.int a3)]) (st' := [.ref 60]) (h' := Hp S10) 1 (fun Z => gfR (E := E) sh0 rfl _) ?_
              refine wp_st (pc' := 62) (L' := [some (.ref 0), some (.int a1), some (.int a2), some (.int a3)]) (st' := [.int a2, .int a1, .ref 60]) (h' := Hp S10) 2 (fun Z => rfl) ?_
              refine wp_call (pc' := 65) (rest := []) (fun Z => rfl) (isO_of sh60) hw ?_
              rintro o h1 ⟨S12, rfl, rfl, hw⟩
              refine ⟨_, rfl, ?_⟩
              show wp E (d + 8) m_x_game 65 [some (.ref 0), some (.int a1), some (.int a2), some (.int a3)] [] (Hp S12) (QX (QI Q) X)
              refine wp_st (pc' := 66) (L' := [some (.ref 0), some (.int a1), some (.int a2), some (.int a3)]) (st' := [.int a3]) (h' := Hp S12) 1 (fun Z => rfl) ?_
              by_cases hc : a3 = 0
              · rw [if_pos hc] at hw
                refine wp_st (pc' := 69) (L' := [some (.ref 0), some (.int a1), some (.int a2), some (.int a3)]) (st' := []) (h' := Hp S12) 1 (fun Z => if_pos hc) ?_
                refine wp_st (pc' := 70) (L' := [some (.ref 0), some (.int a1), some (.int a2), some (.int a3)]) (st' := [.ref 0]) (h' := Hp S12) 1 (fun Z => rfl) ?_
                refine wp_st (pc' := 73) (L' := [some (.ref 0), some (.int a1), some (.int a2), some (.int a3)]) (st' := [.ref 60]) (h' := Hp S12) 1 (fun Z => gfR (E := E) sh0 rfl _) ?_
                refine wp_call (pc' := 76) (rest := []) (fun Z => rfl) (isO_of sh60) hw ?_
                rintro o h1 ⟨x13, S14, rfl, rfl, hw⟩
                refine ⟨_, rfl, ?_⟩
                show wp E (d + 8) m_x_game 76 [some (.ref 0), some (.int a1), some (.int a2), some (.int a3)] [.int x13] (Hp S14) (QX (QI Q) X)
                refine wp_st (pc' := 86) (L' := [some (.ref 0), some (.int a1), some (.int a2), some (.int a3)]) (st' := [.int x13]) (h' := Hp S14) 1 (fun Z => rfl) ?_
                exact wp_ret (fun Z => rfl) (Or.inl ⟨_, _, rfl, rfl, hw⟩)
              · rw [if_neg hc] at hw
                refine wp_st (pc' := 79) (L' := [some (.ref 0), some (.int a1), some (.int a2), some (.int a3)]) (st' := []) (h' := Hp S12) 1 (fun Z => if_neg hc) ?_
                refine wp_st (pc' := 80) (L' := [some (.ref 0), some (.int a1), some (.int a2), some (.int a3)]) (st' := [.ref 0]) (h' := Hp S12) 1 (fun Z => rfl) ?_
                refine wp_st (pc' := 83) (L' := [some (.ref 0), some (.int a1), some (.int a2), some (.int a3)]) (st' := [.ref 60]) (h' := Hp S12) 1 (fun Z => gfR (E := E) sh0 rfl _) ?_
                refine wp_call (pc' := 86) (rest := []) (fun Z => rfl) (isO_of sh60) hw ?_
                rintro o h1 ⟨x15, S16, rfl, rfl, hw⟩
                refine ⟨_, rfl, ?_⟩
                show wp E (d + 8) m_x_game 86 [some (.ref 0), some (.int a1), some (.int a2), some (.int a3)] [.int x15] (Hp S16) (QX (QI Q) X)
                exact wp_ret (fun Z => rfl) (Or.inl ⟨_, _, rfl, rfl, hw⟩)
      · exact Or.inr ⟨x, rfl, Or.inr ⟨_, _, rfl, rfl, hw⟩⟩
    · exact Or.inr ⟨x, rfl, Or.inr ⟨_, _, rfl, rfl, hw⟩⟩
  · exact Or.inr ⟨x, rfl, Or.inr ⟨_, _, rfl, rfl, hw⟩⟩
set_option maxRecDepth 4000 in
theorem w_x_years {E : zX} {d : Nat} {S : St} {a1 : Int32} {a2 : Int32} {a3 : Int32} {Q : Int32 → St → Prop} {X : Nat → St → Prop} (hd : 1 ≤ d) 
    (hw : k_x_needWhat E (d - 1) S a3 2 (fun S2 =>
    k_x_needDays E (d - 1) S2 a2 0 (fun S4 =>
      k_Chance_live E (d - 1) S4 a1 a2 (fun S6 =>
        if a3 = 0 then (
          Q (S6 60 0) S6)
        else (
          if a3 = 1 then (
            Q (S6 60 1) S6)
          else (
            Q (S6 60 2) S6)))) X) X) :
    k_x_years E d S a1 a2 a3 Q X := by
  obtain ⟨d, rfl⟩ := Nat.exists_eq_add_of_le' hd
  show wp E (d + 1) m_x_years 0 [some (.ref 0), some (.int a1), some (.int a2), some (.int a3)] [] (Hp S) (QX (QI Q) X)
  refine wp_st (pc' := 3) (L' := [some (.ref 0), some (.int a1), some (.int a2), some (.int a3)]) (st' := [.int 2, .int a3, .ref 0]) (h' := Hp S) 3 (fun Z => rfl) ?_
  refine wp_callX (pc' := 6) (rest := []) (fun Z => rfl) (isO_of sh0) hw ?_
  rintro o h1 (⟨S2, rfl, rfl, hw⟩ | ⟨x, S9, rfl, rfl, hw⟩)
  · refine Or.inl ⟨_, rfl, ?_⟩
    show wp E (d + 1) m_x_years 6 [some (.ref 0), some (.int a1), some (.int a2), some (.int a3)] [] (Hp S2) (QX (QI Q) X)
    refine wp_st (pc' := 9) (L' := [some (.ref 0), some (.int a1), some (.int a2), some (.int a3)]) (st' := [.int 0, .int a2, .ref 0]) (h' := Hp S2) 3 (fun Z => rfl) ?_
    refine wp_callX (pc' := 12) (rest := []) (fun Z => rfl) (isO_of sh0) hw ?_
    rintro o h1 (⟨S4, rfl, rfl, hw⟩ | ⟨x, S9, rfl, rfl, hw⟩)
    · refine Or.inl ⟨_, rfl, ?_⟩
      show wp E (d + 1) m_x_years 12 [some (.ref 0), some (.int a1), some (.int a2), some (.int a3)] [] (Hp S4) (QX (QI Q) X)
      refine wp_st (pc' := 13) (L' := [some (.ref 0), some (.int a1), some (.int a2), some (.int a3)]) (st' := [.ref 0]) (h' := Hp S4) 1 (fun Z => rfl) ?_
      refine wp_st (pc' := 16) (L' := [some (.ref 0), some (.int a1), some (.int a2), some (.int a3)]) (st' := [.ref 60]) (h' := Hp S4) 1 (fun Z => gfR (E := E) sh0 rfl _) ?_
      refine wp_st (pc' := 18) (L' := [some (.ref 0), some (.int a1), some (.int a2), some (.int a3)]) (st' := [.int a2, .int a1, .ref 60]) (h' := Hp S4) 2 (fun Z => rfl) ?_
      refine wp_call (pc' := 21) (rest := []) (fun Z => rfl) (isO_of sh60) hw ?_
      rintro o h1 ⟨S6, rfl, rfl, hw⟩
      refine ⟨_, rfl, ?_⟩
      show wp E (d + 1) m_x_years 21 [some (.ref 0), some (.int a1), some (.int a2), some (.int a3)] [] (Hp S6) (QX (QI Q) X)
      refine wp_st (pc' := 22) (L' := [some (.ref 0), some (.int a1), some (.int a2), some (.int a3)]) (st' := [.int a3]) (h' := Hp S6) 1 (fun Z => rfl) ?_
      by_cases hc : a3 = 0
      · rw [if_pos hc] at hw
        refine wp_st (pc' := 25) (L' := [some (.ref 0), some (.int a1), some (.int a2), some (.int a3)]) (st' := []) (h' := Hp S6) 1 (fun Z => if_pos hc) ?_
        refine wp_st (pc' := 26) (L' := [some (.ref 0), some (.int a1), some (.int a2), some (.int a3)]) (st' := [.ref 0]) (h' := Hp S6) 1 (fun Z => rfl) ?_
        refine wp_st (pc' := 29) (L' := [some (.ref 0), some (.int a1), some (.int a2), some (.int a3)]) (st' := [.ref 60]) (h' := Hp S6) 1 (fun Z => gfR (E := E) sh0 rfl _) ?_
        refine wp_st (pc' := 32) (L' := [some (.ref 0), some (.int a1), some (.int a2), some (.int a3)]) (st' := [.int (S6 60 0)]) (h' := Hp S6) 1 (fun Z => gfI (E := E) sh60 rfl _) ?_
        exact wp_ret (fun Z => rfl) (Or.inl ⟨_, _, rfl, rfl, hw⟩)
      · rw [if_neg hc] at hw
        refine wp_st (pc' := 33) (L' := [some (.ref 0), some (.int a1), some (.int a2), some (.int a3)]) (st' := []) (h' := Hp S6) 1 (fun Z => if_neg hc) ?_
        refine wp_st (pc' := 35) (L' := [some (.ref 0), some (.int a1), some (.int a2), some (.int a3)]) (st' := [.int 1, .int a3]) (h' := Hp S6) 2 (fun Z => rfl) ?_
        by_cases hc : a3 = 1
        · rw [if_pos hc] at hw
          refine wp_st (pc' := 38) (L' := [some (.ref 0), some (.int a1), some (.int a2), some (.int a3)]) (st' := []) (h' := Hp S6) 1 (fun Z => if_pos hc) ?_
          refine wp_st (pc' := 39) (L' := [some (.ref 0), some (.int a1), some (.int a2), some (.int a3)]) (st' := [.ref 0]) (h' := Hp S6) 1 (fun Z => rfl) ?_
          refine wp_st (pc' := 42) (L' := [some (.ref 0), some (.int a1), some (.int a2), some (.int a3)]) (st' := [.ref 60]) (h' := Hp S6) 1 (fun Z => gfR (E := E) sh0 rfl _) ?_
          refine wp_st (pc' := 45) (L' := [some (.ref 0), some (.int a1), some (.int a2), some (.int a3)]) (st' := [.int (S6 60 1)]) (h' := Hp S6) 1 (fun Z => gfI (E := E) sh60 rfl _) ?_
          refine wp_st (pc' := 55) (L' := [some (.ref 0), some (.int a1), some (.int a2), some (.int a3)]) (st' := [.int (S6 60 1)]) (h' := Hp S6) 1 (fun Z => rfl) ?_
          exact wp_ret (fun Z => rfl) (Or.inl ⟨_, _, rfl, rfl, hw⟩)
        · rw [if_neg hc] at hw
          refine wp_st (pc' := 48) (L' := [some (.ref 0), some (.int a1), some (.int a2), some (.int a3)]) (st' := []) (h' := Hp S6) 1 (fun Z => if_neg hc) ?_
          refine wp_st (pc' := 49) (L' := [some (.ref 0), some (.int a1), some (.int a2), some (.int a3)]) (st' := [.ref 0]) (h' := Hp S6) 1 (fun Z => rfl) ?_
          refine wp_st (pc' := 52) (L' := [some (.ref 0), some (.int a1), some (.int a2), some (.int a3)]) (st' := [.ref 60]) (h' := Hp S6) 1 (fun Z => gfR (E := E) sh0 rfl _) ?_
          refine wp_st (pc' := 55) (L' := [some (.ref 0), some (.int a1), some (.int a2), some (.int a3)]) (st' := [.int (S6 60 2)]) (h' := Hp S6) 1 (fun Z => gfI (E := E) sh60 rfl _) ?_
          exact wp_ret (fun Z => rfl) (Or.inl ⟨_, _, rfl, rfl, hw⟩)
    · exact Or.inr ⟨x, rfl, Or.inr ⟨_, _, rfl, rfl, hw⟩⟩
  · exact Or.inr ⟨x, rfl, Or.inr ⟨_, _, rfl, rfl, hw⟩⟩
set_option maxRecDepth 4000 in
theorem w_x_cell {E : zX} {d : Nat} {S : St} {a1 : Int32} {a2 : Int32} {Q : Int32 → St → Prop} {X : Nat → St → Prop} (hd : 1 ≤ d) 
    (hw : k_x_needCell E (d - 1) S a1 (fun S2 =>
    k_x_needWhat E (d - 1) S2 a2 1 (fun S4 =>
      if a2 = 0 then (
          k_Downs_over E (d - 1) S4 25 a1 (fun x5 S6 =>
          Q x5 S6))
        else (
          k_Downs_nearestBall E (d - 1) S4 25 a1 (fun x7 S8 =>
          Q x7 S8))) X) X) :
    k_x_cell E d S a1 a2 Q X := by
  obtain ⟨d, rfl⟩ := Nat.exists_eq_add_of_le' hd
  show wp E (d + 1) m_x_cell 0 [some (.ref 0), some (.int a1), some (.int a2)] [] (Hp S) (QX (QI Q) X)
  refine wp_st (pc' := 2) (L' := [some (.ref 0), some (.int a1), some (.int a2)]) (st' := [.int a1, .ref 0]) (h' := Hp S) 2 (fun Z => rfl) ?_
  refine wp_callX (pc' := 5) (rest := []) (fun Z => rfl) (isO_of sh0) hw ?_
  rintro o h1 (⟨S2, rfl, rfl, hw⟩ | ⟨x, S9, rfl, rfl, hw⟩)
  · refine Or.inl ⟨_, rfl, ?_⟩
    show wp E (d + 1) m_x_cell 5 [some (.ref 0), some (.int a1), some (.int a2)] [] (Hp S2) (QX (QI Q) X)
    refine wp_st (pc' := 8) (L' := [some (.ref 0), some (.int a1), some (.int a2)]) (st' := [.int 1, .int a2, .ref 0]) (h' := Hp S2) 3 (fun Z => rfl) ?_
    refine wp_callX (pc' := 11) (rest := []) (fun Z => rfl) (isO_of sh0) hw ?_
    rintro o h1 (⟨S4, rfl, rfl, hw⟩ | ⟨x, S9, rfl, rfl, hw⟩)
    · refine Or.inl ⟨_, rfl, ?_⟩
      show wp E (d + 1) m_x_cell 11 [some (.ref 0), some (.int a1), some (.int a2)] [] (Hp S4) (QX (QI Q) X)
      refine wp_st (pc' := 12) (L' := [some (.ref 0), some (.int a1), some (.int a2)]) (st' := [.int a2]) (h' := Hp S4) 1 (fun Z => rfl) ?_
      by_cases hc : a2 = 0
      · rw [if_pos hc] at hw
        refine wp_st (pc' := 15) (L' := [some (.ref 0), some (.int a1), some (.int a2)]) (st' := []) (h' := Hp S4) 1 (fun Z => if_pos hc) ?_
        refine wp_st (pc' := 16) (L' := [some (.ref 0), some (.int a1), some (.int a2)]) (st' := [.ref 0]) (h' := Hp S4) 1 (fun Z => rfl) ?_
        refine wp_st (pc' := 19) (L' := [some (.ref 0), some (.int a1), some (.int a2)]) (st' := [.ref 38]) (h' := Hp S4) 1 (fun Z => gfR (E := E) sh0 rfl _) ?_
        refine wp_st (pc' := 20) (L' := [some (.ref 0), some (.int a1), some (.int a2)]) (st' := [.ref 0, .ref 38]) (h' := Hp S4) 1 (fun Z => rfl) ?_
        refine wp_st (pc' := 23) (L' := [some (.ref 0), some (.int a1), some (.int a2)]) (st' := [.ref 25, .ref 38]) (h' := Hp S4) 1 (fun Z => gfR (E := E) sh0 rfl _) ?_
        refine wp_st (pc' := 24) (L' := [some (.ref 0), some (.int a1), some (.int a2)]) (st' := [.int a1, .ref 25, .ref 38]) (h' := Hp S4) 1 (fun Z => rfl) ?_
        refine wp_call (pc' := 27) (rest := []) (fun Z => rfl) (isO_of sh38) hw ?_
        rintro o h1 ⟨x5, S6, rfl, rfl, hw⟩
        refine ⟨_, rfl, ?_⟩
        show wp E (d + 1) m_x_cell 27 [some (.ref 0), some (.int a1), some (.int a2)] [.int x5] (Hp S6) (QX (QI Q) X)
        refine wp_st (pc' := 42) (L' := [some (.ref 0), some (.int a1), some (.int a2)]) (st' := [.int x5]) (h' := Hp S6) 1 (fun Z => rfl) ?_
        exact wp_ret (fun Z => rfl) (Or.inl ⟨_, _, rfl, rfl, hw⟩)
      · rw [if_neg hc] at hw
        refine wp_st (pc' := 30) (L' := [some (.ref 0), some (.int a1), some (.int a2)]) (st' := []) (h' := Hp S4) 1 (fun Z => if_neg hc) ?_
        refine wp_st (pc' := 31) (L' := [some (.ref 0), some (.int a1), some (.int a2)]) (st' := [.ref 0]) (h' := Hp S4) 1 (fun Z => rfl) ?_
        refine wp_st (pc' := 34) (L' := [some (.ref 0), some (.int a1), some (.int a2)]) (st' := [.ref 38]) (h' := Hp S4) 1 (fun Z => gfR (E := E) sh0 rfl _) ?_
        refine wp_st (pc' := 35) (L' := [some (.ref 0), some (.int a1), some (.int a2)]) (st' := [.ref 0, .ref 38]) (h' := Hp S4) 1 (fun Z => rfl) ?_
        refine wp_st (pc' := 38) (L' := [some (.ref 0), some (.int a1), some (.int a2)]) (st' := [.ref 25, .ref 38]) (h' := Hp S4) 1 (fun Z => gfR (E := E) sh0 rfl _) ?_
        refine wp_st (pc' := 39) (L' := [some (.ref 0), some (.int a1), some (.int a2)]) (st' := [.int a1, .ref 25, .ref 38]) (h' := Hp S4) 1 (fun Z => rfl) ?_
        refine wp_call (pc' := 42) (rest := []) (fun Z => rfl) (isO_of sh38) hw ?_
        rintro o h1 ⟨x7, S8, rfl, rfl, hw⟩
        refine ⟨_, rfl, ?_⟩
        show wp E (d + 1) m_x_cell 42 [some (.ref 0), some (.int a1), some (.int a2)] [.int x7] (Hp S8) (QX (QI Q) X)
        exact wp_ret (fun Z => rfl) (Or.inl ⟨_, _, rfl, rfl, hw⟩)
    · exact Or.inr ⟨x, rfl, Or.inr ⟨_, _, rfl, rfl, hw⟩⟩
  · exact Or.inr ⟨x, rfl, Or.inr ⟨_, _, rfl, rfl, hw⟩⟩
set_option maxRecDepth 4000 in
theorem w_x_when {E : zX} {d : Nat} {S : St} {a1 : Int32} {a2 : Int32} {Q : Int32 → St → Prop} {X : Nat → St → Prop} (hd : 1 ≤ d) 
    (hw : k_x_needPerson E (d - 1) S a1 (fun S2 =>
    k_x_needWhat E (d - 1) S2 a2 1 (fun S4 =>
      if a2 = 0 then (
          k_Forecast_firstDay E (d - 1) S4 1 ((1 : Int32) <<< (a1 &&& 31)) (fun x5 S6 =>
          Q x5 S6))
        else (
          k_Forecast_firstDay E (d - 1) S4 2 ((1 : Int32) <<< (a1 &&& 31)) (fun x7 S8 =>
          Q x7 S8))) X) X) :
    k_x_when E d S a1 a2 Q X := by
  obtain ⟨d, rfl⟩ := Nat.exists_eq_add_of_le' hd
  show wp E (d + 1) m_x_when 0 [some (.ref 0), some (.int a1), some (.int a2)] [] (Hp S) (QX (QI Q) X)
  refine wp_st (pc' := 2) (L' := [some (.ref 0), some (.int a1), some (.int a2)]) (st' := [.int a1, .ref 0]) (h' := Hp S) 2 (fun Z => rfl) ?_
  refine wp_callX (pc' := 5) (rest := []) (fun Z => rfl) (isO_of sh0) hw ?_
  rintro o h1 (⟨S2, rfl, rfl, hw⟩ | ⟨x, S9, rfl, rfl, hw⟩)
  · refine Or.inl ⟨_, rfl, ?_⟩
    show wp E (d + 1) m_x_when 5 [some (.ref 0), some (.int a1), some (.int a2)] [] (Hp S2) (QX (QI Q) X)
    refine wp_st (pc' := 8) (L' := [some (.ref 0), some (.int a1), some (.int a2)]) (st' := [.int 1, .int a2, .ref 0]) (h' := Hp S2) 3 (fun Z => rfl) ?_
    refine wp_callX (pc' := 11) (rest := []) (fun Z => rfl) (isO_of sh0) hw ?_
    rintro o h1 (⟨S4, rfl, rfl, hw⟩ | ⟨x, S9, rfl, rfl, hw⟩)
    · refine Or.inl ⟨_, rfl, ?_⟩
      show wp E (d + 1) m_x_when 11 [some (.ref 0), some (.int a1), some (.int a2)] [] (Hp S4) (QX (QI Q) X)
      refine wp_st (pc' := 12) (L' := [some (.ref 0), some (.int a1), some (.int a2)]) (st' := [.ref 0]) (h' := Hp S4) 1 (fun Z => rfl) ?_
      refine wp_st (pc' := 15) (L' := [some (.ref 0), some (.int a1), some (.int a2)]) (st' := [.ref 43]) (h' := Hp S4) 1 (fun Z => gfR (E := E) sh0 rfl _) ?_
      refine wp_st (pc' := 16) (L' := [some (.ref 0), some (.int a1), some (.int a2)]) (st' := [.int a2, .ref 43]) (h' := Hp S4) 1 (fun Z => rfl) ?_
      by_cases hc : a2 = 0
      · rw [if_pos hc] at hw
        refine wp_st (pc' := 19) (L' := [some (.ref 0), some (.int a1), some (.int a2)]) (st' := [.ref 43]) (h' := Hp S4) 1 (fun Z => if_pos hc) ?_
        refine wp_st (pc' := 27) (L' := [some (.ref 0), some (.int a1), some (.int a2)]) (st' := [.int ((1 : Int32) <<< (a1 &&& 31)), .int 1, .ref 43]) (h' := Hp S4) 5 (fun Z => rfl) ?_
        refine wp_call (pc' := 30) (rest := []) (fun Z => rfl) (isO_of sh43) hw ?_
        rintro o h1 ⟨x5, S6, rfl, rfl, hw⟩
        refine ⟨_, rfl, ?_⟩
        show wp E (d + 1) m_x_when 30 [some (.ref 0), some (.int a1), some (.int a2)] [.int x5] (Hp S6) (QX (QI Q) X)
        exact wp_ret (fun Z => rfl) (Or.inl ⟨_, _, rfl, rfl, hw⟩)
      · rw [if_neg hc] at hw
        refine wp_st (pc' := 23) (L' := [some (.ref 0), some (.int a1), some (.int a2)]) (st' := [.ref 43]) (h' := Hp S4) 1 (fun Z => if_neg hc) ?_
        refine wp_st (pc' := 27) (L' := [some (.ref 0), some (.int a1), some (.int a2)]) (st' := [.int ((1 : Int32) <<< (a1 &&& 31)), .int 2, .ref 43]) (h' := Hp S4) 4 (fun Z => rfl) ?_
        refine wp_call (pc' := 30) (rest := []) (fun Z => rfl) (isO_of sh43) hw ?_
        rintro o h1 ⟨x7, S8, rfl, rfl, hw⟩
        refine ⟨_, rfl, ?_⟩
        show wp E (d + 1) m_x_when 30 [some (.ref 0), some (.int a1), some (.int a2)] [.int x7] (Hp S8) (QX (QI Q) X)
        exact wp_ret (fun Z => rfl) (Or.inl ⟨_, _, rfl, rfl, hw⟩)
    · exact Or.inr ⟨x, rfl, Or.inr ⟨_, _, rfl, rfl, hw⟩⟩
  · exact Or.inr ⟨x, rfl, Or.inr ⟨_, _, rfl, rfl, hw⟩⟩
set_option maxRecDepth 4000 in
theorem w_x_ahead {E : zX} {d : Nat} {S : St} {a1 : Int32} {a2 : Int32} {Q : Int32 → St → Prop} {X : Nat → St → Prop} (hd : 1 ≤ d) 
    (hw : k_x_needWhat E (d - 1) S a2 1 (fun S2 =>
    if a2 = 0 then (
        k_x_ahead_17 E d S2 a1 a2 a1 1 Q X)
      else (
        k_x_ahead_17 E d S2 a1 a2 a1 0 Q X)) X) :
    k_x_ahead E d S a1 a2 Q X := by
  obtain ⟨d, rfl⟩ := Nat.exists_eq_add_of_le' hd
  show wp E (d + 1) m_x_ahead 0 [some (.ref 0), some (.int a1), some (.int a2)] [] (Hp S) (QX (QI Q) X)
  refine wp_st (pc' := 3) (L' := [some (.ref 0), some (.int a1), some (.int a2)]) (st' := [.int 1, .int a2, .ref 0]) (h' := Hp S) 3 (fun Z => rfl) ?_
  refine wp_callX (pc' := 6) (rest := []) (fun Z => rfl) (isO_of sh0) hw ?_
  rintro o h1 (⟨S2, rfl, rfl, hw⟩ | ⟨x, S9, rfl, rfl, hw⟩)
  · refine Or.inl ⟨_, rfl, ?_⟩
    show wp E (d + 1) m_x_ahead 6 [some (.ref 0), some (.int a1), some (.int a2)] [] (Hp S2) (QX (QI Q) X)
    refine wp_st (pc' := 9) (L' := [some (.ref 0), some (.int a1), some (.int a2)]) (st' := [.int a2, .int a1, .ref 0]) (h' := Hp S2) 3 (fun Z => rfl) ?_
    by_cases hc : a2 = 0
    · rw [if_pos hc] at hw
      refine wp_st (pc' := 12) (L' := [some (.ref 0), some (.int a1), some (.int a2)]) (st' := [.int a1, .ref 0]) (h' := Hp S2) 1 (fun Z => if_pos hc) ?_
      exact wp_st 2 (fun Z => rfl) (show wp E (d + 1) m_x_ahead 17 [some (.ref 0), some (.int a1), some (.int a2)] [.int 1, .int a1, .ref 0] (Hp S2) (QX (QI Q) X) from hw)
    · rw [if_neg hc] at hw
      refine wp_st (pc' := 16) (L' := [some (.ref 0), some (.int a1), some (.int a2)]) (st' := [.int a1, .ref 0]) (h' := Hp S2) 1 (fun Z => if_neg hc) ?_
      exact wp_st 1 (fun Z => rfl) (show wp E (d + 1) m_x_ahead 17 [some (.ref 0), some (.int a1), some (.int a2)] [.int 0, .int a1, .ref 0] (Hp S2) (QX (QI Q) X) from hw)
  · exact Or.inr ⟨x, rfl, Or.inr ⟨_, _, rfl, rfl, hw⟩⟩
set_option maxRecDepth 4000 in
theorem w_x_ahead_17 {E : zX} {d : Nat} {S : St} {a1 : Int32} {a2 : Int32} {s1 : Int32} {s2 : Int32} {Q : Int32 → St → Prop} {X : Nat → St → Prop} (hd : 1 ≤ d) 
    (hw : k_x_needDays E (d - 1) S s1 s2 (fun S2 =>
    if a2 = 0 then (
        k_Forecast_calmDays E (d - 1) S2 a1 (fun x3 S4 =>
        Q x3 S4))
      else (
        k_Forecast_behind E (d - 1) S2 a1 (fun o5 S6 =>
        k_Downs_fullest E (d - 1) S6 o5 0 (fun x7 S8 =>
        Q x7 S8)))) X) :
    k_x_ahead_17 E d S a1 a2 s1 s2 Q X := by
  obtain ⟨d, rfl⟩ := Nat.exists_eq_add_of_le' hd
  show wp E (d + 1) m_x_ahead 17 [some (.ref 0), some (.int a1), some (.int a2)] [.int s2, .int s1, .ref 0] (Hp S) (QX (QI Q) X)
  refine wp_callX (pc' := 20) (rest := []) (fun Z => rfl) (isO_of sh0) hw ?_
  rintro o h1 (⟨S2, rfl, rfl, hw⟩ | ⟨x, S9, rfl, rfl, hw⟩)
  · refine Or.inl ⟨_, rfl, ?_⟩
    show wp E (d + 1) m_x_ahead 20 [some (.ref 0), some (.int a1), some (.int a2)] [] (Hp S2) (QX (QI Q) X)
    refine wp_st (pc' := 21) (L' := [some (.ref 0), some (.int a1), some (.int a2)]) (st' := [.int a2]) (h' := Hp S2) 1 (fun Z => rfl) ?_
    by_cases hc : a2 = 0
    · rw [if_pos hc] at hw
      refine wp_st (pc' := 24) (L' := [some (.ref 0), some (.int a1), some (.int a2)]) (st' := []) (h' := Hp S2) 1 (fun Z => if_pos hc) ?_
      refine wp_st (pc' := 25) (L' := [some (.ref 0), some (.int a1), some (.int a2)]) (st' := [.ref 0]) (h' := Hp S2) 1 (fun Z => rfl) ?_
      refine wp_st (pc' := 28) (L' := [some (.ref 0), some (.int a1), some (.int a2)]) (st' := [.ref 43]) (h' := Hp S2) 1 (fun Z => gfR (E := E) sh0 rfl _) ?_
      refine wp_st (pc' := 29) (L' := [some (.ref 0), some (.int a1), some (.int a2)]) (st' := [.int a1, .ref 43]) (h' := Hp S2) 1 (fun Z => rfl) ?_
      refine wp_call (pc' := 32) (rest := []) (fun Z => rfl) (isO_of sh43) hw ?_
      rintro o h1 ⟨x3, S4, rfl, rfl, hw⟩
      refine ⟨_, rfl, ?_⟩
      show wp E (d + 1) m_x_ahead 32 [some (.ref 0), some (.int a1), some (.int a2)] [.int x3] (Hp S4) (QX (QI Q) X)
      refine wp_st (pc' := 51) (L' := [some (.ref 0), some (.int a1), some (.int a2)]) (st' := [.int x3]) (h' := Hp S4) 1 (fun Z => rfl) ?_
      exact wp_ret (fun Z => rfl) (Or.inl ⟨_, _, rfl, rfl, hw⟩)
    · rw [if_neg hc] at hw
      refine wp_st (pc' := 35) (L' := [some (.ref 0), some (.int a1), some (.int a2)]) (st' := []) (h' := Hp S2) 1 (fun Z => if_neg hc) ?_
      refine wp_st (pc' := 36) (L' := [some (.ref 0), some (.int a1), some (.int a2)]) (st' := [.ref 0]) (h' := Hp S2) 1 (fun Z => rfl) ?_
      refine wp_st (pc' := 39) (L' := [some (.ref 0), some (.int a1), some (.int a2)]) (st' := [.ref 38]) (h' := Hp S2) 1 (fun Z => gfR (E := E) sh0 rfl _) ?_
      refine wp_st (pc' := 40) (L' := [some (.ref 0), some (.int a1), some (.int a2)]) (st' := [.ref 0, .ref 38]) (h' := Hp S2) 1 (fun Z => rfl) ?_
      refine wp_st (pc' := 43) (L' := [some (.ref 0), some (.int a1), some (.int a2)]) (st' := [.ref 43, .ref 38]) (h' := Hp S2) 1 (fun Z => gfR (E := E) sh0 rfl _) ?_
      refine wp_st (pc' := 44) (L' := [some (.ref 0), some (.int a1), some (.int a2)]) (st' := [.int a1, .ref 43, .ref 38]) (h' := Hp S2) 1 (fun Z => rfl) ?_
      refine wp_call (pc' := 47) (rest := [.ref 38]) (fun Z => rfl) (isO_of sh43) hw ?_
      rintro o h1 ⟨o5, S6, rfl, rfl, hw⟩
      refine ⟨_, rfl, ?_⟩
      show wp E (d + 1) m_x_ahead 47 [some (.ref 0), some (.int a1), some (.int a2)] [.ref o5, .ref 38] (Hp S6) (QX (QI Q) X)
      refine wp_st (pc' := 48) (L' := [some (.ref 0), some (.int a1), some (.int a2)]) (st' := [.int 0, .ref o5, .ref 38]) (h' := Hp S6) 1 (fun Z => rfl) ?_
      refine wp_call (pc' := 51) (rest := []) (fun Z => rfl) (isO_of sh38) hw ?_
      rintro o h1 ⟨x7, S8, rfl, rfl, hw⟩
      refine ⟨_, rfl, ?_⟩
      show wp E (d + 1) m_x_ahead 51 [some (.ref 0), some (.int a1), some (.int a2)] [.int x7] (Hp S8) (QX (QI Q) X)
      exact wp_ret (fun Z => rfl) (Or.inl ⟨_, _, rfl, rfl, hw⟩)
  · exact Or.inr ⟨x, rfl, Or.inr ⟨_, _, rfl, rfl, hw⟩⟩
set_option maxRecDepth 4000 in
theorem w_x_stays {E : zX} {d : Nat} {S : St} {a1 : Int32} {a2 : Int32} {Q : Int32 → St → Prop} {X : Nat → St → Prop} (hd : 1 ≤ d) 
    (hw : k_x_needPerson E (d - 1) S a1 (fun S2 =>
    k_x_needDays E (d - 1) S2 a2 1 (fun S4 =>
      k_Forecast_outstayed E (d - 1) S4 a1 a2 (fun x5 S6 =>
        Q x5 S6)) X) X) :
    k_x_stays E d S a1 a2 Q X := by
  obtain ⟨d, rfl⟩ := Nat.exists_eq_add_of_le' hd
  show wp E (d + 1) m_x_stays 0 [some (.ref 0), some (.int a1), some (.int a2)] [] (Hp S) (QX (QI Q) X)
  refine wp_st (pc' := 2) (L' := [some (.ref 0), some (.int a1), some (.int a2)]) (st' := [.int a1, .ref 0]) (h' := Hp S) 2 (fun Z => rfl) ?_
  refine wp_callX (pc' := 5) (rest := []) (fun Z => rfl) (isO_of sh0) hw ?_
  rintro o h1 (⟨S2, rfl, rfl, hw⟩ | ⟨x, S9, rfl, rfl, hw⟩)
  · refine Or.inl ⟨_, rfl, ?_⟩
    show wp E (d + 1) m_x_stays 5 [some (.ref 0), some (.int a1), some (.int a2)] [] (Hp S2) (QX (QI Q) X)
    refine wp_st (pc' := 8) (L' := [some (.ref 0), some (.int a1), some (.int a2)]) (st' := [.int 1, .int a2, .ref 0]) (h' := Hp S2) 3 (fun Z => rfl) ?_
    refine wp_callX (pc' := 11) (rest := []) (fun Z => rfl) (isO_of sh0) hw ?_
    rintro o h1 (⟨S4, rfl, rfl, hw⟩ | ⟨x, S9, rfl, rfl, hw⟩)
    · refine Or.inl ⟨_, rfl, ?_⟩
      show wp E (d + 1) m_x_stays 11 [some (.ref 0), some (.int a1), some (.int a2)] [] (Hp S4) (QX (QI Q) X)
      refine wp_st (pc' := 12) (L' := [some (.ref 0), some (.int a1), some (.int a2)]) (st' := [.ref 0]) (h' := Hp S4) 1 (fun Z => rfl) ?_
      refine wp_st (pc' := 15) (L' := [some (.ref 0), some (.int a1), some (.int a2)]) (st' := [.ref 43]) (h' := Hp S4) 1 (fun Z => gfR (E := E) sh0 rfl _) ?_
      refine wp_st (pc' := 17) (L' := [some (.ref 0), some (.int a1), some (.int a2)]) (st' := [.int a2, .int a1, .ref 43]) (h' := Hp S4) 2 (fun Z => rfl) ?_
      refine wp_call (pc' := 20) (rest := []) (fun Z => rfl) (isO_of sh43) hw ?_
      rintro o h1 ⟨x5, S6, rfl, rfl, hw⟩
      refine ⟨_, rfl, ?_⟩
      show wp E (d + 1) m_x_stays 20 [some (.ref 0), some (.int a1), some (.int a2)] [.int x5] (Hp S6) (QX (QI Q) X)
      exact wp_ret (fun Z => rfl) (Or.inl ⟨_, _, rfl, rfl, hw⟩)
    · exact Or.inr ⟨x, rfl, Or.inr ⟨_, _, rfl, rfl, hw⟩⟩
  · exact Or.inr ⟨x, rfl, Or.inr ⟨_, _, rfl, rfl, hw⟩⟩
