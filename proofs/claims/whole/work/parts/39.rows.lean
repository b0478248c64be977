set_option maxRecDepth 4000 in
theorem w_law_county {E : zX} {d : Nat} {S : St} {a1 : Int32} {Q : Int32 → St → Prop} (hd : 1 ≤ d) 
    (hw : k_x_county E (d - 1) S a1 (fun x1 S2 =>
    ∀ S3, S3 = upA S2 91 (Int32.toInt64 x1) →
      Q (0 : Int32) S3)
    (fun x S4 =>
    (x = 1 ∧
    Q (1 : Int32) S4))) :
    k_law_county E d S a1 Q := by
  obtain ⟨d, rfl⟩ := Nat.exists_eq_add_of_le' hd
  show wp E (d + 1) m_law_county 0 [some (.ref 0), some (.int a1), some (.ref 91), none] [] (Hp S) (QI Q)
  refine wp_st (pc' := 4) (L' := [some (.ref 0), some (.int a1), some (.ref 91), none]) (st' := [.int a1, .ref 0, .int 0, .ref 91]) (h' := Hp S) 4 (fun Z => rfl) ?_
  refine wp_callH (pc' := 7) (rest := [.int 0, .ref 91]) (fun Z => rfl) (isO_of sh0) hw ?_
  rintro o h1 (⟨x1, S2, rfl, rfl, hw⟩ | ⟨x, S4, rfl, rfl, hw⟩)
  · refine Or.inl ⟨_, rfl, ?_⟩
    show wp E (d + 1) m_law_county 7 [some (.ref 0), some (.int a1), some (.ref 91), none] [.int x1, .int 0, .ref 91] (Hp S2) (QI Q)
    refine wp_st (pc' := 8) (L' := [some (.ref 0), some (.int a1), some (.ref 91), none]) (st' := [.long (Int32.toInt64 x1), .int 0, .ref 91]) (h' := Hp S2) 1 (fun Z => rfl) ?_
    have hw := hw _ rfl
    refine wp_st (pc' := 9) (L' := [some (.ref 0), some (.int a1), some (.ref 91), none]) (st' := []) (h' := Hp (upA S2 91 (Int32.toInt64 x1))) 1 (fun Z => stJ0 sh91 _) ?_
    generalize upA S2 91 (Int32.toInt64 x1) = S3 at hw ⊢
    refine wp_st (pc' := 16) (L' := [some (.ref 0), some (.int a1), some (.ref 91), none]) (st' := [.int 0]) (h' := Hp S3) 2 (fun Z => rfl) ?_
    exact wp_ret (fun Z => rfl) ⟨_, _, rfl, rfl, hw⟩
  · rcases hw with ⟨rfl, hw⟩
    refine Or.inr ⟨1, 13, [some (.ref 0), some (.int a1), some (.ref 91), none], rfl, fun Z => rfl, ?_⟩
    refine wp_st (pc' := 14) (L' := [some (.ref 0), some (.int a1), some (.ref 91), none]) (st' := [.int 1]) (h' := Hp S4) 1 (fun Z => rfl) ?_
    exact wp_ret (fun Z => rfl) ⟨_, _, rfl, rfl, hw⟩
set_option maxRecDepth 4000 in
theorem w_law_count {E : zX} {d : Nat} {S : St} {a1 : Int32} {Q : Int32 → St → Prop} (hd : 1 ≤ d) 
    (hw : k_x_count E (d - 1) S a1 (fun x1 S2 =>
    ∀ S3, S3 = upA S2 91 (Int32.toInt64 x1) →
      Q (0 : Int32) S3)
    (fun x S4 =>
    (x = 0 ∧
    Q (1 : Int32) S4))) :
    k_law_count E d S a1 Q := by
  obtain ⟨d, rfl⟩ := Nat.exists_eq_add_of_le' hd
  show wp E (d + 1) m_law_count 0 [some (.ref 0), some (.int a1), some (.ref 91), none] [] (Hp S) (QI Q)
  refine wp_st (pc' := 4) (L' := [some (.ref 0), some (.int a1), some (.ref 91), none]) (st' := [.int a1, .ref 0, .int 0, .ref 91]) (h' := Hp S) 4 (fun Z => rfl) ?_
  refine wp_callH (pc' := 7) (rest := [.int 0, .ref 91]) (fun Z => rfl) (isO_of sh0) hw ?_
  rintro o h1 (⟨x1, S2, rfl, rfl, hw⟩ | ⟨x, S4, rfl, rfl, hw⟩)
  · refine Or.inl ⟨_, rfl, ?_⟩
    show wp E (d + 1) m_law_count 7 [some (.ref 0), some (.int a1), some (.ref 91), none] [.int x1, .int 0, .ref 91] (Hp S2) (QI Q)
    refine wp_st (pc' := 8) (L' := [some (.ref 0), some (.int a1), some (.ref 91), none]) (st' := [.long (Int32.toInt64 x1), .int 0, .ref 91]) (h' := Hp S2) 1 (fun Z => rfl) ?_
    have hw := hw _ rfl
    refine wp_st (pc' := 9) (L' := [some (.ref 0), some (.int a1), some (.ref 91), none]) (st' := []) (h' := Hp (upA S2 91 (Int32.toInt64 x1))) 1 (fun Z => stJ0 sh91 _) ?_
    generalize upA S2 91 (Int32.toInt64 x1) = S3 at hw ⊢
    refine wp_st (pc' := 16) (L' := [some (.ref 0), some (.int a1), some (.ref 91), none]) (st' := [.int 0]) (h' := Hp S3) 2 (fun Z => rfl) ?_
    exact wp_ret (fun Z => rfl) ⟨_, _, rfl, rfl, hw⟩
  · rcases hw with ⟨rfl, hw⟩
    refine Or.inr ⟨0, 13, [some (.ref 0), some (.int a1), some (.ref 91), none], rfl, fun Z => rfl, ?_⟩
    refine wp_st (pc' := 14) (L' := [some (.ref 0), some (.int a1), some (.ref 91), none]) (st' := [.int 1]) (h' := Hp S4) 1 (fun Z => rfl) ?_
    exact wp_ret (fun Z => rfl) ⟨_, _, rfl, rfl, hw⟩
set_option maxRecDepth 4000 in
theorem w_law_person {E : zX} {d : Nat} {S : St} {a1 : Int32} {a2 : Int32} {Q : Int32 → St → Prop} (hd : 1 ≤ d) 
    (hw : k_x_person E (d - 1) S a1 a2 (fun x1 S2 =>
    ∀ S3, S3 = upA S2 91 (Int32.toInt64 x1) →
      Q (0 : Int32) S3)
    (fun x S4 =>
    (x = 0 ∧
    Q (1 : Int32) S4))) :
    k_law_person E d S a1 a2 Q := by
  obtain ⟨d, rfl⟩ := Nat.exists_eq_add_of_le' hd
  show wp E (d + 1) m_law_person 0 [some (.ref 0), some (.int a1), some (.int a2), some (.ref 91), none] [] (Hp S) (QI Q)
  refine wp_st (pc' := 5) (L' := [some (.ref 0), some (.int a1), some (.int a2), some (.ref 91), none]) (st' := [.int a2, .int a1, .ref 0, .int 0, .ref 91]) (h' := Hp S) 5 (fun Z => rfl) ?_
  refine wp_callH (pc' := 8) (rest := [.int 0, .ref 91]) (fun Z => rfl) (isO_of sh0) hw ?_
  rintro o h1 (⟨x1, S2, rfl, rfl, hw⟩ | ⟨x, S4, rfl, rfl, hw⟩)
  · refine Or.inl ⟨_, rfl, ?_⟩
    show wp E (d + 1) m_law_person 8 [some (.ref 0), some (.int a1), some (.int a2), some (.ref 91), none] [.int x1, .int 0, .ref 91] (Hp S2) (QI Q)
    refine wp_st (pc' := 9) (L' := [some (.ref 0), some (.int a1), some (.int a2), some (.ref 91), none]) (st' := [.long (Int32.toInt64 x1), .int 0, .ref 91]) (h' := Hp S2) 1 (fun Z => rfl) ?_
    have hw := hw _ rfl
    refine wp_st (pc' := 10) (L' := [some (.ref 0), some (.int a1), some (.int a2), some (.ref 91), none]) (st' := []) (h' := Hp (upA S2 91 (Int32.toInt64 x1))) 1 (fun Z => stJ0 sh91 _) ?_
    generalize upA S2 91 (Int32.toInt64 x1) = S3 at hw ⊢
    refine wp_st (pc' := 18) (L' := [some (.ref 0), some (.int a1), some (.int a2), some (.ref 91), none]) (st' := [.int 0]) (h' := Hp S3) 2 (fun Z => rfl) ?_
    exact wp_ret (fun Z => rfl) ⟨_, _, rfl, rfl, hw⟩
  · rcases hw with ⟨rfl, hw⟩
    refine Or.inr ⟨0, 15, [some (.ref 0), some (.int a1), some (.int a2), some (.ref 91), none], rfl, fun Z => rfl, ?_⟩
    refine wp_st (pc' := 16) (L' := [some (.ref 0), some (.int a1), some (.int a2), some (.ref 91), none]) (st' := [.int 1]) (h' := Hp S4) 1 (fun Z => rfl) ?_
    exact wp_ret (fun Z => rfl) ⟨_, _, rfl, rfl, hw⟩
set_option maxRecDepth 4000 in
theorem w_law_ball {E : zX} {d : Nat} {S : St} {a1 : Int32} {a2 : Int32} {Q : Int32 → St → Prop} (hd : 1 ≤ d) 
    (hw : k_x_ball E (d - 1) S a1 a2 (fun x1 S2 =>
    ∀ S3, S3 = upA S2 91 (Int32.toInt64 x1) →
      Q (0 : Int32) S3)
    (fun x S4 =>
    (x = 0 ∧
    Q (1 : Int32) S4))) :
    k_law_ball E d S a1 a2 Q := by
  obtain ⟨d, rfl⟩ := Nat.exists_eq_add_of_le' hd
  show wp E (d + 1) m_law_ball 0 [some (.ref 0), some (.int a1), some (.int a2), some (.ref 91), none] [] (Hp S) (QI Q)
  refine wp_st (pc' := 5) (L' := [some (.ref 0), some (.int a1), some (.int a2), some (.ref 91), none]) (st' := [.int a2, .int a1, .ref 0, .int 0, .ref 91]) (h' := Hp S) 5 (fun Z => rfl) ?_
  refine wp_callH (pc' := 8) (rest := [.int 0, .ref 91]) (fun Z => rfl) (isO_of sh0) hw ?_
  rintro o h1 (⟨x1, S2, rfl, rfl, hw⟩ | ⟨x, S4, rfl, rfl, hw⟩)
  · refine Or.inl ⟨_, rfl, ?_⟩
    show wp E (d + 1) m_law_ball 8 [some (.ref 0), some (.int a1), some (.int a2), some (.ref 91), none] [.int x1, .int 0, .ref 91] (Hp S2) (QI Q)
    refine wp_st (pc' := 9) (L' := [some (.ref 0), some (.int a1), some (.int a2), some (.ref 91), none]) (st' := [.long (Int32.toInt64 x1), .int 0, .ref 91]) (h' := Hp S2) 1 (fun Z => rfl) ?_
    have hw := hw _ rfl
    refine wp_st (pc' := 10) (L' := [some (.ref 0), some (.int a1), some (.int a2), some (.ref 91), none]) (st' := []) (h' := Hp (upA S2 91 (Int32.toInt64 x1))) 1 (fun Z => stJ0 sh91 _) ?_
    generalize upA S2 91 (Int32.toInt64 x1) = S3 at hw ⊢
    refine wp_st (pc' := 18) (L' := [some (.ref 0), some (.int a1), some (.int a2), some (.ref 91), none]) (st' := [.int 0]) (h' := Hp S3) 2 (fun Z => rfl) ?_
    exact wp_ret (fun Z => rfl) ⟨_, _, rfl, rfl, hw⟩
  · rcases hw with ⟨rfl, hw⟩
    refine Or.inr ⟨0, 15, [some (.ref 0), some (.int a1), some (.int a2), some (.ref 91), none], rfl, fun Z => rfl, ?_⟩
    refine wp_st (pc' := 16) (L' := [some (.ref 0), some (.int a1), some (.int a2), some (.ref 91), none]) (st' := [.int 1]) (h' := Hp S4) 1 (fun Z => rfl) ?_
    exact wp_ret (fun Z => rfl) ⟨_, _, rfl, rfl, hw⟩
set_option maxRecDepth 4000 in
theorem w_law_tread {E : zX} {d : Nat} {S : St} {a1 : Int32} {Q : Int32 → St → Prop} (hd : 1 ≤ d) 
    (hw : k_x_tread E (d - 1) S a1 (fun x1 S2 =>
    ∀ S3, S3 = upA S2 91 (Int32.toInt64 x1) →
      Q (0 : Int32) S3)
    (fun x S4 =>
    (x = 0 ∧
    Q (1 : Int32) S4))) :
    k_law_tread E d S a1 Q := by
  obtain ⟨d, rfl⟩ := Nat.exists_eq_add_of_le' hd
  show wp E (d + 1) m_law_tread 0 [some (.ref 0), some (.int a1), some (.ref 91), none] [] (Hp S) (QI Q)
  refine wp_st (pc' := 4) (L' := [some (.ref 0), some (.int a1), some (.ref 91), none]) (st' := [.int a1, .ref 0, .int 0, .ref 91]) (h' := Hp S) 4 (fun Z => rfl) ?_
  refine wp_callH (pc' := 7) (rest := [.int 0, .ref 91]) (fun Z => rfl) (isO_of sh0) hw ?_
  rintro o h1 (⟨x1, S2, rfl, rfl, hw⟩ | ⟨x, S4, rfl, rfl, hw⟩)
  · refine Or.inl ⟨_, rfl, ?_⟩
    show wp E (d + 1) m_law_tread 7 [some (.ref 0), some (.int a1), some (.ref 91), none] [.int x1, .int 0, .ref 91] (Hp S2) (QI Q)
    refine wp_st (pc' := 8) (L' := [some (.ref 0), some (.int a1), some (.ref 91), none]) (st' := [.long (Int32.toInt64 x1), .int 0, .ref 91]) (h' := Hp S2) 1 (fun Z => rfl) ?_
    have hw := hw _ rfl
    refine wp_st (pc' := 9) (L' := [some (.ref 0), some (.int a1), some (.ref 91), none]) (st' := []) (h' := Hp (upA S2 91 (Int32.toInt64 x1))) 1 (fun Z => stJ0 sh91 _) ?_
    generalize upA S2 91 (Int32.toInt64 x1) = S3 at hw ⊢
    refine wp_st (pc' := 16) (L' := [some (.ref 0), some (.int a1), some (.ref 91), none]) (st' := [.int 0]) (h' := Hp S3) 2 (fun Z => rfl) ?_
    exact wp_ret (fun Z => rfl) ⟨_, _, rfl, rfl, hw⟩
  · rcases hw with ⟨rfl, hw⟩
    refine Or.inr ⟨0, 13, [some (.ref 0), some (.int a1), some (.ref 91), none], rfl, fun Z => rfl, ?_⟩
    refine wp_st (pc' := 14) (L' := [some (.ref 0), some (.int a1), some (.ref 91), none]) (st' := [.int 1]) (h' := Hp S4) 1 (fun Z => rfl) ?_
    exact wp_ret (fun Z => rfl) ⟨_, _, rfl, rfl, hw⟩
set_option maxRecDepth 4000 in
theorem w_law_carry {E : zX} {d : Nat} {S : St} {a1 : Int32} {a2 : Int32} {Q : Int32 → St → Prop} (hd : 1 ≤ d) 
    (hw : k_x_carry E (d - 1) S a1 a2 (fun x1 S2 =>
    ∀ S3, S3 = upA S2 91 (Int32.toInt64 x1) →
      Q (0 : Int32) S3)
    (fun x S4 =>
    (x = 0 ∧
    Q (1 : Int32) S4))) :
    k_law_carry E d S a1 a2 Q := by
  obtain ⟨d, rfl⟩ := Nat.exists_eq_add_of_le' hd
  show wp E (d + 1) m_law_carry 0 [some (.ref 0), some (.int a1), some (.int a2), some (.ref 91), none] [] (Hp S) (QI Q)
  refine wp_st (pc' := 5) (L' := [some (.ref 0), some (.int a1), some (.int a2), some (.ref 91), none]) (st' := [.int a2, .int a1, .ref 0, .int 0, .ref 91]) (h' := Hp S) 5 (fun Z => rfl) ?_
  refine wp_callH (pc' := 8) (rest := [.int 0, .ref 91]) (fun Z => rfl) (isO_of sh0) hw ?_
  rintro o h1 (⟨x1, S2, rfl, rfl, hw⟩ | ⟨x, S4, rfl, rfl, hw⟩)
  · refine Or.inl ⟨_, rfl, ?_⟩
    show wp E (d + 1) m_law_carry 8 [some (.ref 0), some (.int a1), some (.int a2), some (.ref 91), none] [.int x1, .int 0, .ref 91] (Hp S2) (QI Q)
    refine wp_st (pc' := 9) (L' := [some (.ref 0), some (.int a1), some (.int a2), some (.ref 91), none]) (st' := [.long (Int32.toInt64 x1), .int 0, .ref 91]) (h' := Hp S2) 1 (fun Z => rfl) ?_
    have hw := hw _ rfl
    refine wp_st (pc' := 10) (L' := [some (.ref 0), some (.int a1), some (.int a2), some (.ref 91), none]) (st' := []) (h' := Hp (upA S2 91 (Int32.toInt64 x1))) 1 (fun Z => stJ0 sh91 _) ?_
    generalize upA S2 91 (Int32.toInt64 x1) = S3 at hw ⊢
    refine wp_st (pc' := 18) (L' := [some (.ref 0), some (.int a1), some (.int a2), some (.ref 91), none]) (st' := [.int 0]) (h' := Hp S3) 2 (fun Z => rfl) ?_
    exact wp_ret (fun Z => rfl) ⟨_, _, rfl, rfl, hw⟩
  · rcases hw with ⟨rfl, hw⟩
    refine Or.inr ⟨0, 15, [some (.ref 0), some (.int a1), some (.int a2), some (.ref 91), none], rfl, fun Z => rfl, ?_⟩
    refine wp_st (pc' := 16) (L' := [some (.ref 0), some (.int a1), some (.int a2), some (.ref 91), none]) (st' := [.int 1]) (h' := Hp S4) 1 (fun Z => rfl) ?_
    exact wp_ret (fun Z => rfl) ⟨_, _, rfl, rfl, hw⟩
set_option maxRecDepth 4000 in
theorem w_law_guard {E : zX} {d : Nat} {S : St} {a1 : Int32} {a2 : Int32} {Q : Int32 → St → Prop} (hd : 1 ≤ d) 
    (hw : k_x_guard E (d - 1) S a1 a2 (fun x1 S2 =>
    if x1 = 0 then (
        ∀ S3, S3 = upA S2 91 0 →
        Q (0 : Int32) S3)
      else (
        ∀ S4, S4 = upA S2 91 1 →
        Q (0 : Int32) S4))
    (fun x S5 =>
    (x = 0 ∧
    Q (1 : Int32) S5))) :
    k_law_guard E d S a1 a2 Q := by
  obtain ⟨d, rfl⟩ := Nat.exists_eq_add_of_le' hd
  show wp E (d + 1) m_law_guard 0 [some (.ref 0), some (.int a1), some (.int a2), some (.ref 91), none] [] (Hp S) (QI Q)
  refine wp_st (pc' := 5) (L' := [some (.ref 0), some (.int a1), some (.int a2), some (.ref 91), none]) (st' := [.int a2, .int a1, .ref 0, .int 0, .ref 91]) (h' := Hp S) 5 (fun Z => rfl) ?_
  refine wp_callH (pc' := 8) (rest := [.int 0, .ref 91]) (fun Z => rfl) (isO_of sh0) hw ?_
  rintro o h1 (⟨x1, S2, rfl, rfl, hw⟩ | ⟨x, S5, rfl, rfl, hw⟩)
  · refine Or.inl ⟨_, rfl, ?_⟩
    show wp E (d + 1) m_law_guard 8 [some (.ref 0), some (.int a1), some (.int a2), some (.ref 91), none] [.int x1, .int 0, .ref 91] (Hp S2) (QI Q)
    by_cases hc : x1 = 0
    · rw [if_pos hc] at hw
      refine wp_st (pc' := 15) (L' := [some (.ref 0), some (.int a1), some (.int a2), some (.ref 91), none]) (st' := [.int 0, .ref 91]) (h' := Hp S2) 1 (fun Z => if_pos hc) ?_
      refine wp_st (pc' := 16) (L' := [some (.ref 0), some (.int a1), some (.int a2), some (.ref 91), none]) (st' := [.long 0, .int 0, .ref 91]) (h' := Hp S2) 1 (fun Z => rfl) ?_
      have hw := hw _ rfl
      refine wp_st (pc' := 17) (L' := [some (.ref 0), some (.int a1), some (.int a2), some (.ref 91), none]) (st' := []) (h' := Hp (upA S2 91 0)) 1 (fun Z => stJ0 sh91 _) ?_
      generalize upA S2 91 0 = S3 at hw ⊢
      refine wp_st (pc' := 25) (L' := [some (.ref 0), some (.int a1), some (.int a2), some (.ref 91), none]) (st' := [.int 0]) (h' := Hp S3) 2 (fun Z => rfl) ?_
      exact wp_ret (fun Z => rfl) ⟨_, _, rfl, rfl, hw⟩
    · rw [if_neg hc] at hw
      refine wp_st (pc' := 11) (L' := [some (.ref 0), some (.int a1), some (.int a2), some (.ref 91), none]) (st' := [.int 0, .ref 91]) (h' := Hp S2) 1 (fun Z => if_neg hc) ?_
      refine wp_st (pc' := 16) (L' := [some (.ref 0), some (.int a1), some (.int a2), some (.ref 91), none]) (st' := [.long 1, .int 0, .ref 91]) (h' := Hp S2) 2 (fun Z => rfl) ?_
      have hw := hw _ rfl
      refine wp_st (pc' := 17) (L' := [some (.ref 0), some (.int a1), some (.int a2), some (.ref 91), none]) (st' := []) (h' := Hp (upA S2 91 1)) 1 (fun Z => stJ0 sh91 _) ?_
      generalize upA S2 91 1 = S4 at hw ⊢
      refine wp_st (pc' := 25) (L' := [some (.ref 0), some (.int a1), some (.int a2), some (.ref 91), none]) (st' := [.int 0]) (h' := Hp S4) 2 (fun Z => rfl) ?_
      exact wp_ret (fun Z => rfl) ⟨_, _, rfl, rfl, hw⟩
  · rcases hw with ⟨rfl, hw⟩
    refine Or.inr ⟨0, 22, [some (.ref 0), some (.int a1), some (.int a2), some (.ref 91), none], rfl, fun Z => rfl, ?_⟩
    refine wp_st (pc' := 23) (L' := [some (.ref 0), some (.int a1), some (.int a2), some (.ref 91), none]) (st' := [.int 1]) (h' := Hp S5) 1 (fun Z => rfl) ?_
    exact wp_ret (fun Z => rfl) ⟨_, _, rfl, rfl, hw⟩
set_option maxRecDepth 4000 in
theorem w_law_soothe {E : zX} {d : Nat} {S : St} {a1 : Int32} {a2 : Int32} {Q : Int32 → St → Prop} (hd : 1 ≤ d) 
    (hw : k_x_soothe E (d - 1) S a1 a2 (fun x1 S2 =>
    ∀ S3, S3 = upA S2 91 (Int32.toInt64 x1) →
      Q (0 : Int32) S3)
    (fun x S4 =>
    (x = 0 ∧
    Q (1 : Int32) S4))) :
    k_law_soothe E d S a1 a2 Q := by
  obtain ⟨d, rfl⟩ := Nat.exists_eq_add_of_le' hd
  show wp E (d + 1) m_law_soothe 0 [some (.ref 0), some (.int a1), some (.int a2), some (.ref 91), none] [] (Hp S) (QI Q)
  refine wp_st (pc' := 5) (L' := [some (.ref 0), some (.int a1), some (.int a2), some (.ref 91), none]) (st' := [.int a2, .int a1, .ref 0, .int 0, .ref 91]) (h' := Hp S) 5 (fun Z => rfl) ?_
  refine wp_callH (pc' := 8) (rest := [.int 0, .ref 91]) (fun Z => rfl) (isO_of sh0) hw ?_
  rintro o h1 (⟨x1, S2, rfl, rfl, hw⟩ | ⟨x, S4, rfl, rfl, hw⟩)
  · refine Or.inl ⟨_, rfl, ?_⟩
    show wp E (d + 1) m_law_soothe 8 [some (.ref 0), some (.int a1), some (.int a2), some (.ref 91), none] [.int x1, .int 0, .ref 91] (Hp S2) (QI Q)
    refine wp_st (pc' := 9) (L' := [some (.ref 0), some (.int a1), some (.int a2), some (.ref 91), none]) (st' := [.long (Int32.toInt64 x1), .int 0, .ref 91]) (h' := Hp S2) 1 (fun Z => rfl) ?_
    have hw := hw _ rfl
    refine wp_st (pc' := 10) (L' := [some (.ref 0), some (.int a1), some (.int a2), some (.ref 91), none]) (st' := []) (h' := Hp (upA S2 91 (Int32.toInt64 x1))) 1 (fun Z => stJ0 sh91 _) ?_
    generalize upA S2 91 (Int32.toInt64 x1) = S3 at hw ⊢
    refine wp_st (pc' := 18) (L' := [some (.ref 0), some (.int a1), some (.int a2), some (.ref 91), none]) (st' := [.int 0]) (h' := Hp S3) 2 (fun Z => rfl) ?_
    exact wp_ret (fun Z => rfl) ⟨_, _, rfl, rfl, hw⟩
  · rcases hw with ⟨rfl, hw⟩
    refine Or.inr ⟨0, 15, [some (.ref 0), some (.int a1), some (.int a2), some (.ref 91), none], rfl, fun Z => rfl, ?_⟩
    refine wp_st (pc' := 16) (L' := [some (.ref 0), some (.int a1), some (.int a2), some (.ref 91), none]) (st' := [.int 1]) (h' := Hp S4) 1 (fun Z => rfl) ?_
    exact wp_ret (fun Z => rfl) ⟨_, _, rfl, rfl, hw⟩
set_option maxRecDepth 4000 in
theorem w_law_then {E : zX} {d : Nat} {S : St} {a1 : Int32} {a2 : Int32} {a3 : Int32} {Q : Int32 → St → Prop} (hd : 1 ≤ d) 
    (hw : k_x_then E (d - 1) S a1 a2 a3 (fun x1 S2 =>
    ∀ S3, S3 = upA S2 91 (Int32.toInt64 x1) →
      Q (0 : Int32) S3)
    (fun x S4 =>
    (x = 0 ∧
    Q (1 : Int32) S4) ∨ (x = 1 ∧
    Q (2 : Int32) S4))) :
    k_law_then E d S a1 a2 a3 Q := by
  obtain ⟨d, rfl⟩ := Nat.exists_eq_add_of_le' hd
  show wp E (d + 1) m_law_then 0 [some (.ref 0), some (.int a1), some (.int a2), some (.int a3), some (.ref 91), none] [] (Hp S) (QI Q)
  refine wp_st (pc' := 7) (L' := [some (.ref 0), some (.int a1), some (.int a2), some (.int a3), some (.ref 91), none]) (st' := [.int a3, .int a2, .int a1, .ref 0, .int 0, .ref 91]) (h' := Hp S) 6 (fun Z => rfl) ?_
  refine wp_callH (pc' := 10) (rest := [.int 0, .ref 91]) (fun Z => rfl) (isO_of sh0) hw ?_
  rintro o h1 (⟨x1, S2, rfl, rfl, hw⟩ | ⟨x, S4, rfl, rfl, hw⟩)
  · refine Or.inl ⟨_, rfl, ?_⟩
    show wp E (d + 1) m_law_then 10 [some (.ref 0), some (.int a1), some (.int a2), some (.int a3), some (.ref 91), none] [.int x1, .int 0, .ref 91] (Hp S2) (QI Q)
    refine wp_st (pc' := 11) (L' := [some (.ref 0), some (.int a1), some (.int a2), some (.int a3), some (.ref 91), none]) (st' := [.long (Int32.toInt64 x1), .int 0, .ref 91]) (h' := Hp S2) 1 (fun Z => rfl) ?_
    have hw := hw _ rfl
    refine wp_st (pc' := 12) (L' := [some (.ref 0), some (.int a1), some (.int a2), some (.int a3), some (.ref 91), none]) (st' := []) (h' := Hp (upA S2 91 (Int32.toInt64 x1))) 1 (fun Z => stJ0 sh91 _) ?_
    generalize upA S2 91 (Int32.toInt64 x1) = S3 at hw ⊢
    refine wp_st (pc' := 24) (L' := [some (.ref 0), some (.int a1), some (.int a2), some (.int a3), some (.ref 91), none]) (st' := [.int 0]) (h' := Hp S3) 2 (fun Z => rfl) ?_
    exact wp_ret (fun Z => rfl) ⟨_, _, rfl, rfl, hw⟩
  · rcases hw with ⟨rfl, hw⟩ | ⟨rfl, hw⟩
    · refine Or.inr ⟨0, 17, [some (.ref 0), some (.int a1), some (.int a2), some (.int a3), some (.ref 91), none], rfl, fun Z => rfl, ?_⟩
      refine wp_st (pc' := 18) (L' := [some (.ref 0), some (.int a1), some (.int a2), some (.int a3), some (.ref 91), none]) (st' := [.int 1]) (h' := Hp S4) 1 (fun Z => rfl) ?_
      exact wp_ret (fun Z => rfl) ⟨_, _, rfl, rfl, hw⟩
    · refine Or.inr ⟨1, 21, [some (.ref 0), some (.int a1), some (.int a2), some (.int a3), some (.ref 91), none], rfl, fun Z => rfl, ?_⟩
      refine wp_st (pc' := 22) (L' := [some (.ref 0), some (.int a1), some (.int a2), some (.int a3), some (.ref 91), none]) (st' := [.int 2]) (h' := Hp S4) 1 (fun Z => rfl) ?_
      exact wp_ret (fun Z => rfl) ⟨_, _, rfl, rfl, hw⟩
set_option maxRecDepth 4000 in
theorem w_law_mood {E : zX} {d : Nat} {S : St} {a1 : Int32} {a2 : Int32} {a3 : Int32} {Q : Int32 → St → Prop} (hd : 1 ≤ d) 
    (hw : k_x_mood E (d - 1) S a1 a2 a3 (fun x1 S2 =>
    ∀ S3, S3 = upA S2 91 (Int32.toInt64 x1) →
      Q (0 : Int32) S3)
    (fun x S4 =>
    (x = 0 ∧
    Q (1 : Int32) S4) ∨ (x = 1 ∧
    Q (2 : Int32) S4))) :
    k_law_mood E d S a1 a2 a3 Q := by
  obtain ⟨d, rfl⟩ := Nat.exists_eq_add_of_le' hd
  show wp E (d + 1) m_law_mood 0 [some (.ref 0), some (.int a1), some (.int a2), some (.int a3), some (.ref 91), none] [] (Hp S) (QI Q)
  refine wp_st (pc' := 7) (L' := [some (.ref 0), some (.int a1), some (.int a2), some (.int a3), some (.ref 91), none]) (st' := [.int a3, .int a2, .int a1, .ref 0, .int 0, .ref 91]) (h' := Hp S) 6 (fun Z => rfl) ?_
  refine wp_callH (pc' := 10) (rest := [.int 0, .ref 91]) (fun Z => rfl) (isO_of sh0) hw ?_
  rintro o h1 (⟨x1, S2, rfl, rfl, hw⟩ | ⟨x, S4, rfl, rfl, hw⟩)
  · refine Or.inl ⟨_, rfl, ?_⟩
    show wp E (d + 1) m_law_mood 10 [some (.ref 0), some (.int a1), some (.int a2), some (.int a3), some (.ref 91), none] [.int x1, .int 0, .ref 91] (Hp S2) (QI Q)
    refine wp_st (pc' := 11) (L' := [some (.ref 0), some (.int a1), some (.int a2), some (.int a3), some (.ref 91), none]) (st' := [.long (Int32.toInt64 x1), .int 0, .ref 91]) (h' := Hp S2) 1 (fun Z => rfl) ?_
    have hw := hw _ rfl
    refine wp_st (pc' := 12) (L' := [some (.ref 0), some (.int a1), some (.int a2), some (.int a3), some (.ref 91), none]) (st' := []) (h' := Hp (upA S2 91 (Int32.toInt64 x1))) 1 (fun Z => stJ0 sh91 _) ?_
    generalize upA S2 91 (Int32.toInt64 x1) = S3 at hw ⊢
    refine wp_st (pc' := 24) (L' := [some (.ref 0), some (.int a1), some (.int a2), some (.int a3), some (.ref 91), none]) (st' := [.int 0]) (h' := Hp S3) 2 (fun Z => rfl) ?_
    exact wp_ret (fun Z => rfl) ⟨_, _, rfl, rfl, hw⟩
  · rcases hw with ⟨rfl, hw⟩ | ⟨rfl, hw⟩
    · refine Or.inr ⟨0, 17, [some (.ref 0), some (.int a1), some (.int a2), some (.int a3), some (.ref 91), none], rfl, fun Z => rfl, ?_⟩
      refine wp_st (pc' := 18) (L' := [some (.ref 0), some (.int a1), some (.int a2), some (.int a3), some (.ref 91), none]) (st' := [.int 1]) (h' := Hp S4) 1 (fun Z => rfl) ?_
      exact wp_ret (fun Z => rfl) ⟨_, _, rfl, rfl, hw⟩
    · refine Or.inr ⟨1, 21, [some (.ref 0), some (.int a1), some (.int a2), some (.int a3), some (.ref 91), none], rfl, fun Z => rfl, ?_⟩
      refine wp_st (pc' := 22) (L' := [some (.ref 0), some (.int a1), some (.int a2), some (.int a3), some (.ref 91), none]) (st' := [.int 2]) (h' := Hp S4) 1 (fun Z => rfl) ?_
      exact wp_ret (fun Z => rfl) ⟨_, _, rfl, rfl, hw⟩
set_option maxRecDepth 4000 in
theorem w_law_off {E : zX} {d : Nat} {S : St} {a1 : Int32} {Q : Int32 → St → Prop} (hd : 1 ≤ d) 
    (hw : k_x_off E (d - 1) S a1 (fun x1 S2 =>
    ∀ S3, S3 = upA S2 91 (Int32.toInt64 x1) →
      Q (0 : Int32) S3)
    (fun x S4 =>
    (x = 0 ∧
    Q (1 : Int32) S4))) :
    k_law_off E d S a1 Q := by
  obtain ⟨d, rfl⟩ := Nat.exists_eq_add_of_le' hd
  show wp E (d + 1) m_law_off 0 [some (.ref 0), some (.int a1), some (.ref 91), none] [] (Hp S) (QI Q)
  refine wp_st (pc' := 4) (L' := [some (.ref 0), some (.int a1), some (.ref 91), none]) (st' := [.int a1, .ref 0, .int 0, .ref 91]) (h' := Hp S) 4 (fun Z => rfl) ?_
  refine wp_callH (pc' := 7) (rest := [.int 0, .ref 91]) (fun Z => rfl) (isO_of sh0) hw ?_
  rintro o h1 (⟨x1, S2, rfl, rfl, hw⟩ | ⟨x, S4, rfl, rfl, hw⟩)
  · refine Or.inl ⟨_, rfl, ?_⟩
    show wp E (d + 1) m_law_off 7 [some (.ref 0), some (.int a1), some (.ref 91), none] [.int x1, .int 0, .ref 91] (Hp S2) (QI Q)
    refine wp_st (pc' := 8) (L' := [some (.ref 0), some (.int a1), some (.ref 91), none]) (st' := [.long (Int32.toInt64 x1), .int 0, .ref 91]) (h' := Hp S2) 1 (fun Z => rfl) ?_
    have hw := hw _ rfl
    refine wp_st (pc' := 9) (L' := [some (.ref 0), some (.int a1), some (.ref 91), none]) (st' := []) (h' := Hp (upA S2 91 (Int32.toInt64 x1))) 1 (fun Z => stJ0 sh91 _) ?_
    generalize upA S2 91 (Int32.toInt64 x1) = S3 at hw ⊢
    refine wp_st (pc' := 16) (L' := [some (.ref 0), some (.int a1), some (.ref 91), none]) (st' := [.int 0]) (h' := Hp S3) 2 (fun Z => rfl) ?_
    exact wp_ret (fun Z => rfl) ⟨_, _, rfl, rfl, hw⟩
  · rcases hw with ⟨rfl, hw⟩
    refine Or.inr ⟨0, 13, [some (.ref 0), some (.int a1), some (.ref 91), none], rfl, fun Z => rfl, ?_⟩
    refine wp_st (pc' := 14) (L' := [some (.ref 0), some (.int a1), some (.ref 91), none]) (st' := [.int 1]) (h' := Hp S4) 1 (fun Z => rfl) ?_
    exact wp_ret (fun Z => rfl) ⟨_, _, rfl, rfl, hw⟩
set_option maxRecDepth 4000 in
theorem w_law_later {E : zX} {d : Nat} {S : St} {a1 : Int32} {a2 : Int32} {Q : Int32 → St → Prop} (hd : 1 ≤ d) 
    (hw : k_x_later E (d - 1) S a1 a2 (fun x1 S2 =>
    ∀ S3, S3 = upA S2 91 (Int32.toInt64 x1) →
      Q (0 : Int32) S3)
    (fun x S4 =>
    (x = 0 ∧
    Q (1 : Int32) S4) ∨ (x = 1 ∧
    Q (2 : Int32) S4))) :
    k_law_later E d S a1 a2 Q := by
  obtain ⟨d, rfl⟩ := Nat.exists_eq_add_of_le' hd
  show wp E (d + 1) m_law_later 0 [some (.ref 0), some (.int a1), some (.int a2), some (.ref 91), none] [] (Hp S) (QI Q)
  refine wp_st (pc' := 5) (L' := [some (.ref 0), some (.int a1), some (.int a2), some (.ref 91), none]) (st' := [.int a2, .int a1, .ref 0, .int 0, .ref 91]) (h' := Hp S) 5 (fun Z => rfl) ?_
  refine wp_callH (pc' := 8) (rest := [.int 0, .ref 91]) (fun Z => rfl) (isO_of sh0) hw ?_
  rintro o h1 (⟨x1, S2, rfl, rfl, hw⟩ | ⟨x, S4, rfl, rfl, hw⟩)
  · refine Or.inl ⟨_, rfl, ?_⟩
    show wp E (d + 1) m_law_later 8 [some (.ref 0), some (.int a1), some (.int a2), some (.ref 91), none] [.int x1, .int 0, .ref 91] (Hp S2) (QI Q)
    refine wp_st (pc' := 9) (L' := [some (.ref 0), some (.int a1), some (.int a2), some (.ref 91), none]) (st' := [.long (Int32.toInt64 x1), .int 0, .ref 91]) (h' := Hp S2) 1 (fun Z => rfl) ?_
    have hw := hw _ rfl
    refine wp_st (pc' := 10) (L' := [some (.ref 0), some (.int a1), some (.int a2), some (.ref 91), none]) (st' := []) (h' := Hp (upA S2 91 (Int32.toInt64 x1))) 1 (fun Z => stJ0 sh91 _) ?_
    generalize upA S2 91 (Int32.toInt64 x1) = S3 at hw ⊢
    refine wp_st (pc' := 22) (L' := [some (.ref 0), some (.int a1), some (.int a2), some (.ref 91), none]) (st' := [.int 0]) (h' := Hp S3) 2 (fun Z => rfl) ?_
    exact wp_ret (fun Z => rfl) ⟨_, _, rfl, rfl, hw⟩
  · rcases hw with ⟨rfl, hw⟩ | ⟨rfl, hw⟩
    · refine Or.inr ⟨0, 15, [some (.ref 0), some (.int a1), some (.int a2), some (.ref 91), none], rfl, fun Z => rfl, ?_⟩
      refine wp_st (pc' := 16) (L' := [some (.ref 0), some (.int a1), some (.int a2), some (.ref 91), none]) (st' := [.int 1]) (h' := Hp S4) 1 (fun Z => rfl) ?_
      exact wp_ret (fun Z => rfl) ⟨_, _, rfl, rfl, hw⟩
    · refine Or.inr ⟨1, 19, [some (.ref 0), some (.int a1), some (.int a2), some (.ref 91), none], rfl, fun Z => rfl, ?_⟩
      refine wp_st (pc' := 20) (L' := [some (.ref 0), some (.int a1), some (.int a2), some (.ref 91), none]) (st' := [.int 2]) (h' := Hp S4) 1 (fun Z => rfl) ?_
      exact wp_ret (fun Z => rfl) ⟨_, _, rfl, rfl, hw⟩
set_option maxRecDepth 4000 in
theorem w_law_toGuard {E : zX} {d : Nat} {S : St} {a1 : Int32} {a2 : Int32} {Q : Int32 → St → Prop} (hd : 1 ≤ d) 
    (hw : k_x_toGuard E (d - 1) S a1 a2 (fun x1 S2 =>
    ∀ S3, S3 = upA S2 91 (Int32.toInt64 x1) →
      Q (0 : Int32) S3)
    (fun x S4 =>
    (x = 0 ∧
    Q (1 : Int32) S4))) :
    k_law_toGuard E d S a1 a2 Q := by
  obtain ⟨d, rfl⟩ := Nat.exists_eq_add_of_le' hd
  show wp E (d + 1) m_law_toGuard 0 [some (.ref 0), some (.int a1), some (.int a2), some (.ref 91), none] [] (Hp S) (QI Q)
  refine wp_st (pc' := 5) (L' := [some (.ref 0), some (.int a1), some (.int a2), some (.ref 91), none]) (st' := [.int a2, .int a1, .ref 0, .int 0, .ref 91]) (h' := Hp S) 5 (fun Z => rfl) ?_
  refine wp_callH (pc' := 8) (rest := [.int 0, .ref 91]) (fun Z => rfl) (isO_of sh0) hw ?_
  rintro o h1 (⟨x1, S2, rfl, rfl, hw⟩ | ⟨x, S4, rfl, rfl, hw⟩)
  · refine Or.inl ⟨_, rfl, ?_⟩
    show wp E (d + 1) m_law_toGuard 8 [some (.ref 0), some (.int a1), some (.int a2), some (.ref 91), none] [.int x1, .int 0, .ref 91] (Hp S2) (QI Q)
    refine wp_st (pc' := 9) (L' := [some (.ref 0), some (.int a1), some (.int a2), some (.ref 91), none]) (st' := [.long (Int32.toInt64 x1), .int 0, .ref 91]) (h' := Hp S2) 1 (fun Z => rfl) ?_
    have hw := hw _ rfl
    refine wp_st (pc' := 10) (L' := [some (.ref 0), some (.int a1), some (.int a2), some (.ref 91), none]) (st' := []) (h' := Hp (upA S2 91 (Int32.toInt64 x1))) 1 (fun Z => stJ0 sh91 _) ?_
    generalize upA S2 91 (Int32.toInt64 x1) = S3 at hw ⊢
    refine wp_st (pc' := 18) (L' := [some (.ref 0), some (.int a1), some (.int a2), some (.ref 91), none]) (st' := [.int 0]) (h' := Hp S3) 2 (fun Z => rfl) ?_
    exact wp_ret (fun Z => rfl) ⟨_, _, rfl, rfl, hw⟩
  · rcases hw with ⟨rfl, hw⟩
    refine Or.inr ⟨0, 15, [some (.ref 0), some (.int a1), some (.int a2), some (.ref 91), none], rfl, fun Z => rfl, ?_⟩
    refine wp_st (pc' := 16) (L' := [some (.ref 0), some (.int a1), some (.int a2), some (.ref 91), none]) (st' := [.int 1]) (h' := Hp S4) 1 (fun Z => rfl) ?_
    exact wp_ret (fun Z => rfl) ⟨_, _, rfl, rfl, hw⟩
set_option maxRecDepth 4000 in
theorem w_law_fire {E : zX} {d : Nat} {S : St} {a1 : Int32} {a2 : Int32} {Q : Int32 → St → Prop} (hd : 1 ≤ d) 
    (hw : k_x_fire E (d - 1) S a1 a2 (fun x1 S2 =>
    ∀ S3, S3 = upA S2 91 (Int32.toInt64 x1) →
      Q (0 : Int32) S3)
    (fun x S4 =>
    (x = 0 ∧
    Q (1 : Int32) S4))) :
    k_law_fire E d S a1 a2 Q := by
  obtain ⟨d, rfl⟩ := Nat.exists_eq_add_of_le' hd
  show wp E (d + 1) m_law_fire 0 [some (.ref 0), some (.int a1), some (.int a2), some (.ref 91), none] [] (Hp S) (QI Q)
  refine wp_st (pc' := 5) (L' := [some (.ref 0), some (.int a1), some (.int a2), some (.ref 91), none]) (st' := [.int a2, .int a1, .ref 0, .int 0, .ref 91]) (h' := Hp S) 5 (fun Z => rfl) ?_
  refine wp_callH (pc' := 8) (rest := [.int 0, .ref 91]) (fun Z => rfl) (isO_of sh0) hw ?_
  rintro o h1 (⟨x1, S2, rfl, rfl, hw⟩ | ⟨x, S4, rfl, rfl, hw⟩)
  · refine Or.inl ⟨_, rfl, ?_⟩
    show wp E (d + 1) m_law_fire 8 [some (.ref 0), some (.int a1), some (.int a2), some (.ref 91), none] [.int x1, .int 0, .ref 91] (Hp S2) (QI Q)
    refine wp_st (pc' := 9) (L' := [some (.ref 0), some (.int a1), some (.int a2), some (.ref 91), none]) (st' := [.long (Int32.toInt64 x1), .int 0, .ref 91]) (h' := Hp S2) 1 (fun Z => rfl) ?_
    have hw := hw _ rfl
    refine wp_st (pc' := 10) (L' := [some (.ref 0), some (.int a1), some (.int a2), some (.ref 91), none]) (st' := []) (h' := Hp (upA S2 91 (Int32.toInt64 x1))) 1 (fun Z => stJ0 sh91 _) ?_
    generalize upA S2 91 (Int32.toInt64 x1) = S3 at hw ⊢
    refine wp_st (pc' := 18) (L' := [some (.ref 0), some (.int a1), some (.int a2), some (.ref 91), none]) (st' := [.int 0]) (h' := Hp S3) 2 (fun Z => rfl) ?_
    exact wp_ret (fun Z => rfl) ⟨_, _, rfl, rfl, hw⟩
  · rcases hw with ⟨rfl, hw⟩
    refine Or.inr ⟨0, 15, [some (.ref 0), some (.int a1), some (.int a2), some (.ref 91), none], rfl, fun Z => rfl, ?_⟩
    refine wp_st (pc' := 16) (L' := [some (.ref 0), some (.int a1), some (.int a2), some (.ref 91), none]) (st' := [.int 1]) (h' := Hp S4) 1 (fun Z => rfl) ?_
    exact wp_ret (fun Z => rfl) ⟨_, _, rfl, rfl, hw⟩
set_option maxRecDepth 4000 in
theorem w_law_pram {E : zX} {d : Nat} {S : St} {a1 : Int32} {a2 : Int32} {a3 : Int32} {Q : Int32 → St → Prop} (hd : 1 ≤ d) 
    (hw : k_x_pram E (d - 1) S a1 a2 a3 (fun x1 S2 =>
    ∀ S3, S3 = upA S2 91 (Int32.toInt64 x1) →
      Q (0 : Int32) S3)
    (fun x S4 =>
    (x = 0 ∧
    Q (1 : Int32) S4))) :
    k_law_pram E d S a1 a2 a3 Q := by
  obtain ⟨d, rfl⟩ := Nat.exists_eq_add_of_le' hd
  show wp E (d + 1) m_law_pram 0 [some (.ref 0), some (.int a1), some (.int a2), some (.int a3), some (.ref 91), none] [] (Hp S) (QI Q)
  refine wp_st (pc' := 7) (L' := [some (.ref 0), some (.int a1), some (.int a2), some (.int a3), some (.ref 91), none]) (st' := [.int a3, .int a2, .int a1, .ref 0, .int 0, .ref 91]) (h' := Hp S) 6 (fun Z => rfl) ?_
  refine wp_callH (pc' := 10) (rest := [.int 0, .ref 91]) (fun Z => rfl) (isO_of sh0) hw ?_
  rintro o h1 (⟨x1, S2, rfl, rfl, hw⟩ | ⟨x, S4, rfl, rfl, hw⟩)
  · refine Or.inl ⟨_, rfl, ?_⟩
    show wp E (d + 1) m_law_pram 10 [some (.ref 0), some (.int a1), some (.int a2), some (.int a3), some (.ref 91), none] [.int x1, .int 0, .ref 91] (Hp S2) (QI Q)
    refine wp_st (pc' := 11) (L' := [some (.ref 0), some (.int a1), some (.int a2), some (.int a3), some (.ref 91), none]) (st' := [.long (Int32.toInt64 x1), .int 0, .ref 91]) (h' := Hp S2) 1 (fun Z => rfl) ?_
    have hw := hw _ rfl
    refine wp_st (pc' := 12) (L' := [some (.ref 0), some (.int a1), some (.int a2), some (.int a3), some (.ref 91), none]) (st' := []) (h' := Hp (upA S2 91 (Int32.toInt64 x1))) 1 (fun Z => stJ0 sh91 _) ?_
    generalize upA S2 91 (Int32.toInt64 x1) = S3 at hw ⊢
    refine wp_st (pc' := 20) (L' := [some (.ref 0), some (.int a1), some (.int a2), some (.int a3), some (.ref 91), none]) (st' := [.int 0]) (h' := Hp S3) 2 (fun Z => rfl) ?_
    exact wp_ret (fun Z => rfl) ⟨_, _, rfl, rfl, hw⟩
  · rcases hw with ⟨rfl, hw⟩
    refine Or.inr ⟨0, 17, [some (.ref 0), some (.int a1), some (.int a2), some (.int a3), some (.ref 91), none], rfl, fun Z => rfl, ?_⟩
    refine wp_st (pc' := 18) (L' := [some (.ref 0), some (.int a1), some (.int a2), some (.int a3), some (.ref 91), none]) (st' := [.int 1]) (h' := Hp S4) 1 (fun Z => rfl) ?_
    exact wp_ret (fun Z => rfl) ⟨_, _, rfl, rfl, hw⟩
set_option maxRecDepth 4000 in
theorem w_law_putBy {E : zX} {d : Nat} {S : St} {a1 : Int32} {Q : Int32 → St → Prop} (hd : 1 ≤ d) 
    (hw : k_x_putBy E (d - 1) S a1 (fun x1 S2 =>
    ∀ S3, S3 = upA S2 91 (Int32.toInt64 x1) →
      Q (0 : Int32) S3)
    (fun x S4 =>
    (x = 0 ∧
    Q (1 : Int32) S4))) :
    k_law_putBy E d S a1 Q := by
  obtain ⟨d, rfl⟩ := Nat.exists_eq_add_of_le' hd
  show wp E (d + 1) m_law_putBy 0 [some (.ref 0), some (.int a1), some (.ref 91), none] [] (Hp S) (QI Q)
  refine wp_st (pc' := 4) (L' := [some (.ref 0), some (.int a1), some (.ref 91), none]) (st' := [.int a1, .ref 0, .int 0, .ref 91]) (h' := Hp S) 4 (fun Z => rfl) ?_
  refine wp_callH (pc' := 7) (rest := [.int 0, .ref 91]) (fun Z => rfl) (isO_of sh0) hw ?_
  rintro o h1 (⟨x1, S2, rfl, rfl, hw⟩ | ⟨x, S4, rfl, rfl, hw⟩)
  · refine Or.inl ⟨_, rfl, ?_⟩
    show wp E (d + 1) m_law_putBy 7 [some (.ref 0), some (.int a1), some (.ref 91), none] [.int x1, .int 0, .ref 91] (Hp S2) (QI Q)
    refine wp_st (pc' := 8) (L' := [some (.ref 0), some (.int a1), some (.ref 91), none]) (st' := [.long (Int32.toInt64 x1), .int 0, .ref 91]) (h' := Hp S2) 1 (fun Z => rfl) ?_
    have hw := hw _ rfl
    refine wp_st (pc' := 9) (L' := [some (.ref 0), some (.int a1), some (.ref 91), none]) (st' := []) (h' := Hp (upA S2 91 (Int32.toInt64 x1))) 1 (fun Z => stJ0 sh91 _) ?_
    generalize upA S2 91 (Int32.toInt64 x1) = S3 at hw ⊢
    refine wp_st (pc' := 16) (L' := [some (.ref 0), some (.int a1), some (.ref 91), none]) (st' := [.int 0]) (h' := Hp S3) 2 (fun Z => rfl) ?_
    exact wp_ret (fun Z => rfl) ⟨_, _, rfl, rfl, hw⟩
  · rcases hw with ⟨rfl, hw⟩
    refine Or.inr ⟨0, 13, [some (.ref 0), some (.int a1), some (.ref 91), none], rfl, fun Z => rfl, ?_⟩
    refine wp_st (pc' := 14) (L' := [some (.ref 0), some (.int a1), some (.ref 91), none]) (st' := [.int 1]) (h' := Hp S4) 1 (fun Z => rfl) ?_
    exact wp_ret (fun Z => rfl) ⟨_, _, rfl, rfl, hw⟩
set_option maxRecDepth 4000 in
theorem w_law_put {E : zX} {d : Nat} {S : St} {a1 : Int32} {Q : Int32 → St → Prop} (hd : 1 ≤ d) 
    (hw : k_x_put E (d - 1) S a1 (fun x1 S2 =>
    ∀ S3, S3 = upA S2 91 (Int32.toInt64 x1) →
      Q (0 : Int32) S3)
    (fun x S4 =>
    (x = 0 ∧
    Q (1 : Int32) S4))) :
    k_law_put E d S a1 Q := by
  obtain ⟨d, rfl⟩ := Nat.exists_eq_add_of_le' hd
  show wp E (d + 1) m_law_put 0 [some (.ref 0), some (.int a1), some (.ref 91), none] [] (Hp S) (QI Q)
  refine wp_st (pc' := 4) (L' := [some (.ref 0), some (.int a1), some (.ref 91), none]) (st' := [.int a1, .ref 0, .int 0, .ref 91]) (h' := Hp S) 4 (fun Z => rfl) ?_
  refine wp_callH (pc' := 7) (rest := [.int 0, .ref 91]) (fun Z => rfl) (isO_of sh0) hw ?_
  rintro o h1 (⟨x1, S2, rfl, rfl, hw⟩ | ⟨x, S4, rfl, rfl, hw⟩)
  · refine Or.inl ⟨_, rfl, ?_⟩
    show wp E (d + 1) m_law_put 7 [some (.ref 0), some (.int a1), some (.ref 91), none] [.int x1, .int 0, .ref 91] (Hp S2) (QI Q)
    refine wp_st (pc' := 8) (L' := [some (.ref 0), some (.int a1), some (.ref 91), none]) (st' := [.long (Int32.toInt64 x1), .int 0, .ref 91]) (h' := Hp S2) 1 (fun Z => rfl) ?_
    have hw := hw _ rfl
    refine wp_st (pc' := 9) (L' := [some (.ref 0), some (.int a1), some (.ref 91), none]) (st' := []) (h' := Hp (upA S2 91 (Int32.toInt64 x1))) 1 (fun Z => stJ0 sh91 _) ?_
    generalize upA S2 91 (Int32.toInt64 x1) = S3 at hw ⊢
    refine wp_st (pc' := 16) (L' := [some (.ref 0), some (.int a1), some (.ref 91), none]) (st' := [.int 0]) (h' := Hp S3) 2 (fun Z => rfl) ?_
    exact wp_ret (fun Z => rfl) ⟨_, _, rfl, rfl, hw⟩
  · rcases hw with ⟨rfl, hw⟩
    refine Or.inr ⟨0, 13, [some (.ref 0), some (.int a1), some (.ref 91), none], rfl, fun Z => rfl, ?_⟩
    refine wp_st (pc' := 14) (L' := [some (.ref 0), some (.int a1), some (.ref 91), none]) (st' := [.int 1]) (h' := Hp S4) 1 (fun Z => rfl) ?_
    exact wp_ret (fun Z => rfl) ⟨_, _, rfl, rfl, hw⟩
set_option maxRecDepth 4000 in
theorem w_law_see {E : zX} {d : Nat} {S : St} {a1 : Int32} {a2 : Int32} {a3 : Int32} {Q : Int32 → St → Prop} (hd : 1 ≤ d) 
    (hw : k_x_see E (d - 1) S a1 a2 a3 (fun x1 S2 =>
    ∀ S3, S3 = upA S2 91 (Int32.toInt64 x1) →
      Q (0 : Int32) S3)
    (fun x S4 =>
    (x = 0 ∧
    Q (1 : Int32) S4))) :
    k_law_see E d S a1 a2 a3 Q := by
  obtain ⟨d, rfl⟩ := Nat.exists_eq_add_of_le' hd
  show wp E (d + 1) m_law_see 0 [some (.ref 0), some (.int a1), some (.int a2), some (.int a3), some (.ref 91), none] [] (Hp S) (QI Q)
  refine wp_st (pc' := 7) (L' := [some (.ref 0), some (.int a1), some (.int a2), some (.int a3), some (.ref 91), none]) (st' := [.int a3, .int a2, .int a1, .ref 0, .int 0, .ref 91]) (h' := Hp S) 6 (fun Z => rfl) ?_
  refine wp_callH (pc' := 10) (rest := [.int 0, .ref 91]) (fun Z => rfl) (isO_of sh0) hw ?_
  rintro o h1 (⟨x1, S2, rfl, rfl, hw⟩ | ⟨x, S4, rfl, rfl, hw⟩)
  · refine Or.inl ⟨_, rfl, ?_⟩
    show wp E (d + 1) m_law_see 10 [some (.ref 0), some (.int a1), some (.int a2), some (.int a3), some (.ref 91), none] [.int x1, .int 0, .ref 91] (Hp S2) (QI Q)
    refine wp_st (pc' := 11) (L' := [some (.ref 0), some (.int a1), some (.int a2), some (.int a3), some (.ref 91), none]) (st' := [.long (Int32.toInt64 x1), .int 0, .ref 91]) (h' := Hp S2) 1 (fun Z => rfl) ?_
    have hw := hw _ rfl
    refine wp_st (pc' := 12) (L' := [some (.ref 0), some (.int a1), some (.int a2), some (.int a3), some (.ref 91), none]) (st' := []) (h' := Hp (upA S2 91 (Int32.toInt64 x1))) 1 (fun Z => stJ0 sh91 _) ?_
    generalize upA S2 91 (Int32.toInt64 x1) = S3 at hw ⊢
    refine wp_st (pc' := 20) (L' := [some (.ref 0), some (.int a1), some (.int a2), some (.int a3), some (.ref 91), none]) (st' := [.int 0]) (h' := Hp S3) 2 (fun Z => rfl) ?_
    exact wp_ret (fun Z => rfl) ⟨_, _, rfl, rfl, hw⟩
  · rcases hw with ⟨rfl, hw⟩
    refine Or.inr ⟨0, 17, [some (.ref 0), some (.int a1), some (.int a2), some (.int a3), some (.ref 91), none], rfl, fun Z => rfl, ?_⟩
    refine wp_st (pc' := 18) (L' := [some (.ref 0), some (.int a1), some (.int a2), some (.int a3), some (.ref 91), none]) (st' := [.int 1]) (h' := Hp S4) 1 (fun Z => rfl) ?_
    exact wp_ret (fun Z => rfl) ⟨_, _, rfl, rfl, hw⟩
set_option maxRecDepth 4000 in
theorem w_law_milder {E : zX} {d : Nat} {S : St} {a1 : Int32} {Q : Int32 → St → Prop} (hd : 1 ≤ d) 
    (hw : k_x_milder E (d - 1) S a1 (fun x1 S2 =>
    ∀ S3, S3 = upA S2 91 (Int32.toInt64 x1) →
      Q (0 : Int32) S3)
    (fun x S4 =>
    (x = 0 ∧
    Q (1 : Int32) S4))) :
    k_law_milder E d S a1 Q := by
  obtain ⟨d, rfl⟩ := Nat.exists_eq_add_of_le' hd
  show wp E (d + 1) m_law_milder 0 [some (.ref 0), some (.int a1), some (.ref 91), none] [] (Hp S) (QI Q)
  refine wp_st (pc' := 4) (L' := [some (.ref 0), some (.int a1), some (.ref 91), none]) (st' := [.int a1, .ref 0, .int 0, .ref 91]) (h' := Hp S) 4 (fun Z => rfl) ?_
  refine wp_callH (pc' := 7) (rest := [.int 0, .ref 91]) (fun Z => rfl) (isO_of sh0) hw ?_
  rintro o h1 (⟨x1, S2, rfl, rfl, hw⟩ | ⟨x, S4, rfl, rfl, hw⟩)
  · refine Or.inl ⟨_, rfl, ?_⟩
    show wp E (d + 1) m_law_milder 7 [some (.ref 0), some (.int a1), some (.ref 91), none] [.int x1, .int 0, .ref 91] (Hp S2) (QI Q)
    refine wp_st (pc' := 8) (L' := [some (.ref 0), some (.int a1), some (.ref 91), none]) (st' := [.long (Int32.toInt64 x1), .int 0, .ref 91]) (h' := Hp S2) 1 (fun Z => rfl) ?_
    have hw := hw _ rfl
    refine wp_st (pc' := 9) (L' := [some (.ref 0), some (.int a1), some (.ref 91), none]) (st' := []) (h' := Hp (upA S2 91 (Int32.toInt64 x1))) 1 (fun Z => stJ0 sh91 _) ?_
    generalize upA S2 91 (Int32.toInt64 x1) = S3 at hw ⊢
    refine wp_st (pc' := 16) (L' := [some (.ref 0), some (.int a1), some (.ref 91), none]) (st' := [.int 0]) (h' := Hp S3) 2 (fun Z => rfl) ?_
    exact wp_ret (fun Z => rfl) ⟨_, _, rfl, rfl, hw⟩
  · rcases hw with ⟨rfl, hw⟩
    refine Or.inr ⟨0, 13, [some (.ref 0), some (.int a1), some (.ref 91), none], rfl, fun Z => rfl, ?_⟩
    refine wp_st (pc' := 14) (L' := [some (.ref 0), some (.int a1), some (.ref 91), none]) (st' := [.int 1]) (h' := Hp S4) 1 (fun Z => rfl) ?_
    exact wp_ret (fun Z => rfl) ⟨_, _, rfl, rfl, hw⟩
set_option maxRecDepth 4000 in
theorem w_law_look {E : zX} {d : Nat} {S : St} {a1 : Int32} {Q : Int32 → St → Prop} (hd : 1 ≤ d) 
    (hw : k_x_look E (d - 1) S a1 (fun x1 S2 =>
    ∀ S3, S3 = upA S2 91 (Int32.toInt64 x1) →
      Q (0 : Int32) S3)
    (fun x S4 =>
    (x = 0 ∧
    Q (1 : Int32) S4))) :
    k_law_look E d S a1 Q := by
  obtain ⟨d, rfl⟩ := Nat.exists_eq_add_of_le' hd
  show wp E (d + 1) m_law_look 0 [some (.ref 0), some (.int a1), some (.ref 91), none] [] (Hp S) (QI Q)
  refine wp_st (pc' := 4) (L' := [some (.ref 0), some (.int a1), some (.ref 91), none]) (st' := [.int a1, .ref 0, .int 0, .ref 91]) (h' := Hp S) 4 (fun Z => rfl) ?_
  refine wp_callH (pc' := 7) (rest := [.int 0, .ref 91]) (fun Z => rfl) (isO_of sh0) hw ?_
  rintro o h1 (⟨x1, S2, rfl, rfl, hw⟩ | ⟨x, S4, rfl, rfl, hw⟩)
  · refine Or.inl ⟨_, rfl, ?_⟩
    show wp E (d + 1) m_law_look 7 [some (.ref 0), some (.int a1), some (.ref 91), none] [.int x1, .int 0, .ref 91] (Hp S2) (QI Q)
    refine wp_st (pc' := 8) (L' := [some (.ref 0), some (.int a1), some (.ref 91), none]) (st' := [.long (Int32.toInt64 x1), .int 0, .ref 91]) (h' := Hp S2) 1 (fun Z => rfl) ?_
    have hw := hw _ rfl
    refine wp_st (pc' := 9) (L' := [some (.ref 0), some (.int a1), some (.ref 91), none]) (st' := []) (h' := Hp (upA S2 91 (Int32.toInt64 x1))) 1 (fun Z => stJ0 sh91 _) ?_
    generalize upA S2 91 (Int32.toInt64 x1) = S3 at hw ⊢
    refine wp_st (pc' := 16) (L' := [some (.ref 0), some (.int a1), some (.ref 91), none]) (st' := [.int 0]) (h' := Hp S3) 2 (fun Z => rfl) ?_
    exact wp_ret (fun Z => rfl) ⟨_, _, rfl, rfl, hw⟩
  · rcases hw with ⟨rfl, hw⟩
    refine Or.inr ⟨0, 13, [some (.ref 0), some (.int a1), some (.ref 91), none], rfl, fun Z => rfl, ?_⟩
    refine wp_st (pc' := 14) (L' := [some (.ref 0), some (.int a1), some (.ref 91), none]) (st' := [.int 1]) (h' := Hp S4) 1 (fun Z => rfl) ?_
    exact wp_ret (fun Z => rfl) ⟨_, _, rfl, rfl, hw⟩
set_option maxRecDepth 4000 in
theorem w_law_boys {E : zX} {d : Nat} {S : St} {a1 : Int32} {a2 : Int32} {a3 : Int32} {Q : Int32 → St → Prop} (hd : 1 ≤ d) 
    (hw : k_x_boys E (d - 1) S a1 a2 a3 (fun x1 S2 =>
    ∀ S3, S3 = upA S2 91 (Int32.toInt64 x1) →
      Q (0 : Int32) S3)
    (fun x S4 =>
    (x = 0 ∧
    Q (1 : Int32) S4) ∨ (x = 1 ∧
    Q (2 : Int32) S4))) :
    k_law_boys E d S a1 a2 a3 Q := by
  obtain ⟨d, rfl⟩ := Nat.exists_eq_add_of_le' hd
  show wp E (d + 1) m_law_boys 0 [some (.ref 0), some (.int a1), some (.int a2), some (.int a3), some (.ref 91), none] [] (Hp S) (QI Q)
  refine wp_st (pc' := 7) (L' := [some (.ref 0), some (.int a1), some (.int a2), some (.int a3), some (.ref 91), none]) (st' := [.int a3, .int a2, .int a1, .ref 0, .int 0, .ref 91]) (h' := Hp S) 6 (fun Z => rfl) ?_
  refine wp_callH (pc' := 10) (rest := [.int 0, .ref 91]) (fun Z => rfl) (isO_of sh0) hw ?_
  rintro o h1 (⟨x1, S2, rfl, rfl, hw⟩ | ⟨x, S4, rfl, rfl, hw⟩)
  · refine Or.inl ⟨_, rfl, ?_⟩
    show wp E (d + 1) m_law_boys 10 [some (.ref 0), some (.int a1), some (.int a2), some (.int a3), some (.ref 91), none] [.int x1, .int 0, .ref 91] (Hp S2) (QI Q)
    refine wp_st (pc' := 11) (L' := [some (.ref 0), some (.int a1), some (.int a2), some (.int a3), some (.ref 91), none]) (st' := [.long (Int32.toInt64 x1), .int 0, .ref 91]) (h' := Hp S2) 1 (fun Z => rfl) ?_
    have hw := hw _ rfl
    refine wp_st (pc' := 12) (L' := [some (.ref 0), some (.int a1), some (.int a2), some (.int a3), some (.ref 91), none]) (st' := []) (h' := Hp (upA S2 91 (Int32.toInt64 x1))) 1 (fun Z => stJ0 sh91 _) ?_
    generalize upA S2 91 (Int32.toInt64 x1) = S3 at hw ⊢
    refine wp_st (pc' := 24) (L' := [some (.ref 0), some (.int a1), some (.int a2), some (.int a3), some (.ref 91), none]) (st' := [.int 0]) (h' := Hp S3) 2 (fun Z => rfl) ?_
    exact wp_ret (fun Z => rfl) ⟨_, _, rfl, rfl, hw⟩
  · rcases hw with ⟨rfl, hw⟩ | ⟨rfl, hw⟩
    · refine Or.inr ⟨0, 17, [some (.ref 0), some (.int a1), some (.int a2), some (.int a3), some (.ref 91), none], rfl, fun Z => rfl, ?_⟩
      refine wp_st (pc' := 18) (L' := [some (.ref 0), some (.int a1), some (.int a2), some (.int a3), some (.ref 91), none]) (st' := [.int 1]) (h' := Hp S4) 1 (fun Z => rfl) ?_
      exact wp_ret (fun Z => rfl) ⟨_, _, rfl, rfl, hw⟩
    · refine Or.inr ⟨1, 21, [some (.ref 0), some (.int a1), some (.int a2), some (.int a3), some (.ref 91), none], rfl, fun Z => rfl, ?_⟩
      refine wp_st (pc' := 22) (L' := [some (.ref 0), some (.int a1), some (.int a2), some (.int a3), some (.ref 91), none]) (st' := [.int 2]) (h' := Hp S4) 1 (fun Z => rfl) ?_
      exact wp_ret (fun Z => rfl) ⟨_, _, rfl, rfl, hw⟩
set_option maxRecDepth 4000 in
theorem w_law_game {E : zX} {d : Nat} {S : St} {a1 : Int32} {a2 : Int32} {a3 : Int32} {Q : Int32 → St → Prop} (hd : 1 ≤ d) 
    (hw : k_x_game E (d - 1) S a1 a2 a3 (fun x1 S2 =>
    ∀ S3, S3 = upA S2 91 (Int32.toInt64 x1) →
      Q (0 : Int32) S3)
    (fun x S4 =>
    (x = 0 ∧
    Q (1 : Int32) S4) ∨ (x = 1 ∧
    Q (2 : Int32) S4))) :
    k_law_game E d S a1 a2 a3 Q := by
  obtain ⟨d, rfl⟩ := Nat.exists_eq_add_of_le' hd
  show wp E (d + 1) m_law_game 0 [some (.ref 0), some (.int a1), some (.int a2), some (.int a3), some (.ref 91), none] [] (Hp S) (QI Q)
  refine wp_st (pc' := 7) (L' := [some (.ref 0), some (.int a1), some (.int a2), some (.int a3), some (.ref 91), none]) (st' := [.int a3, .int a2, .int a1, .ref 0, .int 0, .ref 91]) (h' := Hp S) 6 (fun Z => rfl) ?_
  refine wp_callH (pc' := 10) (rest := [.int 0, .ref 91]) (fun Z => rfl) (isO_of sh0) hw ?_
  rintro o h1 (⟨x1, S2, rfl, rfl, hw⟩ | ⟨x, S4, rfl, rfl, hw⟩)
  · refine Or.inl ⟨_, rfl, ?_⟩
    show wp E (d + 1) m_law_game 10 [some (.ref 0), some (.int a1), some (.int a2), some (.int a3), some (.ref 91), none] [.int x1, .int 0, .ref 91] (Hp S2) (QI Q)
    refine wp_st (pc' := 11) (L' := [some (.ref 0), some (.int a1), some (.int a2), some (.int a3), some (.ref 91), none]) (st' := [.long (Int32.toInt64 x1), .int 0, .ref 91]) (h' := Hp S2) 1 (fun Z => rfl) ?_
    have hw := hw _ rfl
    refine wp_st (pc' := 12) (L' := [some (.ref 0), some (.int a1), some (.int a2), some (.int a3), some (.ref 91), none]) (st' := []) (h' := Hp (upA S2 91 (Int32.toInt64 x1))) 1 (fun Z => stJ0 sh91 _) ?_
    generalize upA S2 91 (Int32.toInt64 x1) = S3 at hw ⊢
    refine wp_st (pc' := 24) (L' := [some (.ref 0), some (.int a1), some (.int a2), some (.int a3), some (.ref 91), none]) (st' := [.int 0]) (h' := Hp S3) 2 (fun Z => rfl) ?_
    exact wp_ret (fun Z => rfl) ⟨_, _, rfl, rfl, hw⟩
  · rcases hw with ⟨rfl, hw⟩ | ⟨rfl, hw⟩
    · refine Or.inr ⟨0, 17, [some (.ref 0), some (.int a1), some (.int a2), some (.int a3), some (.ref 91), none], rfl, fun Z => rfl, ?_⟩
      refine wp_st (pc' := 18) (L' := [some (.ref 0), some (.int a1), some (.int a2), some (.int a3), some (.ref 91), none]) (st' := [.int 1]) (h' := Hp S4) 1 (fun Z => rfl) ?_
      exact wp_ret (fun Z => rfl) ⟨_, _, rfl, rfl, hw⟩
    · refine Or.inr ⟨1, 21, [some (.ref 0), some (.int a1), some (.int a2), some (.int a3), some (.ref 91), none], rfl, fun Z => rfl, ?_⟩
      refine wp_st (pc' := 22) (L' := [some (.ref 0), some (.int a1), some (.int a2), some (.int a3), some (.ref 91), none]) (st' := [.int 2]) (h' := Hp S4) 1 (fun Z => rfl) ?_
      exact wp_ret (fun Z => rfl) ⟨_, _, rfl, rfl, hw⟩
set_option maxRecDepth 4000 in
theorem w_law_years {E : zX} {d : Nat} {S : St} {a1 : Int32} {a2 : Int32} {a3 : Int32} {Q : Int32 → St → Prop} (hd : 1 ≤ d) 
    (hw : k_x_years E (d - 1) S a1 a2 a3 (fun x1 S2 =>
    ∀ S3, S3 = upA S2 91 (Int32.toInt64 x1) →
      Q (0 : Int32) S3)
    (fun x S4 =>
    (x = 0 ∧
    Q (1 : Int32) S4) ∨ (x = 1 ∧
    Q (2 : Int32) S4))) :
    k_law_years E d S a1 a2 a3 Q := by
  obtain ⟨d, rfl⟩ := Nat.exists_eq_add_of_le' hd
  show wp E (d + 1) m_law_years 0 [some (.ref 0), some (.int a1), some (.int a2), some (.int a3), some (.ref 91), none] [] (Hp S) (QI Q)
  refine wp_st (pc' := 7) (L' := [some (.ref 0), some (.int a1), some (.int a2), some (.int a3), some (.ref 91), none]) (st' := [.int a3, .int a2, .int a1, .ref 0, .int 0, .ref 91]) (h' := Hp S) 6 (fun Z => rfl) ?_
  refine wp_callH (pc' := 10) (rest := [.int 0, .ref 91]) (fun Z => rfl) (isO_of sh0) hw ?_
  rintro o h1 (⟨x1, S2, rfl, rfl, hw⟩ | ⟨x, S4, rfl, rfl, hw⟩)
  · refine Or.inl ⟨_, rfl, ?_⟩
    show wp E (d + 1) m_law_years 10 [some (.ref 0), some (.int a1), some (.int a2), some (.int a3), some (.ref 91), none] [.int x1, .int 0, .ref 91] (Hp S2) (QI Q)
    refine wp_st (pc' := 11) (L' := [some (.ref 0), some (.int a1), some (.int a2), some (.int a3), some (.ref 91), none]) (st' := [.long (Int32.toInt64 x1), .int 0, .ref 91]) (h' := Hp S2) 1 (fun Z => rfl) ?_
    have hw := hw _ rfl
    refine wp_st (pc' := 12) (L' := [some (.ref 0), some (.int a1), some (.int a2), some (.int a3), some (.ref 91), none]) (st' := []) (h' := Hp (upA S2 91 (Int32.toInt64 x1))) 1 (fun Z => stJ0 sh91 _) ?_
    generalize upA S2 91 (Int32.toInt64 x1) = S3 at hw ⊢
    refine wp_st (pc' := 24) (L' := [some (.ref 0), some (.int a1), some (.int a2), some (.int a3), some (.ref 91), none]) (st' := [.int 0]) (h' := Hp S3) 2 (fun Z => rfl) ?_
    exact wp_ret (fun Z => rfl) ⟨_, _, rfl, rfl, hw⟩
  · rcases hw with ⟨rfl, hw⟩ | ⟨rfl, hw⟩
    · refine Or.inr ⟨0, 17, [some (.ref 0), some (.int a1), some (.int a2), some (.int a3), some (.ref 91), none], rfl, fun Z => rfl, ?_⟩
      refine wp_st (pc' := 18) (L' := [some (.ref 0), some (.int a1), some (.int a2), some (.int a3), some (.ref 91), none]) (st' := [.int 1]) (h' := Hp S4) 1 (fun Z => rfl) ?_
      exact wp_ret (fun Z => rfl) ⟨_, _, rfl, rfl, hw⟩
    · refine Or.inr ⟨1, 21, [some (.ref 0), some (.int a1), some (.int a2), some (.int a3), some (.ref 91), none], rfl, fun Z => rfl, ?_⟩
      refine wp_st (pc' := 22) (L' := [some (.ref 0), some (.int a1), some (.int a2), some (.int a3), some (.ref 91), none]) (st' := [.int 2]) (h' := Hp S4) 1 (fun Z => rfl) ?_
      exact wp_ret (fun Z => rfl) ⟨_, _, rfl, rfl, hw⟩
set_option maxRecDepth 4000 in
theorem w_law_cell {E : zX} {d : Nat} {S : St} {a1 : Int32} {a2 : Int32} {Q : Int32 → St → Prop} (hd : 1 ≤ d) 
    (hw : k_x_cell E (d - 1) S a1 a2 (fun x1 S2 =>
    ∀ S3, S3 = upA S2 91 (Int32.toInt64 x1) →
      Q (0 : Int32) S3)
    (fun x S4 =>
    (x = 0 ∧
    Q (1 : Int32) S4))) :
    k_law_cell E d S a1 a2 Q := by
  obtain ⟨d, rfl⟩ := Nat.exists_eq_add_of_le' hd
  show wp E (d + 1) m_law_cell 0 [some (.ref 0), some (.int a1), some (.int a2), some (.ref 91), none] [] (Hp S) (QI Q)
  refine wp_st (pc' := 5) (L' := [some (.ref 0), some (.int a1), some (.int a2), some (.ref 91), none]) (st' := [.int a2, .int a1, .ref 0, .int 0, .ref 91]) (h' := Hp S) 5 (fun Z => rfl) ?_
  refine wp_callH (pc' := 8) (rest := [.int 0, .ref 91]) (fun Z => rfl) (isO_of sh0) hw ?_
  rintro o h1 (⟨x1, S2, rfl, rfl, hw⟩ | ⟨x, S4, rfl, rfl, hw⟩)
  · refine Or.inl ⟨_, rfl, ?_⟩
    show wp E (d + 1) m_law_cell 8 [some (.ref 0), some (.int a1), some (.int a2), some (.ref 91), none] [.int x1, .int 0, .ref 91] (Hp S2) (QI Q)
    refine wp_st (pc' := 9) (L' := [some (.ref 0), some (.int a1), some (.int a2), some (.ref 91), none]) (st' := [.long (Int32.toInt64 x1), .int 0, .ref 91]) (h' := Hp S2) 1 (fun Z => rfl) ?_
    have hw := hw _ rfl
    refine wp_st (pc' := 10) (L' := [some (.ref 0), some (.int a1), some (.int a2), some (.ref 91), none]) (st' := []) (h' := Hp (upA S2 91 (Int32.toInt64 x1))) 1 (fun Z => stJ0 sh91 _) ?_
    generalize upA S2 91 (Int32.toInt64 x1) = S3 at hw ⊢
    refine wp_st (pc' := 18) (L' := [some (.ref 0), some (.int a1), some (.int a2), some (.ref 91), none]) (st' := [.int 0]) (h' := Hp S3) 2 (fun Z => rfl) ?_
    exact wp_ret (fun Z => rfl) ⟨_, _, rfl, rfl, hw⟩
  · rcases hw with ⟨rfl, hw⟩
    refine Or.inr ⟨0, 15, [some (.ref 0), some (.int a1), some (.int a2), some (.ref 91), none], rfl, fun Z => rfl, ?_⟩
    refine wp_st (pc' := 16) (L' := [some (.ref 0), some (.int a1), some (.int a2), some (.ref 91), none]) (st' := [.int 1]) (h' := Hp S4) 1 (fun Z => rfl) ?_
    exact wp_ret (fun Z => rfl) ⟨_, _, rfl, rfl, hw⟩
set_option maxRecDepth 4000 in
theorem w_law_when {E : zX} {d : Nat} {S : St} {a1 : Int32} {a2 : Int32} {Q : Int32 → St → Prop} (hd : 1 ≤ d) 
    (hw : k_x_when E (d - 1) S a1 a2 (fun x1 S2 =>
    ∀ S3, S3 = upA S2 91 (Int32.toInt64 x1) →
      Q (0 : Int32) S3)
    (fun x S4 =>
    (x = 0 ∧
    Q (1 : Int32) S4))) :
    k_law_when E d S a1 a2 Q := by
  obtain ⟨d, rfl⟩ := Nat.exists_eq_add_of_le' hd
  show wp E (d + 1) m_law_when 0 [some (.ref 0), some (.int a1), some (.int a2), some (.ref 91), none] [] (Hp S) (QI Q)
  refine wp_st (pc' := 5) (L' := [some (.ref 0), some (.int a1), some (.int a2), some (.ref 91), none]) (st' := [.int a2, .int a1, .ref 0, .int 0, .ref 91]) (h' := Hp S) 5 (fun Z => rfl) ?_
  refine wp_callH (pc' := 8) (rest := [.int 0, .ref 91]) (fun Z => rfl) (isO_of sh0) hw ?_
  rintro o h1 (⟨x1, S2, rfl, rfl, hw⟩ | ⟨x, S4, rfl, rfl, hw⟩)
  · refine Or.inl ⟨_, rfl, ?_⟩
    show wp E (d + 1) m_law_when 8 [some (.ref 0), some (.int a1), some (.int a2), some (.ref 91), none] [.int x1, .int 0, .ref 91] (Hp S2) (QI Q)
    refine wp_st (pc' := 9) (L' := [some (.ref 0), some (.int a1), some (.int a2), some (.ref 91), none]) (st' := [.long (Int32.toInt64 x1), .int 0, .ref 91]) (h' := Hp S2) 1 (fun Z => rfl) ?_
    have hw := hw _ rfl
    refine wp_st (pc' := 10) (L' := [some (.ref 0), some (.int a1), some (.int a2), some (.ref 91), none]) (st' := []) (h' := Hp (upA S2 91 (Int32.toInt64 x1))) 1 (fun Z => stJ0 sh91 _) ?_
    generalize upA S2 91 (Int32.toInt64 x1) = S3 at hw ⊢
    refine wp_st (pc' := 18) (L' := [some (.ref 0), some (.int a1), some (.int a2), some (.ref 91), none]) (st' := [.int 0]) (h' := Hp S3) 2 (fun Z => rfl) ?_
    exact wp_ret (fun Z => rfl) ⟨_, _, rfl, rfl, hw⟩
  · rcases hw with ⟨rfl, hw⟩
    refine Or.inr ⟨0, 15, [some (.ref 0), some (.int a1), some (.int a2), some (.ref 91), none], rfl, fun Z => rfl, ?_⟩
    refine wp_st (pc' := 16) (L' := [some (.ref 0), some (.int a1), some (.int a2), some (.ref 91), none]) (st' := [.int 1]) (h' := Hp S4) 1 (fun Z => rfl) ?_
    exact wp_ret (fun Z => rfl) ⟨_, _, rfl, rfl, hw⟩
set_option maxRecDepth 4000 in
theorem w_law_ahead {E : zX} {d : Nat} {S : St} {a1 : Int32} {a2 : Int32} {Q : Int32 → St → Prop} (hd : 1 ≤ d) 
    (hw : k_x_ahead E (d - 1) S a1 a2 (fun x1 S2 =>
    ∀ S3, S3 = upA S2 91 (Int32.toInt64 x1) →
      Q (0 : Int32) S3)
    (fun x S4 =>
    (x = 0 ∧
    Q (1 : Int32) S4) ∨ (x = 1 ∧
    Q (2 : Int32) S4))) :
    k_law_ahead E d S a1 a2 Q := by
  obtain ⟨d, rfl⟩ := Nat.exists_eq_add_of_le' hd
  show wp E (d + 1) m_law_ahead 0 [some (.ref 0), some (.int a1), some (.int a2), some (.ref 91), none] [] (Hp S) (QI Q)
  refine wp_st (pc' := 5) (L' := [some (.ref 0), some (.int a1), some (.int a2), some (.ref 91), none]) (st' := [.int a2, .int a1, .ref 0, .int 0, .ref 91]) (h' := Hp S) 5 (fun Z => rfl) ?_
  refine wp_callH (pc' := 8) (rest := [.int 0, .ref 91]) (fun Z => rfl) (isO_of sh0) hw ?_
  rintro o h1 (⟨x1, S2, rfl, rfl, hw⟩ | ⟨x, S4, rfl, rfl, hw⟩)
  · refine Or.inl ⟨_, rfl, ?_⟩
    show wp E (d + 1) m_law_ahead 8 [some (.ref 0), some (.int a1), some (.int a2), some (.ref 91), none] [.int x1, .int 0, .ref 91] (Hp S2) (QI Q)
    refine wp_st (pc' := 9) (L' := [some (.ref 0), some (.int a1), some (.int a2), some (.ref 91), none]) (st' := [.long (Int32.toInt64 x1), .int 0, .ref 91]) (h' := Hp S2) 1 (fun Z => rfl) ?_
    have hw := hw _ rfl
    refine wp_st (pc' := 10) (L' := [some (.ref 0), some (.int a1), some (.int a2), some (.ref 91), none]) (st' := []) (h' := Hp (upA S2 91 (Int32.toInt64 x1))) 1 (fun Z => stJ0 sh91 _) ?_
    generalize upA S2 91 (Int32.toInt64 x1) = S3 at hw ⊢
    refine wp_st (pc' := 22) (L' := [some (.ref 0), some (.int a1), some (.int a2), some (.ref 91), none]) (st' := [.int 0]) (h' := Hp S3) 2 (fun Z => rfl) ?_
    exact wp_ret (fun Z => rfl) ⟨_, _, rfl, rfl, hw⟩
  · rcases hw with ⟨rfl, hw⟩ | ⟨rfl, hw⟩
    · refine Or.inr ⟨0, 15, [some (.ref 0), some (.int a1), some (.int a2), some (.ref 91), none], rfl, fun Z => rfl, ?_⟩
      refine wp_st (pc' := 16) (L' := [some (.ref 0), some (.int a1), some (.int a2), some (.ref 91), none]) (st' := [.int 1]) (h' := Hp S4) 1 (fun Z => rfl) ?_
      exact wp_ret (fun Z => rfl) ⟨_, _, rfl, rfl, hw⟩
    · refine Or.inr ⟨1, 19, [some (.ref 0), some (.int a1), some (.int a2), some (.ref 91), none], rfl, fun Z => rfl, ?_⟩
      refine wp_st (pc' := 20) (L' := [some (.ref 0), some (.int a1), some (.int a2), some (.ref 91), none]) (st' := [.int 2]) (h' := Hp S4) 1 (fun Z => rfl) ?_
      exact wp_ret (fun Z => rfl) ⟨_, _, rfl, rfl, hw⟩
set_option maxRecDepth 4000 in
theorem w_law_stays {E : zX} {d : Nat} {S : St} {a1 : Int32} {a2 : Int32} {Q : Int32 → St → Prop} (hd : 1 ≤ d) 
    (hw : k_x_stays E (d - 1) S a1 a2 (fun x1 S2 =>
    ∀ S3, S3 = upA S2 91 (Int32.toInt64 x1) →
      Q (0 : Int32) S3)
    (fun x S4 =>
    (x = 0 ∧
    Q (1 : Int32) S4) ∨ (x = 1 ∧
    Q (2 : Int32) S4))) :
    k_law_stays E d S a1 a2 Q := by
  obtain ⟨d, rfl⟩ := Nat.exists_eq_add_of_le' hd
  show wp E (d + 1) m_law_stays 0 [some (.ref 0), some (.int a1), some (.int a2), some (.ref 91), none] [] (Hp S) (QI Q)
  refine wp_st (pc' := 5) (L' := [some (.ref 0), some (.int a1), some (.int a2), some (.ref 91), none]) (st' := [.int a2, .int a1, .ref 0, .int 0, .ref 91]) (h' := Hp S) 5 (fun Z => rfl) ?_
  refine wp_callH (pc' := 8) (rest := [.int 0, .ref 91]) (fun Z => rfl) (isO_of sh0) hw ?_
  rintro o h1 (⟨x1, S2, rfl, rfl, hw⟩ | ⟨x, S4, rfl, rfl, hw⟩)
  · refine Or.inl ⟨_, rfl, ?_⟩
    show wp E (d + 1) m_law_stays 8 [some (.ref 0), some (.int a1), some (.int a2), some (.ref 91), none] [.int x1, .int 0, .ref 91] (Hp S2) (QI Q)
    refine wp_st (pc' := 9) (L' := [some (.ref 0), some (.int a1), some (.int a2), some (.ref 91), none]) (st' := [.long (Int32.toInt64 x1), .int 0, .ref 91]) (h' := Hp S2) 1 (fun Z => rfl) ?_
    have hw := hw _ rfl
    refine wp_st (pc' := 10) (L' := [some (.ref 0), some (.int a1), some (.int a2), some (.ref 91), none]) (st' := []) (h' := Hp (upA S2 91 (Int32.toInt64 x1))) 1 (fun Z => stJ0 sh91 _) ?_
    generalize upA S2 91 (Int32.toInt64 x1) = S3 at hw ⊢
    refine wp_st (pc' := 22) (L' := [some (.ref 0), some (.int a1), some (.int a2), some (.ref 91), none]) (st' := [.int 0]) (h' := Hp S3) 2 (fun Z => rfl) ?_
    exact wp_ret (fun Z => rfl) ⟨_, _, rfl, rfl, hw⟩
  · rcases hw with ⟨rfl, hw⟩ | ⟨rfl, hw⟩
    · refine Or.inr ⟨0, 15, [some (.ref 0), some (.int a1), some (.int a2), some (.ref 91), none], rfl, fun Z => rfl, ?_⟩
      refine wp_st (pc' := 16) (L' := [some (.ref 0), some (.int a1), some (.int a2), some (.ref 91), none]) (st' := [.int 1]) (h' := Hp S4) 1 (fun Z => rfl) ?_
      exact wp_ret (fun Z => rfl) ⟨_, _, rfl, rfl, hw⟩
    · refine Or.inr ⟨1, 19, [some (.ref 0), some (.int a1), some (.int a2), some (.ref 91), none], rfl, fun Z => rfl, ?_⟩
      refine wp_st (pc' := 20) (L' := [some (.ref 0), some (.int a1), some (.int a2), some (.ref 91), none]) (st' := [.int 2]) (h' := Hp S4) 1 (fun Z => rfl) ?_
      exact wp_ret (fun Z => rfl) ⟨_, _, rfl, rfl, hw⟩
