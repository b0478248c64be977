set_option maxRecDepth 4000 in
theorem w_law_county {E : zX} {d : Nat} {S : St} {a1 : Int32} {Q : Int32 → St → Prop} (hd : 1 ≤ d) 
    (hw : k_x_county E (d - 1) S a1 (fun x1 S2 =>
    ∀ S3, S3 = upA S2 91 (Int32.toInt64 x1) →
      Q (0 : Int32) S3)
    (fun x S4 =>
    (x = 1 ∧
    Q (1 : Int32) S4))) :
    k_law_county E d S a1 Q := by
  obtain ⟨d, rfl⟩ := Nat.exists_eq_add_of_le' hd
  show wp E (d + 1) m_law_county 0 [some (.ref 0), some (.int a1), some (.ref 91), none] [] (Hp S) (QI Q)
  refine wp_st (pc' := 4) (L' := [some (.ref 0), some (.int a1), some (.ref 91), none]) (st' := [.int a1, .ref 0, .int 0, .ref 91]) (h' := Hp S) 4 (fun Z => rfl) ?_
  refine wp_callH (pc' := 7) (rest := [.int 0, .ref 91]) (fun Z => rfl) (isO_of sh0) hw ?_
  rintro o h1 (⟨x1, S2, rfl, rfl, hw⟩ | ⟨x, S4, rfl, rfl, hw⟩)
  · refine Or.inl ⟨_, rfl, ?_⟩
    show wp E (d + 1) m_law_county 7 [some (.ref 0), some (.int a1), some (.ref 91), none] [.int x1, .int 0, .ref 91] (Hp S2) (QI Q)
    refine wp_st (pc' := 8) (L' := [some (.ref 0), some (.int a1), some (.ref 91), none]) (st' := [.long (Int32.toInt64 x1), .int 0, .ref 91]) (h' := Hp S2) 1 (fun Z => rfl) ?_
    have hw := hw _ rfl
    refine wp_st (pc' := 9) (L' := [some (.ref 0), some (.int a1), some (.ref 91), none]) (st' := []) (h' := Hp (upA S2 91 (Int32.toInt64 x1))) 1 (fun Z => stJ0 sh91 _) ?_
    generalize upA S2 91 (Int32.toInt64 x1) = S3 at hw ⊢
    refine wp_st (pc' := 16) (L' := [some (.ref 0), some (.int a1), some (.ref 91), none]) (st' := [.int 0]) (h' := Hp S3) 2 (fun Z => rfl) ?_
    exact wp_ret (fun Z => rfl) ⟨_, _, rfl, rfl, hw⟩
  · rcases hw with ⟨rfl, hw⟩
    refine Or.inr ⟨1, 13, [some (.ref 0), some (.int a1), some (.ref 91), none], rfl, fun Z => rfl, ?_⟩
    refine wp_st (pc' := 14) (L' := [some (.ref 0), some (.int a1), some (.ref 91), none]) (st' := [.int 1]) (h' := Hp S4) 1 (fun Z => rfl) ?_
    exact wp_ret (fun Z => rfl) ⟨_, _, rfl, rfl, hw⟩
set_option maxRecDepth 4000 in
theorem w_law_count {E : zX} {d : Nat} {S : St} {a1 : Int32} {Q : Int32 → St → Prop} (hd : 1 ≤ d) 
    (hw : k_x_count E (d - 1) S a1 (fun x1 S2 =>
    ∀ S3, S3 = upA S2 91 (Int32.toInt64 x1) →
      Q (0 : Int32) S3)
    (fun x S4 =>
    (x = 0 ∧
    Q (1 : Int32) S4))) :
    k_law_count E d S a1 Q := by
  obtain ⟨d, rfl⟩ := Nat.exists_eq_add_of_le' hd
  show wp E (d + 1) m_law_count 0 [some (.ref 0), some (.int a1), some (.ref 91), none] [] (Hp S) (QI Q)
  refine wp_st (pc' := 4) (L' := [some (.ref 0), some (.int a1), some (.ref 91), none]) (st' := [.int a1, .ref 0, .int 0, .ref 91]) (h' := Hp S) 4 (fun Z => rfl) ?_
  refine wp_callH (pc' := 7) (rest := [.int 0, .ref 91]) (fun Z => rfl) (isO_of sh0) hw ?_
  rintro o h1 (⟨x1, S2, rfl, rfl, hw⟩ | ⟨x, S4, rfl, rfl, hw⟩)
  · refine Or.inl ⟨_, rfl, ?_⟩
    show wp E (d + 1) m_law_count 7 [some (.ref 0), some (.int a1), some (.ref 91), none] [.int x1, .int 0, .ref 91] (Hp S2) (QI Q)
    refine wp_st (pc' := 8) (L' := [some (.ref 0), some (.int a1), some (.ref 91), none]) (st' := [.long (Int32.toInt64 x1), .int 0, .ref 91]) (h' := Hp S2) 1 (fun Z => rfl) ?_
    have hw := hw _ rfl
    refine wp_st (pc' := 9) (L' := [some (.ref 0), some (.int a1), some (.ref 91), none]) (st' := []) (h' := Hp (upA S2 91 (Int32.toInt64 x1))) 1 (fun Z => stJ0 sh91 _) ?_
    generalize upA S2 91 (Int32.toInt64 x1) = S3 at hw ⊢
    refine wp_st (pc' := 16) (L' := [some (.ref 0), some (.int a1), some (.ref 91), none]) (st' := [.int 0]) (h' := Hp S3) 2 (fun Z => rfl) ?_
    exact wp_ret (fun Z => rfl) ⟨_, _, rfl, rfl, hw⟩
  · rcases hw with ⟨rfl, hw⟩
    refine Or.inr ⟨0, 13, [some (.ref 0), some (.int a1), some (.ref 91), none], rfl, fun Z => rfl, ?_⟩
    refine wp_st (pc' := 14) (L' := [some (.ref 0), some (.int a1), some (.ref 91), none]) (st' := [.int 1]) (h' := Hp S4) 1 (fun Z => rfl) ?_
    exact wp_ret (fun Z => rfl) ⟨_, _, rfl, rfl, hw⟩
set_option maxRecDepth 4000 in
theorem w_law_person {E : zX} {d : Nat} {S : St} {a1 : Int32} {a2 : Int32} {Q : Int32 → St → Prop} (hd : 1 ≤ d) 
    (hw : k_x_person E (d - 1) S a1 a2 (fun x1 S2 =>
    ∀ S3, S3 = upA S2 91 (Int32.toInt64 x1) →
      Q (0 : Int32) S3)
    (fun x S4 =>
    (x = 0 ∧
    Q (1 : Int32) S4))) :
    k_law_person E d S a1 a2 Q := by
  obtain ⟨d, rfl⟩ := Nat.exists_eq_add_of_le' hd
  show wp E (d + 1) m_law_person 0 [some (.ref 0), some (.int a1), some (.int a2), some (.ref 91), none] [] (Hp S) (QI Q)
  refine wp_st (pc' := 5) (L' := [some (.ref 0), some (.int a1), some (.int a2), some (.ref 91), none]) (st' := [.int a2, .int a1, .ref 0, .int 0, .ref 91]) (h' := Hp S) 5 (fun Z => rfl) ?_
  refine wp_callH (pc' := 8) (rest := [.int 0, .ref 91]) (fun Z => rfl) (isO_of sh0) hw ?_
  rintro o h1 (⟨x1, S2, rfl, rfl, hw⟩ | ⟨x, S4, rfl, rfl, hw⟩)
  · refine Or.inl ⟨_, rfl, ?_⟩
    show wp E (d + 1) m_law_person 8 [some (.ref 0), some (.int a1), some (.int a2), some (.ref 91), none] [.int x1, .int 0, .ref 91] (Hp S2) (QI Q)
    refine wp_st (pc' := 9) (L' := [some (.ref 0), some (.int a1), some (.int a2), some (.ref 91), none]) (st' := [.long (Int32.toInt64 x1), .int 0, .ref 91]) (h' := Hp S2) 1 (fun Z => rfl) ?_
    have hw := hw _ rfl
    refine wp_st (pc' := 10) (L' := [some (.ref 0), some (.int a1), some (.int a2), some (.ref 91), none]) (st' := []) (h' := Hp (upA S2 91 (Int32.toInt64 x1))) 1 (fun Z => stJ0 sh91 _) ?_
    generalize upA S2 91 (Int32.toInt64 x1) = S3 at hw ⊢
    refine wp_st (pc' := 18) (L' := [some (.ref 0), some (.int a1), some (.int a2), some (.ref 91), none]) (st' := [.int 0]) (h' := Hp S3) 2 (fun Z => rfl) ?_
    exact wp_ret (fun Z => rfl) ⟨_, _, rfl, rfl, hw⟩
  · rcases hw with ⟨rfl, hw⟩
    refine Or.inr ⟨0, 15, [some (.ref 0), some (.int a1), some (.int a2), some (.ref 91), none], rfl, fun Z => rfl, ?_⟩
    refine wp_st (pc' := 16) (L' := [some (.ref 0), some (.int a1), some (.int a2), some (.ref 91), none]) (st' := [.int 1]) (h' := Hp S4) 1 (fun Z => rfl) ?_
    exact wp_ret (fun Z => rfl) ⟨_, _, rfl, rfl, hw⟩
set_option maxRecDepth 4000 in
theorem w_law_ball {E : zX} {d : Nat} {S : St} {a1 : Int32} {a2 : Int32} {Q : Int32 → St → Prop} (hd : 1 ≤ d) 
    (hw : k_x_ball E (d - 1) S a1 a2 (fun x1 S2 =>
    ∀ S3, S3 = upA S2 91 (Int32.toInt64 x1) →
      Q (0 : Int32) S3)
    (fun x S4 =>
    (x = 0 ∧
    Q (1 : Int32) S4))) :
    k_law_ball E d S a1 a2 Q := by
  obtain ⟨d, rfl⟩ := Nat.exists_eq_add_of_le' hd
  show wp E (d + 1) m_law_ball 0 [some (.ref 0), some (.int a1), some (.int a2), some (.ref 91), none] [] (Hp S) (QI Q)
  refine wp_st (pc' := 5) (L' := [some (.ref 0), some (.int a1), some (.int a2), some (.ref 91), none]) (st' := [.int a2, .int a1, .ref 0, .int 0, .ref 91]) (h' := Hp S) 5 (fun Z => rfl) ?_
  refine wp_callH (pc' := 8) (rest := [.int 0, .ref 91]) (fun Z => rfl) (isO_of sh0) hw ?_
  rintro o h1 (⟨x1, S2, rfl, rfl, hw⟩ | ⟨x, S4, rfl, rfl, hw⟩)
  · refine Or.inl ⟨_, rfl, ?_⟩
    show wp E (d + 1) m_law_ball 8 [some (.ref 0), some (.int a1), some (.int a2), some (.ref 91), none] [.int x1, .int 0, .ref 91] (Hp S2) (QI Q)
    refine wp_st (pc' := 9) (L' := [some (.ref 0), some (.int a1), some (.int a2), some (.ref 91), none]) (st' := [.long (Int32.toInt64 x1), .int 0, .ref 91]) (h' := Hp S2) 1 (fun Z => rfl) ?_
    have hw := hw _ rfl
    refine wp_st (pc' := 10) (L' := [some (.ref 0), some (.int a1), some (.int a2), some (.ref 91), none]) (st' := []) (h' := Hp (upA S2 91 (Int32.toInt64 x1))) 1 (fun Z => stJ0 sh91 _) ?_
    generalize upA S2 91 (Int32.toInt64 x1) = S3 at hw ⊢
    refine wp_st (pc' := 18) (L' := [some (.ref 0), some (.int a1), some (.int a2), some (.ref 91), none]) (st' := [.int 0]) (h' := Hp S3) 2 (fun Z => rfl) ?_
    exact wp_ret (fun Z => rfl) ⟨_, _, rfl, rfl, hw⟩
  · rcases hw with ⟨rfl, hw⟩
    refine Or.inr ⟨0, 15, [some (.ref 0), some (.int a1), some (.int a2), some (.ref 91), none], rfl, fun Z => rfl, ?_⟩
    refine wp_st (pc' := 16) (L' := [some (.ref 0), some (.int a1), some (.int a2), some (.ref 91), none]) (st' := [.int 1]) (h' := Hp S4) 1 (fun Z => rfl) ?_
    exact wp_ret (fun Z => rfl) ⟨_, _, rfl, rfl, hw⟩
set_option maxRecDepth 4000 in
theorem w_law_tread {E : zX} {d : Nat} {S : St} {a1 : Int32} {Q : Int32 → St → Prop} (hd : 1 ≤ d) 
    (hw : k_x_tread E (d - 1) S a1 (fun x1 S2 =>
    ∀ S3, S3 = upA S2 91 (Int32.toInt64 x1) →
      Q (0 : Int32) S3)
    (fun x S4 =>
    (x = 0 ∧
    Q (1 : Int32) S4))) :
    k_law_tread E d S a1 Q := by
  obtain ⟨d, rfl⟩ := Nat.exists_eq_add_of_le' hd
  show wp E (d + 1) m_law_tread 0 [some (.ref 0), some (.int a1), some (.ref 91), none] [] (Hp S) (QI Q)
  refine wp_st (pc' := 4) (L' := [some (.ref 0), some (.int a1), some (.ref 91), none]) (st' := [.int a1, .ref 0, .int 0, .ref 91]) (h' := Hp S) 4 (fun Z => rfl) ?_
  refine wp_callH (pc' := 7) (rest := [.int 0, .ref 91]) (fun Z => rfl) (isO_of sh0) hw ?_
  rintro o h1 (⟨x1, S2, rfl, rfl, hw⟩ | ⟨x, S4, rfl, rfl, hw⟩)
  · refine Or.inl ⟨_, rfl, ?_⟩
    show wp E (d + 1) m_law_tread 7 [some (.ref 0), some (.int a1), some (.ref 91), none] [.int x1, .int 0, .ref 91] (Hp S2) (QI Q)
    refine wp_st (pc' := 8) (L' := [some (.ref 0), some (.int a1), some (.ref 91), none]) (st' := [.long (Int32.toInt64 x1), .int 0, .ref 91]) (h' := Hp S2) 1 (fun Z => rfl) ?_
    have hw := hw _ rfl
    refine wp_st (pc' := 9) (L' := [some (.ref 0), some (.int a1), some (.ref 91), none]) (st' := []) (h' := Hp (upA S2 91 (Int32.toInt64 x1))) 1 (fun Z => stJ0 sh91 _) ?_
    generalize upA S2 91 (Int32.toInt64 x1) = S3 at hw ⊢
    refine wp_st (pc' := 16) (L' := [some (.ref 0), some (.int a1), some (.ref 91), none]) (st' := [.int 0]) (h' := Hp S3) 2 (fun Z => rfl) ?_
    exact wp_ret (fun Z => rfl) ⟨_, _, rfl, rfl, hw⟩
  · rcases hw with ⟨rfl, hw⟩
    refine Or.inr ⟨0, 13, [some (.ref 0), some (.int a1), some (.ref 91), none], rfl, fun Z => rfl, ?_⟩
    refine wp_st (pc' := 14) (L' := [some (.ref 0), some (.int a1), some (.ref 91), none]) (st' := [.int 1]) (h' := Hp S4) 1 (fun Z => rfl) ?_
    exact wp_ret (fun Z => rfl) ⟨_, _, rfl, rfl, hw⟩
set_option maxRecDepth 4000 in
theorem w_law_carry {E : zX} {d : Nat} {S : St} {a1 : Int32} {a2 : Int32} {Q : Int32 → St → Prop} (hd : 1 ≤ d) 
    (hw : k_x_carry E (d - 1) S a1 a2 (fun x1 S2 =>
    ∀ S3, S3 = upA S2 91 (Int32.toInt64 x1) →
      Q (0 : Int32) S3)
    (fun x S4 =>
    (x = 0 ∧
    Q (1 : Int32) S4))) :
    k_law_carry E d S a1 a2 Q := by
  obtain ⟨d, rfl⟩ := Nat.exists_eq_add_of_le' hd
  show wp E (d + 1) m_law_carry 0 [some (.ref 0), some (.int a1), some (.int a2), some (.ref 91), none] [] (Hp S) (QI Q)
  refine wp_st (pc' := 5) (L' := [some (.ref 0), some (.int a1), some (.int a2), some (.ref 91), none]) (st' := [.int a2, .int a1, .ref 0, .int 0, .ref 91]) (h' := Hp S) 5 (fun Z => rfl) ?_
  refine wp_callH (pc' := 8) (rest := [.int 0, .ref 91]) (fun Z => rfl) (isO_of sh0) hw ?_
  rintro o h1 (⟨x1, S2, rfl, rfl, hw⟩ | ⟨x, S4, rfl, rfl, hw⟩)
  · refine Or.inl ⟨_, rfl, ?_⟩
    show wp E (d + 1) m_law_carry 8 [some (.ref 0), some (.int a1), some (.int a2), some (.ref 91), none] [.int x1, .int 0, .ref 91] (Hp S2) (QI Q)
    refine wp_st (pc' := 9) (L' := [some (.ref 0), some (.int a1), some (.int a2), some (.ref 91), none]) (st' := [.long (Int32.toInt64 x1), .int 0, .ref 91]) (h' := Hp S2) 1 (fun Z => rfl) ?_
    have hw := hw _ rfl
    refine wp_st (pc' := 10) (L' := [some (.ref 0), some (.int a1), some (.int a2), some (.ref 91), none]) (st' := []) (h' := Hp (upA S2 91 (Int32.toInt64 x1))) 1 (fun Z => stJ0 sh91 _) ?_
    generalize upA S2 91 (Int32.toInt64 x1) = S3 at hw ⊢
    refine wp_st (pc' := 18) (L' := [some (.ref 0), some (.int a1), some (.int a2), some (.ref 91), none]) (st' := [.int 0]) (h' := Hp S3) 2 (fun Z => rfl) ?_
    exact wp_ret (fun Z => rfl) ⟨_, _, rfl, rfl, hw⟩
  · rcases hw with ⟨rfl, hw⟩
    refine Or.inr ⟨0, 15, [some (.ref 0), some (.int a1), some (.int a2), some (.ref 91), none], rfl, fun Z => rfl, ?_⟩
    refine wp_st (pc' := 16) (L' := [some (.ref 0), some (.int a1), some (.int a2), some (.ref 91), none]) (st' := [.int 1]) (h' := Hp S4) 1 (fun Z => rfl) ?_
    exact wp_ret (fun Z => rfl) ⟨_, _, rfl, rfl, hw⟩
set_option maxRecDepth 4000 in
theorem w_law_guard {E : zX} {d : Nat} {S : St} {a1 : Int32} {a2 : Int32} {Q : Int32 → St → Prop} (hd : 1 ≤ d) 
    (hw : k_x_guard E (d - 1) S a1 a2 (fun x1 S2 =>
    if x1 = 0 then (
        ∀ S3, S3 = upA S2 91 0 →
        Q (0 : Int32) S3)
      else (
        ∀ S4, S4 = upA S2 91 1 →
        Q (0 : Int32) S4))
    (fun x S5 =>
    (x = 0 ∧
    Q (1 : Int32) S5))) :
    k_law_guard E d S a1 a2 Q := by
  obtain ⟨d, rfl⟩ := Nat.exists_eq_add_of_le' hd
  show wp E (d + 1) m_law_guard 0 [some (.ref 0), some (.int a1), some (.int a2), some (.ref 91), none] [] (Hp S) (QI Q)
  refine wp_st (pc' := 5) (L' := [some (.ref 0), some (.int a1), some (.int a2), some (.ref 91), none]) (st' := [.int a2, .int a1, .ref 0, .int 0, .ref 91]) (h' := Hp S) 5 (fun Z => rfl) ?_
  refine wp_callH (pc' := 8) (rest := [.int 0, .ref 91]) (fun Z => rfl) (isO_of sh0) hw ?_
  rintro o h1 (⟨x1, S2, rfl, rfl, hw⟩ | ⟨x, S5, rfl, rfl, hw⟩)
  · refine Or.inl ⟨_, rfl, ?_⟩
    show wp E (d + 1) m_law_guard 8 [some (.ref 0), some (.int a1), some (.int a2), some (.ref 91), none] [.int x1, .int 0, .ref 91] (Hp S2) (QI Q)
    by_cases hc : x1 = 0
    · rw [if_pos hc] at hw
      refine wp_st (pc' := 15) (L' := [some (.ref 0), some (.int a1), some (.int a2), some (.ref 91), none]) (st' := [.int 0, .ref 91]) (h' := Hp S2) 1 (fun Z => if_pos hc) ?_
      refine wp_st (pc' := 16) (L' := [some (.ref 0), some (.int a1), some (.int a2), some (.ref 91), none]) (st' := [.long 0, .int 0, .ref 91]) (h' := Hp S2) 1 (fun Z => rfl) ?_
      have hw := hw _ rfl
      refine wp_st (pc' := 17) (L' := [some (.ref 0), some (.int a1), some (.int a2), some (.ref 91), none]) (st' := []) (h' := Hp (upA S2 91 0)) 1 (fun Z => stJ0 sh91 _) ?_
      generalize upA S2 91 0 = S3 at hw ⊢
      refine wp_st (pc' := 25) (L' := [some (.ref 0), some (.int a1), some (.int a2), some (.ref 91), none]) (st' := [.int 0]) (h' := Hp S3) 2 (fun Z => rfl) ?_
      exact wp_ret (fun Z => rfl) ⟨_, _, rfl, rfl, hw⟩
    · rw [if_neg hc] at hw
      refine wp_st (pc' := 11) (L' := [some (.ref 0), some (.int a1), some (.int a2), some (.ref 91), none]) (st' := [.int 0, .ref 91]) (h' := Hp S2) 1 (fun Z => if_neg hc) ?_
      refine wp_st (pc' := 16) (L' := [some (.ref 0), some (.int a1), some (.int a2), some (.ref 91), none]) (st' := [.long 1, .int 0, .ref 91]) (h' := Hp S2) 2 (fun Z => rfl) ?_
      have hw := hw _ rfl
      refine wp_st (pc' := 17) (L' := [some (.ref 0), some (.int a1), some (.int a2), some (.ref 91), none]) (st' := []) (h' := Hp (upA S2 91 1)) 1 (fun Z => stJ0 sh91 _) ?_
      generalize upA S2 91 1 = S4 at hw ⊢
      refine wp_st (pc' := 25) (L' := [some (.ref 0), some (.int a1), some (.int a2), some (.ref 91), none]) (st' := [.int 0]) (h' := Hp S4) 2 (fun Z => rfl) ?_
      exact wp_ret (fun Z => rfl) ⟨_, _, rfl, rfl, hw⟩
  · rcases hw with ⟨rfl, hw⟩
    refine Or.inr ⟨0, 22, [some (.ref 0), some (.int a1), some (.int a2), some (.ref 91), none], rfl, fun Z => rfl, ?_⟩
    refine wp_st (pc' := 23) (L' := [some (.ref 0), some (.int a1), some (.int a2), some (.ref 91), none]) (st' := [.int 1]) (h' := Hp S5) 1 (fun Z => rfl) ?_
    exact wp_ret (fun Z => rfl) ⟨_, _, rfl, rfl, hw⟩
set_option maxRecDepth 4000 in
theorem w_law_soothe {E : zX} {d : Nat} {S : St} {a1 : Int32} {a2 : Int32} {Q : Int32 → St → Prop} (hd : 1 ≤ d) 
    (hw : k_x_soothe E (d - 1) S a1 a2 (fun x1 S2 =>
    ∀ S3, S3 = upA S2 91 (Int32.toInt64 x1) →
      Q (0 : Int32) S3)
    (fun x S4 =>
    (x = 0 ∧
    Q (1 : Int32) S4))) :
    k_law_soothe E d S a1 a2 Q := by
  obtain ⟨d, rfl⟩ := Nat.exists_eq_add_of_le' hd
  show wp E (d + 1) m_law_soothe 0 [some (.ref 0), some (.int a1), some (.int a2), some (.ref 91), none] [] (Hp S) (QI Q)
  refine wp_st (pc' := 5) (L' := [some (.ref 0), some (.int a1), some (.int a2), some (.ref 91), none]) (st' := [.int a2, .int a1, .ref 0, .int 0, .ref 91]) (h' := Hp S) 5 (fun Z => rfl) ?_
  refine wp_callH (pc' := 8) (rest := [.int 0, .ref 91]) (fun Z => rfl) (isO_of sh0) hw ?_
  rintro o h1 (⟨x1, S2, rfl, rfl, hw⟩ | ⟨x, S4, rfl, rfl, hw⟩)
  · refine Or.inl ⟨_, rfl, ?_⟩
    show wp E (d + 1) m_law_soothe 8 [some (.ref 0), some (.int a1), some (.int a2), some (.ref 91), none] [.int x1, .int 0, .ref 91] (Hp S2) (QI Q)
    refine wp_st (pc' := 9) (L' := [some (.ref 0), some (.int a1), some (.int a2), some (.ref 91), none]) (st' := [.long (Int32.toInt64 x1), .int 0, .ref 91]) (h' := Hp S2) 1 (fun Z => rfl) ?_
    have hw := hw _ rfl
    refine wp_st (pc' := 10) (L' := [some (.ref 0), some (.int a1), some (.int a2), some (.ref 91), none]) (st' := []) (h' := Hp (upA S2 91 (Int32.toInt64 x1))) 1 (fun Z => stJ0 sh91 _) ?_
    generalize upA S2 91 (Int32.toInt64 x1) = S3 at hw ⊢
    refine wp_st (pc' := 18) (L' := [some (.ref 0), some (.int a1), some (.int a2), some (.ref 91), none]) (st' := [.int 0]) (h' := Hp S3) 2 (fun Z => rfl) ?_
    exact wp_ret (fun Z => rfl) ⟨_, _, rfl, rfl, hw⟩
  · rcases hw with ⟨rfl, hw⟩
    refine Or.inr ⟨0, 15, [some (.ref 0), some (.int a1), some (.int a2), some (.ref 91), none], rfl, fun Z => rfl, ?_⟩
    refine wp_st (pc' := 16) (L' := [some (.ref 0), some (.int a1), some (.int a2), some (.ref 91), none]) (st' := [.int 1]) (h' := Hp S4) 1 (fun Z => rfl) ?_
    exact wp_ret (fun Z => rfl) ⟨_, _, rfl, rfl, hw⟩
set_option maxRecDepth 4000 in
theorem w_law_then {E : zX} {d : Nat} {S : St} {a1 : Int32} {a2 : Int32} {a3 : Int32} {Q : Int32 → St → Prop} (hd : 1 ≤ d) 
    (hw : k_x_then E (d - 1) S a1 a2 a3 (fun x1 S2 =>
    ∀ S3, S3 = upA S2 91 (Int32.toInt64 x1) →
      Q (0 : Int32) S3)
    (fun x S4 =>
    (x = 0 ∧
    Q (1 : Int32) S4) ∨ (x = 1 ∧
    Q (2 : Int32) S4))) :
    k_law_then E d S a1 a2 a3 Q := by
  obtain ⟨d, rfl⟩ := Nat.exists_eq_add_of_le' hd
  show wp E (d + 1) m_law_then 0 [some (.ref 0), some (.int a1), some (.int a2), some (.int a3), some (.ref 91), none] [] (Hp S) (QI Q)
  refine wp_st (pc' := 7) (L' := [some (.ref 0), some (.int a1), some (.int a2), some (.int a3), some (.ref 91), none]) (st' := [.int a3, .int a2, .int a1, .ref 0, .int 0, .ref 91]) (h' := Hp S) 6 (fun Z => rfl) ?_
  refine wp_callH (pc' := 10) (rest := [.int 0, .ref 91]) (fun Z => rfl) (isO_of sh0) hw ?_
  rintro o h1 (⟨x1, S2, rfl, rfl, hw⟩ | ⟨x, S4, rfl, rfl, hw⟩)
  · refine Or.inl ⟨_, rfl, ?_⟩
    show wp E (d + 1) m_law_then 10 [some (.ref 0), some (.int a1), some (.int a2), some (.int a3), some (.ref 91), none] [.int x1, .int 0, .ref 91] (Hp S2) (QI Q)
    refine wp_st (pc' := 11) (L' := [some (.ref 0), some (.int a1), some (.int a2), some (.int a3), some (.ref 91), none]) (st' := [.long (Int32.toInt64 x1), .int 0, .ref 91]) (h' := Hp S2) 1 (fun Z => rfl) ?_
    have hw := hw _ rfl
    refine wp_st (pc' := 12) (L' := [some (.ref 0), some (.int a1), some (.int a2), some (.int a3), some (.ref 91), none]) (st' := []) (h' := Hp (upA S2 91 (Int32.toInt64 x1))) 1 (fun Z => stJ0 sh91 _) ?_
    generalize upA S2 91 (Int32.toInt64 x1) = S3 at hw ⊢
    refine wp_st (pc' := 24) (L' := [some (.ref 0), some (.int a1), some (.int a2), some (.int a3), some (.ref 91), none]) (st' := [.int 0]) (h' := Hp S3) 2 (fun Z => rfl) ?_
    exact wp_ret (fun Z => rfl) ⟨_, _, rfl, rfl, hw⟩
  · rcases hw with ⟨rfl, hw⟩ | ⟨rfl, hw⟩
    · refine Or.inr ⟨0, 17, [some (.ref 0), some (.int a1), some (.int a2), some (.int a3), some (.ref 91), none], rfl, fun Z => rfl, ?_⟩
      refine wp_st (pc' := 18) (L' := [some (.ref 0), some (.int a1), some (.int a2), some (.int a3), some (.ref 91), none]) (st' := [.int 1]) (h' := Hp S4) 1 (fun Z => rfl) ?_
      exact wp_ret (fun Z => rfl) ⟨_, _, rfl, rfl, hw⟩
    · refine Or.inr ⟨1, 21, [some (.ref 0), some (.int a1), some (.int a2), some (.int a3), some (.ref 91), none], rfl, fun Z => rfl, ?_⟩
      refine wp_st (pc' := 22) (L' := [some (.ref 0), some (.int a1), some (.int a2), some (.int a3), some (.ref 91), none]) (st' := [.int 2]) (h' := Hp S4) 1 (fun Z => rfl) ?_
      exact wp_ret (fun Z => rfl) ⟨_, _, rfl, rfl, hw⟩
set_option maxRecDepth 4000 in
theorem w_law_mood {E : zX} {d : Nat} {S : St} {a1 : Int32} {a2 : Int32} {a3 : Int32} {Q : Int32 → St → Prop} (hd : 1 ≤ d) 
    (hw : k_x_mood E (d - 1) S a1 a2 a3 (fun x1 S2 =>
    ∀ S3, S3 = upA S2 91 (Int32.toInt64 x1) →
      Q (0 : Int32) S3)
    (fun x S4 =>
    (x = 0 ∧
    Q (1 : Int32) S4) ∨ (x = 1 ∧
    Q (2 : Int32) S4))) :
    k_law_mood E d S a1 a2 a3 Q := by
  obtain ⟨d, rfl⟩ := Nat.exists_eq_add_of_le' hd
  show wp E (d + 1) m_law_mood 0 [some (.ref 0), some (.int a1), some (.int a2), some (.int a3), some (.ref 91), none] [] (Hp S) (QI Q)
  refine wp_st (pc' := 7) (L' := [some (.ref 0), some (.int a1), some (.int a2), some (.int a3), some (.ref 91), none]) (st' := [.int a3, .int a2, .int a1, .ref 0, .int 0, .ref 91]) (h' := Hp S) 6 (fun Z => rfl) ?_
  refine wp_callH (pc' := 10) (rest := [.int 0, .ref 91]) (fun Z => rfl) (isO_of sh0) hw ?_
  rintro o h1 (⟨x1, S2, rfl, rfl, hw⟩ | ⟨x, S4, rfl, rfl, hw⟩)
  · refine Or.inl ⟨_, rfl, ?_⟩
    show wp E (d + 1) m_law_mood 10 [some (.ref 0), some (.int a1), some (.int a2), some (.int a3), some (.ref 91), none] [.int x1, .int 0, .ref 91] (Hp S2) (QI Q)
    refine wp_st (pc' := 11) (L' := [some (.ref 0), some (.int a1), some (.int a2), some (.int a3), some (.ref 91), none]) (st' := [.long (Int32.toInt64 x1), .int 0, .ref 91]) (h' := Hp S2) 1 (fun Z => rfl) ?_
    have hw := hw _ rfl
    refine wp_st (pc' := 12) (L' := [some (.ref 0), some (.int a1), some (.int a2), some (.int a3), some (.ref 91), none]) (st' := []) (h' := Hp (upA S2 91 (Int32.toInt64 x1))) 1 (fun Z => stJ0 sh91 _) ?_
    generalize upA S2 91 (Int32.toInt64 x1) = S3 at hw ⊢
    refine wp_st (pc' := 24) (L' := [some (.ref 0), some (.int a1), some (.int a2), some (.int a3), some (.ref 91), none]) (st' := [.int 0]) (h' := Hp S3) 2 (fun Z => rfl) ?_
    exact wp_ret (fun Z => rfl) ⟨_, _, rfl, rfl, hw⟩
  · rcases hw with ⟨rfl, hw⟩ | ⟨rfl, hw⟩
    · refine Or.inr ⟨0, 17, [some (.ref 0), some (.int a1), some (.int a2), some (.int a3), some (.ref 91), none], rfl, fun Z => rfl, ?_⟩
      refine wp_st (pc' := 18) (L' := [some (.ref 0), some (.int a1), some (.int a2), some (.int a3), some (.ref 91), none]) (st' := [.int 1]) (h' := Hp S4) 1 (fun Z => rfl) ?_
      exact wp_ret (fun Z => rfl) ⟨_, _, rfl, rfl, hw⟩
    · refine Or.inr ⟨1, 21, [some (.ref 0), some (.int a1), some (.int a2), some (.int a3), some (.ref 91), none], rfl, fun Z => rfl, ?_⟩
      refine wp_st (pc' := 22) (L' := [some (.ref 0), some (.int a1), some (.int a2), some (.int a3), some (.ref 91), none]) (st' := [.int 2]) (h' := Hp S4) 1 (fun Z => rfl) ?_
      exact wp_ret (fun Z => rfl) ⟨_, _, rfl, rfl, hw⟩
set_option maxRecDepth 4000 in
theorem w_law_off {E : zX} {d : Nat} {S : St} {a1 : Int32} {Q : Int32 → St → Prop} (hd : 1 ≤ d) 
    (hw : k_x_off E (d - 1) S a1 (fun x1 S2 =>
    ∀ S3, S3 = upA S2 91 (Int32.toInt64 x1) →
      Q (0 : Int32) S3)
    (fun x S4 =>
    (x = 0 ∧
    Q (1 : Int32) S4))) :
    k_law_off E d S a1 Q := by
  obtain ⟨d, rfl⟩ := Nat.exists_eq_add_of_le' hd
  show wp E (d + 1) m_law_off 0 [some (.ref 0), some (.int a1), some (.ref 91), none] [] (Hp S) (QI Q)
  refine wp_st (pc' := 4) (L' := [some (.ref 0), some (.int a1), some (.ref 91), none]) (st' := [.int a1, .ref 0, .int 0, .ref 91]) (h' := Hp S) 4 (fun Z => rfl) ?_
  refine wp_callH (pc' := 7) (rest := [.int 0, .ref 91]) (fun Z => rfl) (isO_of sh0) hw ?_
  rintro o h1 (⟨x1, S2, rfl, rfl, hw⟩ | ⟨x, S4, rfl, rfl, hw⟩)
  · refine Or.inl ⟨_, rfl, ?_⟩
    show wp E (d + 1) m_law_off 7 [some (.ref 0), some (.int a1), some (.ref 91), none] [.int x1, .int 0, .ref 91] (Hp S2) (QI Q)
    refine wp_st (pc' := 8) (L' := [some (.ref 0), some (.int a1), some (.ref 91), none]) (st' := [.long (Int32.toInt64 x1), .int 0, .ref 91]) (h' := Hp S2) 1 (fun Z => rfl) ?_
    have hw := hw _ rfl
    refine wp_st (pc' := 9) (L' := [some (.ref 0), some (.int a1), some (.ref 91), none]) (st' := []) (h' := Hp (upA S2 91 (Int32.toInt64 x1))) 1 (fun Z => stJ0 sh91 _) ?_
    generalize upA S2 91 (Int32.toInt64 x1) = S3 at hw ⊢
    refine wp_st (pc' := 16) (L' := [some (.ref 0), some (.int a1), some (.ref 91), none]) (st' := [.int 0]) (h' := Hp S3) 2 (fun Z => rfl) ?_
    exact wp_ret (fun Z => rfl) ⟨_, _, rfl, rfl, hw⟩
  · rcases hw with ⟨rfl, hw⟩
    refine Or.inr ⟨0, 13, [some (.ref 0), some (.int a1), some (.ref 91), none], rfl, fun Z => rfl, ?_⟩
    refine wp_st (pc' := 14) (L' := [some (.ref 0), some (.int a1), some (.ref 91), none]) (st' := [.int 1]) (h' := Hp S4) 1 (fun Z => rfl) ?_
    exact wp_ret (fun Z => rfl) ⟨_, _, rfl, rfl, hw⟩
set_option maxRecDepth 4000 in
theorem w_law_later {E : zX} {d : Nat} {S : St} {a1 : Int32} {a2 : Int32} {Q : Int32 → St → Prop} (hd : 1 ≤ d) 
    (hw : k_x_later E (d - 1) S a1 a2 (fun x1 S2 =>
    ∀ S3, S3 = upA S2 91 (Int32.toInt64 x1) →
      Q (0 : Int32) S3)
    (fun x S4 =>
    (x = 0 ∧
    Q (1 : Int32) S4) ∨ (x = 1 ∧
    Q (2 : Int32) S4))) :
    k_law_later E d S a1 a2 Q := by
  obtain ⟨d, rfl⟩ := Nat.exists_eq_add_of_le' hd
  show wp E (d + 1) m_law_later 0 [some (.ref 0), some (.int a1), some (.int a2), some (.ref 91), none] [] (Hp S) (QI Q)
  refine wp_st (pc' := 5) (L' := [some (.ref 0), some (.int a1), some (.int a2), some (.ref 91), none]) (st' := [.int a2, .int a1, .ref 0, .int 0, .ref 91]) (h' := Hp S) 5 (fun Z => rfl) ?_
  refine wp_callH (pc' := 8) (rest := [.int 0, .ref 91]) (fun Z => rfl) (isO_of sh0) hw ?_
  rintro o h1 (⟨x1, S2, rfl, rfl, hw⟩ | ⟨x, S4, rfl, rfl, hw⟩)
  · refine Or.inl ⟨_, rfl, ?_⟩
    show wp E (d + 1) m_law_later 8 [some (.ref 0), some (.int a1), some (.int a2), some (.ref 91), none] [.int x1, .int 0, .ref 91] (Hp S2) (QI Q)
    refine wp_st (pc' := 9) (L' := [some (.ref 0), some (.int a1), some (.int a2), some (.ref 91), none]) (st' := [.long (Int32.toInt64 x1), .int 0, .ref 91]) (h' := Hp S2) 1 (fun Z => rfl) ?_
    have hw := hw _ rfl
    refine wp_st (pc' := 10) (L' := [some (.ref 0), some (.int a1), some (.int a2), some (.ref 91), none]) (st' := []) (h' := Hp (upA S2 91 (Int32.toInt64 x1))) 1 (fun Z => stJ0 sh91 _) ?_
    generalize upA S2 91 (Int32.toInt64 x1) = S3 at hw ⊢
    refine wp_st (pc' := 22) (L' := [some (.ref 0), some (.int a1), some (.int a2), some (.ref 91), none]) (st' := [.int 0]) (h' := Hp S3) 2 (fun Z => rfl) ?_
    exact wp_ret (fun Z => rfl) ⟨_, _, rfl, rfl, hw⟩
  · rcases hw with ⟨rfl, hw⟩ | ⟨rfl, hw⟩
    · refine Or.inr ⟨0, 15, [some (.ref 0), some (.int a1), some (.int a2), some (.ref 91), none], rfl, fun Z => rfl, ?_⟩
      refine wp_st (pc' := 16) (L' := [some (.ref 0), some (.int a1), some (.int a2), some (.ref 91), none]) (st' := [.int 1]) (h' := Hp S4) 1 (fun Z => rfl) ?_
      exact wp_ret (fun Z => rfl) ⟨_, _, rfl, rfl, hw⟩
    · refine Or.inr ⟨1, 19, [some (.ref 0), some (.int a1), some (.int a2), some (.ref 91), none], rfl, fun Z => rfl, ?_⟩
      refine wp_st (pc' := 20) (L' := [some (.ref 0), some (.int a1), some (.int a2), some (.ref 91), none]) (st' := [.int 2]) (h' := Hp S4) 1 (fun Z => rfl) ?_
      exact wp_ret (fun Z => rfl) ⟨_, _, rfl, rfl, hw⟩
set_option maxRecDepth 4000 in
theorem w_law_toGuard {E : zX} {d : Nat} {S : St} {a1 : Int32} {a2 : Int32} {Q : Int32 → St → Prop} (hd : 1 ≤ d) 
    (hw : k_x_toGuard E (d - 1) S a1 a2 (fun x1 S2 =>
    ∀ S3, S3 = upA S2 91 (Int32.toInt64 x1) →
      Q (0 : Int32) S3)
    (fun x S4 =>
    (x = 0 ∧
    Q (1 : Int32) S4))) :
    k_law_toGuard E d S a1 a2 Q := by
  obtain ⟨d, rfl⟩ := Nat.exists_eq_add_of_le' hd
  show wp E (d + 1) m_law_toGuard 0 [some (.ref 0), some (.int a1), some (.int a2), some (.ref 91), none] [] (Hp S) (QI Q)
  refine wp_st (pc' := 5) (L' := [some (.ref 0), some (.int a1), some (.int a2), some (.ref 91), none]) (st' := [.int a2, .int a1, .ref 0, .int 0, .ref 91]) (h' := Hp S) 5 (fun Z => rfl) ?_
  refine wp_callH (pc' := 8) (rest := [.int 0, .ref 91]) (fun Z => rfl) (isO_of sh0) hw ?_
  rintro o h1 (⟨x1, S2, rfl, rfl, hw⟩ | ⟨x, S4, rfl, rfl, hw⟩)
  · refine Or.inl ⟨_, rfl, ?_⟩
    show wp E (d + 1) m_law_toGuard 8 [some (.ref 0), some (.int a1), some (.int a2), some (.ref 91), none] [.int x1, .int 0, .ref 91] (Hp S2) (QI Q)
    refine wp_st (pc' := 9) (L' := [some (.ref 0), some (.int a1), some (.int a2), some (.ref 91), none]) (st' := [.long (Int32.toInt64 x1), .int 0, .ref 91]) (h' := Hp S2) 1 (fun Z => rfl) ?_
    have hw := hw _ rfl
    refine wp_st (pc' := 10) (L' := [some (.ref 0), some (.int a1), some (.int a2), some (.ref 91), none]) (st' := []) (h' := Hp (upA S2 91 (Int32.toInt64 x1))) 1 (fun Z => stJ0 sh91 _) ?_
    generalize upA S2 91 (Int32.toInt64 x1) = S3 at hw ⊢
    refine wp_st (pc' := 18) (L' := [some (.ref 0), some (.int a1), some (.int a2), some (.ref 91), none]) (st' := [.int 0]) (h' := Hp S3) 2 (fun Z => rfl) ?_
    exact wp_ret (fun Z => rfl) ⟨_, _, rfl, rfl, hw⟩
  · rcases hw with ⟨rfl, hw⟩
    refine Or.inr ⟨0, 15, [some (.ref 0), some (.int a1), some (.int a2), some (.ref 91), none], rfl, fun Z => rfl, ?_⟩
    refine wp_st (pc' := 16) (L' := [some (.ref 0), some (.int a1), some (.int a2), some (.ref 91), none]) (st' := [.int 1]) (h' := Hp S4) 1 (fun Z => rfl) ?_
    exact wp_ret (fun Z => rfl) ⟨_, _, rfl, rfl, hw⟩
set_option maxRecDepth 4000 in
theorem w_law_fire {E : zX} {d : Nat} {S : St} {a1 : Int32} {a2 : Int32} {Q : Int32 → St → Prop} (hd : 1 ≤ d) 
    (hw : k_x_fire E (d - 1) S a1 a2 (fun x1 S2 =>
    ∀ S3, S3 = upA S2 91 (Int32.toInt64 x1) →
      Q (0 : Int32) S3)
    (fun x S4 =>
    (x = 0 ∧
    Q (1 : Int32) S4))) :
    k_law_fire E d S a1 a2 Q := by
  obtain ⟨d, rfl⟩ := Nat.exists_eq_add_of_le' hd
  show wp E (d + 1) m_law_fire 0 [some (.ref 0), some (.int a1), some (.int a2), some (.ref 91), none] [] (Hp S) (QI Q)
  refine wp_st (pc' := 5) (L' := [some (.ref 0), some (.int a1), some (.int a2), some (.ref 91), none]) (st' := [.int a2, .int a1, .ref 0, .int 0, .ref 91]) (h' := Hp S) 5 (fun Z => rfl) ?_
  refine wp_callH (pc' := 8) (rest := [.int 0, .ref 91]) (fun Z => rfl) (isO_of sh0) hw ?_
  rintro o h1 (⟨x1, S2, rfl, rfl, hw⟩ | ⟨x, S4, rfl, rfl, hw⟩)
  · refine Or.inl ⟨_, rfl, ?_⟩
    show wp E (d + 1) m_law_fire 8 [some (.ref 0), some (.int a1), some (.int a2), some (.ref 91), none] [.int x1, .int 0, .ref 91] (Hp S2) (QI Q)
    refine wp_st (pc' := 9) (L' := [some (.ref 0), some (.int a1), some (.int a2), some (.ref 91), none]) (st' := [.long (Int32.toInt64 x1), .int 0, .ref 91]) (h' := Hp S2) 1 (fun Z => rfl) ?_
    have hw := hw _ rfl
    refine wp_st (pc' := 10) (L' := [some (.ref 0), some (.int a1), some (.int a2), some (.ref 91), none]) (st' := []) (h' := Hp (upA S2 91 (Int32.toInt64 x1))) 1 (fun Z => stJ0 sh91 _) ?_
    generalize upA S2 91 (Int32.toInt64 x1) = S3 at hw ⊢
    refine wp_st (pc' := 18) (L' := [some (.ref 0), some (.int a1), some (.int a2), some (.ref 91), none]) (st' := [.int 0]) (h' := Hp S3) 2 (fun Z => rfl) ?_
    exact wp_ret (fun Z => rfl) ⟨_, _, rfl, rfl, hw⟩
  · rcases hw with ⟨rfl, hw⟩
    refine Or.inr ⟨0, 15, [some (.ref 0), some (.int a1), some (.int a2), some (.ref 91), none], rfl, fun Z => rfl, ?_⟩
    refine wp_st (pc' := 16) (L' := [some (.ref 0), some (.int a1), some (.int a2), some (.ref 91), none]) (st' := [.int 1]) (h' := Hp S4) 1 (fun Z => rfl) ?_
    exact wp_ret (fun Z => rfl) ⟨_, _, rfl, rfl, hw⟩
set_option maxRecDepth 4000 in
theorem w_law_pram {E : zX} {d : Nat} {S : St} {a1 : Int32} {a2 : Int32} {a3 : Int32} {Q : Int32 → St → Prop} (hd : 1 ≤ d) 
    (hw : k_x_pram E (d - 1) S a1 a2 a3 (fun x1 S2 =>
    ∀ S3, S3 = upA S2 91 (Int32.toInt64 x1) →
      Q (0 : Int32) S3)
    (fun x S4 =>
    (x = 0 ∧
    Q (1 : Int32) S4))) :
    k_law_pram E d S a1 a2 a3 Q := by
  obtain ⟨d, rfl⟩ := Nat.exists_eq_add_of_le' hd
  show wp E (d + 1) m_law_pram 0 [some (.ref 0), some (.int a1), some (.int a2), some (.int a3), some (.ref 91), none] [] (Hp S) (QI Q)
  refine wp_st (pc' := 7) (L' := [some (.ref 0), some (.int a1), some (.int a2), some (.int a3), some (.ref 91), none]) (st' := [.int a3, .int a2, .int a1, .ref 0, .int 0, .ref 91]) (h' := Hp S) 6 (fun Z => rfl) ?_
  refine wp_callH (pc' := 10) (rest := [.int 0, .ref 91]) (fun Z => rfl) (isO_of sh0) hw ?_
  rintro o h1 (⟨x1, S2, rfl, rfl, hw⟩ | ⟨x, S4, rfl, rfl, hw⟩)
  · refine Or.inl ⟨_, rfl, ?_⟩
    show wp E (d + 1) m_law_pram 10 [some (.ref 0), some (.int a1), some (.int a2), some (.int a3), some (.ref 91), none] [.int x1, .int 0, .ref 91] (Hp S2) (QI Q)
    refine wp_st (pc' := 11) (L' := [some (.ref 0), some (.int a1), some (.int a2), some (.int a3), some (.ref 91), none]) (st' := [.long (Int32.toInt64 x1), .int 0, .ref 91]) (h' := Hp S2) 1 (fun Z => rfl) ?_
    have hw := hw _ rfl
    refine wp_st (pc' := 12) (L' := [some (.ref 0), some (.int a1), some (.int a2), some (.int a3), some (.ref 91), none]) (st' := []) (h' := Hp (upA S2 91 (Int32.toInt64 x1))) 1 (fun Z => stJ0 sh91 _) ?_
    generalize upA S2 91 (Int32.toInt64 x1) = S3 at hw ⊢
    refine wp_st (pc' := 20) (L' := [some (.ref 0), some (.int a1), some (.int a2), some (.int a3), some (.ref 91), none]) (st' := [.int 0]) (h' := Hp S3) 2 (fun Z => rfl) ?_
    exact wp_ret (fun Z => rfl) ⟨_, _, rfl, rfl, hw⟩
  · rcases hw with ⟨rfl, hw⟩
    refine Or.inr ⟨0, 17, [some (.ref 0), some (.int a1), some (.int a2), some (.int a3), some (.ref 91), none], rfl, fun Z => rfl, ?_⟩
    refine wp_st (pc' := 18) (L' := [some (.ref 0), some (.int a1), some (.int a2), some (.int a3), some (.ref 91), none]) (st' := [.int 1]) (h' := Hp S4) 1 (fun Z => rfl) ?_
    exact wp_ret (fun Z => rfl) ⟨_, _, rfl, rfl, hw⟩
set_option maxRecDepth 4000 in
theorem w_law_putBy {E : zX} {d : Nat} {S : St} {a1 : Int32} {Q : Int32 → St → Prop} (hd : 1 ≤ d) 
    (hw : k_x_putBy E (d - 1) S a1 (fun x1 S2 =>
    ∀ S3, S3 = upA S2 91 (Int32.toInt64 x1) →
      Q (0 : Int32) S3)
    (fun x S4 =>
    (x = 0 ∧
    Q (1 : Int32) S4))) :
    k_law_putBy E d S a1 Q := by
  obtain ⟨d, rfl⟩ := Nat.exists_eq_add_of_le' hd
  show wp E (d + 1) m_law_putBy 0 [some (.ref 0), some (.int a1), some (.ref 91), none] [] (Hp S) (QI Q)
  refine wp_st (pc' := 4) (L' := [some (.ref 0), some (.int a1), some (.ref 91), none]) (st' := [.int a1, .ref 0, .int 0, .ref 91]) (h' := Hp S) 4 (fun Z => rfl) ?_
  refine wp_callH (pc' := 7) (rest := [.int 0, .ref 91]) (fun Z => rfl) (isO_of sh0) hw ?_
  rintro o h1 (⟨x1, S2, rfl, rfl, hw⟩ | ⟨x, S4, rfl, rfl, hw⟩)
  · refine Or.inl ⟨_, rfl, ?_⟩
    show wp E (d + 1) m_law_putBy 7 [some (.ref 0), some (.int a1), some (.ref 91), none] [.int x1, .int 0, .ref 91] (Hp S2) (QI Q)
    refine wp_st (pc' := 8) (L' := [some (.ref 0), some (.int a1), some (.ref 91), none]) (st' := [.long (Int32.toInt64 x1), .int 0, .ref 91]) (h' := Hp S2) 1 (fun Z => rfl) ?_
    have hw := hw _ rfl
    refine wp_st (pc' := 9) (L' := [some (.ref 0), some (.int a1), some (.ref 91), none]) (st' := []) (h' := Hp (upA S2 91 (Int32.toInt64 x1))) 1 (fun Z => stJ0 sh91 _) ?_
    generalize upA S2 91 (Int32.toInt64 x1) = S3 at hw ⊢
    refine wp_st (pc' := 16) (L' := [some (.ref 0), some (.int a1), some (.ref 91), none]) (st' := [.int 0]) (h' := Hp S3) 2 (fun Z => rfl) ?_
    exact wp_ret (fun Z => rfl) ⟨_, _, rfl, rfl, hw⟩
  · rcases hw with ⟨rfl, hw⟩
    refine Or.inr ⟨0, 13, [some (.ref 0), some (.int a1), some (.ref 91), none], rfl, fun Z => rfl, ?_⟩
    refine wp_st (pc' := 14) (L' := [some (.ref 0), some (.int a1), some (.ref 91), none]) (st' := [.int 1]) (h' := Hp S4) 1 (fun Z => rfl) ?_
    exact wp_ret (fun Z => rfl) ⟨_, _, rfl, rfl, hw⟩
set_option maxRecDepth 4000 in
theorem w_law_put {E : zX} {d : Nat} {S : St} {a1 : Int32} {Q : Int32 → St → Prop} (hd : 1 ≤ d) 
    (hw : k_x_put E (d - 1) S a1 (fun x1 S2 =>
    ∀ S3, S3 = upA S2 91 (Int32.toInt64 x1) →
      Q (0 : Int32) S3)
    (fun x S4 =>
    (x = 0 ∧
    Q (1 : Int32) S4))) :
    k_law_put E d S a1 Q := by
  obtain ⟨d, rfl⟩ := Nat.exists_eq_add_of_le' hd
  show wp E (d + 1) m_law_put 0 [some (.ref 0), some (.int a1), some (.ref 91), none] [] (Hp S) (QI Q)
  refine wp_st (pc' := 4) (L' := [some (.ref 0), some (.int a1), some (.ref 91), none]) (st' := [.int a1, .ref 0, .int 0, .ref 91]) (h' := Hp S) 4 (fun Z => rfl) ?_
  refine wp_callH (pc' := 7) (rest := [.int 0, .ref 91]) (fun Z => rfl) (isO_of sh0) hw ?_
  rintro o h1 (⟨x1, S2, rfl, rfl, hw⟩ | ⟨x, S4, rfl, rfl, hw⟩)
  · refine Or.inl ⟨_, rfl, ?_⟩
    show wp E (d + 1) m_law_put 7 [some (.ref 0), some (.int a1), some (.ref 91), none] [.int x1, .int 0, .ref 91] (Hp S2) (QI Q)
    refine wp_st (pc' := 8) (L' := [some (.ref 0), some (.int a1), some (.ref 91), none]) (st' := [.long (Int32.toInt64 x1), .int 0, .ref 91]) (h' := Hp S2) 1 (fun Z => rfl) ?_
    have hw := hw _ rfl
    refine wp_st (pc' := 9) (L' := [some (.ref 0), some (.int a1), some (.ref 91), none]) (st' := []) (h' := Hp (upA S2 91 (Int32.toInt64 x1))) 1 (fun Z => stJ0 sh91 _) ?_
    generalize upA S2 91 (Int32.toInt64 x1) = S3 at hw ⊢
    refine wp_st (pc' := 16) (L' := [some (.ref 0), some (.int a1), some (.ref 91), none]) (st' := [.int 0]) (h' := Hp S3) 2 (fun Z => rfl) ?_
    exact wp_ret (fun Z => rfl) ⟨_, _, rfl, rfl, hw⟩
  · rcases hw with ⟨rfl, hw⟩
    refine Or.inr ⟨0, 13, [some (.ref 0), some (.int a1), some (.ref 91), none], rfl, fun Z => rfl, ?_⟩
    refine wp_st (pc' := 14) (L' := [some (.ref 0), some (.int a1), some (.ref 91), none]) (st' := [.int 1]) (h' := Hp S4) 1 (fun Z => rfl) ?_
    exact wp_ret (fun Z => rfl) ⟨_, _, rfl, rfl, hw⟩
set_option maxRecDepth 4000 in
theorem w_law_see {E : zX} {d : Nat} {S : St} {a1 : Int32} {a2 : Int32} {a3 : Int32} {Q : Int32 → St → Prop} (hd : 1 ≤ d) 
    (hw : k_x_see E (d - 1) S a1 a2 a3 (fun x1 S2 =>
    ∀ S3, S3 = upA S2 91 (Int32.toInt64 x1) →
      Q (0 : Int32) S3)
    (fun x S4 =>
    (x = 0 ∧
    Q (1 : Int32) S4))) :
    k_law_see E d S a1 a2 a3 Q := by
  obtain ⟨d, rfl⟩ := Nat.exists_eq_add_of_le' hd
  show wp E (d + 1) m_law_see 0 [some (.ref 0), some (.int a1), some (.int a2), some (.int a3), some (.ref 91), none] [] (Hp S) (QI Q)
  refine wp_st (pc' := 7) (L' := [some (.ref 0), some (.int a1), some (.int a2), some (.int a3), some (.ref 91), none]) (st' := [.int a3, .int a2, .int a1, .ref 0, .int 0, .ref 91]) (h' := Hp S) 6 (fun Z => rfl) ?_
  refine wp_callH (pc' := 10) (rest := [.int 0, .ref 91]) (fun Z => rfl) (isO_of sh0) hw ?_
  rintro o h1 (⟨x1, S2, rfl, rfl, hw⟩ | ⟨x, S4, rfl, rfl, hw⟩)
  · refine Or.inl ⟨_, rfl, ?_⟩
    show wp E (d + 1) m_law_see 10 [some (.ref 0), some (.int a1), some (.int a2), some (.int a3), some (.ref 91), none] [.int x1, .int 0, .ref 91] (Hp S2) (QI Q)
    refine wp_st (pc' := 11) (L' := [some (.ref 0), some (.int a1), some (.int a2), some (.int a3), some (.ref 91), none]) (st' := [.long (Int32.toInt64 x1), .int 0, .ref 91]) (h' := Hp S2) 1 (fun Z => rfl) ?_
    have hw := hw _ rfl
    refine wp_st (pc' := 12) (L' := [some (.ref 0), some (.int a1), some (.int a2), some (.int a3), some (.ref 91), none]) (st' := []) (h' := Hp (upA S2 91 (Int32.toInt64 x1))) 1 (fun Z => stJ0 sh91 _) ?_
    generalize upA S2 91 (Int32.toInt64 x1) = S3 at hw ⊢
    refine wp_st (pc' := 20) (L' := [some (.ref 0), some (.int a1), some (.int a2), some (.int a3), some (.ref 91), none]) (st' := [.int 0]) (h' := Hp S3) 2 (fun Z => rfl) ?_
    exact wp_ret (fun Z => rfl) ⟨_, _, rfl, rfl, hw⟩
  · rcases hw with ⟨rfl, hw⟩
    refine Or.inr ⟨0, 17, [some (.ref 0), some (.int a1), some (.int a2), some (.int a3), some (.ref 91), none], rfl, fun Z => rfl, ?_⟩
    refine wp_st (pc' := 18) (L' := [some (.ref 0), some (.int a1), some (.int a2), some (.int a3), some (.ref 91), none]) (st' := [.int 1]) (h' := Hp S4) 1 (fun Z => rfl) ?_
    exact wp_ret (fun Z => rfl) ⟨_, _, rfl, rfl, hw⟩
set_option maxRecDepth 4000 in
theorem w_law_milder {E : zX} {d : Nat} {S : St} {a1 : Int32} {Q : Int32 → St → Prop} (hd : 1 ≤ d) 
    (hw : k_x_milder E (d - 1) S a1 (fun x1 S2 =>
    ∀ S3, S3 = upA S2 91 (Int32.toInt64 x1) →
      Q (0 : Int32) S3)
    (fun x S4 =>
    (x = 0 ∧
    Q (1 : Int32) S4))) :
    k_law_milder E d S a1 Q := by
  obtain ⟨d, rfl⟩ := Nat.exists_eq_add_of_le' hd
  show wp E (d + 1) m_law_milder 0 [some (.ref 0), some (.int a1), some (.ref 91), none] [] (Hp S) (QI Q)
  refine wp_st (pc' := 4) (L' := [some (.ref 0), some (.int a1), some (.ref 91), none]) (st' := [.int a1, .ref 0, .int 0, .ref 91]) (h' := Hp S) 4 (fun Z => rfl) ?_
  refine wp_callH (pc' := 7) (rest := [.int 0, .ref 91]) (fun Z => rfl) (isO_of sh0) hw ?_
  rintro o h1 (⟨x1, S2, rfl, rfl, hw⟩ | ⟨x, S4, rfl, rfl, hw⟩)
  · refine Or.inl ⟨_, rfl, ?_⟩
    show wp E (d + 1) m_law_milder 7 [some (.ref 0), some (.int a1), some (.ref 91), none] [.int x1, .int 0, .ref 91] (Hp S2) (QI Q)
    refine wp_st (pc' := 8) (L' := [some (.ref 0), some (.int a1), some (.ref 91), none]) (st' := [.long (Int32.toInt64 x1), .int 0, .ref 91]) (h' := Hp S2) 1 (fun Z => rfl) ?_
    have hw := hw _ rfl
    refine wp_st (pc' := 9) (L' := [some (.ref 0), some (.int a1), some (.ref 91), none]) (st' := []) (h' := Hp (upA S2 91 (Int32.toInt64 x1))) 1 (fun Z => stJ0 sh91 _) ?_
    generalize upA S2 91 (Int32.toInt64 x1) = S3 at hw ⊢
    refine wp_st (pc' := 16) (L' := [some (.ref 0), some (.int a1), some (.ref 91), none]) (st' := [.int 0]) (h' := Hp S3) 2 (fun Z => rfl) ?_
    exact wp_ret (fun Z => rfl) ⟨_, _, rfl, rfl, hw⟩
  · rcases hw with ⟨rfl, hw⟩
    refine Or.inr ⟨0, 13, [some (.ref 0), some (.int a1), some (.ref 91), none], rfl, fun Z => rfl, ?_⟩
    refine wp_st (pc' := 14) (L' := [some (.ref 0), some (.int a1), some (.ref 91), none]) (st' := [.int 1]) (h' := Hp S4) 1 (fun Z => rfl) ?_
    exact wp_ret (fun Z => rfl) ⟨_, _, rfl, rfl, hw⟩
set_option maxRecDepth 4000 in
theorem w_law_look {E : zX} {d : Nat} {S : St} {a1 : Int32} {Q : Int32 → St → Prop} (hd : 1 ≤ d) 
    (hw : k_x_look E (d - 1) S a1 (fun x1 S2 =>
    ∀ S3, S3 = upA S2 91 (Int32.toInt64 x1) →
      Q (0 : Int32) S3)
    (fun x S4 =>
    (x = 0 ∧
    Q (1 : Int32) S4))) :
    k_law_look E d S a1 Q := by
  obtain ⟨d, rfl⟩ := Nat.exists_eq_add_of_le' hd
  show wp E (d + 1) m_law_look 0 [some (.ref 0), some (.int a1), some (.ref 91), none] [] (Hp S) (QI Q)
  refine wp_st (pc' := 4) (L' := [some (.ref 0), some (.int a1), some (.ref 91), none]) (st' := [.int a1, .ref 0, .int 0, .ref 91]) (h' := Hp S) 4 (fun Z => rfl) ?_
  refine wp_callH (pc' := 7) (rest := [.int 0, .ref 91]) (fun Z => rfl) (isO_of sh0) hw ?_
  rintro o h1 (⟨x1, S2, rfl, rfl, hw⟩ | ⟨x, S4, rfl, rfl, hw⟩)
  · refine Or.inl ⟨_, rfl, ?_⟩
    show wp E (d + 1) m_law_look 7 [some (.ref 0), some (.int a1), some (.ref 91), none] [.int x1, .int 0, .ref 91] (Hp S2) (QI Q)
    refine wp_st (pc' := 8) (L' := [some (.ref 0), some (.int a1), some (.ref 91), none]) (st' := [.long (Int32.toInt64 x1), .int 0, .ref 91]) (h' := Hp S2) 1 (fun Z => rfl) ?_
    have hw := hw _ rfl
    refine wp_st (pc' := 9) (L' := [some (.ref 0), some (.int a1), some (.ref 91), none]) (st' := []) (h' := Hp (upA S2 91 (Int32.toInt64 x1))) 1 (fun Z => stJ0 sh91 _) ?_
    generalize upA S2 91 (Int32.toInt64 x1) = S3 at hw ⊢
    refine wp_st (pc' := 16) (L' := [some (.ref 0), some (.int a1), some (.ref 91), none]) (st' := [.int 0]) (h' := Hp S3) 2 (fun Z => rfl) ?_
    exact wp_ret (fun Z => rfl) ⟨_, _, rfl, rfl, hw⟩
  · rcases hw with ⟨rfl, hw⟩
    refine Or.inr ⟨0, 13, [some (.ref 0), some (.int a1), some (.ref 91), none], rfl, fun Z => rfl, ?_⟩
    refine wp_st (pc' := 14) (L' := [some (.ref 0), some (.int a1), some (.ref 91), none]) (st' := [.int 1]) (h' := Hp S4) 1 (fun Z => rfl) ?_
    exact wp_ret (fun Z => rfl) ⟨_, _, rfl, rfl, hw⟩
set_option maxRecDepth 4000 in
theorem w_law_boys {E : zX} {d : Nat} {S : St} {a1 : Int32} {a2 : Int32} {a3 : Int32} {Q : Int32 → St → Prop} (hd : 1 ≤ d) 
    (hw : k_x_boys E (d - 1) S a1 a2 a3 (fun x1 S2 =>
    ∀ S3, S3 = upA S2 91 (Int32.toInt64 x1) →
      Q (0 : Int32) S3)
    (fun x S4 =>
    (x = 0 ∧
    Q (1 : Int32) S4) ∨ (x = 1 ∧
    Q (2 : Int32) S4))) :
    k_law_boys E d S a1 a2 a3 Q := by
  obtain ⟨d, rfl⟩ := Nat.exists_eq_add_of_le' hd
  show wp E (d + 1) m_law_boys 0 [some (.ref 0), some (.int a1), some (.int a2), some (.int a3), some (.ref 91), none] [] (Hp S) (QI Q)
  refine wp_st (pc' := 7) (L' := [some (.ref 0), some (.int a1), some (.int a2), some (.int a3), some (.ref 91), none]) (st' := [.int a3, .int a2, .int a1, .ref 0, .int 0, .ref 91]) (h' := Hp S) 6 (fun Z => rfl) ?_
  refine wp_callH (pc' := 10) (rest := [.int 0, .ref 91]) (fun Z => rfl) (isO_of sh0) hw ?_
  rintro o h1 (⟨x1, S2, rfl, rfl, hw⟩ | ⟨x, S4, rfl, rfl, hw⟩)
  · refine Or.inl ⟨_, rfl, ?_⟩
    show wp E (d + 1) m_law_boys 10 [some (.ref 0), some (.int a1), some (.int a2), some (.int a3), some (.ref 91), none] [.int x1, .int 0, .ref 91] (Hp S2) (QI Q)
    refine wp_st (pc' := 11) (L' := [some (.ref 0), some (.int a1), some (.int a2), some (.int a3), some (.ref 91), none]) (st' := [.long (Int32.toInt64 x1), .int 0, .ref 91]) (h' := Hp S2) 1 (fun Z => rfl) ?_
    have hw := hw _ rfl
    refine wp_st (pc' := 12) (L' := [some (.ref 0), some (.int a1), some (.int a2), some (.int a3), some (.ref 91), none]) (st' := []) (h' := Hp (upA S2 91 (Int32.toInt64 x1))) 1 (fun Z => stJ0 sh91 _) ?_
    generalize upA S2 91 (Int32.toInt64 x1) = S3 at hw ⊢
    refine wp_st (pc' := 24) (L' := [some (.ref 0), some (.int a1), some (.int a2), some (.int a3), some (.ref 91), none]) (st' := [.int 0]) (h' := Hp S3) 2 (fun Z => rfl) ?_
    exact wp_ret (fun Z => rfl) ⟨_, _, rfl, rfl, hw⟩
  · rcases hw with ⟨rfl, hw⟩ | ⟨rfl, hw⟩
    · refine Or.inr ⟨0, 17, [some (.ref 0), some (.int a1), some (.int a2), some (.int a3), some (.ref 91), none], rfl, fun Z => rfl, ?_⟩
      refine wp_st (pc' := 18) (L' := [some (.ref 0), some (.int a1), some (.int a2), some (.int a3), some (.ref 91), none]) (st' := [.int 1]) (h' := Hp S4) 1 (fun Z => rfl) ?_
      exact wp_ret (fun Z => rfl) ⟨_, _, rfl, rfl, hw⟩
    · refine Or.inr ⟨1, 21, [some (.ref 0), some (.int a1), some (.int a2), some (.int a3), some (.ref 91), none], rfl, fun Z => rfl, ?_⟩
      refine wp_st (pc' := 22) (L' := [some (.ref 0), some (.int a1), some (.int a2), some (.int a3), some (.ref 91), none]) (st' := [.int 2]) (h' := Hp S4) 1 (fun Z => rfl) ?_
      exact wp_ret (fun Z => rfl) ⟨_, _, rfl, rfl, hw⟩
set_option maxRecDepth 4000 in
theorem w_law_game {E : zX} {d : Nat} {S : St} {a1 : Int32} {a2 : Int32} {a3 : Int32} {Q : Int32 → St → Prop} (hd : 1 ≤ d) 
    (hw : k_x_game E (d - 1) S a1 a2 a3 (fun x1 S2 =>
    ∀ S3, S3 = upA S2 91 (Int32.toInt64 x1) →
      Q (0 : Int32) S3)
    (fun x S4 =>
    (x = 0 ∧
    Q (1 : Int32) S4) ∨ (x = 1 ∧
    Q (2 : Int32) S4))) :
    k_law_game E d S a1 a2 a3 Q := by
  obtain ⟨d, rfl⟩ := Nat.exists_eq_add_of_le' hd
  show wp E (d + 1) m_law_game 0 [some (.ref 0), some (.int a1), some (.int a2), some (.int a3), some (.ref 91), none] [] (Hp S) (QI Q)
  refine wp_st (pc' := 7) (L' := [some (.ref 0), some (.int a1), some (.int a2), some (.int a3), some (.ref 91), none]) (st' := [.int a3, .int a2, .int a1, .ref 0, .int 0, .ref 91]) (h' := Hp S) 6 (fun Z => rfl) ?_
  refine wp_callH (pc' := 10) (rest := [.int 0, .ref 91]) (fun Z => rfl) (isO_of sh0) hw ?_
  rintro o h1 (⟨x1, S2, rfl, rfl, hw⟩ | ⟨x, S4, rfl, rfl, hw⟩)
  · refine Or.inl ⟨_, rfl, ?_⟩
    show wp E (d + 1) m_law_game 10 [some (.ref 0), some (.int a1), some (.int a2), some (.int a3), some (.ref 91), none] [.int x1, .int 0, .ref 91] (Hp S2) (QI Q)
    refine wp_st (pc' := 11) (L' := [some (.ref 0), some (.int a1), some (.int a2), some (.int a3), some (.ref 91), none]) (st' := [.long (Int32.toInt64 x1), .int 0, .ref 91]) (h' := Hp S2) 1 (fun Z => rfl) ?_
    have hw := hw _ rfl
    refine wp_st (pc' := 12) (L' := [some (.ref 0), some (.int a1), some (.int a2), some (.int a3), some (.ref 91), none]) (st' := []) (h' := Hp (upA S2 91 (Int32.toInt64 x1))) 1 (fun Z => stJ0 sh91 _) ?_
    generalize upA S2 91 (Int32.toInt64 x1) = S3 at hw ⊢
    refine wp_st (pc' := 24) (L' := [some (.ref 0), some (.int a1), some (.int a2), some (.int a3), some (.ref 91), none]) (st' := [.int 0]) (h' := Hp S3) 2 (fun Z => rfl) ?_
    exact wp_ret (fun Z => rfl) ⟨_, _, rfl, rfl, hw⟩
  · rcases hw with ⟨rfl, hw⟩ | ⟨rfl, hw⟩
    · refine Or.inr ⟨0, 17, [some (.ref 0), some (.int a1), some (.int a2), some (.int a3), some (.ref 91), none], rfl, fun Z => rfl, ?_⟩
      refine wp_st (pc' := 18) (L' := [some (.ref 0), some (.int a1), some (.int a2), some (.int a3), some (.ref 91), none]) (st' := [.int 1]) (h' := Hp S4) 1 (fun Z => rfl) ?_
      exact wp_ret (fun Z => rfl) ⟨_, _, rfl, rfl, hw⟩
    · refine Or.inr ⟨1, 21, [some (.ref 0), some (.int a1), some (.int a2), some (.int a3), some (.ref 91), none], rfl, fun Z => rfl, ?_⟩
      refine wp_st (pc' := 22) (L' := [some (.ref 0), some (.int a1), some (.int a2), some (.int a3), some (.ref 91), none]) (st' := [.int 2]) (h' := Hp S4) 1 (fun Z => rfl) ?_
      exact wp_ret (fun Z => rfl) ⟨_, _, rfl, rfl, hw⟩
set_option maxRecDepth 4000 in
theorem w_law_years {E : zX} {d : Nat} {S : St} {a1 : Int32} {a2 : Int32} {a3 : Int32} {Q : Int32 → St → Prop} (hd : 1 ≤ d) 
    (hw : k_x_years E (d - 1) S a1 a2 a3 (fun x1 S2 =>
    ∀ S3, S3 = upA S2 91 (Int32.toInt64 x1) →
      Q (0 : Int32) S3)
    (fun x S4 =>
    (x = 0 ∧
    Q (1 : Int32) S4) ∨ (x = 1 ∧
    Q (2 : Int32) S4))) :
    k_law_years E d S a1 a2 a3 Q := by
  obtain ⟨d, rfl⟩ := Nat.exists_eq_add_of_le' hd
  show wp E (d + 1) m_law_years 0 [some (.ref 0), some (.int a1), some (.int a2), some (.int a3), some (.ref 91), none] [] (Hp S) (QI Q)
  refine wp_st (pc' := 7) (L' := [some (.ref 0), some (.int a1), some (.int a2), some (.int a3), some (.ref 91), none]) (st' := [.int a3, .int a2, .int a1, .ref 0, .int 0, .ref 91]) (h' := Hp S) 6 (fun Z => rfl) ?_
  refine wp_callH (pc' := 10) (rest := [.int 0, .ref 91]) (fun Z => rfl) (isO_of sh0) hw ?_
  rintro o h1 (⟨x1, S2, rfl, rfl, hw⟩ | ⟨x, S4, rfl, rfl, hw⟩)
  · refine Or.inl ⟨_, rfl, ?_⟩
    show wp E (d + 1) m_law_years 10 [some (.ref 0), some (.int a1), some (.int a2), some (.int a3), some (.ref 91), none] [.int x1, .int 0, .ref 91] (Hp S2) (QI Q)
    refine wp_st (pc' := 11) (L' := [some (.ref 0), some (.int a1), some (.int a2), some (.int a3), some (.ref 91), none]) (st' := [.long (Int32.toInt64 x1), .int 0, .ref 91]) (h' := Hp S2) 1 (fun Z => rfl) ?_
    have hw := hw _ rfl
    refine wp_st (pc' := 12) (L' := [some (.ref 0), some (.int a1), some (.int a2), some (.int a3), some (.ref 91), none]) (st' := []) (h' := Hp (upA S2 91 (Int32.toInt64 x1))) 1 (fun Z => stJ0 sh91 _) ?_
    generalize upA S2 91 (Int32.toInt64 x1) = S3 at hw ⊢
    refine wp_st (pc' := 24) (L' := [some (.ref 0), some (.int a1), some (.int a2), some (.int a3), some (.ref 91), none]) (st' := [.int 0]) (h' := Hp S3) 2 (fun Z => rfl) ?_
    exact wp_ret (fun Z => rfl) ⟨_, _, rfl, rfl, hw⟩
  · rcases hw with ⟨rfl, hw⟩ | ⟨rfl, hw⟩
    · refine Or.inr ⟨0, 17, [some (.ref 0), some (.int a1), some (.int a2), some (.int a3), some (.ref 91), none], rfl, fun Z => rfl, ?_⟩
      refine wp_st (pc' := 18) (L' := [some (.ref 0), some (.int a1), some (.int a2), some (.int a3), some (.ref 91), none]) (st' := [.int 1]) (h' := Hp S4) 1 (fun Z => rfl) ?_
      exact wp_ret (fun Z => rfl) ⟨_, _, rfl, rfl, hw⟩
    · refine Or.inr ⟨1, 21, [some (.ref 0), some (.int a1), some (.int a2), some (.int a3), some (.ref 91), none], rfl, fun Z => rfl, ?_⟩
      refine wp_st (pc' := 22) (L' := [some (.ref 0), some (.int a1), some (.int a2), some (.int a3), some (.ref 91), none]) (st' := [.int 2]) (h' := Hp S4) 1 (fun Z => rfl) ?_
      exact wp_ret (fun Z => rfl) ⟨_, _, rfl, rfl, hw⟩
set_option maxRecDepth 4000 in
theorem w_law_cell {E : zX} {d : Nat} {S : St} {a1 : Int32} {a2 : Int32} {Q : Int32 → St → Prop} (hd : 1 ≤ d) 
    (hw : k_x_cell E (d - 1) S a1 a2 (fun x1 S2 =>
    ∀ S3, S3 = upA S2 91 (Int32.toInt64 x1) →
      Q (0 : Int32) S3)
    (fun x S4 =>
    (x = 0 ∧
    Q (1 : Int32) S4))) :
    k_law_cell E d S a1 a2 Q := by
  obtain ⟨d, rfl⟩ := Nat.exists_eq_add_of_le' hd
  show wp E (d + 1) m_law_cell 0 [some (.ref 0), some (.int a1), some (.int a2), some (.ref 91), none] [] (Hp S) (QI Q)
  refine wp_st (pc' := 5) (L' := [some (.ref 0), some (.int a1), some (.int a2), some (.ref 91), none]) (st' := [.int a2, .int a1, .ref 0, .int 0, .ref 91]) (h' := Hp S) 5 (fun Z => rfl) ?_
  refine wp_callH (pc' := 8) (rest := [.int 0, .ref 91]) (fun Z => rfl) (isO_of sh0) hw ?_
  rintro o h1 (⟨x1, S2, rfl, rfl, hw⟩ | ⟨x, S4, rfl, rfl, hw⟩)
  · refine Or.inl ⟨_, rfl, ?_⟩
    show wp E (d + 1) m_law_cell 8 [some (.ref 0), some (.int a1), some (.int a2), some (.ref 91), none] [.int x1, .int 0, .ref 91] (Hp S2) (QI Q)
    refine wp_st (pc' := 9) (L' := [some (.ref 0), some (.int a1), some (.int a2), some (.ref 91), none]) (st' := [.long (Int32.toInt64 x1), .int 0, .ref 91]) (h' := Hp S2) 1 (fun Z => rfl) ?_
    have hw := hw _ rfl
    refine wp_st (pc' := 10) (L' := [some (.ref 0), some (.int a1), some (.int a2), some (.ref 91), none]) (st' := []) (h' := Hp (upA S2 91 (Int32.toInt64 x1))) 1 (fun Z => stJ0 sh91 _) ?_
    generalize upA S2 91 (Int32.toInt64 x1) = S3 at hw ⊢
    refine wp_st (pc' := 18) (L' := [some (.ref 0), some (.int a1), some (.int a2), some (.ref 91), none]) (st' := [.int 0]) (h' := Hp S3) 2 (fun Z => rfl) ?_
    exact wp_ret (fun Z => rfl) ⟨_, _, rfl, rfl, hw⟩
  · rcases hw with ⟨rfl, hw⟩
    refine Or.inr ⟨0, 15, [some (.ref 0), some (.int a1), some (.int a2), some (.ref 91), none], rfl, fun Z => rfl, ?_⟩
    refine wp_st (pc' := 16) (L' := [some (.ref 0), some (.int a1), some (.int a2), some (.ref 91), none]) (st' := [.int 1]) (h' := Hp S4) 1 (fun Z => rfl) ?_
    exact wp_ret (fun Z => rfl) ⟨_, _, rfl, rfl, hw⟩
set_option maxRecDepth 4000 in
theorem w_law_when {E : zX} {d : Nat} {S : St} {a1 : Int32} {a2 : Int32} {Q : Int32 → St → Prop} (hd : 1 ≤ d) 
    (hw : k_x_when E (d - 1) S a1 a2 (fun x1 S2 =>
    ∀ S3, S3 = upA S2 91 (Int32.toInt64 x1) →
      Q (0 : Int32) S3)
    (fun x S4 =>
    (x = 0 ∧
    Q (1 : Int32) S4))) :
    k_law_when E d S a1 a2 Q := by
  obtain ⟨d, rfl⟩ := Nat.exists_eq_add_of_le' hd
  show wp E (d + 1) m_law_when 0 [some (.ref 0), some (.int a1), some (.int a2), some (.ref 91), none] [] (Hp S) (QI Q)
  refine wp_st (pc' := 5) (L' := [some (.ref 0), some (.int a1), some (.int a2), some (.ref 91), none]) (st' := [.int a2, .int a1, .ref 0, .int 0, .ref 91]) (h' := Hp S) 5 (fun Z => rfl) ?_
  refine wp_callH (pc' := 8) (rest := [.int 0, .ref 91]) (fun Z => rfl) (isO_of sh0) hw ?_
  rintro o h1 (⟨x1, S2, rfl, rfl, hw⟩ | ⟨x, S4, rfl, rfl, hw⟩)
  · refine Or.inl ⟨_, rfl, ?_⟩
    show wp E (d + 1) m_law_when 8 [some (.ref 0), some (.int a1), some (.int a2), some (.ref 91), none] [.int x1, .int 0, .ref 91] (Hp S2) (QI Q)
    refine wp_st (pc' := 9) (L' := [some (.ref 0), some (.int a1), some (.int a2), some (.ref 91), none]) (st' := [.long (Int32.toInt64 x1), .int 0, .ref 91]) (h' := Hp S2) 1 (fun Z => rfl) ?_
    have hw := hw _ rfl
    refine wp_st (pc' := 10) (L' := [some (.ref 0), some (.int a1), some (.int a2), some (.ref 91), none]) (st' := []) (h' := Hp (upA S2 91 (Int32.toInt64 x1))) 1 (fun Z => stJ0 sh91 _) ?_
    generalize upA S2 91 (Int32.toInt64 x1) = S3 at hw ⊢
    refine wp_st (pc' := 18) (L' := [some (.ref 0), some (.int a1), some (.int a2), some (.ref 91), none]) (st' := [.int 0]) (h' := Hp S3) 2 (fun Z => rfl) ?_
    exact wp_ret (fun Z => rfl) ⟨_, _, rfl, rfl, hw⟩
  · rcases hw with ⟨rfl, hw⟩
    refine Or.inr ⟨0, 15, [some (.ref 0), some (.int a1), some (.int a2), some (.ref 91), none], rfl, fun Z => rfl, ?_⟩
    refine wp_st (pc' := 16) (L' := [some (.ref 0), some (.int a1), some (.int a2), some (.ref 91), none]) (st' := [.int 1]) (h' := Hp S4) 1 (fun Z => rfl) ?_
    exact wp_ret (fun Z => rfl) ⟨_, _, rfl, rfl, hw⟩
set_option maxRecDepth 4000 in
theorem w_law_ahead {E : zX} {d : Nat} {S : St} {a1 : Int32} {a2 : Int32} {Q : Int32 → St → Prop} (hd : 1 ≤ d) 
    (hw : k_x_ahead E (d - 1) S a1 a2 (fun x1 S2 =>
    ∀ S3, S3 = upA S2 91 (Int32.toInt64 x1) →
      Q (0 : Int32) S3)
    (fun x S4 =>
    (x = 0 ∧
    Q (1 : Int32) S4) ∨ (x = 1 ∧
    Q (2 : Int32) S4))) :
    k_law_ahead E d S a1 a2 Q := by
  obtain ⟨d, rfl⟩ := Nat.exists_eq_add_of_le' hd
  show wp E (d + 1) m_law_ahead 0 [some (.ref 0), some (.int a1), some (.int a2), some (.ref 91), none] [] (Hp S) (QI Q)
  refine wp_st (pc' := 5) (L' := [some (.ref 0), some (.int a1), some (.int a2), some (.ref 91), none]) (st' := [.int a2, .int a1, .ref 0, .int 0, .ref 91]) (h' := Hp S) 5 (fun Z => rfl) ?_
  refine wp_callH (pc' := 8) (rest := [.int 0, .ref 91]) (fun Z => rfl) (isO_of sh0) hw ?_
  rintro o h1 (⟨x1, S2, rfl, rfl, hw⟩ | ⟨x, S4, rfl, rfl, hw⟩)
  · refine Or.inl ⟨_, rfl, ?_⟩
    show wp E (d + 1) m_law_ahead 8 [some (.ref 0), some (.int a1), some (.int a2), some (.ref 91), none] [.int x1, .int 0, .ref 91] (Hp S2) (QI Q)
    refine wp_st (pc' := 9) (L' := [some (.ref 0), some (.int a1), some (.int a2), some (.ref 91), none]) (st' := [.long (Int32.toInt64 x1), .int 0, .ref 91]) (h' := Hp S2) 1 (fun Z => rfl) ?_
    have hw := hw _ rfl
    refine wp_st (pc' := 10) (L' := [some (.ref 0), some (.int a1), some (.int a2), some (.ref 91), none]) (st' := []) (h' := Hp (upA S2 91 (Int32.toInt64 x1))) 1 (fun Z => stJ0 sh91 _) ?_
    generalize upA S2 91 (Int32.toInt64 x1) = S3 at hw ⊢
    refine wp_st (pc' := 22) (L' := [some (.ref 0), some (.int a1), some (.int a2), some (.ref 91), none]) (st' := [.int 0]) (h' := Hp S3) 2 (fun Z => rfl) ?_
    exact wp_ret (fun Z => rfl) ⟨_, _, rfl, rfl, hw⟩
  · rcases hw with ⟨rfl, hw⟩ | ⟨rfl, hw⟩
    · refine Or.inr ⟨0, 15, [some (.ref 0), some (.int a1), some (.int a2), some (.ref 91), none], rfl, fun Z => rfl, ?_⟩
      refine wp_st (pc' := 16) (L' := [some (.ref 0), some (.int a1), some (.int a2), some (.ref 91), none]) (st' := [.int 1]) (h' := Hp S4) 1 (fun Z => rfl) ?_
      exact wp_ret (fun Z => rfl) ⟨_, _, rfl, rfl, hw⟩
    · refine Or.inr ⟨1, 19, [some (.ref 0), some (.int a1), some (.int a2), some (.ref 91), none], rfl, fun Z => rfl, ?_⟩
      refine wp_st (pc' := 20) (L' := [some (.ref 0), some (.int a1), some (.int a2), some (.ref 91), none]) (st' := [.int 2]) (h' := Hp S4) 1 (fun Z => rfl) ?_
      exact wp_ret (fun Z => rfl) ⟨_, _, rfl, rfl, hw⟩
set_option maxRecDepth 4000 in
theorem w_law_stays {E : zX} {d : Nat} {S : St} {a1 : Int32} {a2 : Int32} {Q : Int32 → St → Prop} (hd : 1 ≤ d) 
    (hw : k_x_stays E (d - 1) S a1 a2 (fun x1 S2 =>
    ∀ S3, S3 = upA S2 91 (Int32.toInt64 x1) →
      Q (0 : Int32) S3)
    (fun x S4 =>
    (x = 0 ∧
    Q (1 : Int32) S4) ∨ (x = 1 ∧
    Q (2 : Int32) S4))) :
    k_law_stays E d S a1 a2 Q := by
  obtain ⟨d, rfl⟩ := Nat.exists_eq_add_of_le' hd
  show wp E (d + 1) m_law_stays 0 [some (.ref 0), some (.int a1), some (.int a2), some (.ref 91), none] [] (Hp S) (QI Q)
  refine wp_st (pc' := 5) (L' := [some (.ref 0), some (.int a1), some (.int a2), some (.ref 91), none]) (st' := [.int a2, .int a1, .ref 0, .int 0, .ref 91]) (h' := Hp S) 5 (fun Z => rfl) ?_
  refine wp_callH (pc' := 8) (rest := [.int 0, .ref 91]) (fun Z => rfl) (isO_of sh0) hw ?_
  rintro o h1 (⟨x1, S2, rfl, rfl, hw⟩ | ⟨x, S4, rfl, rfl, hw⟩)
  · refine Or.inl ⟨_, rfl, ?_⟩
    show wp E (d + 1) m_law_stays 8 [some (.ref 0), some (.int a1), some (.int a2), some (.ref 91), none] [.int x1, .int 0, .ref 91] (Hp S2) (QI Q)
    refine wp_st (pc' := 9) (L' := [some (.ref 0), some (.int a1), some (.int a2), some (.ref 91), none]) (st' := [.long (Int32.toInt64 x1), .int 0, .ref 91]) (h' := Hp S2) 1 (fun Z => rfl) ?_
    have hw := hw _ rfl
    refine wp_st (pc' := 10) (L' := [some (.ref 0), some (.int a1), some (.int a2), some (.ref 91), none]) (st' := []) (h' := Hp (upA S2 91 (Int32.toInt64 x1))) 1 (fun Z => stJ0 sh91 _) ?_
    generalize upA S2 91 (Int32.toInt64 x1) = S3 at hw ⊢
    refine wp_st (pc' := 22) (L' := [some (.ref 0), some (.int a1), some (.int a2), some (.ref 91), none]) (st' := [.int 0]) (h' := Hp S3) 2 (fun Z => rfl) ?_
    exact wp_ret (fun Z => rfl) ⟨_, _, rfl, rfl, hw⟩
  · rcases hw with ⟨rfl, hw⟩ | ⟨rfl, hw⟩
    · refine Or.inr ⟨0, 15, [some (.ref 0), some (.int a1), some (.int a2), some (.ref 91), none], rfl, fun Z => rfl, ?_⟩
      refine wp_st (pc' := 16) (L' := [some (.ref 0), some (.int a1), some (.int a2), some (.ref 91), none]) (st' := [.int 1]) (h' := Hp S4) 1 (fun Z => rfl) ?_
      exact wp_ret (fun Z => rfl) ⟨_, _, rfl, rfl, hw⟩
    · refine Or.inr ⟨1, 19, [some (.ref 0), some (.int a1), some (.int a2), some (.ref 91), none], rfl, fun Z => rfl, ?_⟩
      refine wp_st (pc' := 20) (L' := [some (.ref 0), some (.int a1), some (.int a2), some (.ref 91), none]) (st' := [.int 2]) (h' := Hp S4) 1 (fun Z => rfl) ?_
      exact wp_ret (fun Z => rfl) ⟨_, _, rfl, rfl, hw⟩
set_option maxRecDepth 4000 in
theorem w_law_law_23 {E : zX} {d : Nat} {S : St} {a0 : Nat} {a4 : Nat} {Q : Int32 → St → Prop} (hd : 1 ≤ d) {na0 : Nat} (ha0 : Ai a0 na0) (na0lt : na0 < 2 ^ 31)
    (hw : if ((nI na0) - (6 : Int32)) < (nI a4) then (
      Q (1 : Int32) S)
    else (
      a4 < na0 ∧
      if ((S a0 a4) &&& (63 : Int32)) = 0 then (
        (a4 + 1) < na0 ∧
        (a4 + 2) < na0 ∧
        (a4 + 3) < na0 ∧
        (a4 + 4) < na0 ∧
        (a4 + 5) < na0 ∧
        k_x_feed E (d - 1) S (S a0 (a4 + 1)) (S a0 (a4 + 2)) (S a0 (a4 + 3)) (S a0 (a4 + 4)) (S a0 (a4 + 5)) (fun x1 S2 =>
        (a4 + 1) < na0 ∧
        (a4 + 2) < na0 ∧
        (a4 + 3) < na0 ∧
        (a4 + 4) < na0 ∧
        (a4 + 5) < na0 ∧
        k_m_feed E (d - 1) S2 (S2 a0 (a4 + 1)) (S2 a0 (a4 + 2)) (S2 a0 (a4 + 3)) (S2 a0 (a4 + 4)) (S2 a0 (a4 + 5)) (fun x3 S4 =>
        if x1 = x3 then (
          k_law_law_23 E d S4 a0 (a4 + 6) Q)
        else (
          Q (0 : Int32) S4))))
      else if ((S a0 a4) &&& (63 : Int32)) = 1 then (
        (a4 + 1) < na0 ∧
        k_law_county E (d - 1) S (S a0 (a4 + 1)) (fun x5 S6 =>
        (a4 + 1) < na0 ∧
        k_m_county E (d - 1) S6 (S6 a0 (a4 + 1)) (fun x7 S8 =>
        k_m_thrown E (d - 1) S8 (fun x9 S10 =>
        if x9 = x5 then (
          if x5 = 0 then (
            if (lg_cmp (catL (S10 91 0) (S10 91 1)) (Int32.toInt64 x7)) = 0 then (
              k_law_law_23 E d S10 a0 (a4 + 6) Q)
            else (
              Q (0 : Int32) S10))
          else (
            k_law_law_23 E d S10 a0 (a4 + 6) Q))
        else (
          Q (0 : Int32) S10)))))
      else if ((S a0 a4) &&& (63 : Int32)) = 2 then (
        k_x_fault E (d - 1) S (fun x11 S12 =>
        k_m_fault E (d - 1) S12 (fun x13 S14 =>
        if x11 = x13 then (
          k_law_law_23 E d S14 a0 (a4 + 6) Q)
        else (
          Q (0 : Int32) S14))))
      else if ((S a0 a4) &&& (63 : Int32)) = 3 then (
        (a4 + 1) < na0 ∧
        k_law_count E (d - 1) S (S a0 (a4 + 1)) (fun x15 S16 =>
        (a4 + 1) < na0 ∧
        k_m_count E (d - 1) S16 (S16 a0 (a4 + 1)) (fun x17 S18 =>
        k_m_thrown E (d - 1) S18 (fun x19 S20 =>
        if x19 = x15 then (
          if x15 = 0 then (
            if (lg_cmp (catL (S20 91 0) (S20 91 1)) (Int32.toInt64 x17)) = 0 then (
              k_law_law_23 E d S20 a0 (a4 + 6) Q)
            else (
              Q (0 : Int32) S20))
          else (
            k_law_law_23 E d S20 a0 (a4 + 6) Q))
        else (
          Q (0 : Int32) S20)))))
      else if ((S a0 a4) &&& (63 : Int32)) = 4 then (
        (a4 + 1) < na0 ∧
        (a4 + 2) < na0 ∧
        k_law_person E (d - 1) S (S a0 (a4 + 1)) (S a0 (a4 + 2)) (fun x21 S22 =>
        (a4 + 1) < na0 ∧
        (a4 + 2) < na0 ∧
        k_m_person E (d - 1) S22 (S22 a0 (a4 + 1)) (S22 a0 (a4 + 2)) (fun x23 S24 =>
        k_m_thrown E (d - 1) S24 (fun x25 S26 =>
        if x25 = x21 then (
          if x21 = 0 then (
            if (lg_cmp (catL (S26 91 0) (S26 91 1)) (Int32.toInt64 x23)) = 0 then (
              k_law_law_23 E d S26 a0 (a4 + 6) Q)
            else (
              Q (0 : Int32) S26))
          else (
            k_law_law_23 E d S26 a0 (a4 + 6) Q))
        else (
          Q (0 : Int32) S26)))))
      else if ((S a0 a4) &&& (63 : Int32)) = 5 then (
        (a4 + 1) < na0 ∧
        (a4 + 2) < na0 ∧
        k_law_ball E (d - 1) S (S a0 (a4 + 1)) (S a0 (a4 + 2)) (fun x27 S28 =>
        (a4 + 1) < na0 ∧
        (a4 + 2) < na0 ∧
        k_m_ball E (d - 1) S28 (S28 a0 (a4 + 1)) (S28 a0 (a4 + 2)) (fun x29 S30 =>
        k_m_thrown E (d - 1) S30 (fun x31 S32 =>
        if x31 = x27 then (
          if x27 = 0 then (
            if (lg_cmp (catL (S32 91 0) (S32 91 1)) (Int32.toInt64 x29)) = 0 then (
              k_law_law_23 E d S32 a0 (a4 + 6) Q)
            else (
              Q (0 : Int32) S32))
          else (
            k_law_law_23 E d S32 a0 (a4 + 6) Q))
        else (
          Q (0 : Int32) S32)))))
      else if ((S a0 a4) &&& (63 : Int32)) = 6 then (
        (a4 + 1) < na0 ∧
        k_x_days E (d - 1) S (S a0 (a4 + 1)) (fun x33 S34 =>
        (a4 + 1) < na0 ∧
        k_m_days E (d - 1) S34 (S34 a0 (a4 + 1)) (fun x35 S36 =>
        if x33 = x35 then (
          k_law_law_23 E d S36 a0 (a4 + 6) Q)
        else (
          Q (0 : Int32) S36))))
      else if ((S a0 a4) &&& (63 : Int32)) = 7 then (
        (a4 + 1) < na0 ∧
        k_law_tread E (d - 1) S (S a0 (a4 + 1)) (fun x37 S38 =>
        (a4 + 1) < na0 ∧
        k_m_tread E (d - 1) S38 (S38 a0 (a4 + 1)) (fun x39 S40 =>
        k_m_thrown E (d - 1) S40 (fun x41 S42 =>
        if x41 = x37 then (
          if x37 = 0 then (
            if (lg_cmp (catL (S42 91 0) (S42 91 1)) (Int32.toInt64 x39)) = 0 then (
              k_law_law_23 E d S42 a0 (a4 + 6) Q)
            else (
              Q (0 : Int32) S42))
          else (
            k_law_law_23 E d S42 a0 (a4 + 6) Q))
        else (
          Q (0 : Int32) S42)))))
      else if ((S a0 a4) &&& (63 : Int32)) = 8 then (
        (a4 + 1) < na0 ∧
        (a4 + 2) < na0 ∧
        k_law_carry E (d - 1) S (S a0 (a4 + 1)) (S a0 (a4 + 2)) (fun x43 S44 =>
        (a4 + 1) < na0 ∧
        (a4 + 2) < na0 ∧
        k_m_carry E (d - 1) S44 (S44 a0 (a4 + 1)) (S44 a0 (a4 + 2)) (fun x45 S46 =>
        k_m_thrown E (d - 1) S46 (fun x47 S48 =>
        if x47 = x43 then (
          if x43 = 0 then (
            if (lg_cmp (catL (S48 91 0) (S48 91 1)) (Int32.toInt64 x45)) = 0 then (
              k_law_law_23 E d S48 a0 (a4 + 6) Q)
            else (
              Q (0 : Int32) S48))
          else (
            k_law_law_23 E d S48 a0 (a4 + 6) Q))
        else (
          Q (0 : Int32) S48)))))
      else if ((S a0 a4) &&& (63 : Int32)) = 9 then (
        (a4 + 1) < na0 ∧
        (a4 + 2) < na0 ∧
        if (S a0 (a4 + 2)) = 0 then (
          k_law_law_700 E d S a0 a4 (S a0 (a4 + 1)) 0 Q)
        else (
          k_law_law_700 E d S a0 a4 (S a0 (a4 + 1)) 1 Q))
      else if ((S a0 a4) &&& (63 : Int32)) = 10 then (
        (a4 + 1) < na0 ∧
        (a4 + 2) < na0 ∧
        k_law_soothe E (d - 1) S (S a0 (a4 + 1)) (S a0 (a4 + 2)) (fun x49 S50 =>
        (a4 + 1) < na0 ∧
        (a4 + 2) < na0 ∧
        k_m_soothe E (d - 1) S50 (S50 a0 (a4 + 1)) (S50 a0 (a4 + 2)) (fun x51 S52 =>
        k_m_thrown E (d - 1) S52 (fun x53 S54 =>
        if x53 = x49 then (
          if x49 = 0 then (
            if (lg_cmp (catL (S54 91 0) (S54 91 1)) (Int32.toInt64 x51)) = 0 then (
              k_law_law_23 E d S54 a0 (a4 + 6) Q)
            else (
              Q (0 : Int32) S54))
          else (
            k_law_law_23 E d S54 a0 (a4 + 6) Q))
        else (
          Q (0 : Int32) S54)))))
      else if ((S a0 a4) &&& (63 : Int32)) = 11 then (
        k_x_undo E (d - 1) S (fun x55 S56 =>
        k_m_undo E (d - 1) S56 (fun x57 S58 =>
        if x55 = x57 then (
          k_law_law_23 E d S58 a0 (a4 + 6) Q)
        else (
          Q (0 : Int32) S58))))
      else if ((S a0 a4) &&& (63 : Int32)) = 12 then (
        (a4 + 1) < na0 ∧
        (a4 + 2) < na0 ∧
        (a4 + 3) < na0 ∧
        k_law_then E (d - 1) S (S a0 (a4 + 1)) (S a0 (a4 + 2)) (S a0 (a4 + 3)) (fun x59 S60 =>
        (a4 + 1) < na0 ∧
        (a4 + 2) < na0 ∧
        (a4 + 3) < na0 ∧
        k_m_then E (d - 1) S60 (S60 a0 (a4 + 1)) (S60 a0 (a4 + 2)) (S60 a0 (a4 + 3)) (fun x61 S62 =>
        k_m_thrown E (d - 1) S62 (fun x63 S64 =>
        if x63 = x59 then (
          if x59 = 0 then (
            if (lg_cmp (catL (S64 91 0) (S64 91 1)) (Int32.toInt64 x61)) = 0 then (
              k_law_law_23 E d S64 a0 (a4 + 6) Q)
            else (
              Q (0 : Int32) S64))
          else (
            k_law_law_23 E d S64 a0 (a4 + 6) Q))
        else (
          Q (0 : Int32) S64)))))
      else if ((S a0 a4) &&& (63 : Int32)) = 13 then (
        (a4 + 1) < na0 ∧
        (a4 + 2) < na0 ∧
        (a4 + 3) < na0 ∧
        k_law_mood E (d - 1) S (S a0 (a4 + 1)) (S a0 (a4 + 2)) (S a0 (a4 + 3)) (fun x65 S66 =>
        (a4 + 1) < na0 ∧
        (a4 + 2) < na0 ∧
        (a4 + 3) < na0 ∧
        k_m_mood E (d - 1) S66 (S66 a0 (a4 + 1)) (S66 a0 (a4 + 2)) (S66 a0 (a4 + 3)) (fun x67 S68 =>
        k_m_thrown E (d - 1) S68 (fun x69 S70 =>
        if x69 = x65 then (
          if x65 = 0 then (
            if (lg_cmp (catL (S70 91 0) (S70 91 1)) (Int32.toInt64 x67)) = 0 then (
              k_law_law_23 E d S70 a0 (a4 + 6) Q)
            else (
              Q (0 : Int32) S70))
          else (
            k_law_law_23 E d S70 a0 (a4 + 6) Q))
        else (
          Q (0 : Int32) S70)))))
      else if ((S a0 a4) &&& (63 : Int32)) = 14 then (
        (a4 + 1) < na0 ∧
        k_law_off E (d - 1) S (S a0 (a4 + 1)) (fun x71 S72 =>
        (a4 + 1) < na0 ∧
        k_m_off E (d - 1) S72 (S72 a0 (a4 + 1)) (fun x73 S74 =>
        k_m_thrown E (d - 1) S74 (fun x75 S76 =>
        if x75 = x71 then (
          if x71 = 0 then (
            if (lg_cmp (catL (S76 91 0) (S76 91 1)) (Int32.toInt64 x73)) = 0 then (
              k_law_law_23 E d S76 a0 (a4 + 6) Q)
            else (
              Q (0 : Int32) S76))
          else (
            k_law_law_23 E d S76 a0 (a4 + 6) Q))
        else (
          Q (0 : Int32) S76)))))
      else if ((S a0 a4) &&& (63 : Int32)) = 15 then (
        k_x_first E (d - 1) S (fun x77 S78 =>
        k_m_first E (d - 1) S78 (fun x79 S80 =>
        if x77 = x79 then (
          k_law_law_23 E d S80 a0 (a4 + 6) Q)
        else (
          Q (0 : Int32) S80))))
      else if ((S a0 a4) &&& (63 : Int32)) = 16 then (
        (a4 + 1) < na0 ∧
        (a4 + 2) < na0 ∧
        k_law_later E (d - 1) S (S a0 (a4 + 1)) (S a0 (a4 + 2)) (fun x81 S82 =>
        (a4 + 1) < na0 ∧
        (a4 + 2) < na0 ∧
        k_m_later E (d - 1) S82 (S82 a0 (a4 + 1)) (S82 a0 (a4 + 2)) (fun x83 S84 =>
        k_m_thrown E (d - 1) S84 (fun x85 S86 =>
        if x85 = x81 then (
          if x81 = 0 then (
            if (lg_cmp (catL (S86 91 0) (S86 91 1)) (Int32.toInt64 x83)) = 0 then (
              k_law_law_23 E d S86 a0 (a4 + 6) Q)
            else (
              Q (0 : Int32) S86))
          else (
            k_law_law_23 E d S86 a0 (a4 + 6) Q))
        else (
          Q (0 : Int32) S86)))))
      else if ((S a0 a4) &&& (63 : Int32)) = 17 then (
        (a4 + 1) < na0 ∧
        (a4 + 2) < na0 ∧
        k_law_toGuard E (d - 1) S (S a0 (a4 + 1)) (S a0 (a4 + 2)) (fun x87 S88 =>
        (a4 + 1) < na0 ∧
        (a4 + 2) < na0 ∧
        k_m_toGuard E (d - 1) S88 (S88 a0 (a4 + 1)) (S88 a0 (a4 + 2)) (fun x89 S90 =>
        k_m_thrown E (d - 1) S90 (fun x91 S92 =>
        if x91 = x87 then (
          if x87 = 0 then (
            if (lg_cmp (catL (S92 91 0) (S92 91 1)) (Int32.toInt64 x89)) = 0 then (
              k_law_law_23 E d S92 a0 (a4 + 6) Q)
            else (
              Q (0 : Int32) S92))
          else (
            k_law_law_23 E d S92 a0 (a4 + 6) Q))
        else (
          Q (0 : Int32) S92)))))
      else if ((S a0 a4) &&& (63 : Int32)) = 18 then (
        (a4 + 1) < na0 ∧
        (a4 + 2) < na0 ∧
        k_law_fire E (d - 1) S (S a0 (a4 + 1)) (S a0 (a4 + 2)) (fun x93 S94 =>
        (a4 + 1) < na0 ∧
        (a4 + 2) < na0 ∧
        k_m_fire E (d - 1) S94 (S94 a0 (a4 + 1)) (S94 a0 (a4 + 2)) (fun x95 S96 =>
        k_m_thrown E (d - 1) S96 (fun x97 S98 =>
        if x97 = x93 then (
          if x93 = 0 then (
            if (lg_cmp (catL (S98 91 0) (S98 91 1)) (Int32.toInt64 x95)) = 0 then (
              k_law_law_23 E d S98 a0 (a4 + 6) Q)
            else (
              Q (0 : Int32) S98))
          else (
            k_law_law_23 E d S98 a0 (a4 + 6) Q))
        else (
          Q (0 : Int32) S98)))))
      else if ((S a0 a4) &&& (63 : Int32)) = 19 then (
        (a4 + 1) < na0 ∧
        (a4 + 2) < na0 ∧
        (a4 + 3) < na0 ∧
        k_law_pram E (d - 1) S (S a0 (a4 + 1)) (S a0 (a4 + 2)) (S a0 (a4 + 3)) (fun x99 S100 =>
        (a4 + 1) < na0 ∧
        (a4 + 2) < na0 ∧
        (a4 + 3) < na0 ∧
        k_m_pram E (d - 1) S100 (S100 a0 (a4 + 1)) (S100 a0 (a4 + 2)) (S100 a0 (a4 + 3)) (fun x101 S102 =>
        k_m_thrown E (d - 1) S102 (fun x103 S104 =>
        if x103 = x99 then (
          if x99 = 0 then (
            if (lg_cmp (catL (S104 91 0) (S104 91 1)) (Int32.toInt64 x101)) = 0 then (
              k_law_law_23 E d S104 a0 (a4 + 6) Q)
            else (
              Q (0 : Int32) S104))
          else (
            k_law_law_23 E d S104 a0 (a4 + 6) Q))
        else (
          Q (0 : Int32) S104)))))
      else if ((S a0 a4) &&& (63 : Int32)) = 20 then (
        (a4 + 1) < na0 ∧
        k_law_putBy E (d - 1) S (S a0 (a4 + 1)) (fun x105 S106 =>
        (a4 + 1) < na0 ∧
        k_m_putBy E (d - 1) S106 (S106 a0 (a4 + 1)) (fun x107 S108 =>
        k_m_thrown E (d - 1) S108 (fun x109 S110 =>
        if x109 = x105 then (
          if x105 = 0 then (
            if (lg_cmp (catL (S110 91 0) (S110 91 1)) (Int32.toInt64 x107)) = 0 then (
              k_law_law_23 E d S110 a0 (a4 + 6) Q)
            else (
              Q (0 : Int32) S110))
          else (
            k_law_law_23 E d S110 a0 (a4 + 6) Q))
        else (
          Q (0 : Int32) S110)))))
      else if ((S a0 a4) &&& (63 : Int32)) = 21 then (
        (a4 + 1) < na0 ∧
        k_law_put E (d - 1) S (S a0 (a4 + 1)) (fun x111 S112 =>
        (a4 + 1) < na0 ∧
        k_m_put E (d - 1) S112 (S112 a0 (a4 + 1)) (fun x113 S114 =>
        k_m_thrown E (d - 1) S114 (fun x115 S116 =>
        if x115 = x111 then (
          if x111 = 0 then (
            if (lg_cmp (catL (S116 91 0) (S116 91 1)) (Int32.toInt64 x113)) = 0 then (
              k_law_law_23 E d S116 a0 (a4 + 6) Q)
            else (
              Q (0 : Int32) S116))
          else (
            k_law_law_23 E d S116 a0 (a4 + 6) Q))
        else (
          Q (0 : Int32) S116)))))
      else if ((S a0 a4) &&& (63 : Int32)) = 22 then (
        (a4 + 1) < na0 ∧
        (a4 + 2) < na0 ∧
        (a4 + 3) < na0 ∧
        if (S a0 (a4 + 3)) = 0 then (
          k_law_law_1503 E d S a0 a4 (S a0 (a4 + 1)) (S a0 (a4 + 2)) 0 Q)
        else (
          k_law_law_1503 E d S a0 a4 (S a0 (a4 + 1)) (S a0 (a4 + 2)) 1 Q))
      else if ((S a0 a4) &&& (63 : Int32)) = 23 then (
        k_x_forget E (d - 1) S (fun S118 =>
        k_m_forget E (d - 1) S118 (fun S120 =>
        k_law_law_23 E d S120 a0 (a4 + 6) Q)))
      else if ((S a0 a4) &&& (63 : Int32)) = 24 then (
        (a4 + 1) < na0 ∧
        k_law_milder E (d - 1) S (S a0 (a4 + 1)) (fun x121 S122 =>
        (a4 + 1) < na0 ∧
        k_m_milder E (d - 1) S122 (S122 a0 (a4 + 1)) (fun x123 S124 =>
        k_m_thrown E (d - 1) S124 (fun x125 S126 =>
        if x125 = x121 then (
          if x121 = 0 then (
            if (lg_cmp (catL (S126 91 0) (S126 91 1)) (Int32.toInt64 x123)) = 0 then (
              k_law_law_23 E d S126 a0 (a4 + 6) Q)
            else (
              Q (0 : Int32) S126))
          else (
            k_law_law_23 E d S126 a0 (a4 + 6) Q))
        else (
          Q (0 : Int32) S126)))))
      else if ((S a0 a4) &&& (63 : Int32)) = 25 then (
        (a4 + 1) < na0 ∧
        k_law_look E (d - 1) S (S a0 (a4 + 1)) (fun x127 S128 =>
        (a4 + 1) < na0 ∧
        k_m_look E (d - 1) S128 (S128 a0 (a4 + 1)) (fun x129 S130 =>
        k_m_thrown E (d - 1) S130 (fun x131 S132 =>
        if x131 = x127 then (
          if x127 = 0 then (
            if (lg_cmp (catL (S132 91 0) (S132 91 1)) (Int32.toInt64 x129)) = 0 then (
              k_law_law_23 E d S132 a0 (a4 + 6) Q)
            else (
              Q (0 : Int32) S132))
          else (
            k_law_law_23 E d S132 a0 (a4 + 6) Q))
        else (
          Q (0 : Int32) S132)))))
      else if ((S a0 a4) &&& (63 : Int32)) = 26 then (
        (a4 + 1) < na0 ∧
        (a4 + 2) < na0 ∧
        (a4 + 3) < na0 ∧
        k_law_boys E (d - 1) S (S a0 (a4 + 1)) (S a0 (a4 + 2)) (S a0 (a4 + 3)) (fun x133 S134 =>
        (a4 + 1) < na0 ∧
        (a4 + 2) < na0 ∧
        (a4 + 3) < na0 ∧
        k_m_boys E (d - 1) S134 (S134 a0 (a4 + 1)) (S134 a0 (a4 + 2)) (S134 a0 (a4 + 3)) (fun x135 S136 =>
        k_m_thrown E (d - 1) S136 (fun x137 S138 =>
        if x137 = x133 then (
          if x133 = 0 then (
            if (lg_cmp (catL (S138 91 0) (S138 91 1)) (Int32.toInt64 x135)) = 0 then (
              k_law_law_23 E d S138 a0 (a4 + 6) Q)
            else (
              Q (0 : Int32) S138))
          else (
            k_law_law_23 E d S138 a0 (a4 + 6) Q))
        else (
          Q (0 : Int32) S138)))))
      else if ((S a0 a4) &&& (63 : Int32)) = 27 then (
        (a4 + 1) < na0 ∧
        (a4 + 2) < na0 ∧
        (a4 + 3) < na0 ∧
        k_law_game E (d - 1) S (S a0 (a4 + 1)) (S a0 (a4 + 2)) (S a0 (a4 + 3)) (fun x139 S140 =>
        (a4 + 1) < na0 ∧
        (a4 + 2) < na0 ∧
        (a4 + 3) < na0 ∧
        k_m_game E (d - 1) S140 (S140 a0 (a4 + 1)) (S140 a0 (a4 + 2)) (S140 a0 (a4 + 3)) (fun x141 S142 =>
        k_m_thrown E (d - 1) S142 (fun x143 S144 =>
        if x143 = x139 then (
          if x139 = 0 then (
            if (lg_cmp (catL (S144 91 0) (S144 91 1)) (Int32.toInt64 x141)) = 0 then (
              k_law_law_23 E d S144 a0 (a4 + 6) Q)
            else (
              Q (0 : Int32) S144))
          else (
            k_law_law_23 E d S144 a0 (a4 + 6) Q))
        else (
          Q (0 : Int32) S144)))))
      else if ((S a0 a4) &&& (63 : Int32)) = 28 then (
        (a4 + 1) < na0 ∧
        (a4 + 2) < na0 ∧
        (a4 + 3) < na0 ∧
        k_law_years E (d - 1) S (S a0 (a4 + 1)) (S a0 (a4 + 2)) (S a0 (a4 + 3)) (fun x145 S146 =>
        (a4 + 1) < na0 ∧
        (a4 + 2) < na0 ∧
        (a4 + 3) < na0 ∧
        k_m_years E (d - 1) S146 (S146 a0 (a4 + 1)) (S146 a0 (a4 + 2)) (S146 a0 (a4 + 3)) (fun x147 S148 =>
        k_m_thrown E (d - 1) S148 (fun x149 S150 =>
        if x149 = x145 then (
          if x145 = 0 then (
            if (lg_cmp (catL (S150 91 0) (S150 91 1)) (Int32.toInt64 x147)) = 0 then (
              k_law_law_23 E d S150 a0 (a4 + 6) Q)
            else (
              Q (0 : Int32) S150))
          else (
            k_law_law_23 E d S150 a0 (a4 + 6) Q))
        else (
          Q (0 : Int32) S150)))))
      else if ((S a0 a4) &&& (63 : Int32)) = 29 then (
        (a4 + 1) < na0 ∧
        (a4 + 2) < na0 ∧
        k_law_cell E (d - 1) S (S a0 (a4 + 1)) (S a0 (a4 + 2)) (fun x151 S152 =>
        (a4 + 1) < na0 ∧
        (a4 + 2) < na0 ∧
        k_m_cell E (d - 1) S152 (S152 a0 (a4 + 1)) (S152 a0 (a4 + 2)) (fun x153 S154 =>
        k_m_thrown E (d - 1) S154 (fun x155 S156 =>
        if x155 = x151 then (
          if x151 = 0 then (
            if (lg_cmp (catL (S156 91 0) (S156 91 1)) (Int32.toInt64 x153)) = 0 then (
              k_law_law_23 E d S156 a0 (a4 + 6) Q)
            else (
              Q (0 : Int32) S156))
          else (
            k_law_law_23 E d S156 a0 (a4 + 6) Q))
        else (
          Q (0 : Int32) S156)))))
      else if ((S a0 a4) &&& (63 : Int32)) = 30 then (
        (a4 + 1) < na0 ∧
        (a4 + 2) < na0 ∧
        k_law_when E (d - 1) S (S a0 (a4 + 1)) (S a0 (a4 + 2)) (fun x157 S158 =>
        (a4 + 1) < na0 ∧
        (a4 + 2) < na0 ∧
        k_m_when E (d - 1) S158 (S158 a0 (a4 + 1)) (S158 a0 (a4 + 2)) (fun x159 S160 =>
        k_m_thrown E (d - 1) S160 (fun x161 S162 =>
        if x161 = x157 then (
          if x157 = 0 then (
            if (lg_cmp (catL (S162 91 0) (S162 91 1)) (Int32.toInt64 x159)) = 0 then (
              k_law_law_23 E d S162 a0 (a4 + 6) Q)
            else (
              Q (0 : Int32) S162))
          else (
            k_law_law_23 E d S162 a0 (a4 + 6) Q))
        else (
          Q (0 : Int32) S162)))))
      else if ((S a0 a4) &&& (63 : Int32)) = 31 then (
        (a4 + 1) < na0 ∧
        (a4 + 2) < na0 ∧
        k_law_ahead E (d - 1) S (S a0 (a4 + 1)) (S a0 (a4 + 2)) (fun x163 S164 =>
        (a4 + 1) < na0 ∧
        (a4 + 2) < na0 ∧
        k_m_ahead E (d - 1) S164 (S164 a0 (a4 + 1)) (S164 a0 (a4 + 2)) (fun x165 S166 =>
        k_m_thrown E (d - 1) S166 (fun x167 S168 =>
        if x167 = x163 then (
          if x163 = 0 then (
            if (lg_cmp (catL (S168 91 0) (S168 91 1)) (Int32.toInt64 x165)) = 0 then (
              k_law_law_23 E d S168 a0 (a4 + 6) Q)
            else (
              Q (0 : Int32) S168))
          else (
            k_law_law_23 E d S168 a0 (a4 + 6) Q))
        else (
          Q (0 : Int32) S168)))))
      else if ((S a0 a4) &&& (63 : Int32)) = 32 then (
        (a4 + 1) < na0 ∧
        (a4 + 2) < na0 ∧
        k_law_stays E (d - 1) S (S a0 (a4 + 1)) (S a0 (a4 + 2)) (fun x169 S170 =>
        (a4 + 1) < na0 ∧
        (a4 + 2) < na0 ∧
        k_m_stays E (d - 1) S170 (S170 a0 (a4 + 1)) (S170 a0 (a4 + 2)) (fun x171 S172 =>
        k_m_thrown E (d - 1) S172 (fun x173 S174 =>
        if x173 = x169 then (
          if x169 = 0 then (
            if (lg_cmp (catL (S174 91 0) (S174 91 1)) (Int32.toInt64 x171)) = 0 then (
              k_law_law_23 E d S174 a0 (a4 + 6) Q)
            else (
              Q (0 : Int32) S174))
          else (
            k_law_law_23 E d S174 a0 (a4 + 6) Q))
        else (
          Q (0 : Int32) S174)))))
      else if ((S a0 a4) &&& (63 : Int32)) = 33 then (
        k_x_image E (d - 1) S (fun S176 =>
        k_m_image E (d - 1) S176 (fun S178 =>
        k_law_law_23 E d S178 a0 (a4 + 6) Q)))
      else if ((S a0 a4) &&& (63 : Int32)) = 34 then (
        k_x_restore E (d - 1) S (fun x179 S180 =>
        k_m_restore E (d - 1) S180 (fun x181 S182 =>
        if x179 = x181 then (
          k_law_law_23 E d S182 a0 (a4 + 6) Q)
        else (
          Q (0 : Int32) S182))))
      else (
        k_law_law_23 E d S a0 (a4 + 6) Q))) :
    k_law_law_23 E d S a0 a4 Q := by
  obtain ⟨d, rfl⟩ := Nat.exists_eq_add_of_le' hd
  intro j5 j6
  show wp E (d + 1) m_law_law 23 [some (.ref a0), some (.ref 0), some (.ref 65), some (.ref 91), some (.int (nI a4)), j5, j6] [] (Hp S) (QI Q)
  refine wp_st (pc' := 26) (L' := [some (.ref a0), some (.ref 0), some (.ref 65), some (.ref 91), some (.int (nI a4)), j5, j6]) (st' := [.ref a0, .int (nI a4)]) (h' := Hp S) 2 (fun Z => rfl) ?_
  refine wp_st (pc' := 27) (L' := [some (.ref a0), some (.ref 0), some (.ref 65), some (.ref 91), some (.int (nI a4)), j5, j6]) (st' := [.int (nI na0), .int (nI a4)]) (h' := Hp S) 1 (fun Z => lnX (E := E) ha0 [.int (nI a4)] (fun st => Z (d + 1) m_law_law 27 [some (.ref a0), some (.ref 0), some (.ref 65), some (.ref 91), some (.int (nI a4)), j5, j6] st (Hp S))) ?_
  refine wp_st (pc' := 30) (L' := [some (.ref a0), some (.ref 0), some (.ref 65), some (.ref 91), some (.int (nI a4)), j5, j6]) (st' := [.int ((nI na0) - (6 : Int32)), .int (nI a4)]) (h' := Hp S) 2 (fun Z => rfl) ?_
  by_cases hc : ((nI na0) - (6 : Int32)) < (nI a4)
  · rw [if_pos hc] at hw
    refine wp_st (pc' := 2237) (L' := [some (.ref a0), some (.ref 0), some (.ref 65), some (.ref 91), some (.int (nI a4)), j5, j6]) (st' := []) (h' := Hp S) 1 (fun Z => if_pos hc) ?_
    refine wp_st (pc' := 2238) (L' := [some (.ref a0), some (.ref 0), some (.ref 65), some (.ref 91), some (.int (nI a4)), j5, j6]) (st' := [.int 1]) (h' := Hp S) 1 (fun Z => rfl) ?_
    exact wp_ret (fun Z => rfl) ⟨_, _, rfl, rfl, hw⟩
  · rw [if_neg hc] at hw
    refine wp_st (pc' := 33) (L' := [some (.ref a0), some (.ref 0), some (.ref 65), some (.ref 91), some (.int (nI a4)), j5, j6]) (st' := []) (h' := Hp S) 1 (fun Z => if_neg hc) ?_
    refine wp_st (pc' := 36) (L' := [some (.ref a0), some (.ref 0), some (.ref 65), some (.ref 91), some (.int (nI a4)), j5, j6]) (st' := [.int (nI a4), .ref a0]) (h' := Hp S) 2 (fun Z => rfl) ?_
    obtain ⟨hi, hw⟩ := hw
    refine wp_st (pc' := 37) (L' := [some (.ref a0), some (.ref 0), some (.ref 65), some (.ref 91), some (.int (nI a4)), j5, j6]) (st' := [.int (S a0 a4)]) (h' := Hp S) 1 (fun Z => ldN (E := E) ha0 na0lt hi [] (fun st => Z (d + 1) m_law_law 37 [some (.ref a0), some (.ref 0), some (.ref 65), some (.ref 91), some (.int (nI a4)), j5, j6] st (Hp S))) ?_
    refine wp_st (pc' := 40) (L' := [some (.ref a0), some (.ref 0), some (.ref 65), some (.ref 91), some (.int (nI a4)), j5, j6]) (st' := [.int ((S a0 a4) &&& (63 : Int32))]) (h' := Hp S) 2 (fun Z => rfl) ?_
    by_cases c0 : ((S a0 a4) &&& (63 : Int32)) = 0
    · rw [if_pos c0] at hw
      refine wp_st (pc' := 196) (L' := [some (.ref a0), some (.ref 0), some (.ref 65), some (.ref 91), some (.int (nI a4)), j5, j6]) (st' := []) (h' := Hp S) 1 (fun Z => (show zsw (.tableswitch 2191 0 34 #[156, 229, 285, 298, 354, 422, 490, 515, 571, 639, 730, 798, 811, 891, 971, 1027, 1040, 1108, 1176, 1244, 1324, 1380, 1436, 1532, 1543, 1599, 1655, 1735, 1815, 1895, 1963, 2031, 2099, 2167, 2178]) 40 (.int ((S a0 a4) &&& (63 : Int32)) :: []) (fun t st1 => Z (d + 1) m_law_law t [some (.ref a0), some (.ref 0), some (.ref 65), some (.ref 91), some (.int (nI a4)), j5, j6] st1 (Hp S)) = _ from zsw_at (c := 0) (by rw [c0]; decide) (by decide) rfl rfl)) ?_
      refine wp_st (pc' := 201) (L' := [some (.ref a0), some (.ref 0), some (.ref 65), some (.ref 91), some (.int (nI a4)), j5, j6]) (st' := [.int 1, .int (nI a4), .ref a0, .ref 0]) (h' := Hp S) 4 (fun Z => rfl) ?_
      refine wp_st (pc' := 202) (L' := [some (.ref a0), some (.ref 0), some (.ref 65), some (.ref 91), some (.int (nI a4)), j5, j6]) (st' := [.int (nI (a4 + 1)), .ref a0, .ref 0]) (h' := Hp S) 1 (fun Z => by rw [← nI_add a4 1]; rfl) ?_
      obtain ⟨hi, hw⟩ := hw
      refine wp_st (pc' := 203) (L' := [some (.ref a0), some (.ref 0), some (.ref 65), some (.ref 91), some (.int (nI a4)), j5, j6]) (st' := [.int (S a0 (a4 + 1)), .ref 0]) (h' := Hp S) 1 (fun Z => ldN (E := E) ha0 na0lt hi [.ref 0] (fun st => Z (d + 1) m_law_law 203 [some (.ref a0), some (.ref 0), some (.ref 65), some (.ref 91), some (.int (nI a4)), j5, j6] st (Hp S))) ?_
      refine wp_st (pc' := 207) (L' := [some (.ref a0), some (.ref 0), some (.ref 65), some (.ref 91), some (.int (nI a4)), j5, j6]) (st' := [.int 2, .int (nI a4), .ref a0, .int (S a0 (a4 + 1)), .ref 0]) (h' := Hp S) 3 (fun Z => rfl) ?_
      refine wp_st (pc' := 208) (L' := [some (.ref a0), some (.ref 0), some (.ref 65), some (.ref 91), some (.int (nI a4)), j5, j6]) (st' := [.int (nI (a4 + 2)), .ref a0, .int (S a0 (a4 + 1)), .ref 0]) (h' := Hp S) 1 (fun Z => by rw [← nI_add a4 2]; rfl) ?_
      obtain ⟨hi, hw⟩ := hw
      refine wp_st (pc' := 209) (L' := [some (.ref a0), some (.ref 0), some (.ref 65), some (.ref 91), some (.int (nI a4)), j5, j6]) (st' := [.int (S a0 (a4 + 2)), .int (S a0 (a4 + 1)), .ref 0]) (h' := Hp S) 1 (fun Z => ldN (E := E) ha0 na0lt hi [.int (S a0 (a4 + 1)), .ref 0] (fun st => Z (d + 1) m_law_law 209 [some (.ref a0), some (.ref 0), some (.ref 65), some (.ref 91), some (.int (nI a4)), j5, j6] st (Hp S))) ?_
      refine wp_st (pc' := 213) (L' := [some (.ref a0), some (.ref 0), some (.ref 65), some (.ref 91), some (.int (nI a4)), j5, j6]) (st' := [.int 3, .int (nI a4), .ref a0, .int (S a0 (a4 + 2)), .int (S a0 (a4 + 1)), .ref 0]) (h' := Hp S) 3 (fun Z => rfl) ?_
      refine wp_st (pc' := 214) (L' := [some (.ref a0), some (.ref 0), some (.ref 65), some (.ref 91), some (.int (nI a4)), j5, j6]) (st' := [.int (nI (a4 + 3)), .ref a0, .int (S a0 (a4 + 2)), .int (S a0 (a4 + 1)), .ref 0]) (h' := Hp S) 1 (fun Z => by rw [← nI_add a4 3]; rfl) ?_
      obtain ⟨hi, hw⟩ := hw
      refine wp_st (pc' := 215) (L' := [some (.ref a0), some (.ref 0), some (.ref 65), some (.ref 91), some (.int (nI a4)), j5, j6]) (st' := [.int (S a0 (a4 + 3)), .int (S a0 (a4 + 2)), .int (S a0 (a4 + 1)), .ref 0]) (h' := Hp S) 1 (fun Z => ldN (E := E) ha0 na0lt hi [.int (S a0 (a4 + 2)), .int (S a0 (a4 + 1)), .ref 0] (fun st => Z (d + 1) m_law_law 215 [some (.ref a0), some (.ref 0), some (.ref 65), some (.ref 91), some (.int (nI a4)), j5, j6] st (Hp S))) ?_
      refine wp_st (pc' := 219) (L' := [some (.ref a0), some (.ref 0), some (.ref 65), some (.ref 91), some (.int (nI a4)), j5, j6]) (st' := [.int 4, .int (nI a4), .ref a0, .int (S a0 (a4 + 3)), .int (S a0 (a4 + 2)), .int (S a0 (a4 + 1)), .ref 0]) (h' := Hp S) 3 (fun Z => rfl) ?_
      refine wp_st (pc' := 220) (L' := [some (.ref a0), some (.ref 0), some (.ref 65), some (.ref 91), some (.int (nI a4)), j5, j6]) (st' := [.int (nI (a4 + 4)), .ref a0, .int (S a0 (a4 + 3)), .int (S a0 (a4 + 2)), .int (S a0 (a4 + 1)), .ref 0]) (h' := Hp S) 1 (fun Z => by rw [← nI_add a4 4]; rfl) ?_
      obtain ⟨hi, hw⟩ := hw
      refine wp_st (pc' := 221) (L' := [some (.ref a0), some (.ref 0), some (.ref 65), some (.ref 91), some (.int (nI a4)), j5, j6]) (st' := [.int (S a0 (a4 + 4)), .int (S a0 (a4 + 3)), .int (S a0 (a4 + 2)), .int (S a0 (a4 + 1)), .ref 0]) (h' := Hp S) 1 (fun Z => ldN (E := E) ha0 na0lt hi [.int (S a0 (a4 + 3)), .int (S a0 (a4 + 2)), .int (S a0 (a4 + 1)), .ref 0] (fun st => Z (d + 1) m_law_law 221 [some (.ref a0), some (.ref 0), some (.ref 65), some (.ref 91), some (.int (nI a4)), j5, j6] st (Hp S))) ?_
      refine wp_st (pc' := 225) (L' := [some (.ref a0), some (.ref 0), some (.ref 65), some (.ref 91), some (.int (nI a4)), j5, j6]) (st' := [.int 5, .int (nI a4), .ref a0, .int (S a0 (a4 + 4)), .int (S a0 (a4 + 3)), .int (S a0 (a4 + 2)), .int (S a0 (a4 + 1)), .ref 0]) (h' := Hp S) 3 (fun Z => rfl) ?_
      refine wp_st (pc' := 226) (L' := [some (.ref a0), some (.ref 0), some (.ref 65), some (.ref 91), some (.int (nI a4)), j5, j6]) (st' := [.int (nI (a4 + 5)), .ref a0, .int (S a0 (a4 + 4)), .int (S a0 (a4 + 3)), .int (S a0 (a4 + 2)), .int (S a0 (a4 + 1)), .ref 0]) (h' := Hp S) 1 (fun Z => by rw [← nI_add a4 5]; rfl) ?_
      obtain ⟨hi, hw⟩ := hw
      refine wp_st (pc' := 227) (L' := [some (.ref a0), some (.ref 0), some (.ref 65), some (.ref 91), some (.int (nI a4)), j5, j6]) (st' := [.int (S a0 (a4 + 5)), .int (S a0 (a4 + 4)), .int (S a0 (a4 + 3)), .int (S a0 (a4 + 2)), .int (S a0 (a4 + 1)), .ref 0]) (h' := Hp S) 1 (fun Z => ldN (E := E) ha0 na0lt hi [.int (S a0 (a4 + 4)), .int (S a0 (a4 + 3)), .int (S a0 (a4 + 2)), .int (S a0 (a4 + 1)), .ref 0] (fun st => Z (d + 1) m_law_law 227 [some (.ref a0), some (.ref 0), some (.ref 65), some (.ref 91), some (.int (nI a4)), j5, j6] st (Hp S))) ?_
      refine wp_call (pc' := 230) (rest := []) (fun Z => rfl) (isO_of sh0) hw ?_
      rintro o h1 ⟨x1, S2, rfl, rfl, hw⟩
      refine ⟨_, rfl, ?_⟩
      show wp E (d + 1) m_law_law 230 [some (.ref a0), some (.ref 0), some (.ref 65), some (.ref 91), some (.int (nI a4)), j5, j6] [.int x1] (Hp S2) (QI Q)
      refine wp_st (pc' := 235) (L' := [some (.ref a0), some (.ref 0), some (.ref 65), some (.ref 91), some (.int (nI a4)), j5, j6]) (st' := [.int 1, .int (nI a4), .ref a0, .ref 65, .int x1]) (h' := Hp S2) 4 (fun Z => rfl) ?_
      refine wp_st (pc' := 236) (L' := [some (.ref a0), some (.ref 0), some (.ref 65), some (.ref 91), some (.int (nI a4)), j5, j6]) (st' := [.int (nI (a4 + 1)), .ref a0, .ref 65, .int x1]) (h' := Hp S2) 1 (fun Z => by rw [← nI_add a4 1]; rfl) ?_
      obtain ⟨hi, hw⟩ := hw
      refine wp_st (pc' := 237) (L' := [some (.ref a0), some (.ref 0), some (.ref 65), some (.ref 91), some (.int (nI a4)), j5, j6]) (st' := [.int (S2 a0 (a4 + 1)), .ref 65, .int x1]) (h' := Hp S2) 1 (fun Z => ldN (E := E) ha0 na0lt hi [.ref 65, .int x1] (fun st => Z (d + 1) m_law_law 237 [some (.ref a0), some (.ref 0), some (.ref 65), some (.ref 91), some (.int (nI a4)), j5, j6] st (Hp S2))) ?_
      refine wp_st (pc' := 241) (L' := [some (.ref a0), some (.ref 0), some (.ref 65), some (.ref 91), some (.int (nI a4)), j5, j6]) (st' := [.int 2, .int (nI a4), .ref a0, .int (S2 a0 (a4 + 1)), .ref 65, .int x1]) (h' := Hp S2) 3 (fun Z => rfl) ?_
      refine wp_st (pc' := 242) (L' := [some (.ref a0), some (.ref 0), some (.ref 65), some (.ref 91), some (.int (nI a4)), j5, j6]) (st' := [.int (nI (a4 + 2)), .ref a0, .int (S2 a0 (a4 + 1)), .ref 65, .int x1]) (h' := Hp S2) 1 (fun Z => by rw [← nI_add a4 2]; rfl) ?_
      obtain ⟨hi, hw⟩ := hw
      refine wp_st (pc' := 243) (L' := [some (.ref a0), some (.ref 0), some (.ref 65), some (.ref 91), some (.int (nI a4)), j5, j6]) (st' := [.int (S2 a0 (a4 + 2)), .int (S2 a0 (a4 + 1)), .ref 65, .int x1]) (h' := Hp S2) 1 (fun Z => ldN (E := E) ha0 na0lt hi [.int (S2 a0 (a4 + 1)), .ref 65, .int x1] (fun st => Z (d + 1) m_law_law 243 [some (.ref a0), some (.ref 0), some (.ref 65), some (.ref 91), some (.int (nI a4)), j5, j6] st (Hp S2))) ?_
      refine wp_st (pc' := 247) (L' := [some (.ref a0), some (.ref 0), some (.ref 65), some (.ref 91), some (.int (nI a4)), j5, j6]) (st' := [.int 3, .int (nI a4), .ref a0, .int (S2 a0 (a4 + 2)), .int (S2 a0 (a4 + 1)), .ref 65, .int x1]) (h' := Hp S2) 3 (fun Z => rfl) ?_
      refine wp_st (pc' := 248) (L' := [some (.ref a0), some (.ref 0), some (.ref 65), some (.ref 91), some (.int (nI a4)), j5, j6]) (st' := [.int (nI (a4 + 3)), .ref a0, .int (S2 a0 (a4 + 2)), .int (S2 a0 (a4 + 1)), .ref 65, .int x1]) (h' := Hp S2) 1 (fun Z => by rw [← nI_add a4 3]; rfl) ?_
      obtain ⟨hi, hw⟩ := hw
      refine wp_st (pc' := 249) (L' := [some (.ref a0), some (.ref 0), some (.ref 65), some (.ref 91), some (.int (nI a4)), j5, j6]) (st' := [.int (S2 a0 (a4 + 3)), .int (S2 a0 (a4 + 2)), .int (S2 a0 (a4 + 1)), .ref 65, .int x1]) (h' := Hp S2) 1 (fun Z => ldN (E := E) ha0 na0lt hi [.int (S2 a0 (a4 + 2)), .int (S2 a0 (a4 + 1)), .ref 65, .int x1] (fun st => Z (d + 1) m_law_law 249 [some (.ref a0), some (.ref 0), some (.ref 65), some (.ref 91), some (.int (nI a4)), j5, j6] st (Hp S2))) ?_
      refine wp_st (pc' := 253) (L' := [some (.ref a0), some (.ref 0), some (.ref 65), some (.ref 91), some (.int (nI a4)), j5, j6]) (st' := [.int 4, .int (nI a4), .ref a0, .int (S2 a0 (a4 + 3)), .int (S2 a0 (a4 + 2)), .int (S2 a0 (a4 + 1)), .ref 65, .int x1]) (h' := Hp S2) 3 (fun Z => rfl) ?_
      refine wp_st (pc' := 254) (L' := [some (.ref a0), some (.ref 0), some (.ref 65), some (.ref 91), some (.int (nI a4)), j5, j6]) (st' := [.int (nI (a4 + 4)), .ref a0, .int (S2 a0 (a4 + 3)), .int (S2 a0 (a4 + 2)), .int (S2 a0 (a4 + 1)), .ref 65, .int x1]) (h' := Hp S2) 1 (fun Z => by rw [← nI_add a4 4]; rfl) ?_
      obtain ⟨hi, hw⟩ := hw
      refine wp_st (pc' := 255) (L' := [some (.ref a0), some (.ref 0), some (.ref 65), some (.ref 91), some (.int (nI a4)), j5, j6]) (st' := [.int (S2 a0 (a4 + 4)), .int (S2 a0 (a4 + 3)), .int (S2 a0 (a4 + 2)), .int (S2 a0 (a4 + 1)), .ref 65, .int x1]) (h' := Hp S2) 1 (fun Z => ldN (E := E) ha0 na0lt hi [.int (S2 a0 (a4 + 3)), .int (S2 a0 (a4 + 2)), .int (S2 a0 (a4 + 1)), .ref 65, .int x1] (fun st => Z (d + 1) m_law_law 255 [some (.ref a0), some (.ref 0), some (.ref 65), some (.ref 91), some (.int (nI a4)), j5, j6] st (Hp S2))) ?_
      refine wp_st (pc' := 259) (L' := [some (.ref a0), some (.ref 0), some (.ref 65), some (.ref 91), some (.int (nI a4)), j5, j6]) (st' := [.int 5, .int (nI a4), .ref a0, .int (S2 a0 (a4 + 4)), .int (S2 a0 (a4 + 3)), .int (S2 a0 (a4 + 2)), .int (S2 a0 (a4 + 1)), .ref 65, .int x1]) (h' := Hp S2) 3 (fun Z => rfl) ?_
      refine wp_st (pc' := 260) (L' := [some (.ref a0), some (.ref 0), some (.ref 65), some (.ref 91), some (.int (nI a4)), j5, j6]) (st' := [.int (nI (a4 + 5)), .ref a0, .int (S2 a0 (a4 + 4)), .int (S2 a0 (a4 + 3)), .int (S2 a0 (a4 + 2)), .int (S2 a0 (a4 + 1)), .ref 65, .int x1]) (h' := Hp S2) 1 (fun Z => by rw [← nI_add a4 5]; rfl) ?_
      obtain ⟨hi, hw⟩ := hw
      refine wp_st (pc' := 261) (L' := [some (.ref a0), some (.ref 0), some (.ref 65), some (.ref 91), some (.int (nI a4)), j5, j6]) (st' := [.int (S2 a0 (a4 + 5)), .int (S2 a0 (a4 + 4)), .int (S2 a0 (a4 + 3)), .int (S2 a0 (a4 + 2)), .int (S2 a0 (a4 + 1)), .ref 65, .int x1]) (h' := Hp S2) 1 (fun Z => ldN (E := E) ha0 na0lt hi [.int (S2 a0 (a4 + 4)), .int (S2 a0 (a4 + 3)), .int (S2 a0 (a4 + 2)), .int (S2 a0 (a4 + 1)), .ref 65, .int x1] (fun st => Z (d + 1) m_law_law 261 [some (.ref a0), some (.ref 0), some (.ref 65), some (.ref 91), some (.int (nI a4)), j5, j6] st (Hp S2))) ?_
      refine wp_call (pc' := 264) (rest := [.int x1]) (fun Z => rfl) (isO_of sh65) hw ?_
      rintro o h1 ⟨x3, S4, rfl, rfl, hw⟩
      refine ⟨_, rfl, ?_⟩
      show wp E (d + 1) m_law_law 264 [some (.ref a0), some (.ref 0), some (.ref 65), some (.ref 91), some (.int (nI a4)), j5, j6] [.int x3, .int x1] (Hp S4) (QI Q)
      by_cases hc : x1 = x3
      · rw [if_pos hc] at hw
        refine wp_st (pc' := 2231) (L' := [some (.ref a0), some (.ref 0), some (.ref 65), some (.ref 91), some (.int (nI a4)), j5, j6]) (st' := []) (h' := Hp S4) 1 (fun Z => if_pos hc) ?_
        refine wp_st (pc' := 2234) (L' := [some (.ref a0), some (.ref 0), some (.ref 65), some (.ref 91), some (.int (nI (a4 + 6))), j5, j6]) (st' := []) (h' := Hp S4) 1 (fun Z => by rw [← nI_add a4 6]; rfl) ?_
        exact wp_st 1 (fun Z => rfl) (show wp E (d + 1) m_law_law 23 [some (.ref a0), some (.ref 0), some (.ref 65), some (.ref 91), some (.int (nI (a4 + 6))), j5, j6] [] (Hp S4) (QI Q) from (hw j5 j6))
      · rw [if_neg hc] at hw
        refine wp_st (pc' := 267) (L' := [some (.ref a0), some (.ref 0), some (.ref 65), some (.ref 91), some (.int (nI a4)), j5, j6]) (st' := []) (h' := Hp S4) 1 (fun Z => if_neg hc) ?_
        refine wp_st (pc' := 268) (L' := [some (.ref a0), some (.ref 0), some (.ref 65), some (.ref 91), some (.int (nI a4)), j5, j6]) (st' := [.int 0]) (h' := Hp S4) 1 (fun Z => rfl) ?_
        exact wp_ret (fun Z => rfl) ⟨_, _, rfl, rfl, hw⟩
    rw [if_neg c0] at hw
    by_cases c1 : ((S a0 a4) &&& (63 : Int32)) = 1
    · rw [if_pos c1] at hw
      refine wp_st (pc' := 269) (L' := [some (.ref a0), some (.ref 0), some (.ref 65), some (.ref 91), some (.int (nI a4)), j5, j6]) (st' := []) (h' := Hp S) 1 (fun Z => (show zsw (.tableswitch 2191 0 34 #[156, 229, 285, 298, 354, 422, 490, 515, 571, 639, 730, 798, 811, 891, 971, 1027, 1040, 1108, 1176, 1244, 1324, 1380, 1436, 1532, 1543, 1599, 1655, 1735, 1815, 1895, 1963, 2031, 2099, 2167, 2178]) 40 (.int ((S a0 a4) &&& (63 : Int32)) :: []) (fun t st1 => Z (d + 1) m_law_law t [some (.ref a0), some (.ref 0), some (.ref 65), some (.ref 91), some (.int (nI a4)), j5, j6] st1 (Hp S)) = _ from zsw_at (c := 1) (by rw [c1]; decide) (by decide) rfl rfl)) ?_
      refine wp_st (pc' := 274) (L' := [some (.ref a0), some (.ref 0), some (.ref 65), some (.ref 91), some (.int (nI a4)), j5, j6]) (st' := [.int 1, .int (nI a4), .ref a0, .ref 0]) (h' := Hp S) 4 (fun Z => rfl) ?_
      refine wp_st (pc' := 275) (L' := [some (.ref a0), some (.ref 0), some (.ref 65), some (.ref 91), some (.int (nI a4)), j5, j6]) (st' := [.int (nI (a4 + 1)), .ref a0, .ref 0]) (h' := Hp S) 1 (fun Z => by rw [← nI_add a4 1]; rfl) ?_
      obtain ⟨hi, hw⟩ := hw
      refine wp_st (pc' := 276) (L' := [some (.ref a0), some (.ref 0), some (.ref 65), some (.ref 91), some (.int (nI a4)), j5, j6]) (st' := [.int (S a0 (a4 + 1)), .ref 0]) (h' := Hp S) 1 (fun Z => ldN (E := E) ha0 na0lt hi [.ref 0] (fun st => Z (d + 1) m_law_law 276 [some (.ref a0), some (.ref 0), some (.ref 65), some (.ref 91), some (.int (nI a4)), j5, j6] st (Hp S))) ?_
      refine wp_st (pc' := 277) (L' := [some (.ref a0), some (.ref 0), some (.ref 65), some (.ref 91), some (.int (nI a4)), j5, j6]) (st' := [.ref 91, .int (S a0 (a4 + 1)), .ref 0]) (h' := Hp S) 1 (fun Z => rfl) ?_
      refine wp_call (pc' := 280) (rest := []) (fun Z => rfl) rfl hw ?_
      rintro o h1 ⟨x5, S6, rfl, rfl, hw⟩
      refine ⟨_, rfl, ?_⟩
      show wp E (d + 1) m_law_law 280 [some (.ref a0), some (.ref 0), some (.ref 65), some (.ref 91), some (.int (nI a4)), j5, j6] [.int x5] (Hp S6) (QI Q)
      refine wp_st (pc' := 287) (L' := [some (.ref a0), some (.ref 0), some (.ref 65), some (.ref 91), some (.int (nI a4)), some (.int x5), j6]) (st' := [.int 1, .int (nI a4), .ref a0, .ref 65]) (h' := Hp S6) 5 (fun Z => rfl) ?_
      refine wp_st (pc' := 288) (L' := [some (.ref a0), some (.ref 0), some (.ref 65), some (.ref 91), some (.int (nI a4)), some (.int x5), j6]) (st' := [.int (nI (a4 + 1)), .ref a0, .ref 65]) (h' := Hp S6) 1 (fun Z => by rw [← nI_add a4 1]; rfl) ?_
      obtain ⟨hi, hw⟩ := hw
      refine wp_st (pc' := 289) (L' := [some (.ref a0), some (.ref 0), some (.ref 65), some (.ref 91), some (.int (nI a4)), some (.int x5), j6]) (st' := [.int (S6 a0 (a4 + 1)), .ref 65]) (h' := Hp S6) 1 (fun Z => ldN (E := E) ha0 na0lt hi [.ref 65] (fun st => Z (d + 1) m_law_law 289 [some (.ref a0), some (.ref 0), some (.ref 65), some (.ref 91), some (.int (nI a4)), some (.int x5), j6] st (Hp S6))) ?_
      refine wp_call (pc' := 292) (rest := []) (fun Z => rfl) (isO_of sh65) hw ?_
      rintro o h1 ⟨x7, S8, rfl, rfl, hw⟩
      refine ⟨_, rfl, ?_⟩
      show wp E (d + 1) m_law_law 292 [some (.ref a0), some (.ref 0), some (.ref 65), some (.ref 91), some (.int (nI a4)), some (.int x5), j6] [.int x7] (Hp S8) (QI Q)
      refine wp_st (pc' := 295) (L' := [some (.ref a0), some (.ref 0), some (.ref 65), some (.ref 91), some (.int (nI a4)), some (.int x5), some (.int x7)]) (st' := [.ref 65]) (h' := Hp S8) 2 (fun Z => rfl) ?_
      refine wp_call (pc' := 298) (rest := []) (fun Z => rfl) (isO_of sh65) hw ?_
      rintro o h1 ⟨x9, S10, rfl, rfl, hw⟩
      refine ⟨_, rfl, ?_⟩
      show wp E (d + 1) m_law_law 298 [some (.ref a0), some (.ref 0), some (.ref 65), some (.ref 91), some (.int (nI a4)), some (.int x5), some (.int x7)] [.int x9] (Hp S10) (QI Q)
      refine wp_st (pc' := 300) (L' := [some (.ref a0), some (.ref 0), some (.ref 65), some (.ref 91), some (.int (nI a4)), some (.int x5), some (.int x7)]) (st' := [.int x5, .int x9]) (h' := Hp S10) 1 (fun Z => rfl) ?_
      by_cases hc : x9 = x5
      · rw [if_pos hc] at hw
        refine wp_st (pc' := 305) (L' := [some (.ref a0), some (.ref 0), some (.ref 65), some (.ref 91), some (.int (nI a4)), some (.int x5), some (.int x7)]) (st' := []) (h' := Hp S10) 1 (fun Z => if_pos hc) ?_
        refine wp_st (pc' := 307) (L' := [some (.ref a0), some (.ref 0), some (.ref 65), some (.ref 91), some (.int (nI a4)), some (.int x5), some (.int x7)]) (st' := [.int x5]) (h' := Hp S10) 1 (fun Z => rfl) ?_
        by_cases hc : x5 = 0
        · rw [if_pos hc] at hw
          refine wp_st (pc' := 310) (L' := [some (.ref a0), some (.ref 0), some (.ref 65), some (.ref 91), some (.int (nI a4)), some (.int x5), some (.int x7)]) (st' := []) (h' := Hp S10) 1 (fun Z => if_pos hc) ?_
          refine wp_st (pc' := 312) (L' := [some (.ref a0), some (.ref 0), some (.ref 65), some (.ref 91), some (.int (nI a4)), some (.int x5), some (.int x7)]) (st' := [.int 0, .ref 91]) (h' := Hp S10) 2 (fun Z => rfl) ?_
          refine wp_st (pc' := 313) (L' := [some (.ref a0), some (.ref 0), some (.ref 65), some (.ref 91), some (.int (nI a4)), some (.int x5), some (.int x7)]) (st' := [.long (catL (S10 91 0) (S10 91 1))]) (h' := Hp S10) 1 (fun Z => ldJ0 (E := E) sh91 (by decide) [] (fun st => Z (d + 1) m_law_law 313 [some (.ref a0), some (.ref 0), some (.ref 65), some (.ref 91), some (.int (nI a4)), some (.int x5), some (.int x7)] st (Hp S10))) ?_
          refine wp_st (pc' := 317) (L' := [some (.ref a0), some (.ref 0), some (.ref 65), some (.ref 91), some (.int (nI a4)), some (.int x5), some (.int x7)]) (st' := [.int (lg_cmp (catL (S10 91 0) (S10 91 1)) (Int32.toInt64 x7))]) (h' := Hp S10) 3 (fun Z => rfl) ?_
          by_cases hc : (lg_cmp (catL (S10 91 0) (S10 91 1)) (Int32.toInt64 x7)) = 0
          · rw [if_pos hc] at hw
            refine wp_st (pc' := 322) (L' := [some (.ref a0), some (.ref 0), some (.ref 65), some (.ref 91), some (.int (nI a4)), some (.int x5), some (.int x7)]) (st' := []) (h' := Hp S10) 1 (fun Z => if_pos hc) ?_
            refine wp_st (pc' := 2231) (L' := [some (.ref a0), some (.ref 0), some (.ref 65), some (.ref 91), some (.int (nI a4)), some (.int x5), some (.int x7)]) (st' := []) (h' := Hp S10) 1 (fun Z => rfl) ?_
            refine wp_st (pc' := 2234) (L' := [some (.ref a0), some (.ref 0), some (.ref 65), some (.ref 91), some (.int (nI (a4 + 6))), some (.int x5), some (.int x7)]) (st' := []) (h' := Hp S10) 1 (fun Z => by rw [← nI_add a4 6]; rfl) ?_
            exact wp_st 1 (fun Z => rfl) (show wp E (d + 1) m_law_law 23 [some (.ref a0), some (.ref 0), some (.ref 65), some (.ref 91), some (.int (nI (a4 + 6))), some (.int x5), some (.int x7)] [] (Hp S10) (QI Q) from (hw (some (.int x5)) (some (.int x7))))
          · rw [if_neg hc] at hw
            refine wp_st (pc' := 320) (L' := [some (.ref a0), some (.ref 0), some (.ref 65), some (.ref 91), some (.int (nI a4)), some (.int x5), some (.int x7)]) (st' := []) (h' := Hp S10) 1 (fun Z => if_neg hc) ?_
            refine wp_st (pc' := 321) (L' := [some (.ref a0), some (.ref 0), some (.ref 65), some (.ref 91), some (.int (nI a4)), some (.int x5), some (.int x7)]) (st' := [.int 0]) (h' := Hp S10) 1 (fun Z => rfl) ?_
            exact wp_ret (fun Z => rfl) ⟨_, _, rfl, rfl, hw⟩
        · rw [if_neg hc] at hw
          refine wp_st (pc' := 322) (L' := [some (.ref a0), some (.ref 0), some (.ref 65), some (.ref 91), some (.int (nI a4)), some (.int x5), some (.int x7)]) (st' := []) (h' := Hp S10) 1 (fun Z => if_neg hc) ?_
          refine wp_st (pc' := 2231) (L' := [some (.ref a0), some (.ref 0), some (.ref 65), some (.ref 91), some (.int (nI a4)), some (.int x5), some (.int x7)]) (st' := []) (h' := Hp S10) 1 (fun Z => rfl) ?_
          refine wp_st (pc' := 2234) (L' := [some (.ref a0), some (.ref 0), some (.ref 65), some (.ref 91), some (.int (nI (a4 + 6))), some (.int x5), some (.int x7)]) (st' := []) (h' := Hp S10) 1 (fun Z => by rw [← nI_add a4 6]; rfl) ?_
          exact wp_st 1 (fun Z => rfl) (show wp E (d + 1) m_law_law 23 [some (.ref a0), some (.ref 0), some (.ref 65), some (.ref 91), some (.int (nI (a4 + 6))), some (.int x5), some (.int x7)] [] (Hp S10) (QI Q) from (hw (some (.int x5)) (some (.int x7))))
      · rw [if_neg hc] at hw
        refine wp_st (pc' := 303) (L' := [some (.ref a0), some (.ref 0), some (.ref 65), some (.ref 91), some (.int (nI a4)), some (.int x5), some (.int x7)]) (st' := []) (h' := Hp S10) 1 (fun Z => if_neg hc) ?_
        refine wp_st (pc' := 304) (L' := [some (.ref a0), some (.ref 0), some (.ref 65), some (.ref 91), some (.int (nI a4)), some (.int x5), some (.int x7)]) (st' := [.int 0]) (h' := Hp S10) 1 (fun Z => rfl) ?_
        exact wp_ret (fun Z => rfl) ⟨_, _, rfl, rfl, hw⟩
    rw [if_neg c1] at hw
    by_cases c2 : ((S a0 a4) &&& (63 : Int32)) = 2
    · rw [if_pos c2] at hw
      refine wp_st (pc' := 325) (L' := [some (.ref a0), some (.ref 0), some (.ref 65), some (.ref 91), some (.int (nI a4)), j5, j6]) (st' := []) (h' := Hp S) 1 (fun Z => (show zsw (.tableswitch 2191 0 34 #[156, 229, 285, 298, 354, 422, 490, 515, 571, 639, 730, 798, 811, 891, 971, 1027, 1040, 1108, 1176, 1244, 1324, 1380, 1436, 1532, 1543, 1599, 1655, 1735, 1815, 1895, 1963, 2031, 2099, 2167, 2178]) 40 (.int ((S a0 a4) &&& (63 : Int32)) :: []) (fun t st1 => Z (d + 1) m_law_law t [some (.ref a0), some (.ref 0), some (.ref 65), some (.ref 91), some (.int (nI a4)), j5, j6] st1 (Hp S)) = _ from zsw_at (c := 2) (by rw [c2]; decide) (by decide) rfl rfl)) ?_
      refine wp_st (pc' := 326) (L' := [some (.ref a0), some (.ref 0), some (.ref 65), some (.ref 91), some (.int (nI a4)), j5, j6]) (st' := [.ref 0]) (h' := Hp S) 1 (fun Z => rfl) ?_
      refine wp_call (pc' := 329) (rest := []) (fun Z => rfl) (isO_of sh0) hw ?_
      rintro o h1 ⟨x11, S12, rfl, rfl, hw⟩
      refine ⟨_, rfl, ?_⟩
      show wp E (d + 1) m_law_law 329 [some (.ref a0), some (.ref 0), some (.ref 65), some (.ref 91), some (.int (nI a4)), j5, j6] [.int x11] (Hp S12) (QI Q)
      refine wp_st (pc' := 330) (L' := [some (.ref a0), some (.ref 0), some (.ref 65), some (.ref 91), some (.int (nI a4)), j5, j6]) (st' := [.ref 65, .int x11]) (h' := Hp S12) 1 (fun Z => rfl) ?_
      refine wp_call (pc' := 333) (rest := [.int x11]) (fun Z => rfl) (isO_of sh65) hw ?_
      rintro o h1 ⟨x13, S14, rfl, rfl, hw⟩
      refine ⟨_, rfl, ?_⟩
      show wp E (d + 1) m_law_law 333 [some (.ref a0), some (.ref 0), some (.ref 65), some (.ref 91), some (.int (nI a4)), j5, j6] [.int x13, .int x11] (Hp S14) (QI Q)
      by_cases hc : x11 = x13
      · rw [if_pos hc] at hw
        refine wp_st (pc' := 2231) (L' := [some (.ref a0), some (.ref 0), some (.ref 65), some (.ref 91), some (.int (nI a4)), j5, j6]) (st' := []) (h' := Hp S14) 1 (fun Z => if_pos hc) ?_
        refine wp_st (pc' := 2234) (L' := [some (.ref a0), some (.ref 0), some (.ref 65), some (.ref 91), some (.int (nI (a4 + 6))), j5, j6]) (st' := []) (h' := Hp S14) 1 (fun Z => by rw [← nI_add a4 6]; rfl) ?_
        exact wp_st 1 (fun Z => rfl) (show wp E (d + 1) m_law_law 23 [some (.ref a0), some (.ref 0), some (.ref 65), some (.ref 91), some (.int (nI (a4 + 6))), j5, j6] [] (Hp S14) (QI Q) from (hw j5 j6))
      · rw [if_neg hc] at hw
        refine wp_st (pc' := 336) (L' := [some (.ref a0), some (.ref 0), some (.ref 65), some (.ref 91), some (.int (nI a4)), j5, j6]) (st' := []) (h' := Hp S14) 1 (fun Z => if_neg hc) ?_
        refine wp_st (pc' := 337) (L' := [some (.ref a0), some (.ref 0), some (.ref 65), some (.ref 91), some (.int (nI a4)), j5, j6]) (st' := [.int 0]) (h' := Hp S14) 1 (fun Z => rfl) ?_
        exact wp_ret (fun Z => rfl) ⟨_, _, rfl, rfl, hw⟩
    rw [if_neg c2] at hw
    by_cases c3 : ((S a0 a4) &&& (63 : Int32)) = 3
    · rw [if_pos c3] at hw
      refine wp_st (pc' := 338) (L' := [some (.ref a0), some (.ref 0), some (.ref 65), some (.ref 91), some (.int (nI a4)), j5, j6]) (st' := []) (h' := Hp S) 1 (fun Z => (show zsw (.tableswitch 2191 0 34 #[156, 229, 285, 298, 354, 422, 490, 515, 571, 639, 730, 798, 811, 891, 971, 1027, 1040, 1108, 1176, 1244, 1324, 1380, 1436, 1532, 1543, 1599, 1655, 1735, 1815, 1895, 1963, 2031, 2099, 2167, 2178]) 40 (.int ((S a0 a4) &&& (63 : Int32)) :: []) (fun t st1 => Z (d + 1) m_law_law t [some (.ref a0), some (.ref 0), some (.ref 65), some (.ref 91), some (.int (nI a4)), j5, j6] st1 (Hp S)) = _ from zsw_at (c := 3) (by rw [c3]; decide) (by decide) rfl rfl)) ?_
      refine wp_st (pc' := 343) (L' := [some (.ref a0), some (.ref 0), some (.ref 65), some (.ref 91), some (.int (nI a4)), j5, j6]) (st' := [.int 1, .int (nI a4), .ref a0, .ref 0]) (h' := Hp S) 4 (fun Z => rfl) ?_
      refine wp_st (pc' := 344) (L' := [some (.ref a0), some (.ref 0), some (.ref 65), some (.ref 91), some (.int (nI a4)), j5, j6]) (st' := [.int (nI (a4 + 1)), .ref a0, .ref 0]) (h' := Hp S) 1 (fun Z => by rw [← nI_add a4 1]; rfl) ?_
      obtain ⟨hi, hw⟩ := hw
      refine wp_st (pc' := 345) (L' := [some (.ref a0), some (.ref 0), some (.ref 65), some (.ref 91), some (.int (nI a4)), j5, j6]) (st' := [.int (S a0 (a4 + 1)), .ref 0]) (h' := Hp S) 1 (fun Z => ldN (E := E) ha0 na0lt hi [.ref 0] (fun st => Z (d + 1) m_law_law 345 [some (.ref a0), some (.ref 0), some (.ref 65), some (.ref 91), some (.int (nI a4)), j5, j6] st (Hp S))) ?_
      refine wp_st (pc' := 346) (L' := [some (.ref a0), some (.ref 0), some (.ref 65), some (.ref 91), some (.int (nI a4)), j5, j6]) (st' := [.ref 91, .int (S a0 (a4 + 1)), .ref 0]) (h' := Hp S) 1 (fun Z => rfl) ?_
      refine wp_call (pc' := 349) (rest := []) (fun Z => rfl) rfl hw ?_
      rintro o h1 ⟨x15, S16, rfl, rfl, hw⟩
      refine ⟨_, rfl, ?_⟩
      show wp E (d + 1) m_law_law 349 [some (.ref a0), some (.ref 0), some (.ref 65), some (.ref 91), some (.int (nI a4)), j5, j6] [.int x15] (Hp S16) (QI Q)
      refine wp_st (pc' := 356) (L' := [some (.ref a0), some (.ref 0), some (.ref 65), some (.ref 91), some (.int (nI a4)), some (.int x15), j6]) (st' := [.int 1, .int (nI a4), .ref a0, .ref 65]) (h' := Hp S16) 5 (fun Z => rfl) ?_
      refine wp_st (pc' := 357) (L' := [some (.ref a0), some (.ref 0), some (.ref 65), some (.ref 91), some (.int (nI a4)), some (.int x15), j6]) (st' := [.int (nI (a4 + 1)), .ref a0, .ref 65]) (h' := Hp S16) 1 (fun Z => by rw [← nI_add a4 1]; rfl) ?_
      obtain ⟨hi, hw⟩ := hw
      refine wp_st (pc' := 358) (L' := [some (.ref a0), some (.ref 0), some (.ref 65), some (.ref 91), some (.int (nI a4)), some (.int x15), j6]) (st' := [.int (S16 a0 (a4 + 1)), .ref 65]) (h' := Hp S16) 1 (fun Z => ldN (E := E) ha0 na0lt hi [.ref 65] (fun st => Z (d + 1) m_law_law 358 [some (.ref a0), some (.ref 0), some (.ref 65), some (.ref 91), some (.int (nI a4)), some (.int x15), j6] st (Hp S16))) ?_
      refine wp_call (pc' := 361) (rest := []) (fun Z => rfl) (isO_of sh65) hw ?_
      rintro o h1 ⟨x17, S18, rfl, rfl, hw⟩
      refine ⟨_, rfl, ?_⟩
      show wp E (d + 1) m_law_law 361 [some (.ref a0), some (.ref 0), some (.ref 65), some (.ref 91), some (.int (nI a4)), some (.int x15), j6] [.int x17] (Hp S18) (QI Q)
      refine wp_st (pc' := 364) (L' := [some (.ref a0), some (.ref 0), some (.ref 65), some (.ref 91), some (.int (nI a4)), some (.int x15), some (.int x17)]) (st' := [.ref 65]) (h' := Hp S18) 2 (fun Z => rfl) ?_
      refine wp_call (pc' := 367) (rest := []) (fun Z => rfl) (isO_of sh65) hw ?_
      rintro o h1 ⟨x19, S20, rfl, rfl, hw⟩
      refine ⟨_, rfl, ?_⟩
      show wp E (d + 1) m_law_law 367 [some (.ref a0), some (.ref 0), some (.ref 65), some (.ref 91), some (.int (nI a4)), some (.int x15), some (.int x17)] [.int x19] (Hp S20) (QI Q)
      refine wp_st (pc' := 369) (L' := [some (.ref a0), some (.ref 0), some (.ref 65), some (.ref 91), some (.int (nI a4)), some (.int x15), some (.int x17)]) (st' := [.int x15, .int x19]) (h' := Hp S20) 1 (fun Z => rfl) ?_
      by_cases hc : x19 = x15
      · rw [if_pos hc] at hw
        refine wp_st (pc' := 374) (L' := [some (.ref a0), some (.ref 0), some (.ref 65), some (.ref 91), some (.int (nI a4)), some (.int x15), some (.int x17)]) (st' := []) (h' := Hp S20) 1 (fun Z => if_pos hc) ?_
        refine wp_st (pc' := 376) (L' := [some (.ref a0), some (.ref 0), some (.ref 65), some (.ref 91), some (.int (nI a4)), some (.int x15), some (.int x17)]) (st' := [.int x15]) (h' := Hp S20) 1 (fun Z => rfl) ?_
        by_cases hc : x15 = 0
        · rw [if_pos hc] at hw
          refine wp_st (pc' := 379) (L' := [some (.ref a0), some (.ref 0), some (.ref 65), some (.ref 91), some (.int (nI a4)), some (.int x15), some (.int x17)]) (st' := []) (h' := Hp S20) 1 (fun Z => if_pos hc) ?_
          refine wp_st (pc' := 381) (L' := [some (.ref a0), some (.ref 0), some (.ref 65), some (.ref 91), some (.int (nI a4)), some (.int x15), some (.int x17)]) (st' := [.int 0, .ref 91]) (h' := Hp S20) 2 (fun Z => rfl) ?_
          refine wp_st (pc' := 382) (L' := [some (.ref a0), some (.ref 0), some (.ref 65), some (.ref 91), some (.int (nI a4)), some (.int x15), some (.int x17)]) (st' := [.long (catL (S20 91 0) (S20 91 1))]) (h' := Hp S20) 1 (fun Z => ldJ0 (E := E) sh91 (by decide) [] (fun st => Z (d + 1) m_law_law 382 [some (.ref a0), some (.ref 0), some (.ref 65), some (.ref 91), some (.int (nI a4)), some (.int x15), some (.int x17)] st (Hp S20))) ?_
          refine wp_st (pc' := 386) (L' := [some (.ref a0), some (.ref 0), some (.ref 65), some (.ref 91), some (.int (nI a4)), some (.int x15), some (.int x17)]) (st' := [.int (lg_cmp (catL (S20 91 0) (S20 91 1)) (Int32.toInt64 x17))]) (h' := Hp S20) 3 (fun Z => rfl) ?_
          by_cases hc : (lg_cmp (catL (S20 91 0) (S20 91 1)) (Int32.toInt64 x17)) = 0
          · rw [if_pos hc] at hw
            refine wp_st (pc' := 391) (L' := [some (.ref a0), some (.ref 0), some (.ref 65), some (.ref 91), some (.int (nI a4)), some (.int x15), some (.int x17)]) (st' := []) (h' := Hp S20) 1 (fun Z => if_pos hc) ?_
            refine wp_st (pc' := 2231) (L' := [some (.ref a0), some (.ref 0), some (.ref 65), some (.ref 91), some (.int (nI a4)), some (.int x15), some (.int x17)]) (st' := []) (h' := Hp S20) 1 (fun Z => rfl) ?_
            refine wp_st (pc' := 2234) (L' := [some (.ref a0), some (.ref 0), some (.ref 65), some (.ref 91), some (.int (nI (a4 + 6))), some (.int x15), some (.int x17)]) (st' := []) (h' := Hp S20) 1 (fun Z => by rw [← nI_add a4 6]; rfl) ?_
            exact wp_st 1 (fun Z => rfl) (show wp E (d + 1) m_law_law 23 [some (.ref a0), some (.ref 0), some (.ref 65), some (.ref 91), some (.int (nI (a4 + 6))), some (.int x15), some (.int x17)] [] (Hp S20) (QI Q) from (hw (some (.int x15)) (some (.int x17))))
          · rw [if_neg hc] at hw
            refine wp_st (pc' := 389) (L' := [some (.ref a0), some (.ref 0), some (.ref 65), some (.ref 91), some (.int (nI a4)), some (.int x15), some (.int x17)]) (st' := []) (h' := Hp S20) 1 (fun Z => if_neg hc) ?_
            refine wp_st (pc' := 390) (L' := [some (.ref a0), some (.ref 0), some (.ref 65), some (.ref 91), some (.int (nI a4)), some (.int x15), some (.int x17)]) (st' := [.int 0]) (h' := Hp S20) 1 (fun Z => rfl) ?_
            exact wp_ret (fun Z => rfl) ⟨_, _, rfl, rfl, hw⟩
        · rw [if_neg hc] at hw
          refine wp_st (pc' := 391) (L' := [some (.ref a0), some (.ref 0), some (.ref 65), some (.ref 91), some (.int (nI a4)), some (.int x15), some (.int x17)]) (st' := []) (h' := Hp S20) 1 (fun Z => if_neg hc) ?_
          refine wp_st (pc' := 2231) (L' := [some (.ref a0), some (.ref 0), some (.ref 65), some (.ref 91), some (.int (nI a4)), some (.int x15), some (.int x17)]) (st' := []) (h' := Hp S20) 1 (fun Z => rfl) ?_
          refine wp_st (pc' := 2234) (L' := [some (.ref a0), some (.ref 0), some (.ref 65), some (.ref 91), some (.int (nI (a4 + 6))), some (.int x15), some (.int x17)]) (st' := []) (h' := Hp S20) 1 (fun Z => by rw [← nI_add a4 6]; rfl) ?_
          exact wp_st 1 (fun Z => rfl) (show wp E (d + 1) m_law_law 23 [some (.ref a0), some (.ref 0), some (.ref 65), some (.ref 91), some (.int (nI (a4 + 6))), some (.int x15), some (.int x17)] [] (Hp S20) (QI Q) from (hw (some (.int x15)) (some (.int x17))))
      · rw [if_neg hc] at hw
        refine wp_st (pc' := 372) (L' := [some (.ref a0), some (.ref 0), some (.ref 65), some (.ref 91), some (.int (nI a4)), some (.int x15), some (.int x17)]) (st' := []) (h' := Hp S20) 1 (fun Z => if_neg hc) ?_
        refine wp_st (pc' := 373) (L' := [some (.ref a0), some (.ref 0), some (.ref 65), some (.ref 91), some (.int (nI a4)), some (.int x15), some (.int x17)]) (st' := [.int 0]) (h' := Hp S20) 1 (fun Z => rfl) ?_
        exact wp_ret (fun Z => rfl) ⟨_, _, rfl, rfl, hw⟩
    rw [if_neg c3] at hw
    by_cases c4 : ((S a0 a4) &&& (63 : Int32)) = 4
    · rw [if_pos c4] at hw
      refine wp_st (pc' := 394) (L' := [some (.ref a0), some (.ref 0), some (.ref 65), some (.ref 91), some (.int (nI a4)), j5, j6]) (st' := []) (h' := Hp S) 1 (fun Z => (show zsw (.tableswitch 2191 0 34 #[156, 229, 285, 298, 354, 422, 490, 515, 571, 639, 730, 798, 811, 891, 971, 1027, 1040, 1108, 1176, 1244, 1324, 1380, 1436, 1532, 1543, 1599, 1655, 1735, 1815, 1895, 1963, 2031, 2099, 2167, 2178]) 40 (.int ((S a0 a4) &&& (63 : Int32)) :: []) (fun t st1 => Z (d + 1) m_law_law t [some (.ref a0), some (.ref 0), some (.ref 65), some (.ref 91), some (.int (nI a4)), j5, j6] st1 (Hp S)) = _ from zsw_at (c := 4) (by rw [c4]; decide) (by decide) rfl rfl)) ?_
      refine wp_st (pc' := 399) (L' := [some (.ref a0), some (.ref 0), some (.ref 65), some (.ref 91), some (.int (nI a4)), j5, j6]) (st' := [.int 1, .int (nI a4), .ref a0, .ref 0]) (h' := Hp S) 4 (fun Z => rfl) ?_
      refine wp_st (pc' := 400) (L' := [some (.ref a0), some (.ref 0), some (.ref 65), some (.ref 91), some (.int (nI a4)), j5, j6]) (st' := [.int (nI (a4 + 1)), .ref a0, .ref 0]) (h' := Hp S) 1 (fun Z => by rw [← nI_add a4 1]; rfl) ?_
      obtain ⟨hi, hw⟩ := hw
      refine wp_st (pc' := 401) (L' := [some (.ref a0), some (.ref 0), some (.ref 65), some (.ref 91), some (.int (nI a4)), j5, j6]) (st' := [.int (S a0 (a4 + 1)), .ref 0]) (h' := Hp S) 1 (fun Z => ldN (E := E) ha0 na0lt hi [.ref 0] (fun st => Z (d + 1) m_law_law 401 [some (.ref a0), some (.ref 0), some (.ref 65), some (.ref 91), some (.int (nI a4)), j5, j6] st (Hp S))) ?_
      refine wp_st (pc' := 405) (L' := [some (.ref a0), some (.ref 0), some (.ref 65), some (.ref 91), some (.int (nI a4)), j5, j6]) (st' := [.int 2, .int (nI a4), .ref a0, .int (S a0 (a4 + 1)), .ref 0]) (h' := Hp S) 3 (fun Z => rfl) ?_
      refine wp_st (pc' := 406) (L' := [some (.ref a0), some (.ref 0), some (.ref 65), some (.ref 91), some (.int (nI a4)), j5, j6]) (st' := [.int (nI (a4 + 2)), .ref a0, .int (S a0 (a4 + 1)), .ref 0]) (h' := Hp S) 1 (fun Z => by rw [← nI_add a4 2]; rfl) ?_
      obtain ⟨hi, hw⟩ := hw
      refine wp_st (pc' := 407) (L' := [some (.ref a0), some (.ref 0), some (.ref 65), some (.ref 91), some (.int (nI a4)), j5, j6]) (st' := [.int (S a0 (a4 + 2)), .int (S a0 (a4 + 1)), .ref 0]) (h' := Hp S) 1 (fun Z => ldN (E := E) ha0 na0lt hi [.int (S a0 (a4 + 1)), .ref 0] (fun st => Z (d + 1) m_law_law 407 [some (.ref a0), some (.ref 0), some (.ref 65), some (.ref 91), some (.int (nI a4)), j5, j6] st (Hp S))) ?_
      refine wp_st (pc' := 408) (L' := [some (.ref a0), some (.ref 0), some (.ref 65), some (.ref 91), some (.int (nI a4)), j5, j6]) (st' := [.ref 91, .int (S a0 (a4 + 2)), .int (S a0 (a4 + 1)), .ref 0]) (h' := Hp S) 1 (fun Z => rfl) ?_
      refine wp_call (pc' := 411) (rest := []) (fun Z => rfl) rfl hw ?_
      rintro o h1 ⟨x21, S22, rfl, rfl, hw⟩
      refine ⟨_, rfl, ?_⟩
      show wp E (d + 1) m_law_law 411 [some (.ref a0), some (.ref 0), some (.ref 65), some (.ref 91), some (.int (nI a4)), j5, j6] [.int x21] (Hp S22) (QI Q)
      refine wp_st (pc' := 418) (L' := [some (.ref a0), some (.ref 0), some (.ref 65), some (.ref 91), some (.int (nI a4)), some (.int x21), j6]) (st' := [.int 1, .int (nI a4), .ref a0, .ref 65]) (h' := Hp S22) 5 (fun Z => rfl) ?_
      refine wp_st (pc' := 419) (L' := [some (.ref a0), some (.ref 0), some (.ref 65), some (.ref 91), some (.int (nI a4)), some (.int x21), j6]) (st' := [.int (nI (a4 + 1)), .ref a0, .ref 65]) (h' := Hp S22) 1 (fun Z => by rw [← nI_add a4 1]; rfl) ?_
      obtain ⟨hi, hw⟩ := hw
      refine wp_st (pc' := 420) (L' := [some (.ref a0), some (.ref 0), some (.ref 65), some (.ref 91), some (.int (nI a4)), some (.int x21), j6]) (st' := [.int (S22 a0 (a4 + 1)), .ref 65]) (h' := Hp S22) 1 (fun Z => ldN (E := E) ha0 na0lt hi [.ref 65] (fun st => Z (d + 1) m_law_law 420 [some (.ref a0), some (.ref 0), some (.ref 65), some (.ref 91), some (.int (nI a4)), some (.int x21), j6] st (Hp S22))) ?_
      refine wp_st (pc' := 424) (L' := [some (.ref a0), some (.ref 0), some (.ref 65), some (.ref 91), some (.int (nI a4)), some (.int x21), j6]) (st' := [.int 2, .int (nI a4), .ref a0, .int (S22 a0 (a4 + 1)), .ref 65]) (h' := Hp S22) 3 (fun Z => rfl) ?_
      refine wp_st (pc' := 425) (L' := [some (.ref a0), some (.ref 0), some (.ref 65), some (.ref 91), some (.int (nI a4)), some (.int x21), j6]) (st' := [.int (nI (a4 + 2)), .ref a0, .int (S22 a0 (a4 + 1)), .ref 65]) (h' := Hp S22) 1 (fun Z => by rw [← nI_add a4 2]; rfl) ?_
      obtain ⟨hi, hw⟩ := hw
      refine wp_st (pc' := 426) (L' := [some (.ref a0), some (.ref 0), some (.ref 65), some (.ref 91), some (.int (nI a4)), some (.int x21), j6]) (st' := [.int (S22 a0 (a4 + 2)), .int (S22 a0 (a4 + 1)), .ref 65]) (h' := Hp S22) 1 (fun Z => ldN (E := E) ha0 na0lt hi [.int (S22 a0 (a4 + 1)), .ref 65] (fun st => Z (d + 1) m_law_law 426 [some (.ref a0), some (.ref 0), some (.ref 65), some (.ref 91), some (.int (nI a4)), some (.int x21), j6] st (Hp S22))) ?_
      refine wp_call (pc' := 429) (rest := []) (fun Z => rfl) (isO_of sh65) hw ?_
      rintro o h1 ⟨x23, S24, rfl, rfl, hw⟩
      refine ⟨_, rfl, ?_⟩
      show wp E (d + 1) m_law_law 429 [some (.ref a0), some (.ref 0), some (.ref 65), some (.ref 91), some (.int (nI a4)), some (.int x21), j6] [.int x23] (Hp S24) (QI Q)
      refine wp_st (pc' := 432) (L' := [some (.ref a0), some (.ref 0), some (.ref 65), some (.ref 91), some (.int (nI a4)), some (.int x21), some (.int x23)]) (st' := [.ref 65]) (h' := Hp S24) 2 (fun Z => rfl) ?_
      refine wp_call (pc' := 435) (rest := []) (fun Z => rfl) (isO_of sh65) hw ?_
      rintro o h1 ⟨x25, S26, rfl, rfl, hw⟩
      refine ⟨_, rfl, ?_⟩
      show wp E (d + 1) m_law_law 435 [some (.ref a0), some (.ref 0), some (.ref 65), some (.ref 91), some (.int (nI a4)), some (.int x21), some (.int x23)] [.int x25] (Hp S26) (QI Q)
      refine wp_st (pc' := 437) (L' := [some (.ref a0), some (.ref 0), some (.ref 65), some (.ref 91), some (.int (nI a4)), some (.int x21), some (.int x23)]) (st' := [.int x21, .int x25]) (h' := Hp S26) 1 (fun Z => rfl) ?_
      by_cases hc : x25 = x21
      · rw [if_pos hc] at hw
        refine wp_st (pc' := 442) (L' := [some (.ref a0), some (.ref 0), some (.ref 65), some (.ref 91), some (.int (nI a4)), some (.int x21), some (.int x23)]) (st' := []) (h' := Hp S26) 1 (fun Z => if_pos hc) ?_
        refine wp_st (pc' := 444) (L' := [some (.ref a0), some (.ref 0), some (.ref 65), some (.ref 91), some (.int (nI a4)), some (.int x21), some (.int x23)]) (st' := [.int x21]) (h' := Hp S26) 1 (fun Z => rfl) ?_
        by_cases hc : x21 = 0
        · rw [if_pos hc] at hw
          refine wp_st (pc' := 447) (L' := [some (.ref a0), some (.ref 0), some (.ref 65), some (.ref 91), some (.int (nI a4)), some (.int x21), some (.int x23)]) (st' := []) (h' := Hp S26) 1 (fun Z => if_pos hc) ?_
          refine wp_st (pc' := 449) (L' := [some (.ref a0), some (.ref 0), some (.ref 65), some (.ref 91), some (.int (nI a4)), some (.int x21), some (.int x23)]) (st' := [.int 0, .ref 91]) (h' := Hp S26) 2 (fun Z => rfl) ?_
          refine wp_st (pc' := 450) (L' := [some (.ref a0), some (.ref 0), some (.ref 65), some (.ref 91), some (.int (nI a4)), some (.int x21), some (.int x23)]) (st' := [.long (catL (S26 91 0) (S26 91 1))]) (h' := Hp S26) 1 (fun Z => ldJ0 (E := E) sh91 (by decide) [] (fun st => Z (d + 1) m_law_law 450 [some (.ref a0), some (.ref 0), some (.ref 65), some (.ref 91), some (.int (nI a4)), some (.int x21), some (.int x23)] st (Hp S26))) ?_
          refine wp_st (pc' := 454) (L' := [some (.ref a0), some (.ref 0), some (.ref 65), some (.ref 91), some (.int (nI a4)), some (.int x21), some (.int x23)]) (st' := [.int (lg_cmp (catL (S26 91 0) (S26 91 1)) (Int32.toInt64 x23))]) (h' := Hp S26) 3 (fun Z => rfl) ?_
          by_cases hc : (lg_cmp (catL (S26 91 0) (S26 91 1)) (Int32.toInt64 x23)) = 0
          · rw [if_pos hc] at hw
            refine wp_st (pc' := 459) (L' := [some (.ref a0), some (.ref 0), some (.ref 65), some (.ref 91), some (.int (nI a4)), some (.int x21), some (.int x23)]) (st' := []) (h' := Hp S26) 1 (fun Z => if_pos hc) ?_
            refine wp_st (pc' := 2231) (L' := [some (.ref a0), some (.ref 0), some (.ref 65), some (.ref 91), some (.int (nI a4)), some (.int x21), some (.int x23)]) (st' := []) (h' := Hp S26) 1 (fun Z => rfl) ?_
            refine wp_st (pc' := 2234) (L' := [some (.ref a0), some (.ref 0), some (.ref 65), some (.ref 91), some (.int (nI (a4 + 6))), some (.int x21), some (.int x23)]) (st' := []) (h' := Hp S26) 1 (fun Z => by rw [← nI_add a4 6]; rfl) ?_
            exact wp_st 1 (fun Z => rfl) (show wp E (d + 1) m_law_law 23 [some (.ref a0), some (.ref 0), some (.ref 65), some (.ref 91), some (.int (nI (a4 + 6))), some (.int x21), some (.int x23)] [] (Hp S26) (QI Q) from (hw (some (.int x21)) (some (.int x23))))
          · rw [if_neg hc] at hw
            refine wp_st (pc' := 457) (L' := [some (.ref a0), some (.ref 0), some (.ref 65), some (.ref 91), some (.int (nI a4)), some (.int x21), some (.int x23)]) (st' := []) (h' := Hp S26) 1 (fun Z => if_neg hc) ?_
            refine wp_st (pc' := 458) (L' := [some (.ref a0), some (.ref 0), some (.ref 65), some (.ref 91), some (.int (nI a4)), some (.int x21), some (.int x23)]) (st' := [.int 0]) (h' := Hp S26) 1 (fun Z => rfl) ?_
            exact wp_ret (fun Z => rfl) ⟨_, _, rfl, rfl, hw⟩
        · rw [if_neg hc] at hw
          refine wp_st (pc' := 459) (L' := [some (.ref a0), some (.ref 0), some (.ref 65), some (.ref 91), some (.int (nI a4)), some (.int x21), some (.int x23)]) (st' := []) (h' := Hp S26) 1 (fun Z => if_neg hc) ?_
          refine wp_st (pc' := 2231) (L' := [some (.ref a0), some (.ref 0), some (.ref 65), some (.ref 91), some (.int (nI a4)), some (.int x21), some (.int x23)]) (st' := []) (h' := Hp S26) 1 (fun Z => rfl) ?_
          refine wp_st (pc' := 2234) (L' := [some (.ref a0), some (.ref 0), some (.ref 65), some (.ref 91), some (.int (nI (a4 + 6))), some (.int x21), some (.int x23)]) (st' := []) (h' := Hp S26) 1 (fun Z => by rw [← nI_add a4 6]; rfl) ?_
          exact wp_st 1 (fun Z => rfl) (show wp E (d + 1) m_law_law 23 [some (.ref a0), some (.ref 0), some (.ref 65), some (.ref 91), some (.int (nI (a4 + 6))), some (.int x21), some (.int x23)] [] (Hp S26) (QI Q) from (hw (some (.int x21)) (some (.int x23))))
      · rw [if_neg hc] at hw
        refine wp_st (pc' := 440) (L' := [some (.ref a0), some (.ref 0), some (.ref 65), some (.ref 91), some (.int (nI a4)), some (.int x21), some (.int x23)]) (st' := []) (h' := Hp S26) 1 (fun Z => if_neg hc) ?_
        refine wp_st (pc' := 441) (L' := [some (.ref a0), some (.ref 0), some (.ref 65), some (.ref 91), some (.int (nI a4)), some (.int x21), some (.int x23)]) (st' := [.int 0]) (h' := Hp S26) 1 (fun Z => rfl) ?_
        exact wp_ret (fun Z => rfl) ⟨_, _, rfl, rfl, hw⟩
    rw [if_neg c4] at hw
    by_cases c5 : ((S a0 a4) &&& (63 : Int32)) = 5
    · rw [if_pos c5] at hw
      refine wp_st (pc' := 462) (L' := [some (.ref a0), some (.ref 0), some (.ref 65), some (.ref 91), some (.int (nI a4)), j5, j6]) (st' := []) (h' := Hp S) 1 (fun Z => (show zsw (.tableswitch 2191 0 34 #[156, 229, 285, 298, 354, 422, 490, 515, 571, 639, 730, 798, 811, 891, 971, 1027, 1040, 1108, 1176, 1244, 1324, 1380, 1436, 1532, 1543, 1599, 1655, 1735, 1815, 1895, 1963, 2031, 2099, 2167, 2178]) 40 (.int ((S a0 a4) &&& (63 : Int32)) :: []) (fun t st1 => Z (d + 1) m_law_law t [some (.ref a0), some (.ref 0), some (.ref 65), some (.ref 91), some (.int (nI a4)), j5, j6] st1 (Hp S)) = _ from zsw_at (c := 5) (by rw [c5]; decide) (by decide) rfl rfl)) ?_
      refine wp_st (pc' := 467) (L' := [some (.ref a0), some (.ref 0), some (.ref 65), some (.ref 91), some (.int (nI a4)), j5, j6]) (st' := [.int 1, .int (nI a4), .ref a0, .ref 0]) (h' := Hp S) 4 (fun Z => rfl) ?_
      refine wp_st (pc' := 468) (L' := [some (.ref a0), some (.ref 0), some (.ref 65), some (.ref 91), some (.int (nI a4)), j5, j6]) (st' := [.int (nI (a4 + 1)), .ref a0, .ref 0]) (h' := Hp S) 1 (fun Z => by rw [← nI_add a4 1]; rfl) ?_
      obtain ⟨hi, hw⟩ := hw
      refine wp_st (pc' := 469) (L' := [some (.ref a0), some (.ref 0), some (.ref 65), some (.ref 91), some (.int (nI a4)), j5, j6]) (st' := [.int (S a0 (a4 + 1)), .ref 0]) (h' := Hp S) 1 (fun Z => ldN (E := E) ha0 na0lt hi [.ref 0] (fun st => Z (d + 1) m_law_law 469 [some (.ref a0), some (.ref 0), some (.ref 65), some (.ref 91), some (.int (nI a4)), j5, j6] st (Hp S))) ?_
      refine wp_st (pc' := 473) (L' := [some (.ref a0), some (.ref 0), some (.ref 65), some (.ref 91), some (.int (nI a4)), j5, j6]) (st' := [.int 2, .int (nI a4), .ref a0, .int (S a0 (a4 + 1)), .ref 0]) (h' := Hp S) 3 (fun Z => rfl) ?_
      refine wp_st (pc' := 474) (L' := [some (.ref a0), some (.ref 0), some (.ref 65), some (.ref 91), some (.int (nI a4)), j5, j6]) (st' := [.int (nI (a4 + 2)), .ref a0, .int (S a0 (a4 + 1)), .ref 0]) (h' := Hp S) 1 (fun Z => by rw [← nI_add a4 2]; rfl) ?_
      obtain ⟨hi, hw⟩ := hw
      refine wp_st (pc' := 475) (L' := [some (.ref a0), some (.ref 0), some (.ref 65), some (.ref 91), some (.int (nI a4)), j5, j6]) (st' := [.int (S a0 (a4 + 2)), .int (S a0 (a4 + 1)), .ref 0]) (h' := Hp S) 1 (fun Z => ldN (E := E) ha0 na0lt hi [.int (S a0 (a4 + 1)), .ref 0] (fun st => Z (d + 1) m_law_law 475 [some (.ref a0), some (.ref 0), some (.ref 65), some (.ref 91), some (.int (nI a4)), j5, j6] st (Hp S))) ?_
      refine wp_st (pc' := 476) (L' := [some (.ref a0), some (.ref 0), some (.ref 65), some (.ref 91), some (.int (nI a4)), j5, j6]) (st' := [.ref 91, .int (S a0 (a4 + 2)), .int (S a0 (a4 + 1)), .ref 0]) (h' := Hp S) 1 (fun Z => rfl) ?_
      refine wp_call (pc' := 479) (rest := []) (fun Z => rfl) rfl hw ?_
      rintro o h1 ⟨x27, S28, rfl, rfl, hw⟩
      refine ⟨_, rfl, ?_⟩
      show wp E (d + 1) m_law_law 479 [some (.ref a0), some (.ref 0), some (.ref 65), some (.ref 91), some (.int (nI a4)), j5, j6] [.int x27] (Hp S28) (QI Q)
      refine wp_st (pc' := 486) (L' := [some (.ref a0), some (.ref 0), some (.ref 65), some (.ref 91), some (.int (nI a4)), some (.int x27), j6]) (st' := [.int 1, .int (nI a4), .ref a0, .ref 65]) (h' := Hp S28) 5 (fun Z => rfl) ?_
      refine wp_st (pc' := 487) (L' := [some (.ref a0), some (.ref 0), some (.ref 65), some (.ref 91), some (.int (nI a4)), some (.int x27), j6]) (st' := [.int (nI (a4 + 1)), .ref a0, .ref 65]) (h' := Hp S28) 1 (fun Z => by rw [← nI_add a4 1]; rfl) ?_
      obtain ⟨hi, hw⟩ := hw
      refine wp_st (pc' := 488) (L' := [some (.ref a0), some (.ref 0), some (.ref 65), some (.ref 91), some (.int (nI a4)), some (.int x27), j6]) (st' := [.int (S28 a0 (a4 + 1)), .ref 65]) (h' := Hp S28) 1 (fun Z => ldN (E := E) ha0 na0lt hi [.ref 65] (fun st => Z (d + 1) m_law_law 488 [some (.ref a0), some (.ref 0), some (.ref 65), some (.ref 91), some (.int (nI a4)), some (.int x27), j6] st (Hp S28))) ?_
      refine wp_st (pc' := 492) (L' := [some (.ref a0), some (.ref 0), some (.ref 65), some (.ref 91), some (.int (nI a4)), some (.int x27), j6]) (st' := [.int 2, .int (nI a4), .ref a0, .int (S28 a0 (a4 + 1)), .ref 65]) (h' := Hp S28) 3 (fun Z => rfl) ?_
      refine wp_st (pc' := 493) (L' := [some (.ref a0), some (.ref 0), some (.ref 65), some (.ref 91), some (.int (nI a4)), some (.int x27), j6]) (st' := [.int (nI (a4 + 2)), .ref a0, .int (S28 a0 (a4 + 1)), .ref 65]) (h' := Hp S28) 1 (fun Z => by rw [← nI_add a4 2]; rfl) ?_
      obtain ⟨hi, hw⟩ := hw
      refine wp_st (pc' := 494) (L' := [some (.ref a0), some (.ref 0), some (.ref 65), some (.ref 91), some (.int (nI a4)), some (.int x27), j6]) (st' := [.int (S28 a0 (a4 + 2)), .int (S28 a0 (a4 + 1)), .ref 65]) (h' := Hp S28) 1 (fun Z => ldN (E := E) ha0 na0lt hi [.int (S28 a0 (a4 + 1)), .ref 65] (fun st => Z (d + 1) m_law_law 494 [some (.ref a0), some (.ref 0), some (.ref 65), some (.ref 91), some (.int (nI a4)), some (.int x27), j6] st (Hp S28))) ?_
      refine wp_call (pc' := 497) (rest := []) (fun Z => rfl) (isO_of sh65) hw ?_
      rintro o h1 ⟨x29, S30, rfl, rfl, hw⟩
      refine ⟨_, rfl, ?_⟩
      show wp E (d + 1) m_law_law 497 [some (.ref a0), some (.ref 0), some (.ref 65), some (.ref 91), some (.int (nI a4)), some (.int x27), j6] [.int x29] (Hp S30) (QI Q)
      refine wp_st (pc' := 500) (L' := [some (.ref a0), some (.ref 0), some (.ref 65), some (.ref 91), some (.int (nI a4)), some (.int x27), some (.int x29)]) (st' := [.ref 65]) (h' := Hp S30) 2 (fun Z => rfl) ?_
      refine wp_call (pc' := 503) (rest := []) (fun Z => rfl) (isO_of sh65) hw ?_
      rintro o h1 ⟨x31, S32, rfl, rfl, hw⟩
      refine ⟨_, rfl, ?_⟩
      show wp E (d + 1) m_law_law 503 [some (.ref a0), some (.ref 0), some (.ref 65), some (.ref 91), some (.int (nI a4)), some (.int x27), some (.int x29)] [.int x31] (Hp S32) (QI Q)
      refine wp_st (pc' := 505) (L' := [some (.ref a0), some (.ref 0), some (.ref 65), some (.ref 91), some (.int (nI a4)), some (.int x27), some (.int x29)]) (st' := [.int x27, .int x31]) (h' := Hp S32) 1 (fun Z => rfl) ?_
      by_cases hc : x31 = x27
      · rw [if_pos hc] at hw
        refine wp_st (pc' := 510) (L' := [some (.ref a0), some (.ref 0), some (.ref 65), some (.ref 91), some (.int (nI a4)), some (.int x27), some (.int x29)]) (st' := []) (h' := Hp S32) 1 (fun Z => if_pos hc) ?_
        refine wp_st (pc' := 512) (L' := [some (.ref a0), some (.ref 0), some (.ref 65), some (.ref 91), some (.int (nI a4)), some (.int x27), some (.int x29)]) (st' := [.int x27]) (h' := Hp S32) 1 (fun Z => rfl) ?_
        by_cases hc : x27 = 0
        · rw [if_pos hc] at hw
          refine wp_st (pc' := 515) (L' := [some (.ref a0), some (.ref 0), some (.ref 65), some (.ref 91), some (.int (nI a4)), some (.int x27), some (.int x29)]) (st' := []) (h' := Hp S32) 1 (fun Z => if_pos hc) ?_
          refine wp_st (pc' := 517) (L' := [some (.ref a0), some (.ref 0), some (.ref 65), some (.ref 91), some (.int (nI a4)), some (.int x27), some (.int x29)]) (st' := [.int 0, .ref 91]) (h' := Hp S32) 2 (fun Z => rfl) ?_
          refine wp_st (pc' := 518) (L' := [some (.ref a0), some (.ref 0), some (.ref 65), some (.ref 91), some (.int (nI a4)), some (.int x27), some (.int x29)]) (st' := [.long (catL (S32 91 0) (S32 91 1))]) (h' := Hp S32) 1 (fun Z => ldJ0 (E := E) sh91 (by decide) [] (fun st => Z (d + 1) m_law_law 518 [some (.ref a0), some (.ref 0), some (.ref 65), some (.ref 91), some (.int (nI a4)), some (.int x27), some (.int x29)] st (Hp S32))) ?_
          refine wp_st (pc' := 522) (L' := [some (.ref a0), some (.ref 0), some (.ref 65), some (.ref 91), some (.int (nI a4)), some (.int x27), some (.int x29)]) (st' := [.int (lg_cmp (catL (S32 91 0) (S32 91 1)) (Int32.toInt64 x29))]) (h' := Hp S32) 3 (fun Z => rfl) ?_
          by_cases hc : (lg_cmp (catL (S32 91 0) (S32 91 1)) (Int32.toInt64 x29)) = 0
          · rw [if_pos hc] at hw
            refine wp_st (pc' := 527) (L' := [some (.ref a0), some (.ref 0), some (.ref 65), some (.ref 91), some (.int (nI a4)), some (.int x27), some (.int x29)]) (st' := []) (h' := Hp S32) 1 (fun Z => if_pos hc) ?_
            refine wp_st (pc' := 2231) (L' := [some (.ref a0), some (.ref 0), some (.ref 65), some (.ref 91), some (.int (nI a4)), some (.int x27), some (.int x29)]) (st' := []) (h' := Hp S32) 1 (fun Z => rfl) ?_
            refine wp_st (pc' := 2234) (L' := [some (.ref a0), some (.ref 0), some (.ref 65), some (.ref 91), some (.int (nI (a4 + 6))), some (.int x27), some (.int x29)]) (st' := []) (h' := Hp S32) 1 (fun Z => by rw [← nI_add a4 6]; rfl) ?_
            exact wp_st 1 (fun Z => rfl) (show wp E (d + 1) m_law_law 23 [some (.ref a0), some (.ref 0), some (.ref 65), some (.ref 91), some (.int (nI (a4 + 6))), some (.int x27), some (.int x29)] [] (Hp S32) (QI Q) from (hw (some (.int x27)) (some (.int x29))))
          · rw [if_neg hc] at hw
            refine wp_st (pc' := 525) (L' := [some (.ref a0), some (.ref 0), some (.ref 65), some (.ref 91), some (.int (nI a4)), some (.int x27), some (.int x29)]) (st' := []) (h' := Hp S32) 1 (fun Z => if_neg hc) ?_
            refine wp_st (pc' := 526) (L' := [some (.ref a0), some (.ref 0), some (.ref 65), some (.ref 91), some (.int (nI a4)), some (.int x27), some (.int x29)]) (st' := [.int 0]) (h' := Hp S32) 1 (fun Z => rfl) ?_
            exact wp_ret (fun Z => rfl) ⟨_, _, rfl, rfl, hw⟩
        · rw [if_neg hc] at hw
          refine wp_st (pc' := 527) (L' := [some (.ref a0), some (.ref 0), some (.ref 65), some (.ref 91), some (.int (nI a4)), some (.int x27), some (.int x29)]) (st' := []) (h' := Hp S32) 1 (fun Z => if_neg hc) ?_
          refine wp_st (pc' := 2231) (L' := [some (.ref a0), some (.ref 0), some (.ref 65), some (.ref 91), some (.int (nI a4)), some (.int x27), some (.int x29)]) (st' := []) (h' := Hp S32) 1 (fun Z => rfl) ?_
          refine wp_st (pc' := 2234) (L' := [some (.ref a0), some (.ref 0), some (.ref 65), some (.ref 91), some (.int (nI (a4 + 6))), some (.int x27), some (.int x29)]) (st' := []) (h' := Hp S32) 1 (fun Z => by rw [← nI_add a4 6]; rfl) ?_
          exact wp_st 1 (fun Z => rfl) (show wp E (d + 1) m_law_law 23 [some (.ref a0), some (.ref 0), some (.ref 65), some (.ref 91), some (.int (nI (a4 + 6))), some (.int x27), some (.int x29)] [] (Hp S32) (QI Q) from (hw (some (.int x27)) (some (.int x29))))
      · rw [if_neg hc] at hw
        refine wp_st (pc' := 508) (L' := [some (.ref a0), some (.ref 0), some (.ref 65), some (.ref 91), some (.int (nI a4)), some (.int x27), some (.int x29)]) (st' := []) (h' := Hp S32) 1 (fun Z => if_neg hc) ?_
        refine wp_st (pc' := 509) (L' := [some (.ref a0), some (.ref 0), some (.ref 65), some (.ref 91), some (.int (nI a4)), some (.int x27), some (.int x29)]) (st' := [.int 0]) (h' := Hp S32) 1 (fun Z => rfl) ?_
        exact wp_ret (fun Z => rfl) ⟨_, _, rfl, rfl, hw⟩
    rw [if_neg c5] at hw
    by_cases c6 : ((S a0 a4) &&& (63 : Int32)) = 6
    · rw [if_pos c6] at hw
      refine wp_st (pc' := 530) (L' := [some (.ref a0), some (.ref 0), some (.ref 65), some (.ref 91), some (.int (nI a4)), j5, j6]) (st' := []) (h' := Hp S) 1 (fun Z => (show zsw (.tableswitch 2191 0 34 #[156, 229, 285, 298, 354, 422, 490, 515, 571, 639, 730, 798, 811, 891, 971, 1027, 1040, 1108, 1176, 1244, 1324, 1380, 1436, 1532, 1543, 1599, 1655, 1735, 1815, 1895, 1963, 2031, 2099, 2167, 2178]) 40 (.int ((S a0 a4) &&& (63 : Int32)) :: []) (fun t st1 => Z (d + 1) m_law_law t [some (.ref a0), some (.ref 0), some (.ref 65), some (.ref 91), some (.int (nI a4)), j5, j6] st1 (Hp S)) = _ from zsw_at (c := 6) (by rw [c6]; decide) (by decide) rfl rfl)) ?_
      refine wp_st (pc' := 535) (L' := [some (.ref a0), some (.ref 0), some (.ref 65), some (.ref 91), some (.int (nI a4)), j5, j6]) (st' := [.int 1, .int (nI a4), .ref a0, .ref 0]) (h' := Hp S) 4 (fun Z => rfl) ?_
      refine wp_st (pc' := 536) (L' := [some (.ref a0), some (.ref 0), some (.ref 65), some (.ref 91), some (.int (nI a4)), j5, j6]) (st' := [.int (nI (a4 + 1)), .ref a0, .ref 0]) (h' := Hp S) 1 (fun Z => by rw [← nI_add a4 1]; rfl) ?_
      obtain ⟨hi, hw⟩ := hw
      refine wp_st (pc' := 537) (L' := [some (.ref a0), some (.ref 0), some (.ref 65), some (.ref 91), some (.int (nI a4)), j5, j6]) (st' := [.int (S a0 (a4 + 1)), .ref 0]) (h' := Hp S) 1 (fun Z => ldN (E := E) ha0 na0lt hi [.ref 0] (fun st => Z (d + 1) m_law_law 537 [some (.ref a0), some (.ref 0), some (.ref 65), some (.ref 91), some (.int (nI a4)), j5, j6] st (Hp S))) ?_
      refine wp_call (pc' := 540) (rest := []) (fun Z => rfl) (isO_of sh0) hw ?_
      rintro o h1 ⟨x33, S34, rfl, rfl, hw⟩
      refine ⟨_, rfl, ?_⟩
      show wp E (d + 1) m_law_law 540 [some (.ref a0), some (.ref 0), some (.ref 65), some (.ref 91), some (.int (nI a4)), j5, j6] [.int x33] (Hp S34) (QI Q)
      refine wp_st (pc' := 545) (L' := [some (.ref a0), some (.ref 0), some (.ref 65), some (.ref 91), some (.int (nI a4)), j5, j6]) (st' := [.int 1, .int (nI a4), .ref a0, .ref 65, .int x33]) (h' := Hp S34) 4 (fun Z => rfl) ?_
      refine wp_st (pc' := 546) (L' := [some (.ref a0), some (.ref 0), some (.ref 65), some (.ref 91), some (.int (nI a4)), j5, j6]) (st' := [.int (nI (a4 + 1)), .ref a0, .ref 65, .int x33]) (h' := Hp S34) 1 (fun Z => by rw [← nI_add a4 1]; rfl) ?_
      obtain ⟨hi, hw⟩ := hw
      refine wp_st (pc' := 547) (L' := [some (.ref a0), some (.ref 0), some (.ref 65), some (.ref 91), some (.int (nI a4)), j5, j6]) (st' := [.int (S34 a0 (a4 + 1)), .ref 65, .int x33]) (h' := Hp S34) 1 (fun Z => ldN (E := E) ha0 na0lt hi [.ref 65, .int x33] (fun st => Z (d + 1) m_law_law 547 [some (.ref a0), some (.ref 0), some (.ref 65), some (.ref 91), some (.int (nI a4)), j5, j6] st (Hp S34))) ?_
      refine wp_call (pc' := 550) (rest := [.int x33]) (fun Z => rfl) (isO_of sh65) hw ?_
      rintro o h1 ⟨x35, S36, rfl, rfl, hw⟩
      refine ⟨_, rfl, ?_⟩
      show wp E (d + 1) m_law_law 550 [some (.ref a0), some (.ref 0), some (.ref 65), some (.ref 91), some (.int (nI a4)), j5, j6] [.int x35, .int x33] (Hp S36) (QI Q)
      by_cases hc : x33 = x35
      · rw [if_pos hc] at hw
        refine wp_st (pc' := 2231) (L' := [some (.ref a0), some (.ref 0), some (.ref 65), some (.ref 91), some (.int (nI a4)), j5, j6]) (st' := []) (h' := Hp S36) 1 (fun Z => if_pos hc) ?_
        refine wp_st (pc' := 2234) (L' := [some (.ref a0), some (.ref 0), some (.ref 65), some (.ref 91), some (.int (nI (a4 + 6))), j5, j6]) (st' := []) (h' := Hp S36) 1 (fun Z => by rw [← nI_add a4 6]; rfl) ?_
        exact wp_st 1 (fun Z => rfl) (show wp E (d + 1) m_law_law 23 [some (.ref a0), some (.ref 0), some (.ref 65), some (.ref 91), some (.int (nI (a4 + 6))), j5, j6] [] (Hp S36) (QI Q) from (hw j5 j6))
      · rw [if_neg hc] at hw
        refine wp_st (pc' := 553) (L' := [some (.ref a0), some (.ref 0), some (.ref 65), some (.ref 91), some (.int (nI a4)), j5, j6]) (st' := []) (h' := Hp S36) 1 (fun Z => if_neg hc) ?_
        refine wp_st (pc' := 554) (L' := [some (.ref a0), some (.ref 0), some (.ref 65), some (.ref 91), some (.int (nI a4)), j5, j6]) (st' := [.int 0]) (h' := Hp S36) 1 (fun Z => rfl) ?_
        exact wp_ret (fun Z => rfl) ⟨_, _, rfl, rfl, hw⟩
    rw [if_neg c6] at hw
    by_cases c7 : ((S a0 a4) &&& (63 : Int32)) = 7
    · rw [if_pos c7] at hw
      refine wp_st (pc' := 555) (L' := [some (.ref a0), some (.ref 0), some (.ref 65), some (.ref 91), some (.int (nI a4)), j5, j6]) (st' := []) (h' := Hp S) 1 (fun Z => (show zsw (.tableswitch 2191 0 34 #[156, 229, 285, 298, 354, 422, 490, 515, 571, 639, 730, 798, 811, 891, 971, 1027, 1040, 1108, 1176, 1244, 1324, 1380, 1436, 1532, 1543, 1599, 1655, 1735, 1815, 1895, 1963, 2031, 2099, 2167, 2178]) 40 (.int ((S a0 a4) &&& (63 : Int32)) :: []) (fun t st1 => Z (d + 1) m_law_law t [some (.ref a0), some (.ref 0), some (.ref 65), some (.ref 91), some (.int (nI a4)), j5, j6] st1 (Hp S)) = _ from zsw_at (c := 7) (by rw [c7]; decide) (by decide) rfl rfl)) ?_
      refine wp_st (pc' := 560) (L' := [some (.ref a0), some (.ref 0), some (.ref 65), some (.ref 91), some (.int (nI a4)), j5, j6]) (st' := [.int 1, .int (nI a4), .ref a0, .ref 0]) (h' := Hp S) 4 (fun Z => rfl) ?_
      refine wp_st (pc' := 561) (L' := [some (.ref a0), some (.ref 0), some (.ref 65), some (.ref 91), some (.int (nI a4)), j5, j6]) (st' := [.int (nI (a4 + 1)), .ref a0, .ref 0]) (h' := Hp S) 1 (fun Z => by rw [← nI_add a4 1]; rfl) ?_
      obtain ⟨hi, hw⟩ := hw
      refine wp_st (pc' := 562) (L' := [some (.ref a0), some (.ref 0), some (.ref 65), some (.ref 91), some (.int (nI a4)), j5, j6]) (st' := [.int (S a0 (a4 + 1)), .ref 0]) (h' := Hp S) 1 (fun Z => ldN (E := E) ha0 na0lt hi [.ref 0] (fun st => Z (d + 1) m_law_law 562 [some (.ref a0), some (.ref 0), some (.ref 65), some (.ref 91), some (.int (nI a4)), j5, j6] st (Hp S))) ?_
      refine wp_st (pc' := 563) (L' := [some (.ref a0), some (.ref 0), some (.ref 65), some (.ref 91), some (.int (nI a4)), j5, j6]) (st' := [.ref 91, .int (S a0 (a4 + 1)), .ref 0]) (h' := Hp S) 1 (fun Z => rfl) ?_
      refine wp_call (pc' := 566) (rest := []) (fun Z => rfl) rfl hw ?_
      rintro o h1 ⟨x37, S38, rfl, rfl, hw⟩
      refine ⟨_, rfl, ?_⟩
      show wp E (d + 1) m_law_law 566 [some (.ref a0), some (.ref 0), some (.ref 65), some (.ref 91), some (.int (nI a4)), j5, j6] [.int x37] (Hp S38) (QI Q)
      refine wp_st (pc' := 573) (L' := [some (.ref a0), some (.ref 0), some (.ref 65), some (.ref 91), some (.int (nI a4)), some (.int x37), j6]) (st' := [.int 1, .int (nI a4), .ref a0, .ref 65]) (h' := Hp S38) 5 (fun Z => rfl) ?_
      refine wp_st (pc' := 574) (L' := [some (.ref a0), some (.ref 0), some (.ref 65), some (.ref 91), some (.int (nI a4)), some (.int x37), j6]) (st' := [.int (nI (a4 + 1)), .ref a0, .ref 65]) (h' := Hp S38) 1 (fun Z => by rw [← nI_add a4 1]; rfl) ?_
      obtain ⟨hi, hw⟩ := hw
      refine wp_st (pc' := 575) (L' := [some (.ref a0), some (.ref 0), some (.ref 65), some (.ref 91), some (.int (nI a4)), some (.int x37), j6]) (st' := [.int (S38 a0 (a4 + 1)), .ref 65]) (h' := Hp S38) 1 (fun Z => ldN (E := E) ha0 na0lt hi [.ref 65] (fun st => Z (d + 1) m_law_law 575 [some (.ref a0), some (.ref 0), some (.ref 65), some (.ref 91), some (.int (nI a4)), some (.int x37), j6] st (Hp S38))) ?_
      refine wp_call (pc' := 578) (rest := []) (fun Z => rfl) (isO_of sh65) hw ?_
      rintro o h1 ⟨x39, S40, rfl, rfl, hw⟩
      refine ⟨_, rfl, ?_⟩
      show wp E (d + 1) m_law_law 578 [some (.ref a0), some (.ref 0), some (.ref 65), some (.ref 91), some (.int (nI a4)), some (.int x37), j6] [.int x39] (Hp S40) (QI Q)
      refine wp_st (pc' := 581) (L' := [some (.ref a0), some (.ref 0), some (.ref 65), some (.ref 91), some (.int (nI a4)), some (.int x37), some (.int x39)]) (st' := [.ref 65]) (h' := Hp S40) 2 (fun Z => rfl) ?_
      refine wp_call (pc' := 584) (rest := []) (fun Z => rfl) (isO_of sh65) hw ?_
      rintro o h1 ⟨x41, S42, rfl, rfl, hw⟩
      refine ⟨_, rfl, ?_⟩
      show wp E (d + 1) m_law_law 584 [some (.ref a0), some (.ref 0), some (.ref 65), some (.ref 91), some (.int (nI a4)), some (.int x37), some (.int x39)] [.int x41] (Hp S42) (QI Q)
      refine wp_st (pc' := 586) (L' := [some (.ref a0), some (.ref 0), some (.ref 65), some (.ref 91), some (.int (nI a4)), some (.int x37), some (.int x39)]) (st' := [.int x37, .int x41]) (h' := Hp S42) 1 (fun Z => rfl) ?_
      by_cases hc : x41 = x37
      · rw [if_pos hc] at hw
        refine wp_st (pc' := 591) (L' := [some (.ref a0), some (.ref 0), some (.ref 65), some (.ref 91), some (.int (nI a4)), some (.int x37), some (.int x39)]) (st' := []) (h' := Hp S42) 1 (fun Z => if_pos hc) ?_
        refine wp_st (pc' := 593) (L' := [some (.ref a0), some (.ref 0), some (.ref 65), some (.ref 91), some (.int (nI a4)), some (.int x37), some (.int x39)]) (st' := [.int x37]) (h' := Hp S42) 1 (fun Z => rfl) ?_
        by_cases hc : x37 = 0
        · rw [if_pos hc] at hw
          refine wp_st (pc' := 596) (L' := [some (.ref a0), some (.ref 0), some (.ref 65), some (.ref 91), some (.int (nI a4)), some (.int x37), some (.int x39)]) (st' := []) (h' := Hp S42) 1 (fun Z => if_pos hc) ?_
          refine wp_st (pc' := 598) (L' := [some (.ref a0), some (.ref 0), some (.ref 65), some (.ref 91), some (.int (nI a4)), some (.int x37), some (.int x39)]) (st' := [.int 0, .ref 91]) (h' := Hp S42) 2 (fun Z => rfl) ?_
          refine wp_st (pc' := 599) (L' := [some (.ref a0), some (.ref 0), some (.ref 65), some (.ref 91), some (.int (nI a4)), some (.int x37), some (.int x39)]) (st' := [.long (catL (S42 91 0) (S42 91 1))]) (h' := Hp S42) 1 (fun Z => ldJ0 (E := E) sh91 (by decide) [] (fun st => Z (d + 1) m_law_law 599 [some (.ref a0), some (.ref 0), some (.ref 65), some (.ref 91), some (.int (nI a4)), some (.int x37), some (.int x39)] st (Hp S42))) ?_
          refine wp_st (pc' := 603) (L' := [some (.ref a0), some (.ref 0), some (.ref 65), some (.ref 91), some (.int (nI a4)), some (.int x37), some (.int x39)]) (st' := [.int (lg_cmp (catL (S42 91 0) (S42 91 1)) (Int32.toInt64 x39))]) (h' := Hp S42) 3 (fun Z => rfl) ?_
          by_cases hc : (lg_cmp (catL (S42 91 0) (S42 91 1)) (Int32.toInt64 x39)) = 0
          · rw [if_pos hc] at hw
            refine wp_st (pc' := 608) (L' := [some (.ref a0), some (.ref 0), some (.ref 65), some (.ref 91), some (.int (nI a4)), some (.int x37), some (.int x39)]) (st' := []) (h' := Hp S42) 1 (fun Z => if_pos hc) ?_
            refine wp_st (pc' := 2231) (L' := [some (.ref a0), some (.ref 0), some (.ref 65), some (.ref 91), some (.int (nI a4)), some (.int x37), some (.int x39)]) (st' := []) (h' := Hp S42) 1 (fun Z => rfl) ?_
            refine wp_st (pc' := 2234) (L' := [some (.ref a0), some (.ref 0), some (.ref 65), some (.ref 91), some (.int (nI (a4 + 6))), some (.int x37), some (.int x39)]) (st' := []) (h' := Hp S42) 1 (fun Z => by rw [← nI_add a4 6]; rfl) ?_
            exact wp_st 1 (fun Z => rfl) (show wp E (d + 1) m_law_law 23 [some (.ref a0), some (.ref 0), some (.ref 65), some (.ref 91), some (.int (nI (a4 + 6))), some (.int x37), some (.int x39)] [] (Hp S42) (QI Q) from (hw (some (.int x37)) (some (.int x39))))
          · rw [if_neg hc] at hw
            refine wp_st (pc' := 606) (L' := [some (.ref a0), some (.ref 0), some (.ref 65), some (.ref 91), some (.int (nI a4)), some (.int x37), some (.int x39)]) (st' := []) (h' := Hp S42) 1 (fun Z => if_neg hc) ?_
            refine wp_st (pc' := 607) (L' := [some (.ref a0), some (.ref 0), some (.ref 65), some (.ref 91), some (.int (nI a4)), some (.int x37), some (.int x39)]) (st' := [.int 0]) (h' := Hp S42) 1 (fun Z => rfl) ?_
            exact wp_ret (fun Z => rfl) ⟨_, _, rfl, rfl, hw⟩
        · rw [if_neg hc] at hw
          refine wp_st (pc' := 608) (L' := [some (.ref a0), some (.ref 0), some (.ref 65), some (.ref 91), some (.int (nI a4)), some (.int x37), some (.int x39)]) (st' := []) (h' := Hp S42) 1 (fun Z => if_neg hc) ?_
          refine wp_st (pc' := 2231) (L' := [some (.ref a0), some (.ref 0), some (.ref 65), some (.ref 91), some (.int (nI a4)), some (.int x37), some (.int x39)]) (st' := []) (h' := Hp S42) 1 (fun Z => rfl) ?_
          refine wp_st (pc' := 2234) (L' := [some (.ref a0), some (.ref 0), some (.ref 65), some (.ref 91), some (.int (nI (a4 + 6))), some (.int x37), some (.int x39)]) (st' := []) (h' := Hp S42) 1 (fun Z => by rw [← nI_add a4 6]; rfl) ?_
          exact wp_st 1 (fun Z => rfl) (show wp E (d + 1) m_law_law 23 [some (.ref a0), some (.ref 0), some (.ref 65), some (.ref 91), some (.int (nI (a4 + 6))), some (.int x37), some (.int x39)] [] (Hp S42) (QI Q) from (hw (some (.int x37)) (some (.int x39))))
      · rw [if_neg hc] at hw
        refine wp_st (pc' := 589) (L' := [some (.ref a0), some (.ref 0), some (.ref 65), some (.ref 91), some (.int (nI a4)), some (.int x37), some (.int x39)]) (st' := []) (h' := Hp S42) 1 (fun Z => if_neg hc) ?_
        refine wp_st (pc' := 590) (L' := [some (.ref a0), some (.ref 0), some (.ref 65), some (.ref 91), some (.int (nI a4)), some (.int x37), some (.int x39)]) (st' := [.int 0]) (h' := Hp S42) 1 (fun Z => rfl) ?_
        exact wp_ret (fun Z => rfl) ⟨_, _, rfl, rfl, hw⟩
    rw [if_neg c7] at hw
    by_cases c8 : ((S a0 a4) &&& (63 : Int32)) = 8
    · rw [if_pos c8] at hw
      refine wp_st (pc' := 611) (L' := [some (.ref a0), some (.ref 0), some (.ref 65), some (.ref 91), some (.int (nI a4)), j5, j6]) (st' := []) (h' := Hp S) 1 (fun Z => (show zsw (.tableswitch 2191 0 34 #[156, 229, 285, 298, 354, 422, 490, 515, 571, 639, 730, 798, 811, 891, 971, 1027, 1040, 1108, 1176, 1244, 1324, 1380, 1436, 1532, 1543, 1599, 1655, 1735, 1815, 1895, 1963, 2031, 2099, 2167, 2178]) 40 (.int ((S a0 a4) &&& (63 : Int32)) :: []) (fun t st1 => Z (d + 1) m_law_law t [some (.ref a0), some (.ref 0), some (.ref 65), some (.ref 91), some (.int (nI a4)), j5, j6] st1 (Hp S)) = _ from zsw_at (c := 8) (by rw [c8]; decide) (by decide) rfl rfl)) ?_
      refine wp_st (pc' := 616) (L' := [some (.ref a0), some (.ref 0), some (.ref 65), some (.ref 91), some (.int (nI a4)), j5, j6]) (st' := [.int 1, .int (nI a4), .ref a0, .ref 0]) (h' := Hp S) 4 (fun Z => rfl) ?_
      refine wp_st (pc' := 617) (L' := [some (.ref a0), some (.ref 0), some (.ref 65), some (.ref 91), some (.int (nI a4)), j5, j6]) (st' := [.int (nI (a4 + 1)), .ref a0, .ref 0]) (h' := Hp S) 1 (fun Z => by rw [← nI_add a4 1]; rfl) ?_
      obtain ⟨hi, hw⟩ := hw
      refine wp_st (pc' := 618) (L' := [some (.ref a0), some (.ref 0), some (.ref 65), some (.ref 91), some (.int (nI a4)), j5, j6]) (st' := [.int (S a0 (a4 + 1)), .ref 0]) (h' := Hp S) 1 (fun Z => ldN (E := E) ha0 na0lt hi [.ref 0] (fun st => Z (d + 1) m_law_law 618 [some (.ref a0), some (.ref 0), some (.ref 65), some (.ref 91), some (.int (nI a4)), j5, j6] st (Hp S))) ?_
      refine wp_st (pc' := 622) (L' := [some (.ref a0), some (.ref 0), some (.ref 65), some (.ref 91), some (.int (nI a4)), j5, j6]) (st' := [.int 2, .int (nI a4), .ref a0, .int (S a0 (a4 + 1)), .ref 0]) (h' := Hp S) 3 (fun Z => rfl) ?_
      refine wp_st (pc' := 623) (L' := [some (.ref a0), some (.ref 0), some (.ref 65), some (.ref 91), some (.int (nI a4)), j5, j6]) (st' := [.int (nI (a4 + 2)), .ref a0, .int (S a0 (a4 + 1)), .ref 0]) (h' := Hp S) 1 (fun Z => by rw [← nI_add a4 2]; rfl) ?_
      obtain ⟨hi, hw⟩ := hw
      refine wp_st (pc' := 624) (L' := [some (.ref a0), some (.ref 0), some (.ref 65), some (.ref 91), some (.int (nI a4)), j5, j6]) (st' := [.int (S a0 (a4 + 2)), .int (S a0 (a4 + 1)), .ref 0]) (h' := Hp S) 1 (fun Z => ldN (E := E) ha0 na0lt hi [.int (S a0 (a4 + 1)), .ref 0] (fun st => Z (d + 1) m_law_law 624 [some (.ref a0), some (.ref 0), some (.ref 65), some (.ref 91), some (.int (nI a4)), j5, j6] st (Hp S))) ?_
      refine wp_st (pc' := 625) (L' := [some (.ref a0), some (.ref 0), some (.ref 65), some (.ref 91), some (.int (nI a4)), j5, j6]) (st' := [.ref 91, .int (S a0 (a4 + 2)), .int (S a0 (a4 + 1)), .ref 0]) (h' := Hp S) 1 (fun Z => rfl) ?_
      refine wp_call (pc' := 628) (rest := []) (fun Z => rfl) rfl hw ?_
      rintro o h1 ⟨x43, S44, rfl, rfl, hw⟩
      refine ⟨_, rfl, ?_⟩
      show wp E (d + 1) m_law_law 628 [some (.ref a0), some (.ref 0), some (.ref 65), some (.ref 91), some (.int (nI a4)), j5, j6] [.int x43] (Hp S44) (QI Q)
      refine wp_st (pc' := 635) (L' := [some (.ref a0), some (.ref 0), some (.ref 65), some (.ref 91), some (.int (nI a4)), some (.int x43), j6]) (st' := [.int 1, .int (nI a4), .ref a0, .ref 65]) (h' := Hp S44) 5 (fun Z => rfl) ?_
      refine wp_st (pc' := 636) (L' := [some (.ref a0), some (.ref 0), some (.ref 65), some (.ref 91), some (.int (nI a4)), some (.int x43), j6]) (st' := [.int (nI (a4 + 1)), .ref a0, .ref 65]) (h' := Hp S44) 1 (fun Z => by rw [← nI_add a4 1]; rfl) ?_
      obtain ⟨hi, hw⟩ := hw
      refine wp_st (pc' := 637) (L' := [some (.ref a0), some (.ref 0), some (.ref 65), some (.ref 91), some (.int (nI a4)), some (.int x43), j6]) (st' := [.int (S44 a0 (a4 + 1)), .ref 65]) (h' := Hp S44) 1 (fun Z => ldN (E := E) ha0 na0lt hi [.ref 65] (fun st => Z (d + 1) m_law_law 637 [some (.ref a0), some (.ref 0), some (.ref 65), some (.ref 91), some (.int (nI a4)), some (.int x43), j6] st (Hp S44))) ?_
      refine wp_st (pc' := 641) (L' := [some (.ref a0), some (.ref 0), some (.ref 65), some (.ref 91), some (.int (nI a4)), some (.int x43), j6]) (st' := [.int 2, .int (nI a4), .ref a0, .int (S44 a0 (a4 + 1)), .ref 65]) (h' := Hp S44) 3 (fun Z => rfl) ?_
      refine wp_st (pc' := 642) (L' := [some (.ref a0), some (.ref 0), some (.ref 65), some (.ref 91), some (.int (nI a4)), some (.int x43), j6]) (st' := [.int (nI (a4 + 2)), .ref a0, .int (S44 a0 (a4 + 1)), .ref 65]) (h' := Hp S44) 1 (fun Z => by rw [← nI_add a4 2]; rfl) ?_
      obtain ⟨hi, hw⟩ := hw
      refine wp_st (pc' := 643) (L' := [some (.ref a0), some (.ref 0), some (.ref 65), some (.ref 91), some (.int (nI a4)), some (.int x43), j6]) (st' := [.int (S44 a0 (a4 + 2)), .int (S44 a0 (a4 + 1)), .ref 65]) (h' := Hp S44) 1 (fun Z => ldN (E := E) ha0 na0lt hi [.int (S44 a0 (a4 + 1)), .ref 65] (fun st => Z (d + 1) m_law_law 643 [some (.ref a0), some (.ref 0), some (.ref 65), some (.ref 91), some (.int (nI a4)), some (.int x43), j6] st (Hp S44))) ?_
      refine wp_call (pc' := 646) (rest := []) (fun Z => rfl) (isO_of sh65) hw ?_
      rintro o h1 ⟨x45, S46, rfl, rfl, hw⟩
      refine ⟨_, rfl, ?_⟩
      show wp E (d + 1) m_law_law 646 [some (.ref a0), some (.ref 0), some (.ref 65), some (.ref 91), some (.int (nI a4)), some (.int x43), j6] [.int x45] (Hp S46) (QI Q)
      refine wp_st (pc' := 649) (L' := [some (.ref a0), some (.ref 0), some (.ref 65), some (.ref 91), some (.int (nI a4)), some (.int x43), some (.int x45)]) (st' := [.ref 65]) (h' := Hp S46) 2 (fun Z => rfl) ?_
      refine wp_call (pc' := 652) (rest := []) (fun Z => rfl) (isO_of sh65) hw ?_
      rintro o h1 ⟨x47, S48, rfl, rfl, hw⟩
      refine ⟨_, rfl, ?_⟩
      show wp E (d + 1) m_law_law 652 [some (.ref a0), some (.ref 0), some (.ref 65), some (.ref 91), some (.int (nI a4)), some (.int x43), some (.int x45)] [.int x47] (Hp S48) (QI Q)
      refine wp_st (pc' := 654) (L' := [some (.ref a0), some (.ref 0), some (.ref 65), some (.ref 91), some (.int (nI a4)), some (.int x43), some (.int x45)]) (st' := [.int x43, .int x47]) (h' := Hp S48) 1 (fun Z => rfl) ?_
      by_cases hc : x47 = x43
      · rw [if_pos hc] at hw
        refine wp_st (pc' := 659) (L' := [some (.ref a0), some (.ref 0), some (.ref 65), some (.ref 91), some (.int (nI a4)), some (.int x43), some (.int x45)]) (st' := []) (h' := Hp S48) 1 (fun Z => if_pos hc) ?_
        refine wp_st (pc' := 661) (L' := [some (.ref a0), some (.ref 0), some (.ref 65), some (.ref 91), some (.int (nI a4)), some (.int x43), some (.int x45)]) (st' := [.int x43]) (h' := Hp S48) 1 (fun Z => rfl) ?_
        by_cases hc : x43 = 0
        · rw [if_pos hc] at hw
          refine wp_st (pc' := 664) (L' := [some (.ref a0), some (.ref 0), some (.ref 65), some (.ref 91), some (.int (nI a4)), some (.int x43), some (.int x45)]) (st' := []) (h' := Hp S48) 1 (fun Z => if_pos hc) ?_
          refine wp_st (pc' := 666) (L' := [some (.ref a0), some (.ref 0), some (.ref 65), some (.ref 91), some (.int (nI a4)), some (.int x43), some (.int x45)]) (st' := [.int 0, .ref 91]) (h' := Hp S48) 2 (fun Z => rfl) ?_
          refine wp_st (pc' := 667) (L' := [some (.ref a0), some (.ref 0), some (.ref 65), some (.ref 91), some (.int (nI a4)), some (.int x43), some (.int x45)]) (st' := [.long (catL (S48 91 0) (S48 91 1))]) (h' := Hp S48) 1 (fun Z => ldJ0 (E := E) sh91 (by decide) [] (fun st => Z (d + 1) m_law_law 667 [some (.ref a0), some (.ref 0), some (.ref 65), some (.ref 91), some (.int (nI a4)), some (.int x43), some (.int x45)] st (Hp S48))) ?_
          refine wp_st (pc' := 671) (L' := [some (.ref a0), some (.ref 0), some (.ref 65), some (.ref 91), some (.int (nI a4)), some (.int x43), some (.int x45)]) (st' := [.int (lg_cmp (catL (S48 91 0) (S48 91 1)) (Int32.toInt64 x45))]) (h' := Hp S48) 3 (fun Z => rfl) ?_
          by_cases hc : (lg_cmp (catL (S48 91 0) (S48 91 1)) (Int32.toInt64 x45)) = 0
          · rw [if_pos hc] at hw
            refine wp_st (pc' := 676) (L' := [some (.ref a0), some (.ref 0), some (.ref 65), some (.ref 91), some (.int (nI a4)), some (.int x43), some (.int x45)]) (st' := []) (h' := Hp S48) 1 (fun Z => if_pos hc) ?_
            refine wp_st (pc' := 2231) (L' := [some (.ref a0), some (.ref 0), some (.ref 65), some (.ref 91), some (.int (nI a4)), some (.int x43), some (.int x45)]) (st' := []) (h' := Hp S48) 1 (fun Z => rfl) ?_
            refine wp_st (pc' := 2234) (L' := [some (.ref a0), some (.ref 0), some (.ref 65), some (.ref 91), some (.int (nI (a4 + 6))), some (.int x43), some (.int x45)]) (st' := []) (h' := Hp S48) 1 (fun Z => by rw [← nI_add a4 6]; rfl) ?_
            exact wp_st 1 (fun Z => rfl) (show wp E (d + 1) m_law_law 23 [some (.ref a0), some (.ref 0), some (.ref 65), some (.ref 91), some (.int (nI (a4 + 6))), some (.int x43), some (.int x45)] [] (Hp S48) (QI Q) from (hw (some (.int x43)) (some (.int x45))))
          · rw [if_neg hc] at hw
            refine wp_st (pc' := 674) (L' := [some (.ref a0), some (.ref 0), some (.ref 65), some (.ref 91), some (.int (nI a4)), some (.int x43), some (.int x45)]) (st' := []) (h' := Hp S48) 1 (fun Z => if_neg hc) ?_
            refine wp_st (pc' := 675) (L' := [some (.ref a0), some (.ref 0), some (.ref 65), some (.ref 91), some (.int (nI a4)), some (.int x43), some (.int x45)]) (st' := [.int 0]) (h' := Hp S48) 1 (fun Z => rfl) ?_
            exact wp_ret (fun Z => rfl) ⟨_, _, rfl, rfl, hw⟩
        · rw [if_neg hc] at hw
          refine wp_st (pc' := 676) (L' := [some (.ref a0), some (.ref 0), some (.ref 65), some (.ref 91), some (.int (nI a4)), some (.int x43), some (.int x45)]) (st' := []) (h' := Hp S48) 1 (fun Z => if_neg hc) ?_
          refine wp_st (pc' := 2231) (L' := [some (.ref a0), some (.ref 0), some (.ref 65), some (.ref 91), some (.int (nI a4)), some (.int x43), some (.int x45)]) (st' := []) (h' := Hp S48) 1 (fun Z => rfl) ?_
          refine wp_st (pc' := 2234) (L' := [some (.ref a0), some (.ref 0), some (.ref 65), some (.ref 91), some (.int (nI (a4 + 6))), some (.int x43), some (.int x45)]) (st' := []) (h' := Hp S48) 1 (fun Z => by rw [← nI_add a4 6]; rfl) ?_
          exact wp_st 1 (fun Z => rfl) (show wp E (d + 1) m_law_law 23 [some (.ref a0), some (.ref 0), some (.ref 65), some (.ref 91), some (.int (nI (a4 + 6))), some (.int x43), some (.int x45)] [] (Hp S48) (QI Q) from (hw (some (.int x43)) (some (.int x45))))
      · rw [if_neg hc] at hw
        refine wp_st (pc' := 657) (L' := [some (.ref a0), some (.ref 0), some (.ref 65), some (.ref 91), some (.int (nI a4)), some (.int x43), some (.int x45)]) (st' := []) (h' := Hp S48) 1 (fun Z => if_neg hc) ?_
        refine wp_st (pc' := 658) (L' := [some (.ref a0), some (.ref 0), some (.ref 65), some (.ref 91), some (.int (nI a4)), some (.int x43), some (.int x45)]) (st' := [.int 0]) (h' := Hp S48) 1 (fun Z => rfl) ?_
        exact wp_ret (fun Z => rfl) ⟨_, _, rfl, rfl, hw⟩
    rw [if_neg c8] at hw
    by_cases c9 : ((S a0 a4) &&& (63 : Int32)) = 9
    · rw [if_pos c9] at hw
      refine wp_st (pc' := 679) (L' := [some (.ref a0), some (.ref 0), some (.ref 65), some (.ref 91), some (.int (nI a4)), j5, j6]) (st' := []) (h' := Hp S) 1 (fun Z => (show zsw (.tableswitch 2191 0 34 #[156, 229, 285, 298, 354, 422, 490, 515, 571, 639, 730, 798, 811, 891, 971, 1027, 1040, 1108, 1176, 1244, 1324, 1380, 1436, 1532, 1543, 1599, 1655, 1735, 1815, 1895, 1963, 2031, 2099, 2167, 2178]) 40 (.int ((S a0 a4) &&& (63 : Int32)) :: []) (fun t st1 => Z (d + 1) m_law_law t [some (.ref a0), some (.ref 0), some (.ref 65), some (.ref 91), some (.int (nI a4)), j5, j6] st1 (Hp S)) = _ from zsw_at (c := 9) (by rw [c9]; decide) (by decide) rfl rfl)) ?_
      refine wp_st (pc' := 684) (L' := [some (.ref a0), some (.ref 0), some (.ref 65), some (.ref 91), some (.int (nI a4)), j5, j6]) (st' := [.int 1, .int (nI a4), .ref a0, .ref 0]) (h' := Hp S) 4 (fun Z => rfl) ?_
      refine wp_st (pc' := 685) (L' := [some (.ref a0), some (.ref 0), some (.ref 65), some (.ref 91), some (.int (nI a4)), j5, j6]) (st' := [.int (nI (a4 + 1)), .ref a0, .ref 0]) (h' := Hp S) 1 (fun Z => by rw [← nI_add a4 1]; rfl) ?_
      obtain ⟨hi, hw⟩ := hw
      refine wp_st (pc' := 686) (L' := [some (.ref a0), some (.ref 0), some (.ref 65), some (.ref 91), some (.int (nI a4)), j5, j6]) (st' := [.int (S a0 (a4 + 1)), .ref 0]) (h' := Hp S) 1 (fun Z => ldN (E := E) ha0 na0lt hi [.ref 0] (fun st => Z (d + 1) m_law_law 686 [some (.ref a0), some (.ref 0), some (.ref 65), some (.ref 91), some (.int (nI a4)), j5, j6] st (Hp S))) ?_
      refine wp_st (pc' := 690) (L' := [some (.ref a0), some (.ref 0), some (.ref 65), some (.ref 91), some (.int (nI a4)), j5, j6]) (st' := [.int 2, .int (nI a4), .ref a0, .int (S a0 (a4 + 1)), .ref 0]) (h' := Hp S) 3 (fun Z => rfl) ?_
      refine wp_st (pc' := 691) (L' := [some (.ref a0), some (.ref 0), some (.ref 65), some (.ref 91), some (.int (nI a4)), j5, j6]) (st' := [.int (nI (a4 + 2)), .ref a0, .int (S a0 (a4 + 1)), .ref 0]) (h' := Hp S) 1 (fun Z => by rw [← nI_add a4 2]; rfl) ?_
      obtain ⟨hi, hw⟩ := hw
      refine wp_st (pc' := 692) (L' := [some (.ref a0), some (.ref 0), some (.ref 65), some (.ref 91), some (.int (nI a4)), j5, j6]) (st' := [.int (S a0 (a4 + 2)), .int (S a0 (a4 + 1)), .ref 0]) (h' := Hp S) 1 (fun Z => ldN (E := E) ha0 na0lt hi [.int (S a0 (a4 + 1)), .ref 0] (fun st => Z (d + 1) m_law_law 692 [some (.ref a0), some (.ref 0), some (.ref 65), some (.ref 91), some (.int (nI a4)), j5, j6] st (Hp S))) ?_
      by_cases hc : (S a0 (a4 + 2)) = 0
      · rw [if_pos hc] at hw
        refine wp_st (pc' := 699) (L' := [some (.ref a0), some (.ref 0), some (.ref 65), some (.ref 91), some (.int (nI a4)), j5, j6]) (st' := [.int (S a0 (a4 + 1)), .ref 0]) (h' := Hp S) 1 (fun Z => if_pos hc) ?_
        exact wp_st 1 (fun Z => rfl) (show wp E (d + 1) m_law_law 700 [some (.ref a0), some (.ref 0), some (.ref 65), some (.ref 91), some (.int (nI a4)), j5, j6] [.int 0, .int (S a0 (a4 + 1)), .ref 0] (Hp S) (QI Q) from (hw j5 j6))
      · rw [if_neg hc] at hw
        refine wp_st (pc' := 695) (L' := [some (.ref a0), some (.ref 0), some (.ref 65), some (.ref 91), some (.int (nI a4)), j5, j6]) (st' := [.int (S a0 (a4 + 1)), .ref 0]) (h' := Hp S) 1 (fun Z => if_neg hc) ?_
        exact wp_st 2 (fun Z => rfl) (show wp E (d + 1) m_law_law 700 [some (.ref a0), some (.ref 0), some (.ref 65), some (.ref 91), some (.int (nI a4)), j5, j6] [.int 1, .int (S a0 (a4 + 1)), .ref 0] (Hp S) (QI Q) from (hw j5 j6))
    rw [if_neg c9] at hw
    by_cases c10 : ((S a0 a4) &&& (63 : Int32)) = 10
    · rw [if_pos c10] at hw
      refine wp_st (pc' := 770) (L' := [some (.ref a0), some (.ref 0), some (.ref 65), some (.ref 91), some (.int (nI a4)), j5, j6]) (st' := []) (h' := Hp S) 1 (fun Z => (show zsw (.tableswitch 2191 0 34 #[156, 229, 285, 298, 354, 422, 490, 515, 571, 639, 730, 798, 811, 891, 971, 1027, 1040, 1108, 1176, 1244, 1324, 1380, 1436, 1532, 1543, 1599, 1655, 1735, 1815, 1895, 1963, 2031, 2099, 2167, 2178]) 40 (.int ((S a0 a4) &&& (63 : Int32)) :: []) (fun t st1 => Z (d + 1) m_law_law t [some (.ref a0), some (.ref 0), some (.ref 65), some (.ref 91), some (.int (nI a4)), j5, j6] st1 (Hp S)) = _ from zsw_at (c := 10) (by rw [c10]; decide) (by decide) rfl rfl)) ?_
      refine wp_st (pc' := 775) (L' := [some (.ref a0), some (.ref 0), some (.ref 65), some (.ref 91), some (.int (nI a4)), j5, j6]) (st' := [.int 1, .int (nI a4), .ref a0, .ref 0]) (h' := Hp S) 4 (fun Z => rfl) ?_
      refine wp_st (pc' := 776) (L' := [some (.ref a0), some (.ref 0), some (.ref 65), some (.ref 91), some (.int (nI a4)), j5, j6]) (st' := [.int (nI (a4 + 1)), .ref a0, .ref 0]) (h' := Hp S) 1 (fun Z => by rw [← nI_add a4 1]; rfl) ?_
      obtain ⟨hi, hw⟩ := hw
      refine wp_st (pc' := 777) (L' := [some (.ref a0), some (.ref 0), some (.ref 65), some (.ref 91), some (.int (nI a4)), j5, j6]) (st' := [.int (S a0 (a4 + 1)), .ref 0]) (h' := Hp S) 1 (fun Z => ldN (E := E) ha0 na0lt hi [.ref 0] (fun st => Z (d + 1) m_law_law 777 [some (.ref a0), some (.ref 0), some (.ref 65), some (.ref 91), some (.int (nI a4)), j5, j6] st (Hp S))) ?_
      refine wp_st (pc' := 781) (L' := [some (.ref a0), some (.ref 0), some (.ref 65), some (.ref 91), some (.int (nI a4)), j5, j6]) (st' := [.int 2, .int (nI a4), .ref a0, .int (S a0 (a4 + 1)), .ref 0]) (h' := Hp S) 3 (fun Z => rfl) ?_
      refine wp_st (pc' := 782) (L' := [some (.ref a0), some (.ref 0), some (.ref 65), some (.ref 91), some (.int (nI a4)), j5, j6]) (st' := [.int (nI (a4 + 2)), .ref a0, .int (S a0 (a4 + 1)), .ref 0]) (h' := Hp S) 1 (fun Z => by rw [← nI_add a4 2]; rfl) ?_
      obtain ⟨hi, hw⟩ := hw
      refine wp_st (pc' := 783) (L' := [some (.ref a0), some (.ref 0), some (.ref 65), some (.ref 91), some (.int (nI a4)), j5, j6]) (st' := [.int (S a0 (a4 + 2)), .int (S a0 (a4 + 1)), .ref 0]) (h' := Hp S) 1 (fun Z => ldN (E := E) ha0 na0lt hi [.int (S a0 (a4 + 1)), .ref 0] (fun st => Z (d + 1) m_law_law 783 [some (.ref a0), some (.ref 0), some (.ref 65), some (.ref 91), some (.int (nI a4)), j5, j6] st (Hp S))) ?_
      refine wp_st (pc' := 784) (L' := [some (.ref a0), some (.ref 0), some (.ref 65), some (.ref 91), some (.int (nI a4)), j5, j6]) (st' := [.ref 91, .int (S a0 (a4 + 2)), .int (S a0 (a4 + 1)), .ref 0]) (h' := Hp S) 1 (fun Z => rfl) ?_
      refine wp_call (pc' := 787) (rest := []) (fun Z => rfl) rfl hw ?_
      rintro o h1 ⟨x49, S50, rfl, rfl, hw⟩
      refine ⟨_, rfl, ?_⟩
      show wp E (d + 1) m_law_law 787 [some (.ref a0), some (.ref 0), some (.ref 65), some (.ref 91), some (.int (nI a4)), j5, j6] [.int x49] (Hp S50) (QI Q)
      refine wp_st (pc' := 794) (L' := [some (.ref a0), some (.ref 0), some (.ref 65), some (.ref 91), some (.int (nI a4)), some (.int x49), j6]) (st' := [.int 1, .int (nI a4), .ref a0, .ref 65]) (h' := Hp S50) 5 (fun Z => rfl) ?_
      refine wp_st (pc' := 795) (L' := [some (.ref a0), some (.ref 0), some (.ref 65), some (.ref 91), some (.int (nI a4)), some (.int x49), j6]) (st' := [.int (nI (a4 + 1)), .ref a0, .ref 65]) (h' := Hp S50) 1 (fun Z => by rw [← nI_add a4 1]; rfl) ?_
      obtain ⟨hi, hw⟩ := hw
      refine wp_st (pc' := 796) (L' := [some (.ref a0), some (.ref 0), some (.ref 65), some (.ref 91), some (.int (nI a4)), some (.int x49), j6]) (st' := [.int (S50 a0 (a4 + 1)), .ref 65]) (h' := Hp S50) 1 (fun Z => ldN (E := E) ha0 na0lt hi [.ref 65] (fun st => Z (d + 1) m_law_law 796 [some (.ref a0), some (.ref 0), some (.ref 65), some (.ref 91), some (.int (nI a4)), some (.int x49), j6] st (Hp S50))) ?_
      refine wp_st (pc' := 800) (L' := [some (.ref a0), some (.ref 0), some (.ref 65), some (.ref 91), some (.int (nI a4)), some (.int x49), j6]) (st' := [.int 2, .int (nI a4), .ref a0, .int (S50 a0 (a4 + 1)), .ref 65]) (h' := Hp S50) 3 (fun Z => rfl) ?_
      refine wp_st (pc' := 801) (L' := [some (.ref a0), some (.ref 0), some (.ref 65), some (.ref 91), some (.int (nI a4)), some (.int x49), j6]) (st' := [.int (nI (a4 + 2)), .ref a0, .int (S50 a0 (a4 + 1)), .ref 65]) (h' := Hp S50) 1 (fun Z => by rw [← nI_add a4 2]; rfl) ?_
      obtain ⟨hi, hw⟩ := hw
      refine wp_st (pc' := 802) (L' := [some (.ref a0), some (.ref 0), some (.ref 65), some (.ref 91), some (.int (nI a4)), some (.int x49), j6]) (st' := [.int (S50 a0 (a4 + 2)), .int (S50 a0 (a4 + 1)), .ref 65]) (h' := Hp S50) 1 (fun Z => ldN (E := E) ha0 na0lt hi [.int (S50 a0 (a4 + 1)), .ref 65] (fun st => Z (d + 1) m_law_law 802 [some (.ref a0), some (.ref 0), some (.ref 65), some (.ref 91), some (.int (nI a4)), some (.int x49), j6] st (Hp S50))) ?_
      refine wp_call (pc' := 805) (rest := []) (fun Z => rfl) (isO_of sh65) hw ?_
      rintro o h1 ⟨x51, S52, rfl, rfl, hw⟩
      refine ⟨_, rfl, ?_⟩
      show wp E (d + 1) m_law_law 805 [some (.ref a0), some (.ref 0), some (.ref 65), some (.ref 91), some (.int (nI a4)), some (.int x49), j6] [.int x51] (Hp S52) (QI Q)
      refine wp_st (pc' := 808) (L' := [some (.ref a0), some (.ref 0), some (.ref 65), some (.ref 91), some (.int (nI a4)), some (.int x49), some (.int x51)]) (st' := [.ref 65]) (h' := Hp S52) 2 (fun Z => rfl) ?_
      refine wp_call (pc' := 811) (rest := []) (fun Z => rfl) (isO_of sh65) hw ?_
      rintro o h1 ⟨x53, S54, rfl, rfl, hw⟩
      refine ⟨_, rfl, ?_⟩
      show wp E (d + 1) m_law_law 811 [some (.ref a0), some (.ref 0), some (.ref 65), some (.ref 91), some (.int (nI a4)), some (.int x49), some (.int x51)] [.int x53] (Hp S54) (QI Q)
      refine wp_st (pc' := 813) (L' := [some (.ref a0), some (.ref 0), some (.ref 65), some (.ref 91), some (.int (nI a4)), some (.int x49), some (.int x51)]) (st' := [.int x49, .int x53]) (h' := Hp S54) 1 (fun Z => rfl) ?_
      by_cases hc : x53 = x49
      · rw [if_pos hc] at hw
        refine wp_st (pc' := 818) (L' := [some (.ref a0), some (.ref 0), some (.ref 65), some (.ref 91), some (.int (nI a4)), some (.int x49), some (.int x51)]) (st' := []) (h' := Hp S54) 1 (fun Z => if_pos hc) ?_
        refine wp_st (pc' := 820) (L' := [some (.ref a0), some (.ref 0), some (.ref 65), some (.ref 91), some (.int (nI a4)), some (.int x49), some (.int x51)]) (st' := [.int x49]) (h' := Hp S54) 1 (fun Z => rfl) ?_
        by_cases hc : x49 = 0
        · rw [if_pos hc] at hw
          refine wp_st (pc' := 823) (L' := [some (.ref a0), some (.ref 0), some (.ref 65), some (.ref 91), some (.int (nI a4)), some (.int x49), some (.int x51)]) (st' := []) (h' := Hp S54) 1 (fun Z => if_pos hc) ?_
          refine wp_st (pc' := 825) (L' := [some (.ref a0), some (.ref 0), some (.ref 65), some (.ref 91), some (.int (nI a4)), some (.int x49), some (.int x51)]) (st' := [.int 0, .ref 91]) (h' := Hp S54) 2 (fun Z => rfl) ?_
          refine wp_st (pc' := 826) (L' := [some (.ref a0), some (.ref 0), some (.ref 65), some (.ref 91), some (.int (nI a4)), some (.int x49), some (.int x51)]) (st' := [.long (catL (S54 91 0) (S54 91 1))]) (h' := Hp S54) 1 (fun Z => ldJ0 (E := E) sh91 (by decide) [] (fun st => Z (d + 1) m_law_law 826 [some (.ref a0), some (.ref 0), some (.ref 65), some (.ref 91), some (.int (nI a4)), some (.int x49), some (.int x51)] st (Hp S54))) ?_
          refine wp_st (pc' := 830) (L' := [some (.ref a0), some (.ref 0), some (.ref 65), some (.ref 91), some (.int (nI a4)), some (.int x49), some (.int x51)]) (st' := [.int (lg_cmp (catL (S54 91 0) (S54 91 1)) (Int32.toInt64 x51))]) (h' := Hp S54) 3 (fun Z => rfl) ?_
          by_cases hc : (lg_cmp (catL (S54 91 0) (S54 91 1)) (Int32.toInt64 x51)) = 0
          · rw [if_pos hc] at hw
            refine wp_st (pc' := 835) (L' := [some (.ref a0), some (.ref 0), some (.ref 65), some (.ref 91), some (.int (nI a4)), some (.int x49), some (.int x51)]) (st' := []) (h' := Hp S54) 1 (fun Z => if_pos hc) ?_
            refine wp_st (pc' := 2231) (L' := [some (.ref a0), some (.ref 0), some (.ref 65), some (.ref 91), some (.int (nI a4)), some (.int x49), some (.int x51)]) (st' := []) (h' := Hp S54) 1 (fun Z => rfl) ?_
            refine wp_st (pc' := 2234) (L' := [some (.ref a0), some (.ref 0), some (.ref 65), some (.ref 91), some (.int (nI (a4 + 6))), some (.int x49), some (.int x51)]) (st' := []) (h' := Hp S54) 1 (fun Z => by rw [← nI_add a4 6]; rfl) ?_
            exact wp_st 1 (fun Z => rfl) (show wp E (d + 1) m_law_law 23 [some (.ref a0), some (.ref 0), some (.ref 65), some (.ref 91), some (.int (nI (a4 + 6))), some (.int x49), some (.int x51)] [] (Hp S54) (QI Q) from (hw (some (.int x49)) (some (.int x51))))
          · rw [if_neg hc] at hw
            refine wp_st (pc' := 833) (L' := [some (.ref a0), some (.ref 0), some (.ref 65), some (.ref 91), some (.int (nI a4)), some (.int x49), some (.int x51)]) (st' := []) (h' := Hp S54) 1 (fun Z => if_neg hc) ?_
            refine wp_st (pc' := 834) (L' := [some (.ref a0), some (.ref 0), some (.ref 65), some (.ref 91), some (.int (nI a4)), some (.int x49), some (.int x51)]) (st' := [.int 0]) (h' := Hp S54) 1 (fun Z => rfl) ?_
            exact wp_ret (fun Z => rfl) ⟨_, _, rfl, rfl, hw⟩
        · rw [if_neg hc] at hw
          refine wp_st (pc' := 835) (L' := [some (.ref a0), some (.ref 0), some (.ref 65), some (.ref 91), some (.int (nI a4)), some (.int x49), some (.int x51)]) (st' := []) (h' := Hp S54) 1 (fun Z => if_neg hc) ?_
          refine wp_st (pc' := 2231) (L' := [some (.ref a0), some (.ref 0), some (.ref 65), some (.ref 91), some (.int (nI a4)), some (.int x49), some (.int x51)]) (st' := []) (h' := Hp S54) 1 (fun Z => rfl) ?_
          refine wp_st (pc' := 2234) (L' := [some (.ref a0), some (.ref 0), some (.ref 65), some (.ref 91), some (.int (nI (a4 + 6))), some (.int x49), some (.int x51)]) (st' := []) (h' := Hp S54) 1 (fun Z => by rw [← nI_add a4 6]; rfl) ?_
          exact wp_st 1 (fun Z => rfl) (show wp E (d + 1) m_law_law 23 [some (.ref a0), some (.ref 0), some (.ref 65), some (.ref 91), some (.int (nI (a4 + 6))), some (.int x49), some (.int x51)] [] (Hp S54) (QI Q) from (hw (some (.int x49)) (some (.int x51))))
      · rw [if_neg hc] at hw
        refine wp_st (pc' := 816) (L' := [some (.ref a0), some (.ref 0), some (.ref 65), some (.ref 91), some (.int (nI a4)), some (.int x49), some (.int x51)]) (st' := []) (h' := Hp S54) 1 (fun Z => if_neg hc) ?_
        refine wp_st (pc' := 817) (L' := [some (.ref a0), some (.ref 0), some (.ref 65), some (.ref 91), some (.int (nI a4)), some (.int x49), some (.int x51)]) (st' := [.int 0]) (h' := Hp S54) 1 (fun Z => rfl) ?_
        exact wp_ret (fun Z => rfl) ⟨_, _, rfl, rfl, hw⟩
    rw [if_neg c10] at hw
    by_cases c11 : ((S a0 a4) &&& (63 : Int32)) = 11
    · rw [if_pos c11] at hw
      refine wp_st (pc' := 838) (L' := [some (.ref a0), some (.ref 0), some (.ref 65), some (.ref 91), some (.int (nI a4)), j5, j6]) (st' := []) (h' := Hp S) 1 (fun Z => (show zsw (.tableswitch 2191 0 34 #[156, 229, 285, 298, 354, 422, 490, 515, 571, 639, 730, 798, 811, 891, 971, 1027, 1040, 1108, 1176, 1244, 1324, 1380, 1436, 1532, 1543, 1599, 1655, 1735, 1815, 1895, 1963, 2031, 2099, 2167, 2178]) 40 (.int ((S a0 a4) &&& (63 : Int32)) :: []) (fun t st1 => Z (d + 1) m_law_law t [some (.ref a0), some (.ref 0), some (.ref 65), some (.ref 91), some (.int (nI a4)), j5, j6] st1 (Hp S)) = _ from zsw_at (c := 11) (by rw [c11]; decide) (by decide) rfl rfl)) ?_
      refine wp_st (pc' := 839) (L' := [some (.ref a0), some (.ref 0), some (.ref 65), some (.ref 91), some (.int (nI a4)), j5, j6]) (st' := [.ref 0]) (h' := Hp S) 1 (fun Z => rfl) ?_
      refine wp_call (pc' := 842) (rest := []) (fun Z => rfl) (isO_of sh0) hw ?_
      rintro o h1 ⟨x55, S56, rfl, rfl, hw⟩
      refine ⟨_, rfl, ?_⟩
      show wp E (d + 1) m_law_law 842 [some (.ref a0), some (.ref 0), some (.ref 65), some (.ref 91), some (.int (nI a4)), j5, j6] [.int x55] (Hp S56) (QI Q)
      refine wp_st (pc' := 843) (L' := [some (.ref a0), some (.ref 0), some (.ref 65), some (.ref 91), some (.int (nI a4)), j5, j6]) (st' := [.ref 65, .int x55]) (h' := Hp S56) 1 (fun Z => rfl) ?_
      refine wp_call (pc' := 846) (rest := [.int x55]) (fun Z => rfl) (isO_of sh65) hw ?_
      rintro o h1 ⟨x57, S58, rfl, rfl, hw⟩
      refine ⟨_, rfl, ?_⟩
      show wp E (d + 1) m_law_law 846 [some (.ref a0), some (.ref 0), some (.ref 65), some (.ref 91), some (.int (nI a4)), j5, j6] [.int x57, .int x55] (Hp S58) (QI Q)
      by_cases hc : x55 = x57
      · rw [if_pos hc] at hw
        refine wp_st (pc' := 2231) (L' := [some (.ref a0), some (.ref 0), some (.ref 65), some (.ref 91), some (.int (nI a4)), j5, j6]) (st' := []) (h' := Hp S58) 1 (fun Z => if_pos hc) ?_
        refine wp_st (pc' := 2234) (L' := [some (.ref a0), some (.ref 0), some (.ref 65), some (.ref 91), some (.int (nI (a4 + 6))), j5, j6]) (st' := []) (h' := Hp S58) 1 (fun Z => by rw [← nI_add a4 6]; rfl) ?_
        exact wp_st 1 (fun Z => rfl) (show wp E (d + 1) m_law_law 23 [some (.ref a0), some (.ref 0), some (.ref 65), some (.ref 91), some (.int (nI (a4 + 6))), j5, j6] [] (Hp S58) (QI Q) from (hw j5 j6))
      · rw [if_neg hc] at hw
        refine wp_st (pc' := 849) (L' := [some (.ref a0), some (.ref 0), some (.ref 65), some (.ref 91), some (.int (nI a4)), j5, j6]) (st' := []) (h' := Hp S58) 1 (fun Z => if_neg hc) ?_
        refine wp_st (pc' := 850) (L' := [some (.ref a0), some (.ref 0), some (.ref 65), some (.ref 91), some (.int (nI a4)), j5, j6]) (st' := [.int 0]) (h' := Hp S58) 1 (fun Z => rfl) ?_
        exact wp_ret (fun Z => rfl) ⟨_, _, rfl, rfl, hw⟩
    rw [if_neg c11] at hw
    by_cases c12 : ((S a0 a4) &&& (63 : Int32)) = 12
    · rw [if_pos c12] at hw
      refine wp_st (pc' := 851) (L' := [some (.ref a0), some (.ref 0), some (.ref 65), some (.ref 91), some (.int (nI a4)), j5, j6]) (st' := []) (h' := Hp S) 1 (fun Z => (show zsw (.tableswitch 2191 0 34 #[156, 229, 285, 298, 354, 422, 490, 515, 571, 639, 730, 798, 811, 891, 971, 1027, 1040, 1108, 1176, 1244, 1324, 1380, 1436, 1532, 1543, 1599, 1655, 1735, 1815, 1895, 1963, 2031, 2099, 2167, 2178]) 40 (.int ((S a0 a4) &&& (63 : Int32)) :: []) (fun t st1 => Z (d + 1) m_law_law t [some (.ref a0), some (.ref 0), some (.ref 65), some (.ref 91), some (.int (nI a4)), j5, j6] st1 (Hp S)) = _ from zsw_at (c := 12) (by rw [c12]; decide) (by decide) rfl rfl)) ?_
      refine wp_st (pc' := 856) (L' := [some (.ref a0), some (.ref 0), some (.ref 65), some (.ref 91), some (.int (nI a4)), j5, j6]) (st' := [.int 1, .int (nI a4), .ref a0, .ref 0]) (h' := Hp S) 4 (fun Z => rfl) ?_
      refine wp_st (pc' := 857) (L' := [some (.ref a0), some (.ref 0), some (.ref 65), some (.ref 91), some (.int (nI a4)), j5, j6]) (st' := [.int (nI (a4 + 1)), .ref a0, .ref 0]) (h' := Hp S) 1 (fun Z => by rw [← nI_add a4 1]; rfl) ?_
      obtain ⟨hi, hw⟩ := hw
      refine wp_st (pc' := 858) (L' := [some (.ref a0), some (.ref 0), some (.ref 65), some (.ref 91), some (.int (nI a4)), j5, j6]) (st' := [.int (S a0 (a4 + 1)), .ref 0]) (h' := Hp S) 1 (fun Z => ldN (E := E) ha0 na0lt hi [.ref 0] (fun st => Z (d + 1) m_law_law 858 [some (.ref a0), some (.ref 0), some (.ref 65), some (.ref 91), some (.int (nI a4)), j5, j6] st (Hp S))) ?_
      refine wp_st (pc' := 862) (L' := [some (.ref a0), some (.ref 0), some (.ref 65), some (.ref 91), some (.int (nI a4)), j5, j6]) (st' := [.int 2, .int (nI a4), .ref a0, .int (S a0 (a4 + 1)), .ref 0]) (h' := Hp S) 3 (fun Z => rfl) ?_
      refine wp_st (pc' := 863) (L' := [some (.ref a0), some (.ref 0), some (.ref 65), some (.ref 91), some (.int (nI a4)), j5, j6]) (st' := [.int (nI (a4 + 2)), .ref a0, .int (S a0 (a4 + 1)), .ref 0]) (h' := Hp S) 1 (fun Z => by rw [← nI_add a4 2]; rfl) ?_
      obtain ⟨hi, hw⟩ := hw
      refine wp_st (pc' := 864) (L' := [some (.ref a0), some (.ref 0), some (.ref 65), some (.ref 91), some (.int (nI a4)), j5, j6]) (st' := [.int (S a0 (a4 + 2)), .int (S a0 (a4 + 1)), .ref 0]) (h' := Hp S) 1 (fun Z => ldN (E := E) ha0 na0lt hi [.int (S a0 (a4 + 1)), .ref 0] (fun st => Z (d + 1) m_law_law 864 [some (.ref a0), some (.ref 0), some (.ref 65), some (.ref 91), some (.int (nI a4)), j5, j6] st (Hp S))) ?_
      refine wp_st (pc' := 868) (L' := [some (.ref a0), some (.ref 0), some (.ref 65), some (.ref 91), some (.int (nI a4)), j5, j6]) (st' := [.int 3, .int (nI a4), .ref a0, .int (S a0 (a4 + 2)), .int (S a0 (a4 + 1)), .ref 0]) (h' := Hp S) 3 (fun Z => rfl) ?_
      refine wp_st (pc' := 869) (L' := [some (.ref a0), some (.ref 0), some (.ref 65), some (.ref 91), some (.int (nI a4)), j5, j6]) (st' := [.int (nI (a4 + 3)), .ref a0, .int (S a0 (a4 + 2)), .int (S a0 (a4 + 1)), .ref 0]) (h' := Hp S) 1 (fun Z => by rw [← nI_add a4 3]; rfl) ?_
      obtain ⟨hi, hw⟩ := hw
      refine wp_st (pc' := 870) (L' := [some (.ref a0), some (.ref 0), some (.ref 65), some (.ref 91), some (.int (nI a4)), j5, j6]) (st' := [.int (S a0 (a4 + 3)), .int (S a0 (a4 + 2)), .int (S a0 (a4 + 1)), .ref 0]) (h' := Hp S) 1 (fun Z => ldN (E := E) ha0 na0lt hi [.int (S a0 (a4 + 2)), .int (S a0 (a4 + 1)), .ref 0] (fun st => Z (d + 1) m_law_law 870 [some (.ref a0), some (.ref 0), some (.ref 65), some (.ref 91), some (.int (nI a4)), j5, j6] st (Hp S))) ?_
      refine wp_st (pc' := 871) (L' := [some (.ref a0), some (.ref 0), some (.ref 65), some (.ref 91), some (.int (nI a4)), j5, j6]) (st' := [.ref 91, .int (S a0 (a4 + 3)), .int (S a0 (a4 + 2)), .int (S a0 (a4 + 1)), .ref 0]) (h' := Hp S) 1 (fun Z => rfl) ?_
      refine wp_call (pc' := 874) (rest := []) (fun Z => rfl) rfl hw ?_
      rintro o h1 ⟨x59, S60, rfl, rfl, hw⟩
      refine ⟨_, rfl, ?_⟩
      show wp E (d + 1) m_law_law 874 [some (.ref a0), some (.ref 0), some (.ref 65), some (.ref 91), some (.int (nI a4)), j5, j6] [.int x59] (Hp S60) (QI Q)
      refine wp_st (pc' := 881) (L' := [some (.ref a0), some (.ref 0), some (.ref 65), some (.ref 91), some (.int (nI a4)), some (.int x59), j6]) (st' := [.int 1, .int (nI a4), .ref a0, .ref 65]) (h' := Hp S60) 5 (fun Z => rfl) ?_
      refine wp_st (pc' := 882) (L' := [some (.ref a0), some (.ref 0), some (.ref 65), some (.ref 91), some (.int (nI a4)), some (.int x59), j6]) (st' := [.int (nI (a4 + 1)), .ref a0, .ref 65]) (h' := Hp S60) 1 (fun Z => by rw [← nI_add a4 1]; rfl) ?_
      obtain ⟨hi, hw⟩ := hw
      refine wp_st (pc' := 883) (L' := [some (.ref a0), some (.ref 0), some (.ref 65), some (.ref 91), some (.int (nI a4)), some (.int x59), j6]) (st' := [.int (S60 a0 (a4 + 1)), .ref 65]) (h' := Hp S60) 1 (fun Z => ldN (E := E) ha0 na0lt hi [.ref 65] (fun st => Z (d + 1) m_law_law 883 [some (.ref a0), some (.ref 0), some (.ref 65), some (.ref 91), some (.int (nI a4)), some (.int x59), j6] st (Hp S60))) ?_
      refine wp_st (pc' := 887) (L' := [some (.ref a0), some (.ref 0), some (.ref 65), some (.ref 91), some (.int (nI a4)), some (.int x59), j6]) (st' := [.int 2, .int (nI a4), .ref a0, .int (S60 a0 (a4 + 1)), .ref 65]) (h' := Hp S60) 3 (fun Z => rfl) ?_
      refine wp_st (pc' := 888) (L' := [some (.ref a0), some (.ref 0), some (.ref 65), some (.ref 91), some (.int (nI a4)), some (.int x59), j6]) (st' := [.int (nI (a4 + 2)), .ref a0, .int (S60 a0 (a4 + 1)), .ref 65]) (h' := Hp S60) 1 (fun Z => by rw [← nI_add a4 2]; rfl) ?_
      obtain ⟨hi, hw⟩ := hw
      refine wp_st (pc' := 889) (L' := [some (.ref a0), some (.ref 0), some (.ref 65), some (.ref 91), some (.int (nI a4)), some (.int x59), j6]) (st' := [.int (S60 a0 (a4 + 2)), .int (S60 a0 (a4 + 1)), .ref 65]) (h' := Hp S60) 1 (fun Z => ldN (E := E) ha0 na0lt hi [.int (S60 a0 (a4 + 1)), .ref 65] (fun st => Z (d + 1) m_law_law 889 [some (.ref a0), some (.ref 0), some (.ref 65), some (.ref 91), some (.int (nI a4)), some (.int x59), j6] st (Hp S60))) ?_
      refine wp_st (pc' := 893) (L' := [some (.ref a0), some (.ref 0), some (.ref 65), some (.ref 91), some (.int (nI a4)), some (.int x59), j6]) (st' := [.int 3, .int (nI a4), .ref a0, .int (S60 a0 (a4 + 2)), .int (S60 a0 (a4 + 1)), .ref 65]) (h' := Hp S60) 3 (fun Z => rfl) ?_
      refine wp_st (pc' := 894) (L' := [some (.ref a0), some (.ref 0), some (.ref 65), some (.ref 91), some (.int (nI a4)), some (.int x59), j6]) (st' := [.int (nI (a4 + 3)), .ref a0, .int (S60 a0 (a4 + 2)), .int (S60 a0 (a4 + 1)), .ref 65]) (h' := Hp S60) 1 (fun Z => by rw [← nI_add a4 3]; rfl) ?_
      obtain ⟨hi, hw⟩ := hw
      refine wp_st (pc' := 895) (L' := [some (.ref a0), some (.ref 0), some (.ref 65), some (.ref 91), some (.int (nI a4)), some (.int x59), j6]) (st' := [.int (S60 a0 (a4 + 3)), .int (S60 a0 (a4 + 2)), .int (S60 a0 (a4 + 1)), .ref 65]) (h' := Hp S60) 1 (fun Z => ldN (E := E) ha0 na0lt hi [.int (S60 a0 (a4 + 2)), .int (S60 a0 (a4 + 1)), .ref 65] (fun st => Z (d + 1) m_law_law 895 [some (.ref a0), some (.ref 0), some (.ref 65), some (.ref 91), some (.int (nI a4)), some (.int x59), j6] st (Hp S60))) ?_
      refine wp_call (pc' := 898) (rest := []) (fun Z => rfl) (isO_of sh65) hw ?_
      rintro o h1 ⟨x61, S62, rfl, rfl, hw⟩
      refine ⟨_, rfl, ?_⟩
      show wp E (d + 1) m_law_law 898 [some (.ref a0), some (.ref 0), some (.ref 65), some (.ref 91), some (.int (nI a4)), some (.int x59), j6] [.int x61] (Hp S62) (QI Q)
      refine wp_st (pc' := 901) (L' := [some (.ref a0), some (.ref 0), some (.ref 65), some (.ref 91), some (.int (nI a4)), some (.int x59), some (.int x61)]) (st' := [.ref 65]) (h' := Hp S62) 2 (fun Z => rfl) ?_
      refine wp_call (pc' := 904) (rest := []) (fun Z => rfl) (isO_of sh65) hw ?_
      rintro o h1 ⟨x63, S64, rfl, rfl, hw⟩
      refine ⟨_, rfl, ?_⟩
      show wp E (d + 1) m_law_law 904 [some (.ref a0), some (.ref 0), some (.ref 65), some (.ref 91), some (.int (nI a4)), some (.int x59), some (.int x61)] [.int x63] (Hp S64) (QI Q)
      refine wp_st (pc' := 906) (L' := [some (.ref a0), some (.ref 0), some (.ref 65), some (.ref 91), some (.int (nI a4)), some (.int x59), some (.int x61)]) (st' := [.int x59, .int x63]) (h' := Hp S64) 1 (fun Z => rfl) ?_
      by_cases hc : x63 = x59
      · rw [if_pos hc] at hw
        refine wp_st (pc' := 911) (L' := [some (.ref a0), some (.ref 0), some (.ref 65), some (.ref 91), some (.int (nI a4)), some (.int x59), some (.int x61)]) (st' := []) (h' := Hp S64) 1 (fun Z => if_pos hc) ?_
        refine wp_st (pc' := 913) (L' := [some (.ref a0), some (.ref 0), some (.ref 65), some (.ref 91), some (.int (nI a4)), some (.int x59), some (.int x61)]) (st' := [.int x59]) (h' := Hp S64) 1 (fun Z => rfl) ?_
        by_cases hc : x59 = 0
        · rw [if_pos hc] at hw
          refine wp_st (pc' := 916) (L' := [some (.ref a0), some (.ref 0), some (.ref 65), some (.ref 91), some (.int (nI a4)), some (.int x59), some (.int x61)]) (st' := []) (h' := Hp S64) 1 (fun Z => if_pos hc) ?_
          refine wp_st (pc' := 918) (L' := [some (.ref a0), some (.ref 0), some (.ref 65), some (.ref 91), some (.int (nI a4)), some (.int x59), some (.int x61)]) (st' := [.int 0, .ref 91]) (h' := Hp S64) 2 (fun Z => rfl) ?_
          refine wp_st (pc' := 919) (L' := [some (.ref a0), some (.ref 0), some (.ref 65), some (.ref 91), some (.int (nI a4)), some (.int x59), some (.int x61)]) (st' := [.long (catL (S64 91 0) (S64 91 1))]) (h' := Hp S64) 1 (fun Z => ldJ0 (E := E) sh91 (by decide) [] (fun st => Z (d + 1) m_law_law 919 [some (.ref a0), some (.ref 0), some (.ref 65), some (.ref 91), some (.int (nI a4)), some (.int x59), some (.int x61)] st (Hp S64))) ?_
          refine wp_st (pc' := 923) (L' := [some (.ref a0), some (.ref 0), some (.ref 65), some (.ref 91), some (.int (nI a4)), some (.int x59), some (.int x61)]) (st' := [.int (lg_cmp (catL (S64 91 0) (S64 91 1)) (Int32.toInt64 x61))]) (h' := Hp S64) 3 (fun Z => rfl) ?_
          by_cases hc : (lg_cmp (catL (S64 91 0) (S64 91 1)) (Int32.toInt64 x61)) = 0
          · rw [if_pos hc] at hw
            refine wp_st (pc' := 928) (L' := [some (.ref a0), some (.ref 0), some (.ref 65), some (.ref 91), some (.int (nI a4)), some (.int x59), some (.int x61)]) (st' := []) (h' := Hp S64) 1 (fun Z => if_pos hc) ?_
            refine wp_st (pc' := 2231) (L' := [some (.ref a0), some (.ref 0), some (.ref 65), some (.ref 91), some (.int (nI a4)), some (.int x59), some (.int x61)]) (st' := []) (h' := Hp S64) 1 (fun Z => rfl) ?_
            refine wp_st (pc' := 2234) (L' := [some (.ref a0), some (.ref 0), some (.ref 65), some (.ref 91), some (.int (nI (a4 + 6))), some (.int x59), some (.int x61)]) (st' := []) (h' := Hp S64) 1 (fun Z => by rw [← nI_add a4 6]; rfl) ?_
            exact wp_st 1 (fun Z => rfl) (show wp E (d + 1) m_law_law 23 [some (.ref a0), some (.ref 0), some (.ref 65), some (.ref 91), some (.int (nI (a4 + 6))), some (.int x59), some (.int x61)] [] (Hp S64) (QI Q) from (hw (some (.int x59)) (some (.int x61))))
          · rw [if_neg hc] at hw
            refine wp_st (pc' := 926) (L' := [some (.ref a0), some (.ref 0), some (.ref 65), some (.ref 91), some (.int (nI a4)), some (.int x59), some (.int x61)]) (st' := []) (h' := Hp S64) 1 (fun Z => if_neg hc) ?_
            refine wp_st (pc' := 927) (L' := [some (.ref a0), some (.ref 0), some (.ref 65), some (.ref 91), some (.int (nI a4)), some (.int x59), some (.int x61)]) (st' := [.int 0]) (h' := Hp S64) 1 (fun Z => rfl) ?_
            exact wp_ret (fun Z => rfl) ⟨_, _, rfl, rfl, hw⟩
        · rw [if_neg hc] at hw
          refine wp_st (pc' := 928) (L' := [some (.ref a0), some (.ref 0), some (.ref 65), some (.ref 91), some (.int (nI a4)), some (.int x59), some (.int x61)]) (st' := []) (h' := Hp S64) 1 (fun Z => if_neg hc) ?_
          refine wp_st (pc' := 2231) (L' := [some (.ref a0), some (.ref 0), some (.ref 65), some (.ref 91), some (.int (nI a4)), some (.int x59), some (.int x61)]) (st' := []) (h' := Hp S64) 1 (fun Z => rfl) ?_
          refine wp_st (pc' := 2234) (L' := [some (.ref a0), some (.ref 0), some (.ref 65), some (.ref 91), some (.int (nI (a4 + 6))), some (.int x59), some (.int x61)]) (st' := []) (h' := Hp S64) 1 (fun Z => by rw [← nI_add a4 6]; rfl) ?_
          exact wp_st 1 (fun Z => rfl) (show wp E (d + 1) m_law_law 23 [some (.ref a0), some (.ref 0), some (.ref 65), some (.ref 91), some (.int (nI (a4 + 6))), some (.int x59), some (.int x61)] [] (Hp S64) (QI Q) from (hw (some (.int x59)) (some (.int x61))))
      · rw [if_neg hc] at hw
        refine wp_st (pc' := 909) (L' := [some (.ref a0), some (.ref 0), some (.ref 65), some (.ref 91), some (.int (nI a4)), some (.int x59), some (.int x61)]) (st' := []) (h' := Hp S64) 1 (fun Z => if_neg hc) ?_
        refine wp_st (pc' := 910) (L' := [some (.ref a0), some (.ref 0), some (.ref 65), some (.ref 91), some (.int (nI a4)), some (.int x59), some (.int x61)]) (st' := [.int 0]) (h' := Hp S64) 1 (fun Z => rfl) ?_
        exact wp_ret (fun Z => rfl) ⟨_, _, rfl, rfl, hw⟩
    rw [if_neg c12] at hw
    by_cases c13 : ((S a0 a4) &&& (63 : Int32)) = 13
    · rw [if_pos c13] at hw
      refine wp_st (pc' := 931) (L' := [some (.ref a0), some (.ref 0), some (.ref 65), some (.ref 91), some (.int (nI a4)), j5, j6]) (st' := []) (h' := Hp S) 1 (fun Z => (show zsw (.tableswitch 2191 0 34 #[156, 229, 285, 298, 354, 422, 490, 515, 571, 639, 730, 798, 811, 891, 971, 1027, 1040, 1108, 1176, 1244, 1324, 1380, 1436, 1532, 1543, 1599, 1655, 1735, 1815, 1895, 1963, 2031, 2099, 2167, 2178]) 40 (.int ((S a0 a4) &&& (63 : Int32)) :: []) (fun t st1 => Z (d + 1) m_law_law t [some (.ref a0), some (.ref 0), some (.ref 65), some (.ref 91), some (.int (nI a4)), j5, j6] st1 (Hp S)) = _ from zsw_at (c := 13) (by rw [c13]; decide) (by decide) rfl rfl)) ?_
      refine wp_st (pc' := 936) (L' := [some (.ref a0), some (.ref 0), some (.ref 65), some (.ref 91), some (.int (nI a4)), j5, j6]) (st' := [.int 1, .int (nI a4), .ref a0, .ref 0]) (h' := Hp S) 4 (fun Z => rfl) ?_
      refine wp_st (pc' := 937) (L' := [some (.ref a0), some (.ref 0), some (.ref 65), some (.ref 91), some (.int (nI a4)), j5, j6]) (st' := [.int (nI (a4 + 1)), .ref a0, .ref 0]) (h' := Hp S) 1 (fun Z => by rw [← nI_add a4 1]; rfl) ?_
      obtain ⟨hi, hw⟩ := hw
      refine wp_st (pc' := 938) (L' := [some (.ref a0), some (.ref 0), some (.ref 65), some (.ref 91), some (.int (nI a4)), j5, j6]) (st' := [.int (S a0 (a4 + 1)), .ref 0]) (h' := Hp S) 1 (fun Z => ldN (E := E) ha0 na0lt hi [.ref 0] (fun st => Z (d + 1) m_law_law 938 [some (.ref a0), some (.ref 0), some (.ref 65), some (.ref 91), some (.int (nI a4)), j5, j6] st (Hp S))) ?_
      refine wp_st (pc' := 942) (L' := [some (.ref a0), some (.ref 0), some (.ref 65), some (.ref 91), some (.int (nI a4)), j5, j6]) (st' := [.int 2, .int (nI a4), .ref a0, .int (S a0 (a4 + 1)), .ref 0]) (h' := Hp S) 3 (fun Z => rfl) ?_
      refine wp_st (pc' := 943) (L' := [some (.ref a0), some (.ref 0), some (.ref 65), some (.ref 91), some (.int (nI a4)), j5, j6]) (st' := [.int (nI (a4 + 2)), .ref a0, .int (S a0 (a4 + 1)), .ref 0]) (h' := Hp S) 1 (fun Z => by rw [← nI_add a4 2]; rfl) ?_
      obtain ⟨hi, hw⟩ := hw
      refine wp_st (pc' := 944) (L' := [some (.ref a0), some (.ref 0), some (.ref 65), some (.ref 91), some (.int (nI a4)), j5, j6]) (st' := [.int (S a0 (a4 + 2)), .int (S a0 (a4 + 1)), .ref 0]) (h' := Hp S) 1 (fun Z => ldN (E := E) ha0 na0lt hi [.int (S a0 (a4 + 1)), .ref 0] (fun st => Z (d + 1) m_law_law 944 [some (.ref a0), some (.ref 0), some (.ref 65), some (.ref 91), some (.int (nI a4)), j5, j6] st (Hp S))) ?_
      refine wp_st (pc' := 948) (L' := [some (.ref a0), some (.ref 0), some (.ref 65), some (.ref 91), some (.int (nI a4)), j5, j6]) (st' := [.int 3, .int (nI a4), .ref a0, .int (S a0 (a4 + 2)), .int (S a0 (a4 + 1)), .ref 0]) (h' := Hp S) 3 (fun Z => rfl) ?_
      refine wp_st (pc' := 949) (L' := [some (.ref a0), some (.ref 0), some (.ref 65), some (.ref 91), some (.int (nI a4)), j5, j6]) (st' := [.int (nI (a4 + 3)), .ref a0, .int (S a0 (a4 + 2)), .int (S a0 (a4 + 1)), .ref 0]) (h' := Hp S) 1 (fun Z => by rw [← nI_add a4 3]; rfl) ?_
      obtain ⟨hi, hw⟩ := hw
      refine wp_st (pc' := 950) (L' := [some (.ref a0), some (.ref 0), some (.ref 65), some (.ref 91), some (.int (nI a4)), j5, j6]) (st' := [.int (S a0 (a4 + 3)), .int (S a0 (a4 + 2)), .int (S a0 (a4 + 1)), .ref 0]) (h' := Hp S) 1 (fun Z => ldN (E := E) ha0 na0lt hi [.int (S a0 (a4 + 2)), .int (S a0 (a4 + 1)), .ref 0] (fun st => Z (d + 1) m_law_law 950 [some (.ref a0), some (.ref 0), some (.ref 65), some (.ref 91), some (.int (nI a4)), j5, j6] st (Hp S))) ?_
      refine wp_st (pc' := 951) (L' := [some (.ref a0), some (.ref 0), some (.ref 65), some (.ref 91), some (.int (nI a4)), j5, j6]) (st' := [.ref 91, .int (S a0 (a4 + 3)), .int (S a0 (a4 + 2)), .int (S a0 (a4 + 1)), .ref 0]) (h' := Hp S) 1 (fun Z => rfl) ?_
      refine wp_call (pc' := 954) (rest := []) (fun Z => rfl) rfl hw ?_
      rintro o h1 ⟨x65, S66, rfl, rfl, hw⟩
      refine ⟨_, rfl, ?_⟩
      show wp E (d + 1) m_law_law 954 [some (.ref a0), some (.ref 0), some (.ref 65), some (.ref 91), some (.int (nI a4)), j5, j6] [.int x65] (Hp S66) (QI Q)
      refine wp_st (pc' := 961) (L' := [some (.ref a0), some (.ref 0), some (.ref 65), some (.ref 91), some (.int (nI a4)), some (.int x65), j6]) (st' := [.int 1, .int (nI a4), .ref a0, .ref 65]) (h' := Hp S66) 5 (fun Z => rfl) ?_
      refine wp_st (pc' := 962) (L' := [some (.ref a0), some (.ref 0), some (.ref 65), some (.ref 91), some (.int (nI a4)), some (.int x65), j6]) (st' := [.int (nI (a4 + 1)), .ref a0, .ref 65]) (h' := Hp S66) 1 (fun Z => by rw [← nI_add a4 1]; rfl) ?_
      obtain ⟨hi, hw⟩ := hw
      refine wp_st (pc' := 963) (L' := [some (.ref a0), some (.ref 0), some (.ref 65), some (.ref 91), some (.int (nI a4)), some (.int x65), j6]) (st' := [.int (S66 a0 (a4 + 1)), .ref 65]) (h' := Hp S66) 1 (fun Z => ldN (E := E) ha0 na0lt hi [.ref 65] (fun st => Z (d + 1) m_law_law 963 [some (.ref a0), some (.ref 0), some (.ref 65), some (.ref 91), some (.int (nI a4)), some (.int x65), j6] st (Hp S66))) ?_
      refine wp_st (pc' := 967) (L' := [some (.ref a0), some (.ref 0), some (.ref 65), some (.ref 91), some (.int (nI a4)), some (.int x65), j6]) (st' := [.int 2, .int (nI a4), .ref a0, .int (S66 a0 (a4 + 1)), .ref 65]) (h' := Hp S66) 3 (fun Z => rfl) ?_
      refine wp_st (pc' := 968) (L' := [some (.ref a0), some (.ref 0), some (.ref 65), some (.ref 91), some (.int (nI a4)), some (.int x65), j6]) (st' := [.int (nI (a4 + 2)), .ref a0, .int (S66 a0 (a4 + 1)), .ref 65]) (h' := Hp S66) 1 (fun Z => by rw [← nI_add a4 2]; rfl) ?_
      obtain ⟨hi, hw⟩ := hw
      refine wp_st (pc' := 969) (L' := [some (.ref a0), some (.ref 0), some (.ref 65), some (.ref 91), some (.int (nI a4)), some (.int x65), j6]) (st' := [.int (S66 a0 (a4 + 2)), .int (S66 a0 (a4 + 1)), .ref 65]) (h' := Hp S66) 1 (fun Z => ldN (E := E) ha0 na0lt hi [.int (S66 a0 (a4 + 1)), .ref 65] (fun st => Z (d + 1) m_law_law 969 [some (.ref a0), some (.ref 0), some (.ref 65), some (.ref 91), some (.int (nI a4)), some (.int x65), j6] st (Hp S66))) ?_
      refine wp_st (pc' := 973) (L' := [some (.ref a0), some (.ref 0), some (.ref 65), some (.ref 91), some (.int (nI a4)), some (.int x65), j6]) (st' := [.int 3, .int (nI a4), .ref a0, .int (S66 a0 (a4 + 2)), .int (S66 a0 (a4 + 1)), .ref 65]) (h' := Hp S66) 3 (fun Z => rfl) ?_
      refine wp_st (pc' := 974) (L' := [some (.ref a0), some (.ref 0), some (.ref 65), some (.ref 91), some (.int (nI a4)), some (.int x65), j6]) (st' := [.int (nI (a4 + 3)), .ref a0, .int (S66 a0 (a4 + 2)), .int (S66 a0 (a4 + 1)), .ref 65]) (h' := Hp S66) 1 (fun Z => by rw [← nI_add a4 3]; rfl) ?_
      obtain ⟨hi, hw⟩ := hw
      refine wp_st (pc' := 975) (L' := [some (.ref a0), some (.ref 0), some (.ref 65), some (.ref 91), some (.int (nI a4)), some (.int x65), j6]) (st' := [.int (S66 a0 (a4 + 3)), .int (S66 a0 (a4 + 2)), .int (S66 a0 (a4 + 1)), .ref 65]) (h' := Hp S66) 1 (fun Z => ldN (E := E) ha0 na0lt hi [.int (S66 a0 (a4 + 2)), .int (S66 a0 (a4 + 1)), .ref 65] (fun st => Z (d + 1) m_law_law 975 [some (.ref a0), some (.ref 0), some (.ref 65), some (.ref 91), some (.int (nI a4)), some (.int x65), j6] st (Hp S66))) ?_
      refine wp_call (pc' := 978) (rest := []) (fun Z => rfl) (isO_of sh65) hw ?_
      rintro o h1 ⟨x67, S68, rfl, rfl, hw⟩
      refine ⟨_, rfl, ?_⟩
      show wp E (d + 1) m_law_law 978 [some (.ref a0), some (.ref 0), some (.ref 65), some (.ref 91), some (.int (nI a4)), some (.int x65), j6] [.int x67] (Hp S68) (QI Q)
      refine wp_st (pc' := 981) (L' := [some (.ref a0), some (.ref 0), some (.ref 65), some (.ref 91), some (.int (nI a4)), some (.int x65), some (.int x67)]) (st' := [.ref 65]) (h' := Hp S68) 2 (fun Z => rfl) ?_
      refine wp_call (pc' := 984) (rest := []) (fun Z => rfl) (isO_of sh65) hw ?_
      rintro o h1 ⟨x69, S70, rfl, rfl, hw⟩
      refine ⟨_, rfl, ?_⟩
      show wp E (d + 1) m_law_law 984 [some (.ref a0), some (.ref 0), some (.ref 65), some (.ref 91), some (.int (nI a4)), some (.int x65), some (.int x67)] [.int x69] (Hp S70) (QI Q)
      refine wp_st (pc' := 986) (L' := [some (.ref a0), some (.ref 0), some (.ref 65), some (.ref 91), some (.int (nI a4)), some (.int x65), some (.int x67)]) (st' := [.int x65, .int x69]) (h' := Hp S70) 1 (fun Z => rfl) ?_
      by_cases hc : x69 = x65
      · rw [if_pos hc] at hw
        refine wp_st (pc' := 991) (L' := [some (.ref a0), some (.ref 0), some (.ref 65), some (.ref 91), some (.int (nI a4)), some (.int x65), some (.int x67)]) (st' := []) (h' := Hp S70) 1 (fun Z => if_pos hc) ?_
        refine wp_st (pc' := 993) (L' := [some (.ref a0), some (.ref 0), some (.ref 65), some (.ref 91), some (.int (nI a4)), some (.int x65), some (.int x67)]) (st' := [.int x65]) (h' := Hp S70) 1 (fun Z => rfl) ?_
        by_cases hc : x65 = 0
        · rw [if_pos hc] at hw
          refine wp_st (pc' := 996) (L' := [some (.ref a0), some (.ref 0), some (.ref 65), some (.ref 91), some (.int (nI a4)), some (.int x65), some (.int x67)]) (st' := []) (h' := Hp S70) 1 (fun Z => if_pos hc) ?_
          refine wp_st (pc' := 998) (L' := [some (.ref a0), some (.ref 0), some (.ref 65), some (.ref 91), some (.int (nI a4)), some (.int x65), some (.int x67)]) (st' := [.int 0, .ref 91]) (h' := Hp S70) 2 (fun Z => rfl) ?_
          refine wp_st (pc' := 999) (L' := [some (.ref a0), some (.ref 0), some (.ref 65), some (.ref 91), some (.int (nI a4)), some (.int x65), some (.int x67)]) (st' := [.long (catL (S70 91 0) (S70 91 1))]) (h' := Hp S70) 1 (fun Z => ldJ0 (E := E) sh91 (by decide) [] (fun st => Z (d + 1) m_law_law 999 [some (.ref a0), some (.ref 0), some (.ref 65), some (.ref 91), some (.int (nI a4)), some (.int x65), some (.int x67)] st (Hp S70))) ?_
          refine wp_st (pc' := 1003) (L' := [some (.ref a0), some (.ref 0), some (.ref 65), some (.ref 91), some (.int (nI a4)), some (.int x65), some (.int x67)]) (st' := [.int (lg_cmp (catL (S70 91 0) (S70 91 1)) (Int32.toInt64 x67))]) (h' := Hp S70) 3 (fun Z => rfl) ?_
          by_cases hc : (lg_cmp (catL (S70 91 0) (S70 91 1)) (Int32.toInt64 x67)) = 0
          · rw [if_pos hc] at hw
            refine wp_st (pc' := 1008) (L' := [some (.ref a0), some (.ref 0), some (.ref 65), some (.ref 91), some (.int (nI a4)), some (.int x65), some (.int x67)]) (st' := []) (h' := Hp S70) 1 (fun Z => if_pos hc) ?_
            refine wp_st (pc' := 2231) (L' := [some (.ref a0), some (.ref 0), some (.ref 65), some (.ref 91), some (.int (nI a4)), some (.int x65), some (.int x67)]) (st' := []) (h' := Hp S70) 1 (fun Z => rfl) ?_
            refine wp_st (pc' := 2234) (L' := [some (.ref a0), some (.ref 0), some (.ref 65), some (.ref 91), some (.int (nI (a4 + 6))), some (.int x65), some (.int x67)]) (st' := []) (h' := Hp S70) 1 (fun Z => by rw [← nI_add a4 6]; rfl) ?_
            exact wp_st 1 (fun Z => rfl) (show wp E (d + 1) m_law_law 23 [some (.ref a0), some (.ref 0), some (.ref 65), some (.ref 91), some (.int (nI (a4 + 6))), some (.int x65), some (.int x67)] [] (Hp S70) (QI Q) from (hw (some (.int x65)) (some (.int x67))))
          · rw [if_neg hc] at hw
            refine wp_st (pc' := 1006) (L' := [some (.ref a0), some (.ref 0), some (.ref 65), some (.ref 91), some (.int (nI a4)), some (.int x65), some (.int x67)]) (st' := []) (h' := Hp S70) 1 (fun Z => if_neg hc) ?_
            refine wp_st (pc' := 1007) (L' := [some (.ref a0), some (.ref 0), some (.ref 65), some (.ref 91), some (.int (nI a4)), some (.int x65), some (.int x67)]) (st' := [.int 0]) (h' := Hp S70) 1 (fun Z => rfl) ?_
            exact wp_ret (fun Z => rfl) ⟨_, _, rfl, rfl, hw⟩
        · rw [if_neg hc] at hw
          refine wp_st (pc' := 1008) (L' := [some (.ref a0), some (.ref 0), some (.ref 65), some (.ref 91), some (.int (nI a4)), some (.int x65), some (.int x67)]) (st' := []) (h' := Hp S70) 1 (fun Z => if_neg hc) ?_
          refine wp_st (pc' := 2231) (L' := [some (.ref a0), some (.ref 0), some (.ref 65), some (.ref 91), some (.int (nI a4)), some (.int x65), some (.int x67)]) (st' := []) (h' := Hp S70) 1 (fun Z => rfl) ?_
          refine wp_st (pc' := 2234) (L' := [some (.ref a0), some (.ref 0), some (.ref 65), some (.ref 91), some (.int (nI (a4 + 6))), some (.int x65), some (.int x67)]) (st' := []) (h' := Hp S70) 1 (fun Z => by rw [← nI_add a4 6]; rfl) ?_
          exact wp_st 1 (fun Z => rfl) (show wp E (d + 1) m_law_law 23 [some (.ref a0), some (.ref 0), some (.ref 65), some (.ref 91), some (.int (nI (a4 + 6))), some (.int x65), some (.int x67)] [] (Hp S70) (QI Q) from (hw (some (.int x65)) (some (.int x67))))
      · rw [if_neg hc] at hw
        refine wp_st (pc' := 989) (L' := [some (.ref a0), some (.ref 0), some (.ref 65), some (.ref 91), some (.int (nI a4)), some (.int x65), some (.int x67)]) (st' := []) (h' := Hp S70) 1 (fun Z => if_neg hc) ?_
        refine wp_st (pc' := 990) (L' := [some (.ref a0), some (.ref 0), some (.ref 65), some (.ref 91), some (.int (nI a4)), some (.int x65), some (.int x67)]) (st' := [.int 0]) (h' := Hp S70) 1 (fun Z => rfl) ?_
        exact wp_ret (fun Z => rfl) ⟨_, _, rfl, rfl, hw⟩
    rw [if_neg c13] at hw
    by_cases c14 : ((S a0 a4) &&& (63 : Int32)) = 14
    · rw [if_pos c14] at hw
      refine wp_st (pc' := 1011) (L' := [some (.ref a0), some (.ref 0), some (.ref 65), some (.ref 91), some (.int (nI a4)), j5, j6]) (st' := []) (h' := Hp S) 1 (fun Z => (show zsw (.tableswitch 2191 0 34 #[156, 229, 285, 298, 354, 422, 490, 515, 571, 639, 730, 798, 811, 891, 971, 1027, 1040, 1108, 1176, 1244, 1324, 1380, 1436, 1532, 1543, 1599, 1655, 1735, 1815, 1895, 1963, 2031, 2099, 2167, 2178]) 40 (.int ((S a0 a4) &&& (63 : Int32)) :: []) (fun t st1 => Z (d + 1) m_law_law t [some (.ref a0), some (.ref 0), some (.ref 65), some (.ref 91), some (.int (nI a4)), j5, j6] st1 (Hp S)) = _ from zsw_at (c := 14) (by rw [c14]; decide) (by decide) rfl rfl)) ?_
      refine wp_st (pc' := 1016) (L' := [some (.ref a0), some (.ref 0), some (.ref 65), some (.ref 91), some (.int (nI a4)), j5, j6]) (st' := [.int 1, .int (nI a4), .ref a0, .ref 0]) (h' := Hp S) 4 (fun Z => rfl) ?_
      refine wp_st (pc' := 1017) (L' := [some (.ref a0), some (.ref 0), some (.ref 65), some (.ref 91), some (.int (nI a4)), j5, j6]) (st' := [.int (nI (a4 + 1)), .ref a0, .ref 0]) (h' := Hp S) 1 (fun Z => by rw [← nI_add a4 1]; rfl) ?_
      obtain ⟨hi, hw⟩ := hw
      refine wp_st (pc' := 1018) (L' := [some (.ref a0), some (.ref 0), some (.ref 65), some (.ref 91), some (.int (nI a4)), j5, j6]) (st' := [.int (S a0 (a4 + 1)), .ref 0]) (h' := Hp S) 1 (fun Z => ldN (E := E) ha0 na0lt hi [.ref 0] (fun st => Z (d + 1) m_law_law 1018 [some (.ref a0), some (.ref 0), some (.ref 65), some (.ref 91), some (.int (nI a4)), j5, j6] st (Hp S))) ?_
      refine wp_st (pc' := 1019) (L' := [some (.ref a0), some (.ref 0), some (.ref 65), some (.ref 91), some (.int (nI a4)), j5, j6]) (st' := [.ref 91, .int (S a0 (a4 + 1)), .ref 0]) (h' := Hp S) 1 (fun Z => rfl) ?_
      refine wp_call (pc' := 1022) (rest := []) (fun Z => rfl) rfl hw ?_
      rintro o h1 ⟨x71, S72, rfl, rfl, hw⟩
      refine ⟨_, rfl, ?_⟩
      show wp E (d + 1) m_law_law 1022 [some (.ref a0), some (.ref 0), some (.ref 65), some (.ref 91), some (.int (nI a4)), j5, j6] [.int x71] (Hp S72) (QI Q)
      refine wp_st (pc' := 1029) (L' := [some (.ref a0), some (.ref 0), some (.ref 65), some (.ref 91), some (.int (nI a4)), some (.int x71), j6]) (st' := [.int 1, .int (nI a4), .ref a0, .ref 65]) (h' := Hp S72) 5 (fun Z => rfl) ?_
      refine wp_st (pc' := 1030) (L' := [some (.ref a0), some (.ref 0), some (.ref 65), some (.ref 91), some (.int (nI a4)), some (.int x71), j6]) (st' := [.int (nI (a4 + 1)), .ref a0, .ref 65]) (h' := Hp S72) 1 (fun Z => by rw [← nI_add a4 1]; rfl) ?_
      obtain ⟨hi, hw⟩ := hw
      refine wp_st (pc' := 1031) (L' := [some (.ref a0), some (.ref 0), some (.ref 65), some (.ref 91), some (.int (nI a4)), some (.int x71), j6]) (st' := [.int (S72 a0 (a4 + 1)), .ref 65]) (h' := Hp S72) 1 (fun Z => ldN (E := E) ha0 na0lt hi [.ref 65] (fun st => Z (d + 1) m_law_law 1031 [some (.ref a0), some (.ref 0), some (.ref 65), some (.ref 91), some (.int (nI a4)), some (.int x71), j6] st (Hp S72))) ?_
      refine wp_call (pc' := 1034) (rest := []) (fun Z => rfl) (isO_of sh65) hw ?_
      rintro o h1 ⟨x73, S74, rfl, rfl, hw⟩
      refine ⟨_, rfl, ?_⟩
      show wp E (d + 1) m_law_law 1034 [some (.ref a0), some (.ref 0), some (.ref 65), some (.ref 91), some (.int (nI a4)), some (.int x71), j6] [.int x73] (Hp S74) (QI Q)
      refine wp_st (pc' := 1037) (L' := [some (.ref a0), some (.ref 0), some (.ref 65), some (.ref 91), some (.int (nI a4)), some (.int x71), some (.int x73)]) (st' := [.ref 65]) (h' := Hp S74) 2 (fun Z => rfl) ?_
      refine wp_call (pc' := 1040) (rest := []) (fun Z => rfl) (isO_of sh65) hw ?_
      rintro o h1 ⟨x75, S76, rfl, rfl, hw⟩
      refine ⟨_, rfl, ?_⟩
      show wp E (d + 1) m_law_law 1040 [some (.ref a0), some (.ref 0), some (.ref 65), some (.ref 91), some (.int (nI a4)), some (.int x71), some (.int x73)] [.int x75] (Hp S76) (QI Q)
      refine wp_st (pc' := 1042) (L' := [some (.ref a0), some (.ref 0), some (.ref 65), some (.ref 91), some (.int (nI a4)), some (.int x71), some (.int x73)]) (st' := [.int x71, .int x75]) (h' := Hp S76) 1 (fun Z => rfl) ?_
      by_cases hc : x75 = x71
      · rw [if_pos hc] at hw
        refine wp_st (pc' := 1047) (L' := [some (.ref a0), some (.ref 0), some (.ref 65), some (.ref 91), some (.int (nI a4)), some (.int x71), some (.int x73)]) (st' := []) (h' := Hp S76) 1 (fun Z => if_pos hc) ?_
        refine wp_st (pc' := 1049) (L' := [some (.ref a0), some (.ref 0), some (.ref 65), some (.ref 91), some (.int (nI a4)), some (.int x71), some (.int x73)]) (st' := [.int x71]) (h' := Hp S76) 1 (fun Z => rfl) ?_
        by_cases hc : x71 = 0
        · rw [if_pos hc] at hw
          refine wp_st (pc' := 1052) (L' := [some (.ref a0), some (.ref 0), some (.ref 65), some (.ref 91), some (.int (nI a4)), some (.int x71), some (.int x73)]) (st' := []) (h' := Hp S76) 1 (fun Z => if_pos hc) ?_
          refine wp_st (pc' := 1054) (L' := [some (.ref a0), some (.ref 0), some (.ref 65), some (.ref 91), some (.int (nI a4)), some (.int x71), some (.int x73)]) (st' := [.int 0, .ref 91]) (h' := Hp S76) 2 (fun Z => rfl) ?_
          refine wp_st (pc' := 1055) (L' := [some (.ref a0), some (.ref 0), some (.ref 65), some (.ref 91), some (.int (nI a4)), some (.int x71), some (.int x73)]) (st' := [.long (catL (S76 91 0) (S76 91 1))]) (h' := Hp S76) 1 (fun Z => ldJ0 (E := E) sh91 (by decide) [] (fun st => Z (d + 1) m_law_law 1055 [some (.ref a0), some (.ref 0), some (.ref 65), some (.ref 91), some (.int (nI a4)), some (.int x71), some (.int x73)] st (Hp S76))) ?_
          refine wp_st (pc' := 1059) (L' := [some (.ref a0), some (.ref 0), some (.ref 65), some (.ref 91), some (.int (nI a4)), some (.int x71), some (.int x73)]) (st' := [.int (lg_cmp (catL (S76 91 0) (S76 91 1)) (Int32.toInt64 x73))]) (h' := Hp S76) 3 (fun Z => rfl) ?_
          by_cases hc : (lg_cmp (catL (S76 91 0) (S76 91 1)) (Int32.toInt64 x73)) = 0
          · rw [if_pos hc] at hw
            refine wp_st (pc' := 1064) (L' := [some (.ref a0), some (.ref 0), some (.ref 65), some (.ref 91), some (.int (nI a4)), some (.int x71), some (.int x73)]) (st' := []) (h' := Hp S76) 1 (fun Z => if_pos hc) ?_
            refine wp_st (pc' := 2231) (L' := [some (.ref a0), some (.ref 0), some (.ref 65), some (.ref 91), some (.int (nI a4)), some (.int x71), some (.int x73)]) (st' := []) (h' := Hp S76) 1 (fun Z => rfl) ?_
            refine wp_st (pc' := 2234) (L' := [some (.ref a0), some (.ref 0), some (.ref 65), some (.ref 91), some (.int (nI (a4 + 6))), some (.int x71), some (.int x73)]) (st' := []) (h' := Hp S76) 1 (fun Z => by rw [← nI_add a4 6]; rfl) ?_
            exact wp_st 1 (fun Z => rfl) (show wp E (d + 1) m_law_law 23 [some (.ref a0), some (.ref 0), some (.ref 65), some (.ref 91), some (.int (nI (a4 + 6))), some (.int x71), some (.int x73)] [] (Hp S76) (QI Q) from (hw (some (.int x71)) (some (.int x73))))
          · rw [if_neg hc] at hw
            refine wp_st (pc' := 1062) (L' := [some (.ref a0), some (.ref 0), some (.ref 65), some (.ref 91), some (.int (nI a4)), some (.int x71), some (.int x73)]) (st' := []) (h' := Hp S76) 1 (fun Z => if_neg hc) ?_
            refine wp_st (pc' := 1063) (L' := [some (.ref a0), some (.ref 0), some (.ref 65), some (.ref 91), some (.int (nI a4)), some (.int x71), some (.int x73)]) (st' := [.int 0]) (h' := Hp S76) 1 (fun Z => rfl) ?_
            exact wp_ret (fun Z => rfl) ⟨_, _, rfl, rfl, hw⟩
        · rw [if_neg hc] at hw
          refine wp_st (pc' := 1064) (L' := [some (.ref a0), some (.ref 0), some (.ref 65), some (.ref 91), some (.int (nI a4)), some (.int x71), some (.int x73)]) (st' := []) (h' := Hp S76) 1 (fun Z => if_neg hc) ?_
          refine wp_st (pc' := 2231) (L' := [some (.ref a0), some (.ref 0), some (.ref 65), some (.ref 91), some (.int (nI a4)), some (.int x71), some (.int x73)]) (st' := []) (h' := Hp S76) 1 (fun Z => rfl) ?_
          refine wp_st (pc' := 2234) (L' := [some (.ref a0), some (.ref 0), some (.ref 65), some (.ref 91), some (.int (nI (a4 + 6))), some (.int x71), some (.int x73)]) (st' := []) (h' := Hp S76) 1 (fun Z => by rw [← nI_add a4 6]; rfl) ?_
          exact wp_st 1 (fun Z => rfl) (show wp E (d + 1) m_law_law 23 [some (.ref a0), some (.ref 0), some (.ref 65), some (.ref 91), some (.int (nI (a4 + 6))), some (.int x71), some (.int x73)] [] (Hp S76) (QI Q) from (hw (some (.int x71)) (some (.int x73))))
      · rw [if_neg hc] at hw
        refine wp_st (pc' := 1045) (L' := [some (.ref a0), some (.ref 0), some (.ref 65), some (.ref 91), some (.int (nI a4)), some (.int x71), some (.int x73)]) (st' := []) (h' := Hp S76) 1 (fun Z => if_neg hc) ?_
        refine wp_st (pc' := 1046) (L' := [some (.ref a0), some (.ref 0), some (.ref 65), some (.ref 91), some (.int (nI a4)), some (.int x71), some (.int x73)]) (st' := [.int 0]) (h' := Hp S76) 1 (fun Z => rfl) ?_
        exact wp_ret (fun Z => rfl) ⟨_, _, rfl, rfl, hw⟩
    rw [if_neg c14] at hw
    by_cases c15 : ((S a0 a4) &&& (63 : Int32)) = 15
    · rw [if_pos c15] at hw
      refine wp_st (pc' := 1067) (L' := [some (.ref a0), some (.ref 0), some (.ref 65), some (.ref 91), some (.int (nI a4)), j5, j6]) (st' := []) (h' := Hp S) 1 (fun Z => (show zsw (.tableswitch 2191 0 34 #[156, 229, 285, 298, 354, 422, 490, 515, 571, 639, 730, 798, 811, 891, 971, 1027, 1040, 1108, 1176, 1244, 1324, 1380, 1436, 1532, 1543, 1599, 1655, 1735, 1815, 1895, 1963, 2031, 2099, 2167, 2178]) 40 (.int ((S a0 a4) &&& (63 : Int32)) :: []) (fun t st1 => Z (d + 1) m_law_law t [some (.ref a0), some (.ref 0), some (.ref 65), some (.ref 91), some (.int (nI a4)), j5, j6] st1 (Hp S)) = _ from zsw_at (c := 15) (by rw [c15]; decide) (by decide) rfl rfl)) ?_
      refine wp_st (pc' := 1068) (L' := [some (.ref a0), some (.ref 0), some (.ref 65), some (.ref 91), some (.int (nI a4)), j5, j6]) (st' := [.ref 0]) (h' := Hp S) 1 (fun Z => rfl) ?_
      refine wp_call (pc' := 1071) (rest := []) (fun Z => rfl) (isO_of sh0) hw ?_
      rintro o h1 ⟨x77, S78, rfl, rfl, hw⟩
      refine ⟨_, rfl, ?_⟩
      show wp E (d + 1) m_law_law 1071 [some (.ref a0), some (.ref 0), some (.ref 65), some (.ref 91), some (.int (nI a4)), j5, j6] [.int x77] (Hp S78) (QI Q)
      refine wp_st (pc' := 1072) (L' := [some (.ref a0), some (.ref 0), some (.ref 65), some (.ref 91), some (.int (nI a4)), j5, j6]) (st' := [.ref 65, .int x77]) (h' := Hp S78) 1 (fun Z => rfl) ?_
      refine wp_call (pc' := 1075) (rest := [.int x77]) (fun Z => rfl) (isO_of sh65) hw ?_
      rintro o h1 ⟨x79, S80, rfl, rfl, hw⟩
      refine ⟨_, rfl, ?_⟩
      show wp E (d + 1) m_law_law 1075 [some (.ref a0), some (.ref 0), some (.ref 65), some (.ref 91), some (.int (nI a4)), j5, j6] [.int x79, .int x77] (Hp S80) (QI Q)
      by_cases hc : x77 = x79
      · rw [if_pos hc] at hw
        refine wp_st (pc' := 2231) (L' := [some (.ref a0), some (.ref 0), some (.ref 65), some (.ref 91), some (.int (nI a4)), j5, j6]) (st' := []) (h' := Hp S80) 1 (fun Z => if_pos hc) ?_
        refine wp_st (pc' := 2234) (L' := [some (.ref a0), some (.ref 0), some (.ref 65), some (.ref 91), some (.int (nI (a4 + 6))), j5, j6]) (st' := []) (h' := Hp S80) 1 (fun Z => by rw [← nI_add a4 6]; rfl) ?_
        exact wp_st 1 (fun Z => rfl) (show wp E (d + 1) m_law_law 23 [some (.ref a0), some (.ref 0), some (.ref 65), some (.ref 91), some (.int (nI (a4 + 6))), j5, j6] [] (Hp S80) (QI Q) from (hw j5 j6))
      · rw [if_neg hc] at hw
        refine wp_st (pc' := 1078) (L' := [some (.ref a0), some (.ref 0), some (.ref 65), some (.ref 91), some (.int (nI a4)), j5, j6]) (st' := []) (h' := Hp S80) 1 (fun Z => if_neg hc) ?_
        refine wp_st (pc' := 1079) (L' := [some (.ref a0), some (.ref 0), some (.ref 65), some (.ref 91), some (.int (nI a4)), j5, j6]) (st' := [.int 0]) (h' := Hp S80) 1 (fun Z => rfl) ?_
        exact wp_ret (fun Z => rfl) ⟨_, _, rfl, rfl, hw⟩
    rw [if_neg c15] at hw
    by_cases c16 : ((S a0 a4) &&& (63 : Int32)) = 16
    · rw [if_pos c16] at hw
      refine wp_st (pc' := 1080) (L' := [some (.ref a0), some (.ref 0), some (.ref 65), some (.ref 91), some (.int (nI a4)), j5, j6]) (st' := []) (h' := Hp S) 1 (fun Z => (show zsw (.tableswitch 2191 0 34 #[156, 229, 285, 298, 354, 422, 490, 515, 571, 639, 730, 798, 811, 891, 971, 1027, 1040, 1108, 1176, 1244, 1324, 1380, 1436, 1532, 1543, 1599, 1655, 1735, 1815, 1895, 1963, 2031, 2099, 2167, 2178]) 40 (.int ((S a0 a4) &&& (63 : Int32)) :: []) (fun t st1 => Z (d + 1) m_law_law t [some (.ref a0), some (.ref 0), some (.ref 65), some (.ref 91), some (.int (nI a4)), j5, j6] st1 (Hp S)) = _ from zsw_at (c := 16) (by rw [c16]; decide) (by decide) rfl rfl)) ?_
      refine wp_st (pc' := 1085) (L' := [some (.ref a0), some (.ref 0), some (.ref 65), some (.ref 91), some (.int (nI a4)), j5, j6]) (st' := [.int 1, .int (nI a4), .ref a0, .ref 0]) (h' := Hp S) 4 (fun Z => rfl) ?_
      refine wp_st (pc' := 1086) (L' := [some (.ref a0), some (.ref 0), some (.ref 65), some (.ref 91), some (.int (nI a4)), j5, j6]) (st' := [.int (nI (a4 + 1)), .ref a0, .ref 0]) (h' := Hp S) 1 (fun Z => by rw [← nI_add a4 1]; rfl) ?_
      obtain ⟨hi, hw⟩ := hw
      refine wp_st (pc' := 1087) (L' := [some (.ref a0), some (.ref 0), some (.ref 65), some (.ref 91), some (.int (nI a4)), j5, j6]) (st' := [.int (S a0 (a4 + 1)), .ref 0]) (h' := Hp S) 1 (fun Z => ldN (E := E) ha0 na0lt hi [.ref 0] (fun st => Z (d + 1) m_law_law 1087 [some (.ref a0), some (.ref 0), some (.ref 65), some (.ref 91), some (.int (nI a4)), j5, j6] st (Hp S))) ?_
      refine wp_st (pc' := 1091) (L' := [some (.ref a0), some (.ref 0), some (.ref 65), some (.ref 91), some (.int (nI a4)), j5, j6]) (st' := [.int 2, .int (nI a4), .ref a0, .int (S a0 (a4 + 1)), .ref 0]) (h' := Hp S) 3 (fun Z => rfl) ?_
      refine wp_st (pc' := 1092) (L' := [some (.ref a0), some (.ref 0), some (.ref 65), some (.ref 91), some (.int (nI a4)), j5, j6]) (st' := [.int (nI (a4 + 2)), .ref a0, .int (S a0 (a4 + 1)), .ref 0]) (h' := Hp S) 1 (fun Z => by rw [← nI_add a4 2]; rfl) ?_
      obtain ⟨hi, hw⟩ := hw
      refine wp_st (pc' := 1093) (L' := [some (.ref a0), some (.ref 0), some (.ref 65), some (.ref 91), some (.int (nI a4)), j5, j6]) (st' := [.int (S a0 (a4 + 2)), .int (S a0 (a4 + 1)), .ref 0]) (h' := Hp S) 1 (fun Z => ldN (E := E) ha0 na0lt hi [.int (S a0 (a4 + 1)), .ref 0] (fun st => Z (d + 1) m_law_law 1093 [some (.ref a0), some (.ref 0), some (.ref 65), some (.ref 91), some (.int (nI a4)), j5, j6] st (Hp S))) ?_
      refine wp_st (pc' := 1094) (L' := [some (.ref a0), some (.ref 0), some (.ref 65), some (.ref 91), some (.int (nI a4)), j5, j6]) (st' := [.ref 91, .int (S a0 (a4 + 2)), .int (S a0 (a4 + 1)), .ref 0]) (h' := Hp S) 1 (fun Z => rfl) ?_
      refine wp_call (pc' := 1097) (rest := []) (fun Z => rfl) rfl hw ?_
      rintro o h1 ⟨x81, S82, rfl, rfl, hw⟩
      refine ⟨_, rfl, ?_⟩
      show wp E (d + 1) m_law_law 1097 [some (.ref a0), some (.ref 0), some (.ref 65), some (.ref 91), some (.int (nI a4)), j5, j6] [.int x81] (Hp S82) (QI Q)
      refine wp_st (pc' := 1104) (L' := [some (.ref a0), some (.ref 0), some (.ref 65), some (.ref 91), some (.int (nI a4)), some (.int x81), j6]) (st' := [.int 1, .int (nI a4), .ref a0, .ref 65]) (h' := Hp S82) 5 (fun Z => rfl) ?_
      refine wp_st (pc' := 1105) (L' := [some (.ref a0), some (.ref 0), some (.ref 65), some (.ref 91), some (.int (nI a4)), some (.int x81), j6]) (st' := [.int (nI (a4 + 1)), .ref a0, .ref 65]) (h' := Hp S82) 1 (fun Z => by rw [← nI_add a4 1]; rfl) ?_
      obtain ⟨hi, hw⟩ := hw
      refine wp_st (pc' := 1106) (L' := [some (.ref a0), some (.ref 0), some (.ref 65), some (.ref 91), some (.int (nI a4)), some (.int x81), j6]) (st' := [.int (S82 a0 (a4 + 1)), .ref 65]) (h' := Hp S82) 1 (fun Z => ldN (E := E) ha0 na0lt hi [.ref 65] (fun st => Z (d + 1) m_law_law 1106 [some (.ref a0), some (.ref 0), some (.ref 65), some (.ref 91), some (.int (nI a4)), some (.int x81), j6] st (Hp S82))) ?_
      refine wp_st (pc' := 1110) (L' := [some (.ref a0), some (.ref 0), some (.ref 65), some (.ref 91), some (.int (nI a4)), some (.int x81), j6]) (st' := [.int 2, .int (nI a4), .ref a0, .int (S82 a0 (a4 + 1)), .ref 65]) (h' := Hp S82) 3 (fun Z => rfl) ?_
      refine wp_st (pc' := 1111) (L' := [some (.ref a0), some (.ref 0), some (.ref 65), some (.ref 91), some (.int (nI a4)), some (.int x81), j6]) (st' := [.int (nI (a4 + 2)), .ref a0, .int (S82 a0 (a4 + 1)), .ref 65]) (h' := Hp S82) 1 (fun Z => by rw [← nI_add a4 2]; rfl) ?_
      obtain ⟨hi, hw⟩ := hw
      refine wp_st (pc' := 1112) (L' := [some (.ref a0), some (.ref 0), some (.ref 65), some (.ref 91), some (.int (nI a4)), some (.int x81), j6]) (st' := [.int (S82 a0 (a4 + 2)), .int (S82 a0 (a4 + 1)), .ref 65]) (h' := Hp S82) 1 (fun Z => ldN (E := E) ha0 na0lt hi [.int (S82 a0 (a4 + 1)), .ref 65] (fun st => Z (d + 1) m_law_law 1112 [some (.ref a0), some (.ref 0), some (.ref 65), some (.ref 91), some (.int (nI a4)), some (.int x81), j6] st (Hp S82))) ?_
      refine wp_call (pc' := 1115) (rest := []) (fun Z => rfl) (isO_of sh65) hw ?_
      rintro o h1 ⟨x83, S84, rfl, rfl, hw⟩
      refine ⟨_, rfl, ?_⟩
      show wp E (d + 1) m_law_law 1115 [some (.ref a0), some (.ref 0), some (.ref 65), some (.ref 91), some (.int (nI a4)), some (.int x81), j6] [.int x83] (Hp S84) (QI Q)
      refine wp_st (pc' := 1118) (L' := [some (.ref a0), some (.ref 0), some (.ref 65), some (.ref 91), some (.int (nI a4)), some (.int x81), some (.int x83)]) (st' := [.ref 65]) (h' := Hp S84) 2 (fun Z => rfl) ?_
      refine wp_call (pc' := 1121) (rest := []) (fun Z => rfl) (isO_of sh65) hw ?_
      rintro o h1 ⟨x85, S86, rfl, rfl, hw⟩
      refine ⟨_, rfl, ?_⟩
      show wp E (d + 1) m_law_law 1121 [some (.ref a0), some (.ref 0), some (.ref 65), some (.ref 91), some (.int (nI a4)), some (.int x81), some (.int x83)] [.int x85] (Hp S86) (QI Q)
      refine wp_st (pc' := 1123) (L' := [some (.ref a0), some (.ref 0), some (.ref 65), some (.ref 91), some (.int (nI a4)), some (.int x81), some (.int x83)]) (st' := [.int x81, .int x85]) (h' := Hp S86) 1 (fun Z => rfl) ?_
      by_cases hc : x85 = x81
      · rw [if_pos hc] at hw
        refine wp_st (pc' := 1128) (L' := [some (.ref a0), some (.ref 0), some (.ref 65), some (.ref 91), some (.int (nI a4)), some (.int x81), some (.int x83)]) (st' := []) (h' := Hp S86) 1 (fun Z => if_pos hc) ?_
        refine wp_st (pc' := 1130) (L' := [some (.ref a0), some (.ref 0), some (.ref 65), some (.ref 91), some (.int (nI a4)), some (.int x81), some (.int x83)]) (st' := [.int x81]) (h' := Hp S86) 1 (fun Z => rfl) ?_
        by_cases hc : x81 = 0
        · rw [if_pos hc] at hw
          refine wp_st (pc' := 1133) (L' := [some (.ref a0), some (.ref 0), some (.ref 65), some (.ref 91), some (.int (nI a4)), some (.int x81), some (.int x83)]) (st' := []) (h' := Hp S86) 1 (fun Z => if_pos hc) ?_
          refine wp_st (pc' := 1135) (L' := [some (.ref a0), some (.ref 0), some (.ref 65), some (.ref 91), some (.int (nI a4)), some (.int x81), some (.int x83)]) (st' := [.int 0, .ref 91]) (h' := Hp S86) 2 (fun Z => rfl) ?_
          refine wp_st (pc' := 1136) (L' := [some (.ref a0), some (.ref 0), some (.ref 65), some (.ref 91), some (.int (nI a4)), some (.int x81), some (.int x83)]) (st' := [.long (catL (S86 91 0) (S86 91 1))]) (h' := Hp S86) 1 (fun Z => ldJ0 (E := E) sh91 (by decide) [] (fun st => Z (d + 1) m_law_law 1136 [some (.ref a0), some (.ref 0), some (.ref 65), some (.ref 91), some (.int (nI a4)), some (.int x81), some (.int x83)] st (Hp S86))) ?_
          refine wp_st (pc' := 1140) (L' := [some (.ref a0), some (.ref 0), some (.ref 65), some (.ref 91), some (.int (nI a4)), some (.int x81), some (.int x83)]) (st' := [.int (lg_cmp (catL (S86 91 0) (S86 91 1)) (Int32.toInt64 x83))]) (h' := Hp S86) 3 (fun Z => rfl) ?_
          by_cases hc : (lg_cmp (catL (S86 91 0) (S86 91 1)) (Int32.toInt64 x83)) = 0
          · rw [if_pos hc] at hw
            refine wp_st (pc' := 1145) (L' := [some (.ref a0), some (.ref 0), some (.ref 65), some (.ref 91), some (.int (nI a4)), some (.int x81), some (.int x83)]) (st' := []) (h' := Hp S86) 1 (fun Z => if_pos hc) ?_
            refine wp_st (pc' := 2231) (L' := [some (.ref a0), some (.ref 0), some (.ref 65), some (.ref 91), some (.int (nI a4)), some (.int x81), some (.int x83)]) (st' := []) (h' := Hp S86) 1 (fun Z => rfl) ?_
            refine wp_st (pc' := 2234) (L' := [some (.ref a0), some (.ref 0), some (.ref 65), some (.ref 91), some (.int (nI (a4 + 6))), some (.int x81), some (.int x83)]) (st' := []) (h' := Hp S86) 1 (fun Z => by rw [← nI_add a4 6]; rfl) ?_
            exact wp_st 1 (fun Z => rfl) (show wp E (d + 1) m_law_law 23 [some (.ref a0), some (.ref 0), some (.ref 65), some (.ref 91), some (.int (nI (a4 + 6))), some (.int x81), some (.int x83)] [] (Hp S86) (QI Q) from (hw (some (.int x81)) (some (.int x83))))
          · rw [if_neg hc] at hw
            refine wp_st (pc' := 1143) (L' := [some (.ref a0), some (.ref 0), some (.ref 65), some (.ref 91), some (.int (nI a4)), some (.int x81), some (.int x83)]) (st' := []) (h' := Hp S86) 1 (fun Z => if_neg hc) ?_
            refine wp_st (pc' := 1144) (L' := [some (.ref a0), some (.ref 0), some (.ref 65), some (.ref 91), some (.int (nI a4)), some (.int x81), some (.int x83)]) (st' := [.int 0]) (h' := Hp S86) 1 (fun Z => rfl) ?_
            exact wp_ret (fun Z => rfl) ⟨_, _, rfl, rfl, hw⟩
        · rw [if_neg hc] at hw
          refine wp_st (pc' := 1145) (L' := [some (.ref a0), some (.ref 0), some (.ref 65), some (.ref 91), some (.int (nI a4)), some (.int x81), some (.int x83)]) (st' := []) (h' := Hp S86) 1 (fun Z => if_neg hc) ?_
          refine wp_st (pc' := 2231) (L' := [some (.ref a0), some (.ref 0), some (.ref 65), some (.ref 91), some (.int (nI a4)), some (.int x81), some (.int x83)]) (st' := []) (h' := Hp S86) 1 (fun Z => rfl) ?_
          refine wp_st (pc' := 2234) (L' := [some (.ref a0), some (.ref 0), some (.ref 65), some (.ref 91), some (.int (nI (a4 + 6))), some (.int x81), some (.int x83)]) (st' := []) (h' := Hp S86) 1 (fun Z => by rw [← nI_add a4 6]; rfl) ?_
          exact wp_st 1 (fun Z => rfl) (show wp E (d + 1) m_law_law 23 [some (.ref a0), some (.ref 0), some (.ref 65), some (.ref 91), some (.int (nI (a4 + 6))), some (.int x81), some (.int x83)] [] (Hp S86) (QI Q) from (hw (some (.int x81)) (some (.int x83))))
      · rw [if_neg hc] at hw
        refine wp_st (pc' := 1126) (L' := [some (.ref a0), some (.ref 0), some (.ref 65), some (.ref 91), some (.int (nI a4)), some (.int x81), some (.int x83)]) (st' := []) (h' := Hp S86) 1 (fun Z => if_neg hc) ?_
        refine wp_st (pc' := 1127) (L' := [some (.ref a0), some (.ref 0), some (.ref 65), some (.ref 91), some (.int (nI a4)), some (.int x81), some (.int x83)]) (st' := [.int 0]) (h' := Hp S86) 1 (fun Z => rfl) ?_
        exact wp_ret (fun Z => rfl) ⟨_, _, rfl, rfl, hw⟩
    rw [if_neg c16] at hw
    by_cases c17 : ((S a0 a4) &&& (63 : Int32)) = 17
    · rw [if_pos c17] at hw
      refine wp_st (pc' := 1148) (L' := [some (.ref a0), some (.ref 0), some (.ref 65), some (.ref 91), some (.int (nI a4)), j5, j6]) (st' := []) (h' := Hp S) 1 (fun Z => (show zsw (.tableswitch 2191 0 34 #[156, 229, 285, 298, 354, 422, 490, 515, 571, 639, 730, 798, 811, 891, 971, 1027, 1040, 1108, 1176, 1244, 1324, 1380, 1436, 1532, 1543, 1599, 1655, 1735, 1815, 1895, 1963, 2031, 2099, 2167, 2178]) 40 (.int ((S a0 a4) &&& (63 : Int32)) :: []) (fun t st1 => Z (d + 1) m_law_law t [some (.ref a0), some (.ref 0), some (.ref 65), some (.ref 91), some (.int (nI a4)), j5, j6] st1 (Hp S)) = _ from zsw_at (c := 17) (by rw [c17]; decide) (by decide) rfl rfl)) ?_
      refine wp_st (pc' := 1153) (L' := [some (.ref a0), some (.ref 0), some (.ref 65), some (.ref 91), some (.int (nI a4)), j5, j6]) (st' := [.int 1, .int (nI a4), .ref a0, .ref 0]) (h' := Hp S) 4 (fun Z => rfl) ?_
      refine wp_st (pc' := 1154) (L' := [some (.ref a0), some (.ref 0), some (.ref 65), some (.ref 91), some (.int (nI a4)), j5, j6]) (st' := [.int (nI (a4 + 1)), .ref a0, .ref 0]) (h' := Hp S) 1 (fun Z => by rw [← nI_add a4 1]; rfl) ?_
      obtain ⟨hi, hw⟩ := hw
      refine wp_st (pc' := 1155) (L' := [some (.ref a0), some (.ref 0), some (.ref 65), some (.ref 91), some (.int (nI a4)), j5, j6]) (st' := [.int (S a0 (a4 + 1)), .ref 0]) (h' := Hp S) 1 (fun Z => ldN (E := E) ha0 na0lt hi [.ref 0] (fun st => Z (d + 1) m_law_law 1155 [some (.ref a0), some (.ref 0), some (.ref 65), some (.ref 91), some (.int (nI a4)), j5, j6] st (Hp S))) ?_
      refine wp_st (pc' := 1159) (L' := [some (.ref a0), some (.ref 0), some (.ref 65), some (.ref 91), some (.int (nI a4)), j5, j6]) (st' := [.int 2, .int (nI a4), .ref a0, .int (S a0 (a4 + 1)), .ref 0]) (h' := Hp S) 3 (fun Z => rfl) ?_
      refine wp_st (pc' := 1160) (L' := [some (.ref a0), some (.ref 0), some (.ref 65), some (.ref 91), some (.int (nI a4)), j5, j6]) (st' := [.int (nI (a4 + 2)), .ref a0, .int (S a0 (a4 + 1)), .ref 0]) (h' := Hp S) 1 (fun Z => by rw [← nI_add a4 2]; rfl) ?_
      obtain ⟨hi, hw⟩ := hw
      refine wp_st (pc' := 1161) (L' := [some (.ref a0), some (.ref 0), some (.ref 65), some (.ref 91), some (.int (nI a4)), j5, j6]) (st' := [.int (S a0 (a4 + 2)), .int (S a0 (a4 + 1)), .ref 0]) (h' := Hp S) 1 (fun Z => ldN (E := E) ha0 na0lt hi [.int (S a0 (a4 + 1)), .ref 0] (fun st => Z (d + 1) m_law_law 1161 [some (.ref a0), some (.ref 0), some (.ref 65), some (.ref 91), some (.int (nI a4)), j5, j6] st (Hp S))) ?_
      refine wp_st (pc' := 1162) (L' := [some (.ref a0), some (.ref 0), some (.ref 65), some (.ref 91), some (.int (nI a4)), j5, j6]) (st' := [.ref 91, .int (S a0 (a4 + 2)), .int (S a0 (a4 + 1)), .ref 0]) (h' := Hp S) 1 (fun Z => rfl) ?_
      refine wp_call (pc' := 1165) (rest := []) (fun Z => rfl) rfl hw ?_
      rintro o h1 ⟨x87, S88, rfl, rfl, hw⟩
      refine ⟨_, rfl, ?_⟩
      show wp E (d + 1) m_law_law 1165 [some (.ref a0), some (.ref 0), some (.ref 65), some (.ref 91), some (.int (nI a4)), j5, j6] [.int x87] (Hp S88) (QI Q)
      refine wp_st (pc' := 1172) (L' := [some (.ref a0), some (.ref 0), some (.ref 65), some (.ref 91), some (.int (nI a4)), some (.int x87), j6]) (st' := [.int 1, .int (nI a4), .ref a0, .ref 65]) (h' := Hp S88) 5 (fun Z => rfl) ?_
      refine wp_st (pc' := 1173) (L' := [some (.ref a0), some (.ref 0), some (.ref 65), some (.ref 91), some (.int (nI a4)), some (.int x87), j6]) (st' := [.int (nI (a4 + 1)), .ref a0, .ref 65]) (h' := Hp S88) 1 (fun Z => by rw [← nI_add a4 1]; rfl) ?_
      obtain ⟨hi, hw⟩ := hw
      refine wp_st (pc' := 1174) (L' := [some (.ref a0), some (.ref 0), some (.ref 65), some (.ref 91), some (.int (nI a4)), some (.int x87), j6]) (st' := [.int (S88 a0 (a4 + 1)), .ref 65]) (h' := Hp S88) 1 (fun Z => ldN (E := E) ha0 na0lt hi [.ref 65] (fun st => Z (d + 1) m_law_law 1174 [some (.ref a0), some (.ref 0), some (.ref 65), some (.ref 91), some (.int (nI a4)), some (.int x87), j6] st (Hp S88))) ?_
      refine wp_st (pc' := 1178) (L' := [some (.ref a0), some (.ref 0), some (.ref 65), some (.ref 91), some (.int (nI a4)), some (.int x87), j6]) (st' := [.int 2, .int (nI a4), .ref a0, .int (S88 a0 (a4 + 1)), .ref 65]) (h' := Hp S88) 3 (fun Z => rfl) ?_
      refine wp_st (pc' := 1179) (L' := [some (.ref a0), some (.ref 0), some (.ref 65), some (.ref 91), some (.int (nI a4)), some (.int x87), j6]) (st' := [.int (nI (a4 + 2)), .ref a0, .int (S88 a0 (a4 + 1)), .ref 65]) (h' := Hp S88) 1 (fun Z => by rw [← nI_add a4 2]; rfl) ?_
      obtain ⟨hi, hw⟩ := hw
      refine wp_st (pc' := 1180) (L' := [some (.ref a0), some (.ref 0), some (.ref 65), some (.ref 91), some (.int (nI a4)), some (.int x87), j6]) (st' := [.int (S88 a0 (a4 + 2)), .int (S88 a0 (a4 + 1)), .ref 65]) (h' := Hp S88) 1 (fun Z => ldN (E := E) ha0 na0lt hi [.int (S88 a0 (a4 + 1)), .ref 65] (fun st => Z (d + 1) m_law_law 1180 [some (.ref a0), some (.ref 0), some (.ref 65), some (.ref 91), some (.int (nI a4)), some (.int x87), j6] st (Hp S88))) ?_
      refine wp_call (pc' := 1183) (rest := []) (fun Z => rfl) (isO_of sh65) hw ?_
      rintro o h1 ⟨x89, S90, rfl, rfl, hw⟩
      refine ⟨_, rfl, ?_⟩
      show wp E (d + 1) m_law_law 1183 [some (.ref a0), some (.ref 0), some (.ref 65), some (.ref 91), some (.int (nI a4)), some (.int x87), j6] [.int x89] (Hp S90) (QI Q)
      refine wp_st (pc' := 1186) (L' := [some (.ref a0), some (.ref 0), some (.ref 65), some (.ref 91), some (.int (nI a4)), some (.int x87), some (.int x89)]) (st' := [.ref 65]) (h' := Hp S90) 2 (fun Z => rfl) ?_
      refine wp_call (pc' := 1189) (rest := []) (fun Z => rfl) (isO_of sh65) hw ?_
      rintro o h1 ⟨x91, S92, rfl, rfl, hw⟩
      refine ⟨_, rfl, ?_⟩
      show wp E (d + 1) m_law_law 1189 [some (.ref a0), some (.ref 0), some (.ref 65), some (.ref 91), some (.int (nI a4)), some (.int x87), some (.int x89)] [.int x91] (Hp S92) (QI Q)
      refine wp_st (pc' := 1191) (L' := [some (.ref a0), some (.ref 0), some (.ref 65), some (.ref 91), some (.int (nI a4)), some (.int x87), some (.int x89)]) (st' := [.int x87, .int x91]) (h' := Hp S92) 1 (fun Z => rfl) ?_
      by_cases hc : x91 = x87
      · rw [if_pos hc] at hw
        refine wp_st (pc' := 1196) (L' := [some (.ref a0), some (.ref 0), some (.ref 65), some (.ref 91), some (.int (nI a4)), some (.int x87), some (.int x89)]) (st' := []) (h' := Hp S92) 1 (fun Z => if_pos hc) ?_
        refine wp_st (pc' := 1198) (L' := [some (.ref a0), some (.ref 0), some (.ref 65), some (.ref 91), some (.int (nI a4)), some (.int x87), some (.int x89)]) (st' := [.int x87]) (h' := Hp S92) 1 (fun Z => rfl) ?_
        by_cases hc : x87 = 0
        · rw [if_pos hc] at hw
          refine wp_st (pc' := 1201) (L' := [some (.ref a0), some (.ref 0), some (.ref 65), some (.ref 91), some (.int (nI a4)), some (.int x87), some (.int x89)]) (st' := []) (h' := Hp S92) 1 (fun Z => if_pos hc) ?_
          refine wp_st (pc' := 1203) (L' := [some (.ref a0), some (.ref 0), some (.ref 65), some (.ref 91), some (.int (nI a4)), some (.int x87), some (.int x89)]) (st' := [.int 0, .ref 91]) (h' := Hp S92) 2 (fun Z => rfl) ?_
          refine wp_st (pc' := 1204) (L' := [some (.ref a0), some (.ref 0), some (.ref 65), some (.ref 91), some (.int (nI a4)), some (.int x87), some (.int x89)]) (st' := [.long (catL (S92 91 0) (S92 91 1))]) (h' := Hp S92) 1 (fun Z => ldJ0 (E := E) sh91 (by decide) [] (fun st => Z (d + 1) m_law_law 1204 [some (.ref a0), some (.ref 0), some (.ref 65), some (.ref 91), some (.int (nI a4)), some (.int x87), some (.int x89)] st (Hp S92))) ?_
          refine wp_st (pc' := 1208) (L' := [some (.ref a0), some (.ref 0), some (.ref 65), some (.ref 91), some (.int (nI a4)), some (.int x87), some (.int x89)]) (st' := [.int (lg_cmp (catL (S92 91 0) (S92 91 1)) (Int32.toInt64 x89))]) (h' := Hp S92) 3 (fun Z => rfl) ?_
          by_cases hc : (lg_cmp (catL (S92 91 0) (S92 91 1)) (Int32.toInt64 x89)) = 0
          · rw [if_pos hc] at hw
            refine wp_st (pc' := 1213) (L' := [some (.ref a0), some (.ref 0), some (.ref 65), some (.ref 91), some (.int (nI a4)), some (.int x87), some (.int x89)]) (st' := []) (h' := Hp S92) 1 (fun Z => if_pos hc) ?_
            refine wp_st (pc' := 2231) (L' := [some (.ref a0), some (.ref 0), some (.ref 65), some (.ref 91), some (.int (nI a4)), some (.int x87), some (.int x89)]) (st' := []) (h' := Hp S92) 1 (fun Z => rfl) ?_
            refine wp_st (pc' := 2234) (L' := [some (.ref a0), some (.ref 0), some (.ref 65), some (.ref 91), some (.int (nI (a4 + 6))), some (.int x87), some (.int x89)]) (st' := []) (h' := Hp S92) 1 (fun Z => by rw [← nI_add a4 6]; rfl) ?_
            exact wp_st 1 (fun Z => rfl) (show wp E (d + 1) m_law_law 23 [some (.ref a0), some (.ref 0), some (.ref 65), some (.ref 91), some (.int (nI (a4 + 6))), some (.int x87), some (.int x89)] [] (Hp S92) (QI Q) from (hw (some (.int x87)) (some (.int x89))))
          · rw [if_neg hc] at hw
            refine wp_st (pc' := 1211) (L' := [some (.ref a0), some (.ref 0), some (.ref 65), some (.ref 91), some (.int (nI a4)), some (.int x87), some (.int x89)]) (st' := []) (h' := Hp S92) 1 (fun Z => if_neg hc) ?_
            refine wp_st (pc' := 1212) (L' := [some (.ref a0), some (.ref 0), some (.ref 65), some (.ref 91), some (.int (nI a4)), some (.int x87), some (.int x89)]) (st' := [.int 0]) (h' := Hp S92) 1 (fun Z => rfl) ?_
            exact wp_ret (fun Z => rfl) ⟨_, _, rfl, rfl, hw⟩
        · rw [if_neg hc] at hw
          refine wp_st (pc' := 1213) (L' := [some (.ref a0), some (.ref 0), some (.ref 65), some (.ref 91), some (.int (nI a4)), some (.int x87), some (.int x89)]) (st' := []) (h' := Hp S92) 1 (fun Z => if_neg hc) ?_
          refine wp_st (pc' := 2231) (L' := [some (.ref a0), some (.ref 0), some (.ref 65), some (.ref 91), some (.int (nI a4)), some (.int x87), some (.int x89)]) (st' := []) (h' := Hp S92) 1 (fun Z => rfl) ?_
          refine wp_st (pc' := 2234) (L' := [some (.ref a0), some (.ref 0), some (.ref 65), some (.ref 91), some (.int (nI (a4 + 6))), some (.int x87), some (.int x89)]) (st' := []) (h' := Hp S92) 1 (fun Z => by rw [← nI_add a4 6]; rfl) ?_
          exact wp_st 1 (fun Z => rfl) (show wp E (d + 1) m_law_law 23 [some (.ref a0), some (.ref 0), some (.ref 65), some (.ref 91), some (.int (nI (a4 + 6))), some (.int x87), some (.int x89)] [] (Hp S92) (QI Q) from (hw (some (.int x87)) (some (.int x89))))
      · rw [if_neg hc] at hw
        refine wp_st (pc' := 1194) (L' := [some (.ref a0), some (.ref 0), some (.ref 65), some (.ref 91), some (.int (nI a4)), some (.int x87), some (.int x89)]) (st' := []) (h' := Hp S92) 1 (fun Z => if_neg hc) ?_
        refine wp_st (pc' := 1195) (L' := [some (.ref a0), some (.ref 0), some (.ref 65), some (.ref 91), some (.int (nI a4)), some (.int x87), some (.int x89)]) (st' := [.int 0]) (h' := Hp S92) 1 (fun Z => rfl) ?_
        exact wp_ret (fun Z => rfl) ⟨_, _, rfl, rfl, hw⟩
    rw [if_neg c17] at hw
    by_cases c18 : ((S a0 a4) &&& (63 : Int32)) = 18
    · rw [if_pos c18] at hw
      refine wp_st (pc' := 1216) (L' := [some (.ref a0), some (.ref 0), some (.ref 65), some (.ref 91), some (.int (nI a4)), j5, j6]) (st' := []) (h' := Hp S) 1 (fun Z => (show zsw (.tableswitch 2191 0 34 #[156, 229, 285, 298, 354, 422, 490, 515, 571, 639, 730, 798, 811, 891, 971, 1027, 1040, 1108, 1176, 1244, 1324, 1380, 1436, 1532, 1543, 1599, 1655, 1735, 1815, 1895, 1963, 2031, 2099, 2167, 2178]) 40 (.int ((S a0 a4) &&& (63 : Int32)) :: []) (fun t st1 => Z (d + 1) m_law_law t [some (.ref a0), some (.ref 0), some (.ref 65), some (.ref 91), some (.int (nI a4)), j5, j6] st1 (Hp S)) = _ from zsw_at (c := 18) (by rw [c18]; decide) (by decide) rfl rfl)) ?_
      refine wp_st (pc' := 1221) (L' := [some (.ref a0), some (.ref 0), some (.ref 65), some (.ref 91), some (.int (nI a4)), j5, j6]) (st' := [.int 1, .int (nI a4), .ref a0, .ref 0]) (h' := Hp S) 4 (fun Z => rfl) ?_
      refine wp_st (pc' := 1222) (L' := [some (.ref a0), some (.ref 0), some (.ref 65), some (.ref 91), some (.int (nI a4)), j5, j6]) (st' := [.int (nI (a4 + 1)), .ref a0, .ref 0]) (h' := Hp S) 1 (fun Z => by rw [← nI_add a4 1]; rfl) ?_
      obtain ⟨hi, hw⟩ := hw
      refine wp_st (pc' := 1223) (L' := [some (.ref a0), some (.ref 0), some (.ref 65), some (.ref 91), some (.int (nI a4)), j5, j6]) (st' := [.int (S a0 (a4 + 1)), .ref 0]) (h' := Hp S) 1 (fun Z => ldN (E := E) ha0 na0lt hi [.ref 0] (fun st => Z (d + 1) m_law_law 1223 [some (.ref a0), some (.ref 0), some (.ref 65), some (.ref 91), some (.int (nI a4)), j5, j6] st (Hp S))) ?_
      refine wp_st (pc' := 1227) (L' := [some (.ref a0), some (.ref 0), some (.ref 65), some (.ref 91), some (.int (nI a4)), j5, j6]) (st' := [.int 2, .int (nI a4), .ref a0, .int (S a0 (a4 + 1)), .ref 0]) (h' := Hp S) 3 (fun Z => rfl) ?_
      refine wp_st (pc' := 1228) (L' := [some (.ref a0), some (.ref 0), some (.ref 65), some (.ref 91), some (.int (nI a4)), j5, j6]) (st' := [.int (nI (a4 + 2)), .ref a0, .int (S a0 (a4 + 1)), .ref 0]) (h' := Hp S) 1 (fun Z => by rw [← nI_add a4 2]; rfl) ?_
      obtain ⟨hi, hw⟩ := hw
      refine wp_st (pc' := 1229) (L' := [some (.ref a0), some (.ref 0), some (.ref 65), some (.ref 91), some (.int (nI a4)), j5, j6]) (st' := [.int (S a0 (a4 + 2)), .int (S a0 (a4 + 1)), .ref 0]) (h' := Hp S) 1 (fun Z => ldN (E := E) ha0 na0lt hi [.int (S a0 (a4 + 1)), .ref 0] (fun st => Z (d + 1) m_law_law 1229 [some (.ref a0), some (.ref 0), some (.ref 65), some (.ref 91), some (.int (nI a4)), j5, j6] st (Hp S))) ?_
      refine wp_st (pc' := 1230) (L' := [some (.ref a0), some (.ref 0), some (.ref 65), some (.ref 91), some (.int (nI a4)), j5, j6]) (st' := [.ref 91, .int (S a0 (a4 + 2)), .int (S a0 (a4 + 1)), .ref 0]) (h' := Hp S) 1 (fun Z => rfl) ?_
      refine wp_call (pc' := 1233) (rest := []) (fun Z => rfl) rfl hw ?_
      rintro o h1 ⟨x93, S94, rfl, rfl, hw⟩
      refine ⟨_, rfl, ?_⟩
      show wp E (d + 1) m_law_law 1233 [some (.ref a0), some (.ref 0), some (.ref 65), some (.ref 91), some (.int (nI a4)), j5, j6] [.int x93] (Hp S94) (QI Q)
      refine wp_st (pc' := 1240) (L' := [some (.ref a0), some (.ref 0), some (.ref 65), some (.ref 91), some (.int (nI a4)), some (.int x93), j6]) (st' := [.int 1, .int (nI a4), .ref a0, .ref 65]) (h' := Hp S94) 5 (fun Z => rfl) ?_
      refine wp_st (pc' := 1241) (L' := [some (.ref a0), some (.ref 0), some (.ref 65), some (.ref 91), some (.int (nI a4)), some (.int x93), j6]) (st' := [.int (nI (a4 + 1)), .ref a0, .ref 65]) (h' := Hp S94) 1 (fun Z => by rw [← nI_add a4 1]; rfl) ?_
      obtain ⟨hi, hw⟩ := hw
      refine wp_st (pc' := 1242) (L' := [some (.ref a0), some (.ref 0), some (.ref 65), some (.ref 91), some (.int (nI a4)), some (.int x93), j6]) (st' := [.int (S94 a0 (a4 + 1)), .ref 65]) (h' := Hp S94) 1 (fun Z => ldN (E := E) ha0 na0lt hi [.ref 65] (fun st => Z (d + 1) m_law_law 1242 [some (.ref a0), some (.ref 0), some (.ref 65), some (.ref 91), some (.int (nI a4)), some (.int x93), j6] st (Hp S94))) ?_
      refine wp_st (pc' := 1246) (L' := [some (.ref a0), some (.ref 0), some (.ref 65), some (.ref 91), some (.int (nI a4)), some (.int x93), j6]) (st' := [.int 2, .int (nI a4), .ref a0, .int (S94 a0 (a4 + 1)), .ref 65]) (h' := Hp S94) 3 (fun Z => rfl) ?_
      refine wp_st (pc' := 1247) (L' := [some (.ref a0), some (.ref 0), some (.ref 65), some (.ref 91), some (.int (nI a4)), some (.int x93), j6]) (st' := [.int (nI (a4 + 2)), .ref a0, .int (S94 a0 (a4 + 1)), .ref 65]) (h' := Hp S94) 1 (fun Z => by rw [← nI_add a4 2]; rfl) ?_
      obtain ⟨hi, hw⟩ := hw
      refine wp_st (pc' := 1248) (L' := [some (.ref a0), some (.ref 0), some (.ref 65), some (.ref 91), some (.int (nI a4)), some (.int x93), j6]) (st' := [.int (S94 a0 (a4 + 2)), .int (S94 a0 (a4 + 1)), .ref 65]) (h' := Hp S94) 1 (fun Z => ldN (E := E) ha0 na0lt hi [.int (S94 a0 (a4 + 1)), .ref 65] (fun st => Z (d + 1) m_law_law 1248 [some (.ref a0), some (.ref 0), some (.ref 65), some (.ref 91), some (.int (nI a4)), some (.int x93), j6] st (Hp S94))) ?_
      refine wp_call (pc' := 1251) (rest := []) (fun Z => rfl) (isO_of sh65) hw ?_
      rintro o h1 ⟨x95, S96, rfl, rfl, hw⟩
      refine ⟨_, rfl, ?_⟩
      show wp E (d + 1) m_law_law 1251 [some (.ref a0), some (.ref 0), some (.ref 65), some (.ref 91), some (.int (nI a4)), some (.int x93), j6] [.int x95] (Hp S96) (QI Q)
      refine wp_st (pc' := 1254) (L' := [some (.ref a0), some (.ref 0), some (.ref 65), some (.ref 91), some (.int (nI a4)), some (.int x93), some (.int x95)]) (st' := [.ref 65]) (h' := Hp S96) 2 (fun Z => rfl) ?_
      refine wp_call (pc' := 1257) (rest := []) (fun Z => rfl) (isO_of sh65) hw ?_
      rintro o h1 ⟨x97, S98, rfl, rfl, hw⟩
      refine ⟨_, rfl, ?_⟩
      show wp E (d + 1) m_law_law 1257 [some (.ref a0), some (.ref 0), some (.ref 65), some (.ref 91), some (.int (nI a4)), some (.int x93), some (.int x95)] [.int x97] (Hp S98) (QI Q)
      refine wp_st (pc' := 1259) (L' := [some (.ref a0), some (.ref 0), some (.ref 65), some (.ref 91), some (.int (nI a4)), some (.int x93), some (.int x95)]) (st' := [.int x93, .int x97]) (h' := Hp S98) 1 (fun Z => rfl) ?_
      by_cases hc : x97 = x93
      · rw [if_pos hc] at hw
        refine wp_st (pc' := 1264) (L' := [some (.ref a0), some (.ref 0), some (.ref 65), some (.ref 91), some (.int (nI a4)), some (.int x93), some (.int x95)]) (st' := []) (h' := Hp S98) 1 (fun Z => if_pos hc) ?_
        refine wp_st (pc' := 1266) (L' := [some (.ref a0), some (.ref 0), some (.ref 65), some (.ref 91), some (.int (nI a4)), some (.int x93), some (.int x95)]) (st' := [.int x93]) (h' := Hp S98) 1 (fun Z => rfl) ?_
        by_cases hc : x93 = 0
        · rw [if_pos hc] at hw
          refine wp_st (pc' := 1269) (L' := [some (.ref a0), some (.ref 0), some (.ref 65), some (.ref 91), some (.int (nI a4)), some (.int x93), some (.int x95)]) (st' := []) (h' := Hp S98) 1 (fun Z => if_pos hc) ?_
          refine wp_st (pc' := 1271) (L' := [some (.ref a0), some (.ref 0), some (.ref 65), some (.ref 91), some (.int (nI a4)), some (.int x93), some (.int x95)]) (st' := [.int 0, .ref 91]) (h' := Hp S98) 2 (fun Z => rfl) ?_
          refine wp_st (pc' := 1272) (L' := [some (.ref a0), some (.ref 0), some (.ref 65), some (.ref 91), some (.int (nI a4)), some (.int x93), some (.int x95)]) (st' := [.long (catL (S98 91 0) (S98 91 1))]) (h' := Hp S98) 1 (fun Z => ldJ0 (E := E) sh91 (by decide) [] (fun st => Z (d + 1) m_law_law 1272 [some (.ref a0), some (.ref 0), some (.ref 65), some (.ref 91), some (.int (nI a4)), some (.int x93), some (.int x95)] st (Hp S98))) ?_
          refine wp_st (pc' := 1276) (L' := [some (.ref a0), some (.ref 0), some (.ref 65), some (.ref 91), some (.int (nI a4)), some (.int x93), some (.int x95)]) (st' := [.int (lg_cmp (catL (S98 91 0) (S98 91 1)) (Int32.toInt64 x95))]) (h' := Hp S98) 3 (fun Z => rfl) ?_
          by_cases hc : (lg_cmp (catL (S98 91 0) (S98 91 1)) (Int32.toInt64 x95)) = 0
          · rw [if_pos hc] at hw
            refine wp_st (pc' := 1281) (L' := [some (.ref a0), some (.ref 0), some (.ref 65), some (.ref 91), some (.int (nI a4)), some (.int x93), some (.int x95)]) (st' := []) (h' := Hp S98) 1 (fun Z => if_pos hc) ?_
            refine wp_st (pc' := 2231) (L' := [some (.ref a0), some (.ref 0), some (.ref 65), some (.ref 91), some (.int (nI a4)), some (.int x93), some (.int x95)]) (st' := []) (h' := Hp S98) 1 (fun Z => rfl) ?_
            refine wp_st (pc' := 2234) (L' := [some (.ref a0), some (.ref 0), some (.ref 65), some (.ref 91), some (.int (nI (a4 + 6))), some (.int x93), some (.int x95)]) (st' := []) (h' := Hp S98) 1 (fun Z => by rw [← nI_add a4 6]; rfl) ?_
            exact wp_st 1 (fun Z => rfl) (show wp E (d + 1) m_law_law 23 [some (.ref a0), some (.ref 0), some (.ref 65), some (.ref 91), some (.int (nI (a4 + 6))), some (.int x93), some (.int x95)] [] (Hp S98) (QI Q) from (hw (some (.int x93)) (some (.int x95))))
          · rw [if_neg hc] at hw
            refine wp_st (pc' := 1279) (L' := [some (.ref a0), some (.ref 0), some (.ref 65), some (.ref 91), some (.int (nI a4)), some (.int x93), some (.int x95)]) (st' := []) (h' := Hp S98) 1 (fun Z => if_neg hc) ?_
            refine wp_st (pc' := 1280) (L' := [some (.ref a0), some (.ref 0), some (.ref 65), some (.ref 91), some (.int (nI a4)), some (.int x93), some (.int x95)]) (st' := [.int 0]) (h' := Hp S98) 1 (fun Z => rfl) ?_
            exact wp_ret (fun Z => rfl) ⟨_, _, rfl, rfl, hw⟩
        · rw [if_neg hc] at hw
          refine wp_st (pc' := 1281) (L' := [some (.ref a0), some (.ref 0), some (.ref 65), some (.ref 91), some (.int (nI a4)), some (.int x93), some (.int x95)]) (st' := []) (h' := Hp S98) 1 (fun Z => if_neg hc) ?_
          refine wp_st (pc' := 2231) (L' := [some (.ref a0), some (.ref 0), some (.ref 65), some (.ref 91), some (.int (nI a4)), some (.int x93), some (.int x95)]) (st' := []) (h' := Hp S98) 1 (fun Z => rfl) ?_
          refine wp_st (pc' := 2234) (L' := [some (.ref a0), some (.ref 0), some (.ref 65), some (.ref 91), some (.int (nI (a4 + 6))), some (.int x93), some (.int x95)]) (st' := []) (h' := Hp S98) 1 (fun Z => by rw [← nI_add a4 6]; rfl) ?_
          exact wp_st 1 (fun Z => rfl) (show wp E (d + 1) m_law_law 23 [some (.ref a0), some (.ref 0), some (.ref 65), some (.ref 91), some (.int (nI (a4 + 6))), some (.int x93), some (.int x95)] [] (Hp S98) (QI Q) from (hw (some (.int x93)) (some (.int x95))))
      · rw [if_neg hc] at hw
        refine wp_st (pc' := 1262) (L' := [some (.ref a0), some (.ref 0), some (.ref 65), some (.ref 91), some (.int (nI a4)), some (.int x93), some (.int x95)]) (st' := []) (h' := Hp S98) 1 (fun Z => if_neg hc) ?_
        refine wp_st (pc' := 1263) (L' := [some (.ref a0), some (.ref 0), some (.ref 65), some (.ref 91), some (.int (nI a4)), some (.int x93), some (.int x95)]) (st' := [.int 0]) (h' := Hp S98) 1 (fun Z => rfl) ?_
        exact wp_ret (fun Z => rfl) ⟨_, _, rfl, rfl, hw⟩
    rw [if_neg c18] at hw
    by_cases c19 : ((S a0 a4) &&& (63 : Int32)) = 19
    · rw [if_pos c19] at hw
      refine wp_st (pc' := 1284) (L' := [some (.ref a0), some (.ref 0), some (.ref 65), some (.ref 91), some (.int (nI a4)), j5, j6]) (st' := []) (h' := Hp S) 1 (fun Z => (show zsw (.tableswitch 2191 0 34 #[156, 229, 285, 298, 354, 422, 490, 515, 571, 639, 730, 798, 811, 891, 971, 1027, 1040, 1108, 1176, 1244, 1324, 1380, 1436, 1532, 1543, 1599, 1655, 1735, 1815, 1895, 1963, 2031, 2099, 2167, 2178]) 40 (.int ((S a0 a4) &&& (63 : Int32)) :: []) (fun t st1 => Z (d + 1) m_law_law t [some (.ref a0), some (.ref 0), some (.ref 65), some (.ref 91), some (.int (nI a4)), j5, j6] st1 (Hp S)) = _ from zsw_at (c := 19) (by rw [c19]; decide) (by decide) rfl rfl)) ?_
      refine wp_st (pc' := 1289) (L' := [some (.ref a0), some (.ref 0), some (.ref 65), some (.ref 91), some (.int (nI a4)), j5, j6]) (st' := [.int 1, .int (nI a4), .ref a0, .ref 0]) (h' := Hp S) 4 (fun Z => rfl) ?_
      refine wp_st (pc' := 1290) (L' := [some (.ref a0), some (.ref 0), some (.ref 65), some (.ref 91), some (.int (nI a4)), j5, j6]) (st' := [.int (nI (a4 + 1)), .ref a0, .ref 0]) (h' := Hp S) 1 (fun Z => by rw [← nI_add a4 1]; rfl) ?_
      obtain ⟨hi, hw⟩ := hw
      refine wp_st (pc' := 1291) (L' := [some (.ref a0), some (.ref 0), some (.ref 65), some (.ref 91), some (.int (nI a4)), j5, j6]) (st' := [.int (S a0 (a4 + 1)), .ref 0]) (h' := Hp S) 1 (fun Z => ldN (E := E) ha0 na0lt hi [.ref 0] (fun st => Z (d + 1) m_law_law 1291 [some (.ref a0), some (.ref 0), some (.ref 65), some (.ref 91), some (.int (nI a4)), j5, j6] st (Hp S))) ?_
      refine wp_st (pc' := 1295) (L' := [some (.ref a0), some (.ref 0), some (.ref 65), some (.ref 91), some (.int (nI a4)), j5, j6]) (st' := [.int 2, .int (nI a4), .ref a0, .int (S a0 (a4 + 1)), .ref 0]) (h' := Hp S) 3 (fun Z => rfl) ?_
      refine wp_st (pc' := 1296) (L' := [some (.ref a0), some (.ref 0), some (.ref 65), some (.ref 91), some (.int (nI a4)), j5, j6]) (st' := [.int (nI (a4 + 2)), .ref a0, .int (S a0 (a4 + 1)), .ref 0]) (h' := Hp S) 1 (fun Z => by rw [← nI_add a4 2]; rfl) ?_
      obtain ⟨hi, hw⟩ := hw
      refine wp_st (pc' := 1297) (L' := [some (.ref a0), some (.ref 0), some (.ref 65), some (.ref 91), some (.int (nI a4)), j5, j6]) (st' := [.int (S a0 (a4 + 2)), .int (S a0 (a4 + 1)), .ref 0]) (h' := Hp S) 1 (fun Z => ldN (E := E) ha0 na0lt hi [.int (S a0 (a4 + 1)), .ref 0] (fun st => Z (d + 1) m_law_law 1297 [some (.ref a0), some (.ref 0), some (.ref 65), some (.ref 91), some (.int (nI a4)), j5, j6] st (Hp S))) ?_
      refine wp_st (pc' := 1301) (L' := [some (.ref a0), some (.ref 0), some (.ref 65), some (.ref 91), some (.int (nI a4)), j5, j6]) (st' := [.int 3, .int (nI a4), .ref a0, .int (S a0 (a4 + 2)), .int (S a0 (a4 + 1)), .ref 0]) (h' := Hp S) 3 (fun Z => rfl) ?_
      refine wp_st (pc' := 1302) (L' := [some (.ref a0), some (.ref 0), some (.ref 65), some (.ref 91), some (.int (nI a4)), j5, j6]) (st' := [.int (nI (a4 + 3)), .ref a0, .int (S a0 (a4 + 2)), .int (S a0 (a4 + 1)), .ref 0]) (h' := Hp S) 1 (fun Z => by rw [← nI_add a4 3]; rfl) ?_
      obtain ⟨hi, hw⟩ := hw
      refine wp_st (pc' := 1303) (L' := [some (.ref a0), some (.ref 0), some (.ref 65), some (.ref 91), some (.int (nI a4)), j5, j6]) (st' := [.int (S a0 (a4 + 3)), .int (S a0 (a4 + 2)), .int (S a0 (a4 + 1)), .ref 0]) (h' := Hp S) 1 (fun Z => ldN (E := E) ha0 na0lt hi [.int (S a0 (a4 + 2)), .int (S a0 (a4 + 1)), .ref 0] (fun st => Z (d + 1) m_law_law 1303 [some (.ref a0), some (.ref 0), some (.ref 65), some (.ref 91), some (.int (nI a4)), j5, j6] st (Hp S))) ?_
      refine wp_st (pc' := 1304) (L' := [some (.ref a0), some (.ref 0), some (.ref 65), some (.ref 91), some (.int (nI a4)), j5, j6]) (st' := [.ref 91, .int (S a0 (a4 + 3)), .int (S a0 (a4 + 2)), .int (S a0 (a4 + 1)), .ref 0]) (h' := Hp S) 1 (fun Z => rfl) ?_
      refine wp_call (pc' := 1307) (rest := []) (fun Z => rfl) rfl hw ?_
      rintro o h1 ⟨x99, S100, rfl, rfl, hw⟩
      refine ⟨_, rfl, ?_⟩
      show wp E (d + 1) m_law_law 1307 [some (.ref a0), some (.ref 0), some (.ref 65), some (.ref 91), some (.int (nI a4)), j5, j6] [.int x99] (Hp S100) (QI Q)
      refine wp_st (pc' := 1314) (L' := [some (.ref a0), some (.ref 0), some (.ref 65), some (.ref 91), some (.int (nI a4)), some (.int x99), j6]) (st' := [.int 1, .int (nI a4), .ref a0, .ref 65]) (h' := Hp S100) 5 (fun Z => rfl) ?_
      refine wp_st (pc' := 1315) (L' := [some (.ref a0), some (.ref 0), some (.ref 65), some (.ref 91), some (.int (nI a4)), some (.int x99), j6]) (st' := [.int (nI (a4 + 1)), .ref a0, .ref 65]) (h' := Hp S100) 1 (fun Z => by rw [← nI_add a4 1]; rfl) ?_
      obtain ⟨hi, hw⟩ := hw
      refine wp_st (pc' := 1316) (L' := [some (.ref a0), some (.ref 0), some (.ref 65), some (.ref 91), some (.int (nI a4)), some (.int x99), j6]) (st' := [.int (S100 a0 (a4 + 1)), .ref 65]) (h' := Hp S100) 1 (fun Z => ldN (E := E) ha0 na0lt hi [.ref 65] (fun st => Z (d + 1) m_law_law 1316 [some (.ref a0), some (.ref 0), some (.ref 65), some (.ref 91), some (.int (nI a4)), some (.int x99), j6] st (Hp S100))) ?_
      refine wp_st (pc' := 1320) (L' := [some (.ref a0), some (.ref 0), some (.ref 65), some (.ref 91), some (.int (nI a4)), some (.int x99), j6]) (st' := [.int 2, .int (nI a4), .ref a0, .int (S100 a0 (a4 + 1)), .ref 65]) (h' := Hp S100) 3 (fun Z => rfl) ?_
      refine wp_st (pc' := 1321) (L' := [some (.ref a0), some (.ref 0), some (.ref 65), some (.ref 91), some (.int (nI a4)), some (.int x99), j6]) (st' := [.int (nI (a4 + 2)), .ref a0, .int (S100 a0 (a4 + 1)), .ref 65]) (h' := Hp S100) 1 (fun Z => by rw [← nI_add a4 2]; rfl) ?_
      obtain ⟨hi, hw⟩ := hw
      refine wp_st (pc' := 1322) (L' := [some (.ref a0), some (.ref 0), some (.ref 65), some (.ref 91), some (.int (nI a4)), some (.int x99), j6]) (st' := [.int (S100 a0 (a4 + 2)), .int (S100 a0 (a4 + 1)), .ref 65]) (h' := Hp S100) 1 (fun Z => ldN (E := E) ha0 na0lt hi [.int (S100 a0 (a4 + 1)), .ref 65] (fun st => Z (d + 1) m_law_law 1322 [some (.ref a0), some (.ref 0), some (.ref 65), some (.ref 91), some (.int (nI a4)), some (.int x99), j6] st (Hp S100))) ?_
      refine wp_st (pc' := 1326) (L' := [some (.ref a0), some (.ref 0), some (.ref 65), some (.ref 91), some (.int (nI a4)), some (.int x99), j6]) (st' := [.int 3, .int (nI a4), .ref a0, .int (S100 a0 (a4 + 2)), .int (S100 a0 (a4 + 1)), .ref 65]) (h' := Hp S100) 3 (fun Z => rfl) ?_
      refine wp_st (pc' := 1327) (L' := [some (.ref a0), some (.ref 0), some (.ref 65), some (.ref 91), some (.int (nI a4)), some (.int x99), j6]) (st' := [.int (nI (a4 + 3)), .ref a0, .int (S100 a0 (a4 + 2)), .int (S100 a0 (a4 + 1)), .ref 65]) (h' := Hp S100) 1 (fun Z => by rw [← nI_add a4 3]; rfl) ?_
      obtain ⟨hi, hw⟩ := hw
      refine wp_st (pc' := 1328) (L' := [some (.ref a0), some (.ref 0), some (.ref 65), some (.ref 91), some (.int (nI a4)), some (.int x99), j6]) (st' := [.int (S100 a0 (a4 + 3)), .int (S100 a0 (a4 + 2)), .int (S100 a0 (a4 + 1)), .ref 65]) (h' := Hp S100) 1 (fun Z => ldN (E := E) ha0 na0lt hi [.int (S100 a0 (a4 + 2)), .int (S100 a0 (a4 + 1)), .ref 65] (fun st => Z (d + 1) m_law_law 1328 [some (.ref a0), some (.ref 0), some (.ref 65), some (.ref 91), some (.int (nI a4)), some (.int x99), j6] st (Hp S100))) ?_
      refine wp_call (pc' := 1331) (rest := []) (fun Z => rfl) (isO_of sh65) hw ?_
      rintro o h1 ⟨x101, S102, rfl, rfl, hw⟩
      refine ⟨_, rfl, ?_⟩
      show wp E (d + 1) m_law_law 1331 [some (.ref a0), some (.ref 0), some (.ref 65), some (.ref 91), some (.int (nI a4)), some (.int x99), j6] [.int x101] (Hp S102) (QI Q)
      refine wp_st (pc' := 1334) (L' := [some (.ref a0), some (.ref 0), some (.ref 65), some (.ref 91), some (.int (nI a4)), some (.int x99), some (.int x101)]) (st' := [.ref 65]) (h' := Hp S102) 2 (fun Z => rfl) ?_
      refine wp_call (pc' := 1337) (rest := []) (fun Z => rfl) (isO_of sh65) hw ?_
      rintro o h1 ⟨x103, S104, rfl, rfl, hw⟩
      refine ⟨_, rfl, ?_⟩
      show wp E (d + 1) m_law_law 1337 [some (.ref a0), some (.ref 0), some (.ref 65), some (.ref 91), some (.int (nI a4)), some (.int x99), some (.int x101)] [.int x103] (Hp S104) (QI Q)
      refine wp_st (pc' := 1339) (L' := [some (.ref a0), some (.ref 0), some (.ref 65), some (.ref 91), some (.int (nI a4)), some (.int x99), some (.int x101)]) (st' := [.int x99, .int x103]) (h' := Hp S104) 1 (fun Z => rfl) ?_
      by_cases hc : x103 = x99
      · rw [if_pos hc] at hw
        refine wp_st (pc' := 1344) (L' := [some (.ref a0), some (.ref 0), some (.ref 65), some (.ref 91), some (.int (nI a4)), some (.int x99), some (.int x101)]) (st' := []) (h' := Hp S104) 1 (fun Z => if_pos hc) ?_
        refine wp_st (pc' := 1346) (L' := [some (.ref a0), some (.ref 0), some (.ref 65), some (.ref 91), some (.int (nI a4)), some (.int x99), some (.int x101)]) (st' := [.int x99]) (h' := Hp S104) 1 (fun Z => rfl) ?_
        by_cases hc : x99 = 0
        · rw [if_pos hc] at hw
          refine wp_st (pc' := 1349) (L' := [some (.ref a0), some (.ref 0), some (.ref 65), some (.ref 91), some (.int (nI a4)), some (.int x99), some (.int x101)]) (st' := []) (h' := Hp S104) 1 (fun Z => if_pos hc) ?_
          refine wp_st (pc' := 1351) (L' := [some (.ref a0), some (.ref 0), some (.ref 65), some (.ref 91), some (.int (nI a4)), some (.int x99), some (.int x101)]) (st' := [.int 0, .ref 91]) (h' := Hp S104) 2 (fun Z => rfl) ?_
          refine wp_st (pc' := 1352) (L' := [some (.ref a0), some (.ref 0), some (.ref 65), some (.ref 91), some (.int (nI a4)), some (.int x99), some (.int x101)]) (st' := [.long (catL (S104 91 0) (S104 91 1))]) (h' := Hp S104) 1 (fun Z => ldJ0 (E := E) sh91 (by decide) [] (fun st => Z (d + 1) m_law_law 1352 [some (.ref a0), some (.ref 0), some (.ref 65), some (.ref 91), some (.int (nI a4)), some (.int x99), some (.int x101)] st (Hp S104))) ?_
          refine wp_st (pc' := 1356) (L' := [some (.ref a0), some (.ref 0), some (.ref 65), some (.ref 91), some (.int (nI a4)), some (.int x99), some (.int x101)]) (st' := [.int (lg_cmp (catL (S104 91 0) (S104 91 1)) (Int32.toInt64 x101))]) (h' := Hp S104) 3 (fun Z => rfl) ?_
          by_cases hc : (lg_cmp (catL (S104 91 0) (S104 91 1)) (Int32.toInt64 x101)) = 0
          · rw [if_pos hc] at hw
            refine wp_st (pc' := 1361) (L' := [some (.ref a0), some (.ref 0), some (.ref 65), some (.ref 91), some (.int (nI a4)), some (.int x99), some (.int x101)]) (st' := []) (h' := Hp S104) 1 (fun Z => if_pos hc) ?_
            refine wp_st (pc' := 2231) (L' := [some (.ref a0), some (.ref 0), some (.ref 65), some (.ref 91), some (.int (nI a4)), some (.int x99), some (.int x101)]) (st' := []) (h' := Hp S104) 1 (fun Z => rfl) ?_
            refine wp_st (pc' := 2234) (L' := [some (.ref a0), some (.ref 0), some (.ref 65), some (.ref 91), some (.int (nI (a4 + 6))), some (.int x99), some (.int x101)]) (st' := []) (h' := Hp S104) 1 (fun Z => by rw [← nI_add a4 6]; rfl) ?_
            exact wp_st 1 (fun Z => rfl) (show wp E (d + 1) m_law_law 23 [some (.ref a0), some (.ref 0), some (.ref 65), some (.ref 91), some (.int (nI (a4 + 6))), some (.int x99), some (.int x101)] [] (Hp S104) (QI Q) from (hw (some (.int x99)) (some (.int x101))))
          · rw [if_neg hc] at hw
            refine wp_st (pc' := 1359) (L' := [some (.ref a0), some (.ref 0), some (.ref 65), some (.ref 91), some (.int (nI a4)), some (.int x99), some (.int x101)]) (st' := []) (h' := Hp S104) 1 (fun Z => if_neg hc) ?_
            refine wp_st (pc' := 1360) (L' := [some (.ref a0), some (.ref 0), some (.ref 65), some (.ref 91), some (.int (nI a4)), some (.int x99), some (.int x101)]) (st' := [.int 0]) (h' := Hp S104) 1 (fun Z => rfl) ?_
            exact wp_ret (fun Z => rfl) ⟨_, _, rfl, rfl, hw⟩
        · rw [if_neg hc] at hw
          refine wp_st (pc' := 1361) (L' := [some (.ref a0), some (.ref 0), some (.ref 65), some (.ref 91), some (.int (nI a4)), some (.int x99), some (.int x101)]) (st' := []) (h' := Hp S104) 1 (fun Z => if_neg hc) ?_
          refine wp_st (pc' := 2231) (L' := [some (.ref a0), some (.ref 0), some (.ref 65), some (.ref 91), some (.int (nI a4)), some (.int x99), some (.int x101)]) (st' := []) (h' := Hp S104) 1 (fun Z => rfl) ?_
          refine wp_st (pc' := 2234) (L' := [some (.ref a0), some (.ref 0), some (.ref 65), some (.ref 91), some (.int (nI (a4 + 6))), some (.int x99), some (.int x101)]) (st' := []) (h' := Hp S104) 1 (fun Z => by rw [← nI_add a4 6]; rfl) ?_
          exact wp_st 1 (fun Z => rfl) (show wp E (d + 1) m_law_law 23 [some (.ref a0), some (.ref 0), some (.ref 65), some (.ref 91), some (.int (nI (a4 + 6))), some (.int x99), some (.int x101)] [] (Hp S104) (QI Q) from (hw (some (.int x99)) (some (.int x101))))
      · rw [if_neg hc] at hw
        refine wp_st (pc' := 1342) (L' := [some (.ref a0), some (.ref 0), some (.ref 65), some (.ref 91), some (.int (nI a4)), some (.int x99), some (.int x101)]) (st' := []) (h' := Hp S104) 1 (fun Z => if_neg hc) ?_
        refine wp_st (pc' := 1343) (L' := [some (.ref a0), some (.ref 0), some (.ref 65), some (.ref 91), some (.int (nI a4)), some (.int x99), some (.int x101)]) (st' := [.int 0]) (h' := Hp S104) 1 (fun Z => rfl) ?_
        exact wp_ret (fun Z => rfl) ⟨_, _, rfl, rfl, hw⟩
    rw [if_neg c19] at hw
    by_cases c20 : ((S a0 a4) &&& (63 : Int32)) = 20
    · rw [if_pos c20] at hw
      refine wp_st (pc' := 1364) (L' := [some (.ref a0), some (.ref 0), some (.ref 65), some (.ref 91), some (.int (nI a4)), j5, j6]) (st' := []) (h' := Hp S) 1 (fun Z => (show zsw (.tableswitch 2191 0 34 #[156, 229, 285, 298, 354, 422, 490, 515, 571, 639, 730, 798, 811, 891, 971, 1027, 1040, 1108, 1176, 1244, 1324, 1380, 1436, 1532, 1543, 1599, 1655, 1735, 1815, 1895, 1963, 2031, 2099, 2167, 2178]) 40 (.int ((S a0 a4) &&& (63 : Int32)) :: []) (fun t st1 => Z (d + 1) m_law_law t [some (.ref a0), some (.ref 0), some (.ref 65), some (.ref 91), some (.int (nI a4)), j5, j6] st1 (Hp S)) = _ from zsw_at (c := 20) (by rw [c20]; decide) (by decide) rfl rfl)) ?_
      refine wp_st (pc' := 1369) (L' := [some (.ref a0), some (.ref 0), some (.ref 65), some (.ref 91), some (.int (nI a4)), j5, j6]) (st' := [.int 1, .int (nI a4), .ref a0, .ref 0]) (h' := Hp S) 4 (fun Z => rfl) ?_
      refine wp_st (pc' := 1370) (L' := [some (.ref a0), some (.ref 0), some (.ref 65), some (.ref 91), some (.int (nI a4)), j5, j6]) (st' := [.int (nI (a4 + 1)), .ref a0, .ref 0]) (h' := Hp S) 1 (fun Z => by rw [← nI_add a4 1]; rfl) ?_
      obtain ⟨hi, hw⟩ := hw
      refine wp_st (pc' := 1371) (L' := [some (.ref a0), some (.ref 0), some (.ref 65), some (.ref 91), some (.int (nI a4)), j5, j6]) (st' := [.int (S a0 (a4 + 1)), .ref 0]) (h' := Hp S) 1 (fun Z => ldN (E := E) ha0 na0lt hi [.ref 0] (fun st => Z (d + 1) m_law_law 1371 [some (.ref a0), some (.ref 0), some (.ref 65), some (.ref 91), some (.int (nI a4)), j5, j6] st (Hp S))) ?_
      refine wp_st (pc' := 1372) (L' := [some (.ref a0), some (.ref 0), some (.ref 65), some (.ref 91), some (.int (nI a4)), j5, j6]) (st' := [.ref 91, .int (S a0 (a4 + 1)), .ref 0]) (h' := Hp S) 1 (fun Z => rfl) ?_
      refine wp_call (pc' := 1375) (rest := []) (fun Z => rfl) rfl hw ?_
      rintro o h1 ⟨x105, S106, rfl, rfl, hw⟩
      refine ⟨_, rfl, ?_⟩
      show wp E (d + 1) m_law_law 1375 [some (.ref a0), some (.ref 0), some (.ref 65), some (.ref 91), some (.int (nI a4)), j5, j6] [.int x105] (Hp S106) (QI Q)
      refine wp_st (pc' := 1382) (L' := [some (.ref a0), some (.ref 0), some (.ref 65), some (.ref 91), some (.int (nI a4)), some (.int x105), j6]) (st' := [.int 1, .int (nI a4), .ref a0, .ref 65]) (h' := Hp S106) 5 (fun Z => rfl) ?_
      refine wp_st (pc' := 1383) (L' := [some (.ref a0), some (.ref 0), some (.ref 65), some (.ref 91), some (.int (nI a4)), some (.int x105), j6]) (st' := [.int (nI (a4 + 1)), .ref a0, .ref 65]) (h' := Hp S106) 1 (fun Z => by rw [← nI_add a4 1]; rfl) ?_
      obtain ⟨hi, hw⟩ := hw
      refine wp_st (pc' := 1384) (L' := [some (.ref a0), some (.ref 0), some (.ref 65), some (.ref 91), some (.int (nI a4)), some (.int x105), j6]) (st' := [.int (S106 a0 (a4 + 1)), .ref 65]) (h' := Hp S106) 1 (fun Z => ldN (E := E) ha0 na0lt hi [.ref 65] (fun st => Z (d + 1) m_law_law 1384 [some (.ref a0), some (.ref 0), some (.ref 65), some (.ref 91), some (.int (nI a4)), some (.int x105), j6] st (Hp S106))) ?_
      refine wp_call (pc' := 1387) (rest := []) (fun Z => rfl) (isO_of sh65) hw ?_
      rintro o h1 ⟨x107, S108, rfl, rfl, hw⟩
      refine ⟨_, rfl, ?_⟩
      show wp E (d + 1) m_law_law 1387 [some (.ref a0), some (.ref 0), some (.ref 65), some (.ref 91), some (.int (nI a4)), some (.int x105), j6] [.int x107] (Hp S108) (QI Q)
      refine wp_st (pc' := 1390) (L' := [some (.ref a0), some (.ref 0), some (.ref 65), some (.ref 91), some (.int (nI a4)), some (.int x105), some (.int x107)]) (st' := [.ref 65]) (h' := Hp S108) 2 (fun Z => rfl) ?_
      refine wp_call (pc' := 1393) (rest := []) (fun Z => rfl) (isO_of sh65) hw ?_
      rintro o h1 ⟨x109, S110, rfl, rfl, hw⟩
      refine ⟨_, rfl, ?_⟩
      show wp E (d + 1) m_law_law 1393 [some (.ref a0), some (.ref 0), some (.ref 65), some (.ref 91), some (.int (nI a4)), some (.int x105), some (.int x107)] [.int x109] (Hp S110) (QI Q)
      refine wp_st (pc' := 1395) (L' := [some (.ref a0), some (.ref 0), some (.ref 65), some (.ref 91), some (.int (nI a4)), some (.int x105), some (.int x107)]) (st' := [.int x105, .int x109]) (h' := Hp S110) 1 (fun Z => rfl) ?_
      by_cases hc : x109 = x105
      · rw [if_pos hc] at hw
        refine wp_st (pc' := 1400) (L' := [some (.ref a0), some (.ref 0), some (.ref 65), some (.ref 91), some (.int (nI a4)), some (.int x105), some (.int x107)]) (st' := []) (h' := Hp S110) 1 (fun Z => if_pos hc) ?_
        refine wp_st (pc' := 1402) (L' := [some (.ref a0), some (.ref 0), some (.ref 65), some (.ref 91), some (.int (nI a4)), some (.int x105), some (.int x107)]) (st' := [.int x105]) (h' := Hp S110) 1 (fun Z => rfl) ?_
        by_cases hc : x105 = 0
        · rw [if_pos hc] at hw
          refine wp_st (pc' := 1405) (L' := [some (.ref a0), some (.ref 0), some (.ref 65), some (.ref 91), some (.int (nI a4)), some (.int x105), some (.int x107)]) (st' := []) (h' := Hp S110) 1 (fun Z => if_pos hc) ?_
          refine wp_st (pc' := 1407) (L' := [some (.ref a0), some (.ref 0), some (.ref 65), some (.ref 91), some (.int (nI a4)), some (.int x105), some (.int x107)]) (st' := [.int 0, .ref 91]) (h' := Hp S110) 2 (fun Z => rfl) ?_
          refine wp_st (pc' := 1408) (L' := [some (.ref a0), some (.ref 0), some (.ref 65), some (.ref 91), some (.int (nI a4)), some (.int x105), some (.int x107)]) (st' := [.long (catL (S110 91 0) (S110 91 1))]) (h' := Hp S110) 1 (fun Z => ldJ0 (E := E) sh91 (by decide) [] (fun st => Z (d + 1) m_law_law 1408 [some (.ref a0), some (.ref 0), some (.ref 65), some (.ref 91), some (.int (nI a4)), some (.int x105), some (.int x107)] st (Hp S110))) ?_
          refine wp_st (pc' := 1412) (L' := [some (.ref a0), some (.ref 0), some (.ref 65), some (.ref 91), some (.int (nI a4)), some (.int x105), some (.int x107)]) (st' := [.int (lg_cmp (catL (S110 91 0) (S110 91 1)) (Int32.toInt64 x107))]) (h' := Hp S110) 3 (fun Z => rfl) ?_
          by_cases hc : (lg_cmp (catL (S110 91 0) (S110 91 1)) (Int32.toInt64 x107)) = 0
          · rw [if_pos hc] at hw
            refine wp_st (pc' := 1417) (L' := [some (.ref a0), some (.ref 0), some (.ref 65), some (.ref 91), some (.int (nI a4)), some (.int x105), some (.int x107)]) (st' := []) (h' := Hp S110) 1 (fun Z => if_pos hc) ?_
            refine wp_st (pc' := 2231) (L' := [some (.ref a0), some (.ref 0), some (.ref 65), some (.ref 91), some (.int (nI a4)), some (.int x105), some (.int x107)]) (st' := []) (h' := Hp S110) 1 (fun Z => rfl) ?_
            refine wp_st (pc' := 2234) (L' := [some (.ref a0), some (.ref 0), some (.ref 65), some (.ref 91), some (.int (nI (a4 + 6))), some (.int x105), some (.int x107)]) (st' := []) (h' := Hp S110) 1 (fun Z => by rw [← nI_add a4 6]; rfl) ?_
            exact wp_st 1 (fun Z => rfl) (show wp E (d + 1) m_law_law 23 [some (.ref a0), some (.ref 0), some (.ref 65), some (.ref 91), some (.int (nI (a4 + 6))), some (.int x105), some (.int x107)] [] (Hp S110) (QI Q) from (hw (some (.int x105)) (some (.int x107))))
          · rw [if_neg hc] at hw
            refine wp_st (pc' := 1415) (L' := [some (.ref a0), some (.ref 0), some (.ref 65), some (.ref 91), some (.int (nI a4)), some (.int x105), some (.int x107)]) (st' := []) (h' := Hp S110) 1 (fun Z => if_neg hc) ?_
            refine wp_st (pc' := 1416) (L' := [some (.ref a0), some (.ref 0), some (.ref 65), some (.ref 91), some (.int (nI a4)), some (.int x105), some (.int x107)]) (st' := [.int 0]) (h' := Hp S110) 1 (fun Z => rfl) ?_
            exact wp_ret (fun Z => rfl) ⟨_, _, rfl, rfl, hw⟩
        · rw [if_neg hc] at hw
          refine wp_st (pc' := 1417) (L' := [some (.ref a0), some (.ref 0), some (.ref 65), some (.ref 91), some (.int (nI a4)), some (.int x105), some (.int x107)]) (st' := []) (h' := Hp S110) 1 (fun Z => if_neg hc) ?_
          refine wp_st (pc' := 2231) (L' := [some (.ref a0), some (.ref 0), some (.ref 65), some (.ref 91), some (.int (nI a4)), some (.int x105), some (.int x107)]) (st' := []) (h' := Hp S110) 1 (fun Z => rfl) ?_
          refine wp_st (pc' := 2234) (L' := [some (.ref a0), some (.ref 0), some (.ref 65), some (.ref 91), some (.int (nI (a4 + 6))), some (.int x105), some (.int x107)]) (st' := []) (h' := Hp S110) 1 (fun Z => by rw [← nI_add a4 6]; rfl) ?_
          exact wp_st 1 (fun Z => rfl) (show wp E (d + 1) m_law_law 23 [some (.ref a0), some (.ref 0), some (.ref 65), some (.ref 91), some (.int (nI (a4 + 6))), some (.int x105), some (.int x107)] [] (Hp S110) (QI Q) from (hw (some (.int x105)) (some (.int x107))))
      · rw [if_neg hc] at hw
        refine wp_st (pc' := 1398) (L' := [some (.ref a0), some (.ref 0), some (.ref 65), some (.ref 91), some (.int (nI a4)), some (.int x105), some (.int x107)]) (st' := []) (h' := Hp S110) 1 (fun Z => if_neg hc) ?_
        refine wp_st (pc' := 1399) (L' := [some (.ref a0), some (.ref 0), some (.ref 65), some (.ref 91), some (.int (nI a4)), some (.int x105), some (.int x107)]) (st' := [.int 0]) (h' := Hp S110) 1 (fun Z => rfl) ?_
        exact wp_ret (fun Z => rfl) ⟨_, _, rfl, rfl, hw⟩
    rw [if_neg c20] at hw
    by_cases c21 : ((S a0 a4) &&& (63 : Int32)) = 21
    · rw [if_pos c21] at hw
      refine wp_st (pc' := 1420) (L' := [some (.ref a0), some (.ref 0), some (.ref 65), some (.ref 91), some (.int (nI a4)), j5, j6]) (st' := []) (h' := Hp S) 1 (fun Z => (show zsw (.tableswitch 2191 0 34 #[156, 229, 285, 298, 354, 422, 490, 515, 571, 639, 730, 798, 811, 891, 971, 1027, 1040, 1108, 1176, 1244, 1324, 1380, 1436, 1532, 1543, 1599, 1655, 1735, 1815, 1895, 1963, 2031, 2099, 2167, 2178]) 40 (.int ((S a0 a4) &&& (63 : Int32)) :: []) (fun t st1 => Z (d + 1) m_law_law t [some (.ref a0), some (.ref 0), some (.ref 65), some (.ref 91), some (.int (nI a4)), j5, j6] st1 (Hp S)) = _ from zsw_at (c := 21) (by rw [c21]; decide) (by decide) rfl rfl)) ?_
      refine wp_st (pc' := 1425) (L' := [some (.ref a0), some (.ref 0), some (.ref 65), some (.ref 91), some (.int (nI a4)), j5, j6]) (st' := [.int 1, .int (nI a4), .ref a0, .ref 0]) (h' := Hp S) 4 (fun Z => rfl) ?_
      refine wp_st (pc' := 1426) (L' := [some (.ref a0), some (.ref 0), some (.ref 65), some (.ref 91), some (.int (nI a4)), j5, j6]) (st' := [.int (nI (a4 + 1)), .ref a0, .ref 0]) (h' := Hp S) 1 (fun Z => by rw [← nI_add a4 1]; rfl) ?_
      obtain ⟨hi, hw⟩ := hw
      refine wp_st (pc' := 1427) (L' := [some (.ref a0), some (.ref 0), some (.ref 65), some (.ref 91), some (.int (nI a4)), j5, j6]) (st' := [.int (S a0 (a4 + 1)), .ref 0]) (h' := Hp S) 1 (fun Z => ldN (E := E) ha0 na0lt hi [.ref 0] (fun st => Z (d + 1) m_law_law 1427 [some (.ref a0), some (.ref 0), some (.ref 65), some (.ref 91), some (.int (nI a4)), j5, j6] st (Hp S))) ?_
      refine wp_st (pc' := 1428) (L' := [some (.ref a0), some (.ref 0), some (.ref 65), some (.ref 91), some (.int (nI a4)), j5, j6]) (st' := [.ref 91, .int (S a0 (a4 + 1)), .ref 0]) (h' := Hp S) 1 (fun Z => rfl) ?_
      refine wp_call (pc' := 1431) (rest := []) (fun Z => rfl) rfl hw ?_
      rintro o h1 ⟨x111, S112, rfl, rfl, hw⟩
      refine ⟨_, rfl, ?_⟩
      show wp E (d + 1) m_law_law 1431 [some (.ref a0), some (.ref 0), some (.ref 65), some (.ref 91), some (.int (nI a4)), j5, j6] [.int x111] (Hp S112) (QI Q)
      refine wp_st (pc' := 1438) (L' := [some (.ref a0), some (.ref 0), some (.ref 65), some (.ref 91), some (.int (nI a4)), some (.int x111), j6]) (st' := [.int 1, .int (nI a4), .ref a0, .ref 65]) (h' := Hp S112) 5 (fun Z => rfl) ?_
      refine wp_st (pc' := 1439) (L' := [some (.ref a0), some (.ref 0), some (.ref 65), some (.ref 91), some (.int (nI a4)), some (.int x111), j6]) (st' := [.int (nI (a4 + 1)), .ref a0, .ref 65]) (h' := Hp S112) 1 (fun Z => by rw [← nI_add a4 1]; rfl) ?_
      obtain ⟨hi, hw⟩ := hw
      refine wp_st (pc' := 1440) (L' := [some (.ref a0), some (.ref 0), some (.ref 65), some (.ref 91), some (.int (nI a4)), some (.int x111), j6]) (st' := [.int (S112 a0 (a4 + 1)), .ref 65]) (h' := Hp S112) 1 (fun Z => ldN (E := E) ha0 na0lt hi [.ref 65] (fun st => Z (d + 1) m_law_law 1440 [some (.ref a0), some (.ref 0), some (.ref 65), some (.ref 91), some (.int (nI a4)), some (.int x111), j6] st (Hp S112))) ?_
      refine wp_call (pc' := 1443) (rest := []) (fun Z => rfl) (isO_of sh65) hw ?_
      rintro o h1 ⟨x113, S114, rfl, rfl, hw⟩
      refine ⟨_, rfl, ?_⟩
      show wp E (d + 1) m_law_law 1443 [some (.ref a0), some (.ref 0), some (.ref 65), some (.ref 91), some (.int (nI a4)), some (.int x111), j6] [.int x113] (Hp S114) (QI Q)
      refine wp_st (pc' := 1446) (L' := [some (.ref a0), some (.ref 0), some (.ref 65), some (.ref 91), some (.int (nI a4)), some (.int x111), some (.int x113)]) (st' := [.ref 65]) (h' := Hp S114) 2 (fun Z => rfl) ?_
      refine wp_call (pc' := 1449) (rest := []) (fun Z => rfl) (isO_of sh65) hw ?_
      rintro o h1 ⟨x115, S116, rfl, rfl, hw⟩
      refine ⟨_, rfl, ?_⟩
      show wp E (d + 1) m_law_law 1449 [some (.ref a0), some (.ref 0), some (.ref 65), some (.ref 91), some (.int (nI a4)), some (.int x111), some (.int x113)] [.int x115] (Hp S116) (QI Q)
      refine wp_st (pc' := 1451) (L' := [some (.ref a0), some (.ref 0), some (.ref 65), some (.ref 91), some (.int (nI a4)), some (.int x111), some (.int x113)]) (st' := [.int x111, .int x115]) (h' := Hp S116) 1 (fun Z => rfl) ?_
      by_cases hc : x115 = x111
      · rw [if_pos hc] at hw
        refine wp_st (pc' := 1456) (L' := [some (.ref a0), some (.ref 0), some (.ref 65), some (.ref 91), some (.int (nI a4)), some (.int x111), some (.int x113)]) (st' := []) (h' := Hp S116) 1 (fun Z => if_pos hc) ?_
        refine wp_st (pc' := 1458) (L' := [some (.ref a0), some (.ref 0), some (.ref 65), some (.ref 91), some (.int (nI a4)), some (.int x111), some (.int x113)]) (st' := [.int x111]) (h' := Hp S116) 1 (fun Z => rfl) ?_
        by_cases hc : x111 = 0
        · rw [if_pos hc] at hw
          refine wp_st (pc' := 1461) (L' := [some (.ref a0), some (.ref 0), some (.ref 65), some (.ref 91), some (.int (nI a4)), some (.int x111), some (.int x113)]) (st' := []) (h' := Hp S116) 1 (fun Z => if_pos hc) ?_
          refine wp_st (pc' := 1463) (L' := [some (.ref a0), some (.ref 0), some (.ref 65), some (.ref 91), some (.int (nI a4)), some (.int x111), some (.int x113)]) (st' := [.int 0, .ref 91]) (h' := Hp S116) 2 (fun Z => rfl) ?_
          refine wp_st (pc' := 1464) (L' := [some (.ref a0), some (.ref 0), some (.ref 65), some (.ref 91), some (.int (nI a4)), some (.int x111), some (.int x113)]) (st' := [.long (catL (S116 91 0) (S116 91 1))]) (h' := Hp S116) 1 (fun Z => ldJ0 (E := E) sh91 (by decide) [] (fun st => Z (d + 1) m_law_law 1464 [some (.ref a0), some (.ref 0), some (.ref 65), some (.ref 91), some (.int (nI a4)), some (.int x111), some (.int x113)] st (Hp S116))) ?_
          refine wp_st (pc' := 1468) (L' := [some (.ref a0), some (.ref 0), some (.ref 65), some (.ref 91), some (.int (nI a4)), some (.int x111), some (.int x113)]) (st' := [.int (lg_cmp (catL (S116 91 0) (S116 91 1)) (Int32.toInt64 x113))]) (h' := Hp S116) 3 (fun Z => rfl) ?_
          by_cases hc : (lg_cmp (catL (S116 91 0) (S116 91 1)) (Int32.toInt64 x113)) = 0
          · rw [if_pos hc] at hw
            refine wp_st (pc' := 1473) (L' := [some (.ref a0), some (.ref 0), some (.ref 65), some (.ref 91), some (.int (nI a4)), some (.int x111), some (.int x113)]) (st' := []) (h' := Hp S116) 1 (fun Z => if_pos hc) ?_
            refine wp_st (pc' := 2231) (L' := [some (.ref a0), some (.ref 0), some (.ref 65), some (.ref 91), some (.int (nI a4)), some (.int x111), some (.int x113)]) (st' := []) (h' := Hp S116) 1 (fun Z => rfl) ?_
            refine wp_st (pc' := 2234) (L' := [some (.ref a0), some (.ref 0), some (.ref 65), some (.ref 91), some (.int (nI (a4 + 6))), some (.int x111), some (.int x113)]) (st' := []) (h' := Hp S116) 1 (fun Z => by rw [← nI_add a4 6]; rfl) ?_
            exact wp_st 1 (fun Z => rfl) (show wp E (d + 1) m_law_law 23 [some (.ref a0), some (.ref 0), some (.ref 65), some (.ref 91), some (.int (nI (a4 + 6))), some (.int x111), some (.int x113)] [] (Hp S116) (QI Q) from (hw (some (.int x111)) (some (.int x113))))
          · rw [if_neg hc] at hw
            refine wp_st (pc' := 1471) (L' := [some (.ref a0), some (.ref 0), some (.ref 65), some (.ref 91), some (.int (nI a4)), some (.int x111), some (.int x113)]) (st' := []) (h' := Hp S116) 1 (fun Z => if_neg hc) ?_
            refine wp_st (pc' := 1472) (L' := [some (.ref a0), some (.ref 0), some (.ref 65), some (.ref 91), some (.int (nI a4)), some (.int x111), some (.int x113)]) (st' := [.int 0]) (h' := Hp S116) 1 (fun Z => rfl) ?_
            exact wp_ret (fun Z => rfl) ⟨_, _, rfl, rfl, hw⟩
        · rw [if_neg hc] at hw
          refine wp_st (pc' := 1473) (L' := [some (.ref a0), some (.ref 0), some (.ref 65), some (.ref 91), some (.int (nI a4)), some (.int x111), some (.int x113)]) (st' := []) (h' := Hp S116) 1 (fun Z => if_neg hc) ?_
          refine wp_st (pc' := 2231) (L' := [some (.ref a0), some (.ref 0), some (.ref 65), some (.ref 91), some (.int (nI a4)), some (.int x111), some (.int x113)]) (st' := []) (h' := Hp S116) 1 (fun Z => rfl) ?_
          refine wp_st (pc' := 2234) (L' := [some (.ref a0), some (.ref 0), some (.ref 65), some (.ref 91), some (.int (nI (a4 + 6))), some (.int x111), some (.int x113)]) (st' := []) (h' := Hp S116) 1 (fun Z => by rw [← nI_add a4 6]; rfl) ?_
          exact wp_st 1 (fun Z => rfl) (show wp E (d + 1) m_law_law 23 [some (.ref a0), some (.ref 0), some (.ref 65), some (.ref 91), some (.int (nI (a4 + 6))), some (.int x111), some (.int x113)] [] (Hp S116) (QI Q) from (hw (some (.int x111)) (some (.int x113))))
      · rw [if_neg hc] at hw
        refine wp_st (pc' := 1454) (L' := [some (.ref a0), some (.ref 0), some (.ref 65), some (.ref 91), some (.int (nI a4)), some (.int x111), some (.int x113)]) (st' := []) (h' := Hp S116) 1 (fun Z => if_neg hc) ?_
        refine wp_st (pc' := 1455) (L' := [some (.ref a0), some (.ref 0), some (.ref 65), some (.ref 91), some (.int (nI a4)), some (.int x111), some (.int x113)]) (st' := [.int 0]) (h' := Hp S116) 1 (fun Z => rfl) ?_
        exact wp_ret (fun Z => rfl) ⟨_, _, rfl, rfl, hw⟩
    rw [if_neg c21] at hw
    by_cases c22 : ((S a0 a4) &&& (63 : Int32)) = 22
    · rw [if_pos c22] at hw
      refine wp_st (pc' := 1476) (L' := [some (.ref a0), some (.ref 0), some (.ref 65), some (.ref 91), some (.int (nI a4)), j5, j6]) (st' := []) (h' := Hp S) 1 (fun Z => (show zsw (.tableswitch 2191 0 34 #[156, 229, 285, 298, 354, 422, 490, 515, 571, 639, 730, 798, 811, 891, 971, 1027, 1040, 1108, 1176, 1244, 1324, 1380, 1436, 1532, 1543, 1599, 1655, 1735, 1815, 1895, 1963, 2031, 2099, 2167, 2178]) 40 (.int ((S a0 a4) &&& (63 : Int32)) :: []) (fun t st1 => Z (d + 1) m_law_law t [some (.ref a0), some (.ref 0), some (.ref 65), some (.ref 91), some (.int (nI a4)), j5, j6] st1 (Hp S)) = _ from zsw_at (c := 22) (by rw [c22]; decide) (by decide) rfl rfl)) ?_
      refine wp_st (pc' := 1481) (L' := [some (.ref a0), some (.ref 0), some (.ref 65), some (.ref 91), some (.int (nI a4)), j5, j6]) (st' := [.int 1, .int (nI a4), .ref a0, .ref 0]) (h' := Hp S) 4 (fun Z => rfl) ?_
      refine wp_st (pc' := 1482) (L' := [some (.ref a0), some (.ref 0), some (.ref 65), some (.ref 91), some (.int (nI a4)), j5, j6]) (st' := [.int (nI (a4 + 1)), .ref a0, .ref 0]) (h' := Hp S) 1 (fun Z => by rw [← nI_add a4 1]; rfl) ?_
      obtain ⟨hi, hw⟩ := hw
      refine wp_st (pc' := 1483) (L' := [some (.ref a0), some (.ref 0), some (.ref 65), some (.ref 91), some (.int (nI a4)), j5, j6]) (st' := [.int (S a0 (a4 + 1)), .ref 0]) (h' := Hp S) 1 (fun Z => ldN (E := E) ha0 na0lt hi [.ref 0] (fun st => Z (d + 1) m_law_law 1483 [some (.ref a0), some (.ref 0), some (.ref 65), some (.ref 91), some (.int (nI a4)), j5, j6] st (Hp S))) ?_
      refine wp_st (pc' := 1487) (L' := [some (.ref a0), some (.ref 0), some (.ref 65), some (.ref 91), some (.int (nI a4)), j5, j6]) (st' := [.int 2, .int (nI a4), .ref a0, .int (S a0 (a4 + 1)), .ref 0]) (h' := Hp S) 3 (fun Z => rfl) ?_
      refine wp_st (pc' := 1488) (L' := [some (.ref a0), some (.ref 0), some (.ref 65), some (.ref 91), some (.int (nI a4)), j5, j6]) (st' := [.int (nI (a4 + 2)), .ref a0, .int (S a0 (a4 + 1)), .ref 0]) (h' := Hp S) 1 (fun Z => by rw [← nI_add a4 2]; rfl) ?_
      obtain ⟨hi, hw⟩ := hw
      refine wp_st (pc' := 1489) (L' := [some (.ref a0), some (.ref 0), some (.ref 65), some (.ref 91), some (.int (nI a4)), j5, j6]) (st' := [.int (S a0 (a4 + 2)), .int (S a0 (a4 + 1)), .ref 0]) (h' := Hp S) 1 (fun Z => ldN (E := E) ha0 na0lt hi [.int (S a0 (a4 + 1)), .ref 0] (fun st => Z (d + 1) m_law_law 1489 [some (.ref a0), some (.ref 0), some (.ref 65), some (.ref 91), some (.int (nI a4)), j5, j6] st (Hp S))) ?_
      refine wp_st (pc' := 1493) (L' := [some (.ref a0), some (.ref 0), some (.ref 65), some (.ref 91), some (.int (nI a4)), j5, j6]) (st' := [.int 3, .int (nI a4), .ref a0, .int (S a0 (a4 + 2)), .int (S a0 (a4 + 1)), .ref 0]) (h' := Hp S) 3 (fun Z => rfl) ?_
      refine wp_st (pc' := 1494) (L' := [some (.ref a0), some (.ref 0), some (.ref 65), some (.ref 91), some (.int (nI a4)), j5, j6]) (st' := [.int (nI (a4 + 3)), .ref a0, .int (S a0 (a4 + 2)), .int (S a0 (a4 + 1)), .ref 0]) (h' := Hp S) 1 (fun Z => by rw [← nI_add a4 3]; rfl) ?_
      obtain ⟨hi, hw⟩ := hw
      refine wp_st (pc' := 1495) (L' := [some (.ref a0), some (.ref 0), some (.ref 65), some (.ref 91), some (.int (nI a4)), j5, j6]) (st' := [.int (S a0 (a4 + 3)), .int (S a0 (a4 + 2)), .int (S a0 (a4 + 1)), .ref 0]) (h' := Hp S) 1 (fun Z => ldN (E := E) ha0 na0lt hi [.int (S a0 (a4 + 2)), .int (S a0 (a4 + 1)), .ref 0] (fun st => Z (d + 1) m_law_law 1495 [some (.ref a0), some (.ref 0), some (.ref 65), some (.ref 91), some (.int (nI a4)), j5, j6] st (Hp S))) ?_
      by_cases hc : (S a0 (a4 + 3)) = 0
      · rw [if_pos hc] at hw
        refine wp_st (pc' := 1502) (L' := [some (.ref a0), some (.ref 0), some (.ref 65), some (.ref 91), some (.int (nI a4)), j5, j6]) (st' := [.int (S a0 (a4 + 2)), .int (S a0 (a4 + 1)), .ref 0]) (h' := Hp S) 1 (fun Z => if_pos hc) ?_
        exact wp_st 1 (fun Z => rfl) (show wp E (d + 1) m_law_law 1503 [some (.ref a0), some (.ref 0), some (.ref 65), some (.ref 91), some (.int (nI a4)), j5, j6] [.int 0, .int (S a0 (a4 + 2)), .int (S a0 (a4 + 1)), .ref 0] (Hp S) (QI Q) from (hw j5 j6))
      · rw [if_neg hc] at hw
        refine wp_st (pc' := 1498) (L' := [some (.ref a0), some (.ref 0), some (.ref 65), some (.ref 91), some (.int (nI a4)), j5, j6]) (st' := [.int (S a0 (a4 + 2)), .int (S a0 (a4 + 1)), .ref 0]) (h' := Hp S) 1 (fun Z => if_neg hc) ?_
        exact wp_st 2 (fun Z => rfl) (show wp E (d + 1) m_law_law 1503 [some (.ref a0), some (.ref 0), some (.ref 65), some (.ref 91), some (.int (nI a4)), j5, j6] [.int 1, .int (S a0 (a4 + 2)), .int (S a0 (a4 + 1)), .ref 0] (Hp S) (QI Q) from (hw j5 j6))
    rw [if_neg c22] at hw
    by_cases c23 : ((S a0 a4) &&& (63 : Int32)) = 23
    · rw [if_pos c23] at hw
      refine wp_st (pc' := 1572) (L' := [some (.ref a0), some (.ref 0), some (.ref 65), some (.ref 91), some (.int (nI a4)), j5, j6]) (st' := []) (h' := Hp S) 1 (fun Z => (show zsw (.tableswitch 2191 0 34 #[156, 229, 285, 298, 354, 422, 490, 515, 571, 639, 730, 798, 811, 891, 971, 1027, 1040, 1108, 1176, 1244, 1324, 1380, 1436, 1532, 1543, 1599, 1655, 1735, 1815, 1895, 1963, 2031, 2099, 2167, 2178]) 40 (.int ((S a0 a4) &&& (63 : Int32)) :: []) (fun t st1 => Z (d + 1) m_law_law t [some (.ref a0), some (.ref 0), some (.ref 65), some (.ref 91), some (.int (nI a4)), j5, j6] st1 (Hp S)) = _ from zsw_at (c := 23) (by rw [c23]; decide) (by decide) rfl rfl)) ?_
      refine wp_st (pc' := 1573) (L' := [some (.ref a0), some (.ref 0), some (.ref 65), some (.ref 91), some (.int (nI a4)), j5, j6]) (st' := [.ref 0]) (h' := Hp S) 1 (fun Z => rfl) ?_
      refine wp_call (pc' := 1576) (rest := []) (fun Z => rfl) (isO_of sh0) hw ?_
      rintro o h1 ⟨S118, rfl, rfl, hw⟩
      refine ⟨_, rfl, ?_⟩
      show wp E (d + 1) m_law_law 1576 [some (.ref a0), some (.ref 0), some (.ref 65), some (.ref 91), some (.int (nI a4)), j5, j6] [] (Hp S118) (QI Q)
      refine wp_st (pc' := 1577) (L' := [some (.ref a0), some (.ref 0), some (.ref 65), some (.ref 91), some (.int (nI a4)), j5, j6]) (st' := [.ref 65]) (h' := Hp S118) 1 (fun Z => rfl) ?_
      refine wp_call (pc' := 1580) (rest := []) (fun Z => rfl) (isO_of sh65) hw ?_
      rintro o h1 ⟨S120, rfl, rfl, hw⟩
      refine ⟨_, rfl, ?_⟩
      show wp E (d + 1) m_law_law 1580 [some (.ref a0), some (.ref 0), some (.ref 65), some (.ref 91), some (.int (nI a4)), j5, j6] [] (Hp S120) (QI Q)
      refine wp_st (pc' := 2231) (L' := [some (.ref a0), some (.ref 0), some (.ref 65), some (.ref 91), some (.int (nI a4)), j5, j6]) (st' := []) (h' := Hp S120) 1 (fun Z => rfl) ?_
      refine wp_st (pc' := 2234) (L' := [some (.ref a0), some (.ref 0), some (.ref 65), some (.ref 91), some (.int (nI (a4 + 6))), j5, j6]) (st' := []) (h' := Hp S120) 1 (fun Z => by rw [← nI_add a4 6]; rfl) ?_
      exact wp_st 1 (fun Z => rfl) (show wp E (d + 1) m_law_law 23 [some (.ref a0), some (.ref 0), some (.ref 65), some (.ref 91), some (.int (nI (a4 + 6))), j5, j6] [] (Hp S120) (QI Q) from (hw j5 j6))
    rw [if_neg c23] at hw
    by_cases c24 : ((S a0 a4) &&& (63 : Int32)) = 24
    · rw [if_pos c24] at hw
      refine wp_st (pc' := 1583) (L' := [some (.ref a0), some (.ref 0), some (.ref 65), some (.ref 91), some (.int (nI a4)), j5, j6]) (st' := []) (h' := Hp S) 1 (fun Z => (show zsw (.tableswitch 2191 0 34 #[156, 229, 285, 298, 354, 422, 490, 515, 571, 639, 730, 798, 811, 891, 971, 1027, 1040, 1108, 1176, 1244, 1324, 1380, 1436, 1532, 1543, 1599, 1655, 1735, 1815, 1895, 1963, 2031, 2099, 2167, 2178]) 40 (.int ((S a0 a4) &&& (63 : Int32)) :: []) (fun t st1 => Z (d + 1) m_law_law t [some (.ref a0), some (.ref 0), some (.ref 65), some (.ref 91), some (.int (nI a4)), j5, j6] st1 (Hp S)) = _ from zsw_at (c := 24) (by rw [c24]; decide) (by decide) rfl rfl)) ?_
      refine wp_st (pc' := 1588) (L' := [some (.ref a0), some (.ref 0), some (.ref 65), some (.ref 91), some (.int (nI a4)), j5, j6]) (st' := [.int 1, .int (nI a4), .ref a0, .ref 0]) (h' := Hp S) 4 (fun Z => rfl) ?_
      refine wp_st (pc' := 1589) (L' := [some (.ref a0), some (.ref 0), some (.ref 65), some (.ref 91), some (.int (nI a4)), j5, j6]) (st' := [.int (nI (a4 + 1)), .ref a0, .ref 0]) (h' := Hp S) 1 (fun Z => by rw [← nI_add a4 1]; rfl) ?_
      obtain ⟨hi, hw⟩ := hw
      refine wp_st (pc' := 1590) (L' := [some (.ref a0), some (.ref 0), some (.ref 65), some (.ref 91), some (.int (nI a4)), j5, j6]) (st' := [.int (S a0 (a4 + 1)), .ref 0]) (h' := Hp S) 1 (fun Z => ldN (E := E) ha0 na0lt hi [.ref 0] (fun st => Z (d + 1) m_law_law 1590 [some (.ref a0), some (.ref 0), some (.ref 65), some (.ref 91), some (.int (nI a4)), j5, j6] st (Hp S))) ?_
      refine wp_st (pc' := 1591) (L' := [some (.ref a0), some (.ref 0), some (.ref 65), some (.ref 91), some (.int (nI a4)), j5, j6]) (st' := [.ref 91, .int (S a0 (a4 + 1)), .ref 0]) (h' := Hp S) 1 (fun Z => rfl) ?_
      refine wp_call (pc' := 1594) (rest := []) (fun Z => rfl) rfl hw ?_
      rintro o h1 ⟨x121, S122, rfl, rfl, hw⟩
      refine ⟨_, rfl, ?_⟩
      show wp E (d + 1) m_law_law 1594 [some (.ref a0), some (.ref 0), some (.ref 65), some (.ref 91), some (.int (nI a4)), j5, j6] [.int x121] (Hp S122) (QI Q)
      refine wp_st (pc' := 1601) (L' := [some (.ref a0), some (.ref 0), some (.ref 65), some (.ref 91), some (.int (nI a4)), some (.int x121), j6]) (st' := [.int 1, .int (nI a4), .ref a0, .ref 65]) (h' := Hp S122) 5 (fun Z => rfl) ?_
      refine wp_st (pc' := 1602) (L' := [some (.ref a0), some (.ref 0), some (.ref 65), some (.ref 91), some (.int (nI a4)), some (.int x121), j6]) (st' := [.int (nI (a4 + 1)), .ref a0, .ref 65]) (h' := Hp S122) 1 (fun Z => by rw [← nI_add a4 1]; rfl) ?_
      obtain ⟨hi, hw⟩ := hw
      refine wp_st (pc' := 1603) (L' := [some (.ref a0), some (.ref 0), some (.ref 65), some (.ref 91), some (.int (nI a4)), some (.int x121), j6]) (st' := [.int (S122 a0 (a4 + 1)), .ref 65]) (h' := Hp S122) 1 (fun Z => ldN (E := E) ha0 na0lt hi [.ref 65] (fun st => Z (d + 1) m_law_law 1603 [some (.ref a0), some (.ref 0), some (.ref 65), some (.ref 91), some (.int (nI a4)), some (.int x121), j6] st (Hp S122))) ?_
      refine wp_call (pc' := 1606) (rest := []) (fun Z => rfl) (isO_of sh65) hw ?_
      rintro o h1 ⟨x123, S124, rfl, rfl, hw⟩
      refine ⟨_, rfl, ?_⟩
      show wp E (d + 1) m_law_law 1606 [some (.ref a0), some (.ref 0), some (.ref 65), some (.ref 91), some (.int (nI a4)), some (.int x121), j6] [.int x123] (Hp S124) (QI Q)
      refine wp_st (pc' := 1609) (L' := [some (.ref a0), some (.ref 0), some (.ref 65), some (.ref 91), some (.int (nI a4)), some (.int x121), some (.int x123)]) (st' := [.ref 65]) (h' := Hp S124) 2 (fun Z => rfl) ?_
      refine wp_call (pc' := 1612) (rest := []) (fun Z => rfl) (isO_of sh65) hw ?_
      rintro o h1 ⟨x125, S126, rfl, rfl, hw⟩
      refine ⟨_, rfl, ?_⟩
      show wp E (d + 1) m_law_law 1612 [some (.ref a0), some (.ref 0), some (.ref 65), some (.ref 91), some (.int (nI a4)), some (.int x121), some (.int x123)] [.int x125] (Hp S126) (QI Q)
      refine wp_st (pc' := 1614) (L' := [some (.ref a0), some (.ref 0), some (.ref 65), some (.ref 91), some (.int (nI a4)), some (.int x121), some (.int x123)]) (st' := [.int x121, .int x125]) (h' := Hp S126) 1 (fun Z => rfl) ?_
      by_cases hc : x125 = x121
      · rw [if_pos hc] at hw
        refine wp_st (pc' := 1619) (L' := [some (.ref a0), some (.ref 0), some (.ref 65), some (.ref 91), some (.int (nI a4)), some (.int x121), some (.int x123)]) (st' := []) (h' := Hp S126) 1 (fun Z => if_pos hc) ?_
        refine wp_st (pc' := 1621) (L' := [some (.ref a0), some (.ref 0), some (.ref 65), some (.ref 91), some (.int (nI a4)), some (.int x121), some (.int x123)]) (st' := [.int x121]) (h' := Hp S126) 1 (fun Z => rfl) ?_
        by_cases hc : x121 = 0
        · rw [if_pos hc] at hw
          refine wp_st (pc' := 1624) (L' := [some (.ref a0), some (.ref 0), some (.ref 65), some (.ref 91), some (.int (nI a4)), some (.int x121), some (.int x123)]) (st' := []) (h' := Hp S126) 1 (fun Z => if_pos hc) ?_
          refine wp_st (pc' := 1626) (L' := [some (.ref a0), some (.ref 0), some (.ref 65), some (.ref 91), some (.int (nI a4)), some (.int x121), some (.int x123)]) (st' := [.int 0, .ref 91]) (h' := Hp S126) 2 (fun Z => rfl) ?_
          refine wp_st (pc' := 1627) (L' := [some (.ref a0), some (.ref 0), some (.ref 65), some (.ref 91), some (.int (nI a4)), some (.int x121), some (.int x123)]) (st' := [.long (catL (S126 91 0) (S126 91 1))]) (h' := Hp S126) 1 (fun Z => ldJ0 (E := E) sh91 (by decide) [] (fun st => Z (d + 1) m_law_law 1627 [some (.ref a0), some (.ref 0), some (.ref 65), some (.ref 91), some (.int (nI a4)), some (.int x121), some (.int x123)] st (Hp S126))) ?_
          refine wp_st (pc' := 1631) (L' := [some (.ref a0), some (.ref 0), some (.ref 65), some (.ref 91), some (.int (nI a4)), some (.int x121), some (.int x123)]) (st' := [.int (lg_cmp (catL (S126 91 0) (S126 91 1)) (Int32.toInt64 x123))]) (h' := Hp S126) 3 (fun Z => rfl) ?_
          by_cases hc : (lg_cmp (catL (S126 91 0) (S126 91 1)) (Int32.toInt64 x123)) = 0
          · rw [if_pos hc] at hw
            refine wp_st (pc' := 1636) (L' := [some (.ref a0), some (.ref 0), some (.ref 65), some (.ref 91), some (.int (nI a4)), some (.int x121), some (.int x123)]) (st' := []) (h' := Hp S126) 1 (fun Z => if_pos hc) ?_
            refine wp_st (pc' := 2231) (L' := [some (.ref a0), some (.ref 0), some (.ref 65), some (.ref 91), some (.int (nI a4)), some (.int x121), some (.int x123)]) (st' := []) (h' := Hp S126) 1 (fun Z => rfl) ?_
            refine wp_st (pc' := 2234) (L' := [some (.ref a0), some (.ref 0), some (.ref 65), some (.ref 91), some (.int (nI (a4 + 6))), some (.int x121), some (.int x123)]) (st' := []) (h' := Hp S126) 1 (fun Z => by rw [← nI_add a4 6]; rfl) ?_
            exact wp_st 1 (fun Z => rfl) (show wp E (d + 1) m_law_law 23 [some (.ref a0), some (.ref 0), some (.ref 65), some (.ref 91), some (.int (nI (a4 + 6))), some (.int x121), some (.int x123)] [] (Hp S126) (QI Q) from (hw (some (.int x121)) (some (.int x123))))
          · rw [if_neg hc] at hw
            refine wp_st (pc' := 1634) (L' := [some (.ref a0), some (.ref 0), some (.ref 65), some (.ref 91), some (.int (nI a4)), some (.int x121), some (.int x123)]) (st' := []) (h' := Hp S126) 1 (fun Z => if_neg hc) ?_
            refine wp_st (pc' := 1635) (L' := [some (.ref a0), some (.ref 0), some (.ref 65), some (.ref 91), some (.int (nI a4)), some (.int x121), some (.int x123)]) (st' := [.int 0]) (h' := Hp S126) 1 (fun Z => rfl) ?_
            exact wp_ret (fun Z => rfl) ⟨_, _, rfl, rfl, hw⟩
        · rw [if_neg hc] at hw
          refine wp_st (pc' := 1636) (L' := [some (.ref a0), some (.ref 0), some (.ref 65), some (.ref 91), some (.int (nI a4)), some (.int x121), some (.int x123)]) (st' := []) (h' := Hp S126) 1 (fun Z => if_neg hc) ?_
          refine wp_st (pc' := 2231) (L' := [some (.ref a0), some (.ref 0), some (.ref 65), some (.ref 91), some (.int (nI a4)), some (.int x121), some (.int x123)]) (st' := []) (h' := Hp S126) 1 (fun Z => rfl) ?_
          refine wp_st (pc' := 2234) (L' := [some (.ref a0), some (.ref 0), some (.ref 65), some (.ref 91), some (.int (nI (a4 + 6))), some (.int x121), some (.int x123)]) (st' := []) (h' := Hp S126) 1 (fun Z => by rw [← nI_add a4 6]; rfl) ?_
          exact wp_st 1 (fun Z => rfl) (show wp E (d + 1) m_law_law 23 [some (.ref a0), some (.ref 0), some (.ref 65), some (.ref 91), some (.int (nI (a4 + 6))), some (.int x121), some (.int x123)] [] (Hp S126) (QI Q) from (hw (some (.int x121)) (some (.int x123))))
      · rw [if_neg hc] at hw
        refine wp_st (pc' := 1617) (L' := [some (.ref a0), some (.ref 0), some (.ref 65), some (.ref 91), some (.int (nI a4)), some (.int x121), some (.int x123)]) (st' := []) (h' := Hp S126) 1 (fun Z => if_neg hc) ?_
        refine wp_st (pc' := 1618) (L' := [some (.ref a0), some (.ref 0), some (.ref 65), some (.ref 91), some (.int (nI a4)), some (.int x121), some (.int x123)]) (st' := [.int 0]) (h' := Hp S126) 1 (fun Z => rfl) ?_
        exact wp_ret (fun Z => rfl) ⟨_, _, rfl, rfl, hw⟩
    rw [if_neg c24] at hw
    by_cases c25 : ((S a0 a4) &&& (63 : Int32)) = 25
    · rw [if_pos c25] at hw
      refine wp_st (pc' := 1639) (L' := [some (.ref a0), some (.ref 0), some (.ref 65), some (.ref 91), some (.int (nI a4)), j5, j6]) (st' := []) (h' := Hp S) 1 (fun Z => (show zsw (.tableswitch 2191 0 34 #[156, 229, 285, 298, 354, 422, 490, 515, 571, 639, 730, 798, 811, 891, 971, 1027, 1040, 1108, 1176, 1244, 1324, 1380, 1436, 1532, 1543, 1599, 1655, 1735, 1815, 1895, 1963, 2031, 2099, 2167, 2178]) 40 (.int ((S a0 a4) &&& (63 : Int32)) :: []) (fun t st1 => Z (d + 1) m_law_law t [some (.ref a0), some (.ref 0), some (.ref 65), some (.ref 91), some (.int (nI a4)), j5, j6] st1 (Hp S)) = _ from zsw_at (c := 25) (by rw [c25]; decide) (by decide) rfl rfl)) ?_
      refine wp_st (pc' := 1644) (L' := [some (.ref a0), some (.ref 0), some (.ref 65), some (.ref 91), some (.int (nI a4)), j5, j6]) (st' := [.int 1, .int (nI a4), .ref a0, .ref 0]) (h' := Hp S) 4 (fun Z => rfl) ?_
      refine wp_st (pc' := 1645) (L' := [some (.ref a0), some (.ref 0), some (.ref 65), some (.ref 91), some (.int (nI a4)), j5, j6]) (st' := [.int (nI (a4 + 1)), .ref a0, .ref 0]) (h' := Hp S) 1 (fun Z => by rw [← nI_add a4 1]; rfl) ?_
      obtain ⟨hi, hw⟩ := hw
      refine wp_st (pc' := 1646) (L' := [some (.ref a0), some (.ref 0), some (.ref 65), some (.ref 91), some (.int (nI a4)), j5, j6]) (st' := [.int (S a0 (a4 + 1)), .ref 0]) (h' := Hp S) 1 (fun Z => ldN (E := E) ha0 na0lt hi [.ref 0] (fun st => Z (d + 1) m_law_law 1646 [some (.ref a0), some (.ref 0), some (.ref 65), some (.ref 91), some (.int (nI a4)), j5, j6] st (Hp S))) ?_
      refine wp_st (pc' := 1647) (L' := [some (.ref a0), some (.ref 0), some (.ref 65), some (.ref 91), some (.int (nI a4)), j5, j6]) (st' := [.ref 91, .int (S a0 (a4 + 1)), .ref 0]) (h' := Hp S) 1 (fun Z => rfl) ?_
      refine wp_call (pc' := 1650) (rest := []) (fun Z => rfl) rfl hw ?_
      rintro o h1 ⟨x127, S128, rfl, rfl, hw⟩
      refine ⟨_, rfl, ?_⟩
      show wp E (d + 1) m_law_law 1650 [some (.ref a0), some (.ref 0), some (.ref 65), some (.ref 91), some (.int (nI a4)), j5, j6] [.int x127] (Hp S128) (QI Q)
      refine wp_st (pc' := 1657) (L' := [some (.ref a0), some (.ref 0), some (.ref 65), some (.ref 91), some (.int (nI a4)), some (.int x127), j6]) (st' := [.int 1, .int (nI a4), .ref a0, .ref 65]) (h' := Hp S128) 5 (fun Z => rfl) ?_
      refine wp_st (pc' := 1658) (L' := [some (.ref a0), some (.ref 0), some (.ref 65), some (.ref 91), some (.int (nI a4)), some (.int x127), j6]) (st' := [.int (nI (a4 + 1)), .ref a0, .ref 65]) (h' := Hp S128) 1 (fun Z => by rw [← nI_add a4 1]; rfl) ?_
      obtain ⟨hi, hw⟩ := hw
      refine wp_st (pc' := 1659) (L' := [some (.ref a0), some (.ref 0), some (.ref 65), some (.ref 91), some (.int (nI a4)), some (.int x127), j6]) (st' := [.int (S128 a0 (a4 + 1)), .ref 65]) (h' := Hp S128) 1 (fun Z => ldN (E := E) ha0 na0lt hi [.ref 65] (fun st => Z (d + 1) m_law_law 1659 [some (.ref a0), some (.ref 0), some (.ref 65), some (.ref 91), some (.int (nI a4)), some (.int x127), j6] st (Hp S128))) ?_
      refine wp_call (pc' := 1662) (rest := []) (fun Z => rfl) (isO_of sh65) hw ?_
      rintro o h1 ⟨x129, S130, rfl, rfl, hw⟩
      refine ⟨_, rfl, ?_⟩
      show wp E (d + 1) m_law_law 1662 [some (.ref a0), some (.ref 0), some (.ref 65), some (.ref 91), some (.int (nI a4)), some (.int x127), j6] [.int x129] (Hp S130) (QI Q)
      refine wp_st (pc' := 1665) (L' := [some (.ref a0), some (.ref 0), some (.ref 65), some (.ref 91), some (.int (nI a4)), some (.int x127), some (.int x129)]) (st' := [.ref 65]) (h' := Hp S130) 2 (fun Z => rfl) ?_
      refine wp_call (pc' := 1668) (rest := []) (fun Z => rfl) (isO_of sh65) hw ?_
      rintro o h1 ⟨x131, S132, rfl, rfl, hw⟩
      refine ⟨_, rfl, ?_⟩
      show wp E (d + 1) m_law_law 1668 [some (.ref a0), some (.ref 0), some (.ref 65), some (.ref 91), some (.int (nI a4)), some (.int x127), some (.int x129)] [.int x131] (Hp S132) (QI Q)
      refine wp_st (pc' := 1670) (L' := [some (.ref a0), some (.ref 0), some (.ref 65), some (.ref 91), some (.int (nI a4)), some (.int x127), some (.int x129)]) (st' := [.int x127, .int x131]) (h' := Hp S132) 1 (fun Z => rfl) ?_
      by_cases hc : x131 = x127
      · rw [if_pos hc] at hw
        refine wp_st (pc' := 1675) (L' := [some (.ref a0), some (.ref 0), some (.ref 65), some (.ref 91), some (.int (nI a4)), some (.int x127), some (.int x129)]) (st' := []) (h' := Hp S132) 1 (fun Z => if_pos hc) ?_
        refine wp_st (pc' := 1677) (L' := [some (.ref a0), some (.ref 0), some (.ref 65), some (.ref 91), some (.int (nI a4)), some (.int x127), some (.int x129)]) (st' := [.int x127]) (h' := Hp S132) 1 (fun Z => rfl) ?_
        by_cases hc : x127 = 0
        · rw [if_pos hc] at hw
          refine wp_st (pc' := 1680) (L' := [some (.ref a0), some (.ref 0), some (.ref 65), some (.ref 91), some (.int (nI a4)), some (.int x127), some (.int x129)]) (st' := []) (h' := Hp S132) 1 (fun Z => if_pos hc) ?_
          refine wp_st (pc' := 1682) (L' := [some (.ref a0), some (.ref 0), some (.ref 65), some (.ref 91), some (.int (nI a4)), some (.int x127), some (.int x129)]) (st' := [.int 0, .ref 91]) (h' := Hp S132) 2 (fun Z => rfl) ?_
          refine wp_st (pc' := 1683) (L' := [some (.ref a0), some (.ref 0), some (.ref 65), some (.ref 91), some (.int (nI a4)), some (.int x127), some (.int x129)]) (st' := [.long (catL (S132 91 0) (S132 91 1))]) (h' := Hp S132) 1 (fun Z => ldJ0 (E := E) sh91 (by decide) [] (fun st => Z (d + 1) m_law_law 1683 [some (.ref a0), some (.ref 0), some (.ref 65), some (.ref 91), some (.int (nI a4)), some (.int x127), some (.int x129)] st (Hp S132))) ?_
          refine wp_st (pc' := 1687) (L' := [some (.ref a0), some (.ref 0), some (.ref 65), some (.ref 91), some (.int (nI a4)), some (.int x127), some (.int x129)]) (st' := [.int (lg_cmp (catL (S132 91 0) (S132 91 1)) (Int32.toInt64 x129))]) (h' := Hp S132) 3 (fun Z => rfl) ?_
          by_cases hc : (lg_cmp (catL (S132 91 0) (S132 91 1)) (Int32.toInt64 x129)) = 0
          · rw [if_pos hc] at hw
            refine wp_st (pc' := 1692) (L' := [some (.ref a0), some (.ref 0), some (.ref 65), some (.ref 91), some (.int (nI a4)), some (.int x127), some (.int x129)]) (st' := []) (h' := Hp S132) 1 (fun Z => if_pos hc) ?_
            refine wp_st (pc' := 2231) (L' := [some (.ref a0), some (.ref 0), some (.ref 65), some (.ref 91), some (.int (nI a4)), some (.int x127), some (.int x129)]) (st' := []) (h' := Hp S132) 1 (fun Z => rfl) ?_
            refine wp_st (pc' := 2234) (L' := [some (.ref a0), some (.ref 0), some (.ref 65), some (.ref 91), some (.int (nI (a4 + 6))), some (.int x127), some (.int x129)]) (st' := []) (h' := Hp S132) 1 (fun Z => by rw [← nI_add a4 6]; rfl) ?_
            exact wp_st 1 (fun Z => rfl) (show wp E (d + 1) m_law_law 23 [some (.ref a0), some (.ref 0), some (.ref 65), some (.ref 91), some (.int (nI (a4 + 6))), some (.int x127), some (.int x129)] [] (Hp S132) (QI Q) from (hw (some (.int x127)) (some (.int x129))))
          · rw [if_neg hc] at hw
            refine wp_st (pc' := 1690) (L' := [some (.ref a0), some (.ref 0), some (.ref 65), some (.ref 91), some (.int (nI a4)), some (.int x127), some (.int x129)]) (st' := []) (h' := Hp S132) 1 (fun Z => if_neg hc) ?_
            refine wp_st (pc' := 1691) (L' := [some (.ref a0), some (.ref 0), some (.ref 65), some (.ref 91), some (.int (nI a4)), some (.int x127), some (.int x129)]) (st' := [.int 0]) (h' := Hp S132) 1 (fun Z => rfl) ?_
            exact wp_ret (fun Z => rfl) ⟨_, _, rfl, rfl, hw⟩
        · rw [if_neg hc] at hw
          refine wp_st (pc' := 1692) (L' := [some (.ref a0), some (.ref 0), some (.ref 65), some (.ref 91), some (.int (nI a4)), some (.int x127), some (.int x129)]) (st' := []) (h' := Hp S132) 1 (fun Z => if_neg hc) ?_
          refine wp_st (pc' := 2231) (L' := [some (.ref a0), some (.ref 0), some (.ref 65), some (.ref 91), some (.int (nI a4)), some (.int x127), some (.int x129)]) (st' := []) (h' := Hp S132) 1 (fun Z => rfl) ?_
          refine wp_st (pc' := 2234) (L' := [some (.ref a0), some (.ref 0), some (.ref 65), some (.ref 91), some (.int (nI (a4 + 6))), some (.int x127), some (.int x129)]) (st' := []) (h' := Hp S132) 1 (fun Z => by rw [← nI_add a4 6]; rfl) ?_
          exact wp_st 1 (fun Z => rfl) (show wp E (d + 1) m_law_law 23 [some (.ref a0), some (.ref 0), some (.ref 65), some (.ref 91), some (.int (nI (a4 + 6))), some (.int x127), some (.int x129)] [] (Hp S132) (QI Q) from (hw (some (.int x127)) (some (.int x129))))
      · rw [if_neg hc] at hw
        refine wp_st (pc' := 1673) (L' := [some (.ref a0), some (.ref 0), some (.ref 65), some (.ref 91), some (.int (nI a4)), some (.int x127), some (.int x129)]) (st' := []) (h' := Hp S132) 1 (fun Z => if_neg hc) ?_
        refine wp_st (pc' := 1674) (L' := [some (.ref a0), some (.ref 0), some (.ref 65), some (.ref 91), some (.int (nI a4)), some (.int x127), some (.int x129)]) (st' := [.int 0]) (h' := Hp S132) 1 (fun Z => rfl) ?_
        exact wp_ret (fun Z => rfl) ⟨_, _, rfl, rfl, hw⟩
    rw [if_neg c25] at hw
    by_cases c26 : ((S a0 a4) &&& (63 : Int32)) = 26
    · rw [if_pos c26] at hw
      refine wp_st (pc' := 1695) (L' := [some (.ref a0), some (.ref 0), some (.ref 65), some (.ref 91), some (.int (nI a4)), j5, j6]) (st' := []) (h' := Hp S) 1 (fun Z => (show zsw (.tableswitch 2191 0 34 #[156, 229, 285, 298, 354, 422, 490, 515, 571, 639, 730, 798, 811, 891, 971, 1027, 1040, 1108, 1176, 1244, 1324, 1380, 1436, 1532, 1543, 1599, 1655, 1735, 1815, 1895, 1963, 2031, 2099, 2167, 2178]) 40 (.int ((S a0 a4) &&& (63 : Int32)) :: []) (fun t st1 => Z (d + 1) m_law_law t [some (.ref a0), some (.ref 0), some (.ref 65), some (.ref 91), some (.int (nI a4)), j5, j6] st1 (Hp S)) = _ from zsw_at (c := 26) (by rw [c26]; decide) (by decide) rfl rfl)) ?_
      refine wp_st (pc' := 1700) (L' := [some (.ref a0), some (.ref 0), some (.ref 65), some (.ref 91), some (.int (nI a4)), j5, j6]) (st' := [.int 1, .int (nI a4), .ref a0, .ref 0]) (h' := Hp S) 4 (fun Z => rfl) ?_
      refine wp_st (pc' := 1701) (L' := [some (.ref a0), some (.ref 0), some (.ref 65), some (.ref 91), some (.int (nI a4)), j5, j6]) (st' := [.int (nI (a4 + 1)), .ref a0, .ref 0]) (h' := Hp S) 1 (fun Z => by rw [← nI_add a4 1]; rfl) ?_
      obtain ⟨hi, hw⟩ := hw
      refine wp_st (pc' := 1702) (L' := [some (.ref a0), some (.ref 0), some (.ref 65), some (.ref 91), some (.int (nI a4)), j5, j6]) (st' := [.int (S a0 (a4 + 1)), .ref 0]) (h' := Hp S) 1 (fun Z => ldN (E := E) ha0 na0lt hi [.ref 0] (fun st => Z (d + 1) m_law_law 1702 [some (.ref a0), some (.ref 0), some (.ref 65), some (.ref 91), some (.int (nI a4)), j5, j6] st (Hp S))) ?_
      refine wp_st (pc' := 1706) (L' := [some (.ref a0), some (.ref 0), some (.ref 65), some (.ref 91), some (.int (nI a4)), j5, j6]) (st' := [.int 2, .int (nI a4), .ref a0, .int (S a0 (a4 + 1)), .ref 0]) (h' := Hp S) 3 (fun Z => rfl) ?_
      refine wp_st (pc' := 1707) (L' := [some (.ref a0), some (.ref 0), some (.ref 65), some (.ref 91), some (.int (nI a4)), j5, j6]) (st' := [.int (nI (a4 + 2)), .ref a0, .int (S a0 (a4 + 1)), .ref 0]) (h' := Hp S) 1 (fun Z => by rw [← nI_add a4 2]; rfl) ?_
      obtain ⟨hi, hw⟩ := hw
      refine wp_st (pc' := 1708) (L' := [some (.ref a0), some (.ref 0), some (.ref 65), some (.ref 91), some (.int (nI a4)), j5, j6]) (st' := [.int (S a0 (a4 + 2)), .int (S a0 (a4 + 1)), .ref 0]) (h' := Hp S) 1 (fun Z => ldN (E := E) ha0 na0lt hi [.int (S a0 (a4 + 1)), .ref 0] (fun st => Z (d + 1) m_law_law 1708 [some (.ref a0), some (.ref 0), some (.ref 65), some (.ref 91), some (.int (nI a4)), j5, j6] st (Hp S))) ?_
      refine wp_st (pc' := 1712) (L' := [some (.ref a0), some (.ref 0), some (.ref 65), some (.ref 91), some (.int (nI a4)), j5, j6]) (st' := [.int 3, .int (nI a4), .ref a0, .int (S a0 (a4 + 2)), .int (S a0 (a4 + 1)), .ref 0]) (h' := Hp S) 3 (fun Z => rfl) ?_
      refine wp_st (pc' := 1713) (L' := [some (.ref a0), some (.ref 0), some (.ref 65), some (.ref 91), some (.int (nI a4)), j5, j6]) (st' := [.int (nI (a4 + 3)), .ref a0, .int (S a0 (a4 + 2)), .int (S a0 (a4 + 1)), .ref 0]) (h' := Hp S) 1 (fun Z => by rw [← nI_add a4 3]; rfl) ?_
      obtain ⟨hi, hw⟩ := hw
      refine wp_st (pc' := 1714) (L' := [some (.ref a0), some (.ref 0), some (.ref 65), some (.ref 91), some (.int (nI a4)), j5, j6]) (st' := [.int (S a0 (a4 + 3)), .int (S a0 (a4 + 2)), .int (S a0 (a4 + 1)), .ref 0]) (h' := Hp S) 1 (fun Z => ldN (E := E) ha0 na0lt hi [.int (S a0 (a4 + 2)), .int (S a0 (a4 + 1)), .ref 0] (fun st => Z (d + 1) m_law_law 1714 [some (.ref a0), some (.ref 0), some (.ref 65), some (.ref 91), some (.int (nI a4)), j5, j6] st (Hp S))) ?_
      refine wp_st (pc' := 1715) (L' := [some (.ref a0), some (.ref 0), some (.ref 65), some (.ref 91), some (.int (nI a4)), j5, j6]) (st' := [.ref 91, .int (S a0 (a4 + 3)), .int (S a0 (a4 + 2)), .int (S a0 (a4 + 1)), .ref 0]) (h' := Hp S) 1 (fun Z => rfl) ?_
      refine wp_call (pc' := 1718) (rest := []) (fun Z => rfl) rfl hw ?_
      rintro o h1 ⟨x133, S134, rfl, rfl, hw⟩
      refine ⟨_, rfl, ?_⟩
      show wp E (d + 1) m_law_law 1718 [some (.ref a0), some (.ref 0), some (.ref 65), some (.ref 91), some (.int (nI a4)), j5, j6] [.int x133] (Hp S134) (QI Q)
      refine wp_st (pc' := 1725) (L' := [some (.ref a0), some (.ref 0), some (.ref 65), some (.ref 91), some (.int (nI a4)), some (.int x133), j6]) (st' := [.int 1, .int (nI a4), .ref a0, .ref 65]) (h' := Hp S134) 5 (fun Z => rfl) ?_
      refine wp_st (pc' := 1726) (L' := [some (.ref a0), some (.ref 0), some (.ref 65), some (.ref 91), some (.int (nI a4)), some (.int x133), j6]) (st' := [.int (nI (a4 + 1)), .ref a0, .ref 65]) (h' := Hp S134) 1 (fun Z => by rw [← nI_add a4 1]; rfl) ?_
      obtain ⟨hi, hw⟩ := hw
      refine wp_st (pc' := 1727) (L' := [some (.ref a0), some (.ref 0), some (.ref 65), some (.ref 91), some (.int (nI a4)), some (.int x133), j6]) (st' := [.int (S134 a0 (a4 + 1)), .ref 65]) (h' := Hp S134) 1 (fun Z => ldN (E := E) ha0 na0lt hi [.ref 65] (fun st => Z (d + 1) m_law_law 1727 [some (.ref a0), some (.ref 0), some (.ref 65), some (.ref 91), some (.int (nI a4)), some (.int x133), j6] st (Hp S134))) ?_
      refine wp_st (pc' := 1731) (L' := [some (.ref a0), some (.ref 0), some (.ref 65), some (.ref 91), some (.int (nI a4)), some (.int x133), j6]) (st' := [.int 2, .int (nI a4), .ref a0, .int (S134 a0 (a4 + 1)), .ref 65]) (h' := Hp S134) 3 (fun Z => rfl) ?_
      refine wp_st (pc' := 1732) (L' := [some (.ref a0), some (.ref 0), some (.ref 65), some (.ref 91), some (.int (nI a4)), some (.int x133), j6]) (st' := [.int (nI (a4 + 2)), .ref a0, .int (S134 a0 (a4 + 1)), .ref 65]) (h' := Hp S134) 1 (fun Z => by rw [← nI_add a4 2]; rfl) ?_
      obtain ⟨hi, hw⟩ := hw
      refine wp_st (pc' := 1733) (L' := [some (.ref a0), some (.ref 0), some (.ref 65), some (.ref 91), some (.int (nI a4)), some (.int x133), j6]) (st' := [.int (S134 a0 (a4 + 2)), .int (S134 a0 (a4 + 1)), .ref 65]) (h' := Hp S134) 1 (fun Z => ldN (E := E) ha0 na0lt hi [.int (S134 a0 (a4 + 1)), .ref 65] (fun st => Z (d + 1) m_law_law 1733 [some (.ref a0), some (.ref 0), some (.ref 65), some (.ref 91), some (.int (nI a4)), some (.int x133), j6] st (Hp S134))) ?_
      refine wp_st (pc' := 1737) (L' := [some (.ref a0), some (.ref 0), some (.ref 65), some (.ref 91), some (.int (nI a4)), some (.int x133), j6]) (st' := [.int 3, .int (nI a4), .ref a0, .int (S134 a0 (a4 + 2)), .int (S134 a0 (a4 + 1)), .ref 65]) (h' := Hp S134) 3 (fun Z => rfl) ?_
      refine wp_st (pc' := 1738) (L' := [some (.ref a0), some (.ref 0), some (.ref 65), some (.ref 91), some (.int (nI a4)), some (.int x133), j6]) (st' := [.int (nI (a4 + 3)), .ref a0, .int (S134 a0 (a4 + 2)), .int (S134 a0 (a4 + 1)), .ref 65]) (h' := Hp S134) 1 (fun Z => by rw [← nI_add a4 3]; rfl) ?_
      obtain ⟨hi, hw⟩ := hw
      refine wp_st (pc' := 1739) (L' := [some (.ref a0), some (.ref 0), some (.ref 65), some (.ref 91), some (.int (nI a4)), some (.int x133), j6]) (st' := [.int (S134 a0 (a4 + 3)), .int (S134 a0 (a4 + 2)), .int (S134 a0 (a4 + 1)), .ref 65]) (h' := Hp S134) 1 (fun Z => ldN (E := E) ha0 na0lt hi [.int (S134 a0 (a4 + 2)), .int (S134 a0 (a4 + 1)), .ref 65] (fun st => Z (d + 1) m_law_law 1739 [some (.ref a0), some (.ref 0), some (.ref 65), some (.ref 91), some (.int (nI a4)), some (.int x133), j6] st (Hp S134))) ?_
      refine wp_call (pc' := 1742) (rest := []) (fun Z => rfl) (isO_of sh65) hw ?_
      rintro o h1 ⟨x135, S136, rfl, rfl, hw⟩
      refine ⟨_, rfl, ?_⟩
      show wp E (d + 1) m_law_law 1742 [some (.ref a0), some (.ref 0), some (.ref 65), some (.ref 91), some (.int (nI a4)), some (.int x133), j6] [.int x135] (Hp S136) (QI Q)
      refine wp_st (pc' := 1745) (L' := [some (.ref a0), some (.ref 0), some (.ref 65), some (.ref 91), some (.int (nI a4)), some (.int x133), some (.int x135)]) (st' := [.ref 65]) (h' := Hp S136) 2 (fun Z => rfl) ?_
      refine wp_call (pc' := 1748) (rest := []) (fun Z => rfl) (isO_of sh65) hw ?_
      rintro o h1 ⟨x137, S138, rfl, rfl, hw⟩
      refine ⟨_, rfl, ?_⟩
      show wp E (d + 1) m_law_law 1748 [some (.ref a0), some (.ref 0), some (.ref 65), some (.ref 91), some (.int (nI a4)), some (.int x133), some (.int x135)] [.int x137] (Hp S138) (QI Q)
      refine wp_st (pc' := 1750) (L' := [some (.ref a0), some (.ref 0), some (.ref 65), some (.ref 91), some (.int (nI a4)), some (.int x133), some (.int x135)]) (st' := [.int x133, .int x137]) (h' := Hp S138) 1 (fun Z => rfl) ?_
      by_cases hc : x137 = x133
      · rw [if_pos hc] at hw
        refine wp_st (pc' := 1755) (L' := [some (.ref a0), some (.ref 0), some (.ref 65), some (.ref 91), some (.int (nI a4)), some (.int x133), some (.int x135)]) (st' := []) (h' := Hp S138) 1 (fun Z => if_pos hc) ?_
        refine wp_st (pc' := 1757) (L' := [some (.ref a0), some (.ref 0), some (.ref 65), some (.ref 91), some (.int (nI a4)), some (.int x133), some (.int x135)]) (st' := [.int x133]) (h' := Hp S138) 1 (fun Z => rfl) ?_
        by_cases hc : x133 = 0
        · rw [if_pos hc] at hw
          refine wp_st (pc' := 1760) (L' := [some (.ref a0), some (.ref 0), some (.ref 65), some (.ref 91), some (.int (nI a4)), some (.int x133), some (.int x135)]) (st' := []) (h' := Hp S138) 1 (fun Z => if_pos hc) ?_
          refine wp_st (pc' := 1762) (L' := [some (.ref a0), some (.ref 0), some (.ref 65), some (.ref 91), some (.int (nI a4)), some (.int x133), some (.int x135)]) (st' := [.int 0, .ref 91]) (h' := Hp S138) 2 (fun Z => rfl) ?_
          refine wp_st (pc' := 1763) (L' := [some (.ref a0), some (.ref 0), some (.ref 65), some (.ref 91), some (.int (nI a4)), some (.int x133), some (.int x135)]) (st' := [.long (catL (S138 91 0) (S138 91 1))]) (h' := Hp S138) 1 (fun Z => ldJ0 (E := E) sh91 (by decide) [] (fun st => Z (d + 1) m_law_law 1763 [some (.ref a0), some (.ref 0), some (.ref 65), some (.ref 91), some (.int (nI a4)), some (.int x133), some (.int x135)] st (Hp S138))) ?_
          refine wp_st (pc' := 1767) (L' := [some (.ref a0), some (.ref 0), some (.ref 65), some (.ref 91), some (.int (nI a4)), some (.int x133), some (.int x135)]) (st' := [.int (lg_cmp (catL (S138 91 0) (S138 91 1)) (Int32.toInt64 x135))]) (h' := Hp S138) 3 (fun Z => rfl) ?_
          by_cases hc : (lg_cmp (catL (S138 91 0) (S138 91 1)) (Int32.toInt64 x135)) = 0
          · rw [if_pos hc] at hw
            refine wp_st (pc' := 1772) (L' := [some (.ref a0), some (.ref 0), some (.ref 65), some (.ref 91), some (.int (nI a4)), some (.int x133), some (.int x135)]) (st' := []) (h' := Hp S138) 1 (fun Z => if_pos hc) ?_
            refine wp_st (pc' := 2231) (L' := [some (.ref a0), some (.ref 0), some (.ref 65), some (.ref 91), some (.int (nI a4)), some (.int x133), some (.int x135)]) (st' := []) (h' := Hp S138) 1 (fun Z => rfl) ?_
            refine wp_st (pc' := 2234) (L' := [some (.ref a0), some (.ref 0), some (.ref 65), some (.ref 91), some (.int (nI (a4 + 6))), some (.int x133), some (.int x135)]) (st' := []) (h' := Hp S138) 1 (fun Z => by rw [← nI_add a4 6]; rfl) ?_
            exact wp_st 1 (fun Z => rfl) (show wp E (d + 1) m_law_law 23 [some (.ref a0), some (.ref 0), some (.ref 65), some (.ref 91), some (.int (nI (a4 + 6))), some (.int x133), some (.int x135)] [] (Hp S138) (QI Q) from (hw (some (.int x133)) (some (.int x135))))
          · rw [if_neg hc] at hw
            refine wp_st (pc' := 1770) (L' := [some (.ref a0), some (.ref 0), some (.ref 65), some (.ref 91), some (.int (nI a4)), some (.int x133), some (.int x135)]) (st' := []) (h' := Hp S138) 1 (fun Z => if_neg hc) ?_
            refine wp_st (pc' := 1771) (L' := [some (.ref a0), some (.ref 0), some (.ref 65), some (.ref 91), some (.int (nI a4)), some (.int x133), some (.int x135)]) (st' := [.int 0]) (h' := Hp S138) 1 (fun Z => rfl) ?_
            exact wp_ret (fun Z => rfl) ⟨_, _, rfl, rfl, hw⟩
        · rw [if_neg hc] at hw
          refine wp_st (pc' := 1772) (L' := [some (.ref a0), some (.ref 0), some (.ref 65), some (.ref 91), some (.int (nI a4)), some (.int x133), some (.int x135)]) (st' := []) (h' := Hp S138) 1 (fun Z => if_neg hc) ?_
          refine wp_st (pc' := 2231) (L' := [some (.ref a0), some (.ref 0), some (.ref 65), some (.ref 91), some (.int (nI a4)), some (.int x133), some (.int x135)]) (st' := []) (h' := Hp S138) 1 (fun Z => rfl) ?_
          refine wp_st (pc' := 2234) (L' := [some (.ref a0), some (.ref 0), some (.ref 65), some (.ref 91), some (.int (nI (a4 + 6))), some (.int x133), some (.int x135)]) (st' := []) (h' := Hp S138) 1 (fun Z => by rw [← nI_add a4 6]; rfl) ?_
          exact wp_st 1 (fun Z => rfl) (show wp E (d + 1) m_law_law 23 [some (.ref a0), some (.ref 0), some (.ref 65), some (.ref 91), some (.int (nI (a4 + 6))), some (.int x133), some (.int x135)] [] (Hp S138) (QI Q) from (hw (some (.int x133)) (some (.int x135))))
      · rw [if_neg hc] at hw
        refine wp_st (pc' := 1753) (L' := [some (.ref a0), some (.ref 0), some (.ref 65), some (.ref 91), some (.int (nI a4)), some (.int x133), some (.int x135)]) (st' := []) (h' := Hp S138) 1 (fun Z => if_neg hc) ?_
        refine wp_st (pc' := 1754) (L' := [some (.ref a0), some (.ref 0), some (.ref 65), some (.ref 91), some (.int (nI a4)), some (.int x133), some (.int x135)]) (st' := [.int 0]) (h' := Hp S138) 1 (fun Z => rfl) ?_
        exact wp_ret (fun Z => rfl) ⟨_, _, rfl, rfl, hw⟩
    rw [if_neg c26] at hw
    by_cases c27 : ((S a0 a4) &&& (63 : Int32)) = 27
    · rw [if_pos c27] at hw
      refine wp_st (pc' := 1775) (L' := [some (.ref a0), some (.ref 0), some (.ref 65), some (.ref 91), some (.int (nI a4)), j5, j6]) (st' := []) (h' := Hp S) 1 (fun Z => (show zsw (.tableswitch 2191 0 34 #[156, 229, 285, 298, 354, 422, 490, 515, 571, 639, 730, 798, 811, 891, 971, 1027, 1040, 1108, 1176, 1244, 1324, 1380, 1436, 1532, 1543, 1599, 1655, 1735, 1815, 1895, 1963, 2031, 2099, 2167, 2178]) 40 (.int ((S a0 a4) &&& (63 : Int32)) :: []) (fun t st1 => Z (d + 1) m_law_law t [some (.ref a0), some (.ref 0), some (.ref 65), some (.ref 91), some (.int (nI a4)), j5, j6] st1 (Hp S)) = _ from zsw_at (c := 27) (by rw [c27]; decide) (by decide) rfl rfl)) ?_
      refine wp_st (pc' := 1780) (L' := [some (.ref a0), some (.ref 0), some (.ref 65), some (.ref 91), some (.int (nI a4)), j5, j6]) (st' := [.int 1, .int (nI a4), .ref a0, .ref 0]) (h' := Hp S) 4 (fun Z => rfl) ?_
      refine wp_st (pc' := 1781) (L' := [some (.ref a0), some (.ref 0), some (.ref 65), some (.ref 91), some (.int (nI a4)), j5, j6]) (st' := [.int (nI (a4 + 1)), .ref a0, .ref 0]) (h' := Hp S) 1 (fun Z => by rw [← nI_add a4 1]; rfl) ?_
      obtain ⟨hi, hw⟩ := hw
      refine wp_st (pc' := 1782) (L' := [some (.ref a0), some (.ref 0), some (.ref 65), some (.ref 91), some (.int (nI a4)), j5, j6]) (st' := [.int (S a0 (a4 + 1)), .ref 0]) (h' := Hp S) 1 (fun Z => ldN (E := E) ha0 na0lt hi [.ref 0] (fun st => Z (d + 1) m_law_law 1782 [some (.ref a0), some (.ref 0), some (.ref 65), some (.ref 91), some (.int (nI a4)), j5, j6] st (Hp S))) ?_
      refine wp_st (pc' := 1786) (L' := [some (.ref a0), some (.ref 0), some (.ref 65), some (.ref 91), some (.int (nI a4)), j5, j6]) (st' := [.int 2, .int (nI a4), .ref a0, .int (S a0 (a4 + 1)), .ref 0]) (h' := Hp S) 3 (fun Z => rfl) ?_
      refine wp_st (pc' := 1787) (L' := [some (.ref a0), some (.ref 0), some (.ref 65), some (.ref 91), some (.int (nI a4)), j5, j6]) (st' := [.int (nI (a4 + 2)), .ref a0, .int (S a0 (a4 + 1)), .ref 0]) (h' := Hp S) 1 (fun Z => by rw [← nI_add a4 2]; rfl) ?_
      obtain ⟨hi, hw⟩ := hw
      refine wp_st (pc' := 1788) (L' := [some (.ref a0), some (.ref 0), some (.ref 65), some (.ref 91), some (.int (nI a4)), j5, j6]) (st' := [.int (S a0 (a4 + 2)), .int (S a0 (a4 + 1)), .ref 0]) (h' := Hp S) 1 (fun Z => ldN (E := E) ha0 na0lt hi [.int (S a0 (a4 + 1)), .ref 0] (fun st => Z (d + 1) m_law_law 1788 [some (.ref a0), some (.ref 0), some (.ref 65), some (.ref 91), some (.int (nI a4)), j5, j6] st (Hp S))) ?_
      refine wp_st (pc' := 1792) (L' := [some (.ref a0), some (.ref 0), some (.ref 65), some (.ref 91), some (.int (nI a4)), j5, j6]) (st' := [.int 3, .int (nI a4), .ref a0, .int (S a0 (a4 + 2)), .int (S a0 (a4 + 1)), .ref 0]) (h' := Hp S) 3 (fun Z => rfl) ?_
      refine wp_st (pc' := 1793) (L' := [some (.ref a0), some (.ref 0), some (.ref 65), some (.ref 91), some (.int (nI a4)), j5, j6]) (st' := [.int (nI (a4 + 3)), .ref a0, .int (S a0 (a4 + 2)), .int (S a0 (a4 + 1)), .ref 0]) (h' := Hp S) 1 (fun Z => by rw [← nI_add a4 3]; rfl) ?_
      obtain ⟨hi, hw⟩ := hw
      refine wp_st (pc' := 1794) (L' := [some (.ref a0), some (.ref 0), some (.ref 65), some (.ref 91), some (.int (nI a4)), j5, j6]) (st' := [.int (S a0 (a4 + 3)), .int (S a0 (a4 + 2)), .int (S a0 (a4 + 1)), .ref 0]) (h' := Hp S) 1 (fun Z => ldN (E := E) ha0 na0lt hi [.int (S a0 (a4 + 2)), .int (S a0 (a4 + 1)), .ref 0] (fun st => Z (d + 1) m_law_law 1794 [some (.ref a0), some (.ref 0), some (.ref 65), some (.ref 91), some (.int (nI a4)), j5, j6] st (Hp S))) ?_
      refine wp_st (pc' := 1795) (L' := [some (.ref a0), some (.ref 0), some (.ref 65), some (.ref 91), some (.int (nI a4)), j5, j6]) (st' := [.ref 91, .int (S a0 (a4 + 3)), .int (S a0 (a4 + 2)), .int (S a0 (a4 + 1)), .ref 0]) (h' := Hp S) 1 (fun Z => rfl) ?_
      refine wp_call (pc' := 1798) (rest := []) (fun Z => rfl) rfl hw ?_
      rintro o h1 ⟨x139, S140, rfl, rfl, hw⟩
      refine ⟨_, rfl, ?_⟩
      show wp E (d + 1) m_law_law 1798 [some (.ref a0), some (.ref 0), some (.ref 65), some (.ref 91), some (.int (nI a4)), j5, j6] [.int x139] (Hp S140) (QI Q)
      refine wp_st (pc' := 1805) (L' := [some (.ref a0), some (.ref 0), some (.ref 65), some (.ref 91), some (.int (nI a4)), some (.int x139), j6]) (st' := [.int 1, .int (nI a4), .ref a0, .ref 65]) (h' := Hp S140) 5 (fun Z => rfl) ?_
      refine wp_st (pc' := 1806) (L' := [some (.ref a0), some (.ref 0), some (.ref 65), some (.ref 91), some (.int (nI a4)), some (.int x139), j6]) (st' := [.int (nI (a4 + 1)), .ref a0, .ref 65]) (h' := Hp S140) 1 (fun Z => by rw [← nI_add a4 1]; rfl) ?_
      obtain ⟨hi, hw⟩ := hw
      refine wp_st (pc' := 1807) (L' := [some (.ref a0), some (.ref 0), some (.ref 65), some (.ref 91), some (.int (nI a4)), some (.int x139), j6]) (st' := [.int (S140 a0 (a4 + 1)), .ref 65]) (h' := Hp S140) 1 (fun Z => ldN (E := E) ha0 na0lt hi [.ref 65] (fun st => Z (d + 1) m_law_law 1807 [some (.ref a0), some (.ref 0), some (.ref 65), some (.ref 91), some (.int (nI a4)), some (.int x139), j6] st (Hp S140))) ?_
      refine wp_st (pc' := 1811) (L' := [some (.ref a0), some (.ref 0), some (.ref 65), some (.ref 91), some (.int (nI a4)), some (.int x139), j6]) (st' := [.int 2, .int (nI a4), .ref a0, .int (S140 a0 (a4 + 1)), .ref 65]) (h' := Hp S140) 3 (fun Z => rfl) ?_
      refine wp_st (pc' := 1812) (L' := [some (.ref a0), some (.ref 0), some (.ref 65), some (.ref 91), some (.int (nI a4)), some (.int x139), j6]) (st' := [.int (nI (a4 + 2)), .ref a0, .int (S140 a0 (a4 + 1)), .ref 65]) (h' := Hp S140) 1 (fun Z => by rw [← nI_add a4 2]; rfl) ?_
      obtain ⟨hi, hw⟩ := hw
      refine wp_st (pc' := 1813) (L' := [some (.ref a0), some (.ref 0), some (.ref 65), some (.ref 91), some (.int (nI a4)), some (.int x139), j6]) (st' := [.int (S140 a0 (a4 + 2)), .int (S140 a0 (a4 + 1)), .ref 65]) (h' := Hp S140) 1 (fun Z => ldN (E := E) ha0 na0lt hi [.int (S140 a0 (a4 + 1)), .ref 65] (fun st => Z (d + 1) m_law_law 1813 [some (.ref a0), some (.ref 0), some (.ref 65), some (.ref 91), some (.int (nI a4)), some (.int x139), j6] st (Hp S140))) ?_
      refine wp_st (pc' := 1817) (L' := [some (.ref a0), some (.ref 0), some (.ref 65), some (.ref 91), some (.int (nI a4)), some (.int x139), j6]) (st' := [.int 3, .int (nI a4), .ref a0, .int (S140 a0 (a4 + 2)), .int (S140 a0 (a4 + 1)), .ref 65]) (h' := Hp S140) 3 (fun Z => rfl) ?_
      refine wp_st (pc' := 1818) (L' := [some (.ref a0), some (.ref 0), some (.ref 65), some (.ref 91), some (.int (nI a4)), some (.int x139), j6]) (st' := [.int (nI (a4 + 3)), .ref a0, .int (S140 a0 (a4 + 2)), .int (S140 a0 (a4 + 1)), .ref 65]) (h' := Hp S140) 1 (fun Z => by rw [← nI_add a4 3]; rfl) ?_
      obtain ⟨hi, hw⟩ := hw
      refine wp_st (pc' := 1819) (L' := [some (.ref a0), some (.ref 0), some (.ref 65), some (.ref 91), some (.int (nI a4)), some (.int x139), j6]) (st' := [.int (S140 a0 (a4 + 3)), .int (S140 a0 (a4 + 2)), .int (S140 a0 (a4 + 1)), .ref 65]) (h' := Hp S140) 1 (fun Z => ldN (E := E) ha0 na0lt hi [.int (S140 a0 (a4 + 2)), .int (S140 a0 (a4 + 1)), .ref 65] (fun st => Z (d + 1) m_law_law 1819 [some (.ref a0), some (.ref 0), some (.ref 65), some (.ref 91), some (.int (nI a4)), some (.int x139), j6] st (Hp S140))) ?_
      refine wp_call (pc' := 1822) (rest := []) (fun Z => rfl) (isO_of sh65) hw ?_
      rintro o h1 ⟨x141, S142, rfl, rfl, hw⟩
      refine ⟨_, rfl, ?_⟩
      show wp E (d + 1) m_law_law 1822 [some (.ref a0), some (.ref 0), some (.ref 65), some (.ref 91), some (.int (nI a4)), some (.int x139), j6] [.int x141] (Hp S142) (QI Q)
      refine wp_st (pc' := 1825) (L' := [some (.ref a0), some (.ref 0), some (.ref 65), some (.ref 91), some (.int (nI a4)), some (.int x139), some (.int x141)]) (st' := [.ref 65]) (h' := Hp S142) 2 (fun Z => rfl) ?_
      refine wp_call (pc' := 1828) (rest := []) (fun Z => rfl) (isO_of sh65) hw ?_
      rintro o h1 ⟨x143, S144, rfl, rfl, hw⟩
      refine ⟨_, rfl, ?_⟩
      show wp E (d + 1) m_law_law 1828 [some (.ref a0), some (.ref 0), some (.ref 65), some (.ref 91), some (.int (nI a4)), some (.int x139), some (.int x141)] [.int x143] (Hp S144) (QI Q)
      refine wp_st (pc' := 1830) (L' := [some (.ref a0), some (.ref 0), some (.ref 65), some (.ref 91), some (.int (nI a4)), some (.int x139), some (.int x141)]) (st' := [.int x139, .int x143]) (h' := Hp S144) 1 (fun Z => rfl) ?_
      by_cases hc : x143 = x139
      · rw [if_pos hc] at hw
        refine wp_st (pc' := 1835) (L' := [some (.ref a0), some (.ref 0), some (.ref 65), some (.ref 91), some (.int (nI a4)), some (.int x139), some (.int x141)]) (st' := []) (h' := Hp S144) 1 (fun Z => if_pos hc) ?_
        refine wp_st (pc' := 1837) (L' := [some (.ref a0), some (.ref 0), some (.ref 65), some (.ref 91), some (.int (nI a4)), some (.int x139), some (.int x141)]) (st' := [.int x139]) (h' := Hp S144) 1 (fun Z => rfl) ?_
        by_cases hc : x139 = 0
        · rw [if_pos hc] at hw
          refine wp_st (pc' := 1840) (L' := [some (.ref a0), some (.ref 0), some (.ref 65), some (.ref 91), some (.int (nI a4)), some (.int x139), some (.int x141)]) (st' := []) (h' := Hp S144) 1 (fun Z => if_pos hc) ?_
          refine wp_st (pc' := 1842) (L' := [some (.ref a0), some (.ref 0), some (.ref 65), some (.ref 91), some (.int (nI a4)), some (.int x139), some (.int x141)]) (st' := [.int 0, .ref 91]) (h' := Hp S144) 2 (fun Z => rfl) ?_
          refine wp_st (pc' := 1843) (L' := [some (.ref a0), some (.ref 0), some (.ref 65), some (.ref 91), some (.int (nI a4)), some (.int x139), some (.int x141)]) (st' := [.long (catL (S144 91 0) (S144 91 1))]) (h' := Hp S144) 1 (fun Z => ldJ0 (E := E) sh91 (by decide) [] (fun st => Z (d + 1) m_law_law 1843 [some (.ref a0), some (.ref 0), some (.ref 65), some (.ref 91), some (.int (nI a4)), some (.int x139), some (.int x141)] st (Hp S144))) ?_
          refine wp_st (pc' := 1847) (L' := [some (.ref a0), some (.ref 0), some (.ref 65), some (.ref 91), some (.int (nI a4)), some (.int x139), some (.int x141)]) (st' := [.int (lg_cmp (catL (S144 91 0) (S144 91 1)) (Int32.toInt64 x141))]) (h' := Hp S144) 3 (fun Z => rfl) ?_
          by_cases hc : (lg_cmp (catL (S144 91 0) (S144 91 1)) (Int32.toInt64 x141)) = 0
          · rw [if_pos hc] at hw
            refine wp_st (pc' := 1852) (L' := [some (.ref a0), some (.ref 0), some (.ref 65), some (.ref 91), some (.int (nI a4)), some (.int x139), some (.int x141)]) (st' := []) (h' := Hp S144) 1 (fun Z => if_pos hc) ?_
            refine wp_st (pc' := 2231) (L' := [some (.ref a0), some (.ref 0), some (.ref 65), some (.ref 91), some (.int (nI a4)), some (.int x139), some (.int x141)]) (st' := []) (h' := Hp S144) 1 (fun Z => rfl) ?_
            refine wp_st (pc' := 2234) (L' := [some (.ref a0), some (.ref 0), some (.ref 65), some (.ref 91), some (.int (nI (a4 + 6))), some (.int x139), some (.int x141)]) (st' := []) (h' := Hp S144) 1 (fun Z => by rw [← nI_add a4 6]; rfl) ?_
            exact wp_st 1 (fun Z => rfl) (show wp E (d + 1) m_law_law 23 [some (.ref a0), some (.ref 0), some (.ref 65), some (.ref 91), some (.int (nI (a4 + 6))), some (.int x139), some (.int x141)] [] (Hp S144) (QI Q) from (hw (some (.int x139)) (some (.int x141))))
          · rw [if_neg hc] at hw
            refine wp_st (pc' := 1850) (L' := [some (.ref a0), some (.ref 0), some (.ref 65), some (.ref 91), some (.int (nI a4)), some (.int x139), some (.int x141)]) (st' := []) (h' := Hp S144) 1 (fun Z => if_neg hc) ?_
            refine wp_st (pc' := 1851) (L' := [some (.ref a0), some (.ref 0), some (.ref 65), some (.ref 91), some (.int (nI a4)), some (.int x139), some (.int x141)]) (st' := [.int 0]) (h' := Hp S144) 1 (fun Z => rfl) ?_
            exact wp_ret (fun Z => rfl) ⟨_, _, rfl, rfl, hw⟩
        · rw [if_neg hc] at hw
          refine wp_st (pc' := 1852) (L' := [some (.ref a0), some (.ref 0), some (.ref 65), some (.ref 91), some (.int (nI a4)), some (.int x139), some (.int x141)]) (st' := []) (h' := Hp S144) 1 (fun Z => if_neg hc) ?_
          refine wp_st (pc' := 2231) (L' := [some (.ref a0), some (.ref 0), some (.ref 65), some (.ref 91), some (.int (nI a4)), some (.int x139), some (.int x141)]) (st' := []) (h' := Hp S144) 1 (fun Z => rfl) ?_
          refine wp_st (pc' := 2234) (L' := [some (.ref a0), some (.ref 0), some (.ref 65), some (.ref 91), some (.int (nI (a4 + 6))), some (.int x139), some (.int x141)]) (st' := []) (h' := Hp S144) 1 (fun Z => by rw [← nI_add a4 6]; rfl) ?_
          exact wp_st 1 (fun Z => rfl) (show wp E (d + 1) m_law_law 23 [some (.ref a0), some (.ref 0), some (.ref 65), some (.ref 91), some (.int (nI (a4 + 6))), some (.int x139), some (.int x141)] [] (Hp S144) (QI Q) from (hw (some (.int x139)) (some (.int x141))))
      · rw [if_neg hc] at hw
        refine wp_st (pc' := 1833) (L' := [some (.ref a0), some (.ref 0), some (.ref 65), some (.ref 91), some (.int (nI a4)), some (.int x139), some (.int x141)]) (st' := []) (h' := Hp S144) 1 (fun Z => if_neg hc) ?_
        refine wp_st (pc' := 1834) (L' := [some (.ref a0), some (.ref 0), some (.ref 65), some (.ref 91), some (.int (nI a4)), some (.int x139), some (.int x141)]) (st' := [.int 0]) (h' := Hp S144) 1 (fun Z => rfl) ?_
        exact wp_ret (fun Z => rfl) ⟨_, _, rfl, rfl, hw⟩
    rw [if_neg c27] at hw
    by_cases c28 : ((S a0 a4) &&& (63 : Int32)) = 28
    · rw [if_pos c28] at hw
      refine wp_st (pc' := 1855) (L' := [some (.ref a0), some (.ref 0), some (.ref 65), some (.ref 91), some (.int (nI a4)), j5, j6]) (st' := []) (h' := Hp S) 1 (fun Z => (show zsw (.tableswitch 2191 0 34 #[156, 229, 285, 298, 354, 422, 490, 515, 571, 639, 730, 798, 811, 891, 971, 1027, 1040, 1108, 1176, 1244, 1324, 1380, 1436, 1532, 1543, 1599, 1655, 1735, 1815, 1895, 1963, 2031, 2099, 2167, 2178]) 40 (.int ((S a0 a4) &&& (63 : Int32)) :: []) (fun t st1 => Z (d + 1) m_law_law t [some (.ref a0), some (.ref 0), some (.ref 65), some (.ref 91), some (.int (nI a4)), j5, j6] st1 (Hp S)) = _ from zsw_at (c := 28) (by rw [c28]; decide) (by decide) rfl rfl)) ?_
      refine wp_st (pc' := 1860) (L' := [some (.ref a0), some (.ref 0), some (.ref 65), some (.ref 91), some (.int (nI a4)), j5, j6]) (st' := [.int 1, .int (nI a4), .ref a0, .ref 0]) (h' := Hp S) 4 (fun Z => rfl) ?_
      refine wp_st (pc' := 1861) (L' := [some (.ref a0), some (.ref 0), some (.ref 65), some (.ref 91), some (.int (nI a4)), j5, j6]) (st' := [.int (nI (a4 + 1)), .ref a0, .ref 0]) (h' := Hp S) 1 (fun Z => by rw [← nI_add a4 1]; rfl) ?_
      obtain ⟨hi, hw⟩ := hw
      refine wp_st (pc' := 1862) (L' := [some (.ref a0), some (.ref 0), some (.ref 65), some (.ref 91), some (.int (nI a4)), j5, j6]) (st' := [.int (S a0 (a4 + 1)), .ref 0]) (h' := Hp S) 1 (fun Z => ldN (E := E) ha0 na0lt hi [.ref 0] (fun st => Z (d + 1) m_law_law 1862 [some (.ref a0), some (.ref 0), some (.ref 65), some (.ref 91), some (.int (nI a4)), j5, j6] st (Hp S))) ?_
      refine wp_st (pc' := 1866) (L' := [some (.ref a0), some (.ref 0), some (.ref 65), some (.ref 91), some (.int (nI a4)), j5, j6]) (st' := [.int 2, .int (nI a4), .ref a0, .int (S a0 (a4 + 1)), .ref 0]) (h' := Hp S) 3 (fun Z => rfl) ?_
      refine wp_st (pc' := 1867) (L' := [some (.ref a0), some (.ref 0), some (.ref 65), some (.ref 91), some (.int (nI a4)), j5, j6]) (st' := [.int (nI (a4 + 2)), .ref a0, .int (S a0 (a4 + 1)), .ref 0]) (h' := Hp S) 1 (fun Z => by rw [← nI_add a4 2]; rfl) ?_
      obtain ⟨hi, hw⟩ := hw
      refine wp_st (pc' := 1868) (L' := [some (.ref a0), some (.ref 0), some (.ref 65), some (.ref 91), some (.int (nI a4)), j5, j6]) (st' := [.int (S a0 (a4 + 2)), .int (S a0 (a4 + 1)), .ref 0]) (h' := Hp S) 1 (fun Z => ldN (E := E) ha0 na0lt hi [.int (S a0 (a4 + 1)), .ref 0] (fun st => Z (d + 1) m_law_law 1868 [some (.ref a0), some (.ref 0), some (.ref 65), some (.ref 91), some (.int (nI a4)), j5, j6] st (Hp S))) ?_
      refine wp_st (pc' := 1872) (L' := [some (.ref a0), some (.ref 0), some (.ref 65), some (.ref 91), some (.int (nI a4)), j5, j6]) (st' := [.int 3, .int (nI a4), .ref a0, .int (S a0 (a4 + 2)), .int (S a0 (a4 + 1)), .ref 0]) (h' := Hp S) 3 (fun Z => rfl) ?_
      refine wp_st (pc' := 1873) (L' := [some (.ref a0), some (.ref 0), some (.ref 65), some (.ref 91), some (.int (nI a4)), j5, j6]) (st' := [.int (nI (a4 + 3)), .ref a0, .int (S a0 (a4 + 2)), .int (S a0 (a4 + 1)), .ref 0]) (h' := Hp S) 1 (fun Z => by rw [← nI_add a4 3]; rfl) ?_
      obtain ⟨hi, hw⟩ := hw
      refine wp_st (pc' := 1874) (L' := [some (.ref a0), some (.ref 0), some (.ref 65), some (.ref 91), some (.int (nI a4)), j5, j6]) (st' := [.int (S a0 (a4 + 3)), .int (S a0 (a4 + 2)), .int (S a0 (a4 + 1)), .ref 0]) (h' := Hp S) 1 (fun Z => ldN (E := E) ha0 na0lt hi [.int (S a0 (a4 + 2)), .int (S a0 (a4 + 1)), .ref 0] (fun st => Z (d + 1) m_law_law 1874 [some (.ref a0), some (.ref 0), some (.ref 65), some (.ref 91), some (.int (nI a4)), j5, j6] st (Hp S))) ?_
      refine wp_st (pc' := 1875) (L' := [some (.ref a0), some (.ref 0), some (.ref 65), some (.ref 91), some (.int (nI a4)), j5, j6]) (st' := [.ref 91, .int (S a0 (a4 + 3)), .int (S a0 (a4 + 2)), .int (S a0 (a4 + 1)), .ref 0]) (h' := Hp S) 1 (fun Z => rfl) ?_
      refine wp_call (pc' := 1878) (rest := []) (fun Z => rfl) rfl hw ?_
      rintro o h1 ⟨x145, S146, rfl, rfl, hw⟩
      refine ⟨_, rfl, ?_⟩
      show wp E (d + 1) m_law_law 1878 [some (.ref a0), some (.ref 0), some (.ref 65), some (.ref 91), some (.int (nI a4)), j5, j6] [.int x145] (Hp S146) (QI Q)
      refine wp_st (pc' := 1885) (L' := [some (.ref a0), some (.ref 0), some (.ref 65), some (.ref 91), some (.int (nI a4)), some (.int x145), j6]) (st' := [.int 1, .int (nI a4), .ref a0, .ref 65]) (h' := Hp S146) 5 (fun Z => rfl) ?_
      refine wp_st (pc' := 1886) (L' := [some (.ref a0), some (.ref 0), some (.ref 65), some (.ref 91), some (.int (nI a4)), some (.int x145), j6]) (st' := [.int (nI (a4 + 1)), .ref a0, .ref 65]) (h' := Hp S146) 1 (fun Z => by rw [← nI_add a4 1]; rfl) ?_
      obtain ⟨hi, hw⟩ := hw
      refine wp_st (pc' := 1887) (L' := [some (.ref a0), some (.ref 0), some (.ref 65), some (.ref 91), some (.int (nI a4)), some (.int x145), j6]) (st' := [.int (S146 a0 (a4 + 1)), .ref 65]) (h' := Hp S146) 1 (fun Z => ldN (E := E) ha0 na0lt hi [.ref 65] (fun st => Z (d + 1) m_law_law 1887 [some (.ref a0), some (.ref 0), some (.ref 65), some (.ref 91), some (.int (nI a4)), some (.int x145), j6] st (Hp S146))) ?_
      refine wp_st (pc' := 1891) (L' := [some (.ref a0), some (.ref 0), some (.ref 65), some (.ref 91), some (.int (nI a4)), some (.int x145), j6]) (st' := [.int 2, .int (nI a4), .ref a0, .int (S146 a0 (a4 + 1)), .ref 65]) (h' := Hp S146) 3 (fun Z => rfl) ?_
      refine wp_st (pc' := 1892) (L' := [some (.ref a0), some (.ref 0), some (.ref 65), some (.ref 91), some (.int (nI a4)), some (.int x145), j6]) (st' := [.int (nI (a4 + 2)), .ref a0, .int (S146 a0 (a4 + 1)), .ref 65]) (h' := Hp S146) 1 (fun Z => by rw [← nI_add a4 2]; rfl) ?_
      obtain ⟨hi, hw⟩ := hw
      refine wp_st (pc' := 1893) (L' := [some (.ref a0), some (.ref 0), some (.ref 65), some (.ref 91), some (.int (nI a4)), some (.int x145), j6]) (st' := [.int (S146 a0 (a4 + 2)), .int (S146 a0 (a4 + 1)), .ref 65]) (h' := Hp S146) 1 (fun Z => ldN (E := E) ha0 na0lt hi [.int (S146 a0 (a4 + 1)), .ref 65] (fun st => Z (d + 1) m_law_law 1893 [some (.ref a0), some (.ref 0), some (.ref 65), some (.ref 91), some (.int (nI a4)), some (.int x145), j6] st (Hp S146))) ?_
      refine wp_st (pc' := 1897) (L' := [some (.ref a0), some (.ref 0), some (.ref 65), some (.ref 91), some (.int (nI a4)), some (.int x145), j6]) (st' := [.int 3, .int (nI a4), .ref a0, .int (S146 a0 (a4 + 2)), .int (S146 a0 (a4 + 1)), .ref 65]) (h' := Hp S146) 3 (fun Z => rfl) ?_
      refine wp_st (pc' := 1898) (L' := [some (.ref a0), some (.ref 0), some (.ref 65), some (.ref 91), some (.int (nI a4)), some (.int x145), j6]) (st' := [.int (nI (a4 + 3)), .ref a0, .int (S146 a0 (a4 + 2)), .int (S146 a0 (a4 + 1)), .ref 65]) (h' := Hp S146) 1 (fun Z => by rw [← nI_add a4 3]; rfl) ?_
      obtain ⟨hi, hw⟩ := hw
      refine wp_st (pc' := 1899) (L' := [some (.ref a0), some (.ref 0), some (.ref 65), some (.ref 91), some (.int (nI a4)), some (.int x145), j6]) (st' := [.int (S146 a0 (a4 + 3)), .int (S146 a0 (a4 + 2)), .int (S146 a0 (a4 + 1)), .ref 65]) (h' := Hp S146) 1 (fun Z => ldN (E := E) ha0 na0lt hi [.int (S146 a0 (a4 + 2)), .int (S146 a0 (a4 + 1)), .ref 65] (fun st => Z (d + 1) m_law_law 1899 [some (.ref a0), some (.ref 0), some (.ref 65), some (.ref 91), some (.int (nI a4)), some (.int x145), j6] st (Hp S146))) ?_
      refine wp_call (pc' := 1902) (rest := []) (fun Z => rfl) (isO_of sh65) hw ?_
      rintro o h1 ⟨x147, S148, rfl, rfl, hw⟩
      refine ⟨_, rfl, ?_⟩
      show wp E (d + 1) m_law_law 1902 [some (.ref a0), some (.ref 0), some (.ref 65), some (.ref 91), some (.int (nI a4)), some (.int x145), j6] [.int x147] (Hp S148) (QI Q)
      refine wp_st (pc' := 1905) (L' := [some (.ref a0), some (.ref 0), some (.ref 65), some (.ref 91), some (.int (nI a4)), some (.int x145), some (.int x147)]) (st' := [.ref 65]) (h' := Hp S148) 2 (fun Z => rfl) ?_
      refine wp_call (pc' := 1908) (rest := []) (fun Z => rfl) (isO_of sh65) hw ?_
      rintro o h1 ⟨x149, S150, rfl, rfl, hw⟩
      refine ⟨_, rfl, ?_⟩
      show wp E (d + 1) m_law_law 1908 [some (.ref a0), some (.ref 0), some (.ref 65), some (.ref 91), some (.int (nI a4)), some (.int x145), some (.int x147)] [.int x149] (Hp S150) (QI Q)
      refine wp_st (pc' := 1910) (L' := [some (.ref a0), some (.ref 0), some (.ref 65), some (.ref 91), some (.int (nI a4)), some (.int x145), some (.int x147)]) (st' := [.int x145, .int x149]) (h' := Hp S150) 1 (fun Z => rfl) ?_
      by_cases hc : x149 = x145
      · rw [if_pos hc] at hw
        refine wp_st (pc' := 1915) (L' := [some (.ref a0), some (.ref 0), some (.ref 65), some (.ref 91), some (.int (nI a4)), some (.int x145), some (.int x147)]) (st' := []) (h' := Hp S150) 1 (fun Z => if_pos hc) ?_
        refine wp_st (pc' := 1917) (L' := [some (.ref a0), some (.ref 0), some (.ref 65), some (.ref 91), some (.int (nI a4)), some (.int x145), some (.int x147)]) (st' := [.int x145]) (h' := Hp S150) 1 (fun Z => rfl) ?_
        by_cases hc : x145 = 0
        · rw [if_pos hc] at hw
          refine wp_st (pc' := 1920) (L' := [some (.ref a0), some (.ref 0), some (.ref 65), some (.ref 91), some (.int (nI a4)), some (.int x145), some (.int x147)]) (st' := []) (h' := Hp S150) 1 (fun Z => if_pos hc) ?_
          refine wp_st (pc' := 1922) (L' := [some (.ref a0), some (.ref 0), some (.ref 65), some (.ref 91), some (.int (nI a4)), some (.int x145), some (.int x147)]) (st' := [.int 0, .ref 91]) (h' := Hp S150) 2 (fun Z => rfl) ?_
          refine wp_st (pc' := 1923) (L' := [some (.ref a0), some (.ref 0), some (.ref 65), some (.ref 91), some (.int (nI a4)), some (.int x145), some (.int x147)]) (st' := [.long (catL (S150 91 0) (S150 91 1))]) (h' := Hp S150) 1 (fun Z => ldJ0 (E := E) sh91 (by decide) [] (fun st => Z (d + 1) m_law_law 1923 [some (.ref a0), some (.ref 0), some (.ref 65), some (.ref 91), some (.int (nI a4)), some (.int x145), some (.int x147)] st (Hp S150))) ?_
          refine wp_st (pc' := 1927) (L' := [some (.ref a0), some (.ref 0), some (.ref 65), some (.ref 91), some (.int (nI a4)), some (.int x145), some (.int x147)]) (st' := [.int (lg_cmp (catL (S150 91 0) (S150 91 1)) (Int32.toInt64 x147))]) (h' := Hp S150) 3 (fun Z => rfl) ?_
          by_cases hc : (lg_cmp (catL (S150 91 0) (S150 91 1)) (Int32.toInt64 x147)) = 0
          · rw [if_pos hc] at hw
            refine wp_st (pc' := 1932) (L' := [some (.ref a0), some (.ref 0), some (.ref 65), some (.ref 91), some (.int (nI a4)), some (.int x145), some (.int x147)]) (st' := []) (h' := Hp S150) 1 (fun Z => if_pos hc) ?_
            refine wp_st (pc' := 2231) (L' := [some (.ref a0), some (.ref 0), some (.ref 65), some (.ref 91), some (.int (nI a4)), some (.int x145), some (.int x147)]) (st' := []) (h' := Hp S150) 1 (fun Z => rfl) ?_
            refine wp_st (pc' := 2234) (L' := [some (.ref a0), some (.ref 0), some (.ref 65), some (.ref 91), some (.int (nI (a4 + 6))), some (.int x145), some (.int x147)]) (st' := []) (h' := Hp S150) 1 (fun Z => by rw [← nI_add a4 6]; rfl) ?_
            exact wp_st 1 (fun Z => rfl) (show wp E (d + 1) m_law_law 23 [some (.ref a0), some (.ref 0), some (.ref 65), some (.ref 91), some (.int (nI (a4 + 6))), some (.int x145), some (.int x147)] [] (Hp S150) (QI Q) from (hw (some (.int x145)) (some (.int x147))))
          · rw [if_neg hc] at hw
            refine wp_st (pc' := 1930) (L' := [some (.ref a0), some (.ref 0), some (.ref 65), some (.ref 91), some (.int (nI a4)), some (.int x145), some (.int x147)]) (st' := []) (h' := Hp S150) 1 (fun Z => if_neg hc) ?_
            refine wp_st (pc' := 1931) (L' := [some (.ref a0), some (.ref 0), some (.ref 65), some (.ref 91), some (.int (nI a4)), some (.int x145), some (.int x147)]) (st' := [.int 0]) (h' := Hp S150) 1 (fun Z => rfl) ?_
            exact wp_ret (fun Z => rfl) ⟨_, _, rfl, rfl, hw⟩
        · rw [if_neg hc] at hw
          refine wp_st (pc' := 1932) (L' := [some (.ref a0), some (.ref 0), some (.ref 65), some (.ref 91), some (.int (nI a4)), some (.int x145), some (.int x147)]) (st' := []) (h' := Hp S150) 1 (fun Z => if_neg hc) ?_
          refine wp_st (pc' := 2231) (L' := [some (.ref a0), some (.ref 0), some (.ref 65), some (.ref 91), some (.int (nI a4)), some (.int x145), some (.int x147)]) (st' := []) (h' := Hp S150) 1 (fun Z => rfl) ?_
          refine wp_st (pc' := 2234) (L' := [some (.ref a0), some (.ref 0), some (.ref 65), some (.ref 91), some (.int (nI (a4 + 6))), some (.int x145), some (.int x147)]) (st' := []) (h' := Hp S150) 1 (fun Z => by rw [← nI_add a4 6]; rfl) ?_
          exact wp_st 1 (fun Z => rfl) (show wp E (d + 1) m_law_law 23 [some (.ref a0), some (.ref 0), some (.ref 65), some (.ref 91), some (.int (nI (a4 + 6))), some (.int x145), some (.int x147)] [] (Hp S150) (QI Q) from (hw (some (.int x145)) (some (.int x147))))
      · rw [if_neg hc] at hw
        refine wp_st (pc' := 1913) (L' := [some (.ref a0), some (.ref 0), some (.ref 65), some (.ref 91), some (.int (nI a4)), some (.int x145), some (.int x147)]) (st' := []) (h' := Hp S150) 1 (fun Z => if_neg hc) ?_
        refine wp_st (pc' := 1914) (L' := [some (.ref a0), some (.ref 0), some (.ref 65), some (.ref 91), some (.int (nI a4)), some (.int x145), some (.int x147)]) (st' := [.int 0]) (h' := Hp S150) 1 (fun Z => rfl) ?_
        exact wp_ret (fun Z => rfl) ⟨_, _, rfl, rfl, hw⟩
    rw [if_neg c28] at hw
    by_cases c29 : ((S a0 a4) &&& (63 : Int32)) = 29
    · rw [if_pos c29] at hw
      refine wp_st (pc' := 1935) (L' := [some (.ref a0), some (.ref 0), some (.ref 65), some (.ref 91), some (.int (nI a4)), j5, j6]) (st' := []) (h' := Hp S) 1 (fun Z => (show zsw (.tableswitch 2191 0 34 #[156, 229, 285, 298, 354, 422, 490, 515, 571, 639, 730, 798, 811, 891, 971, 1027, 1040, 1108, 1176, 1244, 1324, 1380, 1436, 1532, 1543, 1599, 1655, 1735, 1815, 1895, 1963, 2031, 2099, 2167, 2178]) 40 (.int ((S a0 a4) &&& (63 : Int32)) :: []) (fun t st1 => Z (d + 1) m_law_law t [some (.ref a0), some (.ref 0), some (.ref 65), some (.ref 91), some (.int (nI a4)), j5, j6] st1 (Hp S)) = _ from zsw_at (c := 29) (by rw [c29]; decide) (by decide) rfl rfl)) ?_
      refine wp_st (pc' := 1940) (L' := [some (.ref a0), some (.ref 0), some (.ref 65), some (.ref 91), some (.int (nI a4)), j5, j6]) (st' := [.int 1, .int (nI a4), .ref a0, .ref 0]) (h' := Hp S) 4 (fun Z => rfl) ?_
      refine wp_st (pc' := 1941) (L' := [some (.ref a0), some (.ref 0), some (.ref 65), some (.ref 91), some (.int (nI a4)), j5, j6]) (st' := [.int (nI (a4 + 1)), .ref a0, .ref 0]) (h' := Hp S) 1 (fun Z => by rw [← nI_add a4 1]; rfl) ?_
      obtain ⟨hi, hw⟩ := hw
      refine wp_st (pc' := 1942) (L' := [some (.ref a0), some (.ref 0), some (.ref 65), some (.ref 91), some (.int (nI a4)), j5, j6]) (st' := [.int (S a0 (a4 + 1)), .ref 0]) (h' := Hp S) 1 (fun Z => ldN (E := E) ha0 na0lt hi [.ref 0] (fun st => Z (d + 1) m_law_law 1942 [some (.ref a0), some (.ref 0), some (.ref 65), some (.ref 91), some (.int (nI a4)), j5, j6] st (Hp S))) ?_
      refine wp_st (pc' := 1946) (L' := [some (.ref a0), some (.ref 0), some (.ref 65), some (.ref 91), some (.int (nI a4)), j5, j6]) (st' := [.int 2, .int (nI a4), .ref a0, .int (S a0 (a4 + 1)), .ref 0]) (h' := Hp S) 3 (fun Z => rfl) ?_
      refine wp_st (pc' := 1947) (L' := [some (.ref a0), some (.ref 0), some (.ref 65), some (.ref 91), some (.int (nI a4)), j5, j6]) (st' := [.int (nI (a4 + 2)), .ref a0, .int (S a0 (a4 + 1)), .ref 0]) (h' := Hp S) 1 (fun Z => by rw [← nI_add a4 2]; rfl) ?_
      obtain ⟨hi, hw⟩ := hw
      refine wp_st (pc' := 1948) (L' := [some (.ref a0), some (.ref 0), some (.ref 65), some (.ref 91), some (.int (nI a4)), j5, j6]) (st' := [.int (S a0 (a4 + 2)), .int (S a0 (a4 + 1)), .ref 0]) (h' := Hp S) 1 (fun Z => ldN (E := E) ha0 na0lt hi [.int (S a0 (a4 + 1)), .ref 0] (fun st => Z (d + 1) m_law_law 1948 [some (.ref a0), some (.ref 0), some (.ref 65), some (.ref 91), some (.int (nI a4)), j5, j6] st (Hp S))) ?_
      refine wp_st (pc' := 1949) (L' := [some (.ref a0), some (.ref 0), some (.ref 65), some (.ref 91), some (.int (nI a4)), j5, j6]) (st' := [.ref 91, .int (S a0 (a4 + 2)), .int (S a0 (a4 + 1)), .ref 0]) (h' := Hp S) 1 (fun Z => rfl) ?_
      refine wp_call (pc' := 1952) (rest := []) (fun Z => rfl) rfl hw ?_
      rintro o h1 ⟨x151, S152, rfl, rfl, hw⟩
      refine ⟨_, rfl, ?_⟩
      show wp E (d + 1) m_law_law 1952 [some (.ref a0), some (.ref 0), some (.ref 65), some (.ref 91), some (.int (nI a4)), j5, j6] [.int x151] (Hp S152) (QI Q)
      refine wp_st (pc' := 1959) (L' := [some (.ref a0), some (.ref 0), some (.ref 65), some (.ref 91), some (.int (nI a4)), some (.int x151), j6]) (st' := [.int 1, .int (nI a4), .ref a0, .ref 65]) (h' := Hp S152) 5 (fun Z => rfl) ?_
      refine wp_st (pc' := 1960) (L' := [some (.ref a0), some (.ref 0), some (.ref 65), some (.ref 91), some (.int (nI a4)), some (.int x151), j6]) (st' := [.int (nI (a4 + 1)), .ref a0, .ref 65]) (h' := Hp S152) 1 (fun Z => by rw [← nI_add a4 1]; rfl) ?_
      obtain ⟨hi, hw⟩ := hw
      refine wp_st (pc' := 1961) (L' := [some (.ref a0), some (.ref 0), some (.ref 65), some (.ref 91), some (.int (nI a4)), some (.int x151), j6]) (st' := [.int (S152 a0 (a4 + 1)), .ref 65]) (h' := Hp S152) 1 (fun Z => ldN (E := E) ha0 na0lt hi [.ref 65] (fun st => Z (d + 1) m_law_law 1961 [some (.ref a0), some (.ref 0), some (.ref 65), some (.ref 91), some (.int (nI a4)), some (.int x151), j6] st (Hp S152))) ?_
      refine wp_st (pc' := 1965) (L' := [some (.ref a0), some (.ref 0), some (.ref 65), some (.ref 91), some (.int (nI a4)), some (.int x151), j6]) (st' := [.int 2, .int (nI a4), .ref a0, .int (S152 a0 (a4 + 1)), .ref 65]) (h' := Hp S152) 3 (fun Z => rfl) ?_
      refine wp_st (pc' := 1966) (L' := [some (.ref a0), some (.ref 0), some (.ref 65), some (.ref 91), some (.int (nI a4)), some (.int x151), j6]) (st' := [.int (nI (a4 + 2)), .ref a0, .int (S152 a0 (a4 + 1)), .ref 65]) (h' := Hp S152) 1 (fun Z => by rw [← nI_add a4 2]; rfl) ?_
      obtain ⟨hi, hw⟩ := hw
      refine wp_st (pc' := 1967) (L' := [some (.ref a0), some (.ref 0), some (.ref 65), some (.ref 91), some (.int (nI a4)), some (.int x151), j6]) (st' := [.int (S152 a0 (a4 + 2)), .int (S152 a0 (a4 + 1)), .ref 65]) (h' := Hp S152) 1 (fun Z => ldN (E := E) ha0 na0lt hi [.int (S152 a0 (a4 + 1)), .ref 65] (fun st => Z (d + 1) m_law_law 1967 [some (.ref a0), some (.ref 0), some (.ref 65), some (.ref 91), some (.int (nI a4)), some (.int x151), j6] st (Hp S152))) ?_
      refine wp_call (pc' := 1970) (rest := []) (fun Z => rfl) (isO_of sh65) hw ?_
      rintro o h1 ⟨x153, S154, rfl, rfl, hw⟩
      refine ⟨_, rfl, ?_⟩
      show wp E (d + 1) m_law_law 1970 [some (.ref a0), some (.ref 0), some (.ref 65), some (.ref 91), some (.int (nI a4)), some (.int x151), j6] [.int x153] (Hp S154) (QI Q)
      refine wp_st (pc' := 1973) (L' := [some (.ref a0), some (.ref 0), some (.ref 65), some (.ref 91), some (.int (nI a4)), some (.int x151), some (.int x153)]) (st' := [.ref 65]) (h' := Hp S154) 2 (fun Z => rfl) ?_
      refine wp_call (pc' := 1976) (rest := []) (fun Z => rfl) (isO_of sh65) hw ?_
      rintro o h1 ⟨x155, S156, rfl, rfl, hw⟩
      refine ⟨_, rfl, ?_⟩
      show wp E (d + 1) m_law_law 1976 [some (.ref a0), some (.ref 0), some (.ref 65), some (.ref 91), some (.int (nI a4)), some (.int x151), some (.int x153)] [.int x155] (Hp S156) (QI Q)
      refine wp_st (pc' := 1978) (L' := [some (.ref a0), some (.ref 0), some (.ref 65), some (.ref 91), some (.int (nI a4)), some (.int x151), some (.int x153)]) (st' := [.int x151, .int x155]) (h' := Hp S156) 1 (fun Z => rfl) ?_
      by_cases hc : x155 = x151
      · rw [if_pos hc] at hw
        refine wp_st (pc' := 1983) (L' := [some (.ref a0), some (.ref 0), some (.ref 65), some (.ref 91), some (.int (nI a4)), some (.int x151), some (.int x153)]) (st' := []) (h' := Hp S156) 1 (fun Z => if_pos hc) ?_
        refine wp_st (pc' := 1985) (L' := [some (.ref a0), some (.ref 0), some (.ref 65), some (.ref 91), some (.int (nI a4)), some (.int x151), some (.int x153)]) (st' := [.int x151]) (h' := Hp S156) 1 (fun Z => rfl) ?_
        by_cases hc : x151 = 0
        · rw [if_pos hc] at hw
          refine wp_st (pc' := 1988) (L' := [some (.ref a0), some (.ref 0), some (.ref 65), some (.ref 91), some (.int (nI a4)), some (.int x151), some (.int x153)]) (st' := []) (h' := Hp S156) 1 (fun Z => if_pos hc) ?_
          refine wp_st (pc' := 1990) (L' := [some (.ref a0), some (.ref 0), some (.ref 65), some (.ref 91), some (.int (nI a4)), some (.int x151), some (.int x153)]) (st' := [.int 0, .ref 91]) (h' := Hp S156) 2 (fun Z => rfl) ?_
          refine wp_st (pc' := 1991) (L' := [some (.ref a0), some (.ref 0), some (.ref 65), some (.ref 91), some (.int (nI a4)), some (.int x151), some (.int x153)]) (st' := [.long (catL (S156 91 0) (S156 91 1))]) (h' := Hp S156) 1 (fun Z => ldJ0 (E := E) sh91 (by decide) [] (fun st => Z (d + 1) m_law_law 1991 [some (.ref a0), some (.ref 0), some (.ref 65), some (.ref 91), some (.int (nI a4)), some (.int x151), some (.int x153)] st (Hp S156))) ?_
          refine wp_st (pc' := 1995) (L' := [some (.ref a0), some (.ref 0), some (.ref 65), some (.ref 91), some (.int (nI a4)), some (.int x151), some (.int x153)]) (st' := [.int (lg_cmp (catL (S156 91 0) (S156 91 1)) (Int32.toInt64 x153))]) (h' := Hp S156) 3 (fun Z => rfl) ?_
          by_cases hc : (lg_cmp (catL (S156 91 0) (S156 91 1)) (Int32.toInt64 x153)) = 0
          · rw [if_pos hc] at hw
            refine wp_st (pc' := 2000) (L' := [some (.ref a0), some (.ref 0), some (.ref 65), some (.ref 91), some (.int (nI a4)), some (.int x151), some (.int x153)]) (st' := []) (h' := Hp S156) 1 (fun Z => if_pos hc) ?_
            refine wp_st (pc' := 2231) (L' := [some (.ref a0), some (.ref 0), some (.ref 65), some (.ref 91), some (.int (nI a4)), some (.int x151), some (.int x153)]) (st' := []) (h' := Hp S156) 1 (fun Z => rfl) ?_
            refine wp_st (pc' := 2234) (L' := [some (.ref a0), some (.ref 0), some (.ref 65), some (.ref 91), some (.int (nI (a4 + 6))), some (.int x151), some (.int x153)]) (st' := []) (h' := Hp S156) 1 (fun Z => by rw [← nI_add a4 6]; rfl) ?_
            exact wp_st 1 (fun Z => rfl) (show wp E (d + 1) m_law_law 23 [some (.ref a0), some (.ref 0), some (.ref 65), some (.ref 91), some (.int (nI (a4 + 6))), some (.int x151), some (.int x153)] [] (Hp S156) (QI Q) from (hw (some (.int x151)) (some (.int x153))))
          · rw [if_neg hc] at hw
            refine wp_st (pc' := 1998) (L' := [some (.ref a0), some (.ref 0), some (.ref 65), some (.ref 91), some (.int (nI a4)), some (.int x151), some (.int x153)]) (st' := []) (h' := Hp S156) 1 (fun Z => if_neg hc) ?_
            refine wp_st (pc' := 1999) (L' := [some (.ref a0), some (.ref 0), some (.ref 65), some (.ref 91), some (.int (nI a4)), some (.int x151), some (.int x153)]) (st' := [.int 0]) (h' := Hp S156) 1 (fun Z => rfl) ?_
            exact wp_ret (fun Z => rfl) ⟨_, _, rfl, rfl, hw⟩
        · rw [if_neg hc] at hw
          refine wp_st (pc' := 2000) (L' := [some (.ref a0), some (.ref 0), some (.ref 65), some (.ref 91), some (.int (nI a4)), some (.int x151), some (.int x153)]) (st' := []) (h' := Hp S156) 1 (fun Z => if_neg hc) ?_
          refine wp_st (pc' := 2231) (L' := [some (.ref a0), some (.ref 0), some (.ref 65), some (.ref 91), some (.int (nI a4)), some (.int x151), some (.int x153)]) (st' := []) (h' := Hp S156) 1 (fun Z => rfl) ?_
          refine wp_st (pc' := 2234) (L' := [some (.ref a0), some (.ref 0), some (.ref 65), some (.ref 91), some (.int (nI (a4 + 6))), some (.int x151), some (.int x153)]) (st' := []) (h' := Hp S156) 1 (fun Z => by rw [← nI_add a4 6]; rfl) ?_
          exact wp_st 1 (fun Z => rfl) (show wp E (d + 1) m_law_law 23 [some (.ref a0), some (.ref 0), some (.ref 65), some (.ref 91), some (.int (nI (a4 + 6))), some (.int x151), some (.int x153)] [] (Hp S156) (QI Q) from (hw (some (.int x151)) (some (.int x153))))
      · rw [if_neg hc] at hw
        refine wp_st (pc' := 1981) (L' := [some (.ref a0), some (.ref 0), some (.ref 65), some (.ref 91), some (.int (nI a4)), some (.int x151), some (.int x153)]) (st' := []) (h' := Hp S156) 1 (fun Z => if_neg hc) ?_
        refine wp_st (pc' := 1982) (L' := [some (.ref a0), some (.ref 0), some (.ref 65), some (.ref 91), some (.int (nI a4)), some (.int x151), some (.int x153)]) (st' := [.int 0]) (h' := Hp S156) 1 (fun Z => rfl) ?_
        exact wp_ret (fun Z => rfl) ⟨_, _, rfl, rfl, hw⟩
    rw [if_neg c29] at hw
    by_cases c30 : ((S a0 a4) &&& (63 : Int32)) = 30
    · rw [if_pos c30] at hw
      refine wp_st (pc' := 2003) (L' := [some (.ref a0), some (.ref 0), some (.ref 65), some (.ref 91), some (.int (nI a4)), j5, j6]) (st' := []) (h' := Hp S) 1 (fun Z => (show zsw (.tableswitch 2191 0 34 #[156, 229, 285, 298, 354, 422, 490, 515, 571, 639, 730, 798, 811, 891, 971, 1027, 1040, 1108, 1176, 1244, 1324, 1380, 1436, 1532, 1543, 1599, 1655, 1735, 1815, 1895, 1963, 2031, 2099, 2167, 2178]) 40 (.int ((S a0 a4) &&& (63 : Int32)) :: []) (fun t st1 => Z (d + 1) m_law_law t [some (.ref a0), some (.ref 0), some (.ref 65), some (.ref 91), some (.int (nI a4)), j5, j6] st1 (Hp S)) = _ from zsw_at (c := 30) (by rw [c30]; decide) (by decide) rfl rfl)) ?_
      refine wp_st (pc' := 2008) (L' := [some (.ref a0), some (.ref 0), some (.ref 65), some (.ref 91), some (.int (nI a4)), j5, j6]) (st' := [.int 1, .int (nI a4), .ref a0, .ref 0]) (h' := Hp S) 4 (fun Z => rfl) ?_
      refine wp_st (pc' := 2009) (L' := [some (.ref a0), some (.ref 0), some (.ref 65), some (.ref 91), some (.int (nI a4)), j5, j6]) (st' := [.int (nI (a4 + 1)), .ref a0, .ref 0]) (h' := Hp S) 1 (fun Z => by rw [← nI_add a4 1]; rfl) ?_
      obtain ⟨hi, hw⟩ := hw
      refine wp_st (pc' := 2010) (L' := [some (.ref a0), some (.ref 0), some (.ref 65), some (.ref 91), some (.int (nI a4)), j5, j6]) (st' := [.int (S a0 (a4 + 1)), .ref 0]) (h' := Hp S) 1 (fun Z => ldN (E := E) ha0 na0lt hi [.ref 0] (fun st => Z (d + 1) m_law_law 2010 [some (.ref a0), some (.ref 0), some (.ref 65), some (.ref 91), some (.int (nI a4)), j5, j6] st (Hp S))) ?_
      refine wp_st (pc' := 2014) (L' := [some (.ref a0), some (.ref 0), some (.ref 65), some (.ref 91), some (.int (nI a4)), j5, j6]) (st' := [.int 2, .int (nI a4), .ref a0, .int (S a0 (a4 + 1)), .ref 0]) (h' := Hp S) 3 (fun Z => rfl) ?_
      refine wp_st (pc' := 2015) (L' := [some (.ref a0), some (.ref 0), some (.ref 65), some (.ref 91), some (.int (nI a4)), j5, j6]) (st' := [.int (nI (a4 + 2)), .ref a0, .int (S a0 (a4 + 1)), .ref 0]) (h' := Hp S) 1 (fun Z => by rw [← nI_add a4 2]; rfl) ?_
      obtain ⟨hi, hw⟩ := hw
      refine wp_st (pc' := 2016) (L' := [some (.ref a0), some (.ref 0), some (.ref 65), some (.ref 91), some (.int (nI a4)), j5, j6]) (st' := [.int (S a0 (a4 + 2)), .int (S a0 (a4 + 1)), .ref 0]) (h' := Hp S) 1 (fun Z => ldN (E := E) ha0 na0lt hi [.int (S a0 (a4 + 1)), .ref 0] (fun st => Z (d + 1) m_law_law 2016 [some (.ref a0), some (.ref 0), some (.ref 65), some (.ref 91), some (.int (nI a4)), j5, j6] st (Hp S))) ?_
      refine wp_st (pc' := 2017) (L' := [some (.ref a0), some (.ref 0), some (.ref 65), some (.ref 91), some (.int (nI a4)), j5, j6]) (st' := [.ref 91, .int (S a0 (a4 + 2)), .int (S a0 (a4 + 1)), .ref 0]) (h' := Hp S) 1 (fun Z => rfl) ?_
      refine wp_call (pc' := 2020) (rest := []) (fun Z => rfl) rfl hw ?_
      rintro o h1 ⟨x157, S158, rfl, rfl, hw⟩
      refine ⟨_, rfl, ?_⟩
      show wp E (d + 1) m_law_law 2020 [some (.ref a0), some (.ref 0), some (.ref 65), some (.ref 91), some (.int (nI a4)), j5, j6] [.int x157] (Hp S158) (QI Q)
      refine wp_st (pc' := 2027) (L' := [some (.ref a0), some (.ref 0), some (.ref 65), some (.ref 91), some (.int (nI a4)), some (.int x157), j6]) (st' := [.int 1, .int (nI a4), .ref a0, .ref 65]) (h' := Hp S158) 5 (fun Z => rfl) ?_
      refine wp_st (pc' := 2028) (L' := [some (.ref a0), some (.ref 0), some (.ref 65), some (.ref 91), some (.int (nI a4)), some (.int x157), j6]) (st' := [.int (nI (a4 + 1)), .ref a0, .ref 65]) (h' := Hp S158) 1 (fun Z => by rw [← nI_add a4 1]; rfl) ?_
      obtain ⟨hi, hw⟩ := hw
      refine wp_st (pc' := 2029) (L' := [some (.ref a0), some (.ref 0), some (.ref 65), some (.ref 91), some (.int (nI a4)), some (.int x157), j6]) (st' := [.int (S158 a0 (a4 + 1)), .ref 65]) (h' := Hp S158) 1 (fun Z => ldN (E := E) ha0 na0lt hi [.ref 65] (fun st => Z (d + 1) m_law_law 2029 [some (.ref a0), some (.ref 0), some (.ref 65), some (.ref 91), some (.int (nI a4)), some (.int x157), j6] st (Hp S158))) ?_
      refine wp_st (pc' := 2033) (L' := [some (.ref a0), some (.ref 0), some (.ref 65), some (.ref 91), some (.int (nI a4)), some (.int x157), j6]) (st' := [.int 2, .int (nI a4), .ref a0, .int (S158 a0 (a4 + 1)), .ref 65]) (h' := Hp S158) 3 (fun Z => rfl) ?_
      refine wp_st (pc' := 2034) (L' := [some (.ref a0), some (.ref 0), some (.ref 65), some (.ref 91), some (.int (nI a4)), some (.int x157), j6]) (st' := [.int (nI (a4 + 2)), .ref a0, .int (S158 a0 (a4 + 1)), .ref 65]) (h' := Hp S158) 1 (fun Z => by rw [← nI_add a4 2]; rfl) ?_
      obtain ⟨hi, hw⟩ := hw
      refine wp_st (pc' := 2035) (L' := [some (.ref a0), some (.ref 0), some (.ref 65), some (.ref 91), some (.int (nI a4)), some (.int x157), j6]) (st' := [.int (S158 a0 (a4 + 2)), .int (S158 a0 (a4 + 1)), .ref 65]) (h' := Hp S158) 1 (fun Z => ldN (E := E) ha0 na0lt hi [.int (S158 a0 (a4 + 1)), .ref 65] (fun st => Z (d + 1) m_law_law 2035 [some (.ref a0), some (.ref 0), some (.ref 65), some (.ref 91), some (.int (nI a4)), some (.int x157), j6] st (Hp S158))) ?_
      refine wp_call (pc' := 2038) (rest := []) (fun Z => rfl) (isO_of sh65) hw ?_
      rintro o h1 ⟨x159, S160, rfl, rfl, hw⟩
      refine ⟨_, rfl, ?_⟩
      show wp E (d + 1) m_law_law 2038 [some (.ref a0), some (.ref 0), some (.ref 65), some (.ref 91), some (.int (nI a4)), some (.int x157), j6] [.int x159] (Hp S160) (QI Q)
      refine wp_st (pc' := 2041) (L' := [some (.ref a0), some (.ref 0), some (.ref 65), some (.ref 91), some (.int (nI a4)), some (.int x157), some (.int x159)]) (st' := [.ref 65]) (h' := Hp S160) 2 (fun Z => rfl) ?_
      refine wp_call (pc' := 2044) (rest := []) (fun Z => rfl) (isO_of sh65) hw ?_
      rintro o h1 ⟨x161, S162, rfl, rfl, hw⟩
      refine ⟨_, rfl, ?_⟩
      show wp E (d + 1) m_law_law 2044 [some (.ref a0), some (.ref 0), some (.ref 65), some (.ref 91), some (.int (nI a4)), some (.int x157), some (.int x159)] [.int x161] (Hp S162) (QI Q)
      refine wp_st (pc' := 2046) (L' := [some (.ref a0), some (.ref 0), some (.ref 65), some (.ref 91), some (.int (nI a4)), some (.int x157), some (.int x159)]) (st' := [.int x157, .int x161]) (h' := Hp S162) 1 (fun Z => rfl) ?_
      by_cases hc : x161 = x157
      · rw [if_pos hc] at hw
        refine wp_st (pc' := 2051) (L' := [some (.ref a0), some (.ref 0), some (.ref 65), some (.ref 91), some (.int (nI a4)), some (.int x157), some (.int x159)]) (st' := []) (h' := Hp S162) 1 (fun Z => if_pos hc) ?_
        refine wp_st (pc' := 2053) (L' := [some (.ref a0), some (.ref 0), some (.ref 65), some (.ref 91), some (.int (nI a4)), some (.int x157), some (.int x159)]) (st' := [.int x157]) (h' := Hp S162) 1 (fun Z => rfl) ?_
        by_cases hc : x157 = 0
        · rw [if_pos hc] at hw
          refine wp_st (pc' := 2056) (L' := [some (.ref a0), some (.ref 0), some (.ref 65), some (.ref 91), some (.int (nI a4)), some (.int x157), some (.int x159)]) (st' := []) (h' := Hp S162) 1 (fun Z => if_pos hc) ?_
          refine wp_st (pc' := 2058) (L' := [some (.ref a0), some (.ref 0), some (.ref 65), some (.ref 91), some (.int (nI a4)), some (.int x157), some (.int x159)]) (st' := [.int 0, .ref 91]) (h' := Hp S162) 2 (fun Z => rfl) ?_
          refine wp_st (pc' := 2059) (L' := [some (.ref a0), some (.ref 0), some (.ref 65), some (.ref 91), some (.int (nI a4)), some (.int x157), some (.int x159)]) (st' := [.long (catL (S162 91 0) (S162 91 1))]) (h' := Hp S162) 1 (fun Z => ldJ0 (E := E) sh91 (by decide) [] (fun st => Z (d + 1) m_law_law 2059 [some (.ref a0), some (.ref 0), some (.ref 65), some (.ref 91), some (.int (nI a4)), some (.int x157), some (.int x159)] st (Hp S162))) ?_
          refine wp_st (pc' := 2063) (L' := [some (.ref a0), some (.ref 0), some (.ref 65), some (.ref 91), some (.int (nI a4)), some (.int x157), some (.int x159)]) (st' := [.int (lg_cmp (catL (S162 91 0) (S162 91 1)) (Int32.toInt64 x159))]) (h' := Hp S162) 3 (fun Z => rfl) ?_
          by_cases hc : (lg_cmp (catL (S162 91 0) (S162 91 1)) (Int32.toInt64 x159)) = 0
          · rw [if_pos hc] at hw
            refine wp_st (pc' := 2068) (L' := [some (.ref a0), some (.ref 0), some (.ref 65), some (.ref 91), some (.int (nI a4)), some (.int x157), some (.int x159)]) (st' := []) (h' := Hp S162) 1 (fun Z => if_pos hc) ?_
            refine wp_st (pc' := 2231) (L' := [some (.ref a0), some (.ref 0), some (.ref 65), some (.ref 91), some (.int (nI a4)), some (.int x157), some (.int x159)]) (st' := []) (h' := Hp S162) 1 (fun Z => rfl) ?_
            refine wp_st (pc' := 2234) (L' := [some (.ref a0), some (.ref 0), some (.ref 65), some (.ref 91), some (.int (nI (a4 + 6))), some (.int x157), some (.int x159)]) (st' := []) (h' := Hp S162) 1 (fun Z => by rw [← nI_add a4 6]; rfl) ?_
            exact wp_st 1 (fun Z => rfl) (show wp E (d + 1) m_law_law 23 [some (.ref a0), some (.ref 0), some (.ref 65), some (.ref 91), some (.int (nI (a4 + 6))), some (.int x157), some (.int x159)] [] (Hp S162) (QI Q) from (hw (some (.int x157)) (some (.int x159))))
          · rw [if_neg hc] at hw
            refine wp_st (pc' := 2066) (L' := [some (.ref a0), some (.ref 0), some (.ref 65), some (.ref 91), some (.int (nI a4)), some (.int x157), some (.int x159)]) (st' := []) (h' := Hp S162) 1 (fun Z => if_neg hc) ?_
            refine wp_st (pc' := 2067) (L' := [some (.ref a0), some (.ref 0), some (.ref 65), some (.ref 91), some (.int (nI a4)), some (.int x157), some (.int x159)]) (st' := [.int 0]) (h' := Hp S162) 1 (fun Z => rfl) ?_
            exact wp_ret (fun Z => rfl) ⟨_, _, rfl, rfl, hw⟩
        · rw [if_neg hc] at hw
          refine wp_st (pc' := 2068) (L' := [some (.ref a0), some (.ref 0), some (.ref 65), some (.ref 91), some (.int (nI a4)), some (.int x157), some (.int x159)]) (st' := []) (h' := Hp S162) 1 (fun Z => if_neg hc) ?_
          refine wp_st (pc' := 2231) (L' := [some (.ref a0), some (.ref 0), some (.ref 65), some (.ref 91), some (.int (nI a4)), some (.int x157), some (.int x159)]) (st' := []) (h' := Hp S162) 1 (fun Z => rfl) ?_
          refine wp_st (pc' := 2234) (L' := [some (.ref a0), some (.ref 0), some (.ref 65), some (.ref 91), some (.int (nI (a4 + 6))), some (.int x157), some (.int x159)]) (st' := []) (h' := Hp S162) 1 (fun Z => by rw [← nI_add a4 6]; rfl) ?_
          exact wp_st 1 (fun Z => rfl) (show wp E (d + 1) m_law_law 23 [some (.ref a0), some (.ref 0), some (.ref 65), some (.ref 91), some (.int (nI (a4 + 6))), some (.int x157), some (.int x159)] [] (Hp S162) (QI Q) from (hw (some (.int x157)) (some (.int x159))))
      · rw [if_neg hc] at hw
        refine wp_st (pc' := 2049) (L' := [some (.ref a0), some (.ref 0), some (.ref 65), some (.ref 91), some (.int (nI a4)), some (.int x157), some (.int x159)]) (st' := []) (h' := Hp S162) 1 (fun Z => if_neg hc) ?_
        refine wp_st (pc' := 2050) (L' := [some (.ref a0), some (.ref 0), some (.ref 65), some (.ref 91), some (.int (nI a4)), some (.int x157), some (.int x159)]) (st' := [.int 0]) (h' := Hp S162) 1 (fun Z => rfl) ?_
        exact wp_ret (fun Z => rfl) ⟨_, _, rfl, rfl, hw⟩
    rw [if_neg c30] at hw
    by_cases c31 : ((S a0 a4) &&& (63 : Int32)) = 31
    · rw [if_pos c31] at hw
      refine wp_st (pc' := 2071) (L' := [some (.ref a0), some (.ref 0), some (.ref 65), some (.ref 91), some (.int (nI a4)), j5, j6]) (st' := []) (h' := Hp S) 1 (fun Z => (show zsw (.tableswitch 2191 0 34 #[156, 229, 285, 298, 354, 422, 490, 515, 571, 639, 730, 798, 811, 891, 971, 1027, 1040, 1108, 1176, 1244, 1324, 1380, 1436, 1532, 1543, 1599, 1655, 1735, 1815, 1895, 1963, 2031, 2099, 2167, 2178]) 40 (.int ((S a0 a4) &&& (63 : Int32)) :: []) (fun t st1 => Z (d + 1) m_law_law t [some (.ref a0), some (.ref 0), some (.ref 65), some (.ref 91), some (.int (nI a4)), j5, j6] st1 (Hp S)) = _ from zsw_at (c := 31) (by rw [c31]; decide) (by decide) rfl rfl)) ?_
      refine wp_st (pc' := 2076) (L' := [some (.ref a0), some (.ref 0), some (.ref 65), some (.ref 91), some (.int (nI a4)), j5, j6]) (st' := [.int 1, .int (nI a4), .ref a0, .ref 0]) (h' := Hp S) 4 (fun Z => rfl) ?_
      refine wp_st (pc' := 2077) (L' := [some (.ref a0), some (.ref 0), some (.ref 65), some (.ref 91), some (.int (nI a4)), j5, j6]) (st' := [.int (nI (a4 + 1)), .ref a0, .ref 0]) (h' := Hp S) 1 (fun Z => by rw [← nI_add a4 1]; rfl) ?_
      obtain ⟨hi, hw⟩ := hw
      refine wp_st (pc' := 2078) (L' := [some (.ref a0), some (.ref 0), some (.ref 65), some (.ref 91), some (.int (nI a4)), j5, j6]) (st' := [.int (S a0 (a4 + 1)), .ref 0]) (h' := Hp S) 1 (fun Z => ldN (E := E) ha0 na0lt hi [.ref 0] (fun st => Z (d + 1) m_law_law 2078 [some (.ref a0), some (.ref 0), some (.ref 65), some (.ref 91), some (.int (nI a4)), j5, j6] st (Hp S))) ?_
      refine wp_st (pc' := 2082) (L' := [some (.ref a0), some (.ref 0), some (.ref 65), some (.ref 91), some (.int (nI a4)), j5, j6]) (st' := [.int 2, .int (nI a4), .ref a0, .int (S a0 (a4 + 1)), .ref 0]) (h' := Hp S) 3 (fun Z => rfl) ?_
      refine wp_st (pc' := 2083) (L' := [some (.ref a0), some (.ref 0), some (.ref 65), some (.ref 91), some (.int (nI a4)), j5, j6]) (st' := [.int (nI (a4 + 2)), .ref a0, .int (S a0 (a4 + 1)), .ref 0]) (h' := Hp S) 1 (fun Z => by rw [← nI_add a4 2]; rfl) ?_
      obtain ⟨hi, hw⟩ := hw
      refine wp_st (pc' := 2084) (L' := [some (.ref a0), some (.ref 0), some (.ref 65), some (.ref 91), some (.int (nI a4)), j5, j6]) (st' := [.int (S a0 (a4 + 2)), .int (S a0 (a4 + 1)), .ref 0]) (h' := Hp S) 1 (fun Z => ldN (E := E) ha0 na0lt hi [.int (S a0 (a4 + 1)), .ref 0] (fun st => Z (d + 1) m_law_law 2084 [some (.ref a0), some (.ref 0), some (.ref 65), some (.ref 91), some (.int (nI a4)), j5, j6] st (Hp S))) ?_
      refine wp_st (pc' := 2085) (L' := [some (.ref a0), some (.ref 0), some (.ref 65), some (.ref 91), some (.int (nI a4)), j5, j6]) (st' := [.ref 91, .int (S a0 (a4 + 2)), .int (S a0 (a4 + 1)), .ref 0]) (h' := Hp S) 1 (fun Z => rfl) ?_
      refine wp_call (pc' := 2088) (rest := []) (fun Z => rfl) rfl hw ?_
      rintro o h1 ⟨x163, S164, rfl, rfl, hw⟩
      refine ⟨_, rfl, ?_⟩
      show wp E (d + 1) m_law_law 2088 [some (.ref a0), some (.ref 0), some (.ref 65), some (.ref 91), some (.int (nI a4)), j5, j6] [.int x163] (Hp S164) (QI Q)
      refine wp_st (pc' := 2095) (L' := [some (.ref a0), some (.ref 0), some (.ref 65), some (.ref 91), some (.int (nI a4)), some (.int x163), j6]) (st' := [.int 1, .int (nI a4), .ref a0, .ref 65]) (h' := Hp S164) 5 (fun Z => rfl) ?_
      refine wp_st (pc' := 2096) (L' := [some (.ref a0), some (.ref 0), some (.ref 65), some (.ref 91), some (.int (nI a4)), some (.int x163), j6]) (st' := [.int (nI (a4 + 1)), .ref a0, .ref 65]) (h' := Hp S164) 1 (fun Z => by rw [← nI_add a4 1]; rfl) ?_
      obtain ⟨hi, hw⟩ := hw
      refine wp_st (pc' := 2097) (L' := [some (.ref a0), some (.ref 0), some (.ref 65), some (.ref 91), some (.int (nI a4)), some (.int x163), j6]) (st' := [.int (S164 a0 (a4 + 1)), .ref 65]) (h' := Hp S164) 1 (fun Z => ldN (E := E) ha0 na0lt hi [.ref 65] (fun st => Z (d + 1) m_law_law 2097 [some (.ref a0), some (.ref 0), some (.ref 65), some (.ref 91), some (.int (nI a4)), some (.int x163), j6] st (Hp S164))) ?_
      refine wp_st (pc' := 2101) (L' := [some (.ref a0), some (.ref 0), some (.ref 65), some (.ref 91), some (.int (nI a4)), some (.int x163), j6]) (st' := [.int 2, .int (nI a4), .ref a0, .int (S164 a0 (a4 + 1)), .ref 65]) (h' := Hp S164) 3 (fun Z => rfl) ?_
      refine wp_st (pc' := 2102) (L' := [some (.ref a0), some (.ref 0), some (.ref 65), some (.ref 91), some (.int (nI a4)), some (.int x163), j6]) (st' := [.int (nI (a4 + 2)), .ref a0, .int (S164 a0 (a4 + 1)), .ref 65]) (h' := Hp S164) 1 (fun Z => by rw [← nI_add a4 2]; rfl) ?_
      obtain ⟨hi, hw⟩ := hw
      refine wp_st (pc' := 2103) (L' := [some (.ref a0), some (.ref 0), some (.ref 65), some (.ref 91), some (.int (nI a4)), some (.int x163), j6]) (st' := [.int (S164 a0 (a4 + 2)), .int (S164 a0 (a4 + 1)), .ref 65]) (h' := Hp S164) 1 (fun Z => ldN (E := E) ha0 na0lt hi [.int (S164 a0 (a4 + 1)), .ref 65] (fun st => Z (d + 1) m_law_law 2103 [some (.ref a0), some (.ref 0), some (.ref 65), some (.ref 91), some (.int (nI a4)), some (.int x163), j6] st (Hp S164))) ?_
      refine wp_call (pc' := 2106) (rest := []) (fun Z => rfl) (isO_of sh65) hw ?_
      rintro o h1 ⟨x165, S166, rfl, rfl, hw⟩
      refine ⟨_, rfl, ?_⟩
      show wp E (d + 1) m_law_law 2106 [some (.ref a0), some (.ref 0), some (.ref 65), some (.ref 91), some (.int (nI a4)), some (.int x163), j6] [.int x165] (Hp S166) (QI Q)
      refine wp_st (pc' := 2109) (L' := [some (.ref a0), some (.ref 0), some (.ref 65), some (.ref 91), some (.int (nI a4)), some (.int x163), some (.int x165)]) (st' := [.ref 65]) (h' := Hp S166) 2 (fun Z => rfl) ?_
      refine wp_call (pc' := 2112) (rest := []) (fun Z => rfl) (isO_of sh65) hw ?_
      rintro o h1 ⟨x167, S168, rfl, rfl, hw⟩
      refine ⟨_, rfl, ?_⟩
      show wp E (d + 1) m_law_law 2112 [some (.ref a0), some (.ref 0), some (.ref 65), some (.ref 91), some (.int (nI a4)), some (.int x163), some (.int x165)] [.int x167] (Hp S168) (QI Q)
      refine wp_st (pc' := 2114) (L' := [some (.ref a0), some (.ref 0), some (.ref 65), some (.ref 91), some (.int (nI a4)), some (.int x163), some (.int x165)]) (st' := [.int x163, .int x167]) (h' := Hp S168) 1 (fun Z => rfl) ?_
      by_cases hc : x167 = x163
      · rw [if_pos hc] at hw
        refine wp_st (pc' := 2119) (L' := [some (.ref a0), some (.ref 0), some (.ref 65), some (.ref 91), some (.int (nI a4)), some (.int x163), some (.int x165)]) (st' := []) (h' := Hp S168) 1 (fun Z => if_pos hc) ?_
        refine wp_st (pc' := 2121) (L' := [some (.ref a0), some (.ref 0), some (.ref 65), some (.ref 91), some (.int (nI a4)), some (.int x163), some (.int x165)]) (st' := [.int x163]) (h' := Hp S168) 1 (fun Z => rfl) ?_
        by_cases hc : x163 = 0
        · rw [if_pos hc] at hw
          refine wp_st (pc' := 2124) (L' := [some (.ref a0), some (.ref 0), some (.ref 65), some (.ref 91), some (.int (nI a4)), some (.int x163), some (.int x165)]) (st' := []) (h' := Hp S168) 1 (fun Z => if_pos hc) ?_
          refine wp_st (pc' := 2126) (L' := [some (.ref a0), some (.ref 0), some (.ref 65), some (.ref 91), some (.int (nI a4)), some (.int x163), some (.int x165)]) (st' := [.int 0, .ref 91]) (h' := Hp S168) 2 (fun Z => rfl) ?_
          refine wp_st (pc' := 2127) (L' := [some (.ref a0), some (.ref 0), some (.ref 65), some (.ref 91), some (.int (nI a4)), some (.int x163), some (.int x165)]) (st' := [.long (catL (S168 91 0) (S168 91 1))]) (h' := Hp S168) 1 (fun Z => ldJ0 (E := E) sh91 (by decide) [] (fun st => Z (d + 1) m_law_law 2127 [some (.ref a0), some (.ref 0), some (.ref 65), some (.ref 91), some (.int (nI a4)), some (.int x163), some (.int x165)] st (Hp S168))) ?_
          refine wp_st (pc' := 2131) (L' := [some (.ref a0), some (.ref 0), some (.ref 65), some (.ref 91), some (.int (nI a4)), some (.int x163), some (.int x165)]) (st' := [.int (lg_cmp (catL (S168 91 0) (S168 91 1)) (Int32.toInt64 x165))]) (h' := Hp S168) 3 (fun Z => rfl) ?_
          by_cases hc : (lg_cmp (catL (S168 91 0) (S168 91 1)) (Int32.toInt64 x165)) = 0
          · rw [if_pos hc] at hw
            refine wp_st (pc' := 2136) (L' := [some (.ref a0), some (.ref 0), some (.ref 65), some (.ref 91), some (.int (nI a4)), some (.int x163), some (.int x165)]) (st' := []) (h' := Hp S168) 1 (fun Z => if_pos hc) ?_
            refine wp_st (pc' := 2231) (L' := [some (.ref a0), some (.ref 0), some (.ref 65), some (.ref 91), some (.int (nI a4)), some (.int x163), some (.int x165)]) (st' := []) (h' := Hp S168) 1 (fun Z => rfl) ?_
            refine wp_st (pc' := 2234) (L' := [some (.ref a0), some (.ref 0), some (.ref 65), some (.ref 91), some (.int (nI (a4 + 6))), some (.int x163), some (.int x165)]) (st' := []) (h' := Hp S168) 1 (fun Z => by rw [← nI_add a4 6]; rfl) ?_
            exact wp_st 1 (fun Z => rfl) (show wp E (d + 1) m_law_law 23 [some (.ref a0), some (.ref 0), some (.ref 65), some (.ref 91), some (.int (nI (a4 + 6))), some (.int x163), some (.int x165)] [] (Hp S168) (QI Q) from (hw (some (.int x163)) (some (.int x165))))
          · rw [if_neg hc] at hw
            refine wp_st (pc' := 2134) (L' := [some (.ref a0), some (.ref 0), some (.ref 65), some (.ref 91), some (.int (nI a4)), some (.int x163), some (.int x165)]) (st' := []) (h' := Hp S168) 1 (fun Z => if_neg hc) ?_
            refine wp_st (pc' := 2135) (L' := [some (.ref a0), some (.ref 0), some (.ref 65), some (.ref 91), some (.int (nI a4)), some (.int x163), some (.int x165)]) (st' := [.int 0]) (h' := Hp S168) 1 (fun Z => rfl) ?_
            exact wp_ret (fun Z => rfl) ⟨_, _, rfl, rfl, hw⟩
        · rw [if_neg hc] at hw
          refine wp_st (pc' := 2136) (L' := [some (.ref a0), some (.ref 0), some (.ref 65), some (.ref 91), some (.int (nI a4)), some (.int x163), some (.int x165)]) (st' := []) (h' := Hp S168) 1 (fun Z => if_neg hc) ?_
          refine wp_st (pc' := 2231) (L' := [some (.ref a0), some (.ref 0), some (.ref 65), some (.ref 91), some (.int (nI a4)), some (.int x163), some (.int x165)]) (st' := []) (h' := Hp S168) 1 (fun Z => rfl) ?_
          refine wp_st (pc' := 2234) (L' := [some (.ref a0), some (.ref 0), some (.ref 65), some (.ref 91), some (.int (nI (a4 + 6))), some (.int x163), some (.int x165)]) (st' := []) (h' := Hp S168) 1 (fun Z => by rw [← nI_add a4 6]; rfl) ?_
          exact wp_st 1 (fun Z => rfl) (show wp E (d + 1) m_law_law 23 [some (.ref a0), some (.ref 0), some (.ref 65), some (.ref 91), some (.int (nI (a4 + 6))), some (.int x163), some (.int x165)] [] (Hp S168) (QI Q) from (hw (some (.int x163)) (some (.int x165))))
      · rw [if_neg hc] at hw
        refine wp_st (pc' := 2117) (L' := [some (.ref a0), some (.ref 0), some (.ref 65), some (.ref 91), some (.int (nI a4)), some (.int x163), some (.int x165)]) (st' := []) (h' := Hp S168) 1 (fun Z => if_neg hc) ?_
        refine wp_st (pc' := 2118) (L' := [some (.ref a0), some (.ref 0), some (.ref 65), some (.ref 91), some (.int (nI a4)), some (.int x163), some (.int x165)]) (st' := [.int 0]) (h' := Hp S168) 1 (fun Z => rfl) ?_
        exact wp_ret (fun Z => rfl) ⟨_, _, rfl, rfl, hw⟩
    rw [if_neg c31] at hw
    by_cases c32 : ((S a0 a4) &&& (63 : Int32)) = 32
    · rw [if_pos c32] at hw
      refine wp_st (pc' := 2139) (L' := [some (.ref a0), some (.ref 0), some (.ref 65), some (.ref 91), some (.int (nI a4)), j5, j6]) (st' := []) (h' := Hp S) 1 (fun Z => (show zsw (.tableswitch 2191 0 34 #[156, 229, 285, 298, 354, 422, 490, 515, 571, 639, 730, 798, 811, 891, 971, 1027, 1040, 1108, 1176, 1244, 1324, 1380, 1436, 1532, 1543, 1599, 1655, 1735, 1815, 1895, 1963, 2031, 2099, 2167, 2178]) 40 (.int ((S a0 a4) &&& (63 : Int32)) :: []) (fun t st1 => Z (d + 1) m_law_law t [some (.ref a0), some (.ref 0), some (.ref 65), some (.ref 91), some (.int (nI a4)), j5, j6] st1 (Hp S)) = _ from zsw_at (c := 32) (by rw [c32]; decide) (by decide) rfl rfl)) ?_
      refine wp_st (pc' := 2144) (L' := [some (.ref a0), some (.ref 0), some (.ref 65), some (.ref 91), some (.int (nI a4)), j5, j6]) (st' := [.int 1, .int (nI a4), .ref a0, .ref 0]) (h' := Hp S) 4 (fun Z => rfl) ?_
      refine wp_st (pc' := 2145) (L' := [some (.ref a0), some (.ref 0), some (.ref 65), some (.ref 91), some (.int (nI a4)), j5, j6]) (st' := [.int (nI (a4 + 1)), .ref a0, .ref 0]) (h' := Hp S) 1 (fun Z => by rw [← nI_add a4 1]; rfl) ?_
      obtain ⟨hi, hw⟩ := hw
      refine wp_st (pc' := 2146) (L' := [some (.ref a0), some (.ref 0), some (.ref 65), some (.ref 91), some (.int (nI a4)), j5, j6]) (st' := [.int (S a0 (a4 + 1)), .ref 0]) (h' := Hp S) 1 (fun Z => ldN (E := E) ha0 na0lt hi [.ref 0] (fun st => Z (d + 1) m_law_law 2146 [some (.ref a0), some (.ref 0), some (.ref 65), some (.ref 91), some (.int (nI a4)), j5, j6] st (Hp S))) ?_
      refine wp_st (pc' := 2150) (L' := [some (.ref a0), some (.ref 0), some (.ref 65), some (.ref 91), some (.int (nI a4)), j5, j6]) (st' := [.int 2, .int (nI a4), .ref a0, .int (S a0 (a4 + 1)), .ref 0]) (h' := Hp S) 3 (fun Z => rfl) ?_
      refine wp_st (pc' := 2151) (L' := [some (.ref a0), some (.ref 0), some (.ref 65), some (.ref 91), some (.int (nI a4)), j5, j6]) (st' := [.int (nI (a4 + 2)), .ref a0, .int (S a0 (a4 + 1)), .ref 0]) (h' := Hp S) 1 (fun Z => by rw [← nI_add a4 2]; rfl) ?_
      obtain ⟨hi, hw⟩ := hw
      refine wp_st (pc' := 2152) (L' := [some (.ref a0), some (.ref 0), some (.ref 65), some (.ref 91), some (.int (nI a4)), j5, j6]) (st' := [.int (S a0 (a4 + 2)), .int (S a0 (a4 + 1)), .ref 0]) (h' := Hp S) 1 (fun Z => ldN (E := E) ha0 na0lt hi [.int (S a0 (a4 + 1)), .ref 0] (fun st => Z (d + 1) m_law_law 2152 [some (.ref a0), some (.ref 0), some (.ref 65), some (.ref 91), some (.int (nI a4)), j5, j6] st (Hp S))) ?_
      refine wp_st (pc' := 2153) (L' := [some (.ref a0), some (.ref 0), some (.ref 65), some (.ref 91), some (.int (nI a4)), j5, j6]) (st' := [.ref 91, .int (S a0 (a4 + 2)), .int (S a0 (a4 + 1)), .ref 0]) (h' := Hp S) 1 (fun Z => rfl) ?_
      refine wp_call (pc' := 2156) (rest := []) (fun Z => rfl) rfl hw ?_
      rintro o h1 ⟨x169, S170, rfl, rfl, hw⟩
      refine ⟨_, rfl, ?_⟩
      show wp E (d + 1) m_law_law 2156 [some (.ref a0), some (.ref 0), some (.ref 65), some (.ref 91), some (.int (nI a4)), j5, j6] [.int x169] (Hp S170) (QI Q)
      refine wp_st (pc' := 2163) (L' := [some (.ref a0), some (.ref 0), some (.ref 65), some (.ref 91), some (.int (nI a4)), some (.int x169), j6]) (st' := [.int 1, .int (nI a4), .ref a0, .ref 65]) (h' := Hp S170) 5 (fun Z => rfl) ?_
      refine wp_st (pc' := 2164) (L' := [some (.ref a0), some (.ref 0), some (.ref 65), some (.ref 91), some (.int (nI a4)), some (.int x169), j6]) (st' := [.int (nI (a4 + 1)), .ref a0, .ref 65]) (h' := Hp S170) 1 (fun Z => by rw [← nI_add a4 1]; rfl) ?_
      obtain ⟨hi, hw⟩ := hw
      refine wp_st (pc' := 2165) (L' := [some (.ref a0), some (.ref 0), some (.ref 65), some (.ref 91), some (.int (nI a4)), some (.int x169), j6]) (st' := [.int (S170 a0 (a4 + 1)), .ref 65]) (h' := Hp S170) 1 (fun Z => ldN (E := E) ha0 na0lt hi [.ref 65] (fun st => Z (d + 1) m_law_law 2165 [some (.ref a0), some (.ref 0), some (.ref 65), some (.ref 91), some (.int (nI a4)), some (.int x169), j6] st (Hp S170))) ?_
      refine wp_st (pc' := 2169) (L' := [some (.ref a0), some (.ref 0), some (.ref 65), some (.ref 91), some (.int (nI a4)), some (.int x169), j6]) (st' := [.int 2, .int (nI a4), .ref a0, .int (S170 a0 (a4 + 1)), .ref 65]) (h' := Hp S170) 3 (fun Z => rfl) ?_
      refine wp_st (pc' := 2170) (L' := [some (.ref a0), some (.ref 0), some (.ref 65), some (.ref 91), some (.int (nI a4)), some (.int x169), j6]) (st' := [.int (nI (a4 + 2)), .ref a0, .int (S170 a0 (a4 + 1)), .ref 65]) (h' := Hp S170) 1 (fun Z => by rw [← nI_add a4 2]; rfl) ?_
      obtain ⟨hi, hw⟩ := hw
      refine wp_st (pc' := 2171) (L' := [some (.ref a0), some (.ref 0), some (.ref 65), some (.ref 91), some (.int (nI a4)), some (.int x169), j6]) (st' := [.int (S170 a0 (a4 + 2)), .int (S170 a0 (a4 + 1)), .ref 65]) (h' := Hp S170) 1 (fun Z => ldN (E := E) ha0 na0lt hi [.int (S170 a0 (a4 + 1)), .ref 65] (fun st => Z (d + 1) m_law_law 2171 [some (.ref a0), some (.ref 0), some (.ref 65), some (.ref 91), some (.int (nI a4)), some (.int x169), j6] st (Hp S170))) ?_
      refine wp_call (pc' := 2174) (rest := []) (fun Z => rfl) (isO_of sh65) hw ?_
      rintro o h1 ⟨x171, S172, rfl, rfl, hw⟩
      refine ⟨_, rfl, ?_⟩
      show wp E (d + 1) m_law_law 2174 [some (.ref a0), some (.ref 0), some (.ref 65), some (.ref 91), some (.int (nI a4)), some (.int x169), j6] [.int x171] (Hp S172) (QI Q)
      refine wp_st (pc' := 2177) (L' := [some (.ref a0), some (.ref 0), some (.ref 65), some (.ref 91), some (.int (nI a4)), some (.int x169), some (.int x171)]) (st' := [.ref 65]) (h' := Hp S172) 2 (fun Z => rfl) ?_
      refine wp_call (pc' := 2180) (rest := []) (fun Z => rfl) (isO_of sh65) hw ?_
      rintro o h1 ⟨x173, S174, rfl, rfl, hw⟩
      refine ⟨_, rfl, ?_⟩
      show wp E (d + 1) m_law_law 2180 [some (.ref a0), some (.ref 0), some (.ref 65), some (.ref 91), some (.int (nI a4)), some (.int x169), some (.int x171)] [.int x173] (Hp S174) (QI Q)
      refine wp_st (pc' := 2182) (L' := [some (.ref a0), some (.ref 0), some (.ref 65), some (.ref 91), some (.int (nI a4)), some (.int x169), some (.int x171)]) (st' := [.int x169, .int x173]) (h' := Hp S174) 1 (fun Z => rfl) ?_
      by_cases hc : x173 = x169
      · rw [if_pos hc] at hw
        refine wp_st (pc' := 2187) (L' := [some (.ref a0), some (.ref 0), some (.ref 65), some (.ref 91), some (.int (nI a4)), some (.int x169), some (.int x171)]) (st' := []) (h' := Hp S174) 1 (fun Z => if_pos hc) ?_
        refine wp_st (pc' := 2189) (L' := [some (.ref a0), some (.ref 0), some (.ref 65), some (.ref 91), some (.int (nI a4)), some (.int x169), some (.int x171)]) (st' := [.int x169]) (h' := Hp S174) 1 (fun Z => rfl) ?_
        by_cases hc : x169 = 0
        · rw [if_pos hc] at hw
          refine wp_st (pc' := 2192) (L' := [some (.ref a0), some (.ref 0), some (.ref 65), some (.ref 91), some (.int (nI a4)), some (.int x169), some (.int x171)]) (st' := []) (h' := Hp S174) 1 (fun Z => if_pos hc) ?_
          refine wp_st (pc' := 2194) (L' := [some (.ref a0), some (.ref 0), some (.ref 65), some (.ref 91), some (.int (nI a4)), some (.int x169), some (.int x171)]) (st' := [.int 0, .ref 91]) (h' := Hp S174) 2 (fun Z => rfl) ?_
          refine wp_st (pc' := 2195) (L' := [some (.ref a0), some (.ref 0), some (.ref 65), some (.ref 91), some (.int (nI a4)), some (.int x169), some (.int x171)]) (st' := [.long (catL (S174 91 0) (S174 91 1))]) (h' := Hp S174) 1 (fun Z => ldJ0 (E := E) sh91 (by decide) [] (fun st => Z (d + 1) m_law_law 2195 [some (.ref a0), some (.ref 0), some (.ref 65), some (.ref 91), some (.int (nI a4)), some (.int x169), some (.int x171)] st (Hp S174))) ?_
          refine wp_st (pc' := 2199) (L' := [some (.ref a0), some (.ref 0), some (.ref 65), some (.ref 91), some (.int (nI a4)), some (.int x169), some (.int x171)]) (st' := [.int (lg_cmp (catL (S174 91 0) (S174 91 1)) (Int32.toInt64 x171))]) (h' := Hp S174) 3 (fun Z => rfl) ?_
          by_cases hc : (lg_cmp (catL (S174 91 0) (S174 91 1)) (Int32.toInt64 x171)) = 0
          · rw [if_pos hc] at hw
            refine wp_st (pc' := 2204) (L' := [some (.ref a0), some (.ref 0), some (.ref 65), some (.ref 91), some (.int (nI a4)), some (.int x169), some (.int x171)]) (st' := []) (h' := Hp S174) 1 (fun Z => if_pos hc) ?_
            refine wp_st (pc' := 2231) (L' := [some (.ref a0), some (.ref 0), some (.ref 65), some (.ref 91), some (.int (nI a4)), some (.int x169), some (.int x171)]) (st' := []) (h' := Hp S174) 1 (fun Z => rfl) ?_
            refine wp_st (pc' := 2234) (L' := [some (.ref a0), some (.ref 0), some (.ref 65), some (.ref 91), some (.int (nI (a4 + 6))), some (.int x169), some (.int x171)]) (st' := []) (h' := Hp S174) 1 (fun Z => by rw [← nI_add a4 6]; rfl) ?_
            exact wp_st 1 (fun Z => rfl) (show wp E (d + 1) m_law_law 23 [some (.ref a0), some (.ref 0), some (.ref 65), some (.ref 91), some (.int (nI (a4 + 6))), some (.int x169), some (.int x171)] [] (Hp S174) (QI Q) from (hw (some (.int x169)) (some (.int x171))))
          · rw [if_neg hc] at hw
            refine wp_st (pc' := 2202) (L' := [some (.ref a0), some (.ref 0), some (.ref 65), some (.ref 91), some (.int (nI a4)), some (.int x169), some (.int x171)]) (st' := []) (h' := Hp S174) 1 (fun Z => if_neg hc) ?_
            refine wp_st (pc' := 2203) (L' := [some (.ref a0), some (.ref 0), some (.ref 65), some (.ref 91), some (.int (nI a4)), some (.int x169), some (.int x171)]) (st' := [.int 0]) (h' := Hp S174) 1 (fun Z => rfl) ?_
            exact wp_ret (fun Z => rfl) ⟨_, _, rfl, rfl, hw⟩
        · rw [if_neg hc] at hw
          refine wp_st (pc' := 2204) (L' := [some (.ref a0), some (.ref 0), some (.ref 65), some (.ref 91), some (.int (nI a4)), some (.int x169), some (.int x171)]) (st' := []) (h' := Hp S174) 1 (fun Z => if_neg hc) ?_
          refine wp_st (pc' := 2231) (L' := [some (.ref a0), some (.ref 0), some (.ref 65), some (.ref 91), some (.int (nI a4)), some (.int x169), some (.int x171)]) (st' := []) (h' := Hp S174) 1 (fun Z => rfl) ?_
          refine wp_st (pc' := 2234) (L' := [some (.ref a0), some (.ref 0), some (.ref 65), some (.ref 91), some (.int (nI (a4 + 6))), some (.int x169), some (.int x171)]) (st' := []) (h' := Hp S174) 1 (fun Z => by rw [← nI_add a4 6]; rfl) ?_
          exact wp_st 1 (fun Z => rfl) (show wp E (d + 1) m_law_law 23 [some (.ref a0), some (.ref 0), some (.ref 65), some (.ref 91), some (.int (nI (a4 + 6))), some (.int x169), some (.int x171)] [] (Hp S174) (QI Q) from (hw (some (.int x169)) (some (.int x171))))
      · rw [if_neg hc] at hw
        refine wp_st (pc' := 2185) (L' := [some (.ref a0), some (.ref 0), some (.ref 65), some (.ref 91), some (.int (nI a4)), some (.int x169), some (.int x171)]) (st' := []) (h' := Hp S174) 1 (fun Z => if_neg hc) ?_
        refine wp_st (pc' := 2186) (L' := [some (.ref a0), some (.ref 0), some (.ref 65), some (.ref 91), some (.int (nI a4)), some (.int x169), some (.int x171)]) (st' := [.int 0]) (h' := Hp S174) 1 (fun Z => rfl) ?_
        exact wp_ret (fun Z => rfl) ⟨_, _, rfl, rfl, hw⟩
    rw [if_neg c32] at hw
    by_cases c33 : ((S a0 a4) &&& (63 : Int32)) = 33
    · rw [if_pos c33] at hw
      refine wp_st (pc' := 2207) (L' := [some (.ref a0), some (.ref 0), some (.ref 65), some (.ref 91), some (.int (nI a4)), j5, j6]) (st' := []) (h' := Hp S) 1 (fun Z => (show zsw (.tableswitch 2191 0 34 #[156, 229, 285, 298, 354, 422, 490, 515, 571, 639, 730, 798, 811, 891, 971, 1027, 1040, 1108, 1176, 1244, 1324, 1380, 1436, 1532, 1543, 1599, 1655, 1735, 1815, 1895, 1963, 2031, 2099, 2167, 2178]) 40 (.int ((S a0 a4) &&& (63 : Int32)) :: []) (fun t st1 => Z (d + 1) m_law_law t [some (.ref a0), some (.ref 0), some (.ref 65), some (.ref 91), some (.int (nI a4)), j5, j6] st1 (Hp S)) = _ from zsw_at (c := 33) (by rw [c33]; decide) (by decide) rfl rfl)) ?_
      refine wp_st (pc' := 2208) (L' := [some (.ref a0), some (.ref 0), some (.ref 65), some (.ref 91), some (.int (nI a4)), j5, j6]) (st' := [.ref 0]) (h' := Hp S) 1 (fun Z => rfl) ?_
      refine wp_call (pc' := 2211) (rest := []) (fun Z => rfl) (isO_of sh0) hw ?_
      rintro o h1 ⟨S176, rfl, rfl, hw⟩
      refine ⟨_, rfl, ?_⟩
      show wp E (d + 1) m_law_law 2211 [some (.ref a0), some (.ref 0), some (.ref 65), some (.ref 91), some (.int (nI a4)), j5, j6] [] (Hp S176) (QI Q)
      refine wp_st (pc' := 2212) (L' := [some (.ref a0), some (.ref 0), some (.ref 65), some (.ref 91), some (.int (nI a4)), j5, j6]) (st' := [.ref 65]) (h' := Hp S176) 1 (fun Z => rfl) ?_
      refine wp_call (pc' := 2215) (rest := []) (fun Z => rfl) (isO_of sh65) hw ?_
      rintro o h1 ⟨S178, rfl, rfl, hw⟩
      refine ⟨_, rfl, ?_⟩
      show wp E (d + 1) m_law_law 2215 [some (.ref a0), some (.ref 0), some (.ref 65), some (.ref 91), some (.int (nI a4)), j5, j6] [] (Hp S178) (QI Q)
      refine wp_st (pc' := 2231) (L' := [some (.ref a0), some (.ref 0), some (.ref 65), some (.ref 91), some (.int (nI a4)), j5, j6]) (st' := []) (h' := Hp S178) 1 (fun Z => rfl) ?_
      refine wp_st (pc' := 2234) (L' := [some (.ref a0), some (.ref 0), some (.ref 65), some (.ref 91), some (.int (nI (a4 + 6))), j5, j6]) (st' := []) (h' := Hp S178) 1 (fun Z => by rw [← nI_add a4 6]; rfl) ?_
      exact wp_st 1 (fun Z => rfl) (show wp E (d + 1) m_law_law 23 [some (.ref a0), some (.ref 0), some (.ref 65), some (.ref 91), some (.int (nI (a4 + 6))), j5, j6] [] (Hp S178) (QI Q) from (hw j5 j6))
    rw [if_neg c33] at hw
    by_cases c34 : ((S a0 a4) &&& (63 : Int32)) = 34
    · rw [if_pos c34] at hw
      refine wp_st (pc' := 2218) (L' := [some (.ref a0), some (.ref 0), some (.ref 65), some (.ref 91), some (.int (nI a4)), j5, j6]) (st' := []) (h' := Hp S) 1 (fun Z => (show zsw (.tableswitch 2191 0 34 #[156, 229, 285, 298, 354, 422, 490, 515, 571, 639, 730, 798, 811, 891, 971, 1027, 1040, 1108, 1176, 1244, 1324, 1380, 1436, 1532, 1543, 1599, 1655, 1735, 1815, 1895, 1963, 2031, 2099, 2167, 2178]) 40 (.int ((S a0 a4) &&& (63 : Int32)) :: []) (fun t st1 => Z (d + 1) m_law_law t [some (.ref a0), some (.ref 0), some (.ref 65), some (.ref 91), some (.int (nI a4)), j5, j6] st1 (Hp S)) = _ from zsw_at (c := 34) (by rw [c34]; decide) (by decide) rfl rfl)) ?_
      refine wp_st (pc' := 2219) (L' := [some (.ref a0), some (.ref 0), some (.ref 65), some (.ref 91), some (.int (nI a4)), j5, j6]) (st' := [.ref 0]) (h' := Hp S) 1 (fun Z => rfl) ?_
      refine wp_call (pc' := 2222) (rest := []) (fun Z => rfl) (isO_of sh0) hw ?_
      rintro o h1 ⟨x179, S180, rfl, rfl, hw⟩
      refine ⟨_, rfl, ?_⟩
      show wp E (d + 1) m_law_law 2222 [some (.ref a0), some (.ref 0), some (.ref 65), some (.ref 91), some (.int (nI a4)), j5, j6] [.int x179] (Hp S180) (QI Q)
      refine wp_st (pc' := 2223) (L' := [some (.ref a0), some (.ref 0), some (.ref 65), some (.ref 91), some (.int (nI a4)), j5, j6]) (st' := [.ref 65, .int x179]) (h' := Hp S180) 1 (fun Z => rfl) ?_
      refine wp_call (pc' := 2226) (rest := [.int x179]) (fun Z => rfl) (isO_of sh65) hw ?_
      rintro o h1 ⟨x181, S182, rfl, rfl, hw⟩
      refine ⟨_, rfl, ?_⟩
      show wp E (d + 1) m_law_law 2226 [some (.ref a0), some (.ref 0), some (.ref 65), some (.ref 91), some (.int (nI a4)), j5, j6] [.int x181, .int x179] (Hp S182) (QI Q)
      by_cases hc : x179 = x181
      · rw [if_pos hc] at hw
        refine wp_st (pc' := 2231) (L' := [some (.ref a0), some (.ref 0), some (.ref 65), some (.ref 91), some (.int (nI a4)), j5, j6]) (st' := []) (h' := Hp S182) 1 (fun Z => if_pos hc) ?_
        refine wp_st (pc' := 2234) (L' := [some (.ref a0), some (.ref 0), some (.ref 65), some (.ref 91), some (.int (nI (a4 + 6))), j5, j6]) (st' := []) (h' := Hp S182) 1 (fun Z => by rw [← nI_add a4 6]; rfl) ?_
        exact wp_st 1 (fun Z => rfl) (show wp E (d + 1) m_law_law 23 [some (.ref a0), some (.ref 0), some (.ref 65), some (.ref 91), some (.int (nI (a4 + 6))), j5, j6] [] (Hp S182) (QI Q) from (hw j5 j6))
      · rw [if_neg hc] at hw
        refine wp_st (pc' := 2229) (L' := [some (.ref a0), some (.ref 0), some (.ref 65), some (.ref 91), some (.int (nI a4)), j5, j6]) (st' := []) (h' := Hp S182) 1 (fun Z => if_neg hc) ?_
        refine wp_st (pc' := 2230) (L' := [some (.ref a0), some (.ref 0), some (.ref 65), some (.ref 91), some (.int (nI a4)), j5, j6]) (st' := [.int 0]) (h' := Hp S182) 1 (fun Z => rfl) ?_
        exact wp_ret (fun Z => rfl) ⟨_, _, rfl, rfl, hw⟩
    rw [if_neg c34] at hw
    have hs : (((S a0 a4) &&& (63 : Int32))).toInt < (0 : Int) ∨ (34 : Int) < (((S a0 a4) &&& (63 : Int32))).toInt := by
      refine zoutG (n := 35) (by decide) (by decide) (by decide) ?_
      intro k hk
      rcases k with _ | _ | _ | _ | _ | _ | _ | _ | _ | _ | _ | _ | _ | _ | _ | _ | _ | _ | _ | _ | _ | _ | _ | _ | _ | _ | _ | _ | _ | _ | _ | _ | _ | _ | _ | k
      · exact c0
      · exact c1
      · exact c2
      · exact c3
      · exact c4
      · exact c5
      · exact c6
      · exact c7
      · exact c8
      · exact c9
      · exact c10
      · exact c11
      · exact c12
      · exact c13
      · exact c14
      · exact c15
      · exact c16
      · exact c17
      · exact c18
      · exact c19
      · exact c20
      · exact c21
      · exact c22
      · exact c23
      · exact c24
      · exact c25
      · exact c26
      · exact c27
      · exact c28
      · exact c29
      · exact c30
      · exact c31
      · exact c32
      · exact c33
      · exact c34
      · omega
    refine wp_st (pc' := 2231) (L' := [some (.ref a0), some (.ref 0), some (.ref 65), some (.ref 91), some (.int (nI a4)), j5, j6]) (st' := []) (h' := Hp S) 1 (fun Z => (show zsw (.tableswitch 2191 0 34 #[156, 229, 285, 298, 354, 422, 490, 515, 571, 639, 730, 798, 811, 891, 971, 1027, 1040, 1108, 1176, 1244, 1324, 1380, 1436, 1532, 1543, 1599, 1655, 1735, 1815, 1895, 1963, 2031, 2099, 2167, 2178]) 40 (.int ((S a0 a4) &&& (63 : Int32)) :: []) (fun t st1 => Z (d + 1) m_law_law t [some (.ref a0), some (.ref 0), some (.ref 65), some (.ref 91), some (.int (nI a4)), j5, j6] st1 (Hp S)) = _ from zsw_out hs rfl)) ?_
    refine wp_st (pc' := 2234) (L' := [some (.ref a0), some (.ref 0), some (.ref 65), some (.ref 91), some (.int (nI (a4 + 6))), j5, j6]) (st' := []) (h' := Hp S) 1 (fun Z => by rw [← nI_add a4 6]; rfl) ?_
    exact wp_st 1 (fun Z => rfl) (show wp E (d + 1) m_law_law 23 [some (.ref a0), some (.ref 0), some (.ref 65), some (.ref 91), some (.int (nI (a4 + 6))), j5, j6] [] (Hp S) (QI Q) from (hw j5 j6))
set_option maxRecDepth 4000 in
theorem w_law_law_700 {E : zX} {d : Nat} {S : St} {a0 : Nat} {a4 : Nat} {s1 : Int32} {s2 : Int32} {Q : Int32 → St → Prop} (hd : 1 ≤ d) {na0 : Nat} (ha0 : Ai a0 na0) (na0lt : na0 < 2 ^ 31)
    (hw : k_law_guard E (d - 1) S s1 s2 (fun x1 S2 =>
    (a4 + 1) < na0 ∧
    (a4 + 2) < na0 ∧
    if (S2 a0 (a4 + 2)) = 0 then (
      k_law_law_727 E d S2 a0 a4 x1 (S2 a0 (a4 + 1)) 0 Q)
    else (
      k_law_law_727 E d S2 a0 a4 x1 (S2 a0 (a4 + 1)) 1 Q))) :
    k_law_law_700 E d S a0 a4 s1 s2 Q := by
  obtain ⟨d, rfl⟩ := Nat.exists_eq_add_of_le' hd
  intro j5 j6
  show wp E (d + 1) m_law_law 700 [some (.ref a0), some (.ref 0), some (.ref 65), some (.ref 91), some (.int (nI a4)), j5, j6] [.int s2, .int s1, .ref 0] (Hp S) (QI Q)
  refine wp_st (pc' := 701) (L' := [some (.ref a0), some (.ref 0), some (.ref 65), some (.ref 91), some (.int (nI a4)), j5, j6]) (st' := [.ref 91, .int s2, .int s1, .ref 0]) (h' := Hp S) 1 (fun Z => rfl) ?_
  refine wp_call (pc' := 704) (rest := []) (fun Z => rfl) rfl hw ?_
  rintro o h1 ⟨x1, S2, rfl, rfl, hw⟩
  refine ⟨_, rfl, ?_⟩
  show wp E (d + 1) m_law_law 704 [some (.ref a0), some (.ref 0), some (.ref 65), some (.ref 91), some (.int (nI a4)), j5, j6] [.int x1] (Hp S2) (QI Q)
  refine wp_st (pc' := 711) (L' := [some (.ref a0), some (.ref 0), some (.ref 65), some (.ref 91), some (.int (nI a4)), some (.int x1), j6]) (st' := [.int 1, .int (nI a4), .ref a0, .ref 65]) (h' := Hp S2) 5 (fun Z => rfl) ?_
  refine wp_st (pc' := 712) (L' := [some (.ref a0), some (.ref 0), some (.ref 65), some (.ref 91), some (.int (nI a4)), some (.int x1), j6]) (st' := [.int (nI (a4 + 1)), .ref a0, .ref 65]) (h' := Hp S2) 1 (fun Z => by rw [← nI_add a4 1]; rfl) ?_
  obtain ⟨hi, hw⟩ := hw
  refine wp_st (pc' := 713) (L' := [some (.ref a0), some (.ref 0), some (.ref 65), some (.ref 91), some (.int (nI a4)), some (.int x1), j6]) (st' := [.int (S2 a0 (a4 + 1)), .ref 65]) (h' := Hp S2) 1 (fun Z => ldN (E := E) ha0 na0lt hi [.ref 65] (fun st => Z (d + 1) m_law_law 713 [some (.ref a0), some (.ref 0), some (.ref 65), some (.ref 91), some (.int (nI a4)), some (.int x1), j6] st (Hp S2))) ?_
  refine wp_st (pc' := 717) (L' := [some (.ref a0), some (.ref 0), some (.ref 65), some (.ref 91), some (.int (nI a4)), some (.int x1), j6]) (st' := [.int 2, .int (nI a4), .ref a0, .int (S2 a0 (a4 + 1)), .ref 65]) (h' := Hp S2) 3 (fun Z => rfl) ?_
  refine wp_st (pc' := 718) (L' := [some (.ref a0), some (.ref 0), some (.ref 65), some (.ref 91), some (.int (nI a4)), some (.int x1), j6]) (st' := [.int (nI (a4 + 2)), .ref a0, .int (S2 a0 (a4 + 1)), .ref 65]) (h' := Hp S2) 1 (fun Z => by rw [← nI_add a4 2]; rfl) ?_
  obtain ⟨hi, hw⟩ := hw
  refine wp_st (pc' := 719) (L' := [some (.ref a0), some (.ref 0), some (.ref 65), some (.ref 91), some (.int (nI a4)), some (.int x1), j6]) (st' := [.int (S2 a0 (a4 + 2)), .int (S2 a0 (a4 + 1)), .ref 65]) (h' := Hp S2) 1 (fun Z => ldN (E := E) ha0 na0lt hi [.int (S2 a0 (a4 + 1)), .ref 65] (fun st => Z (d + 1) m_law_law 719 [some (.ref a0), some (.ref 0), some (.ref 65), some (.ref 91), some (.int (nI a4)), some (.int x1), j6] st (Hp S2))) ?_
  by_cases hc : (S2 a0 (a4 + 2)) = 0
  · rw [if_pos hc] at hw
    refine wp_st (pc' := 726) (L' := [some (.ref a0), some (.ref 0), some (.ref 65), some (.ref 91), some (.int (nI a4)), some (.int x1), j6]) (st' := [.int (S2 a0 (a4 + 1)), .ref 65]) (h' := Hp S2) 1 (fun Z => if_pos hc) ?_
    exact wp_st 1 (fun Z => rfl) (show wp E (d + 1) m_law_law 727 [some (.ref a0), some (.ref 0), some (.ref 65), some (.ref 91), some (.int (nI a4)), some (.int x1), j6] [.int 0, .int (S2 a0 (a4 + 1)), .ref 65] (Hp S2) (QI Q) from (hw j6))
  · rw [if_neg hc] at hw
    refine wp_st (pc' := 722) (L' := [some (.ref a0), some (.ref 0), some (.ref 65), some (.ref 91), some (.int (nI a4)), some (.int x1), j6]) (st' := [.int (S2 a0 (a4 + 1)), .ref 65]) (h' := Hp S2) 1 (fun Z => if_neg hc) ?_
    exact wp_st 2 (fun Z => rfl) (show wp E (d + 1) m_law_law 727 [some (.ref a0), some (.ref 0), some (.ref 65), some (.ref 91), some (.int (nI a4)), some (.int x1), j6] [.int 1, .int (S2 a0 (a4 + 1)), .ref 65] (Hp S2) (QI Q) from (hw j6))
set_option maxRecDepth 4000 in
theorem w_law_law_727 {E : zX} {d : Nat} {S : St} {a0 : Nat} {a4 : Nat} {a5 : Int32} {s1 : Int32} {s2 : Int32} {Q : Int32 → St → Prop} (hd : 1 ≤ d) {na0 : Nat} (ha0 : Ai a0 na0) (na0lt : na0 < 2 ^ 31)
    (hw : k_m_guard E (d - 1) S s1 s2 (fun x1 S2 =>
    k_m_thrown E (d - 1) S2 (fun x3 S4 =>
    if x3 = a5 then (
      if a5 = 0 then (
        if x1 = 0 then (
          if (lg_cmp (catL (S4 91 0) (S4 91 1)) 0) = 0 then (
            k_law_law_23 E d S4 a0 (a4 + 6) Q)
          else (
            Q (0 : Int32) S4))
        else (
          if (lg_cmp (catL (S4 91 0) (S4 91 1)) 1) = 0 then (
            k_law_law_23 E d S4 a0 (a4 + 6) Q)
          else (
            Q (0 : Int32) S4)))
      else (
        k_law_law_23 E d S4 a0 (a4 + 6) Q))
    else (
      Q (0 : Int32) S4)))) :
    k_law_law_727 E d S a0 a4 a5 s1 s2 Q := by
  obtain ⟨d, rfl⟩ := Nat.exists_eq_add_of_le' hd
  intro j6
  show wp E (d + 1) m_law_law 727 [some (.ref a0), some (.ref 0), some (.ref 65), some (.ref 91), some (.int (nI a4)), some (.int a5), j6] [.int s2, .int s1, .ref 65] (Hp S) (QI Q)
  refine wp_call (pc' := 730) (rest := []) (fun Z => rfl) (isO_of sh65) hw ?_
  rintro o h1 ⟨x1, S2, rfl, rfl, hw⟩
  refine ⟨_, rfl, ?_⟩
  show wp E (d + 1) m_law_law 730 [some (.ref a0), some (.ref 0), some (.ref 65), some (.ref 91), some (.int (nI a4)), some (.int a5), j6] [.int x1] (Hp S2) (QI Q)
  refine wp_st (pc' := 733) (L' := [some (.ref a0), some (.ref 0), some (.ref 65), some (.ref 91), some (.int (nI a4)), some (.int a5), some (.int x1)]) (st' := [.ref 65]) (h' := Hp S2) 2 (fun Z => rfl) ?_
  refine wp_call (pc' := 736) (rest := []) (fun Z => rfl) (isO_of sh65) hw ?_
  rintro o h1 ⟨x3, S4, rfl, rfl, hw⟩
  refine ⟨_, rfl, ?_⟩
  show wp E (d + 1) m_law_law 736 [some (.ref a0), some (.ref 0), some (.ref 65), some (.ref 91), some (.int (nI a4)), some (.int a5), some (.int x1)] [.int x3] (Hp S4) (QI Q)
  refine wp_st (pc' := 738) (L' := [some (.ref a0), some (.ref 0), some (.ref 65), some (.ref 91), some (.int (nI a4)), some (.int a5), some (.int x1)]) (st' := [.int a5, .int x3]) (h' := Hp S4) 1 (fun Z => rfl) ?_
  by_cases hc : x3 = a5
  · rw [if_pos hc] at hw
    refine wp_st (pc' := 743) (L' := [some (.ref a0), some (.ref 0), some (.ref 65), some (.ref 91), some (.int (nI a4)), some (.int a5), some (.int x1)]) (st' := []) (h' := Hp S4) 1 (fun Z => if_pos hc) ?_
    refine wp_st (pc' := 745) (L' := [some (.ref a0), some (.ref 0), some (.ref 65), some (.ref 91), some (.int (nI a4)), some (.int a5), some (.int x1)]) (st' := [.int a5]) (h' := Hp S4) 1 (fun Z => rfl) ?_
    by_cases hc : a5 = 0
    · rw [if_pos hc] at hw
      refine wp_st (pc' := 748) (L' := [some (.ref a0), some (.ref 0), some (.ref 65), some (.ref 91), some (.int (nI a4)), some (.int a5), some (.int x1)]) (st' := []) (h' := Hp S4) 1 (fun Z => if_pos hc) ?_
      refine wp_st (pc' := 750) (L' := [some (.ref a0), some (.ref 0), some (.ref 65), some (.ref 91), some (.int (nI a4)), some (.int a5), some (.int x1)]) (st' := [.int 0, .ref 91]) (h' := Hp S4) 2 (fun Z => rfl) ?_
      refine wp_st (pc' := 751) (L' := [some (.ref a0), some (.ref 0), some (.ref 65), some (.ref 91), some (.int (nI a4)), some (.int a5), some (.int x1)]) (st' := [.long (catL (S4 91 0) (S4 91 1))]) (h' := Hp S4) 1 (fun Z => ldJ0 (E := E) sh91 (by decide) [] (fun st => Z (d + 1) m_law_law 751 [some (.ref a0), some (.ref 0), some (.ref 65), some (.ref 91), some (.int (nI a4)), some (.int a5), some (.int x1)] st (Hp S4))) ?_
      refine wp_st (pc' := 753) (L' := [some (.ref a0), some (.ref 0), some (.ref 65), some (.ref 91), some (.int (nI a4)), some (.int a5), some (.int x1)]) (st' := [.int x1, .long (catL (S4 91 0) (S4 91 1))]) (h' := Hp S4) 1 (fun Z => rfl) ?_
      by_cases hc : x1 = 0
      · rw [if_pos hc] at hw
        refine wp_st (pc' := 760) (L' := [some (.ref a0), some (.ref 0), some (.ref 65), some (.ref 91), some (.int (nI a4)), some (.int a5), some (.int x1)]) (st' := [.long (catL (S4 91 0) (S4 91 1))]) (h' := Hp S4) 1 (fun Z => if_pos hc) ?_
        refine wp_st (pc' := 762) (L' := [some (.ref a0), some (.ref 0), some (.ref 65), some (.ref 91), some (.int (nI a4)), some (.int a5), some (.int x1)]) (st' := [.int (lg_cmp (catL (S4 91 0) (S4 91 1)) 0)]) (h' := Hp S4) 2 (fun Z => rfl) ?_
        by_cases hc : (lg_cmp (catL (S4 91 0) (S4 91 1)) 0) = 0
        · rw [if_pos hc] at hw
          refine wp_st (pc' := 767) (L' := [some (.ref a0), some (.ref 0), some (.ref 65), some (.ref 91), some (.int (nI a4)), some (.int a5), some (.int x1)]) (st' := []) (h' := Hp S4) 1 (fun Z => if_pos hc) ?_
          refine wp_st (pc' := 2231) (L' := [some (.ref a0), some (.ref 0), some (.ref 65), some (.ref 91), some (.int (nI a4)), some (.int a5), some (.int x1)]) (st' := []) (h' := Hp S4) 1 (fun Z => rfl) ?_
          refine wp_st (pc' := 2234) (L' := [some (.ref a0), some (.ref 0), some (.ref 65), some (.ref 91), some (.int (nI (a4 + 6))), some (.int a5), some (.int x1)]) (st' := []) (h' := Hp S4) 1 (fun Z => by rw [← nI_add a4 6]; rfl) ?_
          exact wp_st 1 (fun Z => rfl) (show wp E (d + 1) m_law_law 23 [some (.ref a0), some (.ref 0), some (.ref 65), some (.ref 91), some (.int (nI (a4 + 6))), some (.int a5), some (.int x1)] [] (Hp S4) (QI Q) from (hw (some (.int a5)) (some (.int x1))))
        · rw [if_neg hc] at hw
          refine wp_st (pc' := 765) (L' := [some (.ref a0), some (.ref 0), some (.ref 65), some (.ref 91), some (.int (nI a4)), some (.int a5), some (.int x1)]) (st' := []) (h' := Hp S4) 1 (fun Z => if_neg hc) ?_
          refine wp_st (pc' := 766) (L' := [some (.ref a0), some (.ref 0), some (.ref 65), some (.ref 91), some (.int (nI a4)), some (.int a5), some (.int x1)]) (st' := [.int 0]) (h' := Hp S4) 1 (fun Z => rfl) ?_
          exact wp_ret (fun Z => rfl) ⟨_, _, rfl, rfl, hw⟩
      · rw [if_neg hc] at hw
        refine wp_st (pc' := 756) (L' := [some (.ref a0), some (.ref 0), some (.ref 65), some (.ref 91), some (.int (nI a4)), some (.int a5), some (.int x1)]) (st' := [.long (catL (S4 91 0) (S4 91 1))]) (h' := Hp S4) 1 (fun Z => if_neg hc) ?_
        refine wp_st (pc' := 762) (L' := [some (.ref a0), some (.ref 0), some (.ref 65), some (.ref 91), some (.int (nI a4)), some (.int a5), some (.int x1)]) (st' := [.int (lg_cmp (catL (S4 91 0) (S4 91 1)) 1)]) (h' := Hp S4) 3 (fun Z => rfl) ?_
        by_cases hc : (lg_cmp (catL (S4 91 0) (S4 91 1)) 1) = 0
        · rw [if_pos hc] at hw
          refine wp_st (pc' := 767) (L' := [some (.ref a0), some (.ref 0), some (.ref 65), some (.ref 91), some (.int (nI a4)), some (.int a5), some (.int x1)]) (st' := []) (h' := Hp S4) 1 (fun Z => if_pos hc) ?_
          refine wp_st (pc' := 2231) (L' := [some (.ref a0), some (.ref 0), some (.ref 65), some (.ref 91), some (.int (nI a4)), some (.int a5), some (.int x1)]) (st' := []) (h' := Hp S4) 1 (fun Z => rfl) ?_
          refine wp_st (pc' := 2234) (L' := [some (.ref a0), some (.ref 0), some (.ref 65), some (.ref 91), some (.int (nI (a4 + 6))), some (.int a5), some (.int x1)]) (st' := []) (h' := Hp S4) 1 (fun Z => by rw [← nI_add a4 6]; rfl) ?_
          exact wp_st 1 (fun Z => rfl) (show wp E (d + 1) m_law_law 23 [some (.ref a0), some (.ref 0), some (.ref 65), some (.ref 91), some (.int (nI (a4 + 6))), some (.int a5), some (.int x1)] [] (Hp S4) (QI Q) from (hw (some (.int a5)) (some (.int x1))))
        · rw [if_neg hc] at hw
          refine wp_st (pc' := 765) (L' := [some (.ref a0), some (.ref 0), some (.ref 65), some (.ref 91), some (.int (nI a4)), some (.int a5), some (.int x1)]) (st' := []) (h' := Hp S4) 1 (fun Z => if_neg hc) ?_
          refine wp_st (pc' := 766) (L' := [some (.ref a0), some (.ref 0), some (.ref 65), some (.ref 91), some (.int (nI a4)), some (.int a5), some (.int x1)]) (st' := [.int 0]) (h' := Hp S4) 1 (fun Z => rfl) ?_
          exact wp_ret (fun Z => rfl) ⟨_, _, rfl, rfl, hw⟩
    · rw [if_neg hc] at hw
      refine wp_st (pc' := 767) (L' := [some (.ref a0), some (.ref 0), some (.ref 65), some (.ref 91), some (.int (nI a4)), some (.int a5), some (.int x1)]) (st' := []) (h' := Hp S4) 1 (fun Z => if_neg hc) ?_
      refine wp_st (pc' := 2231) (L' := [some (.ref a0), some (.ref 0), some (.ref 65), some (.ref 91), some (.int (nI a4)), some (.int a5), some (.int x1)]) (st' := []) (h' := Hp S4) 1 (fun Z => rfl) ?_
      refine wp_st (pc' := 2234) (L' := [some (.ref a0), some (.ref 0), some (.ref 65), some (.ref 91), some (.int (nI (a4 + 6))), some (.int a5), some (.int x1)]) (st' := []) (h' := Hp S4) 1 (fun Z => by rw [← nI_add a4 6]; rfl) ?_
      exact wp_st 1 (fun Z => rfl) (show wp E (d + 1) m_law_law 23 [some (.ref a0), some (.ref 0), some (.ref 65), some (.ref 91), some (.int (nI (a4 + 6))), some (.int a5), some (.int x1)] [] (Hp S4) (QI Q) from (hw (some (.int a5)) (some (.int x1))))
  · rw [if_neg hc] at hw
    refine wp_st (pc' := 741) (L' := [some (.ref a0), some (.ref 0), some (.ref 65), some (.ref 91), some (.int (nI a4)), some (.int a5), some (.int x1)]) (st' := []) (h' := Hp S4) 1 (fun Z => if_neg hc) ?_
    refine wp_st (pc' := 742) (L' := [some (.ref a0), some (.ref 0), some (.ref 65), some (.ref 91), some (.int (nI a4)), some (.int a5), some (.int x1)]) (st' := [.int 0]) (h' := Hp S4) 1 (fun Z => rfl) ?_
    exact wp_ret (fun Z => rfl) ⟨_, _, rfl, rfl, hw⟩
set_option maxRecDepth 4000 in
theorem w_law_law_1503 {E : zX} {d : Nat} {S : St} {a0 : Nat} {a4 : Nat} {s1 : Int32} {s2 : Int32} {s3 : Int32} {Q : Int32 → St → Prop} (hd : 1 ≤ d) {na0 : Nat} (ha0 : Ai a0 na0) (na0lt : na0 < 2 ^ 31)
    (hw : k_law_see E (d - 1) S s1 s2 s3 (fun x1 S2 =>
    (a4 + 1) < na0 ∧
    (a4 + 2) < na0 ∧
    (a4 + 3) < na0 ∧
    if (S2 a0 (a4 + 3)) = 0 then (
      k_law_law_1536 E d S2 a0 a4 x1 (S2 a0 (a4 + 1)) (S2 a0 (a4 + 2)) 0 Q)
    else (
      k_law_law_1536 E d S2 a0 a4 x1 (S2 a0 (a4 + 1)) (S2 a0 (a4 + 2)) 1 Q))) :
    k_law_law_1503 E d S a0 a4 s1 s2 s3 Q := by
  obtain ⟨d, rfl⟩ := Nat.exists_eq_add_of_le' hd
  intro j5 j6
  show wp E (d + 1) m_law_law 1503 [some (.ref a0), some (.ref 0), some (.ref 65), some (.ref 91), some (.int (nI a4)), j5, j6] [.int s3, .int s2, .int s1, .ref 0] (Hp S) (QI Q)
  refine wp_st (pc' := 1504) (L' := [some (.ref a0), some (.ref 0), some (.ref 65), some (.ref 91), some (.int (nI a4)), j5, j6]) (st' := [.ref 91, .int s3, .int s2, .int s1, .ref 0]) (h' := Hp S) 1 (fun Z => rfl) ?_
  refine wp_call (pc' := 1507) (rest := []) (fun Z => rfl) rfl hw ?_
  rintro o h1 ⟨x1, S2, rfl, rfl, hw⟩
  refine ⟨_, rfl, ?_⟩
  show wp E (d + 1) m_law_law 1507 [some (.ref a0), some (.ref 0), some (.ref 65), some (.ref 91), some (.int (nI a4)), j5, j6] [.int x1] (Hp S2) (QI Q)
  refine wp_st (pc' := 1514) (L' := [some (.ref a0), some (.ref 0), some (.ref 65), some (.ref 91), some (.int (nI a4)), some (.int x1), j6]) (st' := [.int 1, .int (nI a4), .ref a0, .ref 65]) (h' := Hp S2) 5 (fun Z => rfl) ?_
  refine wp_st (pc' := 1515) (L' := [some (.ref a0), some (.ref 0), some (.ref 65), some (.ref 91), some (.int (nI a4)), some (.int x1), j6]) (st' := [.int (nI (a4 + 1)), .ref a0, .ref 65]) (h' := Hp S2) 1 (fun Z => by rw [← nI_add a4 1]; rfl) ?_
  obtain ⟨hi, hw⟩ := hw
  refine wp_st (pc' := 1516) (L' := [some (.ref a0), some (.ref 0), some (.ref 65), some (.ref 91), some (.int (nI a4)), some (.int x1), j6]) (st' := [.int (S2 a0 (a4 + 1)), .ref 65]) (h' := Hp S2) 1 (fun Z => ldN (E := E) ha0 na0lt hi [.ref 65] (fun st => Z (d + 1) m_law_law 1516 [some (.ref a0), some (.ref 0), some (.ref 65), some (.ref 91), some (.int (nI a4)), some (.int x1), j6] st (Hp S2))) ?_
  refine wp_st (pc' := 1520) (L' := [some (.ref a0), some (.ref 0), some (.ref 65), some (.ref 91), some (.int (nI a4)), some (.int x1), j6]) (st' := [.int 2, .int (nI a4), .ref a0, .int (S2 a0 (a4 + 1)), .ref 65]) (h' := Hp S2) 3 (fun Z => rfl) ?_
  refine wp_st (pc' := 1521) (L' := [some (.ref a0), some (.ref 0), some (.ref 65), some (.ref 91), some (.int (nI a4)), some (.int x1), j6]) (st' := [.int (nI (a4 + 2)), .ref a0, .int (S2 a0 (a4 + 1)), .ref 65]) (h' := Hp S2) 1 (fun Z => by rw [← nI_add a4 2]; rfl) ?_
  obtain ⟨hi, hw⟩ := hw
  refine wp_st (pc' := 1522) (L' := [some (.ref a0), some (.ref 0), some (.ref 65), some (.ref 91), some (.int (nI a4)), some (.int x1), j6]) (st' := [.int (S2 a0 (a4 + 2)), .int (S2 a0 (a4 + 1)), .ref 65]) (h' := Hp S2) 1 (fun Z => ldN (E := E) ha0 na0lt hi [.int (S2 a0 (a4 + 1)), .ref 65] (fun st => Z (d + 1) m_law_law 1522 [some (.ref a0), some (.ref 0), some (.ref 65), some (.ref 91), some (.int (nI a4)), some (.int x1), j6] st (Hp S2))) ?_
  refine wp_st (pc' := 1526) (L' := [some (.ref a0), some (.ref 0), some (.ref 65), some (.ref 91), some (.int (nI a4)), some (.int x1), j6]) (st' := [.int 3, .int (nI a4), .ref a0, .int (S2 a0 (a4 + 2)), .int (S2 a0 (a4 + 1)), .ref 65]) (h' := Hp S2) 3 (fun Z => rfl) ?_
  refine wp_st (pc' := 1527) (L' := [some (.ref a0), some (.ref 0), some (.ref 65), some (.ref 91), some (.int (nI a4)), some (.int x1), j6]) (st' := [.int (nI (a4 + 3)), .ref a0, .int (S2 a0 (a4 + 2)), .int (S2 a0 (a4 + 1)), .ref 65]) (h' := Hp S2) 1 (fun Z => by rw [← nI_add a4 3]; rfl) ?_
  obtain ⟨hi, hw⟩ := hw
  refine wp_st (pc' := 1528) (L' := [some (.ref a0), some (.ref 0), some (.ref 65), some (.ref 91), some (.int (nI a4)), some (.int x1), j6]) (st' := [.int (S2 a0 (a4 + 3)), .int (S2 a0 (a4 + 2)), .int (S2 a0 (a4 + 1)), .ref 65]) (h' := Hp S2) 1 (fun Z => ldN (E := E) ha0 na0lt hi [.int (S2 a0 (a4 + 2)), .int (S2 a0 (a4 + 1)), .ref 65] (fun st => Z (d + 1) m_law_law 1528 [some (.ref a0), some (.ref 0), some (.ref 65), some (.ref 91), some (.int (nI a4)), some (.int x1), j6] st (Hp S2))) ?_
  by_cases hc : (S2 a0 (a4 + 3)) = 0
  · rw [if_pos hc] at hw
    refine wp_st (pc' := 1535) (L' := [some (.ref a0), some (.ref 0), some (.ref 65), some (.ref 91), some (.int (nI a4)), some (.int x1), j6]) (st' := [.int (S2 a0 (a4 + 2)), .int (S2 a0 (a4 + 1)), .ref 65]) (h' := Hp S2) 1 (fun Z => if_pos hc) ?_
    exact wp_st 1 (fun Z => rfl) (show wp E (d + 1) m_law_law 1536 [some (.ref a0), some (.ref 0), some (.ref 65), some (.ref 91), some (.int (nI a4)), some (.int x1), j6] [.int 0, .int (S2 a0 (a4 + 2)), .int (S2 a0 (a4 + 1)), .ref 65] (Hp S2) (QI Q) from (hw j6))
  · rw [if_neg hc] at hw
    refine wp_st (pc' := 1531) (L' := [some (.ref a0), some (.ref 0), some (.ref 65), some (.ref 91), some (.int (nI a4)), some (.int x1), j6]) (st' := [.int (S2 a0 (a4 + 2)), .int (S2 a0 (a4 + 1)), .ref 65]) (h' := Hp S2) 1 (fun Z => if_neg hc) ?_
    exact wp_st 2 (fun Z => rfl) (show wp E (d + 1) m_law_law 1536 [some (.ref a0), some (.ref 0), some (.ref 65), some (.ref 91), some (.int (nI a4)), some (.int x1), j6] [.int 1, .int (S2 a0 (a4 + 2)), .int (S2 a0 (a4 + 1)), .ref 65] (Hp S2) (QI Q) from (hw j6))
set_option maxRecDepth 4000 in
theorem w_law_law_1536 {E : zX} {d : Nat} {S : St} {a0 : Nat} {a4 : Nat} {a5 : Int32} {s1 : Int32} {s2 : Int32} {s3 : Int32} {Q : Int32 → St → Prop} (hd : 1 ≤ d) {na0 : Nat} (ha0 : Ai a0 na0) (na0lt : na0 < 2 ^ 31)
    (hw : k_m_see E (d - 1) S s1 s2 s3 (fun x1 S2 =>
    k_m_thrown E (d - 1) S2 (fun x3 S4 =>
    if x3 = a5 then (
      if a5 = 0 then (
        if (lg_cmp (catL (S4 91 0) (S4 91 1)) (Int32.toInt64 x1)) = 0 then (
          k_law_law_23 E d S4 a0 (a4 + 6) Q)
        else (
          Q (0 : Int32) S4))
      else (
        k_law_law_23 E d S4 a0 (a4 + 6) Q))
    else (
      Q (0 : Int32) S4)))) :
    k_law_law_1536 E d S a0 a4 a5 s1 s2 s3 Q := by
  obtain ⟨d, rfl⟩ := Nat.exists_eq_add_of_le' hd
  intro j6
  show wp E (d + 1) m_law_law 1536 [some (.ref a0), some (.ref 0), some (.ref 65), some (.ref 91), some (.int (nI a4)), some (.int a5), j6] [.int s3, .int s2, .int s1, .ref 65] (Hp S) (QI Q)
  refine wp_call (pc' := 1539) (rest := []) (fun Z => rfl) (isO_of sh65) hw ?_
  rintro o h1 ⟨x1, S2, rfl, rfl, hw⟩
  refine ⟨_, rfl, ?_⟩
  show wp E (d + 1) m_law_law 1539 [some (.ref a0), some (.ref 0), some (.ref 65), some (.ref 91), some (.int (nI a4)), some (.int a5), j6] [.int x1] (Hp S2) (QI Q)
  refine wp_st (pc' := 1542) (L' := [some (.ref a0), some (.ref 0), some (.ref 65), some (.ref 91), some (.int (nI a4)), some (.int a5), some (.int x1)]) (st' := [.ref 65]) (h' := Hp S2) 2 (fun Z => rfl) ?_
  refine wp_call (pc' := 1545) (rest := []) (fun Z => rfl) (isO_of sh65) hw ?_
  rintro o h1 ⟨x3, S4, rfl, rfl, hw⟩
  refine ⟨_, rfl, ?_⟩
  show wp E (d + 1) m_law_law 1545 [some (.ref a0), some (.ref 0), some (.ref 65), some (.ref 91), some (.int (nI a4)), some (.int a5), some (.int x1)] [.int x3] (Hp S4) (QI Q)
  refine wp_st (pc' := 1547) (L' := [some (.ref a0), some (.ref 0), some (.ref 65), some (.ref 91), some (.int (nI a4)), some (.int a5), some (.int x1)]) (st' := [.int a5, .int x3]) (h' := Hp S4) 1 (fun Z => rfl) ?_
  by_cases hc : x3 = a5
  · rw [if_pos hc] at hw
    refine wp_st (pc' := 1552) (L' := [some (.ref a0), some (.ref 0), some (.ref 65), some (.ref 91), some (.int (nI a4)), some (.int a5), some (.int x1)]) (st' := []) (h' := Hp S4) 1 (fun Z => if_pos hc) ?_
    refine wp_st (pc' := 1554) (L' := [some (.ref a0), some (.ref 0), some (.ref 65), some (.ref 91), some (.int (nI a4)), some (.int a5), some (.int x1)]) (st' := [.int a5]) (h' := Hp S4) 1 (fun Z => rfl) ?_
    by_cases hc : a5 = 0
    · rw [if_pos hc] at hw
      refine wp_st (pc' := 1557) (L' := [some (.ref a0), some (.ref 0), some (.ref 65), some (.ref 91), some (.int (nI a4)), some (.int a5), some (.int x1)]) (st' := []) (h' := Hp S4) 1 (fun Z => if_pos hc) ?_
      refine wp_st (pc' := 1559) (L' := [some (.ref a0), some (.ref 0), some (.ref 65), some (.ref 91), some (.int (nI a4)), some (.int a5), some (.int x1)]) (st' := [.int 0, .ref 91]) (h' := Hp S4) 2 (fun Z => rfl) ?_
      refine wp_st (pc' := 1560) (L' := [some (.ref a0), some (.ref 0), some (.ref 65), some (.ref 91), some (.int (nI a4)), some (.int a5), some (.int x1)]) (st' := [.long (catL (S4 91 0) (S4 91 1))]) (h' := Hp S4) 1 (fun Z => ldJ0 (E := E) sh91 (by decide) [] (fun st => Z (d + 1) m_law_law 1560 [some (.ref a0), some (.ref 0), some (.ref 65), some (.ref 91), some (.int (nI a4)), some (.int a5), some (.int x1)] st (Hp S4))) ?_
      refine wp_st (pc' := 1564) (L' := [some (.ref a0), some (.ref 0), some (.ref 65), some (.ref 91), some (.int (nI a4)), some (.int a5), some (.int x1)]) (st' := [.int (lg_cmp (catL (S4 91 0) (S4 91 1)) (Int32.toInt64 x1))]) (h' := Hp S4) 3 (fun Z => rfl) ?_
      by_cases hc : (lg_cmp (catL (S4 91 0) (S4 91 1)) (Int32.toInt64 x1)) = 0
      · rw [if_pos hc] at hw
        refine wp_st (pc' := 1569) (L' := [some (.ref a0), some (.ref 0), some (.ref 65), some (.ref 91), some (.int (nI a4)), some (.int a5), some (.int x1)]) (st' := []) (h' := Hp S4) 1 (fun Z => if_pos hc) ?_
        refine wp_st (pc' := 2231) (L' := [some (.ref a0), some (.ref 0), some (.ref 65), some (.ref 91), some (.int (nI a4)), some (.int a5), some (.int x1)]) (st' := []) (h' := Hp S4) 1 (fun Z => rfl) ?_
        refine wp_st (pc' := 2234) (L' := [some (.ref a0), some (.ref 0), some (.ref 65), some (.ref 91), some (.int (nI (a4 + 6))), some (.int a5), some (.int x1)]) (st' := []) (h' := Hp S4) 1 (fun Z => by rw [← nI_add a4 6]; rfl) ?_
        exact wp_st 1 (fun Z => rfl) (show wp E (d + 1) m_law_law 23 [some (.ref a0), some (.ref 0), some (.ref 65), some (.ref 91), some (.int (nI (a4 + 6))), some (.int a5), some (.int x1)] [] (Hp S4) (QI Q) from (hw (some (.int a5)) (some (.int x1))))
      · rw [if_neg hc] at hw
        refine wp_st (pc' := 1567) (L' := [some (.ref a0), some (.ref 0), some (.ref 65), some (.ref 91), some (.int (nI a4)), some (.int a5), some (.int x1)]) (st' := []) (h' := Hp S4) 1 (fun Z => if_neg hc) ?_
        refine wp_st (pc' := 1568) (L' := [some (.ref a0), some (.ref 0), some (.ref 65), some (.ref 91), some (.int (nI a4)), some (.int a5), some (.int x1)]) (st' := [.int 0]) (h' := Hp S4) 1 (fun Z => rfl) ?_
        exact wp_ret (fun Z => rfl) ⟨_, _, rfl, rfl, hw⟩
    · rw [if_neg hc] at hw
      refine wp_st (pc' := 1569) (L' := [some (.ref a0), some (.ref 0), some (.ref 65), some (.ref 91), some (.int (nI a4)), some (.int a5), some (.int x1)]) (st' := []) (h' := Hp S4) 1 (fun Z => if_neg hc) ?_
      refine wp_st (pc' := 2231) (L' := [some (.ref a0), some (.ref 0), some (.ref 65), some (.ref 91), some (.int (nI a4)), some (.int a5), some (.int x1)]) (st' := []) (h' := Hp S4) 1 (fun Z => rfl) ?_
      refine wp_st (pc' := 2234) (L' := [some (.ref a0), some (.ref 0), some (.ref 65), some (.ref 91), some (.int (nI (a4 + 6))), some (.int a5), some (.int x1)]) (st' := []) (h' := Hp S4) 1 (fun Z => by rw [← nI_add a4 6]; rfl) ?_
      exact wp_st 1 (fun Z => rfl) (show wp E (d + 1) m_law_law 23 [some (.ref a0), some (.ref 0), some (.ref 65), some (.ref 91), some (.int (nI (a4 + 6))), some (.int a5), some (.int x1)] [] (Hp S4) (QI Q) from (hw (some (.int a5)) (some (.int x1))))
  · rw [if_neg hc] at hw
    refine wp_st (pc' := 1550) (L' := [some (.ref a0), some (.ref 0), some (.ref 65), some (.ref 91), some (.int (nI a4)), some (.int a5), some (.int x1)]) (st' := []) (h' := Hp S4) 1 (fun Z => if_neg hc) ?_
    refine wp_st (pc' := 1551) (L' := [some (.ref a0), some (.ref 0), some (.ref 65), some (.ref 91), some (.int (nI a4)), some (.int a5), some (.int x1)]) (st' := [.int 0]) (h' := Hp S4) 1 (fun Z => rfl) ?_
    exact wp_ret (fun Z => rfl) ⟨_, _, rfl, rfl, hw⟩
