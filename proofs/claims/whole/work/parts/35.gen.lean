set_option maxRecDepth 4000 in
theorem s_law_county_0 (E : zX) (d : Nat) (a0 : Nat) (a1 : Int32) (a2 : Nat) (h : zH) (r : zO × zH)
    (hw : isO h a0 11 = true ∧ ((∃ (x1 : Int32) (h2 : zH), zT E d m_x_county 0 [some (.ref a0), some (.int a1), none] [] h (.inl (some (.int x1)), h2) ∧
    ∃ (n3 : Nat) (f4 : Nat → Int64), arL h2 a2 = some (n3, f4) ∧ ¬ ((0 : Int32) < 0 ∨ n3 ≤ ((0 : Int32)).toNatClampNeg) ∧
    r = (.inl (some (.int 0)), (setL h2 a2 n3 (vp_updL f4 ((0 : Int32)).toNatClampNeg (Int32.toInt64 x1))))) ∨
    (∃ (h2 : zH), zT E d m_x_county 0 [some (.ref a0), some (.int a1), none] [] h (.inr 1, h2) ∧
    r = (.inl (some (.int 1)), h2)))) :
    zT E (d + 1) m_law_county 0 [some (.ref a0), some (.int a1), some (.ref a2), none] [] h r := by
  refine zT_st (pc' := 4) (L' := [some (.ref a0), some (.int a1), some (.ref a2), none]) (st' := [.int a1, .ref a0, .int 0, .ref a2]) (h' := h) 4 (fun n => rfl) ?_
  obtain ⟨hq, hw⟩ := hw
  rcases hw with ⟨x1, h2, hx, hw⟩ | ⟨h2, hx, hw⟩
  · refine zT_call (pc' := 7) (rest := [.int 0, .ref a2]) 1 (fun n => rfl) hq hx ?_
    show zT E (d + 1) m_law_county 7 [some (.ref a0), some (.int a1), some (.ref a2), none] [.int x1, .int 0, .ref a2] h2 r
    refine zT_st (pc' := 8) (L' := [some (.ref a0), some (.int a1), some (.ref a2), none]) (st' := [.long (Int32.toInt64 x1), .int 0, .ref a2]) (h' := h2) 1 (fun n => rfl) ?_
    obtain ⟨n3, f4, e, hi, hw⟩ := hw
    refine zT_st (pc' := 9) (L' := [some (.ref a0), some (.int a1), some (.ref a2), none]) (st' := []) (h' := (setL h2 a2 n3 (vp_updL f4 ((0 : Int32)).toNatClampNeg (Int32.toInt64 x1)))) 1 (fun n => seL_eq e hi _ _) ?_
    subst hw
    exact zT_ret 3 rfl
  · refine zT_callH (pc' := 13) (L' := [some (.ref a0), some (.int a1), some (.ref a2), none]) 1 (fun n => rfl) hq (fun n => rfl) hx ?_
    subst hw
    exact zT_ret 2 rfl
set_option maxRecDepth 4000 in
theorem s_law_count_0 (E : zX) (d : Nat) (a0 : Nat) (a1 : Int32) (a2 : Nat) (h : zH) (r : zO × zH)
    (hw : isO h a0 11 = true ∧ ((∃ (x1 : Int32) (h2 : zH), zT E d m_x_count 0 [some (.ref a0), some (.int a1)] [] h (.inl (some (.int x1)), h2) ∧
    ∃ (n3 : Nat) (f4 : Nat → Int64), arL h2 a2 = some (n3, f4) ∧ ¬ ((0 : Int32) < 0 ∨ n3 ≤ ((0 : Int32)).toNatClampNeg) ∧
    r = (.inl (some (.int 0)), (setL h2 a2 n3 (vp_updL f4 ((0 : Int32)).toNatClampNeg (Int32.toInt64 x1))))) ∨
    (∃ (h2 : zH), zT E d m_x_count 0 [some (.ref a0), some (.int a1)] [] h (.inr 0, h2) ∧
    r = (.inl (some (.int 1)), h2)))) :
    zT E (d + 1) m_law_count 0 [some (.ref a0), some (.int a1), some (.ref a2), none] [] h r := by
  refine zT_st (pc' := 4) (L' := [some (.ref a0), some (.int a1), some (.ref a2), none]) (st' := [.int a1, .ref a0, .int 0, .ref a2]) (h' := h) 4 (fun n => rfl) ?_
  obtain ⟨hq, hw⟩ := hw
  rcases hw with ⟨x1, h2, hx, hw⟩ | ⟨h2, hx, hw⟩
  · refine zT_call (pc' := 7) (rest := [.int 0, .ref a2]) 1 (fun n => rfl) hq hx ?_
    show zT E (d + 1) m_law_count 7 [some (.ref a0), some (.int a1), some (.ref a2), none] [.int x1, .int 0, .ref a2] h2 r
    refine zT_st (pc' := 8) (L' := [some (.ref a0), some (.int a1), some (.ref a2), none]) (st' := [.long (Int32.toInt64 x1), .int 0, .ref a2]) (h' := h2) 1 (fun n => rfl) ?_
    obtain ⟨n3, f4, e, hi, hw⟩ := hw
    refine zT_st (pc' := 9) (L' := [some (.ref a0), some (.int a1), some (.ref a2), none]) (st' := []) (h' := (setL h2 a2 n3 (vp_updL f4 ((0 : Int32)).toNatClampNeg (Int32.toInt64 x1)))) 1 (fun n => seL_eq e hi _ _) ?_
    subst hw
    exact zT_ret 3 rfl
  · refine zT_callH (pc' := 13) (L' := [some (.ref a0), some (.int a1), some (.ref a2), none]) 1 (fun n => rfl) hq (fun n => rfl) hx ?_
    subst hw
    exact zT_ret 2 rfl
set_option maxRecDepth 4000 in
theorem s_law_person_0 (E : zX) (d : Nat) (a0 : Nat) (a1 : Int32) (a2 : Int32) (a3 : Nat) (h : zH) (r : zO × zH)
    (hw : isO h a0 11 = true ∧ ((∃ (x1 : Int32) (h2 : zH), zT E d m_x_person 0 [some (.ref a0), some (.int a1), some (.int a2)] [] h (.inl (some (.int x1)), h2) ∧
    ∃ (n3 : Nat) (f4 : Nat → Int64), arL h2 a3 = some (n3, f4) ∧ ¬ ((0 : Int32) < 0 ∨ n3 ≤ ((0 : Int32)).toNatClampNeg) ∧
    r = (.inl (some (.int 0)), (setL h2 a3 n3 (vp_updL f4 ((0 : Int32)).toNatClampNeg (Int32.toInt64 x1))))) ∨
    (∃ (h2 : zH), zT E d m_x_person 0 [some (.ref a0), some (.int a1), some (.int a2)] [] h (.inr 0, h2) ∧
    r = (.inl (some (.int 1)), h2)))) :
    zT E (d + 1) m_law_person 0 [some (.ref a0), some (.int a1), some (.int a2), some (.ref a3), none] [] h r := by
  refine zT_st (pc' := 5) (L' := [some (.ref a0), some (.int a1), some (.int a2), some (.ref a3), none]) (st' := [.int a2, .int a1, .ref a0, .int 0, .ref a3]) (h' := h) 5 (fun n => rfl) ?_
  obtain ⟨hq, hw⟩ := hw
  rcases hw with ⟨x1, h2, hx, hw⟩ | ⟨h2, hx, hw⟩
  · refine zT_call (pc' := 8) (rest := [.int 0, .ref a3]) 1 (fun n => rfl) hq hx ?_
    show zT E (d + 1) m_law_person 8 [some (.ref a0), some (.int a1), some (.int a2), some (.ref a3), none] [.int x1, .int 0, .ref a3] h2 r
    refine zT_st (pc' := 9) (L' := [some (.ref a0), some (.int a1), some (.int a2), some (.ref a3), none]) (st' := [.long (Int32.toInt64 x1), .int 0, .ref a3]) (h' := h2) 1 (fun n => rfl) ?_
    obtain ⟨n3, f4, e, hi, hw⟩ := hw
    refine zT_st (pc' := 10) (L' := [some (.ref a0), some (.int a1), some (.int a2), some (.ref a3), none]) (st' := []) (h' := (setL h2 a3 n3 (vp_updL f4 ((0 : Int32)).toNatClampNeg (Int32.toInt64 x1)))) 1 (fun n => seL_eq e hi _ _) ?_
    subst hw
    exact zT_ret 3 rfl
  · refine zT_callH (pc' := 15) (L' := [some (.ref a0), some (.int a1), some (.int a2), some (.ref a3), none]) 1 (fun n => rfl) hq (fun n => rfl) hx ?_
    subst hw
    exact zT_ret 2 rfl
set_option maxRecDepth 4000 in
theorem s_law_ball_0 (E : zX) (d : Nat) (a0 : Nat) (a1 : Int32) (a2 : Int32) (a3 : Nat) (h : zH) (r : zO × zH)
    (hw : isO h a0 11 = true ∧ ((∃ (x1 : Int32) (h2 : zH), zT E d m_x_ball 0 [some (.ref a0), some (.int a1), some (.int a2)] [] h (.inl (some (.int x1)), h2) ∧
    ∃ (n3 : Nat) (f4 : Nat → Int64), arL h2 a3 = some (n3, f4) ∧ ¬ ((0 : Int32) < 0 ∨ n3 ≤ ((0 : Int32)).toNatClampNeg) ∧
    r = (.inl (some (.int 0)), (setL h2 a3 n3 (vp_updL f4 ((0 : Int32)).toNatClampNeg (Int32.toInt64 x1))))) ∨
    (∃ (h2 : zH), zT E d m_x_ball 0 [some (.ref a0), some (.int a1), some (.int a2)] [] h (.inr 0, h2) ∧
    r = (.inl (some (.int 1)), h2)))) :
    zT E (d + 1) m_law_ball 0 [some (.ref a0), some (.int a1), some (.int a2), some (.ref a3), none] [] h r := by
  refine zT_st (pc' := 5) (L' := [some (.ref a0), some (.int a1), some (.int a2), some (.ref a3), none]) (st' := [.int a2, .int a1, .ref a0, .int 0, .ref a3]) (h' := h) 5 (fun n => rfl) ?_
  obtain ⟨hq, hw⟩ := hw
  rcases hw with ⟨x1, h2, hx, hw⟩ | ⟨h2, hx, hw⟩
  · refine zT_call (pc' := 8) (rest := [.int 0, .ref a3]) 1 (fun n => rfl) hq hx ?_
    show zT E (d + 1) m_law_ball 8 [some (.ref a0), some (.int a1), some (.int a2), some (.ref a3), none] [.int x1, .int 0, .ref a3] h2 r
    refine zT_st (pc' := 9) (L' := [some (.ref a0), some (.int a1), some (.int a2), some (.ref a3), none]) (st' := [.long (Int32.toInt64 x1), .int 0, .ref a3]) (h' := h2) 1 (fun n => rfl) ?_
    obtain ⟨n3, f4, e, hi, hw⟩ := hw
    refine zT_st (pc' := 10) (L' := [some (.ref a0), some (.int a1), some (.int a2), some (.ref a3), none]) (st' := []) (h' := (setL h2 a3 n3 (vp_updL f4 ((0 : Int32)).toNatClampNeg (Int32.toInt64 x1)))) 1 (fun n => seL_eq e hi _ _) ?_
    subst hw
    exact zT_ret 3 rfl
  · refine zT_callH (pc' := 15) (L' := [some (.ref a0), some (.int a1), some (.int a2), some (.ref a3), none]) 1 (fun n => rfl) hq (fun n => rfl) hx ?_
    subst hw
    exact zT_ret 2 rfl
set_option maxRecDepth 4000 in
theorem s_law_tread_0 (E : zX) (d : Nat) (a0 : Nat) (a1 : Int32) (a2 : Nat) (h : zH) (r : zO × zH)
    (hw : isO h a0 11 = true ∧ ((∃ (x1 : Int32) (h2 : zH), zT E d m_x_tread 0 [some (.ref a0), some (.int a1)] [] h (.inl (some (.int x1)), h2) ∧
    ∃ (n3 : Nat) (f4 : Nat → Int64), arL h2 a2 = some (n3, f4) ∧ ¬ ((0 : Int32) < 0 ∨ n3 ≤ ((0 : Int32)).toNatClampNeg) ∧
    r = (.inl (some (.int 0)), (setL h2 a2 n3 (vp_updL f4 ((0 : Int32)).toNatClampNeg (Int32.toInt64 x1))))) ∨
    (∃ (h2 : zH), zT E d m_x_tread 0 [some (.ref a0), some (.int a1)] [] h (.inr 0, h2) ∧
    r = (.inl (some (.int 1)), h2)))) :
    zT E (d + 1) m_law_tread 0 [some (.ref a0), some (.int a1), some (.ref a2), none] [] h r := by
  refine zT_st (pc' := 4) (L' := [some (.ref a0), some (.int a1), some (.ref a2), none]) (st' := [.int a1, .ref a0, .int 0, .ref a2]) (h' := h) 4 (fun n => rfl) ?_
  obtain ⟨hq, hw⟩ := hw
  rcases hw with ⟨x1, h2, hx, hw⟩ | ⟨h2, hx, hw⟩
  · refine zT_call (pc' := 7) (rest := [.int 0, .ref a2]) 1 (fun n => rfl) hq hx ?_
    show zT E (d + 1) m_law_tread 7 [some (.ref a0), some (.int a1), some (.ref a2), none] [.int x1, .int 0, .ref a2] h2 r
    refine zT_st (pc' := 8) (L' := [some (.ref a0), some (.int a1), some (.ref a2), none]) (st' := [.long (Int32.toInt64 x1), .int 0, .ref a2]) (h' := h2) 1 (fun n => rfl) ?_
    obtain ⟨n3, f4, e, hi, hw⟩ := hw
    refine zT_st (pc' := 9) (L' := [some (.ref a0), some (.int a1), some (.ref a2), none]) (st' := []) (h' := (setL h2 a2 n3 (vp_updL f4 ((0 : Int32)).toNatClampNeg (Int32.toInt64 x1)))) 1 (fun n => seL_eq e hi _ _) ?_
    subst hw
    exact zT_ret 3 rfl
  · refine zT_callH (pc' := 13) (L' := [some (.ref a0), some (.int a1), some (.ref a2), none]) 1 (fun n => rfl) hq (fun n => rfl) hx ?_
    subst hw
    exact zT_ret 2 rfl
set_option maxRecDepth 4000 in
theorem s_law_carry_0 (E : zX) (d : Nat) (a0 : Nat) (a1 : Int32) (a2 : Int32) (a3 : Nat) (h : zH) (r : zO × zH)
    (hw : isO h a0 11 = true ∧ ((∃ (x1 : Int32) (h2 : zH), zT E d m_x_carry 0 [some (.ref a0), some (.int a1), some (.int a2), none] [] h (.inl (some (.int x1)), h2) ∧
    ∃ (n3 : Nat) (f4 : Nat → Int64), arL h2 a3 = some (n3, f4) ∧ ¬ ((0 : Int32) < 0 ∨ n3 ≤ ((0 : Int32)).toNatClampNeg) ∧
    r = (.inl (some (.int 0)), (setL h2 a3 n3 (vp_updL f4 ((0 : Int32)).toNatClampNeg (Int32.toInt64 x1))))) ∨
    (∃ (h2 : zH), zT E d m_x_carry 0 [some (.ref a0), some (.int a1), some (.int a2), none] [] h (.inr 0, h2) ∧
    r = (.inl (some (.int 1)), h2)))) :
    zT E (d + 1) m_law_carry 0 [some (.ref a0), some (.int a1), some (.int a2), some (.ref a3), none] [] h r := by
  refine zT_st (pc' := 5) (L' := [some (.ref a0), some (.int a1), some (.int a2), some (.ref a3), none]) (st' := [.int a2, .int a1, .ref a0, .int 0, .ref a3]) (h' := h) 5 (fun n => rfl) ?_
  obtain ⟨hq, hw⟩ := hw
  rcases hw with ⟨x1, h2, hx, hw⟩ | ⟨h2, hx, hw⟩
  · refine zT_call (pc' := 8) (rest := [.int 0, .ref a3]) 1 (fun n => rfl) hq hx ?_
    show zT E (d + 1) m_law_carry 8 [some (.ref a0), some (.int a1), some (.int a2), some (.ref a3), none] [.int x1, .int 0, .ref a3] h2 r
    refine zT_st (pc' := 9) (L' := [some (.ref a0), some (.int a1), some (.int a2), some (.ref a3), none]) (st' := [.long (Int32.toInt64 x1), .int 0, .ref a3]) (h' := h2) 1 (fun n => rfl) ?_
    obtain ⟨n3, f4, e, hi, hw⟩ := hw
    refine zT_st (pc' := 10) (L' := [some (.ref a0), some (.int a1), some (.int a2), some (.ref a3), none]) (st' := []) (h' := (setL h2 a3 n3 (vp_updL f4 ((0 : Int32)).toNatClampNeg (Int32.toInt64 x1)))) 1 (fun n => seL_eq e hi _ _) ?_
    subst hw
    exact zT_ret 3 rfl
  · refine zT_callH (pc' := 15) (L' := [some (.ref a0), some (.int a1), some (.int a2), some (.ref a3), none]) 1 (fun n => rfl) hq (fun n => rfl) hx ?_
    subst hw
    exact zT_ret 2 rfl
set_option maxRecDepth 4000 in
theorem s_law_guard_0 (E : zX) (d : Nat) (a0 : Nat) (a1 : Int32) (a2 : Int32) (a3 : Nat) (h : zH) (r : zO × zH)
    (hw : isO h a0 11 = true ∧ ((∃ (x1 : Int32) (h2 : zH), zT E d m_x_guard 0 [some (.ref a0), some (.int a1), some (.int a2)] [] h (.inl (some (.int x1)), h2) ∧
    if x1 = 0 then (
      ∃ (n3 : Nat) (f4 : Nat → Int64), arL h2 a3 = some (n3, f4) ∧ ¬ ((0 : Int32) < 0 ∨ n3 ≤ ((0 : Int32)).toNatClampNeg) ∧
      r = (.inl (some (.int 0)), (setL h2 a3 n3 (vp_updL f4 ((0 : Int32)).toNatClampNeg 0))))
    else (
      ∃ (n5 : Nat) (f6 : Nat → Int64), arL h2 a3 = some (n5, f6) ∧ ¬ ((0 : Int32) < 0 ∨ n5 ≤ ((0 : Int32)).toNatClampNeg) ∧
      r = (.inl (some (.int 0)), (setL h2 a3 n5 (vp_updL f6 ((0 : Int32)).toNatClampNeg 1))))) ∨
    (∃ (h2 : zH), zT E d m_x_guard 0 [some (.ref a0), some (.int a1), some (.int a2)] [] h (.inr 0, h2) ∧
    r = (.inl (some (.int 1)), h2)))) :
    zT E (d + 1) m_law_guard 0 [some (.ref a0), some (.int a1), some (.int a2), some (.ref a3), none] [] h r := by
  refine zT_st (pc' := 5) (L' := [some (.ref a0), some (.int a1), some (.int a2), some (.ref a3), none]) (st' := [.int a2, .int a1, .ref a0, .int 0, .ref a3]) (h' := h) 5 (fun n => rfl) ?_
  obtain ⟨hq, hw⟩ := hw
  rcases hw with ⟨x1, h2, hx, hw⟩ | ⟨h2, hx, hw⟩
  · refine zT_call (pc' := 8) (rest := [.int 0, .ref a3]) 1 (fun n => rfl) hq hx ?_
    show zT E (d + 1) m_law_guard 8 [some (.ref a0), some (.int a1), some (.int a2), some (.ref a3), none] [.int x1, .int 0, .ref a3] h2 r
    by_cases hc : x1 = 0
    · rw [if_pos hc] at hw
      refine zT_st (pc' := 15) (L' := [some (.ref a0), some (.int a1), some (.int a2), some (.ref a3), none]) (st' := [.int 0, .ref a3]) (h' := h2) 1 (fun n => if_pos hc) ?_
      refine zT_st (pc' := 16) (L' := [some (.ref a0), some (.int a1), some (.int a2), some (.ref a3), none]) (st' := [.long 0, .int 0, .ref a3]) (h' := h2) 1 (fun n => rfl) ?_
      obtain ⟨n3, f4, e, hi, hw⟩ := hw
      refine zT_st (pc' := 17) (L' := [some (.ref a0), some (.int a1), some (.int a2), some (.ref a3), none]) (st' := []) (h' := (setL h2 a3 n3 (vp_updL f4 ((0 : Int32)).toNatClampNeg 0))) 1 (fun n => seL_eq e hi _ _) ?_
      subst hw
      exact zT_ret 3 rfl
    · rw [if_neg hc] at hw
      refine zT_st (pc' := 11) (L' := [some (.ref a0), some (.int a1), some (.int a2), some (.ref a3), none]) (st' := [.int 0, .ref a3]) (h' := h2) 1 (fun n => if_neg hc) ?_
      refine zT_st (pc' := 16) (L' := [some (.ref a0), some (.int a1), some (.int a2), some (.ref a3), none]) (st' := [.long 1, .int 0, .ref a3]) (h' := h2) 2 (fun n => rfl) ?_
      obtain ⟨n5, f6, e, hi, hw⟩ := hw
      refine zT_st (pc' := 17) (L' := [some (.ref a0), some (.int a1), some (.int a2), some (.ref a3), none]) (st' := []) (h' := (setL h2 a3 n5 (vp_updL f6 ((0 : Int32)).toNatClampNeg 1))) 1 (fun n => seL_eq e hi _ _) ?_
      subst hw
      exact zT_ret 3 rfl
  · refine zT_callH (pc' := 22) (L' := [some (.ref a0), some (.int a1), some (.int a2), some (.ref a3), none]) 1 (fun n => rfl) hq (fun n => rfl) hx ?_
    subst hw
    exact zT_ret 2 rfl
set_option maxRecDepth 4000 in
theorem s_law_soothe_0 (E : zX) (d : Nat) (a0 : Nat) (a1 : Int32) (a2 : Int32) (a3 : Nat) (h : zH) (r : zO × zH)
    (hw : isO h a0 11 = true ∧ ((∃ (x1 : Int32) (h2 : zH), zT E d m_x_soothe 0 [some (.ref a0), some (.int a1), some (.int a2), none] [] h (.inl (some (.int x1)), h2) ∧
    ∃ (n3 : Nat) (f4 : Nat → Int64), arL h2 a3 = some (n3, f4) ∧ ¬ ((0 : Int32) < 0 ∨ n3 ≤ ((0 : Int32)).toNatClampNeg) ∧
    r = (.inl (some (.int 0)), (setL h2 a3 n3 (vp_updL f4 ((0 : Int32)).toNatClampNeg (Int32.toInt64 x1))))) ∨
    (∃ (h2 : zH), zT E d m_x_soothe 0 [some (.ref a0), some (.int a1), some (.int a2), none] [] h (.inr 0, h2) ∧
    r = (.inl (some (.int 1)), h2)))) :
    zT E (d + 1) m_law_soothe 0 [some (.ref a0), some (.int a1), some (.int a2), some (.ref a3), none] [] h r := by
  refine zT_st (pc' := 5) (L' := [some (.ref a0), some (.int a1), some (.int a2), some (.ref a3), none]) (st' := [.int a2, .int a1, .ref a0, .int 0, .ref a3]) (h' := h) 5 (fun n => rfl) ?_
  obtain ⟨hq, hw⟩ := hw
  rcases hw with ⟨x1, h2, hx, hw⟩ | ⟨h2, hx, hw⟩
  · refine zT_call (pc' := 8) (rest := [.int 0, .ref a3]) 1 (fun n => rfl) hq hx ?_
    show zT E (d + 1) m_law_soothe 8 [some (.ref a0), some (.int a1), some (.int a2), some (.ref a3), none] [.int x1, .int 0, .ref a3] h2 r
    refine zT_st (pc' := 9) (L' := [some (.ref a0), some (.int a1), some (.int a2), some (.ref a3), none]) (st' := [.long (Int32.toInt64 x1), .int 0, .ref a3]) (h' := h2) 1 (fun n => rfl) ?_
    obtain ⟨n3, f4, e, hi, hw⟩ := hw
    refine zT_st (pc' := 10) (L' := [some (.ref a0), some (.int a1), some (.int a2), some (.ref a3), none]) (st' := []) (h' := (setL h2 a3 n3 (vp_updL f4 ((0 : Int32)).toNatClampNeg (Int32.toInt64 x1)))) 1 (fun n => seL_eq e hi _ _) ?_
    subst hw
    exact zT_ret 3 rfl
  · refine zT_callH (pc' := 15) (L' := [some (.ref a0), some (.int a1), some (.int a2), some (.ref a3), none]) 1 (fun n => rfl) hq (fun n => rfl) hx ?_
    subst hw
    exact zT_ret 2 rfl
set_option maxRecDepth 4000 in
theorem s_law_then_0 (E : zX) (d : Nat) (a0 : Nat) (a1 : Int32) (a2 : Int32) (a3 : Int32) (a4 : Nat) (h : zH) (r : zO × zH)
    (hw : isO h a0 11 = true ∧ ((∃ (x1 : Int32) (h2 : zH), zT E d m_x_then 0 [some (.ref a0), some (.int a1), some (.int a2), some (.int a3), none] [] h (.inl (some (.int x1)), h2) ∧
    ∃ (n3 : Nat) (f4 : Nat → Int64), arL h2 a4 = some (n3, f4) ∧ ¬ ((0 : Int32) < 0 ∨ n3 ≤ ((0 : Int32)).toNatClampNeg) ∧
    r = (.inl (some (.int 0)), (setL h2 a4 n3 (vp_updL f4 ((0 : Int32)).toNatClampNeg (Int32.toInt64 x1))))) ∨
    (∃ (h2 : zH), zT E d m_x_then 0 [some (.ref a0), some (.int a1), some (.int a2), some (.int a3), none] [] h (.inr 0, h2) ∧
    r = (.inl (some (.int 1)), h2)) ∨
    (∃ (h2 : zH), zT E d m_x_then 0 [some (.ref a0), some (.int a1), some (.int a2), some (.int a3), none] [] h (.inr 1, h2) ∧
    r = (.inl (some (.int 2)), h2)))) :
    zT E (d + 1) m_law_then 0 [some (.ref a0), some (.int a1), some (.int a2), some (.int a3), some (.ref a4), none] [] h r := by
  refine zT_st (pc' := 7) (L' := [some (.ref a0), some (.int a1), some (.int a2), some (.int a3), some (.ref a4), none]) (st' := [.int a3, .int a2, .int a1, .ref a0, .int 0, .ref a4]) (h' := h) 6 (fun n => rfl) ?_
  obtain ⟨hq, hw⟩ := hw
  rcases hw with ⟨x1, h2, hx, hw⟩ | ⟨h2, hx, hw⟩ | ⟨h2, hx, hw⟩
  · refine zT_call (pc' := 10) (rest := [.int 0, .ref a4]) 1 (fun n => rfl) hq hx ?_
    show zT E (d + 1) m_law_then 10 [some (.ref a0), some (.int a1), some (.int a2), some (.int a3), some (.ref a4), none] [.int x1, .int 0, .ref a4] h2 r
    refine zT_st (pc' := 11) (L' := [some (.ref a0), some (.int a1), some (.int a2), some (.int a3), some (.ref a4), none]) (st' := [.long (Int32.toInt64 x1), .int 0, .ref a4]) (h' := h2) 1 (fun n => rfl) ?_
    obtain ⟨n3, f4, e, hi, hw⟩ := hw
    refine zT_st (pc' := 12) (L' := [some (.ref a0), some (.int a1), some (.int a2), some (.int a3), some (.ref a4), none]) (st' := []) (h' := (setL h2 a4 n3 (vp_updL f4 ((0 : Int32)).toNatClampNeg (Int32.toInt64 x1)))) 1 (fun n => seL_eq e hi _ _) ?_
    subst hw
    exact zT_ret 3 rfl
  · refine zT_callH (pc' := 17) (L' := [some (.ref a0), some (.int a1), some (.int a2), some (.int a3), some (.ref a4), none]) 1 (fun n => rfl) hq (fun n => rfl) hx ?_
    subst hw
    exact zT_ret 2 rfl
  · refine zT_callH (pc' := 21) (L' := [some (.ref a0), some (.int a1), some (.int a2), some (.int a3), some (.ref a4), none]) 1 (fun n => rfl) hq (fun n => rfl) hx ?_
    subst hw
    exact zT_ret 2 rfl
set_option maxRecDepth 4000 in
theorem s_law_mood_0 (E : zX) (d : Nat) (a0 : Nat) (a1 : Int32) (a2 : Int32) (a3 : Int32) (a4 : Nat) (h : zH) (r : zO × zH)
    (hw : isO h a0 11 = true ∧ ((∃ (x1 : Int32) (h2 : zH), zT E d m_x_mood 0 [some (.ref a0), some (.int a1), some (.int a2), some (.int a3), none] [] h (.inl (some (.int x1)), h2) ∧
    ∃ (n3 : Nat) (f4 : Nat → Int64), arL h2 a4 = some (n3, f4) ∧ ¬ ((0 : Int32) < 0 ∨ n3 ≤ ((0 : Int32)).toNatClampNeg) ∧
    r = (.inl (some (.int 0)), (setL h2 a4 n3 (vp_updL f4 ((0 : Int32)).toNatClampNeg (Int32.toInt64 x1))))) ∨
    (∃ (h2 : zH), zT E d m_x_mood 0 [some (.ref a0), some (.int a1), some (.int a2), some (.int a3), none] [] h (.inr 0, h2) ∧
    r = (.inl (some (.int 1)), h2)) ∨
    (∃ (h2 : zH), zT E d m_x_mood 0 [some (.ref a0), some (.int a1), some (.int a2), some (.int a3), none] [] h (.inr 1, h2) ∧
    r = (.inl (some (.int 2)), h2)))) :
    zT E (d + 1) m_law_mood 0 [some (.ref a0), some (.int a1), some (.int a2), some (.int a3), some (.ref a4), none] [] h r := by
  refine zT_st (pc' := 7) (L' := [some (.ref a0), some (.int a1), some (.int a2), some (.int a3), some (.ref a4), none]) (st' := [.int a3, .int a2, .int a1, .ref a0, .int 0, .ref a4]) (h' := h) 6 (fun n => rfl) ?_
  obtain ⟨hq, hw⟩ := hw
  rcases hw with ⟨x1, h2, hx, hw⟩ | ⟨h2, hx, hw⟩ | ⟨h2, hx, hw⟩
  · refine zT_call (pc' := 10) (rest := [.int 0, .ref a4]) 1 (fun n => rfl) hq hx ?_
    show zT E (d + 1) m_law_mood 10 [some (.ref a0), some (.int a1), some (.int a2), some (.int a3), some (.ref a4), none] [.int x1, .int 0, .ref a4] h2 r
    refine zT_st (pc' := 11) (L' := [some (.ref a0), some (.int a1), some (.int a2), some (.int a3), some (.ref a4), none]) (st' := [.long (Int32.toInt64 x1), .int 0, .ref a4]) (h' := h2) 1 (fun n => rfl) ?_
    obtain ⟨n3, f4, e, hi, hw⟩ := hw
    refine zT_st (pc' := 12) (L' := [some (.ref a0), some (.int a1), some (.int a2), some (.int a3), some (.ref a4), none]) (st' := []) (h' := (setL h2 a4 n3 (vp_updL f4 ((0 : Int32)).toNatClampNeg (Int32.toInt64 x1)))) 1 (fun n => seL_eq e hi _ _) ?_
    subst hw
    exact zT_ret 3 rfl
  · refine zT_callH (pc' := 17) (L' := [some (.ref a0), some (.int a1), some (.int a2), some (.int a3), some (.ref a4), none]) 1 (fun n => rfl) hq (fun n => rfl) hx ?_
    subst hw
    exact zT_ret 2 rfl
  · refine zT_callH (pc' := 21) (L' := [some (.ref a0), some (.int a1), some (.int a2), some (.int a3), some (.ref a4), none]) 1 (fun n => rfl) hq (fun n => rfl) hx ?_
    subst hw
    exact zT_ret 2 rfl
set_option maxRecDepth 4000 in
theorem s_law_off_0 (E : zX) (d : Nat) (a0 : Nat) (a1 : Int32) (a2 : Nat) (h : zH) (r : zO × zH)
    (hw : isO h a0 11 = true ∧ ((∃ (x1 : Int32) (h2 : zH), zT E d m_x_off 0 [some (.ref a0), some (.int a1)] [] h (.inl (some (.int x1)), h2) ∧
    ∃ (n3 : Nat) (f4 : Nat → Int64), arL h2 a2 = some (n3, f4) ∧ ¬ ((0 : Int32) < 0 ∨ n3 ≤ ((0 : Int32)).toNatClampNeg) ∧
    r = (.inl (some (.int 0)), (setL h2 a2 n3 (vp_updL f4 ((0 : Int32)).toNatClampNeg (Int32.toInt64 x1))))) ∨
    (∃ (h2 : zH), zT E d m_x_off 0 [some (.ref a0), some (.int a1)] [] h (.inr 0, h2) ∧
    r = (.inl (some (.int 1)), h2)))) :
    zT E (d + 1) m_law_off 0 [some (.ref a0), some (.int a1), some (.ref a2), none] [] h r := by
  refine zT_st (pc' := 4) (L' := [some (.ref a0), some (.int a1), some (.ref a2), none]) (st' := [.int a1, .ref a0, .int 0, .ref a2]) (h' := h) 4 (fun n => rfl) ?_
  obtain ⟨hq, hw⟩ := hw
  rcases hw with ⟨x1, h2, hx, hw⟩ | ⟨h2, hx, hw⟩
  · refine zT_call (pc' := 7) (rest := [.int 0, .ref a2]) 1 (fun n => rfl) hq hx ?_
    show zT E (d + 1) m_law_off 7 [some (.ref a0), some (.int a1), some (.ref a2), none] [.int x1, .int 0, .ref a2] h2 r
    refine zT_st (pc' := 8) (L' := [some (.ref a0), some (.int a1), some (.ref a2), none]) (st' := [.long (Int32.toInt64 x1), .int 0, .ref a2]) (h' := h2) 1 (fun n => rfl) ?_
    obtain ⟨n3, f4, e, hi, hw⟩ := hw
    refine zT_st (pc' := 9) (L' := [some (.ref a0), some (.int a1), some (.ref a2), none]) (st' := []) (h' := (setL h2 a2 n3 (vp_updL f4 ((0 : Int32)).toNatClampNeg (Int32.toInt64 x1)))) 1 (fun n => seL_eq e hi _ _) ?_
    subst hw
    exact zT_ret 3 rfl
  · refine zT_callH (pc' := 13) (L' := [some (.ref a0), some (.int a1), some (.ref a2), none]) 1 (fun n => rfl) hq (fun n => rfl) hx ?_
    subst hw
    exact zT_ret 2 rfl
set_option maxRecDepth 4000 in
theorem s_law_later_0 (E : zX) (d : Nat) (a0 : Nat) (a1 : Int32) (a2 : Int32) (a3 : Nat) (h : zH) (r : zO × zH)
    (hw : isO h a0 11 = true ∧ ((∃ (x1 : Int32) (h2 : zH), zT E d m_x_later 0 [some (.ref a0), some (.int a1), some (.int a2), none] [] h (.inl (some (.int x1)), h2) ∧
    ∃ (n3 : Nat) (f4 : Nat → Int64), arL h2 a3 = some (n3, f4) ∧ ¬ ((0 : Int32) < 0 ∨ n3 ≤ ((0 : Int32)).toNatClampNeg) ∧
    r = (.inl (some (.int 0)), (setL h2 a3 n3 (vp_updL f4 ((0 : Int32)).toNatClampNeg (Int32.toInt64 x1))))) ∨
    (∃ (h2 : zH), zT E d m_x_later 0 [some (.ref a0), some (.int a1), some (.int a2), none] [] h (.inr 0, h2) ∧
    r = (.inl (some (.int 1)), h2)) ∨
    (∃ (h2 : zH), zT E d m_x_later 0 [some (.ref a0), some (.int a1), some (.int a2), none] [] h (.inr 1, h2) ∧
    r = (.inl (some (.int 2)), h2)))) :
    zT E (d + 1) m_law_later 0 [some (.ref a0), some (.int a1), some (.int a2), some (.ref a3), none] [] h r := by
  refine zT_st (pc' := 5) (L' := [some (.ref a0), some (.int a1), some (.int a2), some (.ref a3), none]) (st' := [.int a2, .int a1, .ref a0, .int 0, .ref a3]) (h' := h) 5 (fun n => rfl) ?_
  obtain ⟨hq, hw⟩ := hw
  rcases hw with ⟨x1, h2, hx, hw⟩ | ⟨h2, hx, hw⟩ | ⟨h2, hx, hw⟩
  · refine zT_call (pc' := 8) (rest := [.int 0, .ref a3]) 1 (fun n => rfl) hq hx ?_
    show zT E (d + 1) m_law_later 8 [some (.ref a0), some (.int a1), some (.int a2), some (.ref a3), none] [.int x1, .int 0, .ref a3] h2 r
    refine zT_st (pc' := 9) (L' := [some (.ref a0), some (.int a1), some (.int a2), some (.ref a3), none]) (st' := [.long (Int32.toInt64 x1), .int 0, .ref a3]) (h' := h2) 1 (fun n => rfl) ?_
    obtain ⟨n3, f4, e, hi, hw⟩ := hw
    refine zT_st (pc' := 10) (L' := [some (.ref a0), some (.int a1), some (.int a2), some (.ref a3), none]) (st' := []) (h' := (setL h2 a3 n3 (vp_updL f4 ((0 : Int32)).toNatClampNeg (Int32.toInt64 x1)))) 1 (fun n => seL_eq e hi _ _) ?_
    subst hw
    exact zT_ret 3 rfl
  · refine zT_callH (pc' := 15) (L' := [some (.ref a0), some (.int a1), some (.int a2), some (.ref a3), none]) 1 (fun n => rfl) hq (fun n => rfl) hx ?_
    subst hw
    exact zT_ret 2 rfl
  · refine zT_callH (pc' := 19) (L' := [some (.ref a0), some (.int a1), some (.int a2), some (.ref a3), none]) 1 (fun n => rfl) hq (fun n => rfl) hx ?_
    subst hw
    exact zT_ret 2 rfl
set_option maxRecDepth 4000 in
theorem s_law_toGuard_0 (E : zX) (d : Nat) (a0 : Nat) (a1 : Int32) (a2 : Int32) (a3 : Nat) (h : zH) (r : zO × zH)
    (hw : isO h a0 11 = true ∧ ((∃ (x1 : Int32) (h2 : zH), zT E d m_x_toGuard 0 [some (.ref a0), some (.int a1), some (.int a2)] [] h (.inl (some (.int x1)), h2) ∧
    ∃ (n3 : Nat) (f4 : Nat → Int64), arL h2 a3 = some (n3, f4) ∧ ¬ ((0 : Int32) < 0 ∨ n3 ≤ ((0 : Int32)).toNatClampNeg) ∧
    r = (.inl (some (.int 0)), (setL h2 a3 n3 (vp_updL f4 ((0 : Int32)).toNatClampNeg (Int32.toInt64 x1))))) ∨
    (∃ (h2 : zH), zT E d m_x_toGuard 0 [some (.ref a0), some (.int a1), some (.int a2)] [] h (.inr 0, h2) ∧
    r = (.inl (some (.int 1)), h2)))) :
    zT E (d + 1) m_law_toGuard 0 [some (.ref a0), some (.int a1), some (.int a2), some (.ref a3), none] [] h r := by
  refine zT_st (pc' := 5) (L' := [some (.ref a0), some (.int a1), some (.int a2), some (.ref a3), none]) (st' := [.int a2, .int a1, .ref a0, .int 0, .ref a3]) (h' := h) 5 (fun n => rfl) ?_
  obtain ⟨hq, hw⟩ := hw
  rcases hw with ⟨x1, h2, hx, hw⟩ | ⟨h2, hx, hw⟩
  · refine zT_call (pc' := 8) (rest := [.int 0, .ref a3]) 1 (fun n => rfl) hq hx ?_
    show zT E (d + 1) m_law_toGuard 8 [some (.ref a0), some (.int a1), some (.int a2), some (.ref a3), none] [.int x1, .int 0, .ref a3] h2 r
    refine zT_st (pc' := 9) (L' := [some (.ref a0), some (.int a1), some (.int a2), some (.ref a3), none]) (st' := [.long (Int32.toInt64 x1), .int 0, .ref a3]) (h' := h2) 1 (fun n => rfl) ?_
    obtain ⟨n3, f4, e, hi, hw⟩ := hw
    refine zT_st (pc' := 10) (L' := [some (.ref a0), some (.int a1), some (.int a2), some (.ref a3), none]) (st' := []) (h' := (setL h2 a3 n3 (vp_updL f4 ((0 : Int32)).toNatClampNeg (Int32.toInt64 x1)))) 1 (fun n => seL_eq e hi _ _) ?_
    subst hw
    exact zT_ret 3 rfl
  · refine zT_callH (pc' := 15) (L' := [some (.ref a0), some (.int a1), some (.int a2), some (.ref a3), none]) 1 (fun n => rfl) hq (fun n => rfl) hx ?_
    subst hw
    exact zT_ret 2 rfl
set_option maxRecDepth 4000 in
theorem s_law_fire_0 (E : zX) (d : Nat) (a0 : Nat) (a1 : Int32) (a2 : Int32) (a3 : Nat) (h : zH) (r : zO × zH)
    (hw : isO h a0 11 = true ∧ ((∃ (x1 : Int32) (h2 : zH), zT E d m_x_fire 0 [some (.ref a0), some (.int a1), some (.int a2), none] [] h (.inl (some (.int x1)), h2) ∧
    ∃ (n3 : Nat) (f4 : Nat → Int64), arL h2 a3 = some (n3, f4) ∧ ¬ ((0 : Int32) < 0 ∨ n3 ≤ ((0 : Int32)).toNatClampNeg) ∧
    r = (.inl (some (.int 0)), (setL h2 a3 n3 (vp_updL f4 ((0 : Int32)).toNatClampNeg (Int32.toInt64 x1))))) ∨
    (∃ (h2 : zH), zT E d m_x_fire 0 [some (.ref a0), some (.int a1), some (.int a2), none] [] h (.inr 0, h2) ∧
    r = (.inl (some (.int 1)), h2)))) :
    zT E (d + 1) m_law_fire 0 [some (.ref a0), some (.int a1), some (.int a2), some (.ref a3), none] [] h r := by
  refine zT_st (pc' := 5) (L' := [some (.ref a0), some (.int a1), some (.int a2), some (.ref a3), none]) (st' := [.int a2, .int a1, .ref a0, .int 0, .ref a3]) (h' := h) 5 (fun n => rfl) ?_
  obtain ⟨hq, hw⟩ := hw
  rcases hw with ⟨x1, h2, hx, hw⟩ | ⟨h2, hx, hw⟩
  · refine zT_call (pc' := 8) (rest := [.int 0, .ref a3]) 1 (fun n => rfl) hq hx ?_
    show zT E (d + 1) m_law_fire 8 [some (.ref a0), some (.int a1), some (.int a2), some (.ref a3), none] [.int x1, .int 0, .ref a3] h2 r
    refine zT_st (pc' := 9) (L' := [some (.ref a0), some (.int a1), some (.int a2), some (.ref a3), none]) (st' := [.long (Int32.toInt64 x1), .int 0, .ref a3]) (h' := h2) 1 (fun n => rfl) ?_
    obtain ⟨n3, f4, e, hi, hw⟩ := hw
    refine zT_st (pc' := 10) (L' := [some (.ref a0), some (.int a1), some (.int a2), some (.ref a3), none]) (st' := []) (h' := (setL h2 a3 n3 (vp_updL f4 ((0 : Int32)).toNatClampNeg (Int32.toInt64 x1)))) 1 (fun n => seL_eq e hi _ _) ?_
    subst hw
    exact zT_ret 3 rfl
  · refine zT_callH (pc' := 15) (L' := [some (.ref a0), some (.int a1), some (.int a2), some (.ref a3), none]) 1 (fun n => rfl) hq (fun n => rfl) hx ?_
    subst hw
    exact zT_ret 2 rfl
set_option maxRecDepth 4000 in
theorem s_law_pram_0 (E : zX) (d : Nat) (a0 : Nat) (a1 : Int32) (a2 : Int32) (a3 : Int32) (a4 : Nat) (h : zH) (r : zO × zH)
    (hw : isO h a0 11 = true ∧ ((∃ (x1 : Int32) (h2 : zH), zT E d m_x_pram 0 [some (.ref a0), some (.int a1), some (.int a2), some (.int a3)] [] h (.inl (some (.int x1)), h2) ∧
    ∃ (n3 : Nat) (f4 : Nat → Int64), arL h2 a4 = some (n3, f4) ∧ ¬ ((0 : Int32) < 0 ∨ n3 ≤ ((0 : Int32)).toNatClampNeg) ∧
    r = (.inl (some (.int 0)), (setL h2 a4 n3 (vp_updL f4 ((0 : Int32)).toNatClampNeg (Int32.toInt64 x1))))) ∨
    (∃ (h2 : zH), zT E d m_x_pram 0 [some (.ref a0), some (.int a1), some (.int a2), some (.int a3)] [] h (.inr 0, h2) ∧
    r = (.inl (some (.int 1)), h2)))) :
    zT E (d + 1) m_law_pram 0 [some (.ref a0), some (.int a1), some (.int a2), some (.int a3), some (.ref a4), none] [] h r := by
  refine zT_st (pc' := 7) (L' := [some (.ref a0), some (.int a1), some (.int a2), some (.int a3), some (.ref a4), none]) (st' := [.int a3, .int a2, .int a1, .ref a0, .int 0, .ref a4]) (h' := h) 6 (fun n => rfl) ?_
  obtain ⟨hq, hw⟩ := hw
  rcases hw with ⟨x1, h2, hx, hw⟩ | ⟨h2, hx, hw⟩
  · refine zT_call (pc' := 10) (rest := [.int 0, .ref a4]) 1 (fun n => rfl) hq hx ?_
    show zT E (d + 1) m_law_pram 10 [some (.ref a0), some (.int a1), some (.int a2), some (.int a3), some (.ref a4), none] [.int x1, .int 0, .ref a4] h2 r
    refine zT_st (pc' := 11) (L' := [some (.ref a0), some (.int a1), some (.int a2), some (.int a3), some (.ref a4), none]) (st' := [.long (Int32.toInt64 x1), .int 0, .ref a4]) (h' := h2) 1 (fun n => rfl) ?_
    obtain ⟨n3, f4, e, hi, hw⟩ := hw
    refine zT_st (pc' := 12) (L' := [some (.ref a0), some (.int a1), some (.int a2), some (.int a3), some (.ref a4), none]) (st' := []) (h' := (setL h2 a4 n3 (vp_updL f4 ((0 : Int32)).toNatClampNeg (Int32.toInt64 x1)))) 1 (fun n => seL_eq e hi _ _) ?_
    subst hw
    exact zT_ret 3 rfl
  · refine zT_callH (pc' := 17) (L' := [some (.ref a0), some (.int a1), some (.int a2), some (.int a3), some (.ref a4), none]) 1 (fun n => rfl) hq (fun n => rfl) hx ?_
    subst hw
    exact zT_ret 2 rfl
set_option maxRecDepth 4000 in
theorem s_law_putBy_0 (E : zX) (d : Nat) (a0 : Nat) (a1 : Int32) (a2 : Nat) (h : zH) (r : zO × zH)
    (hw : isO h a0 11 = true ∧ ((∃ (x1 : Int32) (h2 : zH), zT E d m_x_putBy 0 [some (.ref a0), some (.int a1)] [] h (.inl (some (.int x1)), h2) ∧
    ∃ (n3 : Nat) (f4 : Nat → Int64), arL h2 a2 = some (n3, f4) ∧ ¬ ((0 : Int32) < 0 ∨ n3 ≤ ((0 : Int32)).toNatClampNeg) ∧
    r = (.inl (some (.int 0)), (setL h2 a2 n3 (vp_updL f4 ((0 : Int32)).toNatClampNeg (Int32.toInt64 x1))))) ∨
    (∃ (h2 : zH), zT E d m_x_putBy 0 [some (.ref a0), some (.int a1)] [] h (.inr 0, h2) ∧
    r = (.inl (some (.int 1)), h2)))) :
    zT E (d + 1) m_law_putBy 0 [some (.ref a0), some (.int a1), some (.ref a2), none] [] h r := by
  refine zT_st (pc' := 4) (L' := [some (.ref a0), some (.int a1), some (.ref a2), none]) (st' := [.int a1, .ref a0, .int 0, .ref a2]) (h' := h) 4 (fun n => rfl) ?_
  obtain ⟨hq, hw⟩ := hw
  rcases hw with ⟨x1, h2, hx, hw⟩ | ⟨h2, hx, hw⟩
  · refine zT_call (pc' := 7) (rest := [.int 0, .ref a2]) 1 (fun n => rfl) hq hx ?_
    show zT E (d + 1) m_law_putBy 7 [some (.ref a0), some (.int a1), some (.ref a2), none] [.int x1, .int 0, .ref a2] h2 r
    refine zT_st (pc' := 8) (L' := [some (.ref a0), some (.int a1), some (.ref a2), none]) (st' := [.long (Int32.toInt64 x1), .int 0, .ref a2]) (h' := h2) 1 (fun n => rfl) ?_
    obtain ⟨n3, f4, e, hi, hw⟩ := hw
    refine zT_st (pc' := 9) (L' := [some (.ref a0), some (.int a1), some (.ref a2), none]) (st' := []) (h' := (setL h2 a2 n3 (vp_updL f4 ((0 : Int32)).toNatClampNeg (Int32.toInt64 x1)))) 1 (fun n => seL_eq e hi _ _) ?_
    subst hw
    exact zT_ret 3 rfl
  · refine zT_callH (pc' := 13) (L' := [some (.ref a0), some (.int a1), some (.ref a2), none]) 1 (fun n => rfl) hq (fun n => rfl) hx ?_
    subst hw
    exact zT_ret 2 rfl
set_option maxRecDepth 4000 in
theorem s_law_put_0 (E : zX) (d : Nat) (a0 : Nat) (a1 : Int32) (a2 : Nat) (h : zH) (r : zO × zH)
    (hw : isO h a0 11 = true ∧ ((∃ (x1 : Int32) (h2 : zH), zT E d m_x_put 0 [some (.ref a0), some (.int a1)] [] h (.inl (some (.int x1)), h2) ∧
    ∃ (n3 : Nat) (f4 : Nat → Int64), arL h2 a2 = some (n3, f4) ∧ ¬ ((0 : Int32) < 0 ∨ n3 ≤ ((0 : Int32)).toNatClampNeg) ∧
    r = (.inl (some (.int 0)), (setL h2 a2 n3 (vp_updL f4 ((0 : Int32)).toNatClampNeg (Int32.toInt64 x1))))) ∨
    (∃ (h2 : zH), zT E d m_x_put 0 [some (.ref a0), some (.int a1)] [] h (.inr 0, h2) ∧
    r = (.inl (some (.int 1)), h2)))) :
    zT E (d + 1) m_law_put 0 [some (.ref a0), some (.int a1), some (.ref a2), none] [] h r := by
  refine zT_st (pc' := 4) (L' := [some (.ref a0), some (.int a1), some (.ref a2), none]) (st' := [.int a1, .ref a0, .int 0, .ref a2]) (h' := h) 4 (fun n => rfl) ?_
  obtain ⟨hq, hw⟩ := hw
  rcases hw with ⟨x1, h2, hx, hw⟩ | ⟨h2, hx, hw⟩
  · refine zT_call (pc' := 7) (rest := [.int 0, .ref a2]) 1 (fun n => rfl) hq hx ?_
    show zT E (d + 1) m_law_put 7 [some (.ref a0), some (.int a1), some (.ref a2), none] [.int x1, .int 0, .ref a2] h2 r
    refine zT_st (pc' := 8) (L' := [some (.ref a0), some (.int a1), some (.ref a2), none]) (st' := [.long (Int32.toInt64 x1), .int 0, .ref a2]) (h' := h2) 1 (fun n => rfl) ?_
    obtain ⟨n3, f4, e, hi, hw⟩ := hw
    refine zT_st (pc' := 9) (L' := [some (.ref a0), some (.int a1), some (.ref a2), none]) (st' := []) (h' := (setL h2 a2 n3 (vp_updL f4 ((0 : Int32)).toNatClampNeg (Int32.toInt64 x1)))) 1 (fun n => seL_eq e hi _ _) ?_
    subst hw
    exact zT_ret 3 rfl
  · refine zT_callH (pc' := 13) (L' := [some (.ref a0), some (.int a1), some (.ref a2), none]) 1 (fun n => rfl) hq (fun n => rfl) hx ?_
    subst hw
    exact zT_ret 2 rfl
set_option maxRecDepth 4000 in
theorem s_law_see_0 (E : zX) (d : Nat) (a0 : Nat) (a1 : Int32) (a2 : Int32) (a3 : Int32) (a4 : Nat) (h : zH) (r : zO × zH)
    (hw : isO h a0 11 = true ∧ ((∃ (x1 : Int32) (h2 : zH), zT E d m_x_see 0 [some (.ref a0), some (.int a1), some (.int a2), some (.int a3)] [] h (.inl (some (.int x1)), h2) ∧
    ∃ (n3 : Nat) (f4 : Nat → Int64), arL h2 a4 = some (n3, f4) ∧ ¬ ((0 : Int32) < 0 ∨ n3 ≤ ((0 : Int32)).toNatClampNeg) ∧
    r = (.inl (some (.int 0)), (setL h2 a4 n3 (vp_updL f4 ((0 : Int32)).toNatClampNeg (Int32.toInt64 x1))))) ∨
    (∃ (h2 : zH), zT E d m_x_see 0 [some (.ref a0), some (.int a1), some (.int a2), some (.int a3)] [] h (.inr 0, h2) ∧
    r = (.inl (some (.int 1)), h2)))) :
    zT E (d + 1) m_law_see 0 [some (.ref a0), some (.int a1), some (.int a2), some (.int a3), some (.ref a4), none] [] h r := by
  refine zT_st (pc' := 7) (L' := [some (.ref a0), some (.int a1), some (.int a2), some (.int a3), some (.ref a4), none]) (st' := [.int a3, .int a2, .int a1, .ref a0, .int 0, .ref a4]) (h' := h) 6 (fun n => rfl) ?_
  obtain ⟨hq, hw⟩ := hw
  rcases hw with ⟨x1, h2, hx, hw⟩ | ⟨h2, hx, hw⟩
  · refine zT_call (pc' := 10) (rest := [.int 0, .ref a4]) 1 (fun n => rfl) hq hx ?_
    show zT E (d + 1) m_law_see 10 [some (.ref a0), some (.int a1), some (.int a2), some (.int a3), some (.ref a4), none] [.int x1, .int 0, .ref a4] h2 r
    refine zT_st (pc' := 11) (L' := [some (.ref a0), some (.int a1), some (.int a2), some (.int a3), some (.ref a4), none]) (st' := [.long (Int32.toInt64 x1), .int 0, .ref a4]) (h' := h2) 1 (fun n => rfl) ?_
    obtain ⟨n3, f4, e, hi, hw⟩ := hw
    refine zT_st (pc' := 12) (L' := [some (.ref a0), some (.int a1), some (.int a2), some (.int a3), some (.ref a4), none]) (st' := []) (h' := (setL h2 a4 n3 (vp_updL f4 ((0 : Int32)).toNatClampNeg (Int32.toInt64 x1)))) 1 (fun n => seL_eq e hi _ _) ?_
    subst hw
    exact zT_ret 3 rfl
  · refine zT_callH (pc' := 17) (L' := [some (.ref a0), some (.int a1), some (.int a2), some (.int a3), some (.ref a4), none]) 1 (fun n => rfl) hq (fun n => rfl) hx ?_
    subst hw
    exact zT_ret 2 rfl
set_option maxRecDepth 4000 in
theorem s_law_milder_0 (E : zX) (d : Nat) (a0 : Nat) (a1 : Int32) (a2 : Nat) (h : zH) (r : zO × zH)
    (hw : isO h a0 11 = true ∧ ((∃ (x1 : Int32) (h2 : zH), zT E d m_x_milder 0 [some (.ref a0), some (.int a1)] [] h (.inl (some (.int x1)), h2) ∧
    ∃ (n3 : Nat) (f4 : Nat → Int64), arL h2 a2 = some (n3, f4) ∧ ¬ ((0 : Int32) < 0 ∨ n3 ≤ ((0 : Int32)).toNatClampNeg) ∧
    r = (.inl (some (.int 0)), (setL h2 a2 n3 (vp_updL f4 ((0 : Int32)).toNatClampNeg (Int32.toInt64 x1))))) ∨
    (∃ (h2 : zH), zT E d m_x_milder 0 [some (.ref a0), some (.int a1)] [] h (.inr 0, h2) ∧
    r = (.inl (some (.int 1)), h2)))) :
    zT E (d + 1) m_law_milder 0 [some (.ref a0), some (.int a1), some (.ref a2), none] [] h r := by
  refine zT_st (pc' := 4) (L' := [some (.ref a0), some (.int a1), some (.ref a2), none]) (st' := [.int a1, .ref a0, .int 0, .ref a2]) (h' := h) 4 (fun n => rfl) ?_
  obtain ⟨hq, hw⟩ := hw
  rcases hw with ⟨x1, h2, hx, hw⟩ | ⟨h2, hx, hw⟩
  · refine zT_call (pc' := 7) (rest := [.int 0, .ref a2]) 1 (fun n => rfl) hq hx ?_
    show zT E (d + 1) m_law_milder 7 [some (.ref a0), some (.int a1), some (.ref a2), none] [.int x1, .int 0, .ref a2] h2 r
    refine zT_st (pc' := 8) (L' := [some (.ref a0), some (.int a1), some (.ref a2), none]) (st' := [.long (Int32.toInt64 x1), .int 0, .ref a2]) (h' := h2) 1 (fun n => rfl) ?_
    obtain ⟨n3, f4, e, hi, hw⟩ := hw
    refine zT_st (pc' := 9) (L' := [some (.ref a0), some (.int a1), some (.ref a2), none]) (st' := []) (h' := (setL h2 a2 n3 (vp_updL f4 ((0 : Int32)).toNatClampNeg (Int32.toInt64 x1)))) 1 (fun n => seL_eq e hi _ _) ?_
    subst hw
    exact zT_ret 3 rfl
  · refine zT_callH (pc' := 13) (L' := [some (.ref a0), some (.int a1), some (.ref a2), none]) 1 (fun n => rfl) hq (fun n => rfl) hx ?_
    subst hw
    exact zT_ret 2 rfl
set_option maxRecDepth 4000 in
theorem s_law_look_0 (E : zX) (d : Nat) (a0 : Nat) (a1 : Int32) (a2 : Nat) (h : zH) (r : zO × zH)
    (hw : isO h a0 11 = true ∧ ((∃ (x1 : Int32) (h2 : zH), zT E d m_x_look 0 [some (.ref a0), some (.int a1), none] [] h (.inl (some (.int x1)), h2) ∧
    ∃ (n3 : Nat) (f4 : Nat → Int64), arL h2 a2 = some (n3, f4) ∧ ¬ ((0 : Int32) < 0 ∨ n3 ≤ ((0 : Int32)).toNatClampNeg) ∧
    r = (.inl (some (.int 0)), (setL h2 a2 n3 (vp_updL f4 ((0 : Int32)).toNatClampNeg (Int32.toInt64 x1))))) ∨
    (∃ (h2 : zH), zT E d m_x_look 0 [some (.ref a0), some (.int a1), none] [] h (.inr 0, h2) ∧
    r = (.inl (some (.int 1)), h2)))) :
    zT E (d + 1) m_law_look 0 [some (.ref a0), some (.int a1), some (.ref a2), none] [] h r := by
  refine zT_st (pc' := 4) (L' := [some (.ref a0), some (.int a1), some (.ref a2), none]) (st' := [.int a1, .ref a0, .int 0, .ref a2]) (h' := h) 4 (fun n => rfl) ?_
  obtain ⟨hq, hw⟩ := hw
  rcases hw with ⟨x1, h2, hx, hw⟩ | ⟨h2, hx, hw⟩
  · refine zT_call (pc' := 7) (rest := [.int 0, .ref a2]) 1 (fun n => rfl) hq hx ?_
    show zT E (d + 1) m_law_look 7 [some (.ref a0), some (.int a1), some (.ref a2), none] [.int x1, .int 0, .ref a2] h2 r
    refine zT_st (pc' := 8) (L' := [some (.ref a0), some (.int a1), some (.ref a2), none]) (st' := [.long (Int32.toInt64 x1), .int 0, .ref a2]) (h' := h2) 1 (fun n => rfl) ?_
    obtain ⟨n3, f4, e, hi, hw⟩ := hw
    refine zT_st (pc' := 9) (L' := [some (.ref a0), some (.int a1), some (.ref a2), none]) (st' := []) (h' := (setL h2 a2 n3 (vp_updL f4 ((0 : Int32)).toNatClampNeg (Int32.toInt64 x1)))) 1 (fun n => seL_eq e hi _ _) ?_
    subst hw
    exact zT_ret 3 rfl
  · refine zT_callH (pc' := 13) (L' := [some (.ref a0), some (.int a1), some (.ref a2), none]) 1 (fun n => rfl) hq (fun n => rfl) hx ?_
    subst hw
    exact zT_ret 2 rfl
set_option maxRecDepth 4000 in
theorem s_law_boys_0 (E : zX) (d : Nat) (a0 : Nat) (a1 : Int32) (a2 : Int32) (a3 : Int32) (a4 : Nat) (h : zH) (r : zO × zH)
    (hw : isO h a0 11 = true ∧ ((∃ (x1 : Int32) (h2 : zH), zT E d m_x_boys 0 [some (.ref a0), some (.int a1), some (.int a2), some (.int a3)] [] h (.inl (some (.int x1)), h2) ∧
    ∃ (n3 : Nat) (f4 : Nat → Int64), arL h2 a4 = some (n3, f4) ∧ ¬ ((0 : Int32) < 0 ∨ n3 ≤ ((0 : Int32)).toNatClampNeg) ∧
    r = (.inl (some (.int 0)), (setL h2 a4 n3 (vp_updL f4 ((0 : Int32)).toNatClampNeg (Int32.toInt64 x1))))) ∨
    (∃ (h2 : zH), zT E d m_x_boys 0 [some (.ref a0), some (.int a1), some (.int a2), some (.int a3)] [] h (.inr 0, h2) ∧
    r = (.inl (some (.int 1)), h2)) ∨
    (∃ (h2 : zH), zT E d m_x_boys 0 [some (.ref a0), some (.int a1), some (.int a2), some (.int a3)] [] h (.inr 1, h2) ∧
    r = (.inl (some (.int 2)), h2)))) :
    zT E (d + 1) m_law_boys 0 [some (.ref a0), some (.int a1), some (.int a2), some (.int a3), some (.ref a4), none] [] h r := by
  refine zT_st (pc' := 7) (L' := [some (.ref a0), some (.int a1), some (.int a2), some (.int a3), some (.ref a4), none]) (st' := [.int a3, .int a2, .int a1, .ref a0, .int 0, .ref a4]) (h' := h) 6 (fun n => rfl) ?_
  obtain ⟨hq, hw⟩ := hw
  rcases hw with ⟨x1, h2, hx, hw⟩ | ⟨h2, hx, hw⟩ | ⟨h2, hx, hw⟩
  · refine zT_call (pc' := 10) (rest := [.int 0, .ref a4]) 1 (fun n => rfl) hq hx ?_
    show zT E (d + 1) m_law_boys 10 [some (.ref a0), some (.int a1), some (.int a2), some (.int a3), some (.ref a4), none] [.int x1, .int 0, .ref a4] h2 r
    refine zT_st (pc' := 11) (L' := [some (.ref a0), some (.int a1), some (.int a2), some (.int a3), some (.ref a4), none]) (st' := [.long (Int32.toInt64 x1), .int 0, .ref a4]) (h' := h2) 1 (fun n => rfl) ?_
    obtain ⟨n3, f4, e, hi, hw⟩ := hw
    refine zT_st (pc' := 12) (L' := [some (.ref a0), some (.int a1), some (.int a2), some (.int a3), some (.ref a4), none]) (st' := []) (h' := (setL h2 a4 n3 (vp_updL f4 ((0 : Int32)).toNatClampNeg (Int32.toInt64 x1)))) 1 (fun n => seL_eq e hi _ _) ?_
    subst hw
    exact zT_ret 3 rfl
  · refine zT_callH (pc' := 17) (L' := [some (.ref a0), some (.int a1), some (.int a2), some (.int a3), some (.ref a4), none]) 1 (fun n => rfl) hq (fun n => rfl) hx ?_
    subst hw
    exact zT_ret 2 rfl
  · refine zT_callH (pc' := 21) (L' := [some (.ref a0), some (.int a1), some (.int a2), some (.int a3), some (.ref a4), none]) 1 (fun n => rfl) hq (fun n => rfl) hx ?_
    subst hw
    exact zT_ret 2 rfl
set_option maxRecDepth 4000 in
theorem s_law_game_0 (E : zX) (d : Nat) (a0 : Nat) (a1 : Int32) (a2 : Int32) (a3 : Int32) (a4 : Nat) (h : zH) (r : zO × zH)
    (hw : isO h a0 11 = true ∧ ((∃ (x1 : Int32) (h2 : zH), zT E d m_x_game 0 [some (.ref a0), some (.int a1), some (.int a2), some (.int a3)] [] h (.inl (some (.int x1)), h2) ∧
    ∃ (n3 : Nat) (f4 : Nat → Int64), arL h2 a4 = some (n3, f4) ∧ ¬ ((0 : Int32) < 0 ∨ n3 ≤ ((0 : Int32)).toNatClampNeg) ∧
    r = (.inl (some (.int 0)), (setL h2 a4 n3 (vp_updL f4 ((0 : Int32)).toNatClampNeg (Int32.toInt64 x1))))) ∨
    (∃ (h2 : zH), zT E d m_x_game 0 [some (.ref a0), some (.int a1), some (.int a2), some (.int a3)] [] h (.inr 0, h2) ∧
    r = (.inl (some (.int 1)), h2)) ∨
    (∃ (h2 : zH), zT E d m_x_game 0 [some (.ref a0), some (.int a1), some (.int a2), some (.int a3)] [] h (.inr 1, h2) ∧
    r = (.inl (some (.int 2)), h2)))) :
    zT E (d + 1) m_law_game 0 [some (.ref a0), some (.int a1), some (.int a2), some (.int a3), some (.ref a4), none] [] h r := by
  refine zT_st (pc' := 7) (L' := [some (.ref a0), some (.int a1), some (.int a2), some (.int a3), some (.ref a4), none]) (st' := [.int a3, .int a2, .int a1, .ref a0, .int 0, .ref a4]) (h' := h) 6 (fun n => rfl) ?_
  obtain ⟨hq, hw⟩ := hw
  rcases hw with ⟨x1, h2, hx, hw⟩ | ⟨h2, hx, hw⟩ | ⟨h2, hx, hw⟩
  · refine zT_call (pc' := 10) (rest := [.int 0, .ref a4]) 1 (fun n => rfl) hq hx ?_
    show zT E (d + 1) m_law_game 10 [some (.ref a0), some (.int a1), some (.int a2), some (.int a3), some (.ref a4), none] [.int x1, .int 0, .ref a4] h2 r
    refine zT_st (pc' := 11) (L' := [some (.ref a0), some (.int a1), some (.int a2), some (.int a3), some (.ref a4), none]) (st' := [.long (Int32.toInt64 x1), .int 0, .ref a4]) (h' := h2) 1 (fun n => rfl) ?_
    obtain ⟨n3, f4, e, hi, hw⟩ := hw
    refine zT_st (pc' := 12) (L' := [some (.ref a0), some (.int a1), some (.int a2), some (.int a3), some (.ref a4), none]) (st' := []) (h' := (setL h2 a4 n3 (vp_updL f4 ((0 : Int32)).toNatClampNeg (Int32.toInt64 x1)))) 1 (fun n => seL_eq e hi _ _) ?_
    subst hw
    exact zT_ret 3 rfl
  · refine zT_callH (pc' := 17) (L' := [some (.ref a0), some (.int a1), some (.int a2), some (.int a3), some (.ref a4), none]) 1 (fun n => rfl) hq (fun n => rfl) hx ?_
    subst hw
    exact zT_ret 2 rfl
  · refine zT_callH (pc' := 21) (L' := [some (.ref a0), some (.int a1), some (.int a2), some (.int a3), some (.ref a4), none]) 1 (fun n => rfl) hq (fun n => rfl) hx ?_
    subst hw
    exact zT_ret 2 rfl
set_option maxRecDepth 4000 in
theorem s_law_years_0 (E : zX) (d : Nat) (a0 : Nat) (a1 : Int32) (a2 : Int32) (a3 : Int32) (a4 : Nat) (h : zH) (r : zO × zH)
    (hw : isO h a0 11 = true ∧ ((∃ (x1 : Int32) (h2 : zH), zT E d m_x_years 0 [some (.ref a0), some (.int a1), some (.int a2), some (.int a3)] [] h (.inl (some (.int x1)), h2) ∧
    ∃ (n3 : Nat) (f4 : Nat → Int64), arL h2 a4 = some (n3, f4) ∧ ¬ ((0 : Int32) < 0 ∨ n3 ≤ ((0 : Int32)).toNatClampNeg) ∧
    r = (.inl (some (.int 0)), (setL h2 a4 n3 (vp_updL f4 ((0 : Int32)).toNatClampNeg (Int32.toInt64 x1))))) ∨
    (∃ (h2 : zH), zT E d m_x_years 0 [some (.ref a0), some (.int a1), some (.int a2), some (.int a3)] [] h (.inr 0, h2) ∧
    r = (.inl (some (.int 1)), h2)) ∨
    (∃ (h2 : zH), zT E d m_x_years 0 [some (.ref a0), some (.int a1), some (.int a2), some (.int a3)] [] h (.inr 1, h2) ∧
    r = (.inl (some (.int 2)), h2)))) :
    zT E (d + 1) m_law_years 0 [some (.ref a0), some (.int a1), some (.int a2), some (.int a3), some (.ref a4), none] [] h r := by
  refine zT_st (pc' := 7) (L' := [some (.ref a0), some (.int a1), some (.int a2), some (.int a3), some (.ref a4), none]) (st' := [.int a3, .int a2, .int a1, .ref a0, .int 0, .ref a4]) (h' := h) 6 (fun n => rfl) ?_
  obtain ⟨hq, hw⟩ := hw
  rcases hw with ⟨x1, h2, hx, hw⟩ | ⟨h2, hx, hw⟩ | ⟨h2, hx, hw⟩
  · refine zT_call (pc' := 10) (rest := [.int 0, .ref a4]) 1 (fun n => rfl) hq hx ?_
    show zT E (d + 1) m_law_years 10 [some (.ref a0), some (.int a1), some (.int a2), some (.int a3), some (.ref a4), none] [.int x1, .int 0, .ref a4] h2 r
    refine zT_st (pc' := 11) (L' := [some (.ref a0), some (.int a1), some (.int a2), some (.int a3), some (.ref a4), none]) (st' := [.long (Int32.toInt64 x1), .int 0, .ref a4]) (h' := h2) 1 (fun n => rfl) ?_
    obtain ⟨n3, f4, e, hi, hw⟩ := hw
    refine zT_st (pc' := 12) (L' := [some (.ref a0), some (.int a1), some (.int a2), some (.int a3), some (.ref a4), none]) (st' := []) (h' := (setL h2 a4 n3 (vp_updL f4 ((0 : Int32)).toNatClampNeg (Int32.toInt64 x1)))) 1 (fun n => seL_eq e hi _ _) ?_
    subst hw
    exact zT_ret 3 rfl
  · refine zT_callH (pc' := 17) (L' := [some (.ref a0), some (.int a1), some (.int a2), some (.int a3), some (.ref a4), none]) 1 (fun n => rfl) hq (fun n => rfl) hx ?_
    subst hw
    exact zT_ret 2 rfl
  · refine zT_callH (pc' := 21) (L' := [some (.ref a0), some (.int a1), some (.int a2), some (.int a3), some (.ref a4), none]) 1 (fun n => rfl) hq (fun n => rfl) hx ?_
    subst hw
    exact zT_ret 2 rfl
set_option maxRecDepth 4000 in
theorem s_law_cell_0 (E : zX) (d : Nat) (a0 : Nat) (a1 : Int32) (a2 : Int32) (a3 : Nat) (h : zH) (r : zO × zH)
    (hw : isO h a0 11 = true ∧ ((∃ (x1 : Int32) (h2 : zH), zT E d m_x_cell 0 [some (.ref a0), some (.int a1), some (.int a2)] [] h (.inl (some (.int x1)), h2) ∧
    ∃ (n3 : Nat) (f4 : Nat → Int64), arL h2 a3 = some (n3, f4) ∧ ¬ ((0 : Int32) < 0 ∨ n3 ≤ ((0 : Int32)).toNatClampNeg) ∧
    r = (.inl (some (.int 0)), (setL h2 a3 n3 (vp_updL f4 ((0 : Int32)).toNatClampNeg (Int32.toInt64 x1))))) ∨
    (∃ (h2 : zH), zT E d m_x_cell 0 [some (.ref a0), some (.int a1), some (.int a2)] [] h (.inr 0, h2) ∧
    r = (.inl (some (.int 1)), h2)))) :
    zT E (d + 1) m_law_cell 0 [some (.ref a0), some (.int a1), some (.int a2), some (.ref a3), none] [] h r := by
  refine zT_st (pc' := 5) (L' := [some (.ref a0), some (.int a1), some (.int a2), some (.ref a3), none]) (st' := [.int a2, .int a1, .ref a0, .int 0, .ref a3]) (h' := h) 5 (fun n => rfl) ?_
  obtain ⟨hq, hw⟩ := hw
  rcases hw with ⟨x1, h2, hx, hw⟩ | ⟨h2, hx, hw⟩
  · refine zT_call (pc' := 8) (rest := [.int 0, .ref a3]) 1 (fun n => rfl) hq hx ?_
    show zT E (d + 1) m_law_cell 8 [some (.ref a0), some (.int a1), some (.int a2), some (.ref a3), none] [.int x1, .int 0, .ref a3] h2 r
    refine zT_st (pc' := 9) (L' := [some (.ref a0), some (.int a1), some (.int a2), some (.ref a3), none]) (st' := [.long (Int32.toInt64 x1), .int 0, .ref a3]) (h' := h2) 1 (fun n => rfl) ?_
    obtain ⟨n3, f4, e, hi, hw⟩ := hw
    refine zT_st (pc' := 10) (L' := [some (.ref a0), some (.int a1), some (.int a2), some (.ref a3), none]) (st' := []) (h' := (setL h2 a3 n3 (vp_updL f4 ((0 : Int32)).toNatClampNeg (Int32.toInt64 x1)))) 1 (fun n => seL_eq e hi _ _) ?_
    subst hw
    exact zT_ret 3 rfl
  · refine zT_callH (pc' := 15) (L' := [some (.ref a0), some (.int a1), some (.int a2), some (.ref a3), none]) 1 (fun n => rfl) hq (fun n => rfl) hx ?_
    subst hw
    exact zT_ret 2 rfl
set_option maxRecDepth 4000 in
theorem s_law_when_0 (E : zX) (d : Nat) (a0 : Nat) (a1 : Int32) (a2 : Int32) (a3 : Nat) (h : zH) (r : zO × zH)
    (hw : isO h a0 11 = true ∧ ((∃ (x1 : Int32) (h2 : zH), zT E d m_x_when 0 [some (.ref a0), some (.int a1), some (.int a2)] [] h (.inl (some (.int x1)), h2) ∧
    ∃ (n3 : Nat) (f4 : Nat → Int64), arL h2 a3 = some (n3, f4) ∧ ¬ ((0 : Int32) < 0 ∨ n3 ≤ ((0 : Int32)).toNatClampNeg) ∧
    r = (.inl (some (.int 0)), (setL h2 a3 n3 (vp_updL f4 ((0 : Int32)).toNatClampNeg (Int32.toInt64 x1))))) ∨
    (∃ (h2 : zH), zT E d m_x_when 0 [some (.ref a0), some (.int a1), some (.int a2)] [] h (.inr 0, h2) ∧
    r = (.inl (some (.int 1)), h2)))) :
    zT E (d + 1) m_law_when 0 [some (.ref a0), some (.int a1), some (.int a2), some (.ref a3), none] [] h r := by
  refine zT_st (pc' := 5) (L' := [some (.ref a0), some (.int a1), some (.int a2), some (.ref a3), none]) (st' := [.int a2, .int a1, .ref a0, .int 0, .ref a3]) (h' := h) 5 (fun n => rfl) ?_
  obtain ⟨hq, hw⟩ := hw
  rcases hw with ⟨x1, h2, hx, hw⟩ | ⟨h2, hx, hw⟩
  · refine zT_call (pc' := 8) (rest := [.int 0, .ref a3]) 1 (fun n => rfl) hq hx ?_
    show zT E (d + 1) m_law_when 8 [some (.ref a0), some (.int a1), some (.int a2), some (.ref a3), none] [.int x1, .int 0, .ref a3] h2 r
    refine zT_st (pc' := 9) (L' := [some (.ref a0), some (.int a1), some (.int a2), some (.ref a3), none]) (st' := [.long (Int32.toInt64 x1), .int 0, .ref a3]) (h' := h2) 1 (fun n => rfl) ?_
    obtain ⟨n3, f4, e, hi, hw⟩ := hw
    refine zT_st (pc' := 10) (L' := [some (.ref a0), some (.int a1), some (.int a2), some (.ref a3), none]) (st' := []) (h' := (setL h2 a3 n3 (vp_updL f4 ((0 : Int32)).toNatClampNeg (Int32.toInt64 x1)))) 1 (fun n => seL_eq e hi _ _) ?_
    subst hw
    exact zT_ret 3 rfl
  · refine zT_callH (pc' := 15) (L' := [some (.ref a0), some (.int a1), some (.int a2), some (.ref a3), none]) 1 (fun n => rfl) hq (fun n => rfl) hx ?_
    subst hw
    exact zT_ret 2 rfl
set_option maxRecDepth 4000 in
theorem s_law_ahead_0 (E : zX) (d : Nat) (a0 : Nat) (a1 : Int32) (a2 : Int32) (a3 : Nat) (h : zH) (r : zO × zH)
    (hw : isO h a0 11 = true ∧ ((∃ (x1 : Int32) (h2 : zH), zT E d m_x_ahead 0 [some (.ref a0), some (.int a1), some (.int a2)] [] h (.inl (some (.int x1)), h2) ∧
    ∃ (n3 : Nat) (f4 : Nat → Int64), arL h2 a3 = some (n3, f4) ∧ ¬ ((0 : Int32) < 0 ∨ n3 ≤ ((0 : Int32)).toNatClampNeg) ∧
    r = (.inl (some (.int 0)), (setL h2 a3 n3 (vp_updL f4 ((0 : Int32)).toNatClampNeg (Int32.toInt64 x1))))) ∨
    (∃ (h2 : zH), zT E d m_x_ahead 0 [some (.ref a0), some (.int a1), some (.int a2)] [] h (.inr 0, h2) ∧
    r = (.inl (some (.int 1)), h2)) ∨
    (∃ (h2 : zH), zT E d m_x_ahead 0 [some (.ref a0), some (.int a1), some (.int a2)] [] h (.inr 1, h2) ∧
    r = (.inl (some (.int 2)), h2)))) :
    zT E (d + 1) m_law_ahead 0 [some (.ref a0), some (.int a1), some (.int a2), some (.ref a3), none] [] h r := by
  refine zT_st (pc' := 5) (L' := [some (.ref a0), some (.int a1), some (.int a2), some (.ref a3), none]) (st' := [.int a2, .int a1, .ref a0, .int 0, .ref a3]) (h' := h) 5 (fun n => rfl) ?_
  obtain ⟨hq, hw⟩ := hw
  rcases hw with ⟨x1, h2, hx, hw⟩ | ⟨h2, hx, hw⟩ | ⟨h2, hx, hw⟩
  · refine zT_call (pc' := 8) (rest := [.int 0, .ref a3]) 1 (fun n => rfl) hq hx ?_
    show zT E (d + 1) m_law_ahead 8 [some (.ref a0), some (.int a1), some (.int a2), some (.ref a3), none] [.int x1, .int 0, .ref a3] h2 r
    refine zT_st (pc' := 9) (L' := [some (.ref a0), some (.int a1), some (.int a2), some (.ref a3), none]) (st' := [.long (Int32.toInt64 x1), .int 0, .ref a3]) (h' := h2) 1 (fun n => rfl) ?_
    obtain ⟨n3, f4, e, hi, hw⟩ := hw
    refine zT_st (pc' := 10) (L' := [some (.ref a0), some (.int a1), some (.int a2), some (.ref a3), none]) (st' := []) (h' := (setL h2 a3 n3 (vp_updL f4 ((0 : Int32)).toNatClampNeg (Int32.toInt64 x1)))) 1 (fun n => seL_eq e hi _ _) ?_
    subst hw
    exact zT_ret 3 rfl
  · refine zT_callH (pc' := 15) (L' := [some (.ref a0), some (.int a1), some (.int a2), some (.ref a3), none]) 1 (fun n => rfl) hq (fun n => rfl) hx ?_
    subst hw
    exact zT_ret 2 rfl
  · refine zT_callH (pc' := 19) (L' := [some (.ref a0), some (.int a1), some (.int a2), some (.ref a3), none]) 1 (fun n => rfl) hq (fun n => rfl) hx ?_
    subst hw
    exact zT_ret 2 rfl
set_option maxRecDepth 4000 in
theorem s_law_stays_0 (E : zX) (d : Nat) (a0 : Nat) (a1 : Int32) (a2 : Int32) (a3 : Nat) (h : zH) (r : zO × zH)
    (hw : isO h a0 11 = true ∧ ((∃ (x1 : Int32) (h2 : zH), zT E d m_x_stays 0 [some (.ref a0), some (.int a1), some (.int a2)] [] h (.inl (some (.int x1)), h2) ∧
    ∃ (n3 : Nat) (f4 : Nat → Int64), arL h2 a3 = some (n3, f4) ∧ ¬ ((0 : Int32) < 0 ∨ n3 ≤ ((0 : Int32)).toNatClampNeg) ∧
    r = (.inl (some (.int 0)), (setL h2 a3 n3 (vp_updL f4 ((0 : Int32)).toNatClampNeg (Int32.toInt64 x1))))) ∨
    (∃ (h2 : zH), zT E d m_x_stays 0 [some (.ref a0), some (.int a1), some (.int a2)] [] h (.inr 0, h2) ∧
    r = (.inl (some (.int 1)), h2)) ∨
    (∃ (h2 : zH), zT E d m_x_stays 0 [some (.ref a0), some (.int a1), some (.int a2)] [] h (.inr 1, h2) ∧
    r = (.inl (some (.int 2)), h2)))) :
    zT E (d + 1) m_law_stays 0 [some (.ref a0), some (.int a1), some (.int a2), some (.ref a3), none] [] h r := by
  refine zT_st (pc' := 5) (L' := [some (.ref a0), some (.int a1), some (.int a2), some (.ref a3), none]) (st' := [.int a2, .int a1, .ref a0, .int 0, .ref a3]) (h' := h) 5 (fun n => rfl) ?_
  obtain ⟨hq, hw⟩ := hw
  rcases hw with ⟨x1, h2, hx, hw⟩ | ⟨h2, hx, hw⟩ | ⟨h2, hx, hw⟩
  · refine zT_call (pc' := 8) (rest := [.int 0, .ref a3]) 1 (fun n => rfl) hq hx ?_
    show zT E (d + 1) m_law_stays 8 [some (.ref a0), some (.int a1), some (.int a2), some (.ref a3), none] [.int x1, .int 0, .ref a3] h2 r
    refine zT_st (pc' := 9) (L' := [some (.ref a0), some (.int a1), some (.int a2), some (.ref a3), none]) (st' := [.long (Int32.toInt64 x1), .int 0, .ref a3]) (h' := h2) 1 (fun n => rfl) ?_
    obtain ⟨n3, f4, e, hi, hw⟩ := hw
    refine zT_st (pc' := 10) (L' := [some (.ref a0), some (.int a1), some (.int a2), some (.ref a3), none]) (st' := []) (h' := (setL h2 a3 n3 (vp_updL f4 ((0 : Int32)).toNatClampNeg (Int32.toInt64 x1)))) 1 (fun n => seL_eq e hi _ _) ?_
    subst hw
    exact zT_ret 3 rfl
  · refine zT_callH (pc' := 15) (L' := [some (.ref a0), some (.int a1), some (.int a2), some (.ref a3), none]) 1 (fun n => rfl) hq (fun n => rfl) hx ?_
    subst hw
    exact zT_ret 2 rfl
  · refine zT_callH (pc' := 19) (L' := [some (.ref a0), some (.int a1), some (.int a2), some (.ref a3), none]) 1 (fun n => rfl) hq (fun n => rfl) hx ?_
    subst hw
    exact zT_ret 2 rfl
set_option maxRecDepth 4000 in
theorem s_Integer_bitCount_0 (E : zX) (d : Nat) (a0 : Int32) (h : zH) (r : zO × zH)
    (hw : r = (.inl (some (.int ((((((((a0 - ((zushr a0 1) &&& 1431655765)) &&& 858993459) + ((zushr (a0 - ((zushr a0 1) &&& 1431655765)) 2) &&& 858993459)) + (zushr (((a0 - ((zushr a0 1) &&& 1431655765)) &&& 858993459) + ((zushr (a0 - ((zushr a0 1) &&& 1431655765)) 2) &&& 858993459)) 4)) &&& 252645135) + (zushr (((((a0 - ((zushr a0 1) &&& 1431655765)) &&& 858993459) + ((zushr (a0 - ((zushr a0 1) &&& 1431655765)) 2) &&& 858993459)) + (zushr (((a0 - ((zushr a0 1) &&& 1431655765)) &&& 858993459) + ((zushr (a0 - ((zushr a0 1) &&& 1431655765)) 2) &&& 858993459)) 4)) &&& 252645135) 8)) + (zushr ((((((a0 - ((zushr a0 1) &&& 1431655765)) &&& 858993459) + ((zushr (a0 - ((zushr a0 1) &&& 1431655765)) 2) &&& 858993459)) + (zushr (((a0 - ((zushr a0 1) &&& 1431655765)) &&& 858993459) + ((zushr (a0 - ((zushr a0 1) &&& 1431655765)) 2) &&& 858993459)) 4)) &&& 252645135) + (zushr (((((a0 - ((zushr a0 1) &&& 1431655765)) &&& 858993459) + ((zushr (a0 - ((zushr a0 1) &&& 1431655765)) 2) &&& 858993459)) + (zushr (((a0 - ((zushr a0 1) &&& 1431655765)) &&& 858993459) + ((zushr (a0 - ((zushr a0 1) &&& 1431655765)) 2) &&& 858993459)) 4)) &&& 252645135) 8)) 16)) &&& 63))), h)) :
    zT E d m_Integer_bitCount 0 [some (.int a0)] [] h r := by
  subst hw
  exact zT_ret 42 rfl
set_option maxRecDepth 4000 in
theorem s_String_indexOf_I_0 (E : zX) (d : Nat) (a0 : UInt32) (a1 : Int32) (h : zH) (r : zO × zH)
    (hw : isT E a0 = true ∧ ∃ (x1 : Int32) (h2 : zH), zT E d m_String_indexOf_II 0 [some (.float a0), some (.int a1), some (.int 0)] [] h (.inl (some (.int x1)), h2) ∧
    r = (.inl (some (.int x1)), h2)) :
    zT E (d + 1) m_String_indexOf_I 0 [some (.float a0), some (.int a1)] [] h r := by
  refine zT_st (pc' := 3) (L' := [some (.float a0), some (.int a1)]) (st' := [.int 0, .int a1, .float a0]) (h' := h) 3 (fun n => rfl) ?_
  obtain ⟨hq, hw⟩ := hw
  obtain ⟨x1, h2, hx, hw⟩ := hw
  refine zT_call (pc' := 6) (rest := []) 1 (fun n => rfl) hq hx ?_
  show zT E (d + 1) m_String_indexOf_I 6 [some (.float a0), some (.int a1)] [.int x1] h2 r
  subst hw
  exact zT_ret 1 rfl
