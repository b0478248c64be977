set_option maxRecDepth 4000 in
theorem s_m_thrown_0 (E : zX) (d : Nat) (a0 : Nat) (h : zH) (r : zO × zH)
    (hw : ∃ x1 : Int32, fld h a0 12 0 = some (.int x1) ∧
    r = (.inl (some (.int x1)), h)) :
    zT E d m_m_thrown 0 [some (.ref a0)] [] h r := by
  refine zT_st (pc' := 1) (L' := [some (.ref a0)]) (st' := [.ref a0]) (h' := h) 1 (fun n => rfl) ?_
  obtain ⟨x1, e, hw⟩ := hw
  refine zT_st (pc' := 4) (L' := [some (.ref a0)]) (st' := [.int x1]) (h' := h) 1 (fun n => fld_eq (E := E) e _) ?_
  subst hw
  exact zT_ret 1 rfl
set_option maxRecDepth 4000 in
theorem s_m_right_0 (E : zX) (d : Nat) (a0 : Nat) (a1 : Int32) (a2 : Int32) (h : zH) (r : zO × zH)
    (hw : ∃ x1 : Int32, fld h a0 12 0 = some (.int x1) ∧
    if x1 = 0 then (
      if a1 = 0 then (
        (∃ w, fld h a0 12 0 = some w) ∧
        ∃ x2 : Int32, fld (setF h a0 0 (.int a2)) a0 12 0 = some (.int x2) ∧
        if x2 = 0 then (
          r = (.inl (some (.int 1)), (setF h a0 0 (.int a2))))
        else (
          r = (.inl (some (.int 0)), (setF h a0 0 (.int a2)))))
      else (
        ∃ x3 : Int32, fld h a0 12 0 = some (.int x3) ∧
        if x3 = 0 then (
          r = (.inl (some (.int 1)), h))
        else (
          r = (.inl (some (.int 0)), h))))
    else (
      ∃ x4 : Int32, fld h a0 12 0 = some (.int x4) ∧
      if x4 = 0 then (
        r = (.inl (some (.int 1)), h))
      else (
        r = (.inl (some (.int 0)), h)))) :
    zT E d m_m_right 0 [some (.ref a0), some (.int a1), some (.int a2)] [] h r := by
  refine zT_st (pc' := 1) (L' := [some (.ref a0), some (.int a1), some (.int a2)]) (st' := [.ref a0]) (h' := h) 1 (fun n => rfl) ?_
  obtain ⟨x1, e, hw⟩ := hw
  refine zT_st (pc' := 4) (L' := [some (.ref a0), some (.int a1), some (.int a2)]) (st' := [.int x1]) (h' := h) 1 (fun n => fld_eq (E := E) e _) ?_
  by_cases hc : x1 = 0
  · rw [if_pos hc] at hw
    refine zT_st (pc' := 7) (L' := [some (.ref a0), some (.int a1), some (.int a2)]) (st' := []) (h' := h) 1 (fun n => if_pos hc) ?_
    refine zT_st (pc' := 8) (L' := [some (.ref a0), some (.int a1), some (.int a2)]) (st' := [.int a1]) (h' := h) 1 (fun n => rfl) ?_
    by_cases hc : a1 = 0
    · rw [if_pos hc] at hw
      refine zT_st (pc' := 11) (L' := [some (.ref a0), some (.int a1), some (.int a2)]) (st' := []) (h' := h) 1 (fun n => if_pos hc) ?_
      refine zT_st (pc' := 13) (L' := [some (.ref a0), some (.int a1), some (.int a2)]) (st' := [.int a2, .ref a0]) (h' := h) 2 (fun n => rfl) ?_
      obtain ⟨⟨w, e⟩, hw⟩ := hw
      refine zT_st (pc' := 16) (L' := [some (.ref a0), some (.int a1), some (.int a2)]) (st' := []) (h' := (setF h a0 0 (.int a2))) 1 (fun n => put_eq e rfl _ _) ?_
      refine zT_st (pc' := 17) (L' := [some (.ref a0), some (.int a1), some (.int a2)]) (st' := [.ref a0]) (h' := (setF h a0 0 (.int a2))) 1 (fun n => rfl) ?_
      obtain ⟨x2, e, hw⟩ := hw
      refine zT_st (pc' := 20) (L' := [some (.ref a0), some (.int a1), some (.int a2)]) (st' := [.int x2]) (h' := (setF h a0 0 (.int a2))) 1 (fun n => fld_eq (E := E) e _) ?_
      by_cases hc : x2 = 0
      · rw [if_pos hc] at hw
        refine zT_st (pc' := 23) (L' := [some (.ref a0), some (.int a1), some (.int a2)]) (st' := []) (h' := (setF h a0 0 (.int a2))) 1 (fun n => if_pos hc) ?_
        subst hw
        exact zT_ret 3 rfl
      · rw [if_neg hc] at hw
        refine zT_st (pc' := 27) (L' := [some (.ref a0), some (.int a1), some (.int a2)]) (st' := []) (h' := (setF h a0 0 (.int a2))) 1 (fun n => if_neg hc) ?_
        subst hw
        exact zT_ret 2 rfl
    · rw [if_neg hc] at hw
      refine zT_st (pc' := 16) (L' := [some (.ref a0), some (.int a1), some (.int a2)]) (st' := []) (h' := h) 1 (fun n => if_neg hc) ?_
      refine zT_st (pc' := 17) (L' := [some (.ref a0), some (.int a1), some (.int a2)]) (st' := [.ref a0]) (h' := h) 1 (fun n => rfl) ?_
      obtain ⟨x3, e, hw⟩ := hw
      refine zT_st (pc' := 20) (L' := [some (.ref a0), some (.int a1), some (.int a2)]) (st' := [.int x3]) (h' := h) 1 (fun n => fld_eq (E := E) e _) ?_
      by_cases hc : x3 = 0
      · rw [if_pos hc] at hw
        refine zT_st (pc' := 23) (L' := [some (.ref a0), some (.int a1), some (.int a2)]) (st' := []) (h' := h) 1 (fun n => if_pos hc) ?_
        subst hw
        exact zT_ret 3 rfl
      · rw [if_neg hc] at hw
        refine zT_st (pc' := 27) (L' := [some (.ref a0), some (.int a1), some (.int a2)]) (st' := []) (h' := h) 1 (fun n => if_neg hc) ?_
        subst hw
        exact zT_ret 2 rfl
  · rw [if_neg hc] at hw
    refine zT_st (pc' := 16) (L' := [some (.ref a0), some (.int a1), some (.int a2)]) (st' := []) (h' := h) 1 (fun n => if_neg hc) ?_
    refine zT_st (pc' := 17) (L' := [some (.ref a0), some (.int a1), some (.int a2)]) (st' := [.ref a0]) (h' := h) 1 (fun n => rfl) ?_
    obtain ⟨x4, e, hw⟩ := hw
    refine zT_st (pc' := 20) (L' := [some (.ref a0), some (.int a1), some (.int a2)]) (st' := [.int x4]) (h' := h) 1 (fun n => fld_eq (E := E) e _) ?_
    by_cases hc : x4 = 0
    · rw [if_pos hc] at hw
      refine zT_st (pc' := 23) (L' := [some (.ref a0), some (.int a1), some (.int a2)]) (st' := []) (h' := h) 1 (fun n => if_pos hc) ?_
      subst hw
      exact zT_ret 3 rfl
    · rw [if_neg hc] at hw
      refine zT_st (pc' := 27) (L' := [some (.ref a0), some (.int a1), some (.int a2)]) (st' := []) (h' := h) 1 (fun n => if_neg hc) ?_
      subst hw
      exact zT_ret 2 rfl
set_option maxRecDepth 4000 in
theorem s_m_spelled_0 (E : zX) (d : Nat) (a0 : Int32) (a1 : Int32) (a2 : Int32) (a3 : Int32) (a4 : Int32) (a5 : Int32) (h : zH) (r : zO × zH)
    (hw : if a2 = 0 then (
      zT E d m_m_spelled 32 [some (.int a0), some (.int a1), some (.int a2), some (.int a3), some (.int a4), some (.int a5), some (.long ((((Int32.toInt64 a0) - 96) <<< (Int32.toInt64 5 &&& 63)) ||| (Int32.toInt64 (a1 - 96)))), none] [] h r)
    else (
      zT E d m_m_spelled 32 [some (.int a0), some (.int a1), some (.int a2), some (.int a3), some (.int a4), some (.int a5), some (.long ((((((Int32.toInt64 a0) - 96) <<< (Int32.toInt64 5 &&& 63)) ||| (Int32.toInt64 (a1 - 96))) <<< (Int32.toInt64 5 &&& 63)) ||| (Int32.toInt64 (a2 - 96)))), none] [] h r)) :
    zT E d m_m_spelled 0 [some (.int a0), some (.int a1), some (.int a2), some (.int a3), some (.int a4), some (.int a5), none, none] [] h r := by
  refine zT_st (pc' := 17) (L' := [some (.int a0), some (.int a1), some (.int a2), some (.int a3), some (.int a4), some (.int a5), some (.long ((((Int32.toInt64 a0) - 96) <<< (Int32.toInt64 5 &&& 63)) ||| (Int32.toInt64 (a1 - 96)))), none]) (st' := [.int a2]) (h' := h) 13 (fun n => rfl) ?_
  by_cases hc : a2 = 0
  · rw [if_pos hc] at hw
    refine zT_st (pc' := 32) (L' := [some (.int a0), some (.int a1), some (.int a2), some (.int a3), some (.int a4), some (.int a5), some (.long ((((Int32.toInt64 a0) - 96) <<< (Int32.toInt64 5 &&& 63)) ||| (Int32.toInt64 (a1 - 96)))), none]) (st' := []) (h' := h) 1 (fun n => if_pos hc) ?_
    exact hw
  · rw [if_neg hc] at hw
    refine zT_st (pc' := 20) (L' := [some (.int a0), some (.int a1), some (.int a2), some (.int a3), some (.int a4), some (.int a5), some (.long ((((Int32.toInt64 a0) - 96) <<< (Int32.toInt64 5 &&& 63)) ||| (Int32.toInt64 (a1 - 96)))), none]) (st' := []) (h' := h) 1 (fun n => if_neg hc) ?_
    exact zT_st 9 (fun n => rfl) hw
set_option maxRecDepth 4000 in
theorem s_m_spelled_32 (E : zX) (d : Nat) (j0 : Option Value) (j1 : Option Value) (j2 : Option Value) (a3 : Int32) (a4 : Int32) (a5 : Int32) (a6 : Int64) (j7 : Option Value) (h : zH) (r : zO × zH)
    (hw : if a3 = 0 then (
      zT E d m_m_spelled 48 [j0, j1, j2, some (.int a3), some (.int a4), some (.int a5), some (.long a6), j7] [] h r)
    else (
      zT E d m_m_spelled 48 [j0, j1, j2, some (.int a3), some (.int a4), some (.int a5), some (.long ((a6 <<< (Int32.toInt64 5 &&& 63)) ||| (Int32.toInt64 (a3 - 96)))), none] [] h r)) :
    zT E d m_m_spelled 32 [j0, j1, j2, some (.int a3), some (.int a4), some (.int a5), some (.long a6), j7] [] h r := by
  refine zT_st (pc' := 33) (L' := [j0, j1, j2, some (.int a3), some (.int a4), some (.int a5), some (.long a6), j7]) (st' := [.int a3]) (h' := h) 1 (fun n => rfl) ?_
  by_cases hc : a3 = 0
  · rw [if_pos hc] at hw
    refine zT_st (pc' := 48) (L' := [j0, j1, j2, some (.int a3), some (.int a4), some (.int a5), some (.long a6), j7]) (st' := []) (h' := h) 1 (fun n => if_pos hc) ?_
    exact hw
  · rw [if_neg hc] at hw
    refine zT_st (pc' := 36) (L' := [j0, j1, j2, some (.int a3), some (.int a4), some (.int a5), some (.long a6), j7]) (st' := []) (h' := h) 1 (fun n => if_neg hc) ?_
    exact zT_st 9 (fun n => rfl) hw
set_option maxRecDepth 4000 in
theorem s_m_spelled_48 (E : zX) (d : Nat) (j0 : Option Value) (j1 : Option Value) (j2 : Option Value) (j3 : Option Value) (a4 : Int32) (a5 : Int32) (a6 : Int64) (j7 : Option Value) (h : zH) (r : zO × zH)
    (hw : if a4 = 0 then (
      zT E d m_m_spelled 66 [j0, j1, j2, j3, some (.int a4), some (.int a5), some (.long a6), j7] [] h r)
    else (
      zT E d m_m_spelled 66 [j0, j1, j2, j3, some (.int a4), some (.int a5), some (.long ((a6 <<< (Int32.toInt64 5 &&& 63)) ||| (Int32.toInt64 (a4 - 96)))), none] [] h r)) :
    zT E d m_m_spelled 48 [j0, j1, j2, j3, some (.int a4), some (.int a5), some (.long a6), j7] [] h r := by
  refine zT_st (pc' := 50) (L' := [j0, j1, j2, j3, some (.int a4), some (.int a5), some (.long a6), j7]) (st' := [.int a4]) (h' := h) 1 (fun n => rfl) ?_
  by_cases hc : a4 = 0
  · rw [if_pos hc] at hw
    refine zT_st (pc' := 66) (L' := [j0, j1, j2, j3, some (.int a4), some (.int a5), some (.long a6), j7]) (st' := []) (h' := h) 1 (fun n => if_pos hc) ?_
    exact hw
  · rw [if_neg hc] at hw
    refine zT_st (pc' := 53) (L' := [j0, j1, j2, j3, some (.int a4), some (.int a5), some (.long a6), j7]) (st' := []) (h' := h) 1 (fun n => if_neg hc) ?_
    exact zT_st 9 (fun n => rfl) hw
set_option maxRecDepth 4000 in
theorem s_m_spelled_66 (E : zX) (d : Nat) (j0 : Option Value) (j1 : Option Value) (j2 : Option Value) (j3 : Option Value) (j4 : Option Value) (a5 : Int32) (a6 : Int64) (j7 : Option Value) (h : zH) (r : zO × zH)
    (hw : if a5 = 0 then (
      r = (.inl (some (.long a6)), h))
    else (
      r = (.inl (some (.long ((a6 <<< (Int32.toInt64 5 &&& 63)) ||| (Int32.toInt64 (a5 - 96))))), h))) :
    zT E d m_m_spelled 66 [j0, j1, j2, j3, j4, some (.int a5), some (.long a6), j7] [] h r := by
  refine zT_st (pc' := 68) (L' := [j0, j1, j2, j3, j4, some (.int a5), some (.long a6), j7]) (st' := [.int a5]) (h' := h) 1 (fun n => rfl) ?_
  by_cases hc : a5 = 0
  · rw [if_pos hc] at hw
    refine zT_st (pc' := 84) (L' := [j0, j1, j2, j3, j4, some (.int a5), some (.long a6), j7]) (st' := []) (h' := h) 1 (fun n => if_pos hc) ?_
    subst hw
    exact zT_ret 2 rfl
  · rw [if_neg hc] at hw
    refine zT_st (pc' := 71) (L' := [j0, j1, j2, j3, j4, some (.int a5), some (.long a6), j7]) (st' := []) (h' := h) 1 (fun n => if_neg hc) ?_
    subst hw
    exact zT_ret 11 rfl
set_option maxRecDepth 4000 in
theorem s_m_number_0 (E : zX) (d : Nat) (a0 : Nat) (a1 : Int32) (a2 : Int32) (h : zH) (r : zO × zH)
    (hw : isO h a0 12 = true ∧ ∃ (x1 : Int32) (h2 : zH), zT E d m_m_isGood 0 [some (.ref a0)] [] h (.inl (some (.int x1)), h2) ∧
    if x1 = 0 then (
      r = (.inl (some (.int 0)), h2))
    else (
      ∃ x3 : Int32, fld h2 a0 12 17 = some (.int x3) ∧
      if x3 = 2 then (
        ∃ x4 : Int32, fld h2 a0 12 19 = some (.int x4) ∧
        if 4 < x4 then (
          isO h2 a0 12 = true ∧ ∃ (h6 : zH), zT E d m_m_wrong 0 [some (.ref a0), some (.int 2)] [] h2 (.inl none, h6) ∧
          zT E (d + 1) m_m_number 54 [some (.ref a0), some (.int a1), some (.int a2), none] [] h6 r)
        else (
          ∃ x7 : Int32, fld h2 a0 12 20 = some (.int x7) ∧
          if x7 < a1 then (
            isO h2 a0 12 = true ∧ ∃ (h9 : zH), zT E d m_m_wrong 0 [some (.ref a0), some (.int 2)] [] h2 (.inl none, h9) ∧
            zT E (d + 1) m_m_number 54 [some (.ref a0), some (.int a1), some (.int a2), none] [] h9 r)
          else (
            ∃ x10 : Int32, fld h2 a0 12 20 = some (.int x10) ∧
            if x10 ≤ a2 then (
              zT E (d + 1) m_m_number 54 [some (.ref a0), some (.int a1), some (.int a2), none] [] h2 r)
            else (
              isO h2 a0 12 = true ∧ ∃ (h12 : zH), zT E d m_m_wrong 0 [some (.ref a0), some (.int 2)] [] h2 (.inl none, h12) ∧
              zT E (d + 1) m_m_number 54 [some (.ref a0), some (.int a1), some (.int a2), none] [] h12 r))))
      else (
        isO h2 a0 12 = true ∧ ∃ (h14 : zH), zT E d m_m_wrong 0 [some (.ref a0), some (.int 1)] [] h2 (.inl none, h14) ∧
        zT E (d + 1) m_m_number 54 [some (.ref a0), some (.int a1), some (.int a2), none] [] h14 r))) :
    zT E (d + 1) m_m_number 0 [some (.ref a0), some (.int a1), some (.int a2), none] [] h r := by
  refine zT_st (pc' := 1) (L' := [some (.ref a0), some (.int a1), some (.int a2), none]) (st' := [.ref a0]) (h' := h) 1 (fun n => rfl) ?_
  obtain ⟨hq, hw⟩ := hw
  obtain ⟨x1, h2, hx, hw⟩ := hw
  refine zT_call (pc' := 4) (rest := []) 1 (fun n => rfl) hq hx ?_
  show zT E (d + 1) m_m_number 4 [some (.ref a0), some (.int a1), some (.int a2), none] [.int x1] h2 r
  by_cases hc : x1 = 0
  · rw [if_pos hc] at hw
    refine zT_st (pc' := 7) (L' := [some (.ref a0), some (.int a1), some (.int a2), none]) (st' := []) (h' := h2) 1 (fun n => if_pos hc) ?_
    subst hw
    exact zT_ret 2 rfl
  · rw [if_neg hc] at hw
    refine zT_st (pc' := 9) (L' := [some (.ref a0), some (.int a1), some (.int a2), none]) (st' := []) (h' := h2) 1 (fun n => if_neg hc) ?_
    refine zT_st (pc' := 10) (L' := [some (.ref a0), some (.int a1), some (.int a2), none]) (st' := [.ref a0]) (h' := h2) 1 (fun n => rfl) ?_
    obtain ⟨x3, e, hw⟩ := hw
    refine zT_st (pc' := 13) (L' := [some (.ref a0), some (.int a1), some (.int a2), none]) (st' := [.int x3]) (h' := h2) 1 (fun n => fld_eq (E := E) e _) ?_
    refine zT_st (pc' := 14) (L' := [some (.ref a0), some (.int a1), some (.int a2), none]) (st' := [.int 2, .int x3]) (h' := h2) 1 (fun n => rfl) ?_
    by_cases hc : x3 = 2
    · rw [if_pos hc] at hw
      refine zT_st (pc' := 25) (L' := [some (.ref a0), some (.int a1), some (.int a2), none]) (st' := []) (h' := h2) 1 (fun n => if_pos hc) ?_
      refine zT_st (pc' := 26) (L' := [some (.ref a0), some (.int a1), some (.int a2), none]) (st' := [.ref a0]) (h' := h2) 1 (fun n => rfl) ?_
      obtain ⟨x4, e, hw⟩ := hw
      refine zT_st (pc' := 29) (L' := [some (.ref a0), some (.int a1), some (.int a2), none]) (st' := [.int x4]) (h' := h2) 1 (fun n => fld_eq (E := E) e _) ?_
      refine zT_st (pc' := 30) (L' := [some (.ref a0), some (.int a1), some (.int a2), none]) (st' := [.int 4, .int x4]) (h' := h2) 1 (fun n => rfl) ?_
      by_cases hc : 4 < x4
      · rw [if_pos hc] at hw
        refine zT_st (pc' := 49) (L' := [some (.ref a0), some (.int a1), some (.int a2), none]) (st' := []) (h' := h2) 1 (fun n => if_pos hc) ?_
        refine zT_st (pc' := 51) (L' := [some (.ref a0), some (.int a1), some (.int a2), none]) (st' := [.int 2, .ref a0]) (h' := h2) 2 (fun n => rfl) ?_
        obtain ⟨hq, hw⟩ := hw
        obtain ⟨h6, hx, hw⟩ := hw
        refine zT_call (pc' := 54) (rest := []) 1 (fun n => rfl) hq hx ?_
        show zT E (d + 1) m_m_number 54 [some (.ref a0), some (.int a1), some (.int a2), none] [] h6 r
        exact hw
      · rw [if_neg hc] at hw
        refine zT_st (pc' := 33) (L' := [some (.ref a0), some (.int a1), some (.int a2), none]) (st' := []) (h' := h2) 1 (fun n => if_neg hc) ?_
        refine zT_st (pc' := 34) (L' := [some (.ref a0), some (.int a1), some (.int a2), none]) (st' := [.ref a0]) (h' := h2) 1 (fun n => rfl) ?_
        obtain ⟨x7, e, hw⟩ := hw
        refine zT_st (pc' := 37) (L' := [some (.ref a0), some (.int a1), some (.int a2), none]) (st' := [.int x7]) (h' := h2) 1 (fun n => fld_eq (E := E) e _) ?_
        refine zT_st (pc' := 38) (L' := [some (.ref a0), some (.int a1), some (.int a2), none]) (st' := [.int a1, .int x7]) (h' := h2) 1 (fun n => rfl) ?_
        by_cases hc : x7 < a1
        · rw [if_pos hc] at hw
          refine zT_st (pc' := 49) (L' := [some (.ref a0), some (.int a1), some (.int a2), none]) (st' := []) (h' := h2) 1 (fun n => if_pos hc) ?_
          refine zT_st (pc' := 51) (L' := [some (.ref a0), some (.int a1), some (.int a2), none]) (st' := [.int 2, .ref a0]) (h' := h2) 2 (fun n => rfl) ?_
          obtain ⟨hq, hw⟩ := hw
          obtain ⟨h9, hx, hw⟩ := hw
          refine zT_call (pc' := 54) (rest := []) 1 (fun n => rfl) hq hx ?_
          show zT E (d + 1) m_m_number 54 [some (.ref a0), some (.int a1), some (.int a2), none] [] h9 r
          exact hw
        · rw [if_neg hc] at hw
          refine zT_st (pc' := 41) (L' := [some (.ref a0), some (.int a1), some (.int a2), none]) (st' := []) (h' := h2) 1 (fun n => if_neg hc) ?_
          refine zT_st (pc' := 42) (L' := [some (.ref a0), some (.int a1), some (.int a2), none]) (st' := [.ref a0]) (h' := h2) 1 (fun n => rfl) ?_
          obtain ⟨x10, e, hw⟩ := hw
          refine zT_st (pc' := 45) (L' := [some (.ref a0), some (.int a1), some (.int a2), none]) (st' := [.int x10]) (h' := h2) 1 (fun n => fld_eq (E := E) e _) ?_
          refine zT_st (pc' := 46) (L' := [some (.ref a0), some (.int a1), some (.int a2), none]) (st' := [.int a2, .int x10]) (h' := h2) 1 (fun n => rfl) ?_
          by_cases hc : x10 ≤ a2
          · rw [if_pos hc] at hw
            refine zT_st (pc' := 54) (L' := [some (.ref a0), some (.int a1), some (.int a2), none]) (st' := []) (h' := h2) 1 (fun n => if_pos hc) ?_
            exact hw
          · rw [if_neg hc] at hw
            refine zT_st (pc' := 49) (L' := [some (.ref a0), some (.int a1), some (.int a2), none]) (st' := []) (h' := h2) 1 (fun n => if_neg hc) ?_
            refine zT_st (pc' := 51) (L' := [some (.ref a0), some (.int a1), some (.int a2), none]) (st' := [.int 2, .ref a0]) (h' := h2) 2 (fun n => rfl) ?_
            obtain ⟨hq, hw⟩ := hw
            obtain ⟨h12, hx, hw⟩ := hw
            refine zT_call (pc' := 54) (rest := []) 1 (fun n => rfl) hq hx ?_
            show zT E (d + 1) m_m_number 54 [some (.ref a0), some (.int a1), some (.int a2), none] [] h12 r
            exact hw
    · rw [if_neg hc] at hw
      refine zT_st (pc' := 17) (L' := [some (.ref a0), some (.int a1), some (.int a2), none]) (st' := []) (h' := h2) 1 (fun n => if_neg hc) ?_
      refine zT_st (pc' := 19) (L' := [some (.ref a0), some (.int a1), some (.int a2), none]) (st' := [.int 1, .ref a0]) (h' := h2) 2 (fun n => rfl) ?_
      obtain ⟨hq, hw⟩ := hw
      obtain ⟨h14, hx, hw⟩ := hw
      refine zT_call (pc' := 22) (rest := []) 1 (fun n => rfl) hq hx ?_
      show zT E (d + 1) m_m_number 22 [some (.ref a0), some (.int a1), some (.int a2), none] [] h14 r
      exact zT_st 1 (fun n => rfl) hw
set_option maxRecDepth 4000 in
theorem s_m_number_54 (E : zX) (d : Nat) (a0 : Nat) (j1 : Option Value) (j2 : Option Value) (j3 : Option Value) (h : zH) (r : zO × zH)
    (hw : ∃ x1 : Int32, fld h a0 12 20 = some (.int x1) ∧
    isO h a0 12 = true ∧ ∃ (x2 : Int32) (h3 : zH), zT E d m_m_isGood 0 [some (.ref a0)] [] h (.inl (some (.int x2)), h3) ∧
    if x2 = 0 then (
      r = (.inl (some (.int x1)), h3))
    else (
      isO h3 a0 12 = true ∧ ∃ (h5 : zH), zT E d m_m_goes 0 [some (.ref a0), none] [] h3 (.inl none, h5) ∧
      r = (.inl (some (.int x1)), h5))) :
    zT E (d + 1) m_m_number 54 [some (.ref a0), j1, j2, j3] [] h r := by
  refine zT_st (pc' := 55) (L' := [some (.ref a0), j1, j2, j3]) (st' := [.ref a0]) (h' := h) 1 (fun n => rfl) ?_
  obtain ⟨x1, e, hw⟩ := hw
  refine zT_st (pc' := 58) (L' := [some (.ref a0), j1, j2, j3]) (st' := [.int x1]) (h' := h) 1 (fun n => fld_eq (E := E) e _) ?_
  refine zT_st (pc' := 60) (L' := [some (.ref a0), j1, j2, some (.int x1)]) (st' := [.ref a0]) (h' := h) 2 (fun n => rfl) ?_
  obtain ⟨hq, hw⟩ := hw
  obtain ⟨x2, h3, hx, hw⟩ := hw
  refine zT_call (pc' := 63) (rest := []) 1 (fun n => rfl) hq hx ?_
  show zT E (d + 1) m_m_number 63 [some (.ref a0), j1, j2, some (.int x1)] [.int x2] h3 r
  by_cases hc : x2 = 0
  · rw [if_pos hc] at hw
    refine zT_st (pc' := 70) (L' := [some (.ref a0), j1, j2, some (.int x1)]) (st' := []) (h' := h3) 1 (fun n => if_pos hc) ?_
    subst hw
    exact zT_ret 2 rfl
  · rw [if_neg hc] at hw
    refine zT_st (pc' := 66) (L' := [some (.ref a0), j1, j2, some (.int x1)]) (st' := []) (h' := h3) 1 (fun n => if_neg hc) ?_
    refine zT_st (pc' := 67) (L' := [some (.ref a0), j1, j2, some (.int x1)]) (st' := [.ref a0]) (h' := h3) 1 (fun n => rfl) ?_
    obtain ⟨hq, hw⟩ := hw
    obtain ⟨h5, hx, hw⟩ := hw
    refine zT_call (pc' := 70) (rest := []) 1 (fun n => rfl) hq hx ?_
    show zT E (d + 1) m_m_number 70 [some (.ref a0), j1, j2, some (.int x1)] [] h5 r
    subst hw
    exact zT_ret 2 rfl
set_option maxRecDepth 4000 in
theorem s_m_wrong_0 (E : zX) (d : Nat) (a0 : Nat) (a1 : Int32) (h : zH) (r : zO × zH)
    (hw : ∃ x1 : Int32, fld h a0 12 12 = some (.int x1) ∧
    if x1 = 0 then (
      (∃ w, fld h a0 12 12 = some w) ∧
      ∃ x2 : Int32, fld (setF h a0 12 (.int a1)) a0 12 18 = some (.int x2) ∧
      (∃ w, fld (setF h a0 12 (.int a1)) a0 12 13 = some w) ∧
      r = (.inl (none), (setF (setF h a0 12 (.int a1)) a0 13 (.int x2))))
    else (
      r = (.inl (none), h))) :
    zT E d m_m_wrong 0 [some (.ref a0), some (.int a1)] [] h r := by
  refine zT_st (pc' := 1) (L' := [some (.ref a0), some (.int a1)]) (st' := [.ref a0]) (h' := h) 1 (fun n => rfl) ?_
  obtain ⟨x1, e, hw⟩ := hw
  refine zT_st (pc' := 4) (L' := [some (.ref a0), some (.int a1)]) (st' := [.int x1]) (h' := h) 1 (fun n => fld_eq (E := E) e _) ?_
  by_cases hc : x1 = 0
  · rw [if_pos hc] at hw
    refine zT_st (pc' := 8) (L' := [some (.ref a0), some (.int a1)]) (st' := []) (h' := h) 1 (fun n => if_pos hc) ?_
    refine zT_st (pc' := 10) (L' := [some (.ref a0), some (.int a1)]) (st' := [.int a1, .ref a0]) (h' := h) 2 (fun n => rfl) ?_
    obtain ⟨⟨w, e⟩, hw⟩ := hw
    refine zT_st (pc' := 13) (L' := [some (.ref a0), some (.int a1)]) (st' := []) (h' := (setF h a0 12 (.int a1))) 1 (fun n => put_eq e rfl _ _) ?_
    refine zT_st (pc' := 15) (L' := [some (.ref a0), some (.int a1)]) (st' := [.ref a0, .ref a0]) (h' := (setF h a0 12 (.int a1))) 2 (fun n => rfl) ?_
    obtain ⟨x2, e, hw⟩ := hw
    refine zT_st (pc' := 18) (L' := [some (.ref a0), some (.int a1)]) (st' := [.int x2, .ref a0]) (h' := (setF h a0 12 (.int a1))) 1 (fun n => fld_eq (E := E) e _) ?_
    obtain ⟨⟨w, e⟩, hw⟩ := hw
    refine zT_st (pc' := 21) (L' := [some (.ref a0), some (.int a1)]) (st' := []) (h' := (setF (setF h a0 12 (.int a1)) a0 13 (.int x2))) 1 (fun n => put_eq e rfl _ _) ?_
    subst hw
    exact zT_ret 1 rfl
  · rw [if_neg hc] at hw
    refine zT_st (pc' := 7) (L' := [some (.ref a0), some (.int a1)]) (st' := []) (h' := h) 1 (fun n => if_neg hc) ?_
    subst hw
    exact zT_ret 1 rfl
set_option maxRecDepth 4000 in
theorem s_m_need_0 (E : zX) (d : Nat) (a0 : Nat) (a1 : Int32) (h : zH) (r : zO × zH)
    (hw : isO h a0 12 = true ∧ ∃ (x1 : Int32) (h2 : zH), zT E d m_m_isGood 0 [some (.ref a0)] [] h (.inl (some (.int x1)), h2) ∧
    if x1 = 0 then (
      r = (.inl (none), h2))
    else (
      if a1 = 0 then (
        isO h2 a0 12 = true ∧ ∃ (h4 : zH), zT E d m_m_wrong 0 [some (.ref a0), some (.int 1)] [] h2 (.inl none, h4) ∧
        r = (.inl (none), h4))
      else (
        isO h2 a0 12 = true ∧ ∃ (h6 : zH), zT E d m_m_goes 0 [some (.ref a0), none] [] h2 (.inl none, h6) ∧
        r = (.inl (none), h6)))) :
    zT E (d + 1) m_m_need 0 [some (.ref a0), some (.int a1)] [] h r := by
  refine zT_st (pc' := 1) (L' := [some (.ref a0), some (.int a1)]) (st' := [.ref a0]) (h' := h) 1 (fun n => rfl) ?_
  obtain ⟨hq, hw⟩ := hw
  obtain ⟨x1, h2, hx, hw⟩ := hw
  refine zT_call (pc' := 4) (rest := []) 1 (fun n => rfl) hq hx ?_
  show zT E (d + 1) m_m_need 4 [some (.ref a0), some (.int a1)] [.int x1] h2 r
  by_cases hc : x1 = 0
  · rw [if_pos hc] at hw
    refine zT_st (pc' := 7) (L' := [some (.ref a0), some (.int a1)]) (st' := []) (h' := h2) 1 (fun n => if_pos hc) ?_
    subst hw
    exact zT_ret 1 rfl
  · rw [if_neg hc] at hw
    refine zT_st (pc' := 8) (L' := [some (.ref a0), some (.int a1)]) (st' := []) (h' := h2) 1 (fun n => if_neg hc) ?_
    refine zT_st (pc' := 9) (L' := [some (.ref a0), some (.int a1)]) (st' := [.int a1]) (h' := h2) 1 (fun n => rfl) ?_
    by_cases hc : a1 = 0
    · rw [if_pos hc] at hw
      refine zT_st (pc' := 19) (L' := [some (.ref a0), some (.int a1)]) (st' := []) (h' := h2) 1 (fun n => if_pos hc) ?_
      refine zT_st (pc' := 21) (L' := [some (.ref a0), some (.int a1)]) (st' := [.int 1, .ref a0]) (h' := h2) 2 (fun n => rfl) ?_
      obtain ⟨hq, hw⟩ := hw
      obtain ⟨h4, hx, hw⟩ := hw
      refine zT_call (pc' := 24) (rest := []) 1 (fun n => rfl) hq hx ?_
      show zT E (d + 1) m_m_need 24 [some (.ref a0), some (.int a1)] [] h4 r
      subst hw
      exact zT_ret 1 rfl
    · rw [if_neg hc] at hw
      refine zT_st (pc' := 12) (L' := [some (.ref a0), some (.int a1)]) (st' := []) (h' := h2) 1 (fun n => if_neg hc) ?_
      refine zT_st (pc' := 13) (L' := [some (.ref a0), some (.int a1)]) (st' := [.ref a0]) (h' := h2) 1 (fun n => rfl) ?_
      obtain ⟨hq, hw⟩ := hw
      obtain ⟨h6, hx, hw⟩ := hw
      refine zT_call (pc' := 16) (rest := []) 1 (fun n => rfl) hq hx ?_
      show zT E (d + 1) m_m_need 16 [some (.ref a0), some (.int a1)] [] h6 r
      subst hw
      exact zT_ret 2 rfl
set_option maxRecDepth 4000 in
theorem s_m_readsPerson_0 (E : zX) (d : Nat) (a0 : Nat) (h : zH) (r : zO × zH)
    (hw : ∃ x1 : Int32, fld h a0 12 25 = some (.int x1) ∧
    ∃ o2 : Nat, fld h a0 12 34 = some (.ref o2) ∧
    isO h a0 12 = true ∧ ∃ (x3 : Int32) (h4 : zH), zT E d m_m_cellHere 0 [some (.ref a0), none] [] h (.inl (some (.int x3)), h4) ∧
    ∃ (n5 : Nat) (f6 : Nat → Int32), arr h4 o2 = some (n5, f6) ∧ ¬ (x1 < 0 ∨ n5 ≤ (x1).toNatClampNeg) ∧
    ∃ o7 : Nat, fld (setA h4 o2 n5 (upd f6 (x1).toNatClampNeg x3)) a0 12 36 = some (.ref o7) ∧
    isO (setA h4 o2 n5 (upd f6 (x1).toNatClampNeg x3)) a0 12 = true ∧ ∃ (x8 : Int32) (h9 : zH), zT E d m_m_number 0 [some (.ref a0), some (.int 0), some (.int 9), none] [] (setA h4 o2 n5 (upd f6 (x1).toNatClampNeg x3)) (.inl (some (.int x8)), h9) ∧
    ∃ (n10 : Nat) (f11 : Nat → Int32), arr h9 o7 = some (n10, f11) ∧ ¬ ((22 + x1) < 0 ∨ n10 ≤ ((22 + x1)).toNatClampNeg) ∧
    ∃ o12 : Nat, fld (setA h9 o7 n10 (upd f11 ((22 + x1)).toNatClampNeg x8)) a0 12 36 = some (.ref o12) ∧
    isO (setA h9 o7 n10 (upd f11 ((22 + x1)).toNatClampNeg x8)) a0 12 = true ∧ ∃ (x13 : Int32) (h14 : zH), zT E d m_m_number 0 [some (.ref a0), some (.int 0), some (.int 99), none] [] (setA h9 o7 n10 (upd f11 ((22 + x1)).toNatClampNeg x8)) (.inl (some (.int x13)), h14) ∧
    ∃ (n15 : Nat) (f16 : Nat → Int32), arr h14 o12 = some (n15, f16) ∧ ¬ ((1 + x1) < 0 ∨ n15 ≤ ((1 + x1)).toNatClampNeg) ∧
    isO (setA h14 o12 n15 (upd f16 ((1 + x1)).toNatClampNeg x13)) a0 12 = true ∧ ∃ (x17 : Int32) (h18 : zH), zT E d m_m_isGood 0 [some (.ref a0)] [] (setA h14 o12 n15 (upd f16 ((1 + x1)).toNatClampNeg x13)) (.inl (some (.int x17)), h18) ∧
    if x17 = 0 then (
      r = (.inl (none), h18))
    else (
      ∃ x19 : Int32, fld h18 a0 12 25 = some (.int x19) ∧
      (∃ w, fld h18 a0 12 25 = some w) ∧
      r = (.inl (none), (setF h18 a0 25 (.int (x19 + 1)))))) :
    zT E (d + 1) m_m_readsPerson 0 [some (.ref a0), none] [] h r := by
  refine zT_st (pc' := 1) (L' := [some (.ref a0), none]) (st' := [.ref a0]) (h' := h) 1 (fun n => rfl) ?_
  obtain ⟨x1, e, hw⟩ := hw
  refine zT_st (pc' := 4) (L' := [some (.ref a0), none]) (st' := [.int x1]) (h' := h) 1 (fun n => fld_eq (E := E) e _) ?_
  refine zT_st (pc' := 6) (L' := [some (.ref a0), some (.int x1)]) (st' := [.ref a0]) (h' := h) 2 (fun n => rfl) ?_
  obtain ⟨o2, e, hw⟩ := hw
  refine zT_st (pc' := 9) (L' := [some (.ref a0), some (.int x1)]) (st' := [.ref o2]) (h' := h) 1 (fun n => fld_eq (E := E) e _) ?_
  refine zT_st (pc' := 11) (L' := [some (.ref a0), some (.int x1)]) (st' := [.ref a0, .int x1, .ref o2]) (h' := h) 2 (fun n => rfl) ?_
  obtain ⟨hq, hw⟩ := hw
  obtain ⟨x3, h4, hx, hw⟩ := hw
  refine zT_call (pc' := 14) (rest := [.int x1, .ref o2]) 1 (fun n => rfl) hq hx ?_
  show zT E (d + 1) m_m_readsPerson 14 [some (.ref a0), some (.int x1)] [.int x3, .int x1, .ref o2] h4 r
  obtain ⟨n5, f6, e, hi, hw⟩ := hw
  refine zT_st (pc' := 15) (L' := [some (.ref a0), some (.int x1)]) (st' := []) (h' := (setA h4 o2 n5 (upd f6 (x1).toNatClampNeg x3))) 1 (fun n => set_eq e hi _ _) ?_
  refine zT_st (pc' := 16) (L' := [some (.ref a0), some (.int x1)]) (st' := [.ref a0]) (h' := (setA h4 o2 n5 (upd f6 (x1).toNatClampNeg x3))) 1 (fun n => rfl) ?_
  obtain ⟨o7, e, hw⟩ := hw
  refine zT_st (pc' := 19) (L' := [some (.ref a0), some (.int x1)]) (st' := [.ref o7]) (h' := (setA h4 o2 n5 (upd f6 (x1).toNatClampNeg x3))) 1 (fun n => fld_eq (E := E) e _) ?_
  refine zT_st (pc' := 27) (L' := [some (.ref a0), some (.int x1)]) (st' := [.int 9, .int 0, .ref a0, .int (22 + x1), .ref o7]) (h' := (setA h4 o2 n5 (upd f6 (x1).toNatClampNeg x3))) 6 (fun n => rfl) ?_
  obtain ⟨hq, hw⟩ := hw
  obtain ⟨x8, h9, hx, hw⟩ := hw
  refine zT_call (pc' := 30) (rest := [.int (22 + x1), .ref o7]) 1 (fun n => rfl) hq hx ?_
  show zT E (d + 1) m_m_readsPerson 30 [some (.ref a0), some (.int x1)] [.int x8, .int (22 + x1), .ref o7] h9 r
  obtain ⟨n10, f11, e, hi, hw⟩ := hw
  refine zT_st (pc' := 31) (L' := [some (.ref a0), some (.int x1)]) (st' := []) (h' := (setA h9 o7 n10 (upd f11 ((22 + x1)).toNatClampNeg x8))) 1 (fun n => set_eq e hi _ _) ?_
  refine zT_st (pc' := 32) (L' := [some (.ref a0), some (.int x1)]) (st' := [.ref a0]) (h' := (setA h9 o7 n10 (upd f11 ((22 + x1)).toNatClampNeg x8))) 1 (fun n => rfl) ?_
  obtain ⟨o12, e, hw⟩ := hw
  refine zT_st (pc' := 35) (L' := [some (.ref a0), some (.int x1)]) (st' := [.ref o12]) (h' := (setA h9 o7 n10 (upd f11 ((22 + x1)).toNatClampNeg x8))) 1 (fun n => fld_eq (E := E) e _) ?_
  refine zT_st (pc' := 42) (L' := [some (.ref a0), some (.int x1)]) (st' := [.int 99, .int 0, .ref a0, .int (1 + x1), .ref o12]) (h' := (setA h9 o7 n10 (upd f11 ((22 + x1)).toNatClampNeg x8))) 6 (fun n => rfl) ?_
  obtain ⟨hq, hw⟩ := hw
  obtain ⟨x13, h14, hx, hw⟩ := hw
  refine zT_call (pc' := 45) (rest := [.int (1 + x1), .ref o12]) 1 (fun n => rfl) hq hx ?_
  show zT E (d + 1) m_m_readsPerson 45 [some (.ref a0), some (.int x1)] [.int x13, .int (1 + x1), .ref o12] h14 r
  obtain ⟨n15, f16, e, hi, hw⟩ := hw
  refine zT_st (pc' := 46) (L' := [some (.ref a0), some (.int x1)]) (st' := []) (h' := (setA h14 o12 n15 (upd f16 ((1 + x1)).toNatClampNeg x13))) 1 (fun n => set_eq e hi _ _) ?_
  refine zT_st (pc' := 47) (L' := [some (.ref a0), some (.int x1)]) (st' := [.ref a0]) (h' := (setA h14 o12 n15 (upd f16 ((1 + x1)).toNatClampNeg x13))) 1 (fun n => rfl) ?_
  obtain ⟨hq, hw⟩ := hw
  obtain ⟨x17, h18, hx, hw⟩ := hw
  refine zT_call (pc' := 50) (rest := []) 1 (fun n => rfl) hq hx ?_
  show zT E (d + 1) m_m_readsPerson 50 [some (.ref a0), some (.int x1)] [.int x17] h18 r
  by_cases hc : x17 = 0
  · rw [if_pos hc] at hw
    refine zT_st (pc' := 63) (L' := [some (.ref a0), some (.int x1)]) (st' := []) (h' := h18) 1 (fun n => if_pos hc) ?_
    subst hw
    exact zT_ret 1 rfl
  · rw [if_neg hc] at hw
    refine zT_st (pc' := 53) (L' := [some (.ref a0), some (.int x1)]) (st' := []) (h' := h18) 1 (fun n => if_neg hc) ?_
    refine zT_st (pc' := 55) (L' := [some (.ref a0), some (.int x1)]) (st' := [.ref a0, .ref a0]) (h' := h18) 2 (fun n => rfl) ?_
    obtain ⟨x19, e, hw⟩ := hw
    refine zT_st (pc' := 58) (L' := [some (.ref a0), some (.int x1)]) (st' := [.int x19, .ref a0]) (h' := h18) 1 (fun n => fld_eq (E := E) e _) ?_
    refine zT_st (pc' := 60) (L' := [some (.ref a0), some (.int x1)]) (st' := [.int (x19 + 1), .ref a0]) (h' := h18) 2 (fun n => rfl) ?_
    obtain ⟨⟨w, e⟩, hw⟩ := hw
    refine zT_st (pc' := 63) (L' := [some (.ref a0), some (.int x1)]) (st' := []) (h' := (setF h18 a0 25 (.int (x19 + 1)))) 1 (fun n => put_eq e rfl _ _) ?_
    subst hw
    exact zT_ret 1 rfl
set_option maxRecDepth 4000 in
theorem s_m_readsBall_0 (E : zX) (d : Nat) (a0 : Nat) (h : zH) (r : zO × zH)
    (hw : ∃ x1 : Int32, fld h a0 12 26 = some (.int x1) ∧
    ∃ o2 : Nat, fld h a0 12 36 = some (.ref o2) ∧
    isO h a0 12 = true ∧ ∃ (x3 : Int32) (h4 : zH), zT E d m_m_cellHere 0 [some (.ref a0), none] [] h (.inl (some (.int x3)), h4) ∧
    ∃ (n5 : Nat) (f6 : Nat → Int32), arr h4 o2 = some (n5, f6) ∧ ¬ ((29 + x1) < 0 ∨ n5 ≤ ((29 + x1)).toNatClampNeg) ∧
    ∃ o7 : Nat, fld (setA h4 o2 n5 (upd f6 ((29 + x1)).toNatClampNeg x3)) a0 12 35 = some (.ref o7) ∧
    isO (setA h4 o2 n5 (upd f6 ((29 + x1)).toNatClampNeg x3)) a0 12 = true ∧ ∃ (x8 : Int32) (h9 : zH), zT E d m_m_number 0 [some (.ref a0), some (.int 1), some (.int 99), none] [] (setA h4 o2 n5 (upd f6 ((29 + x1)).toNatClampNeg x3)) (.inl (some (.int x8)), h9) ∧
    ∃ (n10 : Nat) (f11 : Nat → Int32), arr h9 o7 = some (n10, f11) ∧ ¬ (x1 < 0 ∨ n10 ≤ (x1).toNatClampNeg) ∧
    ∃ o12 : Nat, fld (setA h9 o7 n10 (upd f11 (x1).toNatClampNeg x8)) a0 12 36 = some (.ref o12) ∧
    ∃ (n13 : Nat) (f14 : Nat → Int32), arr (setA h9 o7 n10 (upd f11 (x1).toNatClampNeg x8)) o12 = some (n13, f14) ∧ ¬ ((39 + x1) < 0 ∨ n13 ≤ ((39 + x1)).toNatClampNeg) ∧
    ∃ o15 : Nat, fld (setA (setA h9 o7 n10 (upd f11 (x1).toNatClampNeg x8)) o12 n13 (upd f14 ((39 + x1)).toNatClampNeg 0)) a0 12 36 = some (.ref o15) ∧
    ∃ (n16 : Nat) (f17 : Nat → Int32), arr (setA (setA h9 o7 n10 (upd f11 (x1).toNatClampNeg x8)) o12 n13 (upd f14 ((39 + x1)).toNatClampNeg 0)) o15 = some (n16, f17) ∧ ¬ ((59 + x1) < 0 ∨ n16 ≤ ((59 + x1)).toNatClampNeg) ∧
    isO (setA (setA (setA h9 o7 n10 (upd f11 (x1).toNatClampNeg x8)) o12 n13 (upd f14 ((39 + x1)).toNatClampNeg 0)) o15 n16 (upd f17 ((59 + x1)).toNatClampNeg (-1))) a0 12 = true ∧ ∃ (x18 : Int32) (h19 : zH), zT E d m_m_isGood 0 [some (.ref a0)] [] (setA (setA (setA h9 o7 n10 (upd f11 (x1).toNatClampNeg x8)) o12 n13 (upd f14 ((39 + x1)).toNatClampNeg 0)) o15 n16 (upd f17 ((59 + x1)).toNatClampNeg (-1))) (.inl (some (.int x18)), h19) ∧
    if x18 = 0 then (
      zT E (d + 1) m_m_readsBall 90 [some (.ref a0), some (.int x1)] [] h19 r)
    else (
      isO h19 a0 12 = true ∧ ∃ (x20 : Int32) (h21 : zH), zT E d m_m_knownWord 0 [some (.ref a0), none] [] h19 (.inl (some (.int x20)), h21) ∧
      if x20 = 5 then (
        isO h21 a0 12 = true ∧ ∃ (h23 : zH), zT E d m_m_goes 0 [some (.ref a0), none] [] h21 (.inl none, h23) ∧
        ∃ o24 : Nat, fld h23 a0 12 36 = some (.ref o24) ∧
        ∃ o25 : Nat, fld h23 a0 12 35 = some (.ref o25) ∧
        ∃ (n26 : Nat) (f27 : Nat → Int32), arr h23 o25 = some (n26, f27) ∧ ¬ (x1 < 0 ∨ n26 ≤ (x1).toNatClampNeg) ∧
        isO h23 a0 12 = true ∧ ∃ (x28 : Int32) (h29 : zH), zT E d m_m_number 0 [some (.ref a0), some (.int 1), some (.int (f27 (x1).toNatClampNeg)), none] [] h23 (.inl (some (.int x28)), h29) ∧
        ∃ (n30 : Nat) (f31 : Nat → Int32), arr h29 o24 = some (n30, f31) ∧ ¬ ((39 + x1) < 0 ∨ n30 ≤ ((39 + x1)).toNatClampNeg) ∧
        zT E (d + 1) m_m_readsBall 90 [some (.ref a0), some (.int x1)] [] (setA h29 o24 n30 (upd f31 ((39 + x1)).toNatClampNeg x28)) r)
      else (
        zT E (d + 1) m_m_readsBall 90 [some (.ref a0), some (.int x1)] [] h21 r))) :
    zT E (d + 1) m_m_readsBall 0 [some (.ref a0), none] [] h r := by
  refine zT_st (pc' := 1) (L' := [some (.ref a0), none]) (st' := [.ref a0]) (h' := h) 1 (fun n => rfl) ?_
  obtain ⟨x1, e, hw⟩ := hw
  refine zT_st (pc' := 4) (L' := [some (.ref a0), none]) (st' := [.int x1]) (h' := h) 1 (fun n => fld_eq (E := E) e _) ?_
  refine zT_st (pc' := 6) (L' := [some (.ref a0), some (.int x1)]) (st' := [.ref a0]) (h' := h) 2 (fun n => rfl) ?_
  obtain ⟨o2, e, hw⟩ := hw
  refine zT_st (pc' := 9) (L' := [some (.ref a0), some (.int x1)]) (st' := [.ref o2]) (h' := h) 1 (fun n => fld_eq (E := E) e _) ?_
  refine zT_st (pc' := 14) (L' := [some (.ref a0), some (.int x1)]) (st' := [.ref a0, .int (29 + x1), .ref o2]) (h' := h) 4 (fun n => rfl) ?_
  obtain ⟨hq, hw⟩ := hw
  obtain ⟨x3, h4, hx, hw⟩ := hw
  refine zT_call (pc' := 17) (rest := [.int (29 + x1), .ref o2]) 1 (fun n => rfl) hq hx ?_
  show zT E (d + 1) m_m_readsBall 17 [some (.ref a0), some (.int x1)] [.int x3, .int (29 + x1), .ref o2] h4 r
  obtain ⟨n5, f6, e, hi, hw⟩ := hw
  refine zT_st (pc' := 18) (L' := [some (.ref a0), some (.int x1)]) (st' := []) (h' := (setA h4 o2 n5 (upd f6 ((29 + x1)).toNatClampNeg x3))) 1 (fun n => set_eq e hi _ _) ?_
  refine zT_st (pc' := 19) (L' := [some (.ref a0), some (.int x1)]) (st' := [.ref a0]) (h' := (setA h4 o2 n5 (upd f6 ((29 + x1)).toNatClampNeg x3))) 1 (fun n => rfl) ?_
  obtain ⟨o7, e, hw⟩ := hw
  refine zT_st (pc' := 22) (L' := [some (.ref a0), some (.int x1)]) (st' := [.ref o7]) (h' := (setA h4 o2 n5 (upd f6 ((29 + x1)).toNatClampNeg x3))) 1 (fun n => fld_eq (E := E) e _) ?_
  refine zT_st (pc' := 27) (L' := [some (.ref a0), some (.int x1)]) (st' := [.int 99, .int 1, .ref a0, .int x1, .ref o7]) (h' := (setA h4 o2 n5 (upd f6 ((29 + x1)).toNatClampNeg x3))) 4 (fun n => rfl) ?_
  obtain ⟨hq, hw⟩ := hw
  obtain ⟨x8, h9, hx, hw⟩ := hw
  refine zT_call (pc' := 30) (rest := [.int x1, .ref o7]) 1 (fun n => rfl) hq hx ?_
  show zT E (d + 1) m_m_readsBall 30 [some (.ref a0), some (.int x1)] [.int x8, .int x1, .ref o7] h9 r
  obtain ⟨n10, f11, e, hi, hw⟩ := hw
  refine zT_st (pc' := 31) (L' := [some (.ref a0), some (.int x1)]) (st' := []) (h' := (setA h9 o7 n10 (upd f11 (x1).toNatClampNeg x8))) 1 (fun n => set_eq e hi _ _) ?_
  refine zT_st (pc' := 32) (L' := [some (.ref a0), some (.int x1)]) (st' := [.ref a0]) (h' := (setA h9 o7 n10 (upd f11 (x1).toNatClampNeg x8))) 1 (fun n => rfl) ?_
  obtain ⟨o12, e, hw⟩ := hw
  refine zT_st (pc' := 35) (L' := [some (.ref a0), some (.int x1)]) (st' := [.ref o12]) (h' := (setA h9 o7 n10 (upd f11 (x1).toNatClampNeg x8))) 1 (fun n => fld_eq (E := E) e _) ?_
  refine zT_st (pc' := 40) (L' := [some (.ref a0), some (.int x1)]) (st' := [.int 0, .int (39 + x1), .ref o12]) (h' := (setA h9 o7 n10 (upd f11 (x1).toNatClampNeg x8))) 4 (fun n => rfl) ?_
  obtain ⟨n13, f14, e, hi, hw⟩ := hw
  refine zT_st (pc' := 41) (L' := [some (.ref a0), some (.int x1)]) (st' := []) (h' := (setA (setA h9 o7 n10 (upd f11 (x1).toNatClampNeg x8)) o12 n13 (upd f14 ((39 + x1)).toNatClampNeg 0))) 1 (fun n => set_eq e hi _ _) ?_
  refine zT_st (pc' := 42) (L' := [some (.ref a0), some (.int x1)]) (st' := [.ref a0]) (h' := (setA (setA h9 o7 n10 (upd f11 (x1).toNatClampNeg x8)) o12 n13 (upd f14 ((39 + x1)).toNatClampNeg 0))) 1 (fun n => rfl) ?_
  obtain ⟨o15, e, hw⟩ := hw
  refine zT_st (pc' := 45) (L' := [some (.ref a0), some (.int x1)]) (st' := [.ref o15]) (h' := (setA (setA h9 o7 n10 (upd f11 (x1).toNatClampNeg x8)) o12 n13 (upd f14 ((39 + x1)).toNatClampNeg 0))) 1 (fun n => fld_eq (E := E) e _) ?_
  refine zT_st (pc' := 50) (L' := [some (.ref a0), some (.int x1)]) (st' := [.int (-1), .int (59 + x1), .ref o15]) (h' := (setA (setA h9 o7 n10 (upd f11 (x1).toNatClampNeg x8)) o12 n13 (upd f14 ((39 + x1)).toNatClampNeg 0))) 4 (fun n => rfl) ?_
  obtain ⟨n16, f17, e, hi, hw⟩ := hw
  refine zT_st (pc' := 51) (L' := [some (.ref a0), some (.int x1)]) (st' := []) (h' := (setA (setA (setA h9 o7 n10 (upd f11 (x1).toNatClampNeg x8)) o12 n13 (upd f14 ((39 + x1)).toNatClampNeg 0)) o15 n16 (upd f17 ((59 + x1)).toNatClampNeg (-1)))) 1 (fun n => set_eq e hi _ _) ?_
  refine zT_st (pc' := 52) (L' := [some (.ref a0), some (.int x1)]) (st' := [.ref a0]) (h' := (setA (setA (setA h9 o7 n10 (upd f11 (x1).toNatClampNeg x8)) o12 n13 (upd f14 ((39 + x1)).toNatClampNeg 0)) o15 n16 (upd f17 ((59 + x1)).toNatClampNeg (-1)))) 1 (fun n => rfl) ?_
  obtain ⟨hq, hw⟩ := hw
  obtain ⟨x18, h19, hx, hw⟩ := hw
  refine zT_call (pc' := 55) (rest := []) 1 (fun n => rfl) hq hx ?_
  show zT E (d + 1) m_m_readsBall 55 [some (.ref a0), some (.int x1)] [.int x18] h19 r
  by_cases hc : x18 = 0
  · rw [if_pos hc] at hw
    refine zT_st (pc' := 90) (L' := [some (.ref a0), some (.int x1)]) (st' := []) (h' := h19) 1 (fun n => if_pos hc) ?_
    exact hw
  · rw [if_neg hc] at hw
    refine zT_st (pc' := 58) (L' := [some (.ref a0), some (.int x1)]) (st' := []) (h' := h19) 1 (fun n => if_neg hc) ?_
    refine zT_st (pc' := 59) (L' := [some (.ref a0), some (.int x1)]) (st' := [.ref a0]) (h' := h19) 1 (fun n => rfl) ?_
    obtain ⟨hq, hw⟩ := hw
    obtain ⟨x20, h21, hx, hw⟩ := hw
    refine zT_call (pc' := 62) (rest := []) 1 (fun n => rfl) hq hx ?_
    show zT E (d + 1) m_m_readsBall 62 [some (.ref a0), some (.int x1)] [.int x20] h21 r
    refine zT_st (pc' := 63) (L' := [some (.ref a0), some (.int x1)]) (st' := [.int 5, .int x20]) (h' := h21) 1 (fun n => rfl) ?_
    by_cases hc : x20 = 5
    · rw [if_pos hc] at hw
      refine zT_st (pc' := 66) (L' := [some (.ref a0), some (.int x1)]) (st' := []) (h' := h21) 1 (fun n => if_pos hc) ?_
      refine zT_st (pc' := 67) (L' := [some (.ref a0), some (.int x1)]) (st' := [.ref a0]) (h' := h21) 1 (fun n => rfl) ?_
      obtain ⟨hq, hw⟩ := hw
      obtain ⟨h23, hx, hw⟩ := hw
      refine zT_call (pc' := 70) (rest := []) 1 (fun n => rfl) hq hx ?_
      show zT E (d + 1) m_m_readsBall 70 [some (.ref a0), some (.int x1)] [] h23 r
      refine zT_st (pc' := 71) (L' := [some (.ref a0), some (.int x1)]) (st' := [.ref a0]) (h' := h23) 1 (fun n => rfl) ?_
      obtain ⟨o24, e, hw⟩ := hw
      refine zT_st (pc' := 74) (L' := [some (.ref a0), some (.int x1)]) (st' := [.ref o24]) (h' := h23) 1 (fun n => fld_eq (E := E) e _) ?_
      refine zT_st (pc' := 81) (L' := [some (.ref a0), some (.int x1)]) (st' := [.ref a0, .int 1, .ref a0, .int (39 + x1), .ref o24]) (h' := h23) 6 (fun n => rfl) ?_
      obtain ⟨o25, e, hw⟩ := hw
      refine zT_st (pc' := 84) (L' := [some (.ref a0), some (.int x1)]) (st' := [.ref o25, .int 1, .ref a0, .int (39 + x1), .ref o24]) (h' := h23) 1 (fun n => fld_eq (E := E) e _) ?_
      refine zT_st (pc' := 85) (L' := [some (.ref a0), some (.int x1)]) (st' := [.int x1, .ref o25, .int 1, .ref a0, .int (39 + x1), .ref o24]) (h' := h23) 1 (fun n => rfl) ?_
      obtain ⟨n26, f27, e, hi, hw⟩ := hw
      refine zT_st (pc' := 86) (L' := [some (.ref a0), some (.int x1)]) (st' := [.int (f27 (x1).toNatClampNeg), .int 1, .ref a0, .int (39 + x1), .ref o24]) (h' := h23) 1 (fun n => arr_eq (E := E) e hi [.int 1, .ref a0, .int (39 + x1), .ref o24] (fun st => zrun zP zCd E n (d + 1) m_m_readsBall 86 [some (.ref a0), some (.int x1)] st h23)) ?_
      obtain ⟨hq, hw⟩ := hw
      obtain ⟨x28, h29, hx, hw⟩ := hw
      refine zT_call (pc' := 89) (rest := [.int (39 + x1), .ref o24]) 1 (fun n => rfl) hq hx ?_
      show zT E (d + 1) m_m_readsBall 89 [some (.ref a0), some (.int x1)] [.int x28, .int (39 + x1), .ref o24] h29 r
      obtain ⟨n30, f31, e, hi, hw⟩ := hw
      refine zT_st (pc' := 90) (L' := [some (.ref a0), some (.int x1)]) (st' := []) (h' := (setA h29 o24 n30 (upd f31 ((39 + x1)).toNatClampNeg x28))) 1 (fun n => set_eq e hi _ _) ?_
      exact hw
    · rw [if_neg hc] at hw
      refine zT_st (pc' := 90) (L' := [some (.ref a0), some (.int x1)]) (st' := []) (h' := h21) 1 (fun n => if_neg hc) ?_
      exact hw
set_option maxRecDepth 4000 in
theorem s_m_readsBall_90 (E : zX) (d : Nat) (a0 : Nat) (j1 : Option Value) (h : zH) (r : zO × zH)
    (hw : isO h a0 12 = true ∧ ∃ (x1 : Int32) (h2 : zH), zT E d m_m_isGood 0 [some (.ref a0)] [] h (.inl (some (.int x1)), h2) ∧
    if x1 = 0 then (
      r = (.inl (none), h2))
    else (
      ∃ x3 : Int32, fld h2 a0 12 26 = some (.int x3) ∧
      (∃ w, fld h2 a0 12 26 = some w) ∧
      r = (.inl (none), (setF h2 a0 26 (.int (x3 + 1)))))) :
    zT E (d + 1) m_m_readsBall 90 [some (.ref a0), j1] [] h r := by
  refine zT_st (pc' := 91) (L' := [some (.ref a0), j1]) (st' := [.ref a0]) (h' := h) 1 (fun n => rfl) ?_
  obtain ⟨hq, hw⟩ := hw
  obtain ⟨x1, h2, hx, hw⟩ := hw
  refine zT_call (pc' := 94) (rest := []) 1 (fun n => rfl) hq hx ?_
  show zT E (d + 1) m_m_readsBall 94 [some (.ref a0), j1] [.int x1] h2 r
  by_cases hc : x1 = 0
  · rw [if_pos hc] at hw
    refine zT_st (pc' := 107) (L' := [some (.ref a0), j1]) (st' := []) (h' := h2) 1 (fun n => if_pos hc) ?_
    subst hw
    exact zT_ret 1 rfl
  · rw [if_neg hc] at hw
    refine zT_st (pc' := 97) (L' := [some (.ref a0), j1]) (st' := []) (h' := h2) 1 (fun n => if_neg hc) ?_
    refine zT_st (pc' := 99) (L' := [some (.ref a0), j1]) (st' := [.ref a0, .ref a0]) (h' := h2) 2 (fun n => rfl) ?_
    obtain ⟨x3, e, hw⟩ := hw
    refine zT_st (pc' := 102) (L' := [some (.ref a0), j1]) (st' := [.int x3, .ref a0]) (h' := h2) 1 (fun n => fld_eq (E := E) e _) ?_
    refine zT_st (pc' := 104) (L' := [some (.ref a0), j1]) (st' := [.int (x3 + 1), .ref a0]) (h' := h2) 2 (fun n => rfl) ?_
    obtain ⟨⟨w, e⟩, hw⟩ := hw
    refine zT_st (pc' := 107) (L' := [some (.ref a0), j1]) (st' := []) (h' := (setF h2 a0 26 (.int (x3 + 1)))) 1 (fun n => put_eq e rfl _ _) ?_
    subst hw
    exact zT_ret 1 rfl
set_option maxRecDepth 4000 in
theorem s_m_operand_0 (E : zX) (d : Nat) (a0 : Nat) (a1 : Int32) (h : zH) (r : zO × zH)
    (hw : zT E (d + 1) m_m_operand 4 [some (.ref a0), some (.int a1), some (.int a1), some (.int 1), none] [] h r) :
    zT E (d + 1) m_m_operand 0 [some (.ref a0), some (.int a1), none, none, none] [] h r := by
  exact zT_st 4 (fun n => rfl) hw
set_option maxRecDepth 4000 in
theorem s_m_operand_4 (E : zX) (d : Nat) (a0 : Nat) (j1 : Option Value) (a2 : Int32) (a3 : Int32) (j4 : Option Value) (h : zH) (r : zO × zH)
    (hw : if a3 = 0 then (
      isO h a0 12 = true ∧ ∃ (h2 : zH), zT E d m_m_part 0 [some (.ref a0), none] [] h (.inl none, h2) ∧
      r = (.inl (none), h2))
    else (
      isO h a0 12 = true ∧ ∃ (x3 : Int32) (h4 : zH), zT E d m_m_isGood 0 [some (.ref a0)] [] h (.inl (some (.int x3)), h4) ∧
      if x3 = 0 then (
        isO h4 a0 12 = true ∧ ∃ (h6 : zH), zT E d m_m_part 0 [some (.ref a0), none] [] h4 (.inl none, h6) ∧
        r = (.inl (none), h6))
      else (
        zT E (d + 1) m_m_operand 18 [some (.ref a0), j1, some (.int a2), some (.int a3), some (.int 0)] [] h4 r))) :
    zT E (d + 1) m_m_operand 4 [some (.ref a0), j1, some (.int a2), some (.int a3), j4] [] h r := by
  refine zT_st (pc' := 5) (L' := [some (.ref a0), j1, some (.int a2), some (.int a3), j4]) (st' := [.int a3]) (h' := h) 1 (fun n => rfl) ?_
  by_cases hc : a3 = 0
  · rw [if_pos hc] at hw
    refine zT_st (pc' := 120) (L' := [some (.ref a0), j1, some (.int a2), some (.int a3), j4]) (st' := []) (h' := h) 1 (fun n => if_pos hc) ?_
    refine zT_st (pc' := 121) (L' := [some (.ref a0), j1, some (.int a2), some (.int a3), j4]) (st' := [.ref a0]) (h' := h) 1 (fun n => rfl) ?_
    obtain ⟨hq, hw⟩ := hw
    obtain ⟨h2, hx, hw⟩ := hw
    refine zT_call (pc' := 124) (rest := []) 1 (fun n => rfl) hq hx ?_
    show zT E (d + 1) m_m_operand 124 [some (.ref a0), j1, some (.int a2), some (.int a3), j4] [] h2 r
    subst hw
    exact zT_ret 1 rfl
  · rw [if_neg hc] at hw
    refine zT_st (pc' := 8) (L' := [some (.ref a0), j1, some (.int a2), some (.int a3), j4]) (st' := []) (h' := h) 1 (fun n => if_neg hc) ?_
    refine zT_st (pc' := 9) (L' := [some (.ref a0), j1, some (.int a2), some (.int a3), j4]) (st' := [.ref a0]) (h' := h) 1 (fun n => rfl) ?_
    obtain ⟨hq, hw⟩ := hw
    obtain ⟨x3, h4, hx, hw⟩ := hw
    refine zT_call (pc' := 12) (rest := []) 1 (fun n => rfl) hq hx ?_
    show zT E (d + 1) m_m_operand 12 [some (.ref a0), j1, some (.int a2), some (.int a3), j4] [.int x3] h4 r
    by_cases hc : x3 = 0
    · rw [if_pos hc] at hw
      refine zT_st (pc' := 120) (L' := [some (.ref a0), j1, some (.int a2), some (.int a3), j4]) (st' := []) (h' := h4) 1 (fun n => if_pos hc) ?_
      refine zT_st (pc' := 121) (L' := [some (.ref a0), j1, some (.int a2), some (.int a3), j4]) (st' := [.ref a0]) (h' := h4) 1 (fun n => rfl) ?_
      obtain ⟨hq, hw⟩ := hw
      obtain ⟨h6, hx, hw⟩ := hw
      refine zT_call (pc' := 124) (rest := []) 1 (fun n => rfl) hq hx ?_
      show zT E (d + 1) m_m_operand 124 [some (.ref a0), j1, some (.int a2), some (.int a3), j4] [] h6 r
      subst hw
      exact zT_ret 1 rfl
    · rw [if_neg hc] at hw
      refine zT_st (pc' := 15) (L' := [some (.ref a0), j1, some (.int a2), some (.int a3), j4]) (st' := []) (h' := h4) 1 (fun n => if_neg hc) ?_
      exact zT_st 2 (fun n => rfl) hw
set_option maxRecDepth 4000 in
theorem s_m_operand_18 (E : zX) (d : Nat) (a0 : Nat) (j1 : Option Value) (a2 : Int32) (j3 : Option Value) (a4 : Int32) (h : zH) (r : zO × zH)
    (hw : isO h a0 12 = true ∧ ∃ (x1 : Int32) (h2 : zH), zT E d m_m_isGood 0 [some (.ref a0)] [] h (.inl (some (.int x1)), h2) ∧
    if x1 = 0 then (
      zT E (d + 1) m_m_operand 75 [some (.ref a0), j1, some (.int a2), j3, some (.int a4)] [] h2 r)
    else (
      if a2 = 0 then (
        zT E (d + 1) m_m_operand 75 [some (.ref a0), j1, some (.int a2), j3, some (.int a4)] [] h2 r)
      else (
        isO h2 a0 12 = true ∧ ∃ (x3 : Int32) (h4 : zH), zT E d m_m_knownWord 0 [some (.ref a0), none] [] h2 (.inl (some (.int x3)), h4) ∧
        if x3 = 16 then (
          if a4 = 6 then (
            isO h4 a0 12 = true ∧ ∃ (h6 : zH), zT E d m_m_wrong 0 [some (.ref a0), some (.int 2)] [] h4 (.inl none, h6) ∧
            zT E (d + 1) m_m_operand 50 [some (.ref a0), j1, some (.int a2), j3, some (.int a4)] [] h6 r)
          else (
            zT E (d + 1) m_m_operand 50 [some (.ref a0), j1, some (.int a2), j3, some (.int a4)] [] h4 r))
        else (
          zT E (d + 1) m_m_operand 75 [some (.ref a0), j1, some (.int a2), j3, some (.int a4)] [] h4 r)))) :
    zT E (d + 1) m_m_operand 18 [some (.ref a0), j1, some (.int a2), j3, some (.int a4)] [] h r := by
  refine zT_st (pc' := 19) (L' := [some (.ref a0), j1, some (.int a2), j3, some (.int a4)]) (st' := [.ref a0]) (h' := h) 1 (fun n => rfl) ?_
  obtain ⟨hq, hw⟩ := hw
  obtain ⟨x1, h2, hx, hw⟩ := hw
  refine zT_call (pc' := 22) (rest := []) 1 (fun n => rfl) hq hx ?_
  show zT E (d + 1) m_m_operand 22 [some (.ref a0), j1, some (.int a2), j3, some (.int a4)] [.int x1] h2 r
  by_cases hc : x1 = 0
  · rw [if_pos hc] at hw
    refine zT_st (pc' := 75) (L' := [some (.ref a0), j1, some (.int a2), j3, some (.int a4)]) (st' := []) (h' := h2) 1 (fun n => if_pos hc) ?_
    exact hw
  · rw [if_neg hc] at hw
    refine zT_st (pc' := 25) (L' := [some (.ref a0), j1, some (.int a2), j3, some (.int a4)]) (st' := []) (h' := h2) 1 (fun n => if_neg hc) ?_
    refine zT_st (pc' := 26) (L' := [some (.ref a0), j1, some (.int a2), j3, some (.int a4)]) (st' := [.int a2]) (h' := h2) 1 (fun n => rfl) ?_
    by_cases hc : a2 = 0
    · rw [if_pos hc] at hw
      refine zT_st (pc' := 75) (L' := [some (.ref a0), j1, some (.int a2), j3, some (.int a4)]) (st' := []) (h' := h2) 1 (fun n => if_pos hc) ?_
      exact hw
    · rw [if_neg hc] at hw
      refine zT_st (pc' := 29) (L' := [some (.ref a0), j1, some (.int a2), j3, some (.int a4)]) (st' := []) (h' := h2) 1 (fun n => if_neg hc) ?_
      refine zT_st (pc' := 30) (L' := [some (.ref a0), j1, some (.int a2), j3, some (.int a4)]) (st' := [.ref a0]) (h' := h2) 1 (fun n => rfl) ?_
      obtain ⟨hq, hw⟩ := hw
      obtain ⟨x3, h4, hx, hw⟩ := hw
      refine zT_call (pc' := 33) (rest := []) 1 (fun n => rfl) hq hx ?_
      show zT E (d + 1) m_m_operand 33 [some (.ref a0), j1, some (.int a2), j3, some (.int a4)] [.int x3] h4 r
      refine zT_st (pc' := 35) (L' := [some (.ref a0), j1, some (.int a2), j3, some (.int a4)]) (st' := [.int 16, .int x3]) (h' := h4) 1 (fun n => rfl) ?_
      by_cases hc : x3 = 16
      · rw [if_pos hc] at hw
        refine zT_st (pc' := 38) (L' := [some (.ref a0), j1, some (.int a2), j3, some (.int a4)]) (st' := []) (h' := h4) 1 (fun n => if_pos hc) ?_
        refine zT_st (pc' := 42) (L' := [some (.ref a0), j1, some (.int a2), j3, some (.int a4)]) (st' := [.int 6, .int a4]) (h' := h4) 2 (fun n => rfl) ?_
        by_cases hc : a4 = 6
        · rw [if_pos hc] at hw
          refine zT_st (pc' := 45) (L' := [some (.ref a0), j1, some (.int a2), j3, some (.int a4)]) (st' := []) (h' := h4) 1 (fun n => if_pos hc) ?_
          refine zT_st (pc' := 47) (L' := [some (.ref a0), j1, some (.int a2), j3, some (.int a4)]) (st' := [.int 2, .ref a0]) (h' := h4) 2 (fun n => rfl) ?_
          obtain ⟨hq, hw⟩ := hw
          obtain ⟨h6, hx, hw⟩ := hw
          refine zT_call (pc' := 50) (rest := []) 1 (fun n => rfl) hq hx ?_
          show zT E (d + 1) m_m_operand 50 [some (.ref a0), j1, some (.int a2), j3, some (.int a4)] [] h6 r
          exact hw
        · rw [if_neg hc] at hw
          refine zT_st (pc' := 50) (L' := [some (.ref a0), j1, some (.int a2), j3, some (.int a4)]) (st' := []) (h' := h4) 1 (fun n => if_neg hc) ?_
          exact hw
      · rw [if_neg hc] at hw
        refine zT_st (pc' := 75) (L' := [some (.ref a0), j1, some (.int a2), j3, some (.int a4)]) (st' := []) (h' := h4) 1 (fun n => if_neg hc) ?_
        exact hw
set_option maxRecDepth 4000 in
theorem s_m_operand_50 (E : zX) (d : Nat) (a0 : Nat) (j1 : Option Value) (a2 : Int32) (j3 : Option Value) (a4 : Int32) (h : zH) (r : zO × zH)
    (hw : isO h a0 12 = true ∧ ∃ (x1 : Int32) (h2 : zH), zT E d m_m_isGood 0 [some (.ref a0)] [] h (.inl (some (.int x1)), h2) ∧
    if x1 = 0 then (
      zT E (d + 1) m_m_operand 18 [some (.ref a0), j1, some (.int a2), j3, some (.int (a4 + 1))] [] h2 r)
    else (
      isO h2 a0 12 = true ∧ ∃ (h4 : zH), zT E d m_m_waitsFor 0 [some (.ref a0), some (.int 3)] [] h2 (.inl none, h4) ∧
      isO h4 a0 12 = true ∧ ∃ (h6 : zH), zT E d m_m_goes 0 [some (.ref a0), none] [] h4 (.inl none, h6) ∧
      zT E (d + 1) m_m_operand 18 [some (.ref a0), j1, some (.int a2), j3, some (.int (a4 + 1))] [] h6 r)) :
    zT E (d + 1) m_m_operand 50 [some (.ref a0), j1, some (.int a2), j3, some (.int a4)] [] h r := by
  refine zT_st (pc' := 54) (L' := [some (.ref a0), j1, some (.int a2), j3, some (.int (a4 + 1))]) (st' := [.ref a0]) (h' := h) 2 (fun n => rfl) ?_
  obtain ⟨hq, hw⟩ := hw
  obtain ⟨x1, h2, hx, hw⟩ := hw
  refine zT_call (pc' := 57) (rest := []) 1 (fun n => rfl) hq hx ?_
  show zT E (d + 1) m_m_operand 57 [some (.ref a0), j1, some (.int a2), j3, some (.int (a4 + 1))] [.int x1] h2 r
  by_cases hc : x1 = 0
  · rw [if_pos hc] at hw
    refine zT_st (pc' := 60) (L' := [some (.ref a0), j1, some (.int a2), j3, some (.int (a4 + 1))]) (st' := []) (h' := h2) 1 (fun n => if_pos hc) ?_
    exact zT_st 1 (fun n => rfl) hw
  · rw [if_neg hc] at hw
    refine zT_st (pc' := 63) (L' := [some (.ref a0), j1, some (.int a2), j3, some (.int (a4 + 1))]) (st' := []) (h' := h2) 1 (fun n => if_neg hc) ?_
    refine zT_st (pc' := 65) (L' := [some (.ref a0), j1, some (.int a2), j3, some (.int (a4 + 1))]) (st' := [.int 3, .ref a0]) (h' := h2) 2 (fun n => rfl) ?_
    obtain ⟨hq, hw⟩ := hw
    obtain ⟨h4, hx, hw⟩ := hw
    refine zT_call (pc' := 68) (rest := []) 1 (fun n => rfl) hq hx ?_
    show zT E (d + 1) m_m_operand 68 [some (.ref a0), j1, some (.int a2), j3, some (.int (a4 + 1))] [] h4 r
    refine zT_st (pc' := 69) (L' := [some (.ref a0), j1, some (.int a2), j3, some (.int (a4 + 1))]) (st' := [.ref a0]) (h' := h4) 1 (fun n => rfl) ?_
    obtain ⟨hq, hw⟩ := hw
    obtain ⟨h6, hx, hw⟩ := hw
    refine zT_call (pc' := 72) (rest := []) 1 (fun n => rfl) hq hx ?_
    show zT E (d + 1) m_m_operand 72 [some (.ref a0), j1, some (.int a2), j3, some (.int (a4 + 1))] [] h6 r
    exact zT_st 1 (fun n => rfl) hw
set_option maxRecDepth 4000 in
theorem s_m_operand_75 (E : zX) (d : Nat) (a0 : Nat) (j1 : Option Value) (a2 : Int32) (j3 : Option Value) (j4 : Option Value) (h : zH) (r : zO × zH)
    (hw : isO h a0 12 = true ∧ ∃ (x1 : Int32) (h2 : zH), zT E d m_m_isGood 0 [some (.ref a0)] [] h (.inl (some (.int x1)), h2) ∧
    if x1 = 0 then (
      zT E (d + 1) m_m_operand 96 [some (.ref a0), j1, some (.int a2), j3, j4] [.int 0] h2 r)
    else (
      isO h2 a0 12 = true ∧ ∃ (x3 : Int32) (h4 : zH), zT E d m_m_isSign 0 [some (.ref a0), some (.int 40)] [] h2 (.inl (some (.int x3)), h4) ∧
      if x3 = 0 then (
        zT E (d + 1) m_m_operand 96 [some (.ref a0), j1, some (.int a2), j3, j4] [.int 0] h4 r)
      else (
        zT E (d + 1) m_m_operand 96 [some (.ref a0), j1, some (.int a2), j3, j4] [.int 1] h4 r))) :
    zT E (d + 1) m_m_operand 75 [some (.ref a0), j1, some (.int a2), j3, j4] [] h r := by
  refine zT_st (pc' := 76) (L' := [some (.ref a0), j1, some (.int a2), j3, j4]) (st' := [.ref a0]) (h' := h) 1 (fun n => rfl) ?_
  obtain ⟨hq, hw⟩ := hw
  obtain ⟨x1, h2, hx, hw⟩ := hw
  refine zT_call (pc' := 79) (rest := []) 1 (fun n => rfl) hq hx ?_
  show zT E (d + 1) m_m_operand 79 [some (.ref a0), j1, some (.int a2), j3, j4] [.int x1] h2 r
  by_cases hc : x1 = 0
  · rw [if_pos hc] at hw
    refine zT_st (pc' := 95) (L' := [some (.ref a0), j1, some (.int a2), j3, j4]) (st' := []) (h' := h2) 1 (fun n => if_pos hc) ?_
    exact zT_st 1 (fun n => rfl) hw
  · rw [if_neg hc] at hw
    refine zT_st (pc' := 82) (L' := [some (.ref a0), j1, some (.int a2), j3, j4]) (st' := []) (h' := h2) 1 (fun n => if_neg hc) ?_
    refine zT_st (pc' := 85) (L' := [some (.ref a0), j1, some (.int a2), j3, j4]) (st' := [.int 40, .ref a0]) (h' := h2) 2 (fun n => rfl) ?_
    obtain ⟨hq, hw⟩ := hw
    obtain ⟨x3, h4, hx, hw⟩ := hw
    refine zT_call (pc' := 88) (rest := []) 1 (fun n => rfl) hq hx ?_
    show zT E (d + 1) m_m_operand 88 [some (.ref a0), j1, some (.int a2), j3, j4] [.int x3] h4 r
    by_cases hc : x3 = 0
    · rw [if_pos hc] at hw
      refine zT_st (pc' := 95) (L' := [some (.ref a0), j1, some (.int a2), j3, j4]) (st' := []) (h' := h4) 1 (fun n => if_pos hc) ?_
      exact zT_st 1 (fun n => rfl) hw
    · rw [if_neg hc] at hw
      refine zT_st (pc' := 91) (L' := [some (.ref a0), j1, some (.int a2), j3, j4]) (st' := []) (h' := h4) 1 (fun n => if_neg hc) ?_
      exact zT_st 2 (fun n => rfl) hw
set_option maxRecDepth 4000 in
theorem s_m_operand_96 (E : zX) (d : Nat) (a0 : Nat) (j1 : Option Value) (a2 : Int32) (j3 : Option Value) (j4 : Option Value) (s0 : Int32) (h : zH) (r : zO × zH)
    (hw : if s0 = 0 then (
      zT E (d + 1) m_m_operand 4 [some (.ref a0), j1, some (.int a2), some (.int s0), j4] [] h r)
    else (
      isO h a0 12 = true ∧ ∃ (h2 : zH), zT E d m_m_waitsFor 0 [some (.ref a0), some (.int 14)] [] h (.inl none, h2) ∧
      isO h2 a0 12 = true ∧ ∃ (h4 : zH), zT E d m_m_goes 0 [some (.ref a0), none] [] h2 (.inl none, h4) ∧
      isO h4 a0 12 = true ∧ ∃ (h6 : zH), zT E d m_m_deeper 0 [some (.ref a0)] [] h4 (.inl none, h6) ∧
      zT E (d + 1) m_m_operand 4 [some (.ref a0), j1, some (.int 1), some (.int s0), j4] [] h6 r)) :
    zT E (d + 1) m_m_operand 96 [some (.ref a0), j1, some (.int a2), j3, j4] [.int s0] h r := by
  refine zT_st (pc' := 98) (L' := [some (.ref a0), j1, some (.int a2), some (.int s0), j4]) (st' := [.int s0]) (h' := h) 2 (fun n => rfl) ?_
  by_cases hc : s0 = 0
  · rw [if_pos hc] at hw
    refine zT_st (pc' := 117) (L' := [some (.ref a0), j1, some (.int a2), some (.int s0), j4]) (st' := []) (h' := h) 1 (fun n => if_pos hc) ?_
    exact zT_st 1 (fun n => rfl) hw
  · rw [if_neg hc] at hw
    refine zT_st (pc' := 101) (L' := [some (.ref a0), j1, some (.int a2), some (.int s0), j4]) (st' := []) (h' := h) 1 (fun n => if_neg hc) ?_
    refine zT_st (pc' := 104) (L' := [some (.ref a0), j1, some (.int a2), some (.int s0), j4]) (st' := [.int 14, .ref a0]) (h' := h) 2 (fun n => rfl) ?_
    obtain ⟨hq, hw⟩ := hw
    obtain ⟨h2, hx, hw⟩ := hw
    refine zT_call (pc' := 107) (rest := []) 1 (fun n => rfl) hq hx ?_
    show zT E (d + 1) m_m_operand 107 [some (.ref a0), j1, some (.int a2), some (.int s0), j4] [] h2 r
    refine zT_st (pc' := 108) (L' := [some (.ref a0), j1, some (.int a2), some (.int s0), j4]) (st' := [.ref a0]) (h' := h2) 1 (fun n => rfl) ?_
    obtain ⟨hq, hw⟩ := hw
    obtain ⟨h4, hx, hw⟩ := hw
    refine zT_call (pc' := 111) (rest := []) 1 (fun n => rfl) hq hx ?_
    show zT E (d + 1) m_m_operand 111 [some (.ref a0), j1, some (.int a2), some (.int s0), j4] [] h4 r
    refine zT_st (pc' := 112) (L' := [some (.ref a0), j1, some (.int a2), some (.int s0), j4]) (st' := [.ref a0]) (h' := h4) 1 (fun n => rfl) ?_
    obtain ⟨hq, hw⟩ := hw
    obtain ⟨h6, hx, hw⟩ := hw
    refine zT_call (pc' := 115) (rest := []) 1 (fun n => rfl) hq hx ?_
    show zT E (d + 1) m_m_operand 115 [some (.ref a0), j1, some (.int a2), some (.int s0), j4] [] h6 r
    exact zT_st 3 (fun n => rfl) hw
set_option maxRecDepth 4000 in
theorem s_m_waitsFor_0 (E : zX) (d : Nat) (a0 : Nat) (a1 : Int32) (h : zH) (r : zO × zH)
    (hw : ∃ o1 : Nat, fld h a0 12 38 = some (.ref o1) ∧
    ∃ x2 : Int32, fld h a0 12 32 = some (.int x2) ∧
    ∃ (n3 : Nat) (f4 : Nat → Int32), arr h o1 = some (n3, f4) ∧ ¬ (x2 < 0 ∨ n3 ≤ (x2).toNatClampNeg) ∧
    ∃ x5 : Int32, fld (setA h o1 n3 (upd f4 (x2).toNatClampNeg a1)) a0 12 32 = some (.int x5) ∧
    (∃ w, fld (setA h o1 n3 (upd f4 (x2).toNatClampNeg a1)) a0 12 32 = some w) ∧
    r = (.inl (none), (setF (setA h o1 n3 (upd f4 (x2).toNatClampNeg a1)) a0 32 (.int (x5 + 1))))) :
    zT E d m_m_waitsFor 0 [some (.ref a0), some (.int a1)] [] h r := by
  refine zT_st (pc' := 1) (L' := [some (.ref a0), some (.int a1)]) (st' := [.ref a0]) (h' := h) 1 (fun n => rfl) ?_
  obtain ⟨o1, e, hw⟩ := hw
  refine zT_st (pc' := 4) (L' := [some (.ref a0), some (.int a1)]) (st' := [.ref o1]) (h' := h) 1 (fun n => fld_eq (E := E) e _) ?_
  refine zT_st (pc' := 5) (L' := [some (.ref a0), some (.int a1)]) (st' := [.ref a0, .ref o1]) (h' := h) 1 (fun n => rfl) ?_
  obtain ⟨x2, e, hw⟩ := hw
  refine zT_st (pc' := 8) (L' := [some (.ref a0), some (.int a1)]) (st' := [.int x2, .ref o1]) (h' := h) 1 (fun n => fld_eq (E := E) e _) ?_
  refine zT_st (pc' := 9) (L' := [some (.ref a0), some (.int a1)]) (st' := [.int a1, .int x2, .ref o1]) (h' := h) 1 (fun n => rfl) ?_
  obtain ⟨n3, f4, e, hi, hw⟩ := hw
  refine zT_st (pc' := 10) (L' := [some (.ref a0), some (.int a1)]) (st' := []) (h' := (setA h o1 n3 (upd f4 (x2).toNatClampNeg a1))) 1 (fun n => set_eq e hi _ _) ?_
  refine zT_st (pc' := 12) (L' := [some (.ref a0), some (.int a1)]) (st' := [.ref a0, .ref a0]) (h' := (setA h o1 n3 (upd f4 (x2).toNatClampNeg a1))) 2 (fun n => rfl) ?_
  obtain ⟨x5, e, hw⟩ := hw
  refine zT_st (pc' := 15) (L' := [some (.ref a0), some (.int a1)]) (st' := [.int x5, .ref a0]) (h' := (setA h o1 n3 (upd f4 (x2).toNatClampNeg a1))) 1 (fun n => fld_eq (E := E) e _) ?_
  refine zT_st (pc' := 17) (L' := [some (.ref a0), some (.int a1)]) (st' := [.int (x5 + 1), .ref a0]) (h' := (setA h o1 n3 (upd f4 (x2).toNatClampNeg a1))) 2 (fun n => rfl) ?_
  obtain ⟨⟨w, e⟩, hw⟩ := hw
  refine zT_st (pc' := 20) (L' := [some (.ref a0), some (.int a1)]) (st' := []) (h' := (setF (setA h o1 n3 (upd f4 (x2).toNatClampNeg a1)) a0 32 (.int (x5 + 1)))) 1 (fun n => put_eq e rfl _ _) ?_
  subst hw
  exact zT_ret 1 rfl
set_option maxRecDepth 4000 in
theorem s_m_part_0 (E : zX) (d : Nat) (a0 : Nat) (h : zH) (r : zO × zH)
    (hw : isO h a0 12 = true ∧ ∃ (x1 : Int32) (h2 : zH), zT E d m_m_isGood 0 [some (.ref a0)] [] h (.inl (some (.int x1)), h2) ∧
    if x1 = 0 then (
      r = (.inl (none), h2))
    else (
      ∃ x3 : Int32, fld h2 a0 12 17 = some (.int x3) ∧
      if x3 = 2 then (
        ∃ x4 : Int32, fld h2 a0 12 19 = some (.int x4) ∧
        if x4 ≤ 4 then (
          zT E (d + 1) m_m_part 29 [some (.ref a0), none] [] h2 r)
        else (
          isO h2 a0 12 = true ∧ ∃ (h6 : zH), zT E d m_m_wrong 0 [some (.ref a0), some (.int 2)] [] h2 (.inl none, h6) ∧
          zT E (d + 1) m_m_part 29 [some (.ref a0), none] [] h6 r))
      else (
        ∃ x7 : Int32, fld h2 a0 12 17 = some (.int x7) ∧
        if x7 = 1 then (
          isO h2 a0 12 = true ∧ ∃ (x8 : Int32) (h9 : zH), zT E d m_m_knownWord 0 [some (.ref a0), none] [] h2 (.inl (some (.int x8)), h9) ∧
          ∃ x10 : Int32, fld h9 a0 12 30 = some (.int x10) ∧
          if x8 < x10 then (
            isO h9 a0 12 = true ∧ ∃ (h12 : zH), zT E d m_m_wrong 0 [some (.ref a0), some (.int 3)] [] h9 (.inl none, h12) ∧
            zT E (d + 1) m_m_part 79 [some (.ref a0), some (.int x8)] [] h12 r)
          else (
            ∃ x13 : Int32, fld h9 a0 12 31 = some (.int x13) ∧
            if x8 ≤ x13 then (
              zT E (d + 1) m_m_part 79 [some (.ref a0), some (.int x8)] [] h9 r)
            else (
              isO h9 a0 12 = true ∧ ∃ (h15 : zH), zT E d m_m_wrong 0 [some (.ref a0), some (.int 3)] [] h9 (.inl none, h15) ∧
              zT E (d + 1) m_m_part 79 [some (.ref a0), some (.int x8)] [] h15 r)))
        else (
          isO h2 a0 12 = true ∧ ∃ (h17 : zH), zT E d m_m_wrong 0 [some (.ref a0), some (.int 1)] [] h2 (.inl none, h17) ∧
          isO h17 a0 12 = true ∧ ∃ (x18 : Int32) (h19 : zH), zT E d m_m_isGood 0 [some (.ref a0)] [] h17 (.inl (some (.int x18)), h19) ∧
          if x18 = 0 then (
            r = (.inl (none), h19))
          else (
            isO h19 a0 12 = true ∧ ∃ (h21 : zH), zT E d m_m_goes 0 [some (.ref a0), none] [] h19 (.inl none, h21) ∧
            r = (.inl (none), h21)))))) :
    zT E (d + 1) m_m_part 0 [some (.ref a0), none] [] h r := by
  refine zT_st (pc' := 1) (L' := [some (.ref a0), none]) (st' := [.ref a0]) (h' := h) 1 (fun n => rfl) ?_
  obtain ⟨hq, hw⟩ := hw
  obtain ⟨x1, h2, hx, hw⟩ := hw
  refine zT_call (pc' := 4) (rest := []) 1 (fun n => rfl) hq hx ?_
  show zT E (d + 1) m_m_part 4 [some (.ref a0), none] [.int x1] h2 r
  by_cases hc : x1 = 0
  · rw [if_pos hc] at hw
    refine zT_st (pc' := 7) (L' := [some (.ref a0), none]) (st' := []) (h' := h2) 1 (fun n => if_pos hc) ?_
    subst hw
    exact zT_ret 1 rfl
  · rw [if_neg hc] at hw
    refine zT_st (pc' := 8) (L' := [some (.ref a0), none]) (st' := []) (h' := h2) 1 (fun n => if_neg hc) ?_
    refine zT_st (pc' := 9) (L' := [some (.ref a0), none]) (st' := [.ref a0]) (h' := h2) 1 (fun n => rfl) ?_
    obtain ⟨x3, e, hw⟩ := hw
    refine zT_st (pc' := 12) (L' := [some (.ref a0), none]) (st' := [.int x3]) (h' := h2) 1 (fun n => fld_eq (E := E) e _) ?_
    refine zT_st (pc' := 13) (L' := [some (.ref a0), none]) (st' := [.int 2, .int x3]) (h' := h2) 1 (fun n => rfl) ?_
    by_cases hc : x3 = 2
    · rw [if_pos hc] at hw
      refine zT_st (pc' := 16) (L' := [some (.ref a0), none]) (st' := []) (h' := h2) 1 (fun n => if_pos hc) ?_
      refine zT_st (pc' := 17) (L' := [some (.ref a0), none]) (st' := [.ref a0]) (h' := h2) 1 (fun n => rfl) ?_
      obtain ⟨x4, e, hw⟩ := hw
      refine zT_st (pc' := 20) (L' := [some (.ref a0), none]) (st' := [.int x4]) (h' := h2) 1 (fun n => fld_eq (E := E) e _) ?_
      refine zT_st (pc' := 21) (L' := [some (.ref a0), none]) (st' := [.int 4, .int x4]) (h' := h2) 1 (fun n => rfl) ?_
      by_cases hc : x4 ≤ 4
      · rw [if_pos hc] at hw
        refine zT_st (pc' := 29) (L' := [some (.ref a0), none]) (st' := []) (h' := h2) 1 (fun n => if_pos hc) ?_
        exact hw
      · rw [if_neg hc] at hw
        refine zT_st (pc' := 24) (L' := [some (.ref a0), none]) (st' := []) (h' := h2) 1 (fun n => if_neg hc) ?_
        refine zT_st (pc' := 26) (L' := [some (.ref a0), none]) (st' := [.int 2, .ref a0]) (h' := h2) 2 (fun n => rfl) ?_
        obtain ⟨hq, hw⟩ := hw
        obtain ⟨h6, hx, hw⟩ := hw
        refine zT_call (pc' := 29) (rest := []) 1 (fun n => rfl) hq hx ?_
        show zT E (d + 1) m_m_part 29 [some (.ref a0), none] [] h6 r
        exact hw
    · rw [if_neg hc] at hw
      refine zT_st (pc' := 45) (L' := [some (.ref a0), none]) (st' := []) (h' := h2) 1 (fun n => if_neg hc) ?_
      refine zT_st (pc' := 46) (L' := [some (.ref a0), none]) (st' := [.ref a0]) (h' := h2) 1 (fun n => rfl) ?_
      obtain ⟨x7, e, hw⟩ := hw
      refine zT_st (pc' := 49) (L' := [some (.ref a0), none]) (st' := [.int x7]) (h' := h2) 1 (fun n => fld_eq (E := E) e _) ?_
      refine zT_st (pc' := 50) (L' := [some (.ref a0), none]) (st' := [.int 1, .int x7]) (h' := h2) 1 (fun n => rfl) ?_
      by_cases hc : x7 = 1
      · rw [if_pos hc] at hw
        refine zT_st (pc' := 53) (L' := [some (.ref a0), none]) (st' := []) (h' := h2) 1 (fun n => if_pos hc) ?_
        refine zT_st (pc' := 54) (L' := [some (.ref a0), none]) (st' := [.ref a0]) (h' := h2) 1 (fun n => rfl) ?_
        obtain ⟨hq, hw⟩ := hw
        obtain ⟨x8, h9, hx, hw⟩ := hw
        refine zT_call (pc' := 57) (rest := []) 1 (fun n => rfl) hq hx ?_
        show zT E (d + 1) m_m_part 57 [some (.ref a0), none] [.int x8] h9 r
        refine zT_st (pc' := 60) (L' := [some (.ref a0), some (.int x8)]) (st' := [.ref a0, .int x8]) (h' := h9) 3 (fun n => rfl) ?_
        obtain ⟨x10, e, hw⟩ := hw
        refine zT_st (pc' := 63) (L' := [some (.ref a0), some (.int x8)]) (st' := [.int x10, .int x8]) (h' := h9) 1 (fun n => fld_eq (E := E) e _) ?_
        by_cases hc : x8 < x10
        · rw [if_pos hc] at hw
          refine zT_st (pc' := 74) (L' := [some (.ref a0), some (.int x8)]) (st' := []) (h' := h9) 1 (fun n => if_pos hc) ?_
          refine zT_st (pc' := 76) (L' := [some (.ref a0), some (.int x8)]) (st' := [.int 3, .ref a0]) (h' := h9) 2 (fun n => rfl) ?_
          obtain ⟨hq, hw⟩ := hw
          obtain ⟨h12, hx, hw⟩ := hw
          refine zT_call (pc' := 79) (rest := []) 1 (fun n => rfl) hq hx ?_
          show zT E (d + 1) m_m_part 79 [some (.ref a0), some (.int x8)] [] h12 r
          exact hw
        · rw [if_neg hc] at hw
          refine zT_st (pc' := 66) (L' := [some (.ref a0), some (.int x8)]) (st' := []) (h' := h9) 1 (fun n => if_neg hc) ?_
          refine zT_st (pc' := 68) (L' := [some (.ref a0), some (.int x8)]) (st' := [.ref a0, .int x8]) (h' := h9) 2 (fun n => rfl) ?_
          obtain ⟨x13, e, hw⟩ := hw
          refine zT_st (pc' := 71) (L' := [some (.ref a0), some (.int x8)]) (st' := [.int x13, .int x8]) (h' := h9) 1 (fun n => fld_eq (E := E) e _) ?_
          by_cases hc : x8 ≤ x13
          · rw [if_pos hc] at hw
            refine zT_st (pc' := 79) (L' := [some (.ref a0), some (.int x8)]) (st' := []) (h' := h9) 1 (fun n => if_pos hc) ?_
            exact hw
          · rw [if_neg hc] at hw
            refine zT_st (pc' := 74) (L' := [some (.ref a0), some (.int x8)]) (st' := []) (h' := h9) 1 (fun n => if_neg hc) ?_
            refine zT_st (pc' := 76) (L' := [some (.ref a0), some (.int x8)]) (st' := [.int 3, .ref a0]) (h' := h9) 2 (fun n => rfl) ?_
            obtain ⟨hq, hw⟩ := hw
            obtain ⟨h15, hx, hw⟩ := hw
            refine zT_call (pc' := 79) (rest := []) 1 (fun n => rfl) hq hx ?_
            show zT E (d + 1) m_m_part 79 [some (.ref a0), some (.int x8)] [] h15 r
            exact hw
      · rw [if_neg hc] at hw
        refine zT_st (pc' := 92) (L' := [some (.ref a0), none]) (st' := []) (h' := h2) 1 (fun n => if_neg hc) ?_
        refine zT_st (pc' := 94) (L' := [some (.ref a0), none]) (st' := [.int 1, .ref a0]) (h' := h2) 2 (fun n => rfl) ?_
        obtain ⟨hq, hw⟩ := hw
        obtain ⟨h17, hx, hw⟩ := hw
        refine zT_call (pc' := 97) (rest := []) 1 (fun n => rfl) hq hx ?_
        show zT E (d + 1) m_m_part 97 [some (.ref a0), none] [] h17 r
        refine zT_st (pc' := 98) (L' := [some (.ref a0), none]) (st' := [.ref a0]) (h' := h17) 1 (fun n => rfl) ?_
        obtain ⟨hq, hw⟩ := hw
        obtain ⟨x18, h19, hx, hw⟩ := hw
        refine zT_call (pc' := 101) (rest := []) 1 (fun n => rfl) hq hx ?_
        show zT E (d + 1) m_m_part 101 [some (.ref a0), none] [.int x18] h19 r
        by_cases hc : x18 = 0
        · rw [if_pos hc] at hw
          refine zT_st (pc' := 108) (L' := [some (.ref a0), none]) (st' := []) (h' := h19) 1 (fun n => if_pos hc) ?_
          subst hw
          exact zT_ret 1 rfl
        · rw [if_neg hc] at hw
          refine zT_st (pc' := 104) (L' := [some (.ref a0), none]) (st' := []) (h' := h19) 1 (fun n => if_neg hc) ?_
          refine zT_st (pc' := 105) (L' := [some (.ref a0), none]) (st' := [.ref a0]) (h' := h19) 1 (fun n => rfl) ?_
          obtain ⟨hq, hw⟩ := hw
          obtain ⟨h21, hx, hw⟩ := hw
          refine zT_call (pc' := 108) (rest := []) 1 (fun n => rfl) hq hx ?_
          show zT E (d + 1) m_m_part 108 [some (.ref a0), none] [] h21 r
          subst hw
          exact zT_ret 1 rfl
set_option maxRecDepth 4000 in
theorem s_m_part_29 (E : zX) (d : Nat) (a0 : Nat) (j1 : Option Value) (h : zH) (r : zO × zH)
    (hw : isO h a0 12 = true ∧ ∃ (h2 : zH), zT E d m_m_puts 0 [some (.ref a0), some (.int 1)] [] h (.inl none, h2) ∧
    ∃ x3 : Int32, fld h2 a0 12 20 = some (.int x3) ∧
    isO h2 a0 12 = true ∧ ∃ (h5 : zH), zT E d m_m_puts 0 [some (.ref a0), some (.int x3)] [] h2 (.inl none, h5) ∧
    isO h5 a0 12 = true ∧ ∃ (x6 : Int32) (h7 : zH), zT E d m_m_isGood 0 [some (.ref a0)] [] h5 (.inl (some (.int x6)), h7) ∧
    if x6 = 0 then (
      r = (.inl (none), h7))
    else (
      isO h7 a0 12 = true ∧ ∃ (h9 : zH), zT E d m_m_goes 0 [some (.ref a0), none] [] h7 (.inl none, h9) ∧
      r = (.inl (none), h9))) :
    zT E (d + 1) m_m_part 29 [some (.ref a0), j1] [] h r := by
  refine zT_st (pc' := 31) (L' := [some (.ref a0), j1]) (st' := [.int 1, .ref a0]) (h' := h) 2 (fun n => rfl) ?_
  obtain ⟨hq, hw⟩ := hw
  obtain ⟨h2, hx, hw⟩ := hw
  refine zT_call (pc' := 34) (rest := []) 1 (fun n => rfl) hq hx ?_
  show zT E (d + 1) m_m_part 34 [some (.ref a0), j1] [] h2 r
  refine zT_st (pc' := 36) (L' := [some (.ref a0), j1]) (st' := [.ref a0, .ref a0]) (h' := h2) 2 (fun n => rfl) ?_
  obtain ⟨x3, e, hw⟩ := hw
  refine zT_st (pc' := 39) (L' := [some (.ref a0), j1]) (st' := [.int x3, .ref a0]) (h' := h2) 1 (fun n => fld_eq (E := E) e _) ?_
  obtain ⟨hq, hw⟩ := hw
  obtain ⟨h5, hx, hw⟩ := hw
  refine zT_call (pc' := 42) (rest := []) 1 (fun n => rfl) hq hx ?_
  show zT E (d + 1) m_m_part 42 [some (.ref a0), j1] [] h5 r
  refine zT_st (pc' := 98) (L' := [some (.ref a0), j1]) (st' := [.ref a0]) (h' := h5) 2 (fun n => rfl) ?_
  obtain ⟨hq, hw⟩ := hw
  obtain ⟨x6, h7, hx, hw⟩ := hw
  refine zT_call (pc' := 101) (rest := []) 1 (fun n => rfl) hq hx ?_
  show zT E (d + 1) m_m_part 101 [some (.ref a0), j1] [.int x6] h7 r
  by_cases hc : x6 = 0
  · rw [if_pos hc] at hw
    refine zT_st (pc' := 108) (L' := [some (.ref a0), j1]) (st' := []) (h' := h7) 1 (fun n => if_pos hc) ?_
    subst hw
    exact zT_ret 1 rfl
  · rw [if_neg hc] at hw
    refine zT_st (pc' := 104) (L' := [some (.ref a0), j1]) (st' := []) (h' := h7) 1 (fun n => if_neg hc) ?_
    refine zT_st (pc' := 105) (L' := [some (.ref a0), j1]) (st' := [.ref a0]) (h' := h7) 1 (fun n => rfl) ?_
    obtain ⟨hq, hw⟩ := hw
    obtain ⟨h9, hx, hw⟩ := hw
    refine zT_call (pc' := 108) (rest := []) 1 (fun n => rfl) hq hx ?_
    show zT E (d + 1) m_m_part 108 [some (.ref a0), j1] [] h9 r
    subst hw
    exact zT_ret 1 rfl
set_option maxRecDepth 4000 in
theorem s_m_part_79 (E : zX) (d : Nat) (a0 : Nat) (a1 : Int32) (h : zH) (r : zO × zH)
    (hw : isO h a0 12 = true ∧ ∃ (h2 : zH), zT E d m_m_puts 0 [some (.ref a0), some (.int 2)] [] h (.inl none, h2) ∧
    isO h2 a0 12 = true ∧ ∃ (h4 : zH), zT E d m_m_puts 0 [some (.ref a0), some (.int a1)] [] h2 (.inl none, h4) ∧
    isO h4 a0 12 = true ∧ ∃ (x5 : Int32) (h6 : zH), zT E d m_m_isGood 0 [some (.ref a0)] [] h4 (.inl (some (.int x5)), h6) ∧
    if x5 = 0 then (
      r = (.inl (none), h6))
    else (
      isO h6 a0 12 = true ∧ ∃ (h8 : zH), zT E d m_m_goes 0 [some (.ref a0), none] [] h6 (.inl none, h8) ∧
      r = (.inl (none), h8))) :
    zT E (d + 1) m_m_part 79 [some (.ref a0), some (.int a1)] [] h r := by
  refine zT_st (pc' := 81) (L' := [some (.ref a0), some (.int a1)]) (st' := [.int 2, .ref a0]) (h' := h) 2 (fun n => rfl) ?_
  obtain ⟨hq, hw⟩ := hw
  obtain ⟨h2, hx, hw⟩ := hw
  refine zT_call (pc' := 84) (rest := []) 1 (fun n => rfl) hq hx ?_
  show zT E (d + 1) m_m_part 84 [some (.ref a0), some (.int a1)] [] h2 r
  refine zT_st (pc' := 86) (L' := [some (.ref a0), some (.int a1)]) (st' := [.int a1, .ref a0]) (h' := h2) 2 (fun n => rfl) ?_
  obtain ⟨hq, hw⟩ := hw
  obtain ⟨h4, hx, hw⟩ := hw
  refine zT_call (pc' := 89) (rest := []) 1 (fun n => rfl) hq hx ?_
  show zT E (d + 1) m_m_part 89 [some (.ref a0), some (.int a1)] [] h4 r
  refine zT_st (pc' := 98) (L' := [some (.ref a0), some (.int a1)]) (st' := [.ref a0]) (h' := h4) 2 (fun n => rfl) ?_
  obtain ⟨hq, hw⟩ := hw
  obtain ⟨x5, h6, hx, hw⟩ := hw
  refine zT_call (pc' := 101) (rest := []) 1 (fun n => rfl) hq hx ?_
  show zT E (d + 1) m_m_part 101 [some (.ref a0), some (.int a1)] [.int x5] h6 r
  by_cases hc : x5 = 0
  · rw [if_pos hc] at hw
    refine zT_st (pc' := 108) (L' := [some (.ref a0), some (.int a1)]) (st' := []) (h' := h6) 1 (fun n => if_pos hc) ?_
    subst hw
    exact zT_ret 1 rfl
  · rw [if_neg hc] at hw
    refine zT_st (pc' := 104) (L' := [some (.ref a0), some (.int a1)]) (st' := []) (h' := h6) 1 (fun n => if_neg hc) ?_
    refine zT_st (pc' := 105) (L' := [some (.ref a0), some (.int a1)]) (st' := [.ref a0]) (h' := h6) 1 (fun n => rfl) ?_
    obtain ⟨hq, hw⟩ := hw
    obtain ⟨h8, hx, hw⟩ := hw
    refine zT_call (pc' := 108) (rest := []) 1 (fun n => rfl) hq hx ?_
    show zT E (d + 1) m_m_part 108 [some (.ref a0), some (.int a1)] [] h8 r
    subst hw
    exact zT_ret 1 rfl
set_option maxRecDepth 4000 in
theorem s_m_puts_0 (E : zX) (d : Nat) (a0 : Nat) (a1 : Int32) (h : zH) (r : zO × zH)
    (hw : ∃ o1 : Nat, fld h a0 12 37 = some (.ref o1) ∧
    ∃ x2 : Int32, fld h a0 12 29 = some (.int x2) ∧
    ∃ (n3 : Nat) (f4 : Nat → Int32), arr h o1 = some (n3, f4) ∧ ¬ (x2 < 0 ∨ n3 ≤ (x2).toNatClampNeg) ∧
    ∃ x5 : Int32, fld (setA h o1 n3 (upd f4 (x2).toNatClampNeg a1)) a0 12 29 = some (.int x5) ∧
    (∃ w, fld (setA h o1 n3 (upd f4 (x2).toNatClampNeg a1)) a0 12 29 = some w) ∧
    r = (.inl (none), (setF (setA h o1 n3 (upd f4 (x2).toNatClampNeg a1)) a0 29 (.int (x5 + 1))))) :
    zT E d m_m_puts 0 [some (.ref a0), some (.int a1)] [] h r := by
  refine zT_st (pc' := 1) (L' := [some (.ref a0), some (.int a1)]) (st' := [.ref a0]) (h' := h) 1 (fun n => rfl) ?_
  obtain ⟨o1, e, hw⟩ := hw
  refine zT_st (pc' := 4) (L' := [some (.ref a0), some (.int a1)]) (st' := [.ref o1]) (h' := h) 1 (fun n => fld_eq (E := E) e _) ?_
  refine zT_st (pc' := 5) (L' := [some (.ref a0), some (.int a1)]) (st' := [.ref a0, .ref o1]) (h' := h) 1 (fun n => rfl) ?_
  obtain ⟨x2, e, hw⟩ := hw
  refine zT_st (pc' := 8) (L' := [some (.ref a0), some (.int a1)]) (st' := [.int x2, .ref o1]) (h' := h) 1 (fun n => fld_eq (E := E) e _) ?_
  refine zT_st (pc' := 9) (L' := [some (.ref a0), some (.int a1)]) (st' := [.int a1, .int x2, .ref o1]) (h' := h) 1 (fun n => rfl) ?_
  obtain ⟨n3, f4, e, hi, hw⟩ := hw
  refine zT_st (pc' := 10) (L' := [some (.ref a0), some (.int a1)]) (st' := []) (h' := (setA h o1 n3 (upd f4 (x2).toNatClampNeg a1))) 1 (fun n => set_eq e hi _ _) ?_
  refine zT_st (pc' := 12) (L' := [some (.ref a0), some (.int a1)]) (st' := [.ref a0, .ref a0]) (h' := (setA h o1 n3 (upd f4 (x2).toNatClampNeg a1))) 2 (fun n => rfl) ?_
  obtain ⟨x5, e, hw⟩ := hw
  refine zT_st (pc' := 15) (L' := [some (.ref a0), some (.int a1)]) (st' := [.int x5, .ref a0]) (h' := (setA h o1 n3 (upd f4 (x2).toNatClampNeg a1))) 1 (fun n => fld_eq (E := E) e _) ?_
  refine zT_st (pc' := 17) (L' := [some (.ref a0), some (.int a1)]) (st' := [.int (x5 + 1), .ref a0]) (h' := (setA h o1 n3 (upd f4 (x2).toNatClampNeg a1))) 2 (fun n => rfl) ?_
  obtain ⟨⟨w, e⟩, hw⟩ := hw
  refine zT_st (pc' := 20) (L' := [some (.ref a0), some (.int a1)]) (st' := []) (h' := (setF (setA h o1 n3 (upd f4 (x2).toNatClampNeg a1)) a0 29 (.int (x5 + 1)))) 1 (fun n => put_eq e rfl _ _) ?_
  subst hw
  exact zT_ret 1 rfl
set_option maxRecDepth 4000 in
theorem s_m_strength_0 (E : zX) (d : Nat) (a0 : Int32) (h : zH) (r : zO × zH)
    (hw : if a0 = 5 then (
      r = (.inl (some (.int 1)), h))
    else (
      if a0 = 4 then (
        r = (.inl (some (.int 2)), h))
      else (
        if a0 = 3 then (
          r = (.inl (some (.int 3)), h))
        else (
          if a0 = 6 then (
            r = (.inl (some (.int 4)), h))
          else (
            if a0 = 7 then (
              r = (.inl (some (.int 4)), h))
            else (
              if a0 = 8 then (
                r = (.inl (some (.int 5)), h))
              else (
                if a0 = 9 then (
                  r = (.inl (some (.int 5)), h))
                else (
                  r = (.inl (some (.int 6)), h))))))))) :
    zT E d m_m_strength 0 [some (.int a0)] [] h r := by
  refine zT_st (pc' := 2) (L' := [some (.int a0)]) (st' := [.int 5, .int a0]) (h' := h) 2 (fun n => rfl) ?_
  by_cases hc : a0 = 5
  · rw [if_pos hc] at hw
    refine zT_st (pc' := 5) (L' := [some (.int a0)]) (st' := []) (h' := h) 1 (fun n => if_pos hc) ?_
    subst hw
    exact zT_ret 3 rfl
  · rw [if_neg hc] at hw
    refine zT_st (pc' := 9) (L' := [some (.int a0)]) (st' := []) (h' := h) 1 (fun n => if_neg hc) ?_
    refine zT_st (pc' := 11) (L' := [some (.int a0)]) (st' := [.int 4, .int a0]) (h' := h) 2 (fun n => rfl) ?_
    by_cases hc : a0 = 4
    · rw [if_pos hc] at hw
      refine zT_st (pc' := 14) (L' := [some (.int a0)]) (st' := []) (h' := h) 1 (fun n => if_pos hc) ?_
      subst hw
      exact zT_ret 3 rfl
    · rw [if_neg hc] at hw
      refine zT_st (pc' := 18) (L' := [some (.int a0)]) (st' := []) (h' := h) 1 (fun n => if_neg hc) ?_
      refine zT_st (pc' := 20) (L' := [some (.int a0)]) (st' := [.int 3, .int a0]) (h' := h) 2 (fun n => rfl) ?_
      by_cases hc : a0 = 3
      · rw [if_pos hc] at hw
        refine zT_st (pc' := 23) (L' := [some (.int a0)]) (st' := []) (h' := h) 1 (fun n => if_pos hc) ?_
        subst hw
        exact zT_ret 3 rfl
      · rw [if_neg hc] at hw
        refine zT_st (pc' := 27) (L' := [some (.int a0)]) (st' := []) (h' := h) 1 (fun n => if_neg hc) ?_
        refine zT_st (pc' := 30) (L' := [some (.int a0)]) (st' := [.int 6, .int a0]) (h' := h) 2 (fun n => rfl) ?_
        by_cases hc : a0 = 6
        · rw [if_pos hc] at hw
          refine zT_st (pc' := 39) (L' := [some (.int a0)]) (st' := []) (h' := h) 1 (fun n => if_pos hc) ?_
          subst hw
          exact zT_ret 3 rfl
        · rw [if_neg hc] at hw
          refine zT_st (pc' := 33) (L' := [some (.int a0)]) (st' := []) (h' := h) 1 (fun n => if_neg hc) ?_
          refine zT_st (pc' := 36) (L' := [some (.int a0)]) (st' := [.int 7, .int a0]) (h' := h) 2 (fun n => rfl) ?_
          by_cases hc : a0 = 7
          · rw [if_pos hc] at hw
            refine zT_st (pc' := 39) (L' := [some (.int a0)]) (st' := []) (h' := h) 1 (fun n => if_pos hc) ?_
            subst hw
            exact zT_ret 3 rfl
          · rw [if_neg hc] at hw
            refine zT_st (pc' := 43) (L' := [some (.int a0)]) (st' := []) (h' := h) 1 (fun n => if_neg hc) ?_
            refine zT_st (pc' := 46) (L' := [some (.int a0)]) (st' := [.int 8, .int a0]) (h' := h) 2 (fun n => rfl) ?_
            by_cases hc : a0 = 8
            · rw [if_pos hc] at hw
              refine zT_st (pc' := 55) (L' := [some (.int a0)]) (st' := []) (h' := h) 1 (fun n => if_pos hc) ?_
              subst hw
              exact zT_ret 3 rfl
            · rw [if_neg hc] at hw
              refine zT_st (pc' := 49) (L' := [some (.int a0)]) (st' := []) (h' := h) 1 (fun n => if_neg hc) ?_
              refine zT_st (pc' := 52) (L' := [some (.int a0)]) (st' := [.int 9, .int a0]) (h' := h) 2 (fun n => rfl) ?_
              by_cases hc : a0 = 9
              · rw [if_pos hc] at hw
                refine zT_st (pc' := 55) (L' := [some (.int a0)]) (st' := []) (h' := h) 1 (fun n => if_pos hc) ?_
                subst hw
                exact zT_ret 3 rfl
              · rw [if_neg hc] at hw
                refine zT_st (pc' := 59) (L' := [some (.int a0)]) (st' := []) (h' := h) 1 (fun n => if_neg hc) ?_
                subst hw
                exact zT_ret 2 rfl
set_option maxRecDepth 4000 in
theorem s_m_undo_0 (E : zX) (d : Nat) (a0 : Nat) (h : zH) (r : zO × zH)
    (hw : (∃ w, fld h a0 12 0 = some w) ∧
    ∃ x1 : Int32, fld (setF h a0 0 (.int 0)) a0 12 42 = some (.int x1) ∧
    if x1 = 0 then (
      r = (.inl (some (.int (-1))), (setF h a0 0 (.int 0))))
    else (
      ∃ x2 : Int32, fld (setF h a0 0 (.int 0)) a0 12 42 = some (.int x2) ∧
      (∃ w, fld (setF h a0 0 (.int 0)) a0 12 42 = some w) ∧
      zT E d m_m_undo 26 [some (.ref a0), some (.int 0)] [] (setF (setF h a0 0 (.int 0)) a0 42 (.int (x2 - 1))) r)) :
    zT E d m_m_undo 0 [some (.ref a0), none] [] h r := by
  refine zT_st (pc' := 2) (L' := [some (.ref a0), none]) (st' := [.int 0, .ref a0]) (h' := h) 2 (fun n => rfl) ?_
  obtain ⟨⟨w, e⟩, hw⟩ := hw
  refine zT_st (pc' := 5) (L' := [some (.ref a0), none]) (st' := []) (h' := (setF h a0 0 (.int 0))) 1 (fun n => put_eq e rfl _ _) ?_
  refine zT_st (pc' := 6) (L' := [some (.ref a0), none]) (st' := [.ref a0]) (h' := (setF h a0 0 (.int 0))) 1 (fun n => rfl) ?_
  obtain ⟨x1, e, hw⟩ := hw
  refine zT_st (pc' := 9) (L' := [some (.ref a0), none]) (st' := [.int x1]) (h' := (setF h a0 0 (.int 0))) 1 (fun n => fld_eq (E := E) e _) ?_
  by_cases hc : x1 = 0
  · rw [if_pos hc] at hw
    refine zT_st (pc' := 12) (L' := [some (.ref a0), none]) (st' := []) (h' := (setF h a0 0 (.int 0))) 1 (fun n => if_pos hc) ?_
    subst hw
    exact zT_ret 2 rfl
  · rw [if_neg hc] at hw
    refine zT_st (pc' := 14) (L' := [some (.ref a0), none]) (st' := []) (h' := (setF h a0 0 (.int 0))) 1 (fun n => if_neg hc) ?_
    refine zT_st (pc' := 16) (L' := [some (.ref a0), none]) (st' := [.ref a0, .ref a0]) (h' := (setF h a0 0 (.int 0))) 2 (fun n => rfl) ?_
    obtain ⟨x2, e, hw⟩ := hw
    refine zT_st (pc' := 19) (L' := [some (.ref a0), none]) (st' := [.int x2, .ref a0]) (h' := (setF h a0 0 (.int 0))) 1 (fun n => fld_eq (E := E) e _) ?_
    refine zT_st (pc' := 21) (L' := [some (.ref a0), none]) (st' := [.int (x2 - 1), .ref a0]) (h' := (setF h a0 0 (.int 0))) 2 (fun n => rfl) ?_
    obtain ⟨⟨w, e⟩, hw⟩ := hw
    refine zT_st (pc' := 24) (L' := [some (.ref a0), none]) (st' := []) (h' := (setF (setF h a0 0 (.int 0)) a0 42 (.int (x2 - 1)))) 1 (fun n => put_eq e rfl _ _) ?_
    exact zT_st 2 (fun n => rfl) hw
set_option maxRecDepth 4000 in
theorem s_m_undo_26 (E : zX) (d : Nat) (a0 : Nat) (a1 : Int32) (h : zH) (r : zO × zH)
    (hw : if 79 ≤ a1 then (
      ∃ x1 : Int32, fld h a0 12 42 = some (.int x1) ∧
      r = (.inl (some (.int x1)), h))
    else (
      ∃ o2 : Nat, fld h a0 12 40 = some (.ref o2) ∧
      ∃ o3 : Nat, fld h a0 12 41 = some (.ref o3) ∧
      ∃ x4 : Int32, fld h a0 12 42 = some (.int x4) ∧
      ∃ (n5 : Nat) (f6 : Nat → Int32), arr h o3 = some (n5, f6) ∧ ¬ (((79 * x4) + a1) < 0 ∨ n5 ≤ (((79 * x4) + a1)).toNatClampNeg) ∧
      ∃ (n7 : Nat) (f8 : Nat → Int32), arr h o2 = some (n7, f8) ∧ ¬ (a1 < 0 ∨ n7 ≤ (a1).toNatClampNeg) ∧
      zT E d m_m_undo 26 [some (.ref a0), some (.int (a1 + 1))] [] (setA h o2 n7 (upd f8 (a1).toNatClampNeg (f6 (((79 * x4) + a1)).toNatClampNeg))) r)) :
    zT E d m_m_undo 26 [some (.ref a0), some (.int a1)] [] h r := by
  refine zT_st (pc' := 29) (L' := [some (.ref a0), some (.int a1)]) (st' := [.int 79, .int a1]) (h' := h) 2 (fun n => rfl) ?_
  by_cases hc : 79 ≤ a1
  · rw [if_pos hc] at hw
    refine zT_st (pc' := 58) (L' := [some (.ref a0), some (.int a1)]) (st' := []) (h' := h) 1 (fun n => if_pos hc) ?_
    refine zT_st (pc' := 59) (L' := [some (.ref a0), some (.int a1)]) (st' := [.ref a0]) (h' := h) 1 (fun n => rfl) ?_
    obtain ⟨x1, e, hw⟩ := hw
    refine zT_st (pc' := 62) (L' := [some (.ref a0), some (.int a1)]) (st' := [.int x1]) (h' := h) 1 (fun n => fld_eq (E := E) e _) ?_
    subst hw
    exact zT_ret 1 rfl
  · rw [if_neg hc] at hw
    refine zT_st (pc' := 32) (L' := [some (.ref a0), some (.int a1)]) (st' := []) (h' := h) 1 (fun n => if_neg hc) ?_
    refine zT_st (pc' := 33) (L' := [some (.ref a0), some (.int a1)]) (st' := [.ref a0]) (h' := h) 1 (fun n => rfl) ?_
    obtain ⟨o2, e, hw⟩ := hw
    refine zT_st (pc' := 36) (L' := [some (.ref a0), some (.int a1)]) (st' := [.ref o2]) (h' := h) 1 (fun n => fld_eq (E := E) e _) ?_
    refine zT_st (pc' := 38) (L' := [some (.ref a0), some (.int a1)]) (st' := [.ref a0, .int a1, .ref o2]) (h' := h) 2 (fun n => rfl) ?_
    obtain ⟨o3, e, hw⟩ := hw
    refine zT_st (pc' := 41) (L' := [some (.ref a0), some (.int a1)]) (st' := [.ref o3, .int a1, .ref o2]) (h' := h) 1 (fun n => fld_eq (E := E) e _) ?_
    refine zT_st (pc' := 44) (L' := [some (.ref a0), some (.int a1)]) (st' := [.ref a0, .int 79, .ref o3, .int a1, .ref o2]) (h' := h) 2 (fun n => rfl) ?_
    obtain ⟨x4, e, hw⟩ := hw
    refine zT_st (pc' := 47) (L' := [some (.ref a0), some (.int a1)]) (st' := [.int x4, .int 79, .ref o3, .int a1, .ref o2]) (h' := h) 1 (fun n => fld_eq (E := E) e _) ?_
    refine zT_st (pc' := 50) (L' := [some (.ref a0), some (.int a1)]) (st' := [.int ((79 * x4) + a1), .ref o3, .int a1, .ref o2]) (h' := h) 3 (fun n => rfl) ?_
    obtain ⟨n5, f6, e, hi, hw⟩ := hw
    refine zT_st (pc' := 51) (L' := [some (.ref a0), some (.int a1)]) (st' := [.int (f6 (((79 * x4) + a1)).toNatClampNeg), .int a1, .ref o2]) (h' := h) 1 (fun n => arr_eq (E := E) e hi [.int a1, .ref o2] (fun st => zrun zP zCd E n d m_m_undo 51 [some (.ref a0), some (.int a1)] st h)) ?_
    obtain ⟨n7, f8, e, hi, hw⟩ := hw
    refine zT_st (pc' := 52) (L' := [some (.ref a0), some (.int a1)]) (st' := []) (h' := (setA h o2 n7 (upd f8 (a1).toNatClampNeg (f6 (((79 * x4) + a1)).toNatClampNeg)))) 1 (fun n => set_eq e hi _ _) ?_
    exact zT_st 2 (fun n => rfl) hw
set_option maxRecDepth 4000 in
theorem s_m_within_0 (E : zX) (d : Nat) (a0 : Int32) (a1 : Int32) (a2 : Int32) (h : zH) (r : zO × zH)
    (hw : if a0 < a1 then (
      r = (.inl (some (.int 0)), h))
    else (
      if a2 < a0 then (
        r = (.inl (some (.int 0)), h))
      else (
        r = (.inl (some (.int 1)), h)))) :
    zT E d m_m_within 0 [some (.int a0), some (.int a1), some (.int a2)] [] h r := by
  refine zT_st (pc' := 2) (L' := [some (.int a0), some (.int a1), some (.int a2)]) (st' := [.int a1, .int a0]) (h' := h) 2 (fun n => rfl) ?_
  by_cases hc : a0 < a1
  · rw [if_pos hc] at hw
    refine zT_st (pc' := 14) (L' := [some (.int a0), some (.int a1), some (.int a2)]) (st' := []) (h' := h) 1 (fun n => if_pos hc) ?_
    subst hw
    exact zT_ret 2 rfl
  · rw [if_neg hc] at hw
    refine zT_st (pc' := 5) (L' := [some (.int a0), some (.int a1), some (.int a2)]) (st' := []) (h' := h) 1 (fun n => if_neg hc) ?_
    refine zT_st (pc' := 7) (L' := [some (.int a0), some (.int a1), some (.int a2)]) (st' := [.int a2, .int a0]) (h' := h) 2 (fun n => rfl) ?_
    by_cases hc : a2 < a0
    · rw [if_pos hc] at hw
      refine zT_st (pc' := 14) (L' := [some (.int a0), some (.int a1), some (.int a2)]) (st' := []) (h' := h) 1 (fun n => if_pos hc) ?_
      subst hw
      exact zT_ret 2 rfl
    · rw [if_neg hc] at hw
      refine zT_st (pc' := 10) (L' := [some (.int a0), some (.int a1), some (.int a2)]) (st' := []) (h' := h) 1 (fun n => if_neg hc) ?_
      subst hw
      exact zT_ret 3 rfl
set_option maxRecDepth 4000 in
theorem s_m_sumOf_0 (E : zX) (d : Nat) (a0 : Nat) (a1 : Int32) (a2 : Int32) (a3 : Int32) (h : zH) (r : zO × zH)
    (hw : zT E d m_m_sumOf 6 [some (.ref a0), some (.int a1), some (.int a2), some (.int a3), some (.int 0), some (.int 0)] [] h r) :
    zT E d m_m_sumOf 0 [some (.ref a0), some (.int a1), some (.int a2), some (.int a3), none, none] [] h r := by
  exact zT_st 4 (fun n => rfl) hw
set_option maxRecDepth 4000 in
theorem s_m_sumOf_6 (E : zX) (d : Nat) (a0 : Nat) (a1 : Int32) (a2 : Int32) (a3 : Int32) (a4 : Int32) (a5 : Int32) (h : zH) (r : zO × zH)
    (hw : if a3 ≤ a5 then (
      r = (.inl (some (.int a4)), h))
    else (
      ∃ o1 : Nat, fld h a0 12 40 = some (.ref o1) ∧
      ∃ (n2 : Nat) (f3 : Nat → Int32), arr h o1 = some (n2, f3) ∧ ¬ (((a1 + a2) + a5) < 0 ∨ n2 ≤ (((a1 + a2) + a5)).toNatClampNeg) ∧
      zT E d m_m_sumOf 6 [some (.ref a0), some (.int a1), some (.int a2), some (.int a3), some (.int (a4 + (f3 (((a1 + a2) + a5)).toNatClampNeg))), some (.int (a5 + 1))] [] h r)) :
    zT E d m_m_sumOf 6 [some (.ref a0), some (.int a1), some (.int a2), some (.int a3), some (.int a4), some (.int a5)] [] h r := by
  refine zT_st (pc' := 9) (L' := [some (.ref a0), some (.int a1), some (.int a2), some (.int a3), some (.int a4), some (.int a5)]) (st' := [.int a3, .int a5]) (h' := h) 2 (fun n => rfl) ?_
  by_cases hc : a3 ≤ a5
  · rw [if_pos hc] at hw
    refine zT_st (pc' := 34) (L' := [some (.ref a0), some (.int a1), some (.int a2), some (.int a3), some (.int a4), some (.int a5)]) (st' := []) (h' := h) 1 (fun n => if_pos hc) ?_
    subst hw
    exact zT_ret 2 rfl
  · rw [if_neg hc] at hw
    refine zT_st (pc' := 12) (L' := [some (.ref a0), some (.int a1), some (.int a2), some (.int a3), some (.int a4), some (.int a5)]) (st' := []) (h' := h) 1 (fun n => if_neg hc) ?_
    refine zT_st (pc' := 15) (L' := [some (.ref a0), some (.int a1), some (.int a2), some (.int a3), some (.int a4), some (.int a5)]) (st' := [.ref a0, .int a4]) (h' := h) 2 (fun n => rfl) ?_
    obtain ⟨o1, e, hw⟩ := hw
    refine zT_st (pc' := 18) (L' := [some (.ref a0), some (.int a1), some (.int a2), some (.int a3), some (.int a4), some (.int a5)]) (st' := [.ref o1, .int a4]) (h' := h) 1 (fun n => fld_eq (E := E) e _) ?_
    refine zT_st (pc' := 24) (L' := [some (.ref a0), some (.int a1), some (.int a2), some (.int a3), some (.int a4), some (.int a5)]) (st' := [.int ((a1 + a2) + a5), .ref o1, .int a4]) (h' := h) 5 (fun n => rfl) ?_
    obtain ⟨n2, f3, e, hi, hw⟩ := hw
    refine zT_st (pc' := 25) (L' := [some (.ref a0), some (.int a1), some (.int a2), some (.int a3), some (.int a4), some (.int a5)]) (st' := [.int (f3 (((a1 + a2) + a5)).toNatClampNeg), .int a4]) (h' := h) 1 (fun n => arr_eq (E := E) e hi [.int a4] (fun st => zrun zP zCd E n d m_m_sumOf 25 [some (.ref a0), some (.int a1), some (.int a2), some (.int a3), some (.int a4), some (.int a5)] st h)) ?_
    exact zT_st 4 (fun n => rfl) hw
set_option maxRecDepth 4000 in
theorem s_m_setOff_0 (E : zX) (d : Nat) (a0 : Nat) (a1 : Int32) (a2 : Int32) (a3 : Int32) (h : zH) (r : zO × zH)
    (hw : zT E (d + 1) m_m_setOff 6 [some (.ref a0), some (.int a1), some (.int a2), some (.int a3), some (.int a2), some (.int 1), none, none] [] h r) :
    zT E (d + 1) m_m_setOff 0 [some (.ref a0), some (.int a1), some (.int a2), some (.int a3), none, none, none, none] [] h r := by
  exact zT_st 4 (fun n => rfl) hw
set_option maxRecDepth 4000 in
theorem s_m_setOff_6 (E : zX) (d : Nat) (a0 : Nat) (a1 : Int32) (j2 : Option Value) (a3 : Int32) (a4 : Int32) (a5 : Int32) (j6 : Option Value) (j7 : Option Value) (h : zH) (r : zO × zH)
    (hw : if a5 = 0 then (
      r = (.inl (some (.int a4)), h))
    else (
      zT E (d + 1) m_m_setOff 17 [some (.ref a0), some (.int a1), j2, some (.int a3), some (.int a4), some (.int 0), some (.int 0), j7] [] h r)) :
    zT E (d + 1) m_m_setOff 6 [some (.ref a0), some (.int a1), j2, some (.int a3), some (.int a4), some (.int a5), j6, j7] [] h r := by
  refine zT_st (pc' := 8) (L' := [some (.ref a0), some (.int a1), j2, some (.int a3), some (.int a4), some (.int a5), j6, j7]) (st' := [.int a5]) (h' := h) 1 (fun n => rfl) ?_
  by_cases hc : a5 = 0
  · rw [if_pos hc] at hw
    refine zT_st (pc' := 121) (L' := [some (.ref a0), some (.int a1), j2, some (.int a3), some (.int a4), some (.int a5), j6, j7]) (st' := []) (h' := h) 1 (fun n => if_pos hc) ?_
    subst hw
    exact zT_ret 2 rfl
  · rw [if_neg hc] at hw
    refine zT_st (pc' := 11) (L' := [some (.ref a0), some (.int a1), j2, some (.int a3), some (.int a4), some (.int a5), j6, j7]) (st' := []) (h' := h) 1 (fun n => if_neg hc) ?_
    exact zT_st 4 (fun n => rfl) hw
set_option maxRecDepth 4000 in
theorem s_m_setOff_17 (E : zX) (d : Nat) (a0 : Nat) (a1 : Int32) (j2 : Option Value) (a3 : Int32) (a4 : Int32) (a5 : Int32) (a6 : Int32) (j7 : Option Value) (h : zH) (r : zO × zH)
    (hw : ∃ x1 : Int32, fld h a0 12 4 = some (.int x1) ∧
    if x1 ≤ a6 then (
      zT E (d + 1) m_m_setOff 6 [some (.ref a0), some (.int a1), j2, some (.int a3), some (.int a4), some (.int a5), some (.int a6), j7] [] h r)
    else (
      zT E (d + 1) m_m_setOff 29 [some (.ref a0), some (.int a1), j2, some (.int a3), some (.int a4), some (.int a5), some (.int a6), some (.int 0)] [] h r)) :
    zT E (d + 1) m_m_setOff 17 [some (.ref a0), some (.int a1), j2, some (.int a3), some (.int a4), some (.int a5), some (.int a6), j7] [] h r := by
  refine zT_st (pc' := 20) (L' := [some (.ref a0), some (.int a1), j2, some (.int a3), some (.int a4), some (.int a5), some (.int a6), j7]) (st' := [.ref a0, .int a6]) (h' := h) 2 (fun n => rfl) ?_
  obtain ⟨x1, e, hw⟩ := hw
  refine zT_st (pc' := 23) (L' := [some (.ref a0), some (.int a1), j2, some (.int a3), some (.int a4), some (.int a5), some (.int a6), j7]) (st' := [.int x1, .int a6]) (h' := h) 1 (fun n => fld_eq (E := E) e _) ?_
  by_cases hc : x1 ≤ a6
  · rw [if_pos hc] at hw
    refine zT_st (pc' := 118) (L' := [some (.ref a0), some (.int a1), j2, some (.int a3), some (.int a4), some (.int a5), some (.int a6), j7]) (st' := []) (h' := h) 1 (fun n => if_pos hc) ?_
    exact zT_st 1 (fun n => rfl) hw
  · rw [if_neg hc] at hw
    refine zT_st (pc' := 26) (L' := [some (.ref a0), some (.int a1), j2, some (.int a3), some (.int a4), some (.int a5), some (.int a6), j7]) (st' := []) (h' := h) 1 (fun n => if_neg hc) ?_
    exact zT_st 2 (fun n => rfl) hw
set_option maxRecDepth 4000 in
theorem s_m_setOff_29 (E : zX) (d : Nat) (a0 : Nat) (a1 : Int32) (j2 : Option Value) (a3 : Int32) (a4 : Int32) (a5 : Int32) (a6 : Int32) (a7 : Int32) (h : zH) (r : zO × zH)
    (hw : ∃ x1 : Int32, fld h a0 12 4 = some (.int x1) ∧
    if x1 ≤ a7 then (
      zT E (d + 1) m_m_setOff 17 [some (.ref a0), some (.int a1), j2, some (.int a3), some (.int a4), some (.int a5), some (.int (a6 + 1)), some (.int a7)] [] h r)
    else (
      if ((a4 >>> (a6 &&& 31)) &&& 1) = 1 then (
        if ((a4 >>> (a7 &&& 31)) &&& 1) = 1 then (
          zT E (d + 1) m_m_setOff 29 [some (.ref a0), some (.int a1), j2, some (.int a3), some (.int a4), some (.int a5), some (.int a6), some (.int (a7 + 1))] [] h r)
        else (
          if ((a3 >>> (a7 &&& 31)) &&& 1) = 0 then (
            zT E (d + 1) m_m_setOff 29 [some (.ref a0), some (.int a1), j2, some (.int a3), some (.int a4), some (.int a5), some (.int a6), some (.int (a7 + 1))] [] h r)
          else (
            ∃ o2 : Nat, fld h a0 12 40 = some (.ref o2) ∧
            ∃ (n3 : Nat) (f4 : Nat → Int32), arr h o2 = some (n3, f4) ∧ ¬ (((a1 + 29) + a7) < 0 ∨ n3 ≤ (((a1 + 29) + a7)).toNatClampNeg) ∧
            isO h a0 12 = true ∧ ∃ (x5 : Int32) (h6 : zH), zT E d m_m_isIn 0 [some (.ref a0), some (.int a1), some (.int a6), some (.int (f4 (((a1 + 29) + a7)).toNatClampNeg))] [] h (.inl (some (.int x5)), h6) ∧
            if x5 = 0 then (
              zT E (d + 1) m_m_setOff 29 [some (.ref a0), some (.int a1), j2, some (.int a3), some (.int a4), some (.int a5), some (.int a6), some (.int (a7 + 1))] [] h6 r)
            else (
              zT E (d + 1) m_m_setOff 29 [some (.ref a0), some (.int a1), j2, some (.int a3), some (.int (a4 ||| (1 <<< (a7 &&& 31)))), some (.int 1), some (.int a6), some (.int (a7 + 1))] [] h6 r))))
      else (
        zT E (d + 1) m_m_setOff 17 [some (.ref a0), some (.int a1), j2, some (.int a3), some (.int a4), some (.int a5), some (.int (a6 + 1)), some (.int a7)] [] h r))) :
    zT E (d + 1) m_m_setOff 29 [some (.ref a0), some (.int a1), j2, some (.int a3), some (.int a4), some (.int a5), some (.int a6), some (.int a7)] [] h r := by
  refine zT_st (pc' := 32) (L' := [some (.ref a0), some (.int a1), j2, some (.int a3), some (.int a4), some (.int a5), some (.int a6), some (.int a7)]) (st' := [.ref a0, .int a7]) (h' := h) 2 (fun n => rfl) ?_
  obtain ⟨x1, e, hw⟩ := hw
  refine zT_st (pc' := 35) (L' := [some (.ref a0), some (.int a1), j2, some (.int a3), some (.int a4), some (.int a5), some (.int a6), some (.int a7)]) (st' := [.int x1, .int a7]) (h' := h) 1 (fun n => fld_eq (E := E) e _) ?_
  by_cases hc : x1 ≤ a7
  · rw [if_pos hc] at hw
    refine zT_st (pc' := 112) (L' := [some (.ref a0), some (.int a1), j2, some (.int a3), some (.int a4), some (.int a5), some (.int a6), some (.int a7)]) (st' := []) (h' := h) 1 (fun n => if_pos hc) ?_
    exact zT_st 2 (fun n => rfl) hw
  · rw [if_neg hc] at hw
    refine zT_st (pc' := 38) (L' := [some (.ref a0), some (.int a1), j2, some (.int a3), some (.int a4), some (.int a5), some (.int a6), some (.int a7)]) (st' := []) (h' := h) 1 (fun n => if_neg hc) ?_
    refine zT_st (pc' := 46) (L' := [some (.ref a0), some (.int a1), j2, some (.int a3), some (.int a4), some (.int a5), some (.int a6), some (.int a7)]) (st' := [.int 1, .int ((a4 >>> (a6 &&& 31)) &&& 1)]) (h' := h) 6 (fun n => rfl) ?_
    by_cases hc : ((a4 >>> (a6 &&& 31)) &&& 1) = 1
    · rw [if_pos hc] at hw
      refine zT_st (pc' := 49) (L' := [some (.ref a0), some (.int a1), j2, some (.int a3), some (.int a4), some (.int a5), some (.int a6), some (.int a7)]) (st' := []) (h' := h) 1 (fun n => if_pos hc) ?_
      refine zT_st (pc' := 57) (L' := [some (.ref a0), some (.int a1), j2, some (.int a3), some (.int a4), some (.int a5), some (.int a6), some (.int a7)]) (st' := [.int 1, .int ((a4 >>> (a7 &&& 31)) &&& 1)]) (h' := h) 6 (fun n => rfl) ?_
      by_cases hc : ((a4 >>> (a7 &&& 31)) &&& 1) = 1
      · rw [if_pos hc] at hw
        refine zT_st (pc' := 106) (L' := [some (.ref a0), some (.int a1), j2, some (.int a3), some (.int a4), some (.int a5), some (.int a6), some (.int a7)]) (st' := []) (h' := h) 1 (fun n => if_pos hc) ?_
        exact zT_st 2 (fun n => rfl) hw
      · rw [if_neg hc] at hw
        refine zT_st (pc' := 60) (L' := [some (.ref a0), some (.int a1), j2, some (.int a3), some (.int a4), some (.int a5), some (.int a6), some (.int a7)]) (st' := []) (h' := h) 1 (fun n => if_neg hc) ?_
        refine zT_st (pc' := 66) (L' := [some (.ref a0), some (.int a1), j2, some (.int a3), some (.int a4), some (.int a5), some (.int a6), some (.int a7)]) (st' := [.int ((a3 >>> (a7 &&& 31)) &&& 1)]) (h' := h) 5 (fun n => rfl) ?_
        by_cases hc : ((a3 >>> (a7 &&& 31)) &&& 1) = 0
        · rw [if_pos hc] at hw
          refine zT_st (pc' := 106) (L' := [some (.ref a0), some (.int a1), j2, some (.int a3), some (.int a4), some (.int a5), some (.int a6), some (.int a7)]) (st' := []) (h' := h) 1 (fun n => if_pos hc) ?_
          exact zT_st 2 (fun n => rfl) hw
        · rw [if_neg hc] at hw
          refine zT_st (pc' := 69) (L' := [some (.ref a0), some (.int a1), j2, some (.int a3), some (.int a4), some (.int a5), some (.int a6), some (.int a7)]) (st' := []) (h' := h) 1 (fun n => if_neg hc) ?_
          refine zT_st (pc' := 74) (L' := [some (.ref a0), some (.int a1), j2, some (.int a3), some (.int a4), some (.int a5), some (.int a6), some (.int a7)]) (st' := [.ref a0, .int a6, .int a1, .ref a0]) (h' := h) 4 (fun n => rfl) ?_
          obtain ⟨o2, e, hw⟩ := hw
          refine zT_st (pc' := 77) (L' := [some (.ref a0), some (.int a1), j2, some (.int a3), some (.int a4), some (.int a5), some (.int a6), some (.int a7)]) (st' := [.ref o2, .int a6, .int a1, .ref a0]) (h' := h) 1 (fun n => fld_eq (E := E) e _) ?_
          refine zT_st (pc' := 84) (L' := [some (.ref a0), some (.int a1), j2, some (.int a3), some (.int a4), some (.int a5), some (.int a6), some (.int a7)]) (st' := [.int ((a1 + 29) + a7), .ref o2, .int a6, .int a1, .ref a0]) (h' := h) 5 (fun n => rfl) ?_
          obtain ⟨n3, f4, e, hi, hw⟩ := hw
          refine zT_st (pc' := 85) (L' := [some (.ref a0), some (.int a1), j2, some (.int a3), some (.int a4), some (.int a5), some (.int a6), some (.int a7)]) (st' := [.int (f4 (((a1 + 29) + a7)).toNatClampNeg), .int a6, .int a1, .ref a0]) (h' := h) 1 (fun n => arr_eq (E := E) e hi [.int a6, .int a1, .ref a0] (fun st => zrun zP zCd E n (d + 1) m_m_setOff 85 [some (.ref a0), some (.int a1), j2, some (.int a3), some (.int a4), some (.int a5), some (.int a6), some (.int a7)] st h)) ?_
          obtain ⟨hq, hw⟩ := hw
          obtain ⟨x5, h6, hx, hw⟩ := hw
          refine zT_call (pc' := 88) (rest := []) 1 (fun n => rfl) hq hx ?_
          show zT E (d + 1) m_m_setOff 88 [some (.ref a0), some (.int a1), j2, some (.int a3), some (.int a4), some (.int a5), some (.int a6), some (.int a7)] [.int x5] h6 r
          by_cases hc : x5 = 0
          · rw [if_pos hc] at hw
            refine zT_st (pc' := 91) (L' := [some (.ref a0), some (.int a1), j2, some (.int a3), some (.int a4), some (.int a5), some (.int a6), some (.int a7)]) (st' := []) (h' := h6) 1 (fun n => if_pos hc) ?_
            exact zT_st 3 (fun n => rfl) hw
          · rw [if_neg hc] at hw
            refine zT_st (pc' := 94) (L' := [some (.ref a0), some (.int a1), j2, some (.int a3), some (.int a4), some (.int a5), some (.int a6), some (.int a7)]) (st' := []) (h' := h6) 1 (fun n => if_neg hc) ?_
            exact zT_st 10 (fun n => rfl) hw
    · rw [if_neg hc] at hw
      refine zT_st (pc' := 112) (L' := [some (.ref a0), some (.int a1), j2, some (.int a3), some (.int a4), some (.int a5), some (.int a6), some (.int a7)]) (st' := []) (h' := h) 1 (fun n => if_neg hc) ?_
      exact zT_st 2 (fun n => rfl) hw
set_option maxRecDepth 4000 in
theorem s_m_person_0 (E : zX) (d : Nat) (a0 : Nat) (a1 : Int32) (a2 : Int32) (h : zH) (r : zO × zH)
    (hw : (∃ w, fld h a0 12 0 = some w) ∧
    isO (setF h a0 0 (.int 0)) a0 12 = true ∧ ∃ (x1 : Int32) (h2 : zH), zT E d m_m_isPerson 0 [some (.ref a0), some (.int a1)] [] (setF h a0 0 (.int 0)) (.inl (some (.int x1)), h2) ∧
    if x1 = 0 then (
      r = (.inl (some (.int 0)), h2))
    else (
      isO h2 a0 12 = true ∧ ∃ (x3 : Int32) (h4 : zH), zT E d m_m_isWhat 0 [some (.ref a0), some (.int a2), some (.int 6)] [] h2 (.inl (some (.int x3)), h4) ∧
      if x3 = 0 then (
        r = (.inl (some (.int 0)), h4))
      else (
        if a2 = 0 then (
          ∃ o5 : Nat, fld h4 a0 12 7 = some (.ref o5) ∧
          ∃ (n6 : Nat) (f7 : Nat → Int32), arr h4 o5 = some (n6, f7) ∧ ¬ (a1 < 0 ∨ n6 ≤ (a1).toNatClampNeg) ∧
          r = (.inl (some (.int (f7 (a1).toNatClampNeg))), h4))
        else if a2 = 1 then (
          ∃ o8 : Nat, fld h4 a0 12 40 = some (.ref o8) ∧
          ∃ (n9 : Nat) (f10 : Nat → Int32), arr h4 o8 = some (n9, f10) ∧ ¬ ((22 + a1) < 0 ∨ n9 ≤ ((22 + a1)).toNatClampNeg) ∧
          r = (.inl (some (.int (f10 ((22 + a1)).toNatClampNeg))), h4))
        else if a2 = 2 then (
          ∃ o11 : Nat, fld h4 a0 12 40 = some (.ref o11) ∧
          ∃ (n12 : Nat) (f13 : Nat → Int32), arr h4 o11 = some (n12, f13) ∧ ¬ ((1 + a1) < 0 ∨ n12 ≤ ((1 + a1)).toNatClampNeg) ∧
          r = (.inl (some (.int (f13 ((1 + a1)).toNatClampNeg))), h4))
        else if a2 = 3 then (
          ∃ o14 : Nat, fld h4 a0 12 40 = some (.ref o14) ∧
          ∃ (n15 : Nat) (f16 : Nat → Int32), arr h4 o14 = some (n15, f16) ∧ ¬ ((8 + a1) < 0 ∨ n15 ≤ ((8 + a1)).toNatClampNeg) ∧
          r = (.inl (some (.int (f16 ((8 + a1)).toNatClampNeg))), h4))
        else if a2 = 4 then (
          ∃ o17 : Nat, fld h4 a0 12 40 = some (.ref o17) ∧
          ∃ (n18 : Nat) (f19 : Nat → Int32), arr h4 o17 = some (n18, f19) ∧ ¬ ((15 + a1) < 0 ∨ n18 ≤ ((15 + a1)).toNatClampNeg) ∧
          r = (.inl (some (.int (f19 ((15 + a1)).toNatClampNeg))), h4))
        else if a2 = 5 then (
          isO h4 a0 12 = true ∧ ∃ (x20 : Int32) (h21 : zH), zT E d m_m_ownOnes 0 [some (.ref a0), some (.int 0), some (.int a1), none, none] [] h4 (.inl (some (.int x20)), h21) ∧
          r = (.inl (some (.int x20)), h21))
        else (
          isO h4 a0 12 = true ∧ ∃ (x22 : Int32) (h23 : zH), zT E d m_m_ballFor 0 [some (.ref a0), some (.int 0), some (.int a1), none, none] [] h4 (.inl (some (.int x22)), h23) ∧
          r = (.inl (some (.int x22)), h23))))) :
    zT E (d + 1) m_m_person 0 [some (.ref a0), some (.int a1), some (.int a2)] [] h r := by
  refine zT_st (pc' := 2) (L' := [some (.ref a0), some (.int a1), some (.int a2)]) (st' := [.int 0, .ref a0]) (h' := h) 2 (fun n => rfl) ?_
  obtain ⟨⟨w, e⟩, hw⟩ := hw
  refine zT_st (pc' := 5) (L' := [some (.ref a0), some (.int a1), some (.int a2)]) (st' := []) (h' := (setF h a0 0 (.int 0))) 1 (fun n => put_eq e rfl _ _) ?_
  refine zT_st (pc' := 7) (L' := [some (.ref a0), some (.int a1), some (.int a2)]) (st' := [.int a1, .ref a0]) (h' := (setF h a0 0 (.int 0))) 2 (fun n => rfl) ?_
  obtain ⟨hq, hw⟩ := hw
  obtain ⟨x1, h2, hx, hw⟩ := hw
  refine zT_call (pc' := 10) (rest := []) 1 (fun n => rfl) hq hx ?_
  show zT E (d + 1) m_m_person 10 [some (.ref a0), some (.int a1), some (.int a2)] [.int x1] h2 r
  by_cases hc : x1 = 0
  · rw [if_pos hc] at hw
    refine zT_st (pc' := 23) (L' := [some (.ref a0), some (.int a1), some (.int a2)]) (st' := []) (h' := h2) 1 (fun n => if_pos hc) ?_
    subst hw
    exact zT_ret 2 rfl
  · rw [if_neg hc] at hw
    refine zT_st (pc' := 13) (L' := [some (.ref a0), some (.int a1), some (.int a2)]) (st' := []) (h' := h2) 1 (fun n => if_neg hc) ?_
    refine zT_st (pc' := 17) (L' := [some (.ref a0), some (.int a1), some (.int a2)]) (st' := [.int 6, .int a2, .ref a0]) (h' := h2) 3 (fun n => rfl) ?_
    obtain ⟨hq, hw⟩ := hw
    obtain ⟨x3, h4, hx, hw⟩ := hw
    refine zT_call (pc' := 20) (rest := []) 1 (fun n => rfl) hq hx ?_
    show zT E (d + 1) m_m_person 20 [some (.ref a0), some (.int a1), some (.int a2)] [.int x3] h4 r
    by_cases hc : x3 = 0
    · rw [if_pos hc] at hw
      refine zT_st (pc' := 23) (L' := [some (.ref a0), some (.int a1), some (.int a2)]) (st' := []) (h' := h4) 1 (fun n => if_pos hc) ?_
      subst hw
      exact zT_ret 2 rfl
    · rw [if_neg hc] at hw
      refine zT_st (pc' := 25) (L' := [some (.ref a0), some (.int a1), some (.int a2)]) (st' := []) (h' := h4) 1 (fun n => if_neg hc) ?_
      refine zT_st (pc' := 26) (L' := [some (.ref a0), some (.int a1), some (.int a2)]) (st' := [.int a2]) (h' := h4) 1 (fun n => rfl) ?_
      by_cases c0 : a2 = 0
      · rw [if_pos c0] at hw
        refine zT_st (pc' := 64) (L' := [some (.ref a0), some (.int a1), some (.int a2)]) (st' := []) (h' := h4) 1 (fun n => zsw_in c0 rfl) ?_
        refine zT_st (pc' := 65) (L' := [some (.ref a0), some (.int a1), some (.int a2)]) (st' := [.ref a0]) (h' := h4) 1 (fun n => rfl) ?_
        obtain ⟨o5, e, hw⟩ := hw
        refine zT_st (pc' := 68) (L' := [some (.ref a0), some (.int a1), some (.int a2)]) (st' := [.ref o5]) (h' := h4) 1 (fun n => fld_eq (E := E) e _) ?_
        refine zT_st (pc' := 69) (L' := [some (.ref a0), some (.int a1), some (.int a2)]) (st' := [.int a1, .ref o5]) (h' := h4) 1 (fun n => rfl) ?_
        obtain ⟨n6, f7, e, hi, hw⟩ := hw
        refine zT_st (pc' := 70) (L' := [some (.ref a0), some (.int a1), some (.int a2)]) (st' := [.int (f7 (a1).toNatClampNeg)]) (h' := h4) 1 (fun n => arr_eq (E := E) e hi [] (fun st => zrun zP zCd E n (d + 1) m_m_person 70 [some (.ref a0), some (.int a1), some (.int a2)] st h4)) ?_
        subst hw
        exact zT_ret 1 rfl
      rw [if_neg c0] at hw
      by_cases c1 : a2 = 1
      · rw [if_pos c1] at hw
        refine zT_st (pc' := 71) (L' := [some (.ref a0), some (.int a1), some (.int a2)]) (st' := []) (h' := h4) 1 (fun n => zsw_in c1 rfl) ?_
        refine zT_st (pc' := 72) (L' := [some (.ref a0), some (.int a1), some (.int a2)]) (st' := [.ref a0]) (h' := h4) 1 (fun n => rfl) ?_
        obtain ⟨o8, e, hw⟩ := hw
        refine zT_st (pc' := 75) (L' := [some (.ref a0), some (.int a1), some (.int a2)]) (st' := [.ref o8]) (h' := h4) 1 (fun n => fld_eq (E := E) e _) ?_
        refine zT_st (pc' := 79) (L' := [some (.ref a0), some (.int a1), some (.int a2)]) (st' := [.int (22 + a1), .ref o8]) (h' := h4) 3 (fun n => rfl) ?_
        obtain ⟨n9, f10, e, hi, hw⟩ := hw
        refine zT_st (pc' := 80) (L' := [some (.ref a0), some (.int a1), some (.int a2)]) (st' := [.int (f10 ((22 + a1)).toNatClampNeg)]) (h' := h4) 1 (fun n => arr_eq (E := E) e hi [] (fun st => zrun zP zCd E n (d + 1) m_m_person 80 [some (.ref a0), some (.int a1), some (.int a2)] st h4)) ?_
        subst hw
        exact zT_ret 1 rfl
      rw [if_neg c1] at hw
      by_cases c2 : a2 = 2
      · rw [if_pos c2] at hw
        refine zT_st (pc' := 81) (L' := [some (.ref a0), some (.int a1), some (.int a2)]) (st' := []) (h' := h4) 1 (fun n => zsw_in c2 rfl) ?_
        refine zT_st (pc' := 82) (L' := [some (.ref a0), some (.int a1), some (.int a2)]) (st' := [.ref a0]) (h' := h4) 1 (fun n => rfl) ?_
        obtain ⟨o11, e, hw⟩ := hw
        refine zT_st (pc' := 85) (L' := [some (.ref a0), some (.int a1), some (.int a2)]) (st' := [.ref o11]) (h' := h4) 1 (fun n => fld_eq (E := E) e _) ?_
        refine zT_st (pc' := 88) (L' := [some (.ref a0), some (.int a1), some (.int a2)]) (st' := [.int (1 + a1), .ref o11]) (h' := h4) 3 (fun n => rfl) ?_
        obtain ⟨n12, f13, e, hi, hw⟩ := hw
        refine zT_st (pc' := 89) (L' := [some (.ref a0), some (.int a1), some (.int a2)]) (st' := [.int (f13 ((1 + a1)).toNatClampNeg)]) (h' := h4) 1 (fun n => arr_eq (E := E) e hi [] (fun st => zrun zP zCd E n (d + 1) m_m_person 89 [some (.ref a0), some (.int a1), some (.int a2)] st h4)) ?_
        subst hw
        exact zT_ret 1 rfl
      rw [if_neg c2] at hw
      by_cases c3 : a2 = 3
      · rw [if_pos c3] at hw
        refine zT_st (pc' := 90) (L' := [some (.ref a0), some (.int a1), some (.int a2)]) (st' := []) (h' := h4) 1 (fun n => zsw_in c3 rfl) ?_
        refine zT_st (pc' := 91) (L' := [some (.ref a0), some (.int a1), some (.int a2)]) (st' := [.ref a0]) (h' := h4) 1 (fun n => rfl) ?_
        obtain ⟨o14, e, hw⟩ := hw
        refine zT_st (pc' := 94) (L' := [some (.ref a0), some (.int a1), some (.int a2)]) (st' := [.ref o14]) (h' := h4) 1 (fun n => fld_eq (E := E) e _) ?_
        refine zT_st (pc' := 98) (L' := [some (.ref a0), some (.int a1), some (.int a2)]) (st' := [.int (8 + a1), .ref o14]) (h' := h4) 3 (fun n => rfl) ?_
        obtain ⟨n15, f16, e, hi, hw⟩ := hw
        refine zT_st (pc' := 99) (L' := [some (.ref a0), some (.int a1), some (.int a2)]) (st' := [.int (f16 ((8 + a1)).toNatClampNeg)]) (h' := h4) 1 (fun n => arr_eq (E := E) e hi [] (fun st => zrun zP zCd E n (d + 1) m_m_person 99 [some (.ref a0), some (.int a1), some (.int a2)] st h4)) ?_
        subst hw
        exact zT_ret 1 rfl
      rw [if_neg c3] at hw
      by_cases c4 : a2 = 4
      · rw [if_pos c4] at hw
        refine zT_st (pc' := 100) (L' := [some (.ref a0), some (.int a1), some (.int a2)]) (st' := []) (h' := h4) 1 (fun n => zsw_in c4 rfl) ?_
        refine zT_st (pc' := 101) (L' := [some (.ref a0), some (.int a1), some (.int a2)]) (st' := [.ref a0]) (h' := h4) 1 (fun n => rfl) ?_
        obtain ⟨o17, e, hw⟩ := hw
        refine zT_st (pc' := 104) (L' := [some (.ref a0), some (.int a1), some (.int a2)]) (st' := [.ref o17]) (h' := h4) 1 (fun n => fld_eq (E := E) e _) ?_
        refine zT_st (pc' := 108) (L' := [some (.ref a0), some (.int a1), some (.int a2)]) (st' := [.int (15 + a1), .ref o17]) (h' := h4) 3 (fun n => rfl) ?_
        obtain ⟨n18, f19, e, hi, hw⟩ := hw
        refine zT_st (pc' := 109) (L' := [some (.ref a0), some (.int a1), some (.int a2)]) (st' := [.int (f19 ((15 + a1)).toNatClampNeg)]) (h' := h4) 1 (fun n => arr_eq (E := E) e hi [] (fun st => zrun zP zCd E n (d + 1) m_m_person 109 [some (.ref a0), some (.int a1), some (.int a2)] st h4)) ?_
        subst hw
        exact zT_ret 1 rfl
      rw [if_neg c4] at hw
      by_cases c5 : a2 = 5
      · rw [if_pos c5] at hw
        refine zT_st (pc' := 110) (L' := [some (.ref a0), some (.int a1), some (.int a2)]) (st' := []) (h' := h4) 1 (fun n => zsw_in c5 rfl) ?_
        refine zT_st (pc' := 113) (L' := [some (.ref a0), some (.int a1), some (.int a2)]) (st' := [.int a1, .int 0, .ref a0]) (h' := h4) 3 (fun n => rfl) ?_
        obtain ⟨hq, hw⟩ := hw
        obtain ⟨x20, h21, hx, hw⟩ := hw
        refine zT_call (pc' := 116) (rest := []) 1 (fun n => rfl) hq hx ?_
        show zT E (d + 1) m_m_person 116 [some (.ref a0), some (.int a1), some (.int a2)] [.int x20] h21 r
        subst hw
        exact zT_ret 1 rfl
      rw [if_neg c5] at hw
      refine zT_st (pc' := 117) (L' := [some (.ref a0), some (.int a1), some (.int a2)]) (st' := []) (h' := h4) 1 (fun n => zsw_out (zout (n := 6) (by decide) (fun k hk => by rcases k with _ | _ | _ | _ | _ | _ | k <;> first | assumption | omega)) rfl) ?_
      refine zT_st (pc' := 120) (L' := [some (.ref a0), some (.int a1), some (.int a2)]) (st' := [.int a1, .int 0, .ref a0]) (h' := h4) 3 (fun n => rfl) ?_
      obtain ⟨hq, hw⟩ := hw
      obtain ⟨x22, h23, hx, hw⟩ := hw
      refine zT_call (pc' := 123) (rest := []) 1 (fun n => rfl) hq hx ?_
      show zT E (d + 1) m_m_person 123 [some (.ref a0), some (.int a1), some (.int a2)] [.int x22] h23 r
      subst hw
      exact zT_ret 1 rfl
set_option maxRecDepth 4000 in
theorem s_m_ownOnes_0 (E : zX) (d : Nat) (a0 : Nat) (a1 : Int32) (a2 : Int32) (h : zH) (r : zO × zH)
    (hw : zT E d m_m_ownOnes 5 [some (.ref a0), some (.int a1), some (.int a2), some (.int 0), some (.int 0)] [] h r) :
    zT E d m_m_ownOnes 0 [some (.ref a0), some (.int a1), some (.int a2), none, none] [] h r := by
  exact zT_st 4 (fun n => rfl) hw
set_option maxRecDepth 4000 in
theorem s_m_ownOnes_5 (E : zX) (d : Nat) (a0 : Nat) (a1 : Int32) (a2 : Int32) (a3 : Int32) (a4 : Int32) (h : zH) (r : zO × zH)
    (hw : ∃ x1 : Int32, fld h a0 12 4 = some (.int x1) ∧
    if x1 ≤ a4 then (
      r = (.inl (some (.int a3)), h))
    else (
      ∃ o2 : Nat, fld h a0 12 40 = some (.ref o2) ∧
      ∃ (n3 : Nat) (f4 : Nat → Int32), arr h o2 = some (n3, f4) ∧ ¬ (((a1 + 59) + a4) < 0 ∨ n3 ≤ (((a1 + 59) + a4)).toNatClampNeg) ∧
      if (f4 (((a1 + 59) + a4)).toNatClampNeg) = a2 then (
        zT E d m_m_ownOnes 5 [some (.ref a0), some (.int a1), some (.int a2), some (.int (a3 ||| (1 <<< (a4 &&& 31)))), some (.int (a4 + 1))] [] h r)
      else (
        zT E d m_m_ownOnes 5 [some (.ref a0), some (.int a1), some (.int a2), some (.int (a3 ||| 0)), some (.int (a4 + 1))] [] h r))) :
    zT E d m_m_ownOnes 5 [some (.ref a0), some (.int a1), some (.int a2), some (.int a3), some (.int a4)] [] h r := by
  refine zT_st (pc' := 8) (L' := [some (.ref a0), some (.int a1), some (.int a2), some (.int a3), some (.int a4)]) (st' := [.ref a0, .int a4]) (h' := h) 2 (fun n => rfl) ?_
  obtain ⟨x1, e, hw⟩ := hw
  refine zT_st (pc' := 11) (L' := [some (.ref a0), some (.int a1), some (.int a2), some (.int a3), some (.int a4)]) (st' := [.int x1, .int a4]) (h' := h) 1 (fun n => fld_eq (E := E) e _) ?_
  by_cases hc : x1 ≤ a4
  · rw [if_pos hc] at hw
    refine zT_st (pc' := 47) (L' := [some (.ref a0), some (.int a1), some (.int a2), some (.int a3), some (.int a4)]) (st' := []) (h' := h) 1 (fun n => if_pos hc) ?_
    subst hw
    exact zT_ret 2 rfl
  · rw [if_neg hc] at hw
    refine zT_st (pc' := 14) (L' := [some (.ref a0), some (.int a1), some (.int a2), some (.int a3), some (.int a4)]) (st' := []) (h' := h) 1 (fun n => if_neg hc) ?_
    refine zT_st (pc' := 16) (L' := [some (.ref a0), some (.int a1), some (.int a2), some (.int a3), some (.int a4)]) (st' := [.ref a0, .int a3]) (h' := h) 2 (fun n => rfl) ?_
    obtain ⟨o2, e, hw⟩ := hw
    refine zT_st (pc' := 19) (L' := [some (.ref a0), some (.int a1), some (.int a2), some (.int a3), some (.int a4)]) (st' := [.ref o2, .int a3]) (h' := h) 1 (fun n => fld_eq (E := E) e _) ?_
    refine zT_st (pc' := 26) (L' := [some (.ref a0), some (.int a1), some (.int a2), some (.int a3), some (.int a4)]) (st' := [.int ((a1 + 59) + a4), .ref o2, .int a3]) (h' := h) 5 (fun n => rfl) ?_
    obtain ⟨n3, f4, e, hi, hw⟩ := hw
    refine zT_st (pc' := 27) (L' := [some (.ref a0), some (.int a1), some (.int a2), some (.int a3), some (.int a4)]) (st' := [.int (f4 (((a1 + 59) + a4)).toNatClampNeg), .int a3]) (h' := h) 1 (fun n => arr_eq (E := E) e hi [.int a3] (fun st => zrun zP zCd E n d m_m_ownOnes 27 [some (.ref a0), some (.int a1), some (.int a2), some (.int a3), some (.int a4)] st h)) ?_
    refine zT_st (pc' := 28) (L' := [some (.ref a0), some (.int a1), some (.int a2), some (.int a3), some (.int a4)]) (st' := [.int a2, .int (f4 (((a1 + 59) + a4)).toNatClampNeg), .int a3]) (h' := h) 1 (fun n => rfl) ?_
    by_cases hc : (f4 (((a1 + 59) + a4)).toNatClampNeg) = a2
    · rw [if_pos hc] at hw
      refine zT_st (pc' := 31) (L' := [some (.ref a0), some (.int a1), some (.int a2), some (.int a3), some (.int a4)]) (st' := [.int a3]) (h' := h) 1 (fun n => if_pos hc) ?_
      exact zT_st 8 (fun n => rfl) hw
    · rw [if_neg hc] at hw
      refine zT_st (pc' := 38) (L' := [some (.ref a0), some (.int a1), some (.int a2), some (.int a3), some (.int a4)]) (st' := [.int a3]) (h' := h) 1 (fun n => if_neg hc) ?_
      exact zT_st 5 (fun n => rfl) hw
set_option maxRecDepth 4000 in
theorem s_m_setOffBy_0 (E : zX) (d : Nat) (a0 : Nat) (a1 : Int32) (h : zH) (r : zO × zH)
    (hw : isO h a0 12 = true ∧ ∃ (x1 : Int32) (h2 : zH), zT E d m_m_isWhite 0 [some (.ref a0), some (.int 0), some (.int a1)] [] h (.inl (some (.int x1)), h2) ∧
    if x1 = 0 then (
      isO h2 a0 12 = true ∧ ∃ (x3 : Int32) (h4 : zH), zT E d m_m_free 0 [some (.ref a0), some (.int 0)] [] h2 (.inl (some (.int x3)), h4) ∧
      isO h4 a0 12 = true ∧ ∃ (x5 : Int32) (h6 : zH), zT E d m_m_setOff 0 [some (.ref a0), some (.int 0), some (.int (1 <<< (a1 &&& 31))), some (.int x3), none, none, none, none] [] h4 (.inl (some (.int x5)), h6) ∧
      r = (.inl (some (.int x5)), h6))
    else (
      r = (.inl (some (.int 0)), h2))) :
    zT E (d + 1) m_m_setOffBy 0 [some (.ref a0), some (.int a1)] [] h r := by
  refine zT_st (pc' := 3) (L' := [some (.ref a0), some (.int a1)]) (st' := [.int a1, .int 0, .ref a0]) (h' := h) 3 (fun n => rfl) ?_
  obtain ⟨hq, hw⟩ := hw
  obtain ⟨x1, h2, hx, hw⟩ := hw
  refine zT_call (pc' := 6) (rest := []) 1 (fun n => rfl) hq hx ?_
  show zT E (d + 1) m_m_setOffBy 6 [some (.ref a0), some (.int a1)] [.int x1] h2 r
  by_cases hc : x1 = 0
  · rw [if_pos hc] at hw
    refine zT_st (pc' := 13) (L' := [some (.ref a0), some (.int a1)]) (st' := []) (h' := h2) 1 (fun n => if_pos hc) ?_
    refine zT_st (pc' := 20) (L' := [some (.ref a0), some (.int a1)]) (st' := [.int 0, .ref a0, .int (1 <<< (a1 &&& 31)), .int 0, .ref a0]) (h' := h2) 7 (fun n => rfl) ?_
    obtain ⟨hq, hw⟩ := hw
    obtain ⟨x3, h4, hx, hw⟩ := hw
    refine zT_call (pc' := 23) (rest := [.int (1 <<< (a1 &&& 31)), .int 0, .ref a0]) 1 (fun n => rfl) hq hx ?_
    show zT E (d + 1) m_m_setOffBy 23 [some (.ref a0), some (.int a1)] [.int x3, .int (1 <<< (a1 &&& 31)), .int 0, .ref a0] h4 r
    obtain ⟨hq, hw⟩ := hw
    obtain ⟨x5, h6, hx, hw⟩ := hw
    refine zT_call (pc' := 26) (rest := []) 1 (fun n => rfl) hq hx ?_
    show zT E (d + 1) m_m_setOffBy 26 [some (.ref a0), some (.int a1)] [.int x5] h6 r
    subst hw
    exact zT_ret 1 rfl
  · rw [if_neg hc] at hw
    refine zT_st (pc' := 9) (L' := [some (.ref a0), some (.int a1)]) (st' := []) (h' := h2) 1 (fun n => if_neg hc) ?_
    subst hw
    exact zT_ret 3 rfl
set_option maxRecDepth 4000 in
theorem s_m_refuses_0 (E : zX) (d : Nat) (a0 : Nat) (a1 : Int32) (h : zH) (r : zO × zH)
    (hw : ∃ o1 : Nat, fld h a0 12 14 = some (.ref o1) ∧
    ∃ (n2 : Nat) (f3 : Nat → Int32), arr h o1 = some (n2, f3) ∧ ¬ (a1 < 0 ∨ n2 ≤ (a1).toNatClampNeg) ∧
    ∃ (n4 : Nat) (f5 : Nat → Int32), arr h o1 = some (n4, f5) ∧ ¬ (a1 < 0 ∨ n4 ≤ (a1).toNatClampNeg) ∧
    r = (.inl (some (.int (-1))), (setA h o1 n4 (upd f5 (a1).toNatClampNeg ((f3 (a1).toNatClampNeg) + 1))))) :
    zT E d m_m_refuses 0 [some (.ref a0), some (.int a1)] [] h r := by
  refine zT_st (pc' := 1) (L' := [some (.ref a0), some (.int a1)]) (st' := [.ref a0]) (h' := h) 1 (fun n => rfl) ?_
  obtain ⟨o1, e, hw⟩ := hw
  refine zT_st (pc' := 4) (L' := [some (.ref a0), some (.int a1)]) (st' := [.ref o1]) (h' := h) 1 (fun n => fld_eq (E := E) e _) ?_
  refine zT_st (pc' := 6) (L' := [some (.ref a0), some (.int a1)]) (st' := [.int a1, .ref o1, .int a1, .ref o1]) (h' := h) 2 (fun n => rfl) ?_
  obtain ⟨n2, f3, e, hi, hw⟩ := hw
  refine zT_st (pc' := 7) (L' := [some (.ref a0), some (.int a1)]) (st' := [.int (f3 (a1).toNatClampNeg), .int a1, .ref o1]) (h' := h) 1 (fun n => arr_eq (E := E) e hi [.int a1, .ref o1] (fun st => zrun zP zCd E n d m_m_refuses 7 [some (.ref a0), some (.int a1)] st h)) ?_
  refine zT_st (pc' := 9) (L' := [some (.ref a0), some (.int a1)]) (st' := [.int ((f3 (a1).toNatClampNeg) + 1), .int a1, .ref o1]) (h' := h) 2 (fun n => rfl) ?_
  obtain ⟨n4, f5, e, hi, hw⟩ := hw
  refine zT_st (pc' := 10) (L' := [some (.ref a0), some (.int a1)]) (st' := []) (h' := (setA h o1 n4 (upd f5 (a1).toNatClampNeg ((f3 (a1).toNatClampNeg) + 1)))) 1 (fun n => set_eq e hi _ _) ?_
  subst hw
  exact zT_ret 2 rfl
set_option maxRecDepth 4000 in
theorem s_m_rises_0 (E : zX) (d : Nat) (a0 : Nat) (a1 : Int32) (a2 : Int32) (h : zH) (r : zO × zH)
    (hw : ∃ o1 : Nat, fld h a0 12 40 = some (.ref o1) ∧
    ∃ o2 : Nat, fld h a0 12 40 = some (.ref o2) ∧
    ∃ (n3 : Nat) (f4 : Nat → Int32), arr h o2 = some (n3, f4) ∧ ¬ (((a1 + 1) + a2) < 0 ∨ n3 ≤ (((a1 + 1) + a2)).toNatClampNeg) ∧
    isO h a0 12 = true ∧ ∃ (x5 : Int32) (h6 : zH), zT E d m_m_risesBy 0 [some (.ref a0), some (.int a1), some (.int a2)] [] h (.inl (some (.int x5)), h6) ∧
    ∃ (x7 : Int32) (h8 : zH), zT E d m_m_lesser 0 [some (.int 99), some (.int ((f4 (((a1 + 1) + a2)).toNatClampNeg) + x5))] [] h6 (.inl (some (.int x7)), h8) ∧
    ∃ (n9 : Nat) (f10 : Nat → Int32), arr h8 o1 = some (n9, f10) ∧ ¬ (((a1 + 1) + a2) < 0 ∨ n9 ≤ (((a1 + 1) + a2)).toNatClampNeg) ∧
    ∃ o11 : Nat, fld (setA h8 o1 n9 (upd f10 (((a1 + 1) + a2)).toNatClampNeg x7)) a0 12 40 = some (.ref o11) ∧
    ∃ (n12 : Nat) (f13 : Nat → Int32), arr (setA h8 o1 n9 (upd f10 (((a1 + 1) + a2)).toNatClampNeg x7)) o11 = some (n12, f13) ∧ ¬ (((a1 + 1) + a2) < 0 ∨ n12 ≤ (((a1 + 1) + a2)).toNatClampNeg) ∧
    if 20 ≤ (f13 (((a1 + 1) + a2)).toNatClampNeg) then (
      isO (setA h8 o1 n9 (upd f10 (((a1 + 1) + a2)).toNatClampNeg x7)) a0 12 = true ∧ ∃ (x14 : Int32) (h15 : zH), zT E d m_m_goesOut 0 [some (.ref a0), some (.int a1), some (.int a2), none] [] (setA h8 o1 n9 (upd f10 (((a1 + 1) + a2)).toNatClampNeg x7)) (.inl (some (.int x14)), h15) ∧
      if x14 = 0 then (
        ∃ o16 : Nat, fld h15 a0 12 40 = some (.ref o16) ∧
        ∃ o17 : Nat, fld h15 a0 12 40 = some (.ref o17) ∧
        ∃ (n18 : Nat) (f19 : Nat → Int32), arr h15 o17 = some (n18, f19) ∧ ¬ (((a1 + 1) + a2) < 0 ∨ n18 ≤ (((a1 + 1) + a2)).toNatClampNeg) ∧
        ∃ (n20 : Nat) (f21 : Nat → Int32), arr h15 o16 = some (n20, f21) ∧ ¬ (((a1 + 1) + a2) < 0 ∨ n20 ≤ (((a1 + 1) + a2)).toNatClampNeg) ∧
        ∃ o22 : Nat, fld (setA h15 o16 n20 (upd f21 (((a1 + 1) + a2)).toNatClampNeg ((f19 (((a1 + 1) + a2)).toNatClampNeg) / 2))) a0 12 40 = some (.ref o22) ∧
        ∃ (n23 : Nat) (f24 : Nat → Int32), arr (setA h15 o16 n20 (upd f21 (((a1 + 1) + a2)).toNatClampNeg ((f19 (((a1 + 1) + a2)).toNatClampNeg) / 2))) o22 = some (n23, f24) ∧ ¬ (((a1 + 8) + a2) < 0 ∨ n23 ≤ (((a1 + 8) + a2)).toNatClampNeg) ∧
        ∃ (n25 : Nat) (f26 : Nat → Int32), arr (setA h15 o16 n20 (upd f21 (((a1 + 1) + a2)).toNatClampNeg ((f19 (((a1 + 1) + a2)).toNatClampNeg) / 2))) o22 = some (n25, f26) ∧ ¬ (((a1 + 8) + a2) < 0 ∨ n25 ≤ (((a1 + 8) + a2)).toNatClampNeg) ∧
        ∃ x27 : Int32, fld (setA (setA h15 o16 n20 (upd f21 (((a1 + 1) + a2)).toNatClampNeg ((f19 (((a1 + 1) + a2)).toNatClampNeg) / 2))) o22 n25 (upd f26 (((a1 + 8) + a2)).toNatClampNeg ((f24 (((a1 + 8) + a2)).toNatClampNeg) + 1))) a0 12 48 = some (.int x27) ∧
        (∃ w, fld (setA (setA h15 o16 n20 (upd f21 (((a1 + 1) + a2)).toNatClampNeg ((f19 (((a1 + 1) + a2)).toNatClampNeg) / 2))) o22 n25 (upd f26 (((a1 + 8) + a2)).toNatClampNeg ((f24 (((a1 + 8) + a2)).toNatClampNeg) + 1))) a0 12 48 = some w) ∧
        r = (.inl (none), (setF (setA (setA h15 o16 n20 (upd f21 (((a1 + 1) + a2)).toNatClampNeg ((f19 (((a1 + 1) + a2)).toNatClampNeg) / 2))) o22 n25 (upd f26 (((a1 + 8) + a2)).toNatClampNeg ((f24 (((a1 + 8) + a2)).toNatClampNeg) + 1))) a0 48 (.int (x27 ||| (1 <<< (a2 &&& 31)))))))
      else (
        ∃ x28 : Int32, fld h15 a0 12 47 = some (.int x28) ∧
        (∃ w, fld h15 a0 12 47 = some w) ∧
        r = (.inl (none), (setF h15 a0 47 (.int (x28 ||| (1 <<< (a2 &&& 31))))))))
    else (
      r = (.inl (none), (setA h8 o1 n9 (upd f10 (((a1 + 1) + a2)).toNatClampNeg x7))))) :
    zT E (d + 1) m_m_rises 0 [some (.ref a0), some (.int a1), some (.int a2)] [] h r := by
  refine zT_st (pc' := 1) (L' := [some (.ref a0), some (.int a1), some (.int a2)]) (st' := [.ref a0]) (h' := h) 1 (fun n => rfl) ?_
  obtain ⟨o1, e, hw⟩ := hw
  refine zT_st (pc' := 4) (L' := [some (.ref a0), some (.int a1), some (.int a2)]) (st' := [.ref o1]) (h' := h) 1 (fun n => fld_eq (E := E) e _) ?_
  refine zT_st (pc' := 12) (L' := [some (.ref a0), some (.int a1), some (.int a2)]) (st' := [.ref a0, .int 99, .int ((a1 + 1) + a2), .ref o1]) (h' := h) 7 (fun n => rfl) ?_
  obtain ⟨o2, e, hw⟩ := hw
  refine zT_st (pc' := 15) (L' := [some (.ref a0), some (.int a1), some (.int a2)]) (st' := [.ref o2, .int 99, .int ((a1 + 1) + a2), .ref o1]) (h' := h) 1 (fun n => fld_eq (E := E) e _) ?_
  refine zT_st (pc' := 20) (L' := [some (.ref a0), some (.int a1), some (.int a2)]) (st' := [.int ((a1 + 1) + a2), .ref o2, .int 99, .int ((a1 + 1) + a2), .ref o1]) (h' := h) 5 (fun n => rfl) ?_
  obtain ⟨n3, f4, e, hi, hw⟩ := hw
  refine zT_st (pc' := 21) (L' := [some (.ref a0), some (.int a1), some (.int a2)]) (st' := [.int (f4 (((a1 + 1) + a2)).toNatClampNeg), .int 99, .int ((a1 + 1) + a2), .ref o1]) (h' := h) 1 (fun n => arr_eq (E := E) e hi [.int 99, .int ((a1 + 1) + a2), .ref o1] (fun st => zrun zP zCd E n (d + 1) m_m_rises 21 [some (.ref a0), some (.int a1), some (.int a2)] st h)) ?_
  refine zT_st (pc' := 24) (L' := [some (.ref a0), some (.int a1), some (.int a2)]) (st' := [.int a2, .int a1, .ref a0, .int (f4 (((a1 + 1) + a2)).toNatClampNeg), .int 99, .int ((a1 + 1) + a2), .ref o1]) (h' := h) 3 (fun n => rfl) ?_
  obtain ⟨hq, hw⟩ := hw
  obtain ⟨x5, h6, hx, hw⟩ := hw
  refine zT_call (pc' := 27) (rest := [.int (f4 (((a1 + 1) + a2)).toNatClampNeg), .int 99, .int ((a1 + 1) + a2), .ref o1]) 1 (fun n => rfl) hq hx ?_
  show zT E (d + 1) m_m_rises 27 [some (.ref a0), some (.int a1), some (.int a2)] [.int x5, .int (f4 (((a1 + 1) + a2)).toNatClampNeg), .int 99, .int ((a1 + 1) + a2), .ref o1] h6 r
  refine zT_st (pc' := 28) (L' := [some (.ref a0), some (.int a1), some (.int a2)]) (st' := [.int ((f4 (((a1 + 1) + a2)).toNatClampNeg) + x5), .int 99, .int ((a1 + 1) + a2), .ref o1]) (h' := h6) 1 (fun n => rfl) ?_
  obtain ⟨x7, h8, hx, hw⟩ := hw
  refine zT_call (pc' := 31) (rest := [.int ((a1 + 1) + a2), .ref o1]) 1 (fun n => rfl) rfl hx ?_
  show zT E (d + 1) m_m_rises 31 [some (.ref a0), some (.int a1), some (.int a2)] [.int x7, .int ((a1 + 1) + a2), .ref o1] h8 r
  obtain ⟨n9, f10, e, hi, hw⟩ := hw
  refine zT_st (pc' := 32) (L' := [some (.ref a0), some (.int a1), some (.int a2)]) (st' := []) (h' := (setA h8 o1 n9 (upd f10 (((a1 + 1) + a2)).toNatClampNeg x7))) 1 (fun n => set_eq e hi _ _) ?_
  refine zT_st (pc' := 33) (L' := [some (.ref a0), some (.int a1), some (.int a2)]) (st' := [.ref a0]) (h' := (setA h8 o1 n9 (upd f10 (((a1 + 1) + a2)).toNatClampNeg x7))) 1 (fun n => rfl) ?_
  obtain ⟨o11, e, hw⟩ := hw
  refine zT_st (pc' := 36) (L' := [some (.ref a0), some (.int a1), some (.int a2)]) (st' := [.ref o11]) (h' := (setA h8 o1 n9 (upd f10 (((a1 + 1) + a2)).toNatClampNeg x7))) 1 (fun n => fld_eq (E := E) e _) ?_
  refine zT_st (pc' := 41) (L' := [some (.ref a0), some (.int a1), some (.int a2)]) (st' := [.int ((a1 + 1) + a2), .ref o11]) (h' := (setA h8 o1 n9 (upd f10 (((a1 + 1) + a2)).toNatClampNeg x7))) 5 (fun n => rfl) ?_
  obtain ⟨n12, f13, e, hi, hw⟩ := hw
  refine zT_st (pc' := 42) (L' := [some (.ref a0), some (.int a1), some (.int a2)]) (st' := [.int (f13 (((a1 + 1) + a2)).toNatClampNeg)]) (h' := (setA h8 o1 n9 (upd f10 (((a1 + 1) + a2)).toNatClampNeg x7))) 1 (fun n => arr_eq (E := E) e hi [] (fun st => zrun zP zCd E n (d + 1) m_m_rises 42 [some (.ref a0), some (.int a1), some (.int a2)] st (setA h8 o1 n9 (upd f10 (((a1 + 1) + a2)).toNatClampNeg x7)))) ?_
  refine zT_st (pc' := 44) (L' := [some (.ref a0), some (.int a1), some (.int a2)]) (st' := [.int 20, .int (f13 (((a1 + 1) + a2)).toNatClampNeg)]) (h' := (setA h8 o1 n9 (upd f10 (((a1 + 1) + a2)).toNatClampNeg x7))) 1 (fun n => rfl) ?_
  by_cases hc : 20 ≤ (f13 (((a1 + 1) + a2)).toNatClampNeg)
  · rw [if_pos hc] at hw
    refine zT_st (pc' := 48) (L' := [some (.ref a0), some (.int a1), some (.int a2)]) (st' := []) (h' := (setA h8 o1 n9 (upd f10 (((a1 + 1) + a2)).toNatClampNeg x7))) 1 (fun n => if_pos hc) ?_
    refine zT_st (pc' := 51) (L' := [some (.ref a0), some (.int a1), some (.int a2)]) (st' := [.int a2, .int a1, .ref a0]) (h' := (setA h8 o1 n9 (upd f10 (((a1 + 1) + a2)).toNatClampNeg x7))) 3 (fun n => rfl) ?_
    obtain ⟨hq, hw⟩ := hw
    obtain ⟨x14, h15, hx, hw⟩ := hw
    refine zT_call (pc' := 54) (rest := []) 1 (fun n => rfl) hq hx ?_
    show zT E (d + 1) m_m_rises 54 [some (.ref a0), some (.int a1), some (.int a2)] [.int x14] h15 r
    by_cases hc : x14 = 0
    · rw [if_pos hc] at hw
      refine zT_st (pc' := 70) (L' := [some (.ref a0), some (.int a1), some (.int a2)]) (st' := []) (h' := h15) 1 (fun n => if_pos hc) ?_
      refine zT_st (pc' := 71) (L' := [some (.ref a0), some (.int a1), some (.int a2)]) (st' := [.ref a0]) (h' := h15) 1 (fun n => rfl) ?_
      obtain ⟨o16, e, hw⟩ := hw
      refine zT_st (pc' := 74) (L' := [some (.ref a0), some (.int a1), some (.int a2)]) (st' := [.ref o16]) (h' := h15) 1 (fun n => fld_eq (E := E) e _) ?_
      refine zT_st (pc' := 80) (L' := [some (.ref a0), some (.int a1), some (.int a2)]) (st' := [.ref a0, .int ((a1 + 1) + a2), .ref o16]) (h' := h15) 6 (fun n => rfl) ?_
      obtain ⟨o17, e, hw⟩ := hw
      refine zT_st (pc' := 83) (L' := [some (.ref a0), some (.int a1), some (.int a2)]) (st' := [.ref o17, .int ((a1 + 1) + a2), .ref o16]) (h' := h15) 1 (fun n => fld_eq (E := E) e _) ?_
      refine zT_st (pc' := 88) (L' := [some (.ref a0), some (.int a1), some (.int a2)]) (st' := [.int ((a1 + 1) + a2), .ref o17, .int ((a1 + 1) + a2), .ref o16]) (h' := h15) 5 (fun n => rfl) ?_
      obtain ⟨n18, f19, e, hi, hw⟩ := hw
      refine zT_st (pc' := 89) (L' := [some (.ref a0), some (.int a1), some (.int a2)]) (st' := [.int (f19 (((a1 + 1) + a2)).toNatClampNeg), .int ((a1 + 1) + a2), .ref o16]) (h' := h15) 1 (fun n => arr_eq (E := E) e hi [.int ((a1 + 1) + a2), .ref o16] (fun st => zrun zP zCd E n (d + 1) m_m_rises 89 [some (.ref a0), some (.int a1), some (.int a2)] st h15)) ?_
      refine zT_st (pc' := 90) (L' := [some (.ref a0), some (.int a1), some (.int a2)]) (st' := [.int 2, .int (f19 (((a1 + 1) + a2)).toNatClampNeg), .int ((a1 + 1) + a2), .ref o16]) (h' := h15) 1 (fun n => rfl) ?_
      refine zT_st (pc' := 91) (L' := [some (.ref a0), some (.int a1), some (.int a2)]) (st' := [.int ((f19 (((a1 + 1) + a2)).toNatClampNeg) / 2), .int ((a1 + 1) + a2), .ref o16]) (h' := h15) 1 (fun n => rfl) ?_
      obtain ⟨n20, f21, e, hi, hw⟩ := hw
      refine zT_st (pc' := 92) (L' := [some (.ref a0), some (.int a1), some (.int a2)]) (st' := []) (h' := (setA h15 o16 n20 (upd f21 (((a1 + 1) + a2)).toNatClampNeg ((f19 (((a1 + 1) + a2)).toNatClampNeg) / 2)))) 1 (fun n => set_eq e hi _ _) ?_
      refine zT_st (pc' := 93) (L' := [some (.ref a0), some (.int a1), some (.int a2)]) (st' := [.ref a0]) (h' := (setA h15 o16 n20 (upd f21 (((a1 + 1) + a2)).toNatClampNeg ((f19 (((a1 + 1) + a2)).toNatClampNeg) / 2)))) 1 (fun n => rfl) ?_
      obtain ⟨o22, e, hw⟩ := hw
      refine zT_st (pc' := 96) (L' := [some (.ref a0), some (.int a1), some (.int a2)]) (st' := [.ref o22]) (h' := (setA h15 o16 n20 (upd f21 (((a1 + 1) + a2)).toNatClampNeg ((f19 (((a1 + 1) + a2)).toNatClampNeg) / 2)))) 1 (fun n => fld_eq (E := E) e _) ?_
      refine zT_st (pc' := 103) (L' := [some (.ref a0), some (.int a1), some (.int a2)]) (st' := [.int ((a1 + 8) + a2), .ref o22, .int ((a1 + 8) + a2), .ref o22]) (h' := (setA h15 o16 n20 (upd f21 (((a1 + 1) + a2)).toNatClampNeg ((f19 (((a1 + 1) + a2)).toNatClampNeg) / 2)))) 6 (fun n => rfl) ?_
      obtain ⟨n23, f24, e, hi, hw⟩ := hw
      refine zT_st (pc' := 104) (L' := [some (.ref a0), some (.int a1), some (.int a2)]) (st' := [.int (f24 (((a1 + 8) + a2)).toNatClampNeg), .int ((a1 + 8) + a2), .ref o22]) (h' := (setA h15 o16 n20 (upd f21 (((a1 + 1) + a2)).toNatClampNeg ((f19 (((a1 + 1) + a2)).toNatClampNeg) / 2)))) 1 (fun n => arr_eq (E := E) e hi [.int ((a1 + 8) + a2), .ref o22] (fun st => zrun zP zCd E n (d + 1) m_m_rises 104 [some (.ref a0), some (.int a1), some (.int a2)] st (setA h15 o16 n20 (upd f21 (((a1 + 1) + a2)).toNatClampNeg ((f19 (((a1 + 1) + a2)).toNatClampNeg) / 2))))) ?_
      refine zT_st (pc' := 106) (L' := [some (.ref a0), some (.int a1), some (.int a2)]) (st' := [.int ((f24 (((a1 + 8) + a2)).toNatClampNeg) + 1), .int ((a1 + 8) + a2), .ref o22]) (h' := (setA h15 o16 n20 (upd f21 (((a1 + 1) + a2)).toNatClampNeg ((f19 (((a1 + 1) + a2)).toNatClampNeg) / 2)))) 2 (fun n => rfl) ?_
      obtain ⟨n25, f26, e, hi, hw⟩ := hw
      refine zT_st (pc' := 107) (L' := [some (.ref a0), some (.int a1), some (.int a2)]) (st' := []) (h' := (setA (setA h15 o16 n20 (upd f21 (((a1 + 1) + a2)).toNatClampNeg ((f19 (((a1 + 1) + a2)).toNatClampNeg) / 2))) o22 n25 (upd f26 (((a1 + 8) + a2)).toNatClampNeg ((f24 (((a1 + 8) + a2)).toNatClampNeg) + 1)))) 1 (fun n => set_eq e hi _ _) ?_
      refine zT_st (pc' := 109) (L' := [some (.ref a0), some (.int a1), some (.int a2)]) (st' := [.ref a0, .ref a0]) (h' := (setA (setA h15 o16 n20 (upd f21 (((a1 + 1) + a2)).toNatClampNeg ((f19 (((a1 + 1) + a2)).toNatClampNeg) / 2))) o22 n25 (upd f26 (((a1 + 8) + a2)).toNatClampNeg ((f24 (((a1 + 8) + a2)).toNatClampNeg) + 1)))) 2 (fun n => rfl) ?_
      obtain ⟨x27, e, hw⟩ := hw
      refine zT_st (pc' := 112) (L' := [some (.ref a0), some (.int a1), some (.int a2)]) (st' := [.int x27, .ref a0]) (h' := (setA (setA h15 o16 n20 (upd f21 (((a1 + 1) + a2)).toNatClampNeg ((f19 (((a1 + 1) + a2)).toNatClampNeg) / 2))) o22 n25 (upd f26 (((a1 + 8) + a2)).toNatClampNeg ((f24 (((a1 + 8) + a2)).toNatClampNeg) + 1)))) 1 (fun n => fld_eq (E := E) e _) ?_
      refine zT_st (pc' := 116) (L' := [some (.ref a0), some (.int a1), some (.int a2)]) (st' := [.int (x27 ||| (1 <<< (a2 &&& 31))), .ref a0]) (h' := (setA (setA h15 o16 n20 (upd f21 (((a1 + 1) + a2)).toNatClampNeg ((f19 (((a1 + 1) + a2)).toNatClampNeg) / 2))) o22 n25 (upd f26 (((a1 + 8) + a2)).toNatClampNeg ((f24 (((a1 + 8) + a2)).toNatClampNeg) + 1)))) 4 (fun n => rfl) ?_
      obtain ⟨⟨w, e⟩, hw⟩ := hw
      refine zT_st (pc' := 119) (L' := [some (.ref a0), some (.int a1), some (.int a2)]) (st' := []) (h' := (setF (setA (setA h15 o16 n20 (upd f21 (((a1 + 1) + a2)).toNatClampNeg ((f19 (((a1 + 1) + a2)).toNatClampNeg) / 2))) o22 n25 (upd f26 (((a1 + 8) + a2)).toNatClampNeg ((f24 (((a1 + 8) + a2)).toNatClampNeg) + 1))) a0 48 (.int (x27 ||| (1 <<< (a2 &&& 31)))))) 1 (fun n => put_eq e rfl _ _) ?_
      subst hw
      exact zT_ret 1 rfl
    · rw [if_neg hc] at hw
      refine zT_st (pc' := 57) (L' := [some (.ref a0), some (.int a1), some (.int a2)]) (st' := []) (h' := h15) 1 (fun n => if_neg hc) ?_
      refine zT_st (pc' := 59) (L' := [some (.ref a0), some (.int a1), some (.int a2)]) (st' := [.ref a0, .ref a0]) (h' := h15) 2 (fun n => rfl) ?_
      obtain ⟨x28, e, hw⟩ := hw
      refine zT_st (pc' := 62) (L' := [some (.ref a0), some (.int a1), some (.int a2)]) (st' := [.int x28, .ref a0]) (h' := h15) 1 (fun n => fld_eq (E := E) e _) ?_
      refine zT_st (pc' := 66) (L' := [some (.ref a0), some (.int a1), some (.int a2)]) (st' := [.int (x28 ||| (1 <<< (a2 &&& 31))), .ref a0]) (h' := h15) 4 (fun n => rfl) ?_
      obtain ⟨⟨w, e⟩, hw⟩ := hw
      refine zT_st (pc' := 69) (L' := [some (.ref a0), some (.int a1), some (.int a2)]) (st' := []) (h' := (setF h15 a0 47 (.int (x28 ||| (1 <<< (a2 &&& 31)))))) 1 (fun n => put_eq e rfl _ _) ?_
      subst hw
      exact zT_ret 1 rfl
  · rw [if_neg hc] at hw
    refine zT_st (pc' := 47) (L' := [some (.ref a0), some (.int a1), some (.int a2)]) (st' := []) (h' := (setA h8 o1 n9 (upd f10 (((a1 + 1) + a2)).toNatClampNeg x7))) 1 (fun n => if_neg hc) ?_
    subst hw
    exact zT_ret 1 rfl
set_option maxRecDepth 4000 in
theorem s_m_risesBy_0 (E : zX) (d : Nat) (a0 : Nat) (a1 : Int32) (a2 : Int32) (h : zH) (r : zO × zH)
    (hw : ∃ x1 : Int32, fld h a0 12 5 = some (.int x1) ∧
    if x1 = (-1) then (
      ∃ o2 : Nat, fld h a0 12 40 = some (.ref o2) ∧
      ∃ (n3 : Nat) (f4 : Nat → Int32), arr h o2 = some (n3, f4) ∧ ¬ (((a1 + 22) + a2) < 0 ∨ n3 ≤ (((a1 + 22) + a2)).toNatClampNeg) ∧
      r = (.inl (some (.int (10 - (f4 (((a1 + 22) + a2)).toNatClampNeg)))), h))
    else (
      ∃ o5 : Nat, fld h a0 12 43 = some (.ref o5) ∧
      ∃ o6 : Nat, fld h a0 12 40 = some (.ref o6) ∧
      ∃ (n7 : Nat) (f8 : Nat → Int32), arr h o6 = some (n7, f8) ∧ ¬ (((a1 + 22) + a2) < 0 ∨ n7 ≤ (((a1 + 22) + a2)).toNatClampNeg) ∧
      ∃ (n9 : Nat) (f10 : Nat → Int32), arr h o5 = some (n9, f10) ∧ ¬ ((0 : Int32) < 0 ∨ n9 ≤ ((0 : Int32)).toNatClampNeg) ∧
      ∃ o11 : Nat, fld (setA h o5 n9 (upd f10 ((0 : Int32)).toNatClampNeg (f8 (((a1 + 22) + a2)).toNatClampNeg))) a0 12 43 = some (.ref o11) ∧
      ∃ o12 : Nat, fld (setA h o5 n9 (upd f10 ((0 : Int32)).toNatClampNeg (f8 (((a1 + 22) + a2)).toNatClampNeg))) a0 12 40 = some (.ref o12) ∧
      ∃ (n13 : Nat) (f14 : Nat → Int32), arr (setA h o5 n9 (upd f10 ((0 : Int32)).toNatClampNeg (f8 (((a1 + 22) + a2)).toNatClampNeg))) o12 = some (n13, f14) ∧ ¬ (((a1 + 1) + a2) < 0 ∨ n13 ≤ (((a1 + 1) + a2)).toNatClampNeg) ∧
      ∃ (n15 : Nat) (f16 : Nat → Int32), arr (setA h o5 n9 (upd f10 ((0 : Int32)).toNatClampNeg (f8 (((a1 + 22) + a2)).toNatClampNeg))) o11 = some (n15, f16) ∧ ¬ ((1 : Int32) < 0 ∨ n15 ≤ ((1 : Int32)).toNatClampNeg) ∧
      ∃ o17 : Nat, fld (setA (setA h o5 n9 (upd f10 ((0 : Int32)).toNatClampNeg (f8 (((a1 + 22) + a2)).toNatClampNeg))) o11 n15 (upd f16 ((1 : Int32)).toNatClampNeg (f14 (((a1 + 1) + a2)).toNatClampNeg))) a0 12 43 = some (.ref o17) ∧
      ∃ o18 : Nat, fld (setA (setA h o5 n9 (upd f10 ((0 : Int32)).toNatClampNeg (f8 (((a1 + 22) + a2)).toNatClampNeg))) o11 n15 (upd f16 ((1 : Int32)).toNatClampNeg (f14 (((a1 + 1) + a2)).toNatClampNeg))) a0 12 40 = some (.ref o18) ∧
      ∃ (n19 : Nat) (f20 : Nat → Int32), arr (setA (setA h o5 n9 (upd f10 ((0 : Int32)).toNatClampNeg (f8 (((a1 + 22) + a2)).toNatClampNeg))) o11 n15 (upd f16 ((1 : Int32)).toNatClampNeg (f14 (((a1 + 1) + a2)).toNatClampNeg))) o18 = some (n19, f20) ∧ ¬ (((a1 + 8) + a2) < 0 ∨ n19 ≤ (((a1 + 8) + a2)).toNatClampNeg) ∧
      ∃ (n21 : Nat) (f22 : Nat → Int32), arr (setA (setA h o5 n9 (upd f10 ((0 : Int32)).toNatClampNeg (f8 (((a1 + 22) + a2)).toNatClampNeg))) o11 n15 (upd f16 ((1 : Int32)).toNatClampNeg (f14 (((a1 + 1) + a2)).toNatClampNeg))) o17 = some (n21, f22) ∧ ¬ ((2 : Int32) < 0 ∨ n21 ≤ ((2 : Int32)).toNatClampNeg) ∧
      ∃ o23 : Nat, fld (setA (setA (setA h o5 n9 (upd f10 ((0 : Int32)).toNatClampNeg (f8 (((a1 + 22) + a2)).toNatClampNeg))) o11 n15 (upd f16 ((1 : Int32)).toNatClampNeg (f14 (((a1 + 1) + a2)).toNatClampNeg))) o17 n21 (upd f22 ((2 : Int32)).toNatClampNeg (f20 (((a1 + 8) + a2)).toNatClampNeg))) a0 12 43 = some (.ref o23) ∧
      ∃ o24 : Nat, fld (setA (setA (setA h o5 n9 (upd f10 ((0 : Int32)).toNatClampNeg (f8 (((a1 + 22) + a2)).toNatClampNeg))) o11 n15 (upd f16 ((1 : Int32)).toNatClampNeg (f14 (((a1 + 1) + a2)).toNatClampNeg))) o17 n21 (upd f22 ((2 : Int32)).toNatClampNeg (f20 (((a1 + 8) + a2)).toNatClampNeg))) a0 12 40 = some (.ref o24) ∧
      ∃ (n25 : Nat) (f26 : Nat → Int32), arr (setA (setA (setA h o5 n9 (upd f10 ((0 : Int32)).toNatClampNeg (f8 (((a1 + 22) + a2)).toNatClampNeg))) o11 n15 (upd f16 ((1 : Int32)).toNatClampNeg (f14 (((a1 + 1) + a2)).toNatClampNeg))) o17 n21 (upd f22 ((2 : Int32)).toNatClampNeg (f20 (((a1 + 8) + a2)).toNatClampNeg))) o24 = some (n25, f26) ∧ ¬ (((a1 + 15) + a2) < 0 ∨ n25 ≤ (((a1 + 15) + a2)).toNatClampNeg) ∧
      ∃ (n27 : Nat) (f28 : Nat → Int32), arr (setA (setA (setA h o5 n9 (upd f10 ((0 : Int32)).toNatClampNeg (f8 (((a1 + 22) + a2)).toNatClampNeg))) o11 n15 (upd f16 ((1 : Int32)).toNatClampNeg (f14 (((a1 + 1) + a2)).toNatClampNeg))) o17 n21 (upd f22 ((2 : Int32)).toNatClampNeg (f20 (((a1 + 8) + a2)).toNatClampNeg))) o23 = some (n27, f28) ∧ ¬ ((3 : Int32) < 0 ∨ n27 ≤ ((3 : Int32)).toNatClampNeg) ∧
      ∃ o29 : Nat, fld (setA (setA (setA (setA h o5 n9 (upd f10 ((0 : Int32)).toNatClampNeg (f8 (((a1 + 22) + a2)).toNatClampNeg))) o11 n15 (upd f16 ((1 : Int32)).toNatClampNeg (f14 (((a1 + 1) + a2)).toNatClampNeg))) o17 n21 (upd f22 ((2 : Int32)).toNatClampNeg (f20 (((a1 + 8) + a2)).toNatClampNeg))) o23 n27 (upd f28 ((3 : Int32)).toNatClampNeg (f26 (((a1 + 15) + a2)).toNatClampNeg))) a0 12 43 = some (.ref o29) ∧
      ∃ o30 : Nat, fld (setA (setA (setA (setA h o5 n9 (upd f10 ((0 : Int32)).toNatClampNeg (f8 (((a1 + 22) + a2)).toNatClampNeg))) o11 n15 (upd f16 ((1 : Int32)).toNatClampNeg (f14 (((a1 + 1) + a2)).toNatClampNeg))) o17 n21 (upd f22 ((2 : Int32)).toNatClampNeg (f20 (((a1 + 8) + a2)).toNatClampNeg))) o23 n27 (upd f28 ((3 : Int32)).toNatClampNeg (f26 (((a1 + 15) + a2)).toNatClampNeg))) a0 12 40 = some (.ref o30) ∧
      ∃ (n31 : Nat) (f32 : Nat → Int32), arr (setA (setA (setA (setA h o5 n9 (upd f10 ((0 : Int32)).toNatClampNeg (f8 (((a1 + 22) + a2)).toNatClampNeg))) o11 n15 (upd f16 ((1 : Int32)).toNatClampNeg (f14 (((a1 + 1) + a2)).toNatClampNeg))) o17 n21 (upd f22 ((2 : Int32)).toNatClampNeg (f20 (((a1 + 8) + a2)).toNatClampNeg))) o23 n27 (upd f28 ((3 : Int32)).toNatClampNeg (f26 (((a1 + 15) + a2)).toNatClampNeg))) o30 = some (n31, f32) ∧ ¬ ((a1 + 0) < 0 ∨ n31 ≤ ((a1 + 0)).toNatClampNeg) ∧
      ∃ (n33 : Nat) (f34 : Nat → Int32), arr (setA (setA (setA (setA h o5 n9 (upd f10 ((0 : Int32)).toNatClampNeg (f8 (((a1 + 22) + a2)).toNatClampNeg))) o11 n15 (upd f16 ((1 : Int32)).toNatClampNeg (f14 (((a1 + 1) + a2)).toNatClampNeg))) o17 n21 (upd f22 ((2 : Int32)).toNatClampNeg (f20 (((a1 + 8) + a2)).toNatClampNeg))) o23 n27 (upd f28 ((3 : Int32)).toNatClampNeg (f26 (((a1 + 15) + a2)).toNatClampNeg))) o29 = some (n33, f34) ∧ ¬ ((4 : Int32) < 0 ∨ n33 ≤ ((4 : Int32)).toNatClampNeg) ∧
      ∃ x35 : Int32, fld (setA (setA (setA (setA (setA h o5 n9 (upd f10 ((0 : Int32)).toNatClampNeg (f8 (((a1 + 22) + a2)).toNatClampNeg))) o11 n15 (upd f16 ((1 : Int32)).toNatClampNeg (f14 (((a1 + 1) + a2)).toNatClampNeg))) o17 n21 (upd f22 ((2 : Int32)).toNatClampNeg (f20 (((a1 + 8) + a2)).toNatClampNeg))) o23 n27 (upd f28 ((3 : Int32)).toNatClampNeg (f26 (((a1 + 15) + a2)).toNatClampNeg))) o29 n33 (upd f34 ((4 : Int32)).toNatClampNeg (f32 ((a1 + 0)).toNatClampNeg))) a0 12 5 = some (.int x35) ∧
      isO (setA (setA (setA (setA (setA h o5 n9 (upd f10 ((0 : Int32)).toNatClampNeg (f8 (((a1 + 22) + a2)).toNatClampNeg))) o11 n15 (upd f16 ((1 : Int32)).toNatClampNeg (f14 (((a1 + 1) + a2)).toNatClampNeg))) o17 n21 (upd f22 ((2 : Int32)).toNatClampNeg (f20 (((a1 + 8) + a2)).toNatClampNeg))) o23 n27 (upd f28 ((3 : Int32)).toNatClampNeg (f26 (((a1 + 15) + a2)).toNatClampNeg))) o29 n33 (upd f34 ((4 : Int32)).toNatClampNeg (f32 ((a1 + 0)).toNatClampNeg))) a0 12 = true ∧ ∃ (x36 : Int32) (h37 : zH), zT E d m_m_reckons 0 [some (.ref a0), some (.int x35), none, none, none] [] (setA (setA (setA (setA (setA h o5 n9 (upd f10 ((0 : Int32)).toNatClampNeg (f8 (((a1 + 22) + a2)).toNatClampNeg))) o11 n15 (upd f16 ((1 : Int32)).toNatClampNeg (f14 (((a1 + 1) + a2)).toNatClampNeg))) o17 n21 (upd f22 ((2 : Int32)).toNatClampNeg (f20 (((a1 + 8) + a2)).toNatClampNeg))) o23 n27 (upd f28 ((3 : Int32)).toNatClampNeg (f26 (((a1 + 15) + a2)).toNatClampNeg))) o29 n33 (upd f34 ((4 : Int32)).toNatClampNeg (f32 ((a1 + 0)).toNatClampNeg))) (.inl (some (.int x36)), h37) ∧
      ∃ (x38 : Int32) (h39 : zH), zT E d m_m_bounded 0 [some (.int x36), some (.int 0), some (.int 20)] [] h37 (.inl (some (.int x38)), h39) ∧
      r = (.inl (some (.int x38)), h39))) :
    zT E (d + 1) m_m_risesBy 0 [some (.ref a0), some (.int a1), some (.int a2)] [] h r := by
  refine zT_st (pc' := 1) (L' := [some (.ref a0), some (.int a1), some (.int a2)]) (st' := [.ref a0]) (h' := h) 1 (fun n => rfl) ?_
  obtain ⟨x1, e, hw⟩ := hw
  refine zT_st (pc' := 4) (L' := [some (.ref a0), some (.int a1), some (.int a2)]) (st' := [.int x1]) (h' := h) 1 (fun n => fld_eq (E := E) e _) ?_
  refine zT_st (pc' := 5) (L' := [some (.ref a0), some (.int a1), some (.int a2)]) (st' := [.int (-1), .int x1]) (h' := h) 1 (fun n => rfl) ?_
  by_cases hc : x1 = (-1)
  · rw [if_pos hc] at hw
    refine zT_st (pc' := 8) (L' := [some (.ref a0), some (.int a1), some (.int a2)]) (st' := []) (h' := h) 1 (fun n => if_pos hc) ?_
    refine zT_st (pc' := 11) (L' := [some (.ref a0), some (.int a1), some (.int a2)]) (st' := [.ref a0, .int 10]) (h' := h) 2 (fun n => rfl) ?_
    obtain ⟨o2, e, hw⟩ := hw
    refine zT_st (pc' := 14) (L' := [some (.ref a0), some (.int a1), some (.int a2)]) (st' := [.ref o2, .int 10]) (h' := h) 1 (fun n => fld_eq (E := E) e _) ?_
    refine zT_st (pc' := 20) (L' := [some (.ref a0), some (.int a1), some (.int a2)]) (st' := [.int ((a1 + 22) + a2), .ref o2, .int 10]) (h' := h) 5 (fun n => rfl) ?_
    obtain ⟨n3, f4, e, hi, hw⟩ := hw
    refine zT_st (pc' := 21) (L' := [some (.ref a0), some (.int a1), some (.int a2)]) (st' := [.int (f4 (((a1 + 22) + a2)).toNatClampNeg), .int 10]) (h' := h) 1 (fun n => arr_eq (E := E) e hi [.int 10] (fun st => zrun zP zCd E n (d + 1) m_m_risesBy 21 [some (.ref a0), some (.int a1), some (.int a2)] st h)) ?_
    subst hw
    exact zT_ret 2 rfl
  · rw [if_neg hc] at hw
    refine zT_st (pc' := 23) (L' := [some (.ref a0), some (.int a1), some (.int a2)]) (st' := []) (h' := h) 1 (fun n => if_neg hc) ?_
    refine zT_st (pc' := 24) (L' := [some (.ref a0), some (.int a1), some (.int a2)]) (st' := [.ref a0]) (h' := h) 1 (fun n => rfl) ?_
    obtain ⟨o5, e, hw⟩ := hw
    refine zT_st (pc' := 27) (L' := [some (.ref a0), some (.int a1), some (.int a2)]) (st' := [.ref o5]) (h' := h) 1 (fun n => fld_eq (E := E) e _) ?_
    refine zT_st (pc' := 29) (L' := [some (.ref a0), some (.int a1), some (.int a2)]) (st' := [.ref a0, .int 0, .ref o5]) (h' := h) 2 (fun n => rfl) ?_
    obtain ⟨o6, e, hw⟩ := hw
    refine zT_st (pc' := 32) (L' := [some (.ref a0), some (.int a1), some (.int a2)]) (st' := [.ref o6, .int 0, .ref o5]) (h' := h) 1 (fun n => fld_eq (E := E) e _) ?_
    refine zT_st (pc' := 38) (L' := [some (.ref a0), some (.int a1), some (.int a2)]) (st' := [.int ((a1 + 22) + a2), .ref o6, .int 0, .ref o5]) (h' := h) 5 (fun n => rfl) ?_
    obtain ⟨n7, f8, e, hi, hw⟩ := hw
    refine zT_st (pc' := 39) (L' := [some (.ref a0), some (.int a1), some (.int a2)]) (st' := [.int (f8 (((a1 + 22) + a2)).toNatClampNeg), .int 0, .ref o5]) (h' := h) 1 (fun n => arr_eq (E := E) e hi [.int 0, .ref o5] (fun st => zrun zP zCd E n (d + 1) m_m_risesBy 39 [some (.ref a0), some (.int a1), some (.int a2)] st h)) ?_
    obtain ⟨n9, f10, e, hi, hw⟩ := hw
    refine zT_st (pc' := 40) (L' := [some (.ref a0), some (.int a1), some (.int a2)]) (st' := []) (h' := (setA h o5 n9 (upd f10 ((0 : Int32)).toNatClampNeg (f8 (((a1 + 22) + a2)).toNatClampNeg)))) 1 (fun n => set_eq e hi _ _) ?_
    refine zT_st (pc' := 41) (L' := [some (.ref a0), some (.int a1), some (.int a2)]) (st' := [.ref a0]) (h' := (setA h o5 n9 (upd f10 ((0 : Int32)).toNatClampNeg (f8 (((a1 + 22) + a2)).toNatClampNeg)))) 1 (fun n => rfl) ?_
    obtain ⟨o11, e, hw⟩ := hw
    refine zT_st (pc' := 44) (L' := [some (.ref a0), some (.int a1), some (.int a2)]) (st' := [.ref o11]) (h' := (setA h o5 n9 (upd f10 ((0 : Int32)).toNatClampNeg (f8 (((a1 + 22) + a2)).toNatClampNeg)))) 1 (fun n => fld_eq (E := E) e _) ?_
    refine zT_st (pc' := 46) (L' := [some (.ref a0), some (.int a1), some (.int a2)]) (st' := [.ref a0, .int 1, .ref o11]) (h' := (setA h o5 n9 (upd f10 ((0 : Int32)).toNatClampNeg (f8 (((a1 + 22) + a2)).toNatClampNeg)))) 2 (fun n => rfl) ?_
    obtain ⟨o12, e, hw⟩ := hw
    refine zT_st (pc' := 49) (L' := [some (.ref a0), some (.int a1), some (.int a2)]) (st' := [.ref o12, .int 1, .ref o11]) (h' := (setA h o5 n9 (upd f10 ((0 : Int32)).toNatClampNeg (f8 (((a1 + 22) + a2)).toNatClampNeg)))) 1 (fun n => fld_eq (E := E) e _) ?_
    refine zT_st (pc' := 54) (L' := [some (.ref a0), some (.int a1), some (.int a2)]) (st' := [.int ((a1 + 1) + a2), .ref o12, .int 1, .ref o11]) (h' := (setA h o5 n9 (upd f10 ((0 : Int32)).toNatClampNeg (f8 (((a1 + 22) + a2)).toNatClampNeg)))) 5 (fun n => rfl) ?_
    obtain ⟨n13, f14, e, hi, hw⟩ := hw
    refine zT_st (pc' := 55) (L' := [some (.ref a0), some (.int a1), some (.int a2)]) (st' := [.int (f14 (((a1 + 1) + a2)).toNatClampNeg), .int 1, .ref o11]) (h' := (setA h o5 n9 (upd f10 ((0 : Int32)).toNatClampNeg (f8 (((a1 + 22) + a2)).toNatClampNeg)))) 1 (fun n => arr_eq (E := E) e hi [.int 1, .ref o11] (fun st => zrun zP zCd E n (d + 1) m_m_risesBy 55 [some (.ref a0), some (.int a1), some (.int a2)] st (setA h o5 n9 (upd f10 ((0 : Int32)).toNatClampNeg (f8 (((a1 + 22) + a2)).toNatClampNeg))))) ?_
    obtain ⟨n15, f16, e, hi, hw⟩ := hw
    refine zT_st (pc' := 56) (L' := [some (.ref a0), some (.int a1), some (.int a2)]) (st' := []) (h' := (setA (setA h o5 n9 (upd f10 ((0 : Int32)).toNatClampNeg (f8 (((a1 + 22) + a2)).toNatClampNeg))) o11 n15 (upd f16 ((1 : Int32)).toNatClampNeg (f14 (((a1 + 1) + a2)).toNatClampNeg)))) 1 (fun n => set_eq e hi _ _) ?_
    refine zT_st (pc' := 57) (L' := [some (.ref a0), some (.int a1), some (.int a2)]) (st' := [.ref a0]) (h' := (setA (setA h o5 n9 (upd f10 ((0 : Int32)).toNatClampNeg (f8 (((a1 + 22) + a2)).toNatClampNeg))) o11 n15 (upd f16 ((1 : Int32)).toNatClampNeg (f14 (((a1 + 1) + a2)).toNatClampNeg)))) 1 (fun n => rfl) ?_
    obtain ⟨o17, e, hw⟩ := hw
    refine zT_st (pc' := 60) (L' := [some (.ref a0), some (.int a1), some (.int a2)]) (st' := [.ref o17]) (h' := (setA (setA h o5 n9 (upd f10 ((0 : Int32)).toNatClampNeg (f8 (((a1 + 22) + a2)).toNatClampNeg))) o11 n15 (upd f16 ((1 : Int32)).toNatClampNeg (f14 (((a1 + 1) + a2)).toNatClampNeg)))) 1 (fun n => fld_eq (E := E) e _) ?_
    refine zT_st (pc' := 62) (L' := [some (.ref a0), some (.int a1), some (.int a2)]) (st' := [.ref a0, .int 2, .ref o17]) (h' := (setA (setA h o5 n9 (upd f10 ((0 : Int32)).toNatClampNeg (f8 (((a1 + 22) + a2)).toNatClampNeg))) o11 n15 (upd f16 ((1 : Int32)).toNatClampNeg (f14 (((a1 + 1) + a2)).toNatClampNeg)))) 2 (fun n => rfl) ?_
    obtain ⟨o18, e, hw⟩ := hw
    refine zT_st (pc' := 65) (L' := [some (.ref a0), some (.int a1), some (.int a2)]) (st' := [.ref o18, .int 2, .ref o17]) (h' := (setA (setA h o5 n9 (upd f10 ((0 : Int32)).toNatClampNeg (f8 (((a1 + 22) + a2)).toNatClampNeg))) o11 n15 (upd f16 ((1 : Int32)).toNatClampNeg (f14 (((a1 + 1) + a2)).toNatClampNeg)))) 1 (fun n => fld_eq (E := E) e _) ?_
    refine zT_st (pc' := 71) (L' := [some (.ref a0), some (.int a1), some (.int a2)]) (st' := [.int ((a1 + 8) + a2), .ref o18, .int 2, .ref o17]) (h' := (setA (setA h o5 n9 (upd f10 ((0 : Int32)).toNatClampNeg (f8 (((a1 + 22) + a2)).toNatClampNeg))) o11 n15 (upd f16 ((1 : Int32)).toNatClampNeg (f14 (((a1 + 1) + a2)).toNatClampNeg)))) 5 (fun n => rfl) ?_
    obtain ⟨n19, f20, e, hi, hw⟩ := hw
    refine zT_st (pc' := 72) (L' := [some (.ref a0), some (.int a1), some (.int a2)]) (st' := [.int (f20 (((a1 + 8) + a2)).toNatClampNeg), .int 2, .ref o17]) (h' := (setA (setA h o5 n9 (upd f10 ((0 : Int32)).toNatClampNeg (f8 (((a1 + 22) + a2)).toNatClampNeg))) o11 n15 (upd f16 ((1 : Int32)).toNatClampNeg (f14 (((a1 + 1) + a2)).toNatClampNeg)))) 1 (fun n => arr_eq (E := E) e hi [.int 2, .ref o17] (fun st => zrun zP zCd E n (d + 1) m_m_risesBy 72 [some (.ref a0), some (.int a1), some (.int a2)] st (setA (setA h o5 n9 (upd f10 ((0 : Int32)).toNatClampNeg (f8 (((a1 + 22) + a2)).toNatClampNeg))) o11 n15 (upd f16 ((1 : Int32)).toNatClampNeg (f14 (((a1 + 1) + a2)).toNatClampNeg))))) ?_
    obtain ⟨n21, f22, e, hi, hw⟩ := hw
    refine zT_st (pc' := 73) (L' := [some (.ref a0), some (.int a1), some (.int a2)]) (st' := []) (h' := (setA (setA (setA h o5 n9 (upd f10 ((0 : Int32)).toNatClampNeg (f8 (((a1 + 22) + a2)).toNatClampNeg))) o11 n15 (upd f16 ((1 : Int32)).toNatClampNeg (f14 (((a1 + 1) + a2)).toNatClampNeg))) o17 n21 (upd f22 ((2 : Int32)).toNatClampNeg (f20 (((a1 + 8) + a2)).toNatClampNeg)))) 1 (fun n => set_eq e hi _ _) ?_
    refine zT_st (pc' := 74) (L' := [some (.ref a0), some (.int a1), some (.int a2)]) (st' := [.ref a0]) (h' := (setA (setA (setA h o5 n9 (upd f10 ((0 : Int32)).toNatClampNeg (f8 (((a1 + 22) + a2)).toNatClampNeg))) o11 n15 (upd f16 ((1 : Int32)).toNatClampNeg (f14 (((a1 + 1) + a2)).toNatClampNeg))) o17 n21 (upd f22 ((2 : Int32)).toNatClampNeg (f20 (((a1 + 8) + a2)).toNatClampNeg)))) 1 (fun n => rfl) ?_
    obtain ⟨o23, e, hw⟩ := hw
    refine zT_st (pc' := 77) (L' := [some (.ref a0), some (.int a1), some (.int a2)]) (st' := [.ref o23]) (h' := (setA (setA (setA h o5 n9 (upd f10 ((0 : Int32)).toNatClampNeg (f8 (((a1 + 22) + a2)).toNatClampNeg))) o11 n15 (upd f16 ((1 : Int32)).toNatClampNeg (f14 (((a1 + 1) + a2)).toNatClampNeg))) o17 n21 (upd f22 ((2 : Int32)).toNatClampNeg (f20 (((a1 + 8) + a2)).toNatClampNeg)))) 1 (fun n => fld_eq (E := E) e _) ?_
    refine zT_st (pc' := 79) (L' := [some (.ref a0), some (.int a1), some (.int a2)]) (st' := [.ref a0, .int 3, .ref o23]) (h' := (setA (setA (setA h o5 n9 (upd f10 ((0 : Int32)).toNatClampNeg (f8 (((a1 + 22) + a2)).toNatClampNeg))) o11 n15 (upd f16 ((1 : Int32)).toNatClampNeg (f14 (((a1 + 1) + a2)).toNatClampNeg))) o17 n21 (upd f22 ((2 : Int32)).toNatClampNeg (f20 (((a1 + 8) + a2)).toNatClampNeg)))) 2 (fun n => rfl) ?_
    obtain ⟨o24, e, hw⟩ := hw
    refine zT_st (pc' := 82) (L' := [some (.ref a0), some (.int a1), some (.int a2)]) (st' := [.ref o24, .int 3, .ref o23]) (h' := (setA (setA (setA h o5 n9 (upd f10 ((0 : Int32)).toNatClampNeg (f8 (((a1 + 22) + a2)).toNatClampNeg))) o11 n15 (upd f16 ((1 : Int32)).toNatClampNeg (f14 (((a1 + 1) + a2)).toNatClampNeg))) o17 n21 (upd f22 ((2 : Int32)).toNatClampNeg (f20 (((a1 + 8) + a2)).toNatClampNeg)))) 1 (fun n => fld_eq (E := E) e _) ?_
    refine zT_st (pc' := 88) (L' := [some (.ref a0), some (.int a1), some (.int a2)]) (st' := [.int ((a1 + 15) + a2), .ref o24, .int 3, .ref o23]) (h' := (setA (setA (setA h o5 n9 (upd f10 ((0 : Int32)).toNatClampNeg (f8 (((a1 + 22) + a2)).toNatClampNeg))) o11 n15 (upd f16 ((1 : Int32)).toNatClampNeg (f14 (((a1 + 1) + a2)).toNatClampNeg))) o17 n21 (upd f22 ((2 : Int32)).toNatClampNeg (f20 (((a1 + 8) + a2)).toNatClampNeg)))) 5 (fun n => rfl) ?_
    obtain ⟨n25, f26, e, hi, hw⟩ := hw
    refine zT_st (pc' := 89) (L' := [some (.ref a0), some (.int a1), some (.int a2)]) (st' := [.int (f26 (((a1 + 15) + a2)).toNatClampNeg), .int 3, .ref o23]) (h' := (setA (setA (setA h o5 n9 (upd f10 ((0 : Int32)).toNatClampNeg (f8 (((a1 + 22) + a2)).toNatClampNeg))) o11 n15 (upd f16 ((1 : Int32)).toNatClampNeg (f14 (((a1 + 1) + a2)).toNatClampNeg))) o17 n21 (upd f22 ((2 : Int32)).toNatClampNeg (f20 (((a1 + 8) + a2)).toNatClampNeg)))) 1 (fun n => arr_eq (E := E) e hi [.int 3, .ref o23] (fun st => zrun zP zCd E n (d + 1) m_m_risesBy 89 [some (.ref a0), some (.int a1), some (.int a2)] st (setA (setA (setA h o5 n9 (upd f10 ((0 : Int32)).toNatClampNeg (f8 (((a1 + 22) + a2)).toNatClampNeg))) o11 n15 (upd f16 ((1 : Int32)).toNatClampNeg (f14 (((a1 + 1) + a2)).toNatClampNeg))) o17 n21 (upd f22 ((2 : Int32)).toNatClampNeg (f20 (((a1 + 8) + a2)).toNatClampNeg))))) ?_
    obtain ⟨n27, f28, e, hi, hw⟩ := hw
    refine zT_st (pc' := 90) (L' := [some (.ref a0), some (.int a1), some (.int a2)]) (st' := []) (h' := (setA (setA (setA (setA h o5 n9 (upd f10 ((0 : Int32)).toNatClampNeg (f8 (((a1 + 22) + a2)).toNatClampNeg))) o11 n15 (upd f16 ((1 : Int32)).toNatClampNeg (f14 (((a1 + 1) + a2)).toNatClampNeg))) o17 n21 (upd f22 ((2 : Int32)).toNatClampNeg (f20 (((a1 + 8) + a2)).toNatClampNeg))) o23 n27 (upd f28 ((3 : Int32)).toNatClampNeg (f26 (((a1 + 15) + a2)).toNatClampNeg)))) 1 (fun n => set_eq e hi _ _) ?_
    refine zT_st (pc' := 91) (L' := [some (.ref a0), some (.int a1), some (.int a2)]) (st' := [.ref a0]) (h' := (setA (setA (setA (setA h o5 n9 (upd f10 ((0 : Int32)).toNatClampNeg (f8 (((a1 + 22) + a2)).toNatClampNeg))) o11 n15 (upd f16 ((1 : Int32)).toNatClampNeg (f14 (((a1 + 1) + a2)).toNatClampNeg))) o17 n21 (upd f22 ((2 : Int32)).toNatClampNeg (f20 (((a1 + 8) + a2)).toNatClampNeg))) o23 n27 (upd f28 ((3 : Int32)).toNatClampNeg (f26 (((a1 + 15) + a2)).toNatClampNeg)))) 1 (fun n => rfl) ?_
    obtain ⟨o29, e, hw⟩ := hw
    refine zT_st (pc' := 94) (L' := [some (.ref a0), some (.int a1), some (.int a2)]) (st' := [.ref o29]) (h' := (setA (setA (setA (setA h o5 n9 (upd f10 ((0 : Int32)).toNatClampNeg (f8 (((a1 + 22) + a2)).toNatClampNeg))) o11 n15 (upd f16 ((1 : Int32)).toNatClampNeg (f14 (((a1 + 1) + a2)).toNatClampNeg))) o17 n21 (upd f22 ((2 : Int32)).toNatClampNeg (f20 (((a1 + 8) + a2)).toNatClampNeg))) o23 n27 (upd f28 ((3 : Int32)).toNatClampNeg (f26 (((a1 + 15) + a2)).toNatClampNeg)))) 1 (fun n => fld_eq (E := E) e _) ?_
    refine zT_st (pc' := 96) (L' := [some (.ref a0), some (.int a1), some (.int a2)]) (st' := [.ref a0, .int 4, .ref o29]) (h' := (setA (setA (setA (setA h o5 n9 (upd f10 ((0 : Int32)).toNatClampNeg (f8 (((a1 + 22) + a2)).toNatClampNeg))) o11 n15 (upd f16 ((1 : Int32)).toNatClampNeg (f14 (((a1 + 1) + a2)).toNatClampNeg))) o17 n21 (upd f22 ((2 : Int32)).toNatClampNeg (f20 (((a1 + 8) + a2)).toNatClampNeg))) o23 n27 (upd f28 ((3 : Int32)).toNatClampNeg (f26 (((a1 + 15) + a2)).toNatClampNeg)))) 2 (fun n => rfl) ?_
    obtain ⟨o30, e, hw⟩ := hw
    refine zT_st (pc' := 99) (L' := [some (.ref a0), some (.int a1), some (.int a2)]) (st' := [.ref o30, .int 4, .ref o29]) (h' := (setA (setA (setA (setA h o5 n9 (upd f10 ((0 : Int32)).toNatClampNeg (f8 (((a1 + 22) + a2)).toNatClampNeg))) o11 n15 (upd f16 ((1 : Int32)).toNatClampNeg (f14 (((a1 + 1) + a2)).toNatClampNeg))) o17 n21 (upd f22 ((2 : Int32)).toNatClampNeg (f20 (((a1 + 8) + a2)).toNatClampNeg))) o23 n27 (upd f28 ((3 : Int32)).toNatClampNeg (f26 (((a1 + 15) + a2)).toNatClampNeg)))) 1 (fun n => fld_eq (E := E) e _) ?_
    refine zT_st (pc' := 102) (L' := [some (.ref a0), some (.int a1), some (.int a2)]) (st' := [.int (a1 + 0), .ref o30, .int 4, .ref o29]) (h' := (setA (setA (setA (setA h o5 n9 (upd f10 ((0 : Int32)).toNatClampNeg (f8 (((a1 + 22) + a2)).toNatClampNeg))) o11 n15 (upd f16 ((1 : Int32)).toNatClampNeg (f14 (((a1 + 1) + a2)).toNatClampNeg))) o17 n21 (upd f22 ((2 : Int32)).toNatClampNeg (f20 (((a1 + 8) + a2)).toNatClampNeg))) o23 n27 (upd f28 ((3 : Int32)).toNatClampNeg (f26 (((a1 + 15) + a2)).toNatClampNeg)))) 3 (fun n => rfl) ?_
    obtain ⟨n31, f32, e, hi, hw⟩ := hw
    refine zT_st (pc' := 103) (L' := [some (.ref a0), some (.int a1), some (.int a2)]) (st' := [.int (f32 ((a1 + 0)).toNatClampNeg), .int 4, .ref o29]) (h' := (setA (setA (setA (setA h o5 n9 (upd f10 ((0 : Int32)).toNatClampNeg (f8 (((a1 + 22) + a2)).toNatClampNeg))) o11 n15 (upd f16 ((1 : Int32)).toNatClampNeg (f14 (((a1 + 1) + a2)).toNatClampNeg))) o17 n21 (upd f22 ((2 : Int32)).toNatClampNeg (f20 (((a1 + 8) + a2)).toNatClampNeg))) o23 n27 (upd f28 ((3 : Int32)).toNatClampNeg (f26 (((a1 + 15) + a2)).toNatClampNeg)))) 1 (fun n => arr_eq (E := E) e hi [.int 4, .ref o29] (fun st => zrun zP zCd E n (d + 1) m_m_risesBy 103 [some (.ref a0), some (.int a1), some (.int a2)] st (setA (setA (setA (setA h o5 n9 (upd f10 ((0 : Int32)).toNatClampNeg (f8 (((a1 + 22) + a2)).toNatClampNeg))) o11 n15 (upd f16 ((1 : Int32)).toNatClampNeg (f14 (((a1 + 1) + a2)).toNatClampNeg))) o17 n21 (upd f22 ((2 : Int32)).toNatClampNeg (f20 (((a1 + 8) + a2)).toNatClampNeg))) o23 n27 (upd f28 ((3 : Int32)).toNatClampNeg (f26 (((a1 + 15) + a2)).toNatClampNeg))))) ?_
    obtain ⟨n33, f34, e, hi, hw⟩ := hw
    refine zT_st (pc' := 104) (L' := [some (.ref a0), some (.int a1), some (.int a2)]) (st' := []) (h' := (setA (setA (setA (setA (setA h o5 n9 (upd f10 ((0 : Int32)).toNatClampNeg (f8 (((a1 + 22) + a2)).toNatClampNeg))) o11 n15 (upd f16 ((1 : Int32)).toNatClampNeg (f14 (((a1 + 1) + a2)).toNatClampNeg))) o17 n21 (upd f22 ((2 : Int32)).toNatClampNeg (f20 (((a1 + 8) + a2)).toNatClampNeg))) o23 n27 (upd f28 ((3 : Int32)).toNatClampNeg (f26 (((a1 + 15) + a2)).toNatClampNeg))) o29 n33 (upd f34 ((4 : Int32)).toNatClampNeg (f32 ((a1 + 0)).toNatClampNeg)))) 1 (fun n => set_eq e hi _ _) ?_
    refine zT_st (pc' := 106) (L' := [some (.ref a0), some (.int a1), some (.int a2)]) (st' := [.ref a0, .ref a0]) (h' := (setA (setA (setA (setA (setA h o5 n9 (upd f10 ((0 : Int32)).toNatClampNeg (f8 (((a1 + 22) + a2)).toNatClampNeg))) o11 n15 (upd f16 ((1 : Int32)).toNatClampNeg (f14 (((a1 + 1) + a2)).toNatClampNeg))) o17 n21 (upd f22 ((2 : Int32)).toNatClampNeg (f20 (((a1 + 8) + a2)).toNatClampNeg))) o23 n27 (upd f28 ((3 : Int32)).toNatClampNeg (f26 (((a1 + 15) + a2)).toNatClampNeg))) o29 n33 (upd f34 ((4 : Int32)).toNatClampNeg (f32 ((a1 + 0)).toNatClampNeg)))) 2 (fun n => rfl) ?_
    obtain ⟨x35, e, hw⟩ := hw
    refine zT_st (pc' := 109) (L' := [some (.ref a0), some (.int a1), some (.int a2)]) (st' := [.int x35, .ref a0]) (h' := (setA (setA (setA (setA (setA h o5 n9 (upd f10 ((0 : Int32)).toNatClampNeg (f8 (((a1 + 22) + a2)).toNatClampNeg))) o11 n15 (upd f16 ((1 : Int32)).toNatClampNeg (f14 (((a1 + 1) + a2)).toNatClampNeg))) o17 n21 (upd f22 ((2 : Int32)).toNatClampNeg (f20 (((a1 + 8) + a2)).toNatClampNeg))) o23 n27 (upd f28 ((3 : Int32)).toNatClampNeg (f26 (((a1 + 15) + a2)).toNatClampNeg))) o29 n33 (upd f34 ((4 : Int32)).toNatClampNeg (f32 ((a1 + 0)).toNatClampNeg)))) 1 (fun n => fld_eq (E := E) e _) ?_
    obtain ⟨hq, hw⟩ := hw
    obtain ⟨x36, h37, hx, hw⟩ := hw
    refine zT_call (pc' := 112) (rest := []) 1 (fun n => rfl) hq hx ?_
    show zT E (d + 1) m_m_risesBy 112 [some (.ref a0), some (.int a1), some (.int a2)] [.int x36] h37 r
    refine zT_st (pc' := 115) (L' := [some (.ref a0), some (.int a1), some (.int a2)]) (st' := [.int 20, .int 0, .int x36]) (h' := h37) 2 (fun n => rfl) ?_
    obtain ⟨x38, h39, hx, hw⟩ := hw
    refine zT_call (pc' := 118) (rest := []) 1 (fun n => rfl) rfl hx ?_
    show zT E (d + 1) m_m_risesBy 118 [some (.ref a0), some (.int a1), some (.int a2)] [.int x38] h39 r
    subst hw
    exact zT_ret 1 rfl
set_option maxRecDepth 4000 in
theorem s_m_reckons_0 (E : zX) (d : Nat) (a0 : Nat) (a1 : Int32) (h : zH) (r : zO × zH)
    (hw : zT E (d + 1) m_m_reckons 4 [some (.ref a0), some (.int a1), some (.int 0), some (.int a1), none] [] h r) :
    zT E (d + 1) m_m_reckons 0 [some (.ref a0), some (.int a1), none, none, none] [] h r := by
  exact zT_st 4 (fun n => rfl) hw
set_option maxRecDepth 4000 in
theorem s_m_reckons_4 (E : zX) (d : Nat) (a0 : Nat) (j1 : Option Value) (a2 : Int32) (a3 : Int32) (j4 : Option Value) (h : zH) (r : zO × zH)
    (hw : ∃ o1 : Nat, fld h a0 12 9 = some (.ref o1) ∧
    ∃ (n2 : Nat) (f3 : Nat → Int32), arr h o1 = some (n2, f3) ∧ ¬ (a3 < 0 ∨ n2 ≤ (a3).toNatClampNeg) ∧
    if (f3 (a3).toNatClampNeg) = 0 then (
      ∃ o4 : Nat, fld h a0 12 44 = some (.ref o4) ∧
      ∃ (n5 : Nat) (f6 : Nat → Int32), arr h o4 = some (n5, f6) ∧ ¬ ((0 : Int32) < 0 ∨ n5 ≤ ((0 : Int32)).toNatClampNeg) ∧
      r = (.inl (some (.int (f6 ((0 : Int32)).toNatClampNeg))), h))
    else (
      ∃ o7 : Nat, fld h a0 12 9 = some (.ref o7) ∧
      ∃ (n8 : Nat) (f9 : Nat → Int32), arr h o7 = some (n8, f9) ∧ ¬ (a3 < 0 ∨ n8 ≤ (a3).toNatClampNeg) ∧
      if (f9 (a3).toNatClampNeg) = 1 then (
        zT E (d + 1) m_m_reckons 36 [some (.ref a0), j1, some (.int a2), some (.int (a3 + 1)), some (.int (f9 (a3).toNatClampNeg))] [] h r)
      else (
        if (f9 (a3).toNatClampNeg) = 2 then (
          zT E (d + 1) m_m_reckons 36 [some (.ref a0), j1, some (.int a2), some (.int (a3 + 1)), some (.int (f9 (a3).toNatClampNeg))] [] h r)
        else (
          if (f9 (a3).toNatClampNeg) = 3 then (
            ∃ o10 : Nat, fld h a0 12 44 = some (.ref o10) ∧
            ∃ o11 : Nat, fld h a0 12 44 = some (.ref o11) ∧
            ∃ (n12 : Nat) (f13 : Nat → Int32), arr h o11 = some (n12, f13) ∧ ¬ ((a2 - 1) < 0 ∨ n12 ≤ ((a2 - 1)).toNatClampNeg) ∧
            if (f13 ((a2 - 1)).toNatClampNeg) = 0 then (
              ∃ (n14 : Nat) (f15 : Nat → Int32), arr h o10 = some (n14, f15) ∧ ¬ ((a2 - 1) < 0 ∨ n14 ≤ ((a2 - 1)).toNatClampNeg) ∧
              zT E (d + 1) m_m_reckons 4 [some (.ref a0), j1, some (.int a2), some (.int (a3 + 1)), some (.int (f9 (a3).toNatClampNeg))] [] (setA h o10 n14 (upd f15 ((a2 - 1)).toNatClampNeg 1)) r)
            else (
              ∃ (n16 : Nat) (f17 : Nat → Int32), arr h o10 = some (n16, f17) ∧ ¬ ((a2 - 1) < 0 ∨ n16 ≤ ((a2 - 1)).toNatClampNeg) ∧
              zT E (d + 1) m_m_reckons 4 [some (.ref a0), j1, some (.int a2), some (.int (a3 + 1)), some (.int (f9 (a3).toNatClampNeg))] [] (setA h o10 n16 (upd f17 ((a2 - 1)).toNatClampNeg 0)) r))
          else (
            ∃ o18 : Nat, fld h a0 12 44 = some (.ref o18) ∧
            ∃ o19 : Nat, fld h a0 12 44 = some (.ref o19) ∧
            ∃ (n20 : Nat) (f21 : Nat → Int32), arr h o19 = some (n20, f21) ∧ ¬ (((a2 + (-1)) - 1) < 0 ∨ n20 ≤ (((a2 + (-1)) - 1)).toNatClampNeg) ∧
            ∃ o22 : Nat, fld h a0 12 44 = some (.ref o22) ∧
            ∃ (n23 : Nat) (f24 : Nat → Int32), arr h o22 = some (n23, f24) ∧ ¬ ((a2 + (-1)) < 0 ∨ n23 ≤ ((a2 + (-1))).toNatClampNeg) ∧
            ∃ (x25 : Int32) (h26 : zH), zT E d m_m_works 0 [some (.int (f9 (a3).toNatClampNeg)), some (.int (f21 (((a2 + (-1)) - 1)).toNatClampNeg)), some (.int (f24 ((a2 + (-1))).toNatClampNeg))] [] h (.inl (some (.int x25)), h26) ∧
            ∃ (n27 : Nat) (f28 : Nat → Int32), arr h26 o18 = some (n27, f28) ∧ ¬ (((a2 + (-1)) - 1) < 0 ∨ n27 ≤ (((a2 + (-1)) - 1)).toNatClampNeg) ∧
            zT E (d + 1) m_m_reckons 4 [some (.ref a0), j1, some (.int (a2 + (-1))), some (.int (a3 + 1)), some (.int (f9 (a3).toNatClampNeg))] [] (setA h26 o18 n27 (upd f28 (((a2 + (-1)) - 1)).toNatClampNeg x25)) r))))) :
    zT E (d + 1) m_m_reckons 4 [some (.ref a0), j1, some (.int a2), some (.int a3), j4] [] h r := by
  refine zT_st (pc' := 5) (L' := [some (.ref a0), j1, some (.int a2), some (.int a3), j4]) (st' := [.ref a0]) (h' := h) 1 (fun n => rfl) ?_
  obtain ⟨o1, e, hw⟩ := hw
  refine zT_st (pc' := 8) (L' := [some (.ref a0), j1, some (.int a2), some (.int a3), j4]) (st' := [.ref o1]) (h' := h) 1 (fun n => fld_eq (E := E) e _) ?_
  refine zT_st (pc' := 9) (L' := [some (.ref a0), j1, some (.int a2), some (.int a3), j4]) (st' := [.int a3, .ref o1]) (h' := h) 1 (fun n => rfl) ?_
  obtain ⟨n2, f3, e, hi, hw⟩ := hw
  refine zT_st (pc' := 10) (L' := [some (.ref a0), j1, some (.int a2), some (.int a3), j4]) (st' := [.int (f3 (a3).toNatClampNeg)]) (h' := h) 1 (fun n => arr_eq (E := E) e hi [] (fun st => zrun zP zCd E n (d + 1) m_m_reckons 10 [some (.ref a0), j1, some (.int a2), some (.int a3), j4] st h)) ?_
  by_cases hc : (f3 (a3).toNatClampNeg) = 0
  · rw [if_pos hc] at hw
    refine zT_st (pc' := 143) (L' := [some (.ref a0), j1, some (.int a2), some (.int a3), j4]) (st' := []) (h' := h) 1 (fun n => if_pos hc) ?_
    refine zT_st (pc' := 144) (L' := [some (.ref a0), j1, some (.int a2), some (.int a3), j4]) (st' := [.ref a0]) (h' := h) 1 (fun n => rfl) ?_
    obtain ⟨o4, e, hw⟩ := hw
    refine zT_st (pc' := 147) (L' := [some (.ref a0), j1, some (.int a2), some (.int a3), j4]) (st' := [.ref o4]) (h' := h) 1 (fun n => fld_eq (E := E) e _) ?_
    refine zT_st (pc' := 148) (L' := [some (.ref a0), j1, some (.int a2), some (.int a3), j4]) (st' := [.int 0, .ref o4]) (h' := h) 1 (fun n => rfl) ?_
    obtain ⟨n5, f6, e, hi, hw⟩ := hw
    refine zT_st (pc' := 149) (L' := [some (.ref a0), j1, some (.int a2), some (.int a3), j4]) (st' := [.int (f6 ((0 : Int32)).toNatClampNeg)]) (h' := h) 1 (fun n => arr_eq (E := E) e hi [] (fun st => zrun zP zCd E n (d + 1) m_m_reckons 149 [some (.ref a0), j1, some (.int a2), some (.int a3), j4] st h)) ?_
    subst hw
    exact zT_ret 1 rfl
  · rw [if_neg hc] at hw
    refine zT_st (pc' := 13) (L' := [some (.ref a0), j1, some (.int a2), some (.int a3), j4]) (st' := []) (h' := h) 1 (fun n => if_neg hc) ?_
    refine zT_st (pc' := 14) (L' := [some (.ref a0), j1, some (.int a2), some (.int a3), j4]) (st' := [.ref a0]) (h' := h) 1 (fun n => rfl) ?_
    obtain ⟨o7, e, hw⟩ := hw
    refine zT_st (pc' := 17) (L' := [some (.ref a0), j1, some (.int a2), some (.int a3), j4]) (st' := [.ref o7]) (h' := h) 1 (fun n => fld_eq (E := E) e _) ?_
    refine zT_st (pc' := 18) (L' := [some (.ref a0), j1, some (.int a2), some (.int a3), j4]) (st' := [.int a3, .ref o7]) (h' := h) 1 (fun n => rfl) ?_
    obtain ⟨n8, f9, e, hi, hw⟩ := hw
    refine zT_st (pc' := 19) (L' := [some (.ref a0), j1, some (.int a2), some (.int a3), j4]) (st' := [.int (f9 (a3).toNatClampNeg)]) (h' := h) 1 (fun n => arr_eq (E := E) e hi [] (fun st => zrun zP zCd E n (d + 1) m_m_reckons 19 [some (.ref a0), j1, some (.int a2), some (.int a3), j4] st h)) ?_
    refine zT_st (pc' := 27) (L' := [some (.ref a0), j1, some (.int a2), some (.int (a3 + 1)), some (.int (f9 (a3).toNatClampNeg))]) (st' := [.int 1, .int (f9 (a3).toNatClampNeg)]) (h' := h) 4 (fun n => rfl) ?_
    by_cases hc : (f9 (a3).toNatClampNeg) = 1
    · rw [if_pos hc] at hw
      refine zT_st (pc' := 36) (L' := [some (.ref a0), j1, some (.int a2), some (.int (a3 + 1)), some (.int (f9 (a3).toNatClampNeg))]) (st' := []) (h' := h) 1 (fun n => if_pos hc) ?_
      exact hw
    · rw [if_neg hc] at hw
      refine zT_st (pc' := 30) (L' := [some (.ref a0), j1, some (.int a2), some (.int (a3 + 1)), some (.int (f9 (a3).toNatClampNeg))]) (st' := []) (h' := h) 1 (fun n => if_neg hc) ?_
      refine zT_st (pc' := 33) (L' := [some (.ref a0), j1, some (.int a2), some (.int (a3 + 1)), some (.int (f9 (a3).toNatClampNeg))]) (st' := [.int 2, .int (f9 (a3).toNatClampNeg)]) (h' := h) 2 (fun n => rfl) ?_
      by_cases hc : (f9 (a3).toNatClampNeg) = 2
      · rw [if_pos hc] at hw
        refine zT_st (pc' := 36) (L' := [some (.ref a0), j1, some (.int a2), some (.int (a3 + 1)), some (.int (f9 (a3).toNatClampNeg))]) (st' := []) (h' := h) 1 (fun n => if_pos hc) ?_
        exact hw
      · rw [if_neg hc] at hw
        refine zT_st (pc' := 77) (L' := [some (.ref a0), j1, some (.int a2), some (.int (a3 + 1)), some (.int (f9 (a3).toNatClampNeg))]) (st' := []) (h' := h) 1 (fun n => if_neg hc) ?_
        refine zT_st (pc' := 80) (L' := [some (.ref a0), j1, some (.int a2), some (.int (a3 + 1)), some (.int (f9 (a3).toNatClampNeg))]) (st' := [.int 3, .int (f9 (a3).toNatClampNeg)]) (h' := h) 2 (fun n => rfl) ?_
        by_cases hc : (f9 (a3).toNatClampNeg) = 3
        · rw [if_pos hc] at hw
          refine zT_st (pc' := 83) (L' := [some (.ref a0), j1, some (.int a2), some (.int (a3 + 1)), some (.int (f9 (a3).toNatClampNeg))]) (st' := []) (h' := h) 1 (fun n => if_pos hc) ?_
          refine zT_st (pc' := 84) (L' := [some (.ref a0), j1, some (.int a2), some (.int (a3 + 1)), some (.int (f9 (a3).toNatClampNeg))]) (st' := [.ref a0]) (h' := h) 1 (fun n => rfl) ?_
          obtain ⟨o10, e, hw⟩ := hw
          refine zT_st (pc' := 87) (L' := [some (.ref a0), j1, some (.int a2), some (.int (a3 + 1)), some (.int (f9 (a3).toNatClampNeg))]) (st' := [.ref o10]) (h' := h) 1 (fun n => fld_eq (E := E) e _) ?_
          refine zT_st (pc' := 91) (L' := [some (.ref a0), j1, some (.int a2), some (.int (a3 + 1)), some (.int (f9 (a3).toNatClampNeg))]) (st' := [.ref a0, .int (a2 - 1), .ref o10]) (h' := h) 4 (fun n => rfl) ?_
          obtain ⟨o11, e, hw⟩ := hw
          refine zT_st (pc' := 94) (L' := [some (.ref a0), j1, some (.int a2), some (.int (a3 + 1)), some (.int (f9 (a3).toNatClampNeg))]) (st' := [.ref o11, .int (a2 - 1), .ref o10]) (h' := h) 1 (fun n => fld_eq (E := E) e _) ?_
          refine zT_st (pc' := 97) (L' := [some (.ref a0), j1, some (.int a2), some (.int (a3 + 1)), some (.int (f9 (a3).toNatClampNeg))]) (st' := [.int (a2 - 1), .ref o11, .int (a2 - 1), .ref o10]) (h' := h) 3 (fun n => rfl) ?_
          obtain ⟨n12, f13, e, hi, hw⟩ := hw
          refine zT_st (pc' := 98) (L' := [some (.ref a0), j1, some (.int a2), some (.int (a3 + 1)), some (.int (f9 (a3).toNatClampNeg))]) (st' := [.int (f13 ((a2 - 1)).toNatClampNeg), .int (a2 - 1), .ref o10]) (h' := h) 1 (fun n => arr_eq (E := E) e hi [.int (a2 - 1), .ref o10] (fun st => zrun zP zCd E n (d + 1) m_m_reckons 98 [some (.ref a0), j1, some (.int a2), some (.int (a3 + 1)), some (.int (f9 (a3).toNatClampNeg))] st h)) ?_
          by_cases hc : (f13 ((a2 - 1)).toNatClampNeg) = 0
          · rw [if_pos hc] at hw
            refine zT_st (pc' := 101) (L' := [some (.ref a0), j1, some (.int a2), some (.int (a3 + 1)), some (.int (f9 (a3).toNatClampNeg))]) (st' := [.int (a2 - 1), .ref o10]) (h' := h) 1 (fun n => if_pos hc) ?_
            refine zT_st (pc' := 106) (L' := [some (.ref a0), j1, some (.int a2), some (.int (a3 + 1)), some (.int (f9 (a3).toNatClampNeg))]) (st' := [.int 1, .int (a2 - 1), .ref o10]) (h' := h) 2 (fun n => rfl) ?_
            obtain ⟨n14, f15, e, hi, hw⟩ := hw
            refine zT_st (pc' := 107) (L' := [some (.ref a0), j1, some (.int a2), some (.int (a3 + 1)), some (.int (f9 (a3).toNatClampNeg))]) (st' := []) (h' := (setA h o10 n14 (upd f15 ((a2 - 1)).toNatClampNeg 1))) 1 (fun n => set_eq e hi _ _) ?_
            exact zT_st 2 (fun n => rfl) hw
          · rw [if_neg hc] at hw
            refine zT_st (pc' := 105) (L' := [some (.ref a0), j1, some (.int a2), some (.int (a3 + 1)), some (.int (f9 (a3).toNatClampNeg))]) (st' := [.int (a2 - 1), .ref o10]) (h' := h) 1 (fun n => if_neg hc) ?_
            refine zT_st (pc' := 106) (L' := [some (.ref a0), j1, some (.int a2), some (.int (a3 + 1)), some (.int (f9 (a3).toNatClampNeg))]) (st' := [.int 0, .int (a2 - 1), .ref o10]) (h' := h) 1 (fun n => rfl) ?_
            obtain ⟨n16, f17, e, hi, hw⟩ := hw
            refine zT_st (pc' := 107) (L' := [some (.ref a0), j1, some (.int a2), some (.int (a3 + 1)), some (.int (f9 (a3).toNatClampNeg))]) (st' := []) (h' := (setA h o10 n16 (upd f17 ((a2 - 1)).toNatClampNeg 0))) 1 (fun n => set_eq e hi _ _) ?_
            exact zT_st 2 (fun n => rfl) hw
        · rw [if_neg hc] at hw
          refine zT_st (pc' := 110) (L' := [some (.ref a0), j1, some (.int a2), some (.int (a3 + 1)), some (.int (f9 (a3).toNatClampNeg))]) (st' := []) (h' := h) 1 (fun n => if_neg hc) ?_
          refine zT_st (pc' := 114) (L' := [some (.ref a0), j1, some (.int (a2 + (-1))), some (.int (a3 + 1)), some (.int (f9 (a3).toNatClampNeg))]) (st' := [.ref a0]) (h' := h) 2 (fun n => rfl) ?_
          obtain ⟨o18, e, hw⟩ := hw
          refine zT_st (pc' := 117) (L' := [some (.ref a0), j1, some (.int (a2 + (-1))), some (.int (a3 + 1)), some (.int (f9 (a3).toNatClampNeg))]) (st' := [.ref o18]) (h' := h) 1 (fun n => fld_eq (E := E) e _) ?_
          refine zT_st (pc' := 123) (L' := [some (.ref a0), j1, some (.int (a2 + (-1))), some (.int (a3 + 1)), some (.int (f9 (a3).toNatClampNeg))]) (st' := [.ref a0, .int (f9 (a3).toNatClampNeg), .int ((a2 + (-1)) - 1), .ref o18]) (h' := h) 5 (fun n => rfl) ?_
          obtain ⟨o19, e, hw⟩ := hw
          refine zT_st (pc' := 126) (L' := [some (.ref a0), j1, some (.int (a2 + (-1))), some (.int (a3 + 1)), some (.int (f9 (a3).toNatClampNeg))]) (st' := [.ref o19, .int (f9 (a3).toNatClampNeg), .int ((a2 + (-1)) - 1), .ref o18]) (h' := h) 1 (fun n => fld_eq (E := E) e _) ?_
          refine zT_st (pc' := 129) (L' := [some (.ref a0), j1, some (.int (a2 + (-1))), some (.int (a3 + 1)), some (.int (f9 (a3).toNatClampNeg))]) (st' := [.int ((a2 + (-1)) - 1), .ref o19, .int (f9 (a3).toNatClampNeg), .int ((a2 + (-1)) - 1), .ref o18]) (h' := h) 3 (fun n => rfl) ?_
          obtain ⟨n20, f21, e, hi, hw⟩ := hw
          refine zT_st (pc' := 130) (L' := [some (.ref a0), j1, some (.int (a2 + (-1))), some (.int (a3 + 1)), some (.int (f9 (a3).toNatClampNeg))]) (st' := [.int (f21 (((a2 + (-1)) - 1)).toNatClampNeg), .int (f9 (a3).toNatClampNeg), .int ((a2 + (-1)) - 1), .ref o18]) (h' := h) 1 (fun n => arr_eq (E := E) e hi [.int (f9 (a3).toNatClampNeg), .int ((a2 + (-1)) - 1), .ref o18] (fun st => zrun zP zCd E n (d + 1) m_m_reckons 130 [some (.ref a0), j1, some (.int (a2 + (-1))), some (.int (a3 + 1)), some (.int (f9 (a3).toNatClampNeg))] st h)) ?_
          refine zT_st (pc' := 131) (L' := [some (.ref a0), j1, some (.int (a2 + (-1))), some (.int (a3 + 1)), some (.int (f9 (a3).toNatClampNeg))]) (st' := [.ref a0, .int (f21 (((a2 + (-1)) - 1)).toNatClampNeg), .int (f9 (a3).toNatClampNeg), .int ((a2 + (-1)) - 1), .ref o18]) (h' := h) 1 (fun n => rfl) ?_
          obtain ⟨o22, e, hw⟩ := hw
          refine zT_st (pc' := 134) (L' := [some (.ref a0), j1, some (.int (a2 + (-1))), some (.int (a3 + 1)), some (.int (f9 (a3).toNatClampNeg))]) (st' := [.ref o22, .int (f21 (((a2 + (-1)) - 1)).toNatClampNeg), .int (f9 (a3).toNatClampNeg), .int ((a2 + (-1)) - 1), .ref o18]) (h' := h) 1 (fun n => fld_eq (E := E) e _) ?_
          refine zT_st (pc' := 135) (L' := [some (.ref a0), j1, some (.int (a2 + (-1))), some (.int (a3 + 1)), some (.int (f9 (a3).toNatClampNeg))]) (st' := [.int (a2 + (-1)), .ref o22, .int (f21 (((a2 + (-1)) - 1)).toNatClampNeg), .int (f9 (a3).toNatClampNeg), .int ((a2 + (-1)) - 1), .ref o18]) (h' := h) 1 (fun n => rfl) ?_
          obtain ⟨n23, f24, e, hi, hw⟩ := hw
          refine zT_st (pc' := 136) (L' := [some (.ref a0), j1, some (.int (a2 + (-1))), some (.int (a3 + 1)), some (.int (f9 (a3).toNatClampNeg))]) (st' := [.int (f24 ((a2 + (-1))).toNatClampNeg), .int (f21 (((a2 + (-1)) - 1)).toNatClampNeg), .int (f9 (a3).toNatClampNeg), .int ((a2 + (-1)) - 1), .ref o18]) (h' := h) 1 (fun n => arr_eq (E := E) e hi [.int (f21 (((a2 + (-1)) - 1)).toNatClampNeg), .int (f9 (a3).toNatClampNeg), .int ((a2 + (-1)) - 1), .ref o18] (fun st => zrun zP zCd E n (d + 1) m_m_reckons 136 [some (.ref a0), j1, some (.int (a2 + (-1))), some (.int (a3 + 1)), some (.int (f9 (a3).toNatClampNeg))] st h)) ?_
          obtain ⟨x25, h26, hx, hw⟩ := hw
          refine zT_call (pc' := 139) (rest := [.int ((a2 + (-1)) - 1), .ref o18]) 1 (fun n => rfl) rfl hx ?_
          show zT E (d + 1) m_m_reckons 139 [some (.ref a0), j1, some (.int (a2 + (-1))), some (.int (a3 + 1)), some (.int (f9 (a3).toNatClampNeg))] [.int x25, .int ((a2 + (-1)) - 1), .ref o18] h26 r
          obtain ⟨n27, f28, e, hi, hw⟩ := hw
          refine zT_st (pc' := 140) (L' := [some (.ref a0), j1, some (.int (a2 + (-1))), some (.int (a3 + 1)), some (.int (f9 (a3).toNatClampNeg))]) (st' := []) (h' := (setA h26 o18 n27 (upd f28 (((a2 + (-1)) - 1)).toNatClampNeg x25))) 1 (fun n => set_eq e hi _ _) ?_
          exact zT_st 1 (fun n => rfl) hw
set_option maxRecDepth 4000 in
theorem s_m_reckons_36 (E : zX) (d : Nat) (a0 : Nat) (j1 : Option Value) (a2 : Int32) (a3 : Int32) (a4 : Int32) (h : zH) (r : zO × zH)
    (hw : ∃ o1 : Nat, fld h a0 12 44 = some (.ref o1) ∧
    if a4 = 1 then (
      ∃ o2 : Nat, fld h a0 12 9 = some (.ref o2) ∧
      ∃ (n3 : Nat) (f4 : Nat → Int32), arr h o2 = some (n3, f4) ∧ ¬ (a3 < 0 ∨ n3 ≤ (a3).toNatClampNeg) ∧
      ∃ (n5 : Nat) (f6 : Nat → Int32), arr h o1 = some (n5, f6) ∧ ¬ (a2 < 0 ∨ n5 ≤ (a2).toNatClampNeg) ∧
      zT E (d + 1) m_m_reckons 4 [some (.ref a0), j1, some (.int (a2 + 1)), some (.int (a3 + 1)), some (.int a4)] [] (setA h o1 n5 (upd f6 (a2).toNatClampNeg (f4 (a3).toNatClampNeg))) r)
    else (
      ∃ o7 : Nat, fld h a0 12 43 = some (.ref o7) ∧
      ∃ o8 : Nat, fld h a0 12 9 = some (.ref o8) ∧
      ∃ (n9 : Nat) (f10 : Nat → Int32), arr h o8 = some (n9, f10) ∧ ¬ (a3 < 0 ∨ n9 ≤ (a3).toNatClampNeg) ∧
      ∃ (n11 : Nat) (f12 : Nat → Int32), arr h o7 = some (n11, f12) ∧ ¬ ((f10 (a3).toNatClampNeg) < 0 ∨ n11 ≤ ((f10 (a3).toNatClampNeg)).toNatClampNeg) ∧
      ∃ (n13 : Nat) (f14 : Nat → Int32), arr h o1 = some (n13, f14) ∧ ¬ (a2 < 0 ∨ n13 ≤ (a2).toNatClampNeg) ∧
      zT E (d + 1) m_m_reckons 4 [some (.ref a0), j1, some (.int (a2 + 1)), some (.int (a3 + 1)), some (.int a4)] [] (setA h o1 n13 (upd f14 (a2).toNatClampNeg (f12 ((f10 (a3).toNatClampNeg)).toNatClampNeg))) r)) :
    zT E (d + 1) m_m_reckons 36 [some (.ref a0), j1, some (.int a2), some (.int a3), some (.int a4)] [] h r := by
  refine zT_st (pc' := 37) (L' := [some (.ref a0), j1, some (.int a2), some (.int a3), some (.int a4)]) (st' := [.ref a0]) (h' := h) 1 (fun n => rfl) ?_
  obtain ⟨o1, e, hw⟩ := hw
  refine zT_st (pc' := 40) (L' := [some (.ref a0), j1, some (.int a2), some (.int a3), some (.int a4)]) (st' := [.ref o1]) (h' := h) 1 (fun n => fld_eq (E := E) e _) ?_
  refine zT_st (pc' := 44) (L' := [some (.ref a0), j1, some (.int a2), some (.int a3), some (.int a4)]) (st' := [.int 1, .int a4, .int a2, .ref o1]) (h' := h) 3 (fun n => rfl) ?_
  by_cases hc : a4 = 1
  · rw [if_pos hc] at hw
    refine zT_st (pc' := 47) (L' := [some (.ref a0), j1, some (.int a2), some (.int a3), some (.int a4)]) (st' := [.int a2, .ref o1]) (h' := h) 1 (fun n => if_pos hc) ?_
    refine zT_st (pc' := 48) (L' := [some (.ref a0), j1, some (.int a2), some (.int a3), some (.int a4)]) (st' := [.ref a0, .int a2, .ref o1]) (h' := h) 1 (fun n => rfl) ?_
    obtain ⟨o2, e, hw⟩ := hw
    refine zT_st (pc' := 51) (L' := [some (.ref a0), j1, some (.int a2), some (.int a3), some (.int a4)]) (st' := [.ref o2, .int a2, .ref o1]) (h' := h) 1 (fun n => fld_eq (E := E) e _) ?_
    refine zT_st (pc' := 52) (L' := [some (.ref a0), j1, some (.int a2), some (.int a3), some (.int a4)]) (st' := [.int a3, .ref o2, .int a2, .ref o1]) (h' := h) 1 (fun n => rfl) ?_
    obtain ⟨n3, f4, e, hi, hw⟩ := hw
    refine zT_st (pc' := 53) (L' := [some (.ref a0), j1, some (.int a2), some (.int a3), some (.int a4)]) (st' := [.int (f4 (a3).toNatClampNeg), .int a2, .ref o1]) (h' := h) 1 (fun n => arr_eq (E := E) e hi [.int a2, .ref o1] (fun st => zrun zP zCd E n (d + 1) m_m_reckons 53 [some (.ref a0), j1, some (.int a2), some (.int a3), some (.int a4)] st h)) ?_
    refine zT_st (pc' := 67) (L' := [some (.ref a0), j1, some (.int a2), some (.int a3), some (.int a4)]) (st' := [.int (f4 (a3).toNatClampNeg), .int a2, .ref o1]) (h' := h) 1 (fun n => rfl) ?_
    obtain ⟨n5, f6, e, hi, hw⟩ := hw
    refine zT_st (pc' := 68) (L' := [some (.ref a0), j1, some (.int a2), some (.int a3), some (.int a4)]) (st' := []) (h' := (setA h o1 n5 (upd f6 (a2).toNatClampNeg (f4 (a3).toNatClampNeg)))) 1 (fun n => set_eq e hi _ _) ?_
    exact zT_st 4 (fun n => rfl) hw
  · rw [if_neg hc] at hw
    refine zT_st (pc' := 56) (L' := [some (.ref a0), j1, some (.int a2), some (.int a3), some (.int a4)]) (st' := [.int a2, .ref o1]) (h' := h) 1 (fun n => if_neg hc) ?_
    refine zT_st (pc' := 57) (L' := [some (.ref a0), j1, some (.int a2), some (.int a3), some (.int a4)]) (st' := [.ref a0, .int a2, .ref o1]) (h' := h) 1 (fun n => rfl) ?_
    obtain ⟨o7, e, hw⟩ := hw
    refine zT_st (pc' := 60) (L' := [some (.ref a0), j1, some (.int a2), some (.int a3), some (.int a4)]) (st' := [.ref o7, .int a2, .ref o1]) (h' := h) 1 (fun n => fld_eq (E := E) e _) ?_
    refine zT_st (pc' := 61) (L' := [some (.ref a0), j1, some (.int a2), some (.int a3), some (.int a4)]) (st' := [.ref a0, .ref o7, .int a2, .ref o1]) (h' := h) 1 (fun n => rfl) ?_
    obtain ⟨o8, e, hw⟩ := hw
    refine zT_st (pc' := 64) (L' := [some (.ref a0), j1, some (.int a2), some (.int a3), some (.int a4)]) (st' := [.ref o8, .ref o7, .int a2, .ref o1]) (h' := h) 1 (fun n => fld_eq (E := E) e _) ?_
    refine zT_st (pc' := 65) (L' := [some (.ref a0), j1, some (.int a2), some (.int a3), some (.int a4)]) (st' := [.int a3, .ref o8, .ref o7, .int a2, .ref o1]) (h' := h) 1 (fun n => rfl) ?_
    obtain ⟨n9, f10, e, hi, hw⟩ := hw
    refine zT_st (pc' := 66) (L' := [some (.ref a0), j1, some (.int a2), some (.int a3), some (.int a4)]) (st' := [.int (f10 (a3).toNatClampNeg), .ref o7, .int a2, .ref o1]) (h' := h) 1 (fun n => arr_eq (E := E) e hi [.ref o7, .int a2, .ref o1] (fun st => zrun zP zCd E n (d + 1) m_m_reckons 66 [some (.ref a0), j1, some (.int a2), some (.int a3), some (.int a4)] st h)) ?_
    obtain ⟨n11, f12, e, hi, hw⟩ := hw
    refine zT_st (pc' := 67) (L' := [some (.ref a0), j1, some (.int a2), some (.int a3), some (.int a4)]) (st' := [.int (f12 ((f10 (a3).toNatClampNeg)).toNatClampNeg), .int a2, .ref o1]) (h' := h) 1 (fun n => arr_eq (E := E) e hi [.int a2, .ref o1] (fun st => zrun zP zCd E n (d + 1) m_m_reckons 67 [some (.ref a0), j1, some (.int a2), some (.int a3), some (.int a4)] st h)) ?_
    obtain ⟨n13, f14, e, hi, hw⟩ := hw
    refine zT_st (pc' := 68) (L' := [some (.ref a0), j1, some (.int a2), some (.int a3), some (.int a4)]) (st' := []) (h' := (setA h o1 n13 (upd f14 (a2).toNatClampNeg (f12 ((f10 (a3).toNatClampNeg)).toNatClampNeg)))) 1 (fun n => set_eq e hi _ _) ?_
    exact zT_st 4 (fun n => rfl) hw
set_option maxRecDepth 4000 in
theorem s_m_works_0 (E : zX) (d : Nat) (a0 : Int32) (a1 : Int32) (a2 : Int32) (h : zH) (r : zO × zH)
    (hw : if a0 = 4 then (
      if a1 = 0 then (
        r = (.inl (some (.int 0)), h))
      else (
        if a2 = 0 then (
          r = (.inl (some (.int 0)), h))
        else (
          r = (.inl (some (.int 1)), h))))
    else if a0 = 5 then (
      if a1 = 0 then (
        if a2 = 0 then (
          r = (.inl (some (.int 0)), h))
        else (
          r = (.inl (some (.int 1)), h)))
      else (
        r = (.inl (some (.int 1)), h)))
    else if a0 = 6 then (
      if a2 ≤ a1 then (
        r = (.inl (some (.int 0)), h))
      else (
        r = (.inl (some (.int 1)), h)))
    else if a0 = 7 then (
      if a1 = a2 then (
        r = (.inl (some (.int 1)), h))
      else (
        r = (.inl (some (.int 0)), h)))
    else if a0 = 8 then (
      r = (.inl (some (.int (a1 + a2))), h))
    else if a0 = 9 then (
      r = (.inl (some (.int (a1 - a2))), h))
    else if a0 = 10 then (
      r = (.inl (some (.int (a1 * a2))), h))
    else (
      if a2 = 0 then (
        r = (.inl (some (.int 0)), h))
      else (
        ¬ a2 = 0 ∧
        r = (.inl (some (.int (a1 / a2))), h)))) :
    zT E d m_m_works 0 [some (.int a0), some (.int a1), some (.int a2)] [] h r := by
  refine zT_st (pc' := 1) (L' := [some (.int a0), some (.int a1), some (.int a2)]) (st' := [.int a0]) (h' := h) 1 (fun n => rfl) ?_
  by_cases c4 : a0 = 4
  · rw [if_pos c4] at hw
    refine zT_st (pc' := 44) (L' := [some (.int a0), some (.int a1), some (.int a2)]) (st' := []) (h' := h) 1 (fun n => zsw_in c4 rfl) ?_
    refine zT_st (pc' := 45) (L' := [some (.int a0), some (.int a1), some (.int a2)]) (st' := [.int a1]) (h' := h) 1 (fun n => rfl) ?_
    by_cases hc : a1 = 0
    · rw [if_pos hc] at hw
      refine zT_st (pc' := 56) (L' := [some (.int a0), some (.int a1), some (.int a2)]) (st' := []) (h' := h) 1 (fun n => if_pos hc) ?_
      subst hw
      exact zT_ret 2 rfl
    · rw [if_neg hc] at hw
      refine zT_st (pc' := 48) (L' := [some (.int a0), some (.int a1), some (.int a2)]) (st' := []) (h' := h) 1 (fun n => if_neg hc) ?_
      refine zT_st (pc' := 49) (L' := [some (.int a0), some (.int a1), some (.int a2)]) (st' := [.int a2]) (h' := h) 1 (fun n => rfl) ?_
      by_cases hc : a2 = 0
      · rw [if_pos hc] at hw
        refine zT_st (pc' := 56) (L' := [some (.int a0), some (.int a1), some (.int a2)]) (st' := []) (h' := h) 1 (fun n => if_pos hc) ?_
        subst hw
        exact zT_ret 2 rfl
      · rw [if_neg hc] at hw
        refine zT_st (pc' := 52) (L' := [some (.int a0), some (.int a1), some (.int a2)]) (st' := []) (h' := h) 1 (fun n => if_neg hc) ?_
        subst hw
        exact zT_ret 3 rfl
  rw [if_neg c4] at hw
  by_cases c5 : a0 = 5
  · rw [if_pos c5] at hw
    refine zT_st (pc' := 58) (L' := [some (.int a0), some (.int a1), some (.int a2)]) (st' := []) (h' := h) 1 (fun n => zsw_in c5 rfl) ?_
    refine zT_st (pc' := 59) (L' := [some (.int a0), some (.int a1), some (.int a2)]) (st' := [.int a1]) (h' := h) 1 (fun n => rfl) ?_
    by_cases hc : a1 = 0
    · rw [if_pos hc] at hw
      refine zT_st (pc' := 62) (L' := [some (.int a0), some (.int a1), some (.int a2)]) (st' := []) (h' := h) 1 (fun n => if_pos hc) ?_
      refine zT_st (pc' := 63) (L' := [some (.int a0), some (.int a1), some (.int a2)]) (st' := [.int a2]) (h' := h) 1 (fun n => rfl) ?_
      by_cases hc : a2 = 0
      · rw [if_pos hc] at hw
        refine zT_st (pc' := 70) (L' := [some (.int a0), some (.int a1), some (.int a2)]) (st' := []) (h' := h) 1 (fun n => if_pos hc) ?_
        subst hw
        exact zT_ret 2 rfl
      · rw [if_neg hc] at hw
        refine zT_st (pc' := 66) (L' := [some (.int a0), some (.int a1), some (.int a2)]) (st' := []) (h' := h) 1 (fun n => if_neg hc) ?_
        subst hw
        exact zT_ret 3 rfl
    · rw [if_neg hc] at hw
      refine zT_st (pc' := 66) (L' := [some (.int a0), some (.int a1), some (.int a2)]) (st' := []) (h' := h) 1 (fun n => if_neg hc) ?_
      subst hw
      exact zT_ret 3 rfl
  rw [if_neg c5] at hw
  by_cases c6 : a0 = 6
  · rw [if_pos c6] at hw
    refine zT_st (pc' := 72) (L' := [some (.int a0), some (.int a1), some (.int a2)]) (st' := []) (h' := h) 1 (fun n => zsw_in c6 rfl) ?_
    refine zT_st (pc' := 74) (L' := [some (.int a0), some (.int a1), some (.int a2)]) (st' := [.int a2, .int a1]) (h' := h) 2 (fun n => rfl) ?_
    by_cases hc : a2 ≤ a1
    · rw [if_pos hc] at hw
      refine zT_st (pc' := 81) (L' := [some (.int a0), some (.int a1), some (.int a2)]) (st' := []) (h' := h) 1 (fun n => if_pos hc) ?_
      subst hw
      exact zT_ret 2 rfl
    · rw [if_neg hc] at hw
      refine zT_st (pc' := 77) (L' := [some (.int a0), some (.int a1), some (.int a2)]) (st' := []) (h' := h) 1 (fun n => if_neg hc) ?_
      subst hw
      exact zT_ret 3 rfl
  rw [if_neg c6] at hw
  by_cases c7 : a0 = 7
  · rw [if_pos c7] at hw
    refine zT_st (pc' := 83) (L' := [some (.int a0), some (.int a1), some (.int a2)]) (st' := []) (h' := h) 1 (fun n => zsw_in c7 rfl) ?_
    refine zT_st (pc' := 85) (L' := [some (.int a0), some (.int a1), some (.int a2)]) (st' := [.int a2, .int a1]) (h' := h) 2 (fun n => rfl) ?_
    by_cases hc : a1 = a2
    · rw [if_pos hc] at hw
      refine zT_st (pc' := 88) (L' := [some (.int a0), some (.int a1), some (.int a2)]) (st' := []) (h' := h) 1 (fun n => if_pos hc) ?_
      subst hw
      exact zT_ret 3 rfl
    · rw [if_neg hc] at hw
      refine zT_st (pc' := 92) (L' := [some (.int a0), some (.int a1), some (.int a2)]) (st' := []) (h' := h) 1 (fun n => if_neg hc) ?_
      subst hw
      exact zT_ret 2 rfl
  rw [if_neg c7] at hw
  by_cases c8 : a0 = 8
  · rw [if_pos c8] at hw
    refine zT_st (pc' := 94) (L' := [some (.int a0), some (.int a1), some (.int a2)]) (st' := []) (h' := h) 1 (fun n => zsw_in c8 rfl) ?_
    subst hw
    exact zT_ret 4 rfl
  rw [if_neg c8] at hw
  by_cases c9 : a0 = 9
  · rw [if_pos c9] at hw
    refine zT_st (pc' := 98) (L' := [some (.int a0), some (.int a1), some (.int a2)]) (st' := []) (h' := h) 1 (fun n => zsw_in c9 rfl) ?_
    subst hw
    exact zT_ret 4 rfl
  rw [if_neg c9] at hw
  by_cases c10 : a0 = 10
  · rw [if_pos c10] at hw
    refine zT_st (pc' := 102) (L' := [some (.int a0), some (.int a1), some (.int a2)]) (st' := []) (h' := h) 1 (fun n => zsw_in c10 rfl) ?_
    subst hw
    exact zT_ret 4 rfl
  rw [if_neg c10] at hw
  refine zT_st (pc' := 106) (L' := [some (.int a0), some (.int a1), some (.int a2)]) (st' := []) (h' := h) 1 (fun n => zsw_out (zout (n := 11) (by decide) (fun k hk => by rcases k with _ | _ | _ | _ | _ | _ | _ | _ | _ | _ | _ | k <;> first | assumption | omega)) rfl) ?_
  refine zT_st (pc' := 107) (L' := [some (.int a0), some (.int a1), some (.int a2)]) (st' := [.int a2]) (h' := h) 1 (fun n => rfl) ?_
  by_cases hc : a2 = 0
  · rw [if_pos hc] at hw
    refine zT_st (pc' := 110) (L' := [some (.int a0), some (.int a1), some (.int a2)]) (st' := []) (h' := h) 1 (fun n => if_pos hc) ?_
    subst hw
    exact zT_ret 3 rfl
  · rw [if_neg hc] at hw
    refine zT_st (pc' := 114) (L' := [some (.int a0), some (.int a1), some (.int a2)]) (st' := []) (h' := h) 1 (fun n => if_neg hc) ?_
    refine zT_st (pc' := 116) (L' := [some (.int a0), some (.int a1), some (.int a2)]) (st' := [.int a2, .int a1]) (h' := h) 2 (fun n => rfl) ?_
    obtain ⟨hz, hw⟩ := hw
    refine zT_st (pc' := 117) (L' := [some (.int a0), some (.int a1), some (.int a2)]) (st' := [.int (a1 / a2)]) (h' := h) 1 (fun n => if_neg hz) ?_
    subst hw
    exact zT_ret 1 rfl
set_option maxRecDepth 4000 in
theorem s_m_tread_0 (E : zX) (d : Nat) (a0 : Nat) (a1 : Int32) (h : zH) (r : zO × zH)
    (hw : (∃ w, fld h a0 12 0 = some w) ∧
    isO (setF h a0 0 (.int 0)) a0 12 = true ∧ ∃ (x1 : Int32) (h2 : zH), zT E d m_m_isBall 0 [some (.ref a0), some (.int a1)] [] (setF h a0 0 (.int 0)) (.inl (some (.int x1)), h2) ∧
    if x1 = 0 then (
      r = (.inl (some (.int 0)), h2))
    else (
      isO h2 a0 12 = true ∧ ∃ (x3 : Int32) (h4 : zH), zT E d m_m_mayTread 0 [some (.ref a0), some (.int 0), some (.int a1)] [] h2 (.inl (some (.int x3)), h4) ∧
      if x3 = 0 then (
        isO h4 a0 12 = true ∧ ∃ (x5 : Int32) (h6 : zH), zT E d m_m_refuses 0 [some (.ref a0), some (.int 1)] [] h4 (.inl (some (.int x5)), h6) ∧
        r = (.inl (some (.int x5)), h6))
      else (
        isO h4 a0 12 = true ∧ ∃ (h8 : zH), zT E d m_m_keeps 0 [some (.ref a0), none] [] h4 (.inl none, h8) ∧
        isO h8 a0 12 = true ∧ ∃ (x9 : Int32) (h10 : zH), zT E d m_m_goOff 0 [some (.ref a0), some (.int 0), some (.int (1 <<< (a1 &&& 31))), none, none, none, none] [] h8 (.inl (some (.int x9)), h10) ∧
        r = (.inl (some (.int x9)), h10)))) :
    zT E (d + 1) m_m_tread 0 [some (.ref a0), some (.int a1)] [] h r := by
  refine zT_st (pc' := 2) (L' := [some (.ref a0), some (.int a1)]) (st' := [.int 0, .ref a0]) (h' := h) 2 (fun n => rfl) ?_
  obtain ⟨⟨w, e⟩, hw⟩ := hw
  refine zT_st (pc' := 5) (L' := [some (.ref a0), some (.int a1)]) (st' := []) (h' := (setF h a0 0 (.int 0))) 1 (fun n => put_eq e rfl _ _) ?_
  refine zT_st (pc' := 7) (L' := [some (.ref a0), some (.int a1)]) (st' := [.int a1, .ref a0]) (h' := (setF h a0 0 (.int 0))) 2 (fun n => rfl) ?_
  obtain ⟨hq, hw⟩ := hw
  obtain ⟨x1, h2, hx, hw⟩ := hw
  refine zT_call (pc' := 10) (rest := []) 1 (fun n => rfl) hq hx ?_
  show zT E (d + 1) m_m_tread 10 [some (.ref a0), some (.int a1)] [.int x1] h2 r
  by_cases hc : x1 = 0
  · rw [if_pos hc] at hw
    refine zT_st (pc' := 13) (L' := [some (.ref a0), some (.int a1)]) (st' := []) (h' := h2) 1 (fun n => if_pos hc) ?_
    subst hw
    exact zT_ret 2 rfl
  · rw [if_neg hc] at hw
    refine zT_st (pc' := 15) (L' := [some (.ref a0), some (.int a1)]) (st' := []) (h' := h2) 1 (fun n => if_neg hc) ?_
    refine zT_st (pc' := 18) (L' := [some (.ref a0), some (.int a1)]) (st' := [.int a1, .int 0, .ref a0]) (h' := h2) 3 (fun n => rfl) ?_
    obtain ⟨hq, hw⟩ := hw
    obtain ⟨x3, h4, hx, hw⟩ := hw
    refine zT_call (pc' := 21) (rest := []) 1 (fun n => rfl) hq hx ?_
    show zT E (d + 1) m_m_tread 21 [some (.ref a0), some (.int a1)] [.int x3] h4 r
    by_cases hc : x3 = 0
    · rw [if_pos hc] at hw
      refine zT_st (pc' := 24) (L' := [some (.ref a0), some (.int a1)]) (st' := []) (h' := h4) 1 (fun n => if_pos hc) ?_
      refine zT_st (pc' := 26) (L' := [some (.ref a0), some (.int a1)]) (st' := [.int 1, .ref a0]) (h' := h4) 2 (fun n => rfl) ?_
      obtain ⟨hq, hw⟩ := hw
      obtain ⟨x5, h6, hx, hw⟩ := hw
      refine zT_call (pc' := 29) (rest := []) 1 (fun n => rfl) hq hx ?_
      show zT E (d + 1) m_m_tread 29 [some (.ref a0), some (.int a1)] [.int x5] h6 r
      subst hw
      exact zT_ret 1 rfl
    · rw [if_neg hc] at hw
      refine zT_st (pc' := 30) (L' := [some (.ref a0), some (.int a1)]) (st' := []) (h' := h4) 1 (fun n => if_neg hc) ?_
      refine zT_st (pc' := 31) (L' := [some (.ref a0), some (.int a1)]) (st' := [.ref a0]) (h' := h4) 1 (fun n => rfl) ?_
      obtain ⟨hq, hw⟩ := hw
      obtain ⟨h8, hx, hw⟩ := hw
      refine zT_call (pc' := 34) (rest := []) 1 (fun n => rfl) hq hx ?_
      show zT E (d + 1) m_m_tread 34 [some (.ref a0), some (.int a1)] [] h8 r
      refine zT_st (pc' := 39) (L' := [some (.ref a0), some (.int a1)]) (st' := [.int (1 <<< (a1 &&& 31)), .int 0, .ref a0]) (h' := h8) 5 (fun n => rfl) ?_
      obtain ⟨hq, hw⟩ := hw
      obtain ⟨x9, h10, hx, hw⟩ := hw
      refine zT_call (pc' := 42) (rest := []) 1 (fun n => rfl) hq hx ?_
      show zT E (d + 1) m_m_tread 42 [some (.ref a0), some (.int a1)] [.int x9] h10 r
      subst hw
      exact zT_ret 1 rfl
set_option maxRecDepth 4000 in
theorem s_m_mayTread_0 (E : zX) (d : Nat) (a0 : Nat) (a1 : Int32) (a2 : Int32) (h : zH) (r : zO × zH)
    (hw : isO h a0 12 = true ∧ ∃ (x1 : Int32) (h2 : zH), zT E d m_m_isWhite 0 [some (.ref a0), some (.int a1), some (.int a2)] [] h (.inl (some (.int x1)), h2) ∧
    if x1 = 0 then (
      ∃ o3 : Nat, fld h2 a0 12 40 = some (.ref o3) ∧
      ∃ (n4 : Nat) (f5 : Nat → Int32), arr h2 o3 = some (n4, f5) ∧ ¬ (((a1 + 69) + a2) < 0 ∨ n4 ≤ (((a1 + 69) + a2)).toNatClampNeg) ∧
      if (f5 (((a1 + 69) + a2)).toNatClampNeg) = 0 then (
        r = (.inl (some (.int 1)), h2))
      else (
        r = (.inl (some (.int 0)), h2)))
    else (
      r = (.inl (some (.int 0)), h2))) :
    zT E (d + 1) m_m_mayTread 0 [some (.ref a0), some (.int a1), some (.int a2)] [] h r := by
  refine zT_st (pc' := 3) (L' := [some (.ref a0), some (.int a1), some (.int a2)]) (st' := [.int a2, .int a1, .ref a0]) (h' := h) 3 (fun n => rfl) ?_
  obtain ⟨hq, hw⟩ := hw
  obtain ⟨x1, h2, hx, hw⟩ := hw
  refine zT_call (pc' := 6) (rest := []) 1 (fun n => rfl) hq hx ?_
  show zT E (d + 1) m_m_mayTread 6 [some (.ref a0), some (.int a1), some (.int a2)] [.int x1] h2 r
  by_cases hc : x1 = 0
  · rw [if_pos hc] at hw
    refine zT_st (pc' := 9) (L' := [some (.ref a0), some (.int a1), some (.int a2)]) (st' := []) (h' := h2) 1 (fun n => if_pos hc) ?_
    refine zT_st (pc' := 10) (L' := [some (.ref a0), some (.int a1), some (.int a2)]) (st' := [.ref a0]) (h' := h2) 1 (fun n => rfl) ?_
    obtain ⟨o3, e, hw⟩ := hw
    refine zT_st (pc' := 13) (L' := [some (.ref a0), some (.int a1), some (.int a2)]) (st' := [.ref o3]) (h' := h2) 1 (fun n => fld_eq (E := E) e _) ?_
    refine zT_st (pc' := 19) (L' := [some (.ref a0), some (.int a1), some (.int a2)]) (st' := [.int ((a1 + 69) + a2), .ref o3]) (h' := h2) 5 (fun n => rfl) ?_
    obtain ⟨n4, f5, e, hi, hw⟩ := hw
    refine zT_st (pc' := 20) (L' := [some (.ref a0), some (.int a1), some (.int a2)]) (st' := [.int (f5 (((a1 + 69) + a2)).toNatClampNeg)]) (h' := h2) 1 (fun n => arr_eq (E := E) e hi [] (fun st => zrun zP zCd E n (d + 1) m_m_mayTread 20 [some (.ref a0), some (.int a1), some (.int a2)] st h2)) ?_
    by_cases hc : (f5 (((a1 + 69) + a2)).toNatClampNeg) = 0
    · rw [if_pos hc] at hw
      refine zT_st (pc' := 23) (L' := [some (.ref a0), some (.int a1), some (.int a2)]) (st' := []) (h' := h2) 1 (fun n => if_pos hc) ?_
      subst hw
      exact zT_ret 3 rfl
    · rw [if_neg hc] at hw
      refine zT_st (pc' := 27) (L' := [some (.ref a0), some (.int a1), some (.int a2)]) (st' := []) (h' := h2) 1 (fun n => if_neg hc) ?_
      subst hw
      exact zT_ret 2 rfl
  · rw [if_neg hc] at hw
    refine zT_st (pc' := 27) (L' := [some (.ref a0), some (.int a1), some (.int a2)]) (st' := []) (h' := h2) 1 (fun n => if_neg hc) ?_
    subst hw
    exact zT_ret 2 rfl
set_option maxRecDepth 4000 in
theorem s_m_soothe_0 (E : zX) (d : Nat) (a0 : Nat) (a1 : Int32) (a2 : Int32) (h : zH) (r : zO × zH)
    (hw : (∃ w, fld h a0 12 0 = some w) ∧
    isO (setF h a0 0 (.int 0)) a0 12 = true ∧ ∃ (x1 : Int32) (h2 : zH), zT E d m_m_isPerson 0 [some (.ref a0), some (.int a1)] [] (setF h a0 0 (.int 0)) (.inl (some (.int x1)), h2) ∧
    if x1 = 0 then (
      r = (.inl (some (.int 0)), h2))
    else (
      ∃ o3 : Nat, fld h2 a0 12 40 = some (.ref o3) ∧
      ∃ (n4 : Nat) (f5 : Nat → Int32), arr h2 o3 = some (n4, f5) ∧ ¬ ((1 + a1) < 0 ∨ n4 ≤ ((1 + a1)).toNatClampNeg) ∧
      ∃ (x6 : Int32) (h7 : zH), zT E d m_m_within 0 [some (.int a2), some (.int 0), some (.int 99)] [] h2 (.inl (some (.int x6)), h7) ∧
      if x6 = 0 then (
        isO h7 a0 12 = true ∧ ∃ (x8 : Int32) (h9 : zH), zT E d m_m_refuses 0 [some (.ref a0), some (.int 1)] [] h7 (.inl (some (.int x8)), h9) ∧
        r = (.inl (some (.int x8)), h9))
      else (
        isO h7 a0 12 = true ∧ ∃ (h11 : zH), zT E d m_m_keeps 0 [some (.ref a0), none] [] h7 (.inl none, h11) ∧
        ∃ o12 : Nat, fld h11 a0 12 40 = some (.ref o12) ∧
        ∃ (n13 : Nat) (f14 : Nat → Int32), arr h11 o12 = some (n13, f14) ∧ ¬ ((1 + a1) < 0 ∨ n13 ≤ ((1 + a1)).toNatClampNeg) ∧
        r = (.inl (some (.int (f5 ((1 + a1)).toNatClampNeg))), (setA h11 o12 n13 (upd f14 ((1 + a1)).toNatClampNeg a2)))))) :
    zT E (d + 1) m_m_soothe 0 [some (.ref a0), some (.int a1), some (.int a2), none] [] h r := by
  refine zT_st (pc' := 2) (L' := [some (.ref a0), some (.int a1), some (.int a2), none]) (st' := [.int 0, .ref a0]) (h' := h) 2 (fun n => rfl) ?_
  obtain ⟨⟨w, e⟩, hw⟩ := hw
  refine zT_st (pc' := 5) (L' := [some (.ref a0), some (.int a1), some (.int a2), none]) (st' := []) (h' := (setF h a0 0 (.int 0))) 1 (fun n => put_eq e rfl _ _) ?_
  refine zT_st (pc' := 7) (L' := [some (.ref a0), some (.int a1), some (.int a2), none]) (st' := [.int a1, .ref a0]) (h' := (setF h a0 0 (.int 0))) 2 (fun n => rfl) ?_
  obtain ⟨hq, hw⟩ := hw
  obtain ⟨x1, h2, hx, hw⟩ := hw
  refine zT_call (pc' := 10) (rest := []) 1 (fun n => rfl) hq hx ?_
  show zT E (d + 1) m_m_soothe 10 [some (.ref a0), some (.int a1), some (.int a2), none] [.int x1] h2 r
  by_cases hc : x1 = 0
  · rw [if_pos hc] at hw
    refine zT_st (pc' := 13) (L' := [some (.ref a0), some (.int a1), some (.int a2), none]) (st' := []) (h' := h2) 1 (fun n => if_pos hc) ?_
    subst hw
    exact zT_ret 2 rfl
  · rw [if_neg hc] at hw
    refine zT_st (pc' := 15) (L' := [some (.ref a0), some (.int a1), some (.int a2), none]) (st' := []) (h' := h2) 1 (fun n => if_neg hc) ?_
    refine zT_st (pc' := 16) (L' := [some (.ref a0), some (.int a1), some (.int a2), none]) (st' := [.ref a0]) (h' := h2) 1 (fun n => rfl) ?_
    obtain ⟨o3, e, hw⟩ := hw
    refine zT_st (pc' := 19) (L' := [some (.ref a0), some (.int a1), some (.int a2), none]) (st' := [.ref o3]) (h' := h2) 1 (fun n => fld_eq (E := E) e _) ?_
    refine zT_st (pc' := 22) (L' := [some (.ref a0), some (.int a1), some (.int a2), none]) (st' := [.int (1 + a1), .ref o3]) (h' := h2) 3 (fun n => rfl) ?_
    obtain ⟨n4, f5, e, hi, hw⟩ := hw
    refine zT_st (pc' := 23) (L' := [some (.ref a0), some (.int a1), some (.int a2), none]) (st' := [.int (f5 ((1 + a1)).toNatClampNeg)]) (h' := h2) 1 (fun n => arr_eq (E := E) e hi [] (fun st => zrun zP zCd E n (d + 1) m_m_soothe 23 [some (.ref a0), some (.int a1), some (.int a2), none] st h2)) ?_
    refine zT_st (pc' := 28) (L' := [some (.ref a0), some (.int a1), some (.int a2), some (.int (f5 ((1 + a1)).toNatClampNeg))]) (st' := [.int 99, .int 0, .int a2]) (h' := h2) 4 (fun n => rfl) ?_
    obtain ⟨x6, h7, hx, hw⟩ := hw
    refine zT_call (pc' := 31) (rest := []) 1 (fun n => rfl) rfl hx ?_
    show zT E (d + 1) m_m_soothe 31 [some (.ref a0), some (.int a1), some (.int a2), some (.int (f5 ((1 + a1)).toNatClampNeg))] [.int x6] h7 r
    by_cases hc : x6 = 0
    · rw [if_pos hc] at hw
      refine zT_st (pc' := 34) (L' := [some (.ref a0), some (.int a1), some (.int a2), some (.int (f5 ((1 + a1)).toNatClampNeg))]) (st' := []) (h' := h7) 1 (fun n => if_pos hc) ?_
      refine zT_st (pc' := 36) (L' := [some (.ref a0), some (.int a1), some (.int a2), some (.int (f5 ((1 + a1)).toNatClampNeg))]) (st' := [.int 1, .ref a0]) (h' := h7) 2 (fun n => rfl) ?_
      obtain ⟨hq, hw⟩ := hw
      obtain ⟨x8, h9, hx, hw⟩ := hw
      refine zT_call (pc' := 39) (rest := []) 1 (fun n => rfl) hq hx ?_
      show zT E (d + 1) m_m_soothe 39 [some (.ref a0), some (.int a1), some (.int a2), some (.int (f5 ((1 + a1)).toNatClampNeg))] [.int x8] h9 r
      subst hw
      exact zT_ret 1 rfl
    · rw [if_neg hc] at hw
      refine zT_st (pc' := 40) (L' := [some (.ref a0), some (.int a1), some (.int a2), some (.int (f5 ((1 + a1)).toNatClampNeg))]) (st' := []) (h' := h7) 1 (fun n => if_neg hc) ?_
      refine zT_st (pc' := 41) (L' := [some (.ref a0), some (.int a1), some (.int a2), some (.int (f5 ((1 + a1)).toNatClampNeg))]) (st' := [.ref a0]) (h' := h7) 1 (fun n => rfl) ?_
      obtain ⟨hq, hw⟩ := hw
      obtain ⟨h11, hx, hw⟩ := hw
      refine zT_call (pc' := 44) (rest := []) 1 (fun n => rfl) hq hx ?_
      show zT E (d + 1) m_m_soothe 44 [some (.ref a0), some (.int a1), some (.int a2), some (.int (f5 ((1 + a1)).toNatClampNeg))] [] h11 r
      refine zT_st (pc' := 45) (L' := [some (.ref a0), some (.int a1), some (.int a2), some (.int (f5 ((1 + a1)).toNatClampNeg))]) (st' := [.ref a0]) (h' := h11) 1 (fun n => rfl) ?_
      obtain ⟨o12, e, hw⟩ := hw
      refine zT_st (pc' := 48) (L' := [some (.ref a0), some (.int a1), some (.int a2), some (.int (f5 ((1 + a1)).toNatClampNeg))]) (st' := [.ref o12]) (h' := h11) 1 (fun n => fld_eq (E := E) e _) ?_
      refine zT_st (pc' := 52) (L' := [some (.ref a0), some (.int a1), some (.int a2), some (.int (f5 ((1 + a1)).toNatClampNeg))]) (st' := [.int a2, .int (1 + a1), .ref o12]) (h' := h11) 4 (fun n => rfl) ?_
      obtain ⟨n13, f14, e, hi, hw⟩ := hw
      refine zT_st (pc' := 53) (L' := [some (.ref a0), some (.int a1), some (.int a2), some (.int (f5 ((1 + a1)).toNatClampNeg))]) (st' := []) (h' := (setA h11 o12 n13 (upd f14 ((1 + a1)).toNatClampNeg a2))) 1 (fun n => set_eq e hi _ _) ?_
      subst hw
      exact zT_ret 2 rfl
set_option maxRecDepth 4000 in
theorem s_m_then_0 (E : zX) (d : Nat) (a0 : Nat) (a1 : Int32) (a2 : Int32) (a3 : Int32) (h : zH) (r : zO × zH)
    (hw : (∃ w, fld h a0 12 0 = some w) ∧
    isO (setF h a0 0 (.int 0)) a0 12 = true ∧ ∃ (x1 : Int32) (h2 : zH), zT E d m_m_isBall 0 [some (.ref a0), some (.int a1)] [] (setF h a0 0 (.int 0)) (.inl (some (.int x1)), h2) ∧
    if x1 = 0 then (
      r = (.inl (some (.int 0)), h2))
    else (
      isO h2 a0 12 = true ∧ ∃ (x3 : Int32) (h4 : zH), zT E d m_m_isWhat 0 [some (.ref a0), some (.int a3), some (.int 2)] [] h2 (.inl (some (.int x3)), h4) ∧
      if x3 = 0 then (
        r = (.inl (some (.int 0)), h4))
      else (
        isO h4 a0 12 = true ∧ ∃ (x5 : Int32) (h6 : zH), zT E d m_m_isSoon 0 [some (.ref a0), some (.int a2), some (.int 0), some (.int 2)] [] h4 (.inl (some (.int x5)), h6) ∧
        if x5 = 0 then (
          r = (.inl (some (.int 0)), h6))
        else (
          isO h6 a0 12 = true ∧ ∃ (h8 : zH), zT E d m_m_goesTo 0 [some (.ref a0), some (.int a2)] [] h6 (.inl none, h8) ∧
          ∃ o9 : Nat, fld h8 a0 12 40 = some (.ref o9) ∧
          if a3 = 0 then (
            ∃ (n10 : Nat) (f11 : Nat → Int32), arr h8 o9 = some (n10, f11) ∧ ¬ (((79 + 39) + a1) < 0 ∨ n10 ≤ (((79 + 39) + a1)).toNatClampNeg) ∧
            r = (.inl (some (.int (f11 (((79 + 39) + a1)).toNatClampNeg))), h8))
          else (
            if a3 = 1 then (
              ∃ (n12 : Nat) (f13 : Nat → Int32), arr h8 o9 = some (n12, f13) ∧ ¬ (((79 + 49) + a1) < 0 ∨ n12 ≤ (((79 + 49) + a1)).toNatClampNeg) ∧
              r = (.inl (some (.int (f13 (((79 + 49) + a1)).toNatClampNeg))), h8))
            else (
              ∃ (n14 : Nat) (f15 : Nat → Int32), arr h8 o9 = some (n14, f15) ∧ ¬ (((79 + 59) + a1) < 0 ∨ n14 ≤ (((79 + 59) + a1)).toNatClampNeg) ∧
              r = (.inl (some (.int (f15 (((79 + 59) + a1)).toNatClampNeg))), h8))))))) :
    zT E (d + 1) m_m_then 0 [some (.ref a0), some (.int a1), some (.int a2), some (.int a3)] [] h r := by
  refine zT_st (pc' := 2) (L' := [some (.ref a0), some (.int a1), some (.int a2), some (.int a3)]) (st' := [.int 0, .ref a0]) (h' := h) 2 (fun n => rfl) ?_
  obtain ⟨⟨w, e⟩, hw⟩ := hw
  refine zT_st (pc' := 5) (L' := [some (.ref a0), some (.int a1), some (.int a2), some (.int a3)]) (st' := []) (h' := (setF h a0 0 (.int 0))) 1 (fun n => put_eq e rfl _ _) ?_
  refine zT_st (pc' := 7) (L' := [some (.ref a0), some (.int a1), some (.int a2), some (.int a3)]) (st' := [.int a1, .ref a0]) (h' := (setF h a0 0 (.int 0))) 2 (fun n => rfl) ?_
  obtain ⟨hq, hw⟩ := hw
  obtain ⟨x1, h2, hx, hw⟩ := hw
  refine zT_call (pc' := 10) (rest := []) 1 (fun n => rfl) hq hx ?_
  show zT E (d + 1) m_m_then 10 [some (.ref a0), some (.int a1), some (.int a2), some (.int a3)] [.int x1] h2 r
  by_cases hc : x1 = 0
  · rw [if_pos hc] at hw
    refine zT_st (pc' := 32) (L' := [some (.ref a0), some (.int a1), some (.int a2), some (.int a3)]) (st' := []) (h' := h2) 1 (fun n => if_pos hc) ?_
    subst hw
    exact zT_ret 2 rfl
  · rw [if_neg hc] at hw
    refine zT_st (pc' := 13) (L' := [some (.ref a0), some (.int a1), some (.int a2), some (.int a3)]) (st' := []) (h' := h2) 1 (fun n => if_neg hc) ?_
    refine zT_st (pc' := 16) (L' := [some (.ref a0), some (.int a1), some (.int a2), some (.int a3)]) (st' := [.int 2, .int a3, .ref a0]) (h' := h2) 3 (fun n => rfl) ?_
    obtain ⟨hq, hw⟩ := hw
    obtain ⟨x3, h4, hx, hw⟩ := hw
    refine zT_call (pc' := 19) (rest := []) 1 (fun n => rfl) hq hx ?_
    show zT E (d + 1) m_m_then 19 [some (.ref a0), some (.int a1), some (.int a2), some (.int a3)] [.int x3] h4 r
    by_cases hc : x3 = 0
    · rw [if_pos hc] at hw
      refine zT_st (pc' := 32) (L' := [some (.ref a0), some (.int a1), some (.int a2), some (.int a3)]) (st' := []) (h' := h4) 1 (fun n => if_pos hc) ?_
      subst hw
      exact zT_ret 2 rfl
    · rw [if_neg hc] at hw
      refine zT_st (pc' := 22) (L' := [some (.ref a0), some (.int a1), some (.int a2), some (.int a3)]) (st' := []) (h' := h4) 1 (fun n => if_neg hc) ?_
      refine zT_st (pc' := 26) (L' := [some (.ref a0), some (.int a1), some (.int a2), some (.int a3)]) (st' := [.int 2, .int 0, .int a2, .ref a0]) (h' := h4) 4 (fun n => rfl) ?_
      obtain ⟨hq, hw⟩ := hw
      obtain ⟨x5, h6, hx, hw⟩ := hw
      refine zT_call (pc' := 29) (rest := []) 1 (fun n => rfl) hq hx ?_
      show zT E (d + 1) m_m_then 29 [some (.ref a0), some (.int a1), some (.int a2), some (.int a3)] [.int x5] h6 r
      by_cases hc : x5 = 0
      · rw [if_pos hc] at hw
        refine zT_st (pc' := 32) (L' := [some (.ref a0), some (.int a1), some (.int a2), some (.int a3)]) (st' := []) (h' := h6) 1 (fun n => if_pos hc) ?_
        subst hw
        exact zT_ret 2 rfl
      · rw [if_neg hc] at hw
        refine zT_st (pc' := 34) (L' := [some (.ref a0), some (.int a1), some (.int a2), some (.int a3)]) (st' := []) (h' := h6) 1 (fun n => if_neg hc) ?_
        refine zT_st (pc' := 36) (L' := [some (.ref a0), some (.int a1), some (.int a2), some (.int a3)]) (st' := [.int a2, .ref a0]) (h' := h6) 2 (fun n => rfl) ?_
        obtain ⟨hq, hw⟩ := hw
        obtain ⟨h8, hx, hw⟩ := hw
        refine zT_call (pc' := 39) (rest := []) 1 (fun n => rfl) hq hx ?_
        show zT E (d + 1) m_m_then 39 [some (.ref a0), some (.int a1), some (.int a2), some (.int a3)] [] h8 r
        refine zT_st (pc' := 40) (L' := [some (.ref a0), some (.int a1), some (.int a2), some (.int a3)]) (st' := [.ref a0]) (h' := h8) 1 (fun n => rfl) ?_
        obtain ⟨o9, e, hw⟩ := hw
        refine zT_st (pc' := 43) (L' := [some (.ref a0), some (.int a1), some (.int a2), some (.int a3)]) (st' := [.ref o9]) (h' := h8) 1 (fun n => fld_eq (E := E) e _) ?_
        refine zT_st (pc' := 46) (L' := [some (.ref a0), some (.int a1), some (.int a2), some (.int a3)]) (st' := [.int a3, .int 79, .ref o9]) (h' := h8) 2 (fun n => rfl) ?_
        by_cases hc : a3 = 0
        · rw [if_pos hc] at hw
          refine zT_st (pc' := 49) (L' := [some (.ref a0), some (.int a1), some (.int a2), some (.int a3)]) (st' := [.int 79, .ref o9]) (h' := h8) 1 (fun n => if_pos hc) ?_
          refine zT_st (pc' := 69) (L' := [some (.ref a0), some (.int a1), some (.int a2), some (.int a3)]) (st' := [.int ((79 + 39) + a1), .ref o9]) (h' := h8) 5 (fun n => rfl) ?_
          obtain ⟨n10, f11, e, hi, hw⟩ := hw
          refine zT_st (pc' := 70) (L' := [some (.ref a0), some (.int a1), some (.int a2), some (.int a3)]) (st' := [.int (f11 (((79 + 39) + a1)).toNatClampNeg)]) (h' := h8) 1 (fun n => arr_eq (E := E) e hi [] (fun st => zrun zP zCd E n (d + 1) m_m_then 70 [some (.ref a0), some (.int a1), some (.int a2), some (.int a3)] st h8)) ?_
          subst hw
          exact zT_ret 1 rfl
        · rw [if_neg hc] at hw
          refine zT_st (pc' := 54) (L' := [some (.ref a0), some (.int a1), some (.int a2), some (.int a3)]) (st' := [.int 79, .ref o9]) (h' := h8) 1 (fun n => if_neg hc) ?_
          refine zT_st (pc' := 56) (L' := [some (.ref a0), some (.int a1), some (.int a2), some (.int a3)]) (st' := [.int 1, .int a3, .int 79, .ref o9]) (h' := h8) 2 (fun n => rfl) ?_
          by_cases hc : a3 = 1
          · rw [if_pos hc] at hw
            refine zT_st (pc' := 59) (L' := [some (.ref a0), some (.int a1), some (.int a2), some (.int a3)]) (st' := [.int 79, .ref o9]) (h' := h8) 1 (fun n => if_pos hc) ?_
            refine zT_st (pc' := 69) (L' := [some (.ref a0), some (.int a1), some (.int a2), some (.int a3)]) (st' := [.int ((79 + 49) + a1), .ref o9]) (h' := h8) 5 (fun n => rfl) ?_
            obtain ⟨n12, f13, e, hi, hw⟩ := hw
            refine zT_st (pc' := 70) (L' := [some (.ref a0), some (.int a1), some (.int a2), some (.int a3)]) (st' := [.int (f13 (((79 + 49) + a1)).toNatClampNeg)]) (h' := h8) 1 (fun n => arr_eq (E := E) e hi [] (fun st => zrun zP zCd E n (d + 1) m_m_then 70 [some (.ref a0), some (.int a1), some (.int a2), some (.int a3)] st h8)) ?_
            subst hw
            exact zT_ret 1 rfl
          · rw [if_neg hc] at hw
            refine zT_st (pc' := 64) (L' := [some (.ref a0), some (.int a1), some (.int a2), some (.int a3)]) (st' := [.int 79, .ref o9]) (h' := h8) 1 (fun n => if_neg hc) ?_
            refine zT_st (pc' := 69) (L' := [some (.ref a0), some (.int a1), some (.int a2), some (.int a3)]) (st' := [.int ((79 + 59) + a1), .ref o9]) (h' := h8) 4 (fun n => rfl) ?_
            obtain ⟨n14, f15, e, hi, hw⟩ := hw
            refine zT_st (pc' := 70) (L' := [some (.ref a0), some (.int a1), some (.int a2), some (.int a3)]) (st' := [.int (f15 (((79 + 59) + a1)).toNatClampNeg)]) (h' := h8) 1 (fun n => arr_eq (E := E) e hi [] (fun st => zrun zP zCd E n (d + 1) m_m_then 70 [some (.ref a0), some (.int a1), some (.int a2), some (.int a3)] st h8)) ?_
            subst hw
            exact zT_ret 1 rfl
set_option maxRecDepth 4000 in
theorem s_m_tries_0 (E : zX) (d : Nat) (a0 : Nat) (h : zH) (r : zO × zH)
    (hw : zT E d m_m_tries 2 [some (.ref a0), some (.int 0)] [] h r) :
    zT E d m_m_tries 0 [some (.ref a0), none] [] h r := by
  exact zT_st 2 (fun n => rfl) hw
set_option maxRecDepth 4000 in
theorem s_m_tries_2 (E : zX) (d : Nat) (a0 : Nat) (a1 : Int32) (h : zH) (r : zO × zH)
    (hw : if 79 ≤ a1 then (
      r = (.inl (none), h))
    else (
      ∃ o1 : Nat, fld h a0 12 40 = some (.ref o1) ∧
      ∃ o2 : Nat, fld h a0 12 40 = some (.ref o2) ∧
      ∃ (n3 : Nat) (f4 : Nat → Int32), arr h o2 = some (n3, f4) ∧ ¬ (a1 < 0 ∨ n3 ≤ (a1).toNatClampNeg) ∧
      ∃ (n5 : Nat) (f6 : Nat → Int32), arr h o1 = some (n5, f6) ∧ ¬ ((79 + a1) < 0 ∨ n5 ≤ ((79 + a1)).toNatClampNeg) ∧
      zT E d m_m_tries 2 [some (.ref a0), some (.int (a1 + 1))] [] (setA h o1 n5 (upd f6 ((79 + a1)).toNatClampNeg (f4 (a1).toNatClampNeg))) r)) :
    zT E d m_m_tries 2 [some (.ref a0), some (.int a1)] [] h r := by
  refine zT_st (pc' := 5) (L' := [some (.ref a0), some (.int a1)]) (st' := [.int 79, .int a1]) (h' := h) 2 (fun n => rfl) ?_
  by_cases hc : 79 ≤ a1
  · rw [if_pos hc] at hw
    refine zT_st (pc' := 29) (L' := [some (.ref a0), some (.int a1)]) (st' := []) (h' := h) 1 (fun n => if_pos hc) ?_
    subst hw
    exact zT_ret 1 rfl
  · rw [if_neg hc] at hw
    refine zT_st (pc' := 8) (L' := [some (.ref a0), some (.int a1)]) (st' := []) (h' := h) 1 (fun n => if_neg hc) ?_
    refine zT_st (pc' := 9) (L' := [some (.ref a0), some (.int a1)]) (st' := [.ref a0]) (h' := h) 1 (fun n => rfl) ?_
    obtain ⟨o1, e, hw⟩ := hw
    refine zT_st (pc' := 12) (L' := [some (.ref a0), some (.int a1)]) (st' := [.ref o1]) (h' := h) 1 (fun n => fld_eq (E := E) e _) ?_
    refine zT_st (pc' := 17) (L' := [some (.ref a0), some (.int a1)]) (st' := [.ref a0, .int (79 + a1), .ref o1]) (h' := h) 4 (fun n => rfl) ?_
    obtain ⟨o2, e, hw⟩ := hw
    refine zT_st (pc' := 20) (L' := [some (.ref a0), some (.int a1)]) (st' := [.ref o2, .int (79 + a1), .ref o1]) (h' := h) 1 (fun n => fld_eq (E := E) e _) ?_
    refine zT_st (pc' := 21) (L' := [some (.ref a0), some (.int a1)]) (st' := [.int a1, .ref o2, .int (79 + a1), .ref o1]) (h' := h) 1 (fun n => rfl) ?_
    obtain ⟨n3, f4, e, hi, hw⟩ := hw
    refine zT_st (pc' := 22) (L' := [some (.ref a0), some (.int a1)]) (st' := [.int (f4 (a1).toNatClampNeg), .int (79 + a1), .ref o1]) (h' := h) 1 (fun n => arr_eq (E := E) e hi [.int (79 + a1), .ref o1] (fun st => zrun zP zCd E n d m_m_tries 22 [some (.ref a0), some (.int a1)] st h)) ?_
    obtain ⟨n5, f6, e, hi, hw⟩ := hw
    refine zT_st (pc' := 23) (L' := [some (.ref a0), some (.int a1)]) (st' := []) (h' := (setA h o1 n5 (upd f6 ((79 + a1)).toNatClampNeg (f4 (a1).toNatClampNeg)))) 1 (fun n => set_eq e hi _ _) ?_
    exact zT_st 2 (fun n => rfl) hw
set_option maxRecDepth 4000 in
theorem s_m_mood_0 (E : zX) (d : Nat) (a0 : Nat) (a1 : Int32) (a2 : Int32) (a3 : Int32) (h : zH) (r : zO × zH)
    (hw : (∃ w, fld h a0 12 0 = some w) ∧
    isO (setF h a0 0 (.int 0)) a0 12 = true ∧ ∃ (x1 : Int32) (h2 : zH), zT E d m_m_isPerson 0 [some (.ref a0), some (.int a1)] [] (setF h a0 0 (.int 0)) (.inl (some (.int x1)), h2) ∧
    if x1 = 0 then (
      r = (.inl (some (.int 0)), h2))
    else (
      isO h2 a0 12 = true ∧ ∃ (x3 : Int32) (h4 : zH), zT E d m_m_isWhat 0 [some (.ref a0), some (.int a3), some (.int 2)] [] h2 (.inl (some (.int x3)), h4) ∧
      if x3 = 0 then (
        r = (.inl (some (.int 0)), h4))
      else (
        isO h4 a0 12 = true ∧ ∃ (x5 : Int32) (h6 : zH), zT E d m_m_isSoon 0 [some (.ref a0), some (.int a2), some (.int 0), some (.int 2)] [] h4 (.inl (some (.int x5)), h6) ∧
        if x5 = 0 then (
          r = (.inl (some (.int 0)), h6))
        else (
          isO h6 a0 12 = true ∧ ∃ (h8 : zH), zT E d m_m_goesTo 0 [some (.ref a0), some (.int a2)] [] h6 (.inl none, h8) ∧
          ∃ o9 : Nat, fld h8 a0 12 40 = some (.ref o9) ∧
          if a3 = 0 then (
            ∃ (n10 : Nat) (f11 : Nat → Int32), arr h8 o9 = some (n10, f11) ∧ ¬ (((79 + 1) + a1) < 0 ∨ n10 ≤ (((79 + 1) + a1)).toNatClampNeg) ∧
            r = (.inl (some (.int (f11 (((79 + 1) + a1)).toNatClampNeg))), h8))
          else (
            if a3 = 1 then (
              ∃ (n12 : Nat) (f13 : Nat → Int32), arr h8 o9 = some (n12, f13) ∧ ¬ (((79 + 8) + a1) < 0 ∨ n12 ≤ (((79 + 8) + a1)).toNatClampNeg) ∧
              r = (.inl (some (.int (f13 (((79 + 8) + a1)).toNatClampNeg))), h8))
            else (
              ∃ (n14 : Nat) (f15 : Nat → Int32), arr h8 o9 = some (n14, f15) ∧ ¬ (((79 + 15) + a1) < 0 ∨ n14 ≤ (((79 + 15) + a1)).toNatClampNeg) ∧
              r = (.inl (some (.int (f15 (((79 + 15) + a1)).toNatClampNeg))), h8))))))) :
    zT E (d + 1) m_m_mood 0 [some (.ref a0), some (.int a1), some (.int a2), some (.int a3)] [] h r := by
  refine zT_st (pc' := 2) (L' := [some (.ref a0), some (.int a1), some (.int a2), some (.int a3)]) (st' := [.int 0, .ref a0]) (h' := h) 2 (fun n => rfl) ?_
  obtain ⟨⟨w, e⟩, hw⟩ := hw
  refine zT_st (pc' := 5) (L' := [some (.ref a0), some (.int a1), some (.int a2), some (.int a3)]) (st' := []) (h' := (setF h a0 0 (.int 0))) 1 (fun n => put_eq e rfl _ _) ?_
  refine zT_st (pc' := 7) (L' := [some (.ref a0), some (.int a1), some (.int a2), some (.int a3)]) (st' := [.int a1, .ref a0]) (h' := (setF h a0 0 (.int 0))) 2 (fun n => rfl) ?_
  obtain ⟨hq, hw⟩ := hw
  obtain ⟨x1, h2, hx, hw⟩ := hw
  refine zT_call (pc' := 10) (rest := []) 1 (fun n => rfl) hq hx ?_
  show zT E (d + 1) m_m_mood 10 [some (.ref a0), some (.int a1), some (.int a2), some (.int a3)] [.int x1] h2 r
  by_cases hc : x1 = 0
  · rw [if_pos hc] at hw
    refine zT_st (pc' := 32) (L' := [some (.ref a0), some (.int a1), some (.int a2), some (.int a3)]) (st' := []) (h' := h2) 1 (fun n => if_pos hc) ?_
    subst hw
    exact zT_ret 2 rfl
  · rw [if_neg hc] at hw
    refine zT_st (pc' := 13) (L' := [some (.ref a0), some (.int a1), some (.int a2), some (.int a3)]) (st' := []) (h' := h2) 1 (fun n => if_neg hc) ?_
    refine zT_st (pc' := 16) (L' := [some (.ref a0), some (.int a1), some (.int a2), some (.int a3)]) (st' := [.int 2, .int a3, .ref a0]) (h' := h2) 3 (fun n => rfl) ?_
    obtain ⟨hq, hw⟩ := hw
    obtain ⟨x3, h4, hx, hw⟩ := hw
    refine zT_call (pc' := 19) (rest := []) 1 (fun n => rfl) hq hx ?_
    show zT E (d + 1) m_m_mood 19 [some (.ref a0), some (.int a1), some (.int a2), some (.int a3)] [.int x3] h4 r
    by_cases hc : x3 = 0
    · rw [if_pos hc] at hw
      refine zT_st (pc' := 32) (L' := [some (.ref a0), some (.int a1), some (.int a2), some (.int a3)]) (st' := []) (h' := h4) 1 (fun n => if_pos hc) ?_
      subst hw
      exact zT_ret 2 rfl
    · rw [if_neg hc] at hw
      refine zT_st (pc' := 22) (L' := [some (.ref a0), some (.int a1), some (.int a2), some (.int a3)]) (st' := []) (h' := h4) 1 (fun n => if_neg hc) ?_
      refine zT_st (pc' := 26) (L' := [some (.ref a0), some (.int a1), some (.int a2), some (.int a3)]) (st' := [.int 2, .int 0, .int a2, .ref a0]) (h' := h4) 4 (fun n => rfl) ?_
      obtain ⟨hq, hw⟩ := hw
      obtain ⟨x5, h6, hx, hw⟩ := hw
      refine zT_call (pc' := 29) (rest := []) 1 (fun n => rfl) hq hx ?_
      show zT E (d + 1) m_m_mood 29 [some (.ref a0), some (.int a1), some (.int a2), some (.int a3)] [.int x5] h6 r
      by_cases hc : x5 = 0
      · rw [if_pos hc] at hw
        refine zT_st (pc' := 32) (L' := [some (.ref a0), some (.int a1), some (.int a2), some (.int a3)]) (st' := []) (h' := h6) 1 (fun n => if_pos hc) ?_
        subst hw
        exact zT_ret 2 rfl
      · rw [if_neg hc] at hw
        refine zT_st (pc' := 34) (L' := [some (.ref a0), some (.int a1), some (.int a2), some (.int a3)]) (st' := []) (h' := h6) 1 (fun n => if_neg hc) ?_
        refine zT_st (pc' := 36) (L' := [some (.ref a0), some (.int a1), some (.int a2), some (.int a3)]) (st' := [.int a2, .ref a0]) (h' := h6) 2 (fun n => rfl) ?_
        obtain ⟨hq, hw⟩ := hw
        obtain ⟨h8, hx, hw⟩ := hw
        refine zT_call (pc' := 39) (rest := []) 1 (fun n => rfl) hq hx ?_
        show zT E (d + 1) m_m_mood 39 [some (.ref a0), some (.int a1), some (.int a2), some (.int a3)] [] h8 r
        refine zT_st (pc' := 40) (L' := [some (.ref a0), some (.int a1), some (.int a2), some (.int a3)]) (st' := [.ref a0]) (h' := h8) 1 (fun n => rfl) ?_
        obtain ⟨o9, e, hw⟩ := hw
        refine zT_st (pc' := 43) (L' := [some (.ref a0), some (.int a1), some (.int a2), some (.int a3)]) (st' := [.ref o9]) (h' := h8) 1 (fun n => fld_eq (E := E) e _) ?_
        refine zT_st (pc' := 46) (L' := [some (.ref a0), some (.int a1), some (.int a2), some (.int a3)]) (st' := [.int a3, .int 79, .ref o9]) (h' := h8) 2 (fun n => rfl) ?_
        by_cases hc : a3 = 0
        · rw [if_pos hc] at hw
          refine zT_st (pc' := 49) (L' := [some (.ref a0), some (.int a1), some (.int a2), some (.int a3)]) (st' := [.int 79, .ref o9]) (h' := h8) 1 (fun n => if_pos hc) ?_
          refine zT_st (pc' := 68) (L' := [some (.ref a0), some (.int a1), some (.int a2), some (.int a3)]) (st' := [.int ((79 + 1) + a1), .ref o9]) (h' := h8) 5 (fun n => rfl) ?_
          obtain ⟨n10, f11, e, hi, hw⟩ := hw
          refine zT_st (pc' := 69) (L' := [some (.ref a0), some (.int a1), some (.int a2), some (.int a3)]) (st' := [.int (f11 (((79 + 1) + a1)).toNatClampNeg)]) (h' := h8) 1 (fun n => arr_eq (E := E) e hi [] (fun st => zrun zP zCd E n (d + 1) m_m_mood 69 [some (.ref a0), some (.int a1), some (.int a2), some (.int a3)] st h8)) ?_
          subst hw
          exact zT_ret 1 rfl
        · rw [if_neg hc] at hw
          refine zT_st (pc' := 53) (L' := [some (.ref a0), some (.int a1), some (.int a2), some (.int a3)]) (st' := [.int 79, .ref o9]) (h' := h8) 1 (fun n => if_neg hc) ?_
          refine zT_st (pc' := 55) (L' := [some (.ref a0), some (.int a1), some (.int a2), some (.int a3)]) (st' := [.int 1, .int a3, .int 79, .ref o9]) (h' := h8) 2 (fun n => rfl) ?_
          by_cases hc : a3 = 1
          · rw [if_pos hc] at hw
            refine zT_st (pc' := 58) (L' := [some (.ref a0), some (.int a1), some (.int a2), some (.int a3)]) (st' := [.int 79, .ref o9]) (h' := h8) 1 (fun n => if_pos hc) ?_
            refine zT_st (pc' := 68) (L' := [some (.ref a0), some (.int a1), some (.int a2), some (.int a3)]) (st' := [.int ((79 + 8) + a1), .ref o9]) (h' := h8) 5 (fun n => rfl) ?_
            obtain ⟨n12, f13, e, hi, hw⟩ := hw
            refine zT_st (pc' := 69) (L' := [some (.ref a0), some (.int a1), some (.int a2), some (.int a3)]) (st' := [.int (f13 (((79 + 8) + a1)).toNatClampNeg)]) (h' := h8) 1 (fun n => arr_eq (E := E) e hi [] (fun st => zrun zP zCd E n (d + 1) m_m_mood 69 [some (.ref a0), some (.int a1), some (.int a2), some (.int a3)] st h8)) ?_
            subst hw
            exact zT_ret 1 rfl
          · rw [if_neg hc] at hw
            refine zT_st (pc' := 63) (L' := [some (.ref a0), some (.int a1), some (.int a2), some (.int a3)]) (st' := [.int 79, .ref o9]) (h' := h8) 1 (fun n => if_neg hc) ?_
            refine zT_st (pc' := 68) (L' := [some (.ref a0), some (.int a1), some (.int a2), some (.int a3)]) (st' := [.int ((79 + 15) + a1), .ref o9]) (h' := h8) 4 (fun n => rfl) ?_
            obtain ⟨n14, f15, e, hi, hw⟩ := hw
            refine zT_st (pc' := 69) (L' := [some (.ref a0), some (.int a1), some (.int a2), some (.int a3)]) (st' := [.int (f15 (((79 + 15) + a1)).toNatClampNeg)]) (h' := h8) 1 (fun n => arr_eq (E := E) e hi [] (fun st => zrun zP zCd E n (d + 1) m_m_mood 69 [some (.ref a0), some (.int a1), some (.int a2), some (.int a3)] st h8)) ?_
            subst hw
            exact zT_ret 1 rfl
set_option maxRecDepth 4000 in
theorem s_m_off_0 (E : zX) (d : Nat) (a0 : Nat) (a1 : Int32) (h : zH) (r : zO × zH)
    (hw : (∃ w, fld h a0 12 0 = some w) ∧
    isO (setF h a0 0 (.int 0)) a0 12 = true ∧ ∃ (x1 : Int32) (h2 : zH), zT E d m_m_isBall 0 [some (.ref a0), some (.int a1)] [] (setF h a0 0 (.int 0)) (.inl (some (.int x1)), h2) ∧
    if x1 = 0 then (
      r = (.inl (some (.int 0)), h2))
    else (
      isO h2 a0 12 = true ∧ ∃ (h4 : zH), zT E d m_m_tries 0 [some (.ref a0), none] [] h2 (.inl none, h4) ∧
      zT E (d + 1) m_m_off 21 [some (.ref a0), some (.int a1), some (.int 1)] [] h4 r)) :
    zT E (d + 1) m_m_off 0 [some (.ref a0), some (.int a1), none] [] h r := by
  refine zT_st (pc' := 2) (L' := [some (.ref a0), some (.int a1), none]) (st' := [.int 0, .ref a0]) (h' := h) 2 (fun n => rfl) ?_
  obtain ⟨⟨w, e⟩, hw⟩ := hw
  refine zT_st (pc' := 5) (L' := [some (.ref a0), some (.int a1), none]) (st' := []) (h' := (setF h a0 0 (.int 0))) 1 (fun n => put_eq e rfl _ _) ?_
  refine zT_st (pc' := 7) (L' := [some (.ref a0), some (.int a1), none]) (st' := [.int a1, .ref a0]) (h' := (setF h a0 0 (.int 0))) 2 (fun n => rfl) ?_
  obtain ⟨hq, hw⟩ := hw
  obtain ⟨x1, h2, hx, hw⟩ := hw
  refine zT_call (pc' := 10) (rest := []) 1 (fun n => rfl) hq hx ?_
  show zT E (d + 1) m_m_off 10 [some (.ref a0), some (.int a1), none] [.int x1] h2 r
  by_cases hc : x1 = 0
  · rw [if_pos hc] at hw
    refine zT_st (pc' := 13) (L' := [some (.ref a0), some (.int a1), none]) (st' := []) (h' := h2) 1 (fun n => if_pos hc) ?_
    subst hw
    exact zT_ret 2 rfl
  · rw [if_neg hc] at hw
    refine zT_st (pc' := 15) (L' := [some (.ref a0), some (.int a1), none]) (st' := []) (h' := h2) 1 (fun n => if_neg hc) ?_
    refine zT_st (pc' := 16) (L' := [some (.ref a0), some (.int a1), none]) (st' := [.ref a0]) (h' := h2) 1 (fun n => rfl) ?_
    obtain ⟨hq, hw⟩ := hw
    obtain ⟨h4, hx, hw⟩ := hw
    refine zT_call (pc' := 19) (rest := []) 1 (fun n => rfl) hq hx ?_
    show zT E (d + 1) m_m_off 19 [some (.ref a0), some (.int a1), none] [] h4 r
    exact zT_st 2 (fun n => rfl) hw
set_option maxRecDepth 4000 in
theorem s_m_off_21 (E : zX) (d : Nat) (a0 : Nat) (a1 : Int32) (a2 : Int32) (h : zH) (r : zO × zH)
    (hw : if 60 < a2 then (
      r = (.inl (some (.int (-1))), h))
    else (
      isO h a0 12 = true ∧ ∃ (h2 : zH), zT E d m_m_dayOf 0 [some (.ref a0), some (.int 79)] [] h (.inl none, h2) ∧
      ∃ x3 : Int32, fld h2 a0 12 45 = some (.int x3) ∧
      if ((x3 >>> (a1 &&& 31)) &&& 1) = 1 then (
        r = (.inl (some (.int a2)), h2))
      else (
        zT E (d + 1) m_m_off 21 [some (.ref a0), some (.int a1), some (.int (a2 + 1))] [] h2 r))) :
    zT E (d + 1) m_m_off 21 [some (.ref a0), some (.int a1), some (.int a2)] [] h r := by
  refine zT_st (pc' := 24) (L' := [some (.ref a0), some (.int a1), some (.int a2)]) (st' := [.int 60, .int a2]) (h' := h) 2 (fun n => rfl) ?_
  by_cases hc : 60 < a2
  · rw [if_pos hc] at hw
    refine zT_st (pc' := 53) (L' := [some (.ref a0), some (.int a1), some (.int a2)]) (st' := []) (h' := h) 1 (fun n => if_pos hc) ?_
    subst hw
    exact zT_ret 2 rfl
  · rw [if_neg hc] at hw
    refine zT_st (pc' := 27) (L' := [some (.ref a0), some (.int a1), some (.int a2)]) (st' := []) (h' := h) 1 (fun n => if_neg hc) ?_
    refine zT_st (pc' := 30) (L' := [some (.ref a0), some (.int a1), some (.int a2)]) (st' := [.int 79, .ref a0]) (h' := h) 2 (fun n => rfl) ?_
    obtain ⟨hq, hw⟩ := hw
    obtain ⟨h2, hx, hw⟩ := hw
    refine zT_call (pc' := 33) (rest := []) 1 (fun n => rfl) hq hx ?_
    show zT E (d + 1) m_m_off 33 [some (.ref a0), some (.int a1), some (.int a2)] [] h2 r
    refine zT_st (pc' := 34) (L' := [some (.ref a0), some (.int a1), some (.int a2)]) (st' := [.ref a0]) (h' := h2) 1 (fun n => rfl) ?_
    obtain ⟨x3, e, hw⟩ := hw
    refine zT_st (pc' := 37) (L' := [some (.ref a0), some (.int a1), some (.int a2)]) (st' := [.int x3]) (h' := h2) 1 (fun n => fld_eq (E := E) e _) ?_
    refine zT_st (pc' := 42) (L' := [some (.ref a0), some (.int a1), some (.int a2)]) (st' := [.int 1, .int ((x3 >>> (a1 &&& 31)) &&& 1)]) (h' := h2) 5 (fun n => rfl) ?_
    by_cases hc : ((x3 >>> (a1 &&& 31)) &&& 1) = 1
    · rw [if_pos hc] at hw
      refine zT_st (pc' := 45) (L' := [some (.ref a0), some (.int a1), some (.int a2)]) (st' := []) (h' := h2) 1 (fun n => if_pos hc) ?_
      subst hw
      exact zT_ret 2 rfl
    · rw [if_neg hc] at hw
      refine zT_st (pc' := 47) (L' := [some (.ref a0), some (.int a1), some (.int a2)]) (st' := []) (h' := h2) 1 (fun n => if_neg hc) ?_
      exact zT_st 2 (fun n => rfl) hw
set_option maxRecDepth 4000 in
theorem s_m_when_0 (E : zX) (d : Nat) (a0 : Nat) (a1 : Int32) (a2 : Int32) (h : zH) (r : zO × zH)
    (hw : (∃ w, fld h a0 12 0 = some w) ∧
    isO (setF h a0 0 (.int 0)) a0 12 = true ∧ ∃ (x1 : Int32) (h2 : zH), zT E d m_m_isPerson 0 [some (.ref a0), some (.int a1)] [] (setF h a0 0 (.int 0)) (.inl (some (.int x1)), h2) ∧
    if x1 = 0 then (
      r = (.inl (some (.int 0)), h2))
    else (
      isO h2 a0 12 = true ∧ ∃ (x3 : Int32) (h4 : zH), zT E d m_m_isWhat 0 [some (.ref a0), some (.int a2), some (.int 1)] [] h2 (.inl (some (.int x3)), h4) ∧
      if x3 = 0 then (
        r = (.inl (some (.int 0)), h4))
      else (
        isO h4 a0 12 = true ∧ ∃ (h6 : zH), zT E d m_m_tries 0 [some (.ref a0), none] [] h4 (.inl none, h6) ∧
        zT E (d + 1) m_m_when 30 [some (.ref a0), some (.int a1), some (.int a2), some (.int 1)] [] h6 r))) :
    zT E (d + 1) m_m_when 0 [some (.ref a0), some (.int a1), some (.int a2), none] [] h r := by
  refine zT_st (pc' := 2) (L' := [some (.ref a0), some (.int a1), some (.int a2), none]) (st' := [.int 0, .ref a0]) (h' := h) 2 (fun n => rfl) ?_
  obtain ⟨⟨w, e⟩, hw⟩ := hw
  refine zT_st (pc' := 5) (L' := [some (.ref a0), some (.int a1), some (.int a2), none]) (st' := []) (h' := (setF h a0 0 (.int 0))) 1 (fun n => put_eq e rfl _ _) ?_
  refine zT_st (pc' := 7) (L' := [some (.ref a0), some (.int a1), some (.int a2), none]) (st' := [.int a1, .ref a0]) (h' := (setF h a0 0 (.int 0))) 2 (fun n => rfl) ?_
  obtain ⟨hq, hw⟩ := hw
  obtain ⟨x1, h2, hx, hw⟩ := hw
  refine zT_call (pc' := 10) (rest := []) 1 (fun n => rfl) hq hx ?_
  show zT E (d + 1) m_m_when 10 [some (.ref a0), some (.int a1), some (.int a2), none] [.int x1] h2 r
  by_cases hc : x1 = 0
  · rw [if_pos hc] at hw
    refine zT_st (pc' := 22) (L' := [some (.ref a0), some (.int a1), some (.int a2), none]) (st' := []) (h' := h2) 1 (fun n => if_pos hc) ?_
    subst hw
    exact zT_ret 2 rfl
  · rw [if_neg hc] at hw
    refine zT_st (pc' := 13) (L' := [some (.ref a0), some (.int a1), some (.int a2), none]) (st' := []) (h' := h2) 1 (fun n => if_neg hc) ?_
    refine zT_st (pc' := 16) (L' := [some (.ref a0), some (.int a1), some (.int a2), none]) (st' := [.int 1, .int a2, .ref a0]) (h' := h2) 3 (fun n => rfl) ?_
    obtain ⟨hq, hw⟩ := hw
    obtain ⟨x3, h4, hx, hw⟩ := hw
    refine zT_call (pc' := 19) (rest := []) 1 (fun n => rfl) hq hx ?_
    show zT E (d + 1) m_m_when 19 [some (.ref a0), some (.int a1), some (.int a2), none] [.int x3] h4 r
    by_cases hc : x3 = 0
    · rw [if_pos hc] at hw
      refine zT_st (pc' := 22) (L' := [some (.ref a0), some (.int a1), some (.int a2), none]) (st' := []) (h' := h4) 1 (fun n => if_pos hc) ?_
      subst hw
      exact zT_ret 2 rfl
    · rw [if_neg hc] at hw
      refine zT_st (pc' := 24) (L' := [some (.ref a0), some (.int a1), some (.int a2), none]) (st' := []) (h' := h4) 1 (fun n => if_neg hc) ?_
      refine zT_st (pc' := 25) (L' := [some (.ref a0), some (.int a1), some (.int a2), none]) (st' := [.ref a0]) (h' := h4) 1 (fun n => rfl) ?_
      obtain ⟨hq, hw⟩ := hw
      obtain ⟨h6, hx, hw⟩ := hw
      refine zT_call (pc' := 28) (rest := []) 1 (fun n => rfl) hq hx ?_
      show zT E (d + 1) m_m_when 28 [some (.ref a0), some (.int a1), some (.int a2), none] [] h6 r
      exact zT_st 2 (fun n => rfl) hw
set_option maxRecDepth 4000 in
theorem s_m_when_30 (E : zX) (d : Nat) (a0 : Nat) (a1 : Int32) (a2 : Int32) (a3 : Int32) (h : zH) (r : zO × zH)
    (hw : if 60 < a3 then (
      r = (.inl (some (.int (-1))), h))
    else (
      isO h a0 12 = true ∧ ∃ (h2 : zH), zT E d m_m_dayOf 0 [some (.ref a0), some (.int 79)] [] h (.inl none, h2) ∧
      if a2 = 0 then (
        ∃ x3 : Int32, fld h2 a0 12 47 = some (.int x3) ∧
        zT E (d + 1) m_m_when 57 [some (.ref a0), some (.int a1), some (.int a2), some (.int a3)] [.int x3] h2 r)
      else (
        ∃ x4 : Int32, fld h2 a0 12 48 = some (.int x4) ∧
        zT E (d + 1) m_m_when 57 [some (.ref a0), some (.int a1), some (.int a2), some (.int a3)] [.int x4] h2 r))) :
    zT E (d + 1) m_m_when 30 [some (.ref a0), some (.int a1), some (.int a2), some (.int a3)] [] h r := by
  refine zT_st (pc' := 33) (L' := [some (.ref a0), some (.int a1), some (.int a2), some (.int a3)]) (st' := [.int 60, .int a3]) (h' := h) 2 (fun n => rfl) ?_
  by_cases hc : 60 < a3
  · rw [if_pos hc] at hw
    refine zT_st (pc' := 73) (L' := [some (.ref a0), some (.int a1), some (.int a2), some (.int a3)]) (st' := []) (h' := h) 1 (fun n => if_pos hc) ?_
    subst hw
    exact zT_ret 2 rfl
  · rw [if_neg hc] at hw
    refine zT_st (pc' := 36) (L' := [some (.ref a0), some (.int a1), some (.int a2), some (.int a3)]) (st' := []) (h' := h) 1 (fun n => if_neg hc) ?_
    refine zT_st (pc' := 39) (L' := [some (.ref a0), some (.int a1), some (.int a2), some (.int a3)]) (st' := [.int 79, .ref a0]) (h' := h) 2 (fun n => rfl) ?_
    obtain ⟨hq, hw⟩ := hw
    obtain ⟨h2, hx, hw⟩ := hw
    refine zT_call (pc' := 42) (rest := []) 1 (fun n => rfl) hq hx ?_
    show zT E (d + 1) m_m_when 42 [some (.ref a0), some (.int a1), some (.int a2), some (.int a3)] [] h2 r
    refine zT_st (pc' := 43) (L' := [some (.ref a0), some (.int a1), some (.int a2), some (.int a3)]) (st' := [.int a2]) (h' := h2) 1 (fun n => rfl) ?_
    by_cases hc : a2 = 0
    · rw [if_pos hc] at hw
      refine zT_st (pc' := 46) (L' := [some (.ref a0), some (.int a1), some (.int a2), some (.int a3)]) (st' := []) (h' := h2) 1 (fun n => if_pos hc) ?_
      refine zT_st (pc' := 47) (L' := [some (.ref a0), some (.int a1), some (.int a2), some (.int a3)]) (st' := [.ref a0]) (h' := h2) 1 (fun n => rfl) ?_
      obtain ⟨x3, e, hw⟩ := hw
      refine zT_st (pc' := 50) (L' := [some (.ref a0), some (.int a1), some (.int a2), some (.int a3)]) (st' := [.int x3]) (h' := h2) 1 (fun n => fld_eq (E := E) e _) ?_
      exact zT_st 1 (fun n => rfl) hw
    · rw [if_neg hc] at hw
      refine zT_st (pc' := 53) (L' := [some (.ref a0), some (.int a1), some (.int a2), some (.int a3)]) (st' := []) (h' := h2) 1 (fun n => if_neg hc) ?_
      refine zT_st (pc' := 54) (L' := [some (.ref a0), some (.int a1), some (.int a2), some (.int a3)]) (st' := [.ref a0]) (h' := h2) 1 (fun n => rfl) ?_
      obtain ⟨x4, e, hw⟩ := hw
      refine zT_st (pc' := 57) (L' := [some (.ref a0), some (.int a1), some (.int a2), some (.int a3)]) (st' := [.int x4]) (h' := h2) 1 (fun n => fld_eq (E := E) e _) ?_
      exact hw
set_option maxRecDepth 4000 in
theorem s_m_when_57 (E : zX) (d : Nat) (a0 : Nat) (a1 : Int32) (a2 : Int32) (a3 : Int32) (s0 : Int32) (h : zH) (r : zO × zH)
    (hw : if ((s0 >>> (a1 &&& 31)) &&& 1) = 1 then (
      r = (.inl (some (.int a3)), h))
    else (
      zT E (d + 1) m_m_when 30 [some (.ref a0), some (.int a1), some (.int a2), some (.int (a3 + 1))] [] h r)) :
    zT E (d + 1) m_m_when 57 [some (.ref a0), some (.int a1), some (.int a2), some (.int a3)] [.int s0] h r := by
  refine zT_st (pc' := 62) (L' := [some (.ref a0), some (.int a1), some (.int a2), some (.int a3)]) (st' := [.int 1, .int ((s0 >>> (a1 &&& 31)) &&& 1)]) (h' := h) 5 (fun n => rfl) ?_
  by_cases hc : ((s0 >>> (a1 &&& 31)) &&& 1) = 1
  · rw [if_pos hc] at hw
    refine zT_st (pc' := 65) (L' := [some (.ref a0), some (.int a1), some (.int a2), some (.int a3)]) (st' := []) (h' := h) 1 (fun n => if_pos hc) ?_
    subst hw
    exact zT_ret 2 rfl
  · rw [if_neg hc] at hw
    refine zT_st (pc' := 67) (L' := [some (.ref a0), some (.int a1), some (.int a2), some (.int a3)]) (st' := []) (h' := h) 1 (fun n => if_neg hc) ?_
    exact zT_st 2 (fun n => rfl) hw
set_option maxRecDepth 4000 in
theorem s_m_stays_0 (E : zX) (d : Nat) (a0 : Nat) (a1 : Int32) (a2 : Int32) (h : zH) (r : zO × zH)
    (hw : (∃ w, fld h a0 12 0 = some w) ∧
    isO (setF h a0 0 (.int 0)) a0 12 = true ∧ ∃ (x1 : Int32) (h2 : zH), zT E d m_m_isPerson 0 [some (.ref a0), some (.int a1)] [] (setF h a0 0 (.int 0)) (.inl (some (.int x1)), h2) ∧
    if x1 = 0 then (
      r = (.inl (some (.int 0)), h2))
    else (
      isO h2 a0 12 = true ∧ ∃ (x3 : Int32) (h4 : zH), zT E d m_m_isSoon 0 [some (.ref a0), some (.int a2), some (.int 1), some (.int 2)] [] h2 (.inl (some (.int x3)), h4) ∧
      if x3 = 0 then (
        r = (.inl (some (.int 0)), h4))
      else (
        isO h4 a0 12 = true ∧ ∃ (h6 : zH), zT E d m_m_tries 0 [some (.ref a0), none] [] h4 (.inl none, h6) ∧
        zT E (d + 1) m_m_stays 34 [some (.ref a0), some (.int a1), some (.int a2), some (.int 0), some (.int 0)] [] h6 r))) :
    zT E (d + 1) m_m_stays 0 [some (.ref a0), some (.int a1), some (.int a2), none, none] [] h r := by
  refine zT_st (pc' := 2) (L' := [some (.ref a0), some (.int a1), some (.int a2), none, none]) (st' := [.int 0, .ref a0]) (h' := h) 2 (fun n => rfl) ?_
  obtain ⟨⟨w, e⟩, hw⟩ := hw
  refine zT_st (pc' := 5) (L' := [some (.ref a0), some (.int a1), some (.int a2), none, none]) (st' := []) (h' := (setF h a0 0 (.int 0))) 1 (fun n => put_eq e rfl _ _) ?_
  refine zT_st (pc' := 7) (L' := [some (.ref a0), some (.int a1), some (.int a2), none, none]) (st' := [.int a1, .ref a0]) (h' := (setF h a0 0 (.int 0))) 2 (fun n => rfl) ?_
  obtain ⟨hq, hw⟩ := hw
  obtain ⟨x1, h2, hx, hw⟩ := hw
  refine zT_call (pc' := 10) (rest := []) 1 (fun n => rfl) hq hx ?_
  show zT E (d + 1) m_m_stays 10 [some (.ref a0), some (.int a1), some (.int a2), none, none] [.int x1] h2 r
  by_cases hc : x1 = 0
  · rw [if_pos hc] at hw
    refine zT_st (pc' := 23) (L' := [some (.ref a0), some (.int a1), some (.int a2), none, none]) (st' := []) (h' := h2) 1 (fun n => if_pos hc) ?_
    subst hw
    exact zT_ret 2 rfl
  · rw [if_neg hc] at hw
    refine zT_st (pc' := 13) (L' := [some (.ref a0), some (.int a1), some (.int a2), none, none]) (st' := []) (h' := h2) 1 (fun n => if_neg hc) ?_
    refine zT_st (pc' := 17) (L' := [some (.ref a0), some (.int a1), some (.int a2), none, none]) (st' := [.int 2, .int 1, .int a2, .ref a0]) (h' := h2) 4 (fun n => rfl) ?_
    obtain ⟨hq, hw⟩ := hw
    obtain ⟨x3, h4, hx, hw⟩ := hw
    refine zT_call (pc' := 20) (rest := []) 1 (fun n => rfl) hq hx ?_
    show zT E (d + 1) m_m_stays 20 [some (.ref a0), some (.int a1), some (.int a2), none, none] [.int x3] h4 r
    by_cases hc : x3 = 0
    · rw [if_pos hc] at hw
      refine zT_st (pc' := 23) (L' := [some (.ref a0), some (.int a1), some (.int a2), none, none]) (st' := []) (h' := h4) 1 (fun n => if_pos hc) ?_
      subst hw
      exact zT_ret 2 rfl
    · rw [if_neg hc] at hw
      refine zT_st (pc' := 25) (L' := [some (.ref a0), some (.int a1), some (.int a2), none, none]) (st' := []) (h' := h4) 1 (fun n => if_neg hc) ?_
      refine zT_st (pc' := 28) (L' := [some (.ref a0), some (.int a1), some (.int a2), some (.int 0), none]) (st' := [.ref a0]) (h' := h4) 3 (fun n => rfl) ?_
      obtain ⟨hq, hw⟩ := hw
      obtain ⟨h6, hx, hw⟩ := hw
      refine zT_call (pc' := 31) (rest := []) 1 (fun n => rfl) hq hx ?_
      show zT E (d + 1) m_m_stays 31 [some (.ref a0), some (.int a1), some (.int a2), some (.int 0), none] [] h6 r
      exact zT_st 2 (fun n => rfl) hw
set_option maxRecDepth 4000 in
theorem s_m_stays_34 (E : zX) (d : Nat) (a0 : Nat) (a1 : Int32) (a2 : Int32) (a3 : Int32) (a4 : Int32) (h : zH) (r : zO × zH)
    (hw : if a2 ≤ a4 then (
      r = (.inl (some (.int a3)), h))
    else (
      isO h a0 12 = true ∧ ∃ (h2 : zH), zT E d m_m_dayOf 0 [some (.ref a0), some (.int 79)] [] h (.inl none, h2) ∧
      isO h2 a0 12 = true ∧ ∃ (x3 : Int32) (h4 : zH), zT E d m_m_ownOnes 0 [some (.ref a0), some (.int 79), some (.int a1), none, none] [] h2 (.inl (some (.int x3)), h4) ∧
      ∃ (x5 : Int32) (h6 : zH), zT E d m_m_bits 0 [some (.int x3), none, none] [] h4 (.inl (some (.int x5)), h6) ∧
      zT E (d + 1) m_m_stays 34 [some (.ref a0), some (.int a1), some (.int a2), some (.int (a3 + x5)), some (.int (a4 + 1))] [] h6 r)) :
    zT E (d + 1) m_m_stays 34 [some (.ref a0), some (.int a1), some (.int a2), some (.int a3), some (.int a4)] [] h r := by
  refine zT_st (pc' := 37) (L' := [some (.ref a0), some (.int a1), some (.int a2), some (.int a3), some (.int a4)]) (st' := [.int a2, .int a4]) (h' := h) 2 (fun n => rfl) ?_
  by_cases hc : a2 ≤ a4
  · rw [if_pos hc] at hw
    refine zT_st (pc' := 65) (L' := [some (.ref a0), some (.int a1), some (.int a2), some (.int a3), some (.int a4)]) (st' := []) (h' := h) 1 (fun n => if_pos hc) ?_
    subst hw
    exact zT_ret 2 rfl
  · rw [if_neg hc] at hw
    refine zT_st (pc' := 40) (L' := [some (.ref a0), some (.int a1), some (.int a2), some (.int a3), some (.int a4)]) (st' := []) (h' := h) 1 (fun n => if_neg hc) ?_
    refine zT_st (pc' := 43) (L' := [some (.ref a0), some (.int a1), some (.int a2), some (.int a3), some (.int a4)]) (st' := [.int 79, .ref a0]) (h' := h) 2 (fun n => rfl) ?_
    obtain ⟨hq, hw⟩ := hw
    obtain ⟨h2, hx, hw⟩ := hw
    refine zT_call (pc' := 46) (rest := []) 1 (fun n => rfl) hq hx ?_
    show zT E (d + 1) m_m_stays 46 [some (.ref a0), some (.int a1), some (.int a2), some (.int a3), some (.int a4)] [] h2 r
    refine zT_st (pc' := 51) (L' := [some (.ref a0), some (.int a1), some (.int a2), some (.int a3), some (.int a4)]) (st' := [.int a1, .int 79, .ref a0, .int a3]) (h' := h2) 4 (fun n => rfl) ?_
    obtain ⟨hq, hw⟩ := hw
    obtain ⟨x3, h4, hx, hw⟩ := hw
    refine zT_call (pc' := 54) (rest := [.int a3]) 1 (fun n => rfl) hq hx ?_
    show zT E (d + 1) m_m_stays 54 [some (.ref a0), some (.int a1), some (.int a2), some (.int a3), some (.int a4)] [.int x3, .int a3] h4 r
    obtain ⟨x5, h6, hx, hw⟩ := hw
    refine zT_call (pc' := 57) (rest := [.int a3]) 1 (fun n => rfl) rfl hx ?_
    show zT E (d + 1) m_m_stays 57 [some (.ref a0), some (.int a1), some (.int a2), some (.int a3), some (.int a4)] [.int x5, .int a3] h6 r
    exact zT_st 4 (fun n => rfl) hw
set_option maxRecDepth 4000 in
theorem s_m_toGuard_0 (E : zX) (d : Nat) (a0 : Nat) (a1 : Int32) (a2 : Int32) (h : zH) (r : zO × zH)
    (hw : (∃ w, fld h a0 12 0 = some w) ∧
    isO (setF h a0 0 (.int 0)) a0 12 = true ∧ ∃ (x1 : Int32) (h2 : zH), zT E d m_m_isBall 0 [some (.ref a0), some (.int a1)] [] (setF h a0 0 (.int 0)) (.inl (some (.int x1)), h2) ∧
    if x1 = 0 then (
      ∃ x3 : Int32, fld h2 a0 12 0 = some (.int x3) ∧
      if x3 = 0 then (
        r = (.inl (some (.int (-1))), h2))
      else (
        r = (.inl (some (.int 0)), h2)))
    else (
      isO h2 a0 12 = true ∧ ∃ (x4 : Int32) (h5 : zH), zT E d m_m_isBall 0 [some (.ref a0), some (.int a2)] [] h2 (.inl (some (.int x4)), h5) ∧
      if x4 = 0 then (
        ∃ x6 : Int32, fld h5 a0 12 0 = some (.int x6) ∧
        if x6 = 0 then (
          r = (.inl (some (.int (-1))), h5))
        else (
          r = (.inl (some (.int 0)), h5)))
      else (
        if a1 = a2 then (
          ∃ x7 : Int32, fld h5 a0 12 0 = some (.int x7) ∧
          if x7 = 0 then (
            r = (.inl (some (.int (-1))), h5))
          else (
            r = (.inl (some (.int 0)), h5)))
        else (
          isO h5 a0 12 = true ∧ ∃ (x8 : Int32) (h9 : zH), zT E d m_m_isWhite 0 [some (.ref a0), some (.int 0), some (.int a1)] [] h5 (.inl (some (.int x8)), h9) ∧
          if x8 = 0 then (
            ∃ x10 : Int32, fld h9 a0 12 4 = some (.int x10) ∧
            zT E (d + 1) m_m_toGuard 75 [some (.ref a0), some (.int a1), some (.int a2), some (.int (((1 <<< (x10 &&& 31)) - 1) &&& (((1 <<< (a1 &&& 31)) ||| (1 <<< (a2 &&& 31))) ^^^ (-1)))), some (.int (-1)), some (.int 0)] [] h9 r)
          else (
            r = (.inl (some (.int 0)), h9)))))) :
    zT E (d + 1) m_m_toGuard 0 [some (.ref a0), some (.int a1), some (.int a2), none, none, none] [] h r := by
  refine zT_st (pc' := 2) (L' := [some (.ref a0), some (.int a1), some (.int a2), none, none, none]) (st' := [.int 0, .ref a0]) (h' := h) 2 (fun n => rfl) ?_
  obtain ⟨⟨w, e⟩, hw⟩ := hw
  refine zT_st (pc' := 5) (L' := [some (.ref a0), some (.int a1), some (.int a2), none, none, none]) (st' := []) (h' := (setF h a0 0 (.int 0))) 1 (fun n => put_eq e rfl _ _) ?_
  refine zT_st (pc' := 7) (L' := [some (.ref a0), some (.int a1), some (.int a2), none, none, none]) (st' := [.int a1, .ref a0]) (h' := (setF h a0 0 (.int 0))) 2 (fun n => rfl) ?_
  obtain ⟨hq, hw⟩ := hw
  obtain ⟨x1, h2, hx, hw⟩ := hw
  refine zT_call (pc' := 10) (rest := []) 1 (fun n => rfl) hq hx ?_
  show zT E (d + 1) m_m_toGuard 10 [some (.ref a0), some (.int a1), some (.int a2), none, none, none] [.int x1] h2 r
  by_cases hc : x1 = 0
  · rw [if_pos hc] at hw
    refine zT_st (pc' := 26) (L' := [some (.ref a0), some (.int a1), some (.int a2), none, none, none]) (st' := []) (h' := h2) 1 (fun n => if_pos hc) ?_
    refine zT_st (pc' := 27) (L' := [some (.ref a0), some (.int a1), some (.int a2), none, none, none]) (st' := [.ref a0]) (h' := h2) 1 (fun n => rfl) ?_
    obtain ⟨x3, e, hw⟩ := hw
    refine zT_st (pc' := 30) (L' := [some (.ref a0), some (.int a1), some (.int a2), none, none, none]) (st' := [.int x3]) (h' := h2) 1 (fun n => fld_eq (E := E) e _) ?_
    by_cases hc : x3 = 0
    · rw [if_pos hc] at hw
      refine zT_st (pc' := 33) (L' := [some (.ref a0), some (.int a1), some (.int a2), none, none, none]) (st' := []) (h' := h2) 1 (fun n => if_pos hc) ?_
      subst hw
      exact zT_ret 3 rfl
    · rw [if_neg hc] at hw
      refine zT_st (pc' := 37) (L' := [some (.ref a0), some (.int a1), some (.int a2), none, none, none]) (st' := []) (h' := h2) 1 (fun n => if_neg hc) ?_
      subst hw
      exact zT_ret 2 rfl
  · rw [if_neg hc] at hw
    refine zT_st (pc' := 13) (L' := [some (.ref a0), some (.int a1), some (.int a2), none, none, none]) (st' := []) (h' := h2) 1 (fun n => if_neg hc) ?_
    refine zT_st (pc' := 15) (L' := [some (.ref a0), some (.int a1), some (.int a2), none, none, none]) (st' := [.int a2, .ref a0]) (h' := h2) 2 (fun n => rfl) ?_
    obtain ⟨hq, hw⟩ := hw
    obtain ⟨x4, h5, hx, hw⟩ := hw
    refine zT_call (pc' := 18) (rest := []) 1 (fun n => rfl) hq hx ?_
    show zT E (d + 1) m_m_toGuard 18 [some (.ref a0), some (.int a1), some (.int a2), none, none, none] [.int x4] h5 r
    by_cases hc : x4 = 0
    · rw [if_pos hc] at hw
      refine zT_st (pc' := 26) (L' := [some (.ref a0), some (.int a1), some (.int a2), none, none, none]) (st' := []) (h' := h5) 1 (fun n => if_pos hc) ?_
      refine zT_st (pc' := 27) (L' := [some (.ref a0), some (.int a1), some (.int a2), none, none, none]) (st' := [.ref a0]) (h' := h5) 1 (fun n => rfl) ?_
      obtain ⟨x6, e, hw⟩ := hw
      refine zT_st (pc' := 30) (L' := [some (.ref a0), some (.int a1), some (.int a2), none, none, none]) (st' := [.int x6]) (h' := h5) 1 (fun n => fld_eq (E := E) e _) ?_
      by_cases hc : x6 = 0
      · rw [if_pos hc] at hw
        refine zT_st (pc' := 33) (L' := [some (.ref a0), some (.int a1), some (.int a2), none, none, none]) (st' := []) (h' := h5) 1 (fun n => if_pos hc) ?_
        subst hw
        exact zT_ret 3 rfl
      · rw [if_neg hc] at hw
        refine zT_st (pc' := 37) (L' := [some (.ref a0), some (.int a1), some (.int a2), none, none, none]) (st' := []) (h' := h5) 1 (fun n => if_neg hc) ?_
        subst hw
        exact zT_ret 2 rfl
    · rw [if_neg hc] at hw
      refine zT_st (pc' := 21) (L' := [some (.ref a0), some (.int a1), some (.int a2), none, none, none]) (st' := []) (h' := h5) 1 (fun n => if_neg hc) ?_
      refine zT_st (pc' := 23) (L' := [some (.ref a0), some (.int a1), some (.int a2), none, none, none]) (st' := [.int a2, .int a1]) (h' := h5) 2 (fun n => rfl) ?_
      by_cases hc : a1 = a2
      · rw [if_pos hc] at hw
        refine zT_st (pc' := 26) (L' := [some (.ref a0), some (.int a1), some (.int a2), none, none, none]) (st' := []) (h' := h5) 1 (fun n => if_pos hc) ?_
        refine zT_st (pc' := 27) (L' := [some (.ref a0), some (.int a1), some (.int a2), none, none, none]) (st' := [.ref a0]) (h' := h5) 1 (fun n => rfl) ?_
        obtain ⟨x7, e, hw⟩ := hw
        refine zT_st (pc' := 30) (L' := [some (.ref a0), some (.int a1), some (.int a2), none, none, none]) (st' := [.int x7]) (h' := h5) 1 (fun n => fld_eq (E := E) e _) ?_
        by_cases hc : x7 = 0
        · rw [if_pos hc] at hw
          refine zT_st (pc' := 33) (L' := [some (.ref a0), some (.int a1), some (.int a2), none, none, none]) (st' := []) (h' := h5) 1 (fun n => if_pos hc) ?_
          subst hw
          exact zT_ret 3 rfl
        · rw [if_neg hc] at hw
          refine zT_st (pc' := 37) (L' := [some (.ref a0), some (.int a1), some (.int a2), none, none, none]) (st' := []) (h' := h5) 1 (fun n => if_neg hc) ?_
          subst hw
          exact zT_ret 2 rfl
      · rw [if_neg hc] at hw
        refine zT_st (pc' := 39) (L' := [some (.ref a0), some (.int a1), some (.int a2), none, none, none]) (st' := []) (h' := h5) 1 (fun n => if_neg hc) ?_
        refine zT_st (pc' := 42) (L' := [some (.ref a0), some (.int a1), some (.int a2), none, none, none]) (st' := [.int a1, .int 0, .ref a0]) (h' := h5) 3 (fun n => rfl) ?_
        obtain ⟨hq, hw⟩ := hw
        obtain ⟨x8, h9, hx, hw⟩ := hw
        refine zT_call (pc' := 45) (rest := []) 1 (fun n => rfl) hq hx ?_
        show zT E (d + 1) m_m_toGuard 45 [some (.ref a0), some (.int a1), some (.int a2), none, none, none] [.int x8] h9 r
        by_cases hc : x8 = 0
        · rw [if_pos hc] at hw
          refine zT_st (pc' := 50) (L' := [some (.ref a0), some (.int a1), some (.int a2), none, none, none]) (st' := []) (h' := h9) 1 (fun n => if_pos hc) ?_
          refine zT_st (pc' := 52) (L' := [some (.ref a0), some (.int a1), some (.int a2), none, none, none]) (st' := [.ref a0, .int 1]) (h' := h9) 2 (fun n => rfl) ?_
          obtain ⟨x10, e, hw⟩ := hw
          refine zT_st (pc' := 55) (L' := [some (.ref a0), some (.int a1), some (.int a2), none, none, none]) (st' := [.int x10, .int 1]) (h' := h9) 1 (fun n => fld_eq (E := E) e _) ?_
          exact zT_st 18 (fun n => rfl) hw
        · rw [if_neg hc] at hw
          refine zT_st (pc' := 48) (L' := [some (.ref a0), some (.int a1), some (.int a2), none, none, none]) (st' := []) (h' := h9) 1 (fun n => if_neg hc) ?_
          subst hw
          exact zT_ret 2 rfl
set_option maxRecDepth 4000 in
theorem s_m_toGuard_75 (E : zX) (d : Nat) (a0 : Nat) (a1 : Int32) (a2 : Int32) (a3 : Int32) (a4 : Int32) (a5 : Int32) (h : zH) (r : zO × zH)
    (hw : ∃ x1 : Int32, fld h a0 12 4 = some (.int x1) ∧
    if (1 <<< (x1 &&& 31)) ≤ a5 then (
      r = (.inl (some (.int a4)), h))
    else (
      if (a5 &&& (a3 ^^^ (-1))) = 0 then (
        if a4 = (-1) then (
          zT E (d + 1) m_m_toGuard 117 [some (.ref a0), some (.int a1), some (.int a2), some (.int a3), some (.int a4), some (.int a5)] [] h r)
        else (
          ∃ (x2 : Int32) (h3 : zH), zT E d m_m_bits 0 [some (.int a5), none, none] [] h (.inl (some (.int x2)), h3) ∧
          ∃ (x4 : Int32) (h5 : zH), zT E d m_m_bits 0 [some (.int a4), none, none] [] h3 (.inl (some (.int x4)), h5) ∧
          if x2 < x4 then (
            zT E (d + 1) m_m_toGuard 117 [some (.ref a0), some (.int a1), some (.int a2), some (.int a3), some (.int a4), some (.int a5)] [] h5 r)
          else (
            zT E (d + 1) m_m_toGuard 75 [some (.ref a0), some (.int a1), some (.int a2), some (.int a3), some (.int a4), some (.int (a5 + 1))] [] h5 r)))
      else (
        zT E (d + 1) m_m_toGuard 75 [some (.ref a0), some (.int a1), some (.int a2), some (.int a3), some (.int a4), some (.int (a5 + 1))] [] h r))) :
    zT E (d + 1) m_m_toGuard 75 [some (.ref a0), some (.int a1), some (.int a2), some (.int a3), some (.int a4), some (.int a5)] [] h r := by
  refine zT_st (pc' := 79) (L' := [some (.ref a0), some (.int a1), some (.int a2), some (.int a3), some (.int a4), some (.int a5)]) (st' := [.ref a0, .int 1, .int a5]) (h' := h) 3 (fun n => rfl) ?_
  obtain ⟨x1, e, hw⟩ := hw
  refine zT_st (pc' := 82) (L' := [some (.ref a0), some (.int a1), some (.int a2), some (.int a3), some (.int a4), some (.int a5)]) (st' := [.int x1, .int 1, .int a5]) (h' := h) 1 (fun n => fld_eq (E := E) e _) ?_
  refine zT_st (pc' := 83) (L' := [some (.ref a0), some (.int a1), some (.int a2), some (.int a3), some (.int a4), some (.int a5)]) (st' := [.int (1 <<< (x1 &&& 31)), .int a5]) (h' := h) 1 (fun n => rfl) ?_
  by_cases hc : (1 <<< (x1 &&& 31)) ≤ a5
  · rw [if_pos hc] at hw
    refine zT_st (pc' := 152) (L' := [some (.ref a0), some (.int a1), some (.int a2), some (.int a3), some (.int a4), some (.int a5)]) (st' := []) (h' := h) 1 (fun n => if_pos hc) ?_
    subst hw
    exact zT_ret 2 rfl
  · rw [if_neg hc] at hw
    refine zT_st (pc' := 86) (L' := [some (.ref a0), some (.int a1), some (.int a2), some (.int a3), some (.int a4), some (.int a5)]) (st' := []) (h' := h) 1 (fun n => if_neg hc) ?_
    refine zT_st (pc' := 92) (L' := [some (.ref a0), some (.int a1), some (.int a2), some (.int a3), some (.int a4), some (.int a5)]) (st' := [.int (a5 &&& (a3 ^^^ (-1)))]) (h' := h) 5 (fun n => rfl) ?_
    by_cases hc : (a5 &&& (a3 ^^^ (-1))) = 0
    · rw [if_pos hc] at hw
      refine zT_st (pc' := 95) (L' := [some (.ref a0), some (.int a1), some (.int a2), some (.int a3), some (.int a4), some (.int a5)]) (st' := []) (h' := h) 1 (fun n => if_pos hc) ?_
      refine zT_st (pc' := 98) (L' := [some (.ref a0), some (.int a1), some (.int a2), some (.int a3), some (.int a4), some (.int a5)]) (st' := [.int (-1), .int a4]) (h' := h) 2 (fun n => rfl) ?_
      by_cases hc : a4 = (-1)
      · rw [if_pos hc] at hw
        refine zT_st (pc' := 117) (L' := [some (.ref a0), some (.int a1), some (.int a2), some (.int a3), some (.int a4), some (.int a5)]) (st' := []) (h' := h) 1 (fun n => if_pos hc) ?_
        exact hw
      · rw [if_neg hc] at hw
        refine zT_st (pc' := 101) (L' := [some (.ref a0), some (.int a1), some (.int a2), some (.int a3), some (.int a4), some (.int a5)]) (st' := []) (h' := h) 1 (fun n => if_neg hc) ?_
        refine zT_st (pc' := 103) (L' := [some (.ref a0), some (.int a1), some (.int a2), some (.int a3), some (.int a4), some (.int a5)]) (st' := [.int a5]) (h' := h) 1 (fun n => rfl) ?_
        obtain ⟨x2, h3, hx, hw⟩ := hw
        refine zT_call (pc' := 106) (rest := []) 1 (fun n => rfl) rfl hx ?_
        show zT E (d + 1) m_m_toGuard 106 [some (.ref a0), some (.int a1), some (.int a2), some (.int a3), some (.int a4), some (.int a5)] [.int x2] h3 r
        refine zT_st (pc' := 108) (L' := [some (.ref a0), some (.int a1), some (.int a2), some (.int a3), some (.int a4), some (.int a5)]) (st' := [.int a4, .int x2]) (h' := h3) 1 (fun n => rfl) ?_
        obtain ⟨x4, h5, hx, hw⟩ := hw
        refine zT_call (pc' := 111) (rest := [.int x2]) 1 (fun n => rfl) rfl hx ?_
        show zT E (d + 1) m_m_toGuard 111 [some (.ref a0), some (.int a1), some (.int a2), some (.int a3), some (.int a4), some (.int a5)] [.int x4, .int x2] h5 r
        by_cases hc : x2 < x4
        · rw [if_pos hc] at hw
          refine zT_st (pc' := 117) (L' := [some (.ref a0), some (.int a1), some (.int a2), some (.int a3), some (.int a4), some (.int a5)]) (st' := []) (h' := h5) 1 (fun n => if_pos hc) ?_
          exact hw
        · rw [if_neg hc] at hw
          refine zT_st (pc' := 114) (L' := [some (.ref a0), some (.int a1), some (.int a2), some (.int a3), some (.int a4), some (.int a5)]) (st' := []) (h' := h5) 1 (fun n => if_neg hc) ?_
          exact zT_st 3 (fun n => rfl) hw
    · rw [if_neg hc] at hw
      refine zT_st (pc' := 146) (L' := [some (.ref a0), some (.int a1), some (.int a2), some (.int a3), some (.int a4), some (.int a5)]) (st' := []) (h' := h) 1 (fun n => if_neg hc) ?_
      exact zT_st 2 (fun n => rfl) hw
set_option maxRecDepth 4000 in
theorem s_m_toGuard_117 (E : zX) (d : Nat) (a0 : Nat) (a1 : Int32) (a2 : Int32) (a3 : Int32) (a4 : Int32) (a5 : Int32) (h : zH) (r : zO × zH)
    (hw : isO h a0 12 = true ∧ ∃ (x1 : Int32) (h2 : zH), zT E d m_m_free 0 [some (.ref a0), some (.int 0)] [] h (.inl (some (.int x1)), h2) ∧
    isO h2 a0 12 = true ∧ ∃ (x3 : Int32) (h4 : zH), zT E d m_m_setOff 0 [some (.ref a0), some (.int 0), some (.int (1 <<< (a1 &&& 31))), some (.int (x1 &&& (a5 ^^^ (-1)))), none, none, none, none] [] h2 (.inl (some (.int x3)), h4) ∧
    if ((x3 >>> (a2 &&& 31)) &&& 1) = 0 then (
      zT E (d + 1) m_m_toGuard 75 [some (.ref a0), some (.int a1), some (.int a2), some (.int a3), some (.int a5), some (.int (a5 + 1))] [] h4 r)
    else (
      zT E (d + 1) m_m_toGuard 75 [some (.ref a0), some (.int a1), some (.int a2), some (.int a3), some (.int a4), some (.int (a5 + 1))] [] h4 r)) :
    zT E (d + 1) m_m_toGuard 117 [some (.ref a0), some (.int a1), some (.int a2), some (.int a3), some (.int a4), some (.int a5)] [] h r := by
  refine zT_st (pc' := 124) (L' := [some (.ref a0), some (.int a1), some (.int a2), some (.int a3), some (.int a4), some (.int a5)]) (st' := [.int 0, .ref a0, .int (1 <<< (a1 &&& 31)), .int 0, .ref a0]) (h' := h) 7 (fun n => rfl) ?_
  obtain ⟨hq, hw⟩ := hw
  obtain ⟨x1, h2, hx, hw⟩ := hw
  refine zT_call (pc' := 127) (rest := [.int (1 <<< (a1 &&& 31)), .int 0, .ref a0]) 1 (fun n => rfl) hq hx ?_
  show zT E (d + 1) m_m_toGuard 127 [some (.ref a0), some (.int a1), some (.int a2), some (.int a3), some (.int a4), some (.int a5)] [.int x1, .int (1 <<< (a1 &&& 31)), .int 0, .ref a0] h2 r
  refine zT_st (pc' := 132) (L' := [some (.ref a0), some (.int a1), some (.int a2), some (.int a3), some (.int a4), some (.int a5)]) (st' := [.int (x1 &&& (a5 ^^^ (-1))), .int (1 <<< (a1 &&& 31)), .int 0, .ref a0]) (h' := h2) 4 (fun n => rfl) ?_
  obtain ⟨hq, hw⟩ := hw
  obtain ⟨x3, h4, hx, hw⟩ := hw
  refine zT_call (pc' := 135) (rest := []) 1 (fun n => rfl) hq hx ?_
  show zT E (d + 1) m_m_toGuard 135 [some (.ref a0), some (.int a1), some (.int a2), some (.int a3), some (.int a4), some (.int a5)] [.int x3] h4 r
  refine zT_st (pc' := 139) (L' := [some (.ref a0), some (.int a1), some (.int a2), some (.int a3), some (.int a4), some (.int a5)]) (st' := [.int ((x3 >>> (a2 &&& 31)) &&& 1)]) (h' := h4) 4 (fun n => rfl) ?_
  by_cases hc : ((x3 >>> (a2 &&& 31)) &&& 1) = 0
  · rw [if_pos hc] at hw
    refine zT_st (pc' := 142) (L' := [some (.ref a0), some (.int a1), some (.int a2), some (.int a3), some (.int a4), some (.int a5)]) (st' := []) (h' := h4) 1 (fun n => if_pos hc) ?_
    exact zT_st 4 (fun n => rfl) hw
  · rw [if_neg hc] at hw
    refine zT_st (pc' := 146) (L' := [some (.ref a0), some (.int a1), some (.int a2), some (.int a3), some (.int a4), some (.int a5)]) (st' := []) (h' := h4) 1 (fun n => if_neg hc) ?_
    exact zT_st 2 (fun n => rfl) hw
set_option maxRecDepth 4000 in
theorem s_m_pram_0 (E : zX) (d : Nat) (a0 : Nat) (a1 : Int32) (a2 : Int32) (a3 : Int32) (h : zH) (r : zO × zH)
    (hw : (∃ w, fld h a0 12 0 = some w) ∧
    isO (setF h a0 0 (.int 0)) a0 12 = true ∧ ∃ (x1 : Int32) (h2 : zH), zT E d m_m_isCell 0 [some (.ref a0), some (.int a1)] [] (setF h a0 0 (.int 0)) (.inl (some (.int x1)), h2) ∧
    if x1 = 0 then (
      r = (.inl (some (.int 0)), h2))
    else (
      isO h2 a0 12 = true ∧ ∃ (x3 : Int32) (h4 : zH), zT E d m_m_isCell 0 [some (.ref a0), some (.int a2)] [] h2 (.inl (some (.int x3)), h4) ∧
      if x3 = 0 then (
        r = (.inl (some (.int 0)), h4))
      else (
        isO h4 a0 12 = true ∧ ∃ (x5 : Int32) (h6 : zH), zT E d m_m_isWhat 0 [some (.ref a0), some (.int a3), some (.int 1)] [] h4 (.inl (some (.int x5)), h6) ∧
        if x5 = 0 then (
          r = (.inl (some (.int 0)), h6))
        else (
          isO h6 a0 12 = true ∧ ∃ (h8 : zH), zT E d m_m_laysFar 0 [some (.ref a0), some (.int a2), none, none, none, none, none] [] h6 (.inl none, h8) ∧
          if a3 = 0 then (
            ∃ o9 : Nat, fld h8 a0 12 49 = some (.ref o9) ∧
            ∃ (n10 : Nat) (f11 : Nat → Int32), arr h8 o9 = some (n10, f11) ∧ ¬ (a1 < 0 ∨ n10 ≤ (a1).toNatClampNeg) ∧
            if (f11 (a1).toNatClampNeg) < 9999 then (
              ∃ o12 : Nat, fld h8 a0 12 49 = some (.ref o12) ∧
              ∃ (n13 : Nat) (f14 : Nat → Int32), arr h8 o12 = some (n13, f14) ∧ ¬ (a1 < 0 ∨ n13 ≤ (a1).toNatClampNeg) ∧
              r = (.inl (some (.int (f14 (a1).toNatClampNeg))), h8))
            else (
              r = (.inl (some (.int (-1))), h8)))
          else (
            zT E (d + 1) m_m_pram 70 [some (.ref a0), some (.int a1), some (.int a2), some (.int a3), some (.int (-1)), some (.int 0), none] [] h8 r))))) :
    zT E (d + 1) m_m_pram 0 [some (.ref a0), some (.int a1), some (.int a2), some (.int a3), none, none, none] [] h r := by
  refine zT_st (pc' := 2) (L' := [some (.ref a0), some (.int a1), some (.int a2), some (.int a3), none, none, none]) (st' := [.int 0, .ref a0]) (h' := h) 2 (fun n => rfl) ?_
  obtain ⟨⟨w, e⟩, hw⟩ := hw
  refine zT_st (pc' := 5) (L' := [some (.ref a0), some (.int a1), some (.int a2), some (.int a3), none, none, none]) (st' := []) (h' := (setF h a0 0 (.int 0))) 1 (fun n => put_eq e rfl _ _) ?_
  refine zT_st (pc' := 7) (L' := [some (.ref a0), some (.int a1), some (.int a2), some (.int a3), none, none, none]) (st' := [.int a1, .ref a0]) (h' := (setF h a0 0 (.int 0))) 2 (fun n => rfl) ?_
  obtain ⟨hq, hw⟩ := hw
  obtain ⟨x1, h2, hx, hw⟩ := hw
  refine zT_call (pc' := 10) (rest := []) 1 (fun n => rfl) hq hx ?_
  show zT E (d + 1) m_m_pram 10 [some (.ref a0), some (.int a1), some (.int a2), some (.int a3), none, none, none] [.int x1] h2 r
  by_cases hc : x1 = 0
  · rw [if_pos hc] at hw
    refine zT_st (pc' := 30) (L' := [some (.ref a0), some (.int a1), some (.int a2), some (.int a3), none, none, none]) (st' := []) (h' := h2) 1 (fun n => if_pos hc) ?_
    subst hw
    exact zT_ret 2 rfl
  · rw [if_neg hc] at hw
    refine zT_st (pc' := 13) (L' := [some (.ref a0), some (.int a1), some (.int a2), some (.int a3), none, none, none]) (st' := []) (h' := h2) 1 (fun n => if_neg hc) ?_
    refine zT_st (pc' := 15) (L' := [some (.ref a0), some (.int a1), some (.int a2), some (.int a3), none, none, none]) (st' := [.int a2, .ref a0]) (h' := h2) 2 (fun n => rfl) ?_
    obtain ⟨hq, hw⟩ := hw
    obtain ⟨x3, h4, hx, hw⟩ := hw
    refine zT_call (pc' := 18) (rest := []) 1 (fun n => rfl) hq hx ?_
    show zT E (d + 1) m_m_pram 18 [some (.ref a0), some (.int a1), some (.int a2), some (.int a3), none, none, none] [.int x3] h4 r
    by_cases hc : x3 = 0
    · rw [if_pos hc] at hw
      refine zT_st (pc' := 30) (L' := [some (.ref a0), some (.int a1), some (.int a2), some (.int a3), none, none, none]) (st' := []) (h' := h4) 1 (fun n => if_pos hc) ?_
      subst hw
      exact zT_ret 2 rfl
    · rw [if_neg hc] at hw
      refine zT_st (pc' := 21) (L' := [some (.ref a0), some (.int a1), some (.int a2), some (.int a3), none, none, none]) (st' := []) (h' := h4) 1 (fun n => if_neg hc) ?_
      refine zT_st (pc' := 24) (L' := [some (.ref a0), some (.int a1), some (.int a2), some (.int a3), none, none, none]) (st' := [.int 1, .int a3, .ref a0]) (h' := h4) 3 (fun n => rfl) ?_
      obtain ⟨hq, hw⟩ := hw
      obtain ⟨x5, h6, hx, hw⟩ := hw
      refine zT_call (pc' := 27) (rest := []) 1 (fun n => rfl) hq hx ?_
      show zT E (d + 1) m_m_pram 27 [some (.ref a0), some (.int a1), some (.int a2), some (.int a3), none, none, none] [.int x5] h6 r
      by_cases hc : x5 = 0
      · rw [if_pos hc] at hw
        refine zT_st (pc' := 30) (L' := [some (.ref a0), some (.int a1), some (.int a2), some (.int a3), none, none, none]) (st' := []) (h' := h6) 1 (fun n => if_pos hc) ?_
        subst hw
        exact zT_ret 2 rfl
      · rw [if_neg hc] at hw
        refine zT_st (pc' := 32) (L' := [some (.ref a0), some (.int a1), some (.int a2), some (.int a3), none, none, none]) (st' := []) (h' := h6) 1 (fun n => if_neg hc) ?_
        refine zT_st (pc' := 34) (L' := [some (.ref a0), some (.int a1), some (.int a2), some (.int a3), none, none, none]) (st' := [.int a2, .ref a0]) (h' := h6) 2 (fun n => rfl) ?_
        obtain ⟨hq, hw⟩ := hw
        obtain ⟨h8, hx, hw⟩ := hw
        refine zT_call (pc' := 37) (rest := []) 1 (fun n => rfl) hq hx ?_
        show zT E (d + 1) m_m_pram 37 [some (.ref a0), some (.int a1), some (.int a2), some (.int a3), none, none, none] [] h8 r
        refine zT_st (pc' := 38) (L' := [some (.ref a0), some (.int a1), some (.int a2), some (.int a3), none, none, none]) (st' := [.int a3]) (h' := h8) 1 (fun n => rfl) ?_
        by_cases hc : a3 = 0
        · rw [if_pos hc] at hw
          refine zT_st (pc' := 41) (L' := [some (.ref a0), some (.int a1), some (.int a2), some (.int a3), none, none, none]) (st' := []) (h' := h8) 1 (fun n => if_pos hc) ?_
          refine zT_st (pc' := 42) (L' := [some (.ref a0), some (.int a1), some (.int a2), some (.int a3), none, none, none]) (st' := [.ref a0]) (h' := h8) 1 (fun n => rfl) ?_
          obtain ⟨o9, e, hw⟩ := hw
          refine zT_st (pc' := 45) (L' := [some (.ref a0), some (.int a1), some (.int a2), some (.int a3), none, none, none]) (st' := [.ref o9]) (h' := h8) 1 (fun n => fld_eq (E := E) e _) ?_
          refine zT_st (pc' := 46) (L' := [some (.ref a0), some (.int a1), some (.int a2), some (.int a3), none, none, none]) (st' := [.int a1, .ref o9]) (h' := h8) 1 (fun n => rfl) ?_
          obtain ⟨n10, f11, e, hi, hw⟩ := hw
          refine zT_st (pc' := 47) (L' := [some (.ref a0), some (.int a1), some (.int a2), some (.int a3), none, none, none]) (st' := [.int (f11 (a1).toNatClampNeg)]) (h' := h8) 1 (fun n => arr_eq (E := E) e hi [] (fun st => zrun zP zCd E n (d + 1) m_m_pram 47 [some (.ref a0), some (.int a1), some (.int a2), some (.int a3), none, none, none] st h8)) ?_
          refine zT_st (pc' := 50) (L' := [some (.ref a0), some (.int a1), some (.int a2), some (.int a3), none, none, none]) (st' := [.int 9999, .int (f11 (a1).toNatClampNeg)]) (h' := h8) 1 (fun n => rfl) ?_
          by_cases hc : (f11 (a1).toNatClampNeg) < 9999
          · rw [if_pos hc] at hw
            refine zT_st (pc' := 57) (L' := [some (.ref a0), some (.int a1), some (.int a2), some (.int a3), none, none, none]) (st' := []) (h' := h8) 1 (fun n => if_pos hc) ?_
            refine zT_st (pc' := 58) (L' := [some (.ref a0), some (.int a1), some (.int a2), some (.int a3), none, none, none]) (st' := [.ref a0]) (h' := h8) 1 (fun n => rfl) ?_
            obtain ⟨o12, e, hw⟩ := hw
            refine zT_st (pc' := 61) (L' := [some (.ref a0), some (.int a1), some (.int a2), some (.int a3), none, none, none]) (st' := [.ref o12]) (h' := h8) 1 (fun n => fld_eq (E := E) e _) ?_
            refine zT_st (pc' := 62) (L' := [some (.ref a0), some (.int a1), some (.int a2), some (.int a3), none, none, none]) (st' := [.int a1, .ref o12]) (h' := h8) 1 (fun n => rfl) ?_
            obtain ⟨n13, f14, e, hi, hw⟩ := hw
            refine zT_st (pc' := 63) (L' := [some (.ref a0), some (.int a1), some (.int a2), some (.int a3), none, none, none]) (st' := [.int (f14 (a1).toNatClampNeg)]) (h' := h8) 1 (fun n => arr_eq (E := E) e hi [] (fun st => zrun zP zCd E n (d + 1) m_m_pram 63 [some (.ref a0), some (.int a1), some (.int a2), some (.int a3), none, none, none] st h8)) ?_
            subst hw
            exact zT_ret 1 rfl
          · rw [if_neg hc] at hw
            refine zT_st (pc' := 53) (L' := [some (.ref a0), some (.int a1), some (.int a2), some (.int a3), none, none, none]) (st' := []) (h' := h8) 1 (fun n => if_neg hc) ?_
            subst hw
            exact zT_ret 3 rfl
        · rw [if_neg hc] at hw
          refine zT_st (pc' := 64) (L' := [some (.ref a0), some (.int a1), some (.int a2), some (.int a3), none, none, none]) (st' := []) (h' := h8) 1 (fun n => if_neg hc) ?_
          exact zT_st 4 (fun n => rfl) hw
set_option maxRecDepth 4000 in
theorem s_m_pram_70 (E : zX) (d : Nat) (a0 : Nat) (a1 : Int32) (j2 : Option Value) (j3 : Option Value) (a4 : Int32) (a5 : Int32) (j6 : Option Value) (h : zH) (r : zO × zH)
    (hw : if 4 ≤ a5 then (
      r = (.inl (some (.int a4)), h))
    else (
      ∃ o1 : Nat, fld h a0 12 49 = some (.ref o1) ∧
      ∃ (n2 : Nat) (f3 : Nat → Int32), arr h o1 = some (n2, f3) ∧ ¬ (a1 < 0 ∨ n2 ≤ (a1).toNatClampNeg) ∧
      if (f3 (a1).toNatClampNeg) ≤ 0 then (
        r = (.inl (some (.int a4)), h))
      else (
        ∃ o4 : Nat, fld h a0 12 49 = some (.ref o4) ∧
        ∃ (n5 : Nat) (f6 : Nat → Int32), arr h o4 = some (n5, f6) ∧ ¬ (a1 < 0 ∨ n5 ≤ (a1).toNatClampNeg) ∧
        if 9999 ≤ (f6 (a1).toNatClampNeg) then (
          r = (.inl (some (.int a4)), h))
        else (
          isO h a0 12 = true ∧ ∃ (x7 : Int32) (h8 : zH), zT E d m_m_beside 0 [some (.ref a0), some (.int a1), some (.int a5)] [] h (.inl (some (.int x7)), h8) ∧
          if x7 = (-1) then (
            zT E (d + 1) m_m_pram 70 [some (.ref a0), some (.int a1), j2, j3, some (.int a4), some (.int (a5 + 1)), some (.int x7)] [] h8 r)
          else (
            isO h8 a0 12 = true ∧ ∃ (x9 : Int32) (h10 : zH), zT E d m_m_isShut 0 [some (.ref a0), some (.int x7), none, none] [] h8 (.inl (some (.int x9)), h10) ∧
            if x9 = 0 then (
              ∃ o11 : Nat, fld h10 a0 12 49 = some (.ref o11) ∧
              ∃ (n12 : Nat) (f13 : Nat → Int32), arr h10 o11 = some (n12, f13) ∧ ¬ (x7 < 0 ∨ n12 ≤ (x7).toNatClampNeg) ∧
              ∃ o14 : Nat, fld h10 a0 12 49 = some (.ref o14) ∧
              ∃ (n15 : Nat) (f16 : Nat → Int32), arr h10 o14 = some (n15, f16) ∧ ¬ (a1 < 0 ∨ n15 ≤ (a1).toNatClampNeg) ∧
              if (f13 (x7).toNatClampNeg) = ((f16 (a1).toNatClampNeg) - 1) then (
                if a4 = (-1) then (
                  zT E (d + 1) m_m_pram 70 [some (.ref a0), some (.int a1), j2, j3, some (.int x7), some (.int (a5 + 1)), some (.int x7)] [] h10 r)
                else (
                  ∃ (x17 : Int32) (h18 : zH), zT E d m_m_lesser 0 [some (.int a4), some (.int x7)] [] h10 (.inl (some (.int x17)), h18) ∧
                  zT E (d + 1) m_m_pram 70 [some (.ref a0), some (.int a1), j2, j3, some (.int x17), some (.int (a5 + 1)), some (.int x7)] [] h18 r))
              else (
                zT E (d + 1) m_m_pram 70 [some (.ref a0), some (.int a1), j2, j3, some (.int a4), some (.int (a5 + 1)), some (.int x7)] [] h10 r))
            else (
              zT E (d + 1) m_m_pram 70 [some (.ref a0), some (.int a1), j2, j3, some (.int a4), some (.int (a5 + 1)), some (.int x7)] [] h10 r)))))) :
    zT E (d + 1) m_m_pram 70 [some (.ref a0), some (.int a1), j2, j3, some (.int a4), some (.int a5), j6] [] h r := by
  refine zT_st (pc' := 73) (L' := [some (.ref a0), some (.int a1), j2, j3, some (.int a4), some (.int a5), j6]) (st' := [.int 4, .int a5]) (h' := h) 2 (fun n => rfl) ?_
  by_cases hc : 4 ≤ a5
  · rw [if_pos hc] at hw
    refine zT_st (pc' := 168) (L' := [some (.ref a0), some (.int a1), j2, j3, some (.int a4), some (.int a5), j6]) (st' := []) (h' := h) 1 (fun n => if_pos hc) ?_
    subst hw
    exact zT_ret 2 rfl
  · rw [if_neg hc] at hw
    refine zT_st (pc' := 76) (L' := [some (.ref a0), some (.int a1), j2, j3, some (.int a4), some (.int a5), j6]) (st' := []) (h' := h) 1 (fun n => if_neg hc) ?_
    refine zT_st (pc' := 77) (L' := [some (.ref a0), some (.int a1), j2, j3, some (.int a4), some (.int a5), j6]) (st' := [.ref a0]) (h' := h) 1 (fun n => rfl) ?_
    obtain ⟨o1, e, hw⟩ := hw
    refine zT_st (pc' := 80) (L' := [some (.ref a0), some (.int a1), j2, j3, some (.int a4), some (.int a5), j6]) (st' := [.ref o1]) (h' := h) 1 (fun n => fld_eq (E := E) e _) ?_
    refine zT_st (pc' := 81) (L' := [some (.ref a0), some (.int a1), j2, j3, some (.int a4), some (.int a5), j6]) (st' := [.int a1, .ref o1]) (h' := h) 1 (fun n => rfl) ?_
    obtain ⟨n2, f3, e, hi, hw⟩ := hw
    refine zT_st (pc' := 82) (L' := [some (.ref a0), some (.int a1), j2, j3, some (.int a4), some (.int a5), j6]) (st' := [.int (f3 (a1).toNatClampNeg)]) (h' := h) 1 (fun n => arr_eq (E := E) e hi [] (fun st => zrun zP zCd E n (d + 1) m_m_pram 82 [some (.ref a0), some (.int a1), j2, j3, some (.int a4), some (.int a5), j6] st h)) ?_
    by_cases hc : (f3 (a1).toNatClampNeg) ≤ 0
    · rw [if_pos hc] at hw
      refine zT_st (pc' := 168) (L' := [some (.ref a0), some (.int a1), j2, j3, some (.int a4), some (.int a5), j6]) (st' := []) (h' := h) 1 (fun n => if_pos hc) ?_
      subst hw
      exact zT_ret 2 rfl
    · rw [if_neg hc] at hw
      refine zT_st (pc' := 85) (L' := [some (.ref a0), some (.int a1), j2, j3, some (.int a4), some (.int a5), j6]) (st' := []) (h' := h) 1 (fun n => if_neg hc) ?_
      refine zT_st (pc' := 86) (L' := [some (.ref a0), some (.int a1), j2, j3, some (.int a4), some (.int a5), j6]) (st' := [.ref a0]) (h' := h) 1 (fun n => rfl) ?_
      obtain ⟨o4, e, hw⟩ := hw
      refine zT_st (pc' := 89) (L' := [some (.ref a0), some (.int a1), j2, j3, some (.int a4), some (.int a5), j6]) (st' := [.ref o4]) (h' := h) 1 (fun n => fld_eq (E := E) e _) ?_
      refine zT_st (pc' := 90) (L' := [some (.ref a0), some (.int a1), j2, j3, some (.int a4), some (.int a5), j6]) (st' := [.int a1, .ref o4]) (h' := h) 1 (fun n => rfl) ?_
      obtain ⟨n5, f6, e, hi, hw⟩ := hw
      refine zT_st (pc' := 91) (L' := [some (.ref a0), some (.int a1), j2, j3, some (.int a4), some (.int a5), j6]) (st' := [.int (f6 (a1).toNatClampNeg)]) (h' := h) 1 (fun n => arr_eq (E := E) e hi [] (fun st => zrun zP zCd E n (d + 1) m_m_pram 91 [some (.ref a0), some (.int a1), j2, j3, some (.int a4), some (.int a5), j6] st h)) ?_
      refine zT_st (pc' := 94) (L' := [some (.ref a0), some (.int a1), j2, j3, some (.int a4), some (.int a5), j6]) (st' := [.int 9999, .int (f6 (a1).toNatClampNeg)]) (h' := h) 1 (fun n => rfl) ?_
      by_cases hc : 9999 ≤ (f6 (a1).toNatClampNeg)
      · rw [if_pos hc] at hw
        refine zT_st (pc' := 168) (L' := [some (.ref a0), some (.int a1), j2, j3, some (.int a4), some (.int a5), j6]) (st' := []) (h' := h) 1 (fun n => if_pos hc) ?_
        subst hw
        exact zT_ret 2 rfl
      · rw [if_neg hc] at hw
        refine zT_st (pc' := 97) (L' := [some (.ref a0), some (.int a1), j2, j3, some (.int a4), some (.int a5), j6]) (st' := []) (h' := h) 1 (fun n => if_neg hc) ?_
        refine zT_st (pc' := 101) (L' := [some (.ref a0), some (.int a1), j2, j3, some (.int a4), some (.int a5), j6]) (st' := [.int a5, .int a1, .ref a0]) (h' := h) 3 (fun n => rfl) ?_
        obtain ⟨hq, hw⟩ := hw
        obtain ⟨x7, h8, hx, hw⟩ := hw
        refine zT_call (pc' := 104) (rest := []) 1 (fun n => rfl) hq hx ?_
        show zT E (d + 1) m_m_pram 104 [some (.ref a0), some (.int a1), j2, j3, some (.int a4), some (.int a5), j6] [.int x7] h8 r
        refine zT_st (pc' := 109) (L' := [some (.ref a0), some (.int a1), j2, j3, some (.int a4), some (.int a5), some (.int x7)]) (st' := [.int (-1), .int x7]) (h' := h8) 3 (fun n => rfl) ?_
        by_cases hc : x7 = (-1)
        · rw [if_pos hc] at hw
          refine zT_st (pc' := 162) (L' := [some (.ref a0), some (.int a1), j2, j3, some (.int a4), some (.int a5), some (.int x7)]) (st' := []) (h' := h8) 1 (fun n => if_pos hc) ?_
          exact zT_st 2 (fun n => rfl) hw
        · rw [if_neg hc] at hw
          refine zT_st (pc' := 112) (L' := [some (.ref a0), some (.int a1), j2, j3, some (.int a4), some (.int a5), some (.int x7)]) (st' := []) (h' := h8) 1 (fun n => if_neg hc) ?_
          refine zT_st (pc' := 115) (L' := [some (.ref a0), some (.int a1), j2, j3, some (.int a4), some (.int a5), some (.int x7)]) (st' := [.int x7, .ref a0]) (h' := h8) 2 (fun n => rfl) ?_
          obtain ⟨hq, hw⟩ := hw
          obtain ⟨x9, h10, hx, hw⟩ := hw
          refine zT_call (pc' := 118) (rest := []) 1 (fun n => rfl) hq hx ?_
          show zT E (d + 1) m_m_pram 118 [some (.ref a0), some (.int a1), j2, j3, some (.int a4), some (.int a5), some (.int x7)] [.int x9] h10 r
          by_cases hc : x9 = 0
          · rw [if_pos hc] at hw
            refine zT_st (pc' := 121) (L' := [some (.ref a0), some (.int a1), j2, j3, some (.int a4), some (.int a5), some (.int x7)]) (st' := []) (h' := h10) 1 (fun n => if_pos hc) ?_
            refine zT_st (pc' := 122) (L' := [some (.ref a0), some (.int a1), j2, j3, some (.int a4), some (.int a5), some (.int x7)]) (st' := [.ref a0]) (h' := h10) 1 (fun n => rfl) ?_
            obtain ⟨o11, e, hw⟩ := hw
            refine zT_st (pc' := 125) (L' := [some (.ref a0), some (.int a1), j2, j3, some (.int a4), some (.int a5), some (.int x7)]) (st' := [.ref o11]) (h' := h10) 1 (fun n => fld_eq (E := E) e _) ?_
            refine zT_st (pc' := 127) (L' := [some (.ref a0), some (.int a1), j2, j3, some (.int a4), some (.int a5), some (.int x7)]) (st' := [.int x7, .ref o11]) (h' := h10) 1 (fun n => rfl) ?_
            obtain ⟨n12, f13, e, hi, hw⟩ := hw
            refine zT_st (pc' := 128) (L' := [some (.ref a0), some (.int a1), j2, j3, some (.int a4), some (.int a5), some (.int x7)]) (st' := [.int (f13 (x7).toNatClampNeg)]) (h' := h10) 1 (fun n => arr_eq (E := E) e hi [] (fun st => zrun zP zCd E n (d + 1) m_m_pram 128 [some (.ref a0), some (.int a1), j2, j3, some (.int a4), some (.int a5), some (.int x7)] st h10)) ?_
            refine zT_st (pc' := 129) (L' := [some (.ref a0), some (.int a1), j2, j3, some (.int a4), some (.int a5), some (.int x7)]) (st' := [.ref a0, .int (f13 (x7).toNatClampNeg)]) (h' := h10) 1 (fun n => rfl) ?_
            obtain ⟨o14, e, hw⟩ := hw
            refine zT_st (pc' := 132) (L' := [some (.ref a0), some (.int a1), j2, j3, some (.int a4), some (.int a5), some (.int x7)]) (st' := [.ref o14, .int (f13 (x7).toNatClampNeg)]) (h' := h10) 1 (fun n => fld_eq (E := E) e _) ?_
            refine zT_st (pc' := 133) (L' := [some (.ref a0), some (.int a1), j2, j3, some (.int a4), some (.int a5), some (.int x7)]) (st' := [.int a1, .ref o14, .int (f13 (x7).toNatClampNeg)]) (h' := h10) 1 (fun n => rfl) ?_
            obtain ⟨n15, f16, e, hi, hw⟩ := hw
            refine zT_st (pc' := 134) (L' := [some (.ref a0), some (.int a1), j2, j3, some (.int a4), some (.int a5), some (.int x7)]) (st' := [.int (f16 (a1).toNatClampNeg), .int (f13 (x7).toNatClampNeg)]) (h' := h10) 1 (fun n => arr_eq (E := E) e hi [.int (f13 (x7).toNatClampNeg)] (fun st => zrun zP zCd E n (d + 1) m_m_pram 134 [some (.ref a0), some (.int a1), j2, j3, some (.int a4), some (.int a5), some (.int x7)] st h10)) ?_
            refine zT_st (pc' := 136) (L' := [some (.ref a0), some (.int a1), j2, j3, some (.int a4), some (.int a5), some (.int x7)]) (st' := [.int ((f16 (a1).toNatClampNeg) - 1), .int (f13 (x7).toNatClampNeg)]) (h' := h10) 2 (fun n => rfl) ?_
            by_cases hc : (f13 (x7).toNatClampNeg) = ((f16 (a1).toNatClampNeg) - 1)
            · rw [if_pos hc] at hw
              refine zT_st (pc' := 142) (L' := [some (.ref a0), some (.int a1), j2, j3, some (.int a4), some (.int a5), some (.int x7)]) (st' := []) (h' := h10) 1 (fun n => if_pos hc) ?_
              refine zT_st (pc' := 145) (L' := [some (.ref a0), some (.int a1), j2, j3, some (.int a4), some (.int a5), some (.int x7)]) (st' := [.int (-1), .int a4]) (h' := h10) 2 (fun n => rfl) ?_
              by_cases hc : a4 = (-1)
              · rw [if_pos hc] at hw
                refine zT_st (pc' := 148) (L' := [some (.ref a0), some (.int a1), j2, j3, some (.int a4), some (.int a5), some (.int x7)]) (st' := []) (h' := h10) 1 (fun n => if_pos hc) ?_
                exact zT_st 5 (fun n => rfl) hw
              · rw [if_neg hc] at hw
                refine zT_st (pc' := 153) (L' := [some (.ref a0), some (.int a1), j2, j3, some (.int a4), some (.int a5), some (.int x7)]) (st' := []) (h' := h10) 1 (fun n => if_neg hc) ?_
                refine zT_st (pc' := 157) (L' := [some (.ref a0), some (.int a1), j2, j3, some (.int a4), some (.int a5), some (.int x7)]) (st' := [.int x7, .int a4]) (h' := h10) 2 (fun n => rfl) ?_
                obtain ⟨x17, h18, hx, hw⟩ := hw
                refine zT_call (pc' := 160) (rest := []) 1 (fun n => rfl) rfl hx ?_
                show zT E (d + 1) m_m_pram 160 [some (.ref a0), some (.int a1), j2, j3, some (.int a4), some (.int a5), some (.int x7)] [.int x17] h18 r
                exact zT_st 3 (fun n => rfl) hw
            · rw [if_neg hc] at hw
              refine zT_st (pc' := 139) (L' := [some (.ref a0), some (.int a1), j2, j3, some (.int a4), some (.int a5), some (.int x7)]) (st' := []) (h' := h10) 1 (fun n => if_neg hc) ?_
              exact zT_st 3 (fun n => rfl) hw
          · rw [if_neg hc] at hw
            refine zT_st (pc' := 162) (L' := [some (.ref a0), some (.int a1), j2, j3, some (.int a4), some (.int a5), some (.int x7)]) (st' := []) (h' := h10) 1 (fun n => if_neg hc) ?_
            exact zT_st 2 (fun n => rfl) hw
set_option maxRecDepth 4000 in
theorem s_m_putBy_0 (E : zX) (d : Nat) (a0 : Nat) (a1 : Int32) (h : zH) (r : zO × zH)
    (hw : (∃ w, fld h a0 12 0 = some w) ∧
    isO (setF h a0 0 (.int 0)) a0 12 = true ∧ ∃ (x1 : Int32) (h2 : zH), zT E d m_m_isWhat 0 [some (.ref a0), some (.int a1), some (.int 1)] [] (setF h a0 0 (.int 0)) (.inl (some (.int x1)), h2) ∧
    if x1 = 0 then (
      r = (.inl (some (.int 0)), h2))
    else (
      isO h2 a0 12 = true ∧ ∃ (h4 : zH), zT E d m_m_laysTaking 0 [some (.ref a0), none, none, none] [] h2 (.inl none, h4) ∧
      zT E (d + 1) m_m_putBy 27 [some (.ref a0), some (.int a1), some (.int 0), some (.int 0), some (.int 0)] [] h4 r)) :
    zT E (d + 1) m_m_putBy 0 [some (.ref a0), some (.int a1), none, none, none] [] h r := by
  refine zT_st (pc' := 2) (L' := [some (.ref a0), some (.int a1), none, none, none]) (st' := [.int 0, .ref a0]) (h' := h) 2 (fun n => rfl) ?_
  obtain ⟨⟨w, e⟩, hw⟩ := hw
  refine zT_st (pc' := 5) (L' := [some (.ref a0), some (.int a1), none, none, none]) (st' := []) (h' := (setF h a0 0 (.int 0))) 1 (fun n => put_eq e rfl _ _) ?_
  refine zT_st (pc' := 8) (L' := [some (.ref a0), some (.int a1), none, none, none]) (st' := [.int 1, .int a1, .ref a0]) (h' := (setF h a0 0 (.int 0))) 3 (fun n => rfl) ?_
  obtain ⟨hq, hw⟩ := hw
  obtain ⟨x1, h2, hx, hw⟩ := hw
  refine zT_call (pc' := 11) (rest := []) 1 (fun n => rfl) hq hx ?_
  show zT E (d + 1) m_m_putBy 11 [some (.ref a0), some (.int a1), none, none, none] [.int x1] h2 r
  by_cases hc : x1 = 0
  · rw [if_pos hc] at hw
    refine zT_st (pc' := 14) (L' := [some (.ref a0), some (.int a1), none, none, none]) (st' := []) (h' := h2) 1 (fun n => if_pos hc) ?_
    subst hw
    exact zT_ret 2 rfl
  · rw [if_neg hc] at hw
    refine zT_st (pc' := 16) (L' := [some (.ref a0), some (.int a1), none, none, none]) (st' := []) (h' := h2) 1 (fun n => if_neg hc) ?_
    refine zT_st (pc' := 17) (L' := [some (.ref a0), some (.int a1), none, none, none]) (st' := [.ref a0]) (h' := h2) 1 (fun n => rfl) ?_
    obtain ⟨hq, hw⟩ := hw
    obtain ⟨h4, hx, hw⟩ := hw
    refine zT_call (pc' := 20) (rest := []) 1 (fun n => rfl) hq hx ?_
    show zT E (d + 1) m_m_putBy 20 [some (.ref a0), some (.int a1), none, none, none] [] h4 r
    exact zT_st 6 (fun n => rfl) hw
set_option maxRecDepth 4000 in
theorem s_m_putBy_27 (E : zX) (d : Nat) (a0 : Nat) (a1 : Int32) (a2 : Int32) (a3 : Int32) (a4 : Int32) (h : zH) (r : zO × zH)
    (hw : ∃ x1 : Int32, fld h a0 12 3 = some (.int x1) ∧
    if x1 ≤ a4 then (
      if a1 = 0 then (
        r = (.inl (some (.int a2)), h))
      else (
        r = (.inl (some (.int a3)), h)))
    else (
      ∃ o2 : Nat, fld h a0 12 52 = some (.ref o2) ∧
      ∃ (n3 : Nat) (f4 : Nat → Int32), arr h o2 = some (n3, f4) ∧ ¬ (a4 < 0 ∨ n3 ≤ (a4).toNatClampNeg) ∧
      if (f4 (a4).toNatClampNeg) = (-1) then (
        zT E (d + 1) m_m_putBy 27 [some (.ref a0), some (.int a1), some (.int a2), some (.int a3), some (.int (a4 + 1))] [] h r)
      else (
        ∃ o5 : Nat, fld h a0 12 8 = some (.ref o5) ∧
        ∃ o6 : Nat, fld h a0 12 52 = some (.ref o6) ∧
        ∃ (n7 : Nat) (f8 : Nat → Int32), arr h o6 = some (n7, f8) ∧ ¬ (a4 < 0 ∨ n7 ≤ (a4).toNatClampNeg) ∧
        ∃ (n9 : Nat) (f10 : Nat → Int32), arr h o5 = some (n9, f10) ∧ ¬ ((f8 (a4).toNatClampNeg) < 0 ∨ n9 ≤ ((f8 (a4).toNatClampNeg)).toNatClampNeg) ∧
        ∃ o11 : Nat, fld h a0 12 40 = some (.ref o11) ∧
        ∃ (n12 : Nat) (f13 : Nat → Int32), arr h o11 = some (n12, f13) ∧ ¬ ((1 + a4) < 0 ∨ n12 ≤ ((1 + a4)).toNatClampNeg) ∧
        zT E (d + 1) m_m_putBy 27 [some (.ref a0), some (.int a1), some (.int (a2 + 1)), some (.int (a3 + ((f10 ((f8 (a4).toNatClampNeg)).toNatClampNeg) - (f13 ((1 + a4)).toNatClampNeg)))), some (.int (a4 + 1))] [] h r))) :
    zT E (d + 1) m_m_putBy 27 [some (.ref a0), some (.int a1), some (.int a2), some (.int a3), some (.int a4)] [] h r := by
  refine zT_st (pc' := 30) (L' := [some (.ref a0), some (.int a1), some (.int a2), some (.int a3), some (.int a4)]) (st' := [.ref a0, .int a4]) (h' := h) 2 (fun n => rfl) ?_
  obtain ⟨x1, e, hw⟩ := hw
  refine zT_st (pc' := 33) (L' := [some (.ref a0), some (.int a1), some (.int a2), some (.int a3), some (.int a4)]) (st' := [.int x1, .int a4]) (h' := h) 1 (fun n => fld_eq (E := E) e _) ?_
  by_cases hc : x1 ≤ a4
  · rw [if_pos hc] at hw
    refine zT_st (pc' := 84) (L' := [some (.ref a0), some (.int a1), some (.int a2), some (.int a3), some (.int a4)]) (st' := []) (h' := h) 1 (fun n => if_pos hc) ?_
    refine zT_st (pc' := 85) (L' := [some (.ref a0), some (.int a1), some (.int a2), some (.int a3), some (.int a4)]) (st' := [.int a1]) (h' := h) 1 (fun n => rfl) ?_
    by_cases hc : a1 = 0
    · rw [if_pos hc] at hw
      refine zT_st (pc' := 88) (L' := [some (.ref a0), some (.int a1), some (.int a2), some (.int a3), some (.int a4)]) (st' := []) (h' := h) 1 (fun n => if_pos hc) ?_
      subst hw
      exact zT_ret 3 rfl
    · rw [if_neg hc] at hw
      refine zT_st (pc' := 92) (L' := [some (.ref a0), some (.int a1), some (.int a2), some (.int a3), some (.int a4)]) (st' := []) (h' := h) 1 (fun n => if_neg hc) ?_
      subst hw
      exact zT_ret 2 rfl
  · rw [if_neg hc] at hw
    refine zT_st (pc' := 36) (L' := [some (.ref a0), some (.int a1), some (.int a2), some (.int a3), some (.int a4)]) (st' := []) (h' := h) 1 (fun n => if_neg hc) ?_
    refine zT_st (pc' := 37) (L' := [some (.ref a0), some (.int a1), some (.int a2), some (.int a3), some (.int a4)]) (st' := [.ref a0]) (h' := h) 1 (fun n => rfl) ?_
    obtain ⟨o2, e, hw⟩ := hw
    refine zT_st (pc' := 40) (L' := [some (.ref a0), some (.int a1), some (.int a2), some (.int a3), some (.int a4)]) (st' := [.ref o2]) (h' := h) 1 (fun n => fld_eq (E := E) e _) ?_
    refine zT_st (pc' := 42) (L' := [some (.ref a0), some (.int a1), some (.int a2), some (.int a3), some (.int a4)]) (st' := [.int a4, .ref o2]) (h' := h) 1 (fun n => rfl) ?_
    obtain ⟨n3, f4, e, hi, hw⟩ := hw
    refine zT_st (pc' := 43) (L' := [some (.ref a0), some (.int a1), some (.int a2), some (.int a3), some (.int a4)]) (st' := [.int (f4 (a4).toNatClampNeg)]) (h' := h) 1 (fun n => arr_eq (E := E) e hi [] (fun st => zrun zP zCd E n (d + 1) m_m_putBy 43 [some (.ref a0), some (.int a1), some (.int a2), some (.int a3), some (.int a4)] st h)) ?_
    refine zT_st (pc' := 44) (L' := [some (.ref a0), some (.int a1), some (.int a2), some (.int a3), some (.int a4)]) (st' := [.int (-1), .int (f4 (a4).toNatClampNeg)]) (h' := h) 1 (fun n => rfl) ?_
    by_cases hc : (f4 (a4).toNatClampNeg) = (-1)
    · rw [if_pos hc] at hw
      refine zT_st (pc' := 47) (L' := [some (.ref a0), some (.int a1), some (.int a2), some (.int a3), some (.int a4)]) (st' := []) (h' := h) 1 (fun n => if_pos hc) ?_
      exact zT_st 3 (fun n => rfl) hw
    · rw [if_neg hc] at hw
      refine zT_st (pc' := 50) (L' := [some (.ref a0), some (.int a1), some (.int a2), some (.int a3), some (.int a4)]) (st' := []) (h' := h) 1 (fun n => if_neg hc) ?_
      refine zT_st (pc' := 55) (L' := [some (.ref a0), some (.int a1), some (.int (a2 + 1)), some (.int a3), some (.int a4)]) (st' := [.ref a0, .int a3]) (h' := h) 3 (fun n => rfl) ?_
      obtain ⟨o5, e, hw⟩ := hw
      refine zT_st (pc' := 58) (L' := [some (.ref a0), some (.int a1), some (.int (a2 + 1)), some (.int a3), some (.int a4)]) (st' := [.ref o5, .int a3]) (h' := h) 1 (fun n => fld_eq (E := E) e _) ?_
      refine zT_st (pc' := 59) (L' := [some (.ref a0), some (.int a1), some (.int (a2 + 1)), some (.int a3), some (.int a4)]) (st' := [.ref a0, .ref o5, .int a3]) (h' := h) 1 (fun n => rfl) ?_
      obtain ⟨o6, e, hw⟩ := hw
      refine zT_st (pc' := 62) (L' := [some (.ref a0), some (.int a1), some (.int (a2 + 1)), some (.int a3), some (.int a4)]) (st' := [.ref o6, .ref o5, .int a3]) (h' := h) 1 (fun n => fld_eq (E := E) e _) ?_
      refine zT_st (pc' := 64) (L' := [some (.ref a0), some (.int a1), some (.int (a2 + 1)), some (.int a3), some (.int a4)]) (st' := [.int a4, .ref o6, .ref o5, .int a3]) (h' := h) 1 (fun n => rfl) ?_
      obtain ⟨n7, f8, e, hi, hw⟩ := hw
      refine zT_st (pc' := 65) (L' := [some (.ref a0), some (.int a1), some (.int (a2 + 1)), some (.int a3), some (.int a4)]) (st' := [.int (f8 (a4).toNatClampNeg), .ref o5, .int a3]) (h' := h) 1 (fun n => arr_eq (E := E) e hi [.ref o5, .int a3] (fun st => zrun zP zCd E n (d + 1) m_m_putBy 65 [some (.ref a0), some (.int a1), some (.int (a2 + 1)), some (.int a3), some (.int a4)] st h)) ?_
      obtain ⟨n9, f10, e, hi, hw⟩ := hw
      refine zT_st (pc' := 66) (L' := [some (.ref a0), some (.int a1), some (.int (a2 + 1)), some (.int a3), some (.int a4)]) (st' := [.int (f10 ((f8 (a4).toNatClampNeg)).toNatClampNeg), .int a3]) (h' := h) 1 (fun n => arr_eq (E := E) e hi [.int a3] (fun st => zrun zP zCd E n (d + 1) m_m_putBy 66 [some (.ref a0), some (.int a1), some (.int (a2 + 1)), some (.int a3), some (.int a4)] st h)) ?_
      refine zT_st (pc' := 67) (L' := [some (.ref a0), some (.int a1), some (.int (a2 + 1)), some (.int a3), some (.int a4)]) (st' := [.ref a0, .int (f10 ((f8 (a4).toNatClampNeg)).toNatClampNeg), .int a3]) (h' := h) 1 (fun n => rfl) ?_
      obtain ⟨o11, e, hw⟩ := hw
      refine zT_st (pc' := 70) (L' := [some (.ref a0), some (.int a1), some (.int (a2 + 1)), some (.int a3), some (.int a4)]) (st' := [.ref o11, .int (f10 ((f8 (a4).toNatClampNeg)).toNatClampNeg), .int a3]) (h' := h) 1 (fun n => fld_eq (E := E) e _) ?_
      refine zT_st (pc' := 74) (L' := [some (.ref a0), some (.int a1), some (.int (a2 + 1)), some (.int a3), some (.int a4)]) (st' := [.int (1 + a4), .ref o11, .int (f10 ((f8 (a4).toNatClampNeg)).toNatClampNeg), .int a3]) (h' := h) 3 (fun n => rfl) ?_
      obtain ⟨n12, f13, e, hi, hw⟩ := hw
      refine zT_st (pc' := 75) (L' := [some (.ref a0), some (.int a1), some (.int (a2 + 1)), some (.int a3), some (.int a4)]) (st' := [.int (f13 ((1 + a4)).toNatClampNeg), .int (f10 ((f8 (a4).toNatClampNeg)).toNatClampNeg), .int a3]) (h' := h) 1 (fun n => arr_eq (E := E) e hi [.int (f10 ((f8 (a4).toNatClampNeg)).toNatClampNeg), .int a3] (fun st => zrun zP zCd E n (d + 1) m_m_putBy 75 [some (.ref a0), some (.int a1), some (.int (a2 + 1)), some (.int a3), some (.int a4)] st h)) ?_
      exact zT_st 5 (fun n => rfl) hw
set_option maxRecDepth 4000 in
theorem s_m_puts0_0 (E : zX) (d : Nat) (a0 : Nat) (a1 : Int32) (a2 : Int32) (a3 : Int32) (h : zH) (r : zO × zH)
    (hw : ∃ o1 : Nat, fld h a0 12 8 = some (.ref o1) ∧
    ∃ (n2 : Nat) (f3 : Nat → Int32), arr h o1 = some (n2, f3) ∧ ¬ (a2 < 0 ∨ n2 ≤ (a2).toNatClampNeg) ∧
    ∃ o4 : Nat, fld h a0 12 51 = some (.ref o4) ∧
    ∃ (n5 : Nat) (f6 : Nat → Int32), arr h o4 = some (n5, f6) ∧ ¬ (((1024 * (a1 + 1)) + (a3 ||| (1 <<< (a2 &&& 31)))) < 0 ∨ n5 ≤ (((1024 * (a1 + 1)) + (a3 ||| (1 <<< (a2 &&& 31))))).toNatClampNeg) ∧
    r = (.inl (some (.int ((f3 (a2).toNatClampNeg) + (f6 (((1024 * (a1 + 1)) + (a3 ||| (1 <<< (a2 &&& 31))))).toNatClampNeg)))), h)) :
    zT E d m_m_puts0 0 [some (.ref a0), some (.int a1), some (.int a2), some (.int a3)] [] h r := by
  refine zT_st (pc' := 1) (L' := [some (.ref a0), some (.int a1), some (.int a2), some (.int a3)]) (st' := [.ref a0]) (h' := h) 1 (fun n => rfl) ?_
  obtain ⟨o1, e, hw⟩ := hw
  refine zT_st (pc' := 4) (L' := [some (.ref a0), some (.int a1), some (.int a2), some (.int a3)]) (st' := [.ref o1]) (h' := h) 1 (fun n => fld_eq (E := E) e _) ?_
  refine zT_st (pc' := 5) (L' := [some (.ref a0), some (.int a1), some (.int a2), some (.int a3)]) (st' := [.int a2, .ref o1]) (h' := h) 1 (fun n => rfl) ?_
  obtain ⟨n2, f3, e, hi, hw⟩ := hw
  refine zT_st (pc' := 6) (L' := [some (.ref a0), some (.int a1), some (.int a2), some (.int a3)]) (st' := [.int (f3 (a2).toNatClampNeg)]) (h' := h) 1 (fun n => arr_eq (E := E) e hi [] (fun st => zrun zP zCd E n d m_m_puts0 6 [some (.ref a0), some (.int a1), some (.int a2), some (.int a3)] st h)) ?_
  refine zT_st (pc' := 7) (L' := [some (.ref a0), some (.int a1), some (.int a2), some (.int a3)]) (st' := [.ref a0, .int (f3 (a2).toNatClampNeg)]) (h' := h) 1 (fun n => rfl) ?_
  obtain ⟨o4, e, hw⟩ := hw
  refine zT_st (pc' := 10) (L' := [some (.ref a0), some (.int a1), some (.int a2), some (.int a3)]) (st' := [.ref o4, .int (f3 (a2).toNatClampNeg)]) (h' := h) 1 (fun n => fld_eq (E := E) e _) ?_
  refine zT_st (pc' := 23) (L' := [some (.ref a0), some (.int a1), some (.int a2), some (.int a3)]) (st' := [.int ((1024 * (a1 + 1)) + (a3 ||| (1 <<< (a2 &&& 31)))), .ref o4, .int (f3 (a2).toNatClampNeg)]) (h' := h) 11 (fun n => rfl) ?_
  obtain ⟨n5, f6, e, hi, hw⟩ := hw
  refine zT_st (pc' := 24) (L' := [some (.ref a0), some (.int a1), some (.int a2), some (.int a3)]) (st' := [.int (f6 (((1024 * (a1 + 1)) + (a3 ||| (1 <<< (a2 &&& 31))))).toNatClampNeg), .int (f3 (a2).toNatClampNeg)]) (h' := h) 1 (fun n => arr_eq (E := E) e hi [.int (f3 (a2).toNatClampNeg)] (fun st => zrun zP zCd E n d m_m_puts0 24 [some (.ref a0), some (.int a1), some (.int a2), some (.int a3)] st h)) ?_
  subst hw
  exact zT_ret 2 rfl
set_option maxRecDepth 4000 in
theorem s_m_put_0 (E : zX) (d : Nat) (a0 : Nat) (a1 : Int32) (h : zH) (r : zO × zH)
    (hw : (∃ w, fld h a0 12 0 = some w) ∧
    isO (setF h a0 0 (.int 0)) a0 12 = true ∧ ∃ (x1 : Int32) (h2 : zH), zT E d m_m_isPerson 0 [some (.ref a0), some (.int a1)] [] (setF h a0 0 (.int 0)) (.inl (some (.int x1)), h2) ∧
    if x1 = 0 then (
      r = (.inl (some (.int 0)), h2))
    else (
      isO h2 a0 12 = true ∧ ∃ (h4 : zH), zT E d m_m_laysTaking 0 [some (.ref a0), none, none, none] [] h2 (.inl none, h4) ∧
      ∃ o5 : Nat, fld h4 a0 12 52 = some (.ref o5) ∧
      ∃ (n6 : Nat) (f7 : Nat → Int32), arr h4 o5 = some (n6, f7) ∧ ¬ (a1 < 0 ∨ n6 ≤ (a1).toNatClampNeg) ∧
      r = (.inl (some (.int (f7 (a1).toNatClampNeg))), h4))) :
    zT E (d + 1) m_m_put 0 [some (.ref a0), some (.int a1)] [] h r := by
  refine zT_st (pc' := 2) (L' := [some (.ref a0), some (.int a1)]) (st' := [.int 0, .ref a0]) (h' := h) 2 (fun n => rfl) ?_
  obtain ⟨⟨w, e⟩, hw⟩ := hw
  refine zT_st (pc' := 5) (L' := [some (.ref a0), some (.int a1)]) (st' := []) (h' := (setF h a0 0 (.int 0))) 1 (fun n => put_eq e rfl _ _) ?_
  refine zT_st (pc' := 7) (L' := [some (.ref a0), some (.int a1)]) (st' := [.int a1, .ref a0]) (h' := (setF h a0 0 (.int 0))) 2 (fun n => rfl) ?_
  obtain ⟨hq, hw⟩ := hw
  obtain ⟨x1, h2, hx, hw⟩ := hw
  refine zT_call (pc' := 10) (rest := []) 1 (fun n => rfl) hq hx ?_
  show zT E (d + 1) m_m_put 10 [some (.ref a0), some (.int a1)] [.int x1] h2 r
  by_cases hc : x1 = 0
  · rw [if_pos hc] at hw
    refine zT_st (pc' := 13) (L' := [some (.ref a0), some (.int a1)]) (st' := []) (h' := h2) 1 (fun n => if_pos hc) ?_
    subst hw
    exact zT_ret 2 rfl
  · rw [if_neg hc] at hw
    refine zT_st (pc' := 15) (L' := [some (.ref a0), some (.int a1)]) (st' := []) (h' := h2) 1 (fun n => if_neg hc) ?_
    refine zT_st (pc' := 16) (L' := [some (.ref a0), some (.int a1)]) (st' := [.ref a0]) (h' := h2) 1 (fun n => rfl) ?_
    obtain ⟨hq, hw⟩ := hw
    obtain ⟨h4, hx, hw⟩ := hw
    refine zT_call (pc' := 19) (rest := []) 1 (fun n => rfl) hq hx ?_
    show zT E (d + 1) m_m_put 19 [some (.ref a0), some (.int a1)] [] h4 r
    refine zT_st (pc' := 20) (L' := [some (.ref a0), some (.int a1)]) (st' := [.ref a0]) (h' := h4) 1 (fun n => rfl) ?_
    obtain ⟨o5, e, hw⟩ := hw
    refine zT_st (pc' := 23) (L' := [some (.ref a0), some (.int a1)]) (st' := [.ref o5]) (h' := h4) 1 (fun n => fld_eq (E := E) e _) ?_
    refine zT_st (pc' := 24) (L' := [some (.ref a0), some (.int a1)]) (st' := [.int a1, .ref o5]) (h' := h4) 1 (fun n => rfl) ?_
    obtain ⟨n6, f7, e, hi, hw⟩ := hw
    refine zT_st (pc' := 25) (L' := [some (.ref a0), some (.int a1)]) (st' := [.int (f7 (a1).toNatClampNeg)]) (h' := h4) 1 (fun n => arr_eq (E := E) e hi [] (fun st => zrun zP zCd E n (d + 1) m_m_put 25 [some (.ref a0), some (.int a1)] st h4)) ?_
    subst hw
    exact zT_ret 1 rfl
set_option maxRecDepth 4000 in
theorem s_m_see_0 (E : zX) (d : Nat) (a0 : Nat) (a1 : Int32) (a2 : Int32) (a3 : Int32) (h : zH) (r : zO × zH)
    (hw : (∃ w, fld h a0 12 0 = some w) ∧
    isO (setF h a0 0 (.int 0)) a0 12 = true ∧ ∃ (x1 : Int32) (h2 : zH), zT E d m_m_isBall 0 [some (.ref a0), some (.int a1)] [] (setF h a0 0 (.int 0)) (.inl (some (.int x1)), h2) ∧
    if x1 = 0 then (
      r = (.inl (some (.int 0)), h2))
    else (
      ∃ x3 : Int32, fld h2 a0 12 53 = some (.int x3) ∧
      if x3 = 8 then (
        isO h2 a0 12 = true ∧ ∃ (x4 : Int32) (h5 : zH), zT E d m_m_refuses 0 [some (.ref a0), some (.int 2)] [] h2 (.inl (some (.int x4)), h5) ∧
        r = (.inl (some (.int x4)), h5))
      else (
        ∃ (x6 : Int32) (h7 : zH), zT E d m_m_within 0 [some (.int a2), some (.int 0), some (.int 20)] [] h2 (.inl (some (.int x6)), h7) ∧
        if x6 = 0 then (
          isO h7 a0 12 = true ∧ ∃ (x8 : Int32) (h9 : zH), zT E d m_m_refuses 0 [some (.ref a0), some (.int 2)] [] h7 (.inl (some (.int x8)), h9) ∧
          r = (.inl (some (.int x8)), h9))
        else (
          ∃ o10 : Nat, fld h7 a0 12 54 = some (.ref o10) ∧
          ∃ x11 : Int32, fld h7 a0 12 53 = some (.int x11) ∧
          ∃ (n12 : Nat) (f13 : Nat → Int32), arr h7 o10 = some (n12, f13) ∧ ¬ ((3 * x11) < 0 ∨ n12 ≤ ((3 * x11)).toNatClampNeg) ∧
          ∃ o14 : Nat, fld (setA h7 o10 n12 (upd f13 ((3 * x11)).toNatClampNeg a1)) a0 12 54 = some (.ref o14) ∧
          ∃ x15 : Int32, fld (setA h7 o10 n12 (upd f13 ((3 * x11)).toNatClampNeg a1)) a0 12 53 = some (.int x15) ∧
          ∃ (n16 : Nat) (f17 : Nat → Int32), arr (setA h7 o10 n12 (upd f13 ((3 * x11)).toNatClampNeg a1)) o14 = some (n16, f17) ∧ ¬ (((3 * x15) + 1) < 0 ∨ n16 ≤ (((3 * x15) + 1)).toNatClampNeg) ∧
          ∃ o18 : Nat, fld (setA (setA h7 o10 n12 (upd f13 ((3 * x11)).toNatClampNeg a1)) o14 n16 (upd f17 (((3 * x15) + 1)).toNatClampNeg a2)) a0 12 54 = some (.ref o18) ∧
          ∃ x19 : Int32, fld (setA (setA h7 o10 n12 (upd f13 ((3 * x11)).toNatClampNeg a1)) o14 n16 (upd f17 (((3 * x15) + 1)).toNatClampNeg a2)) a0 12 53 = some (.int x19) ∧
          if a3 = 0 then (
            zT E (d + 1) m_m_see 87 [some (.ref a0), some (.int a1), some (.int a2), some (.int a3)] [.int 0, .int ((3 * x19) + 2), .ref o18] (setA (setA h7 o10 n12 (upd f13 ((3 * x11)).toNatClampNeg a1)) o14 n16 (upd f17 (((3 * x15) + 1)).toNatClampNeg a2)) r)
          else (
            zT E (d + 1) m_m_see 87 [some (.ref a0), some (.int a1), some (.int a2), some (.int a3)] [.int 1, .int ((3 * x19) + 2), .ref o18] (setA (setA h7 o10 n12 (upd f13 ((3 * x11)).toNatClampNeg a1)) o14 n16 (upd f17 (((3 * x15) + 1)).toNatClampNeg a2)) r))))) :
    zT E (d + 1) m_m_see 0 [some (.ref a0), some (.int a1), some (.int a2), some (.int a3)] [] h r := by
  refine zT_st (pc' := 2) (L' := [some (.ref a0), some (.int a1), some (.int a2), some (.int a3)]) (st' := [.int 0, .ref a0]) (h' := h) 2 (fun n => rfl) ?_
  obtain ⟨⟨w, e⟩, hw⟩ := hw
  refine zT_st (pc' := 5) (L' := [some (.ref a0), some (.int a1), some (.int a2), some (.int a3)]) (st' := []) (h' := (setF h a0 0 (.int 0))) 1 (fun n => put_eq e rfl _ _) ?_
  refine zT_st (pc' := 7) (L' := [some (.ref a0), some (.int a1), some (.int a2), some (.int a3)]) (st' := [.int a1, .ref a0]) (h' := (setF h a0 0 (.int 0))) 2 (fun n => rfl) ?_
  obtain ⟨hq, hw⟩ := hw
  obtain ⟨x1, h2, hx, hw⟩ := hw
  refine zT_call (pc' := 10) (rest := []) 1 (fun n => rfl) hq hx ?_
  show zT E (d + 1) m_m_see 10 [some (.ref a0), some (.int a1), some (.int a2), some (.int a3)] [.int x1] h2 r
  by_cases hc : x1 = 0
  · rw [if_pos hc] at hw
    refine zT_st (pc' := 13) (L' := [some (.ref a0), some (.int a1), some (.int a2), some (.int a3)]) (st' := []) (h' := h2) 1 (fun n => if_pos hc) ?_
    subst hw
    exact zT_ret 2 rfl
  · rw [if_neg hc] at hw
    refine zT_st (pc' := 15) (L' := [some (.ref a0), some (.int a1), some (.int a2), some (.int a3)]) (st' := []) (h' := h2) 1 (fun n => if_neg hc) ?_
    refine zT_st (pc' := 16) (L' := [some (.ref a0), some (.int a1), some (.int a2), some (.int a3)]) (st' := [.ref a0]) (h' := h2) 1 (fun n => rfl) ?_
    obtain ⟨x3, e, hw⟩ := hw
    refine zT_st (pc' := 19) (L' := [some (.ref a0), some (.int a1), some (.int a2), some (.int a3)]) (st' := [.int x3]) (h' := h2) 1 (fun n => fld_eq (E := E) e _) ?_
    refine zT_st (pc' := 21) (L' := [some (.ref a0), some (.int a1), some (.int a2), some (.int a3)]) (st' := [.int 8, .int x3]) (h' := h2) 1 (fun n => rfl) ?_
    by_cases hc : x3 = 8
    · rw [if_pos hc] at hw
      refine zT_st (pc' := 34) (L' := [some (.ref a0), some (.int a1), some (.int a2), some (.int a3)]) (st' := []) (h' := h2) 1 (fun n => if_pos hc) ?_
      refine zT_st (pc' := 36) (L' := [some (.ref a0), some (.int a1), some (.int a2), some (.int a3)]) (st' := [.int 2, .ref a0]) (h' := h2) 2 (fun n => rfl) ?_
      obtain ⟨hq, hw⟩ := hw
      obtain ⟨x4, h5, hx, hw⟩ := hw
      refine zT_call (pc' := 39) (rest := []) 1 (fun n => rfl) hq hx ?_
      show zT E (d + 1) m_m_see 39 [some (.ref a0), some (.int a1), some (.int a2), some (.int a3)] [.int x4] h5 r
      subst hw
      exact zT_ret 1 rfl
    · rw [if_neg hc] at hw
      refine zT_st (pc' := 24) (L' := [some (.ref a0), some (.int a1), some (.int a2), some (.int a3)]) (st' := []) (h' := h2) 1 (fun n => if_neg hc) ?_
      refine zT_st (pc' := 28) (L' := [some (.ref a0), some (.int a1), some (.int a2), some (.int a3)]) (st' := [.int 20, .int 0, .int a2]) (h' := h2) 3 (fun n => rfl) ?_
      obtain ⟨x6, h7, hx, hw⟩ := hw
      refine zT_call (pc' := 31) (rest := []) 1 (fun n => rfl) rfl hx ?_
      show zT E (d + 1) m_m_see 31 [some (.ref a0), some (.int a1), some (.int a2), some (.int a3)] [.int x6] h7 r
      by_cases hc : x6 = 0
      · rw [if_pos hc] at hw
        refine zT_st (pc' := 34) (L' := [some (.ref a0), some (.int a1), some (.int a2), some (.int a3)]) (st' := []) (h' := h7) 1 (fun n => if_pos hc) ?_
        refine zT_st (pc' := 36) (L' := [some (.ref a0), some (.int a1), some (.int a2), some (.int a3)]) (st' := [.int 2, .ref a0]) (h' := h7) 2 (fun n => rfl) ?_
        obtain ⟨hq, hw⟩ := hw
        obtain ⟨x8, h9, hx, hw⟩ := hw
        refine zT_call (pc' := 39) (rest := []) 1 (fun n => rfl) hq hx ?_
        show zT E (d + 1) m_m_see 39 [some (.ref a0), some (.int a1), some (.int a2), some (.int a3)] [.int x8] h9 r
        subst hw
        exact zT_ret 1 rfl
      · rw [if_neg hc] at hw
        refine zT_st (pc' := 40) (L' := [some (.ref a0), some (.int a1), some (.int a2), some (.int a3)]) (st' := []) (h' := h7) 1 (fun n => if_neg hc) ?_
        refine zT_st (pc' := 41) (L' := [some (.ref a0), some (.int a1), some (.int a2), some (.int a3)]) (st' := [.ref a0]) (h' := h7) 1 (fun n => rfl) ?_
        obtain ⟨o10, e, hw⟩ := hw
        refine zT_st (pc' := 44) (L' := [some (.ref a0), some (.int a1), some (.int a2), some (.int a3)]) (st' := [.ref o10]) (h' := h7) 1 (fun n => fld_eq (E := E) e _) ?_
        refine zT_st (pc' := 46) (L' := [some (.ref a0), some (.int a1), some (.int a2), some (.int a3)]) (st' := [.ref a0, .int 3, .ref o10]) (h' := h7) 2 (fun n => rfl) ?_
        obtain ⟨x11, e, hw⟩ := hw
        refine zT_st (pc' := 49) (L' := [some (.ref a0), some (.int a1), some (.int a2), some (.int a3)]) (st' := [.int x11, .int 3, .ref o10]) (h' := h7) 1 (fun n => fld_eq (E := E) e _) ?_
        refine zT_st (pc' := 51) (L' := [some (.ref a0), some (.int a1), some (.int a2), some (.int a3)]) (st' := [.int a1, .int (3 * x11), .ref o10]) (h' := h7) 2 (fun n => rfl) ?_
        obtain ⟨n12, f13, e, hi, hw⟩ := hw
        refine zT_st (pc' := 52) (L' := [some (.ref a0), some (.int a1), some (.int a2), some (.int a3)]) (st' := []) (h' := (setA h7 o10 n12 (upd f13 ((3 * x11)).toNatClampNeg a1))) 1 (fun n => set_eq e hi _ _) ?_
        refine zT_st (pc' := 53) (L' := [some (.ref a0), some (.int a1), some (.int a2), some (.int a3)]) (st' := [.ref a0]) (h' := (setA h7 o10 n12 (upd f13 ((3 * x11)).toNatClampNeg a1))) 1 (fun n => rfl) ?_
        obtain ⟨o14, e, hw⟩ := hw
        refine zT_st (pc' := 56) (L' := [some (.ref a0), some (.int a1), some (.int a2), some (.int a3)]) (st' := [.ref o14]) (h' := (setA h7 o10 n12 (upd f13 ((3 * x11)).toNatClampNeg a1))) 1 (fun n => fld_eq (E := E) e _) ?_
        refine zT_st (pc' := 58) (L' := [some (.ref a0), some (.int a1), some (.int a2), some (.int a3)]) (st' := [.ref a0, .int 3, .ref o14]) (h' := (setA h7 o10 n12 (upd f13 ((3 * x11)).toNatClampNeg a1))) 2 (fun n => rfl) ?_
        obtain ⟨x15, e, hw⟩ := hw
        refine zT_st (pc' := 61) (L' := [some (.ref a0), some (.int a1), some (.int a2), some (.int a3)]) (st' := [.int x15, .int 3, .ref o14]) (h' := (setA h7 o10 n12 (upd f13 ((3 * x11)).toNatClampNeg a1))) 1 (fun n => fld_eq (E := E) e _) ?_
        refine zT_st (pc' := 65) (L' := [some (.ref a0), some (.int a1), some (.int a2), some (.int a3)]) (st' := [.int a2, .int ((3 * x15) + 1), .ref o14]) (h' := (setA h7 o10 n12 (upd f13 ((3 * x11)).toNatClampNeg a1))) 4 (fun n => rfl) ?_
        obtain ⟨n16, f17, e, hi, hw⟩ := hw
        refine zT_st (pc' := 66) (L' := [some (.ref a0), some (.int a1), some (.int a2), some (.int a3)]) (st' := []) (h' := (setA (setA h7 o10 n12 (upd f13 ((3 * x11)).toNatClampNeg a1)) o14 n16 (upd f17 (((3 * x15) + 1)).toNatClampNeg a2))) 1 (fun n => set_eq e hi _ _) ?_
        refine zT_st (pc' := 67) (L' := [some (.ref a0), some (.int a1), some (.int a2), some (.int a3)]) (st' := [.ref a0]) (h' := (setA (setA h7 o10 n12 (upd f13 ((3 * x11)).toNatClampNeg a1)) o14 n16 (upd f17 (((3 * x15) + 1)).toNatClampNeg a2))) 1 (fun n => rfl) ?_
        obtain ⟨o18, e, hw⟩ := hw
        refine zT_st (pc' := 70) (L' := [some (.ref a0), some (.int a1), some (.int a2), some (.int a3)]) (st' := [.ref o18]) (h' := (setA (setA h7 o10 n12 (upd f13 ((3 * x11)).toNatClampNeg a1)) o14 n16 (upd f17 (((3 * x15) + 1)).toNatClampNeg a2))) 1 (fun n => fld_eq (E := E) e _) ?_
        refine zT_st (pc' := 72) (L' := [some (.ref a0), some (.int a1), some (.int a2), some (.int a3)]) (st' := [.ref a0, .int 3, .ref o18]) (h' := (setA (setA h7 o10 n12 (upd f13 ((3 * x11)).toNatClampNeg a1)) o14 n16 (upd f17 (((3 * x15) + 1)).toNatClampNeg a2))) 2 (fun n => rfl) ?_
        obtain ⟨x19, e, hw⟩ := hw
        refine zT_st (pc' := 75) (L' := [some (.ref a0), some (.int a1), some (.int a2), some (.int a3)]) (st' := [.int x19, .int 3, .ref o18]) (h' := (setA (setA h7 o10 n12 (upd f13 ((3 * x11)).toNatClampNeg a1)) o14 n16 (upd f17 (((3 * x15) + 1)).toNatClampNeg a2))) 1 (fun n => fld_eq (E := E) e _) ?_
        refine zT_st (pc' := 79) (L' := [some (.ref a0), some (.int a1), some (.int a2), some (.int a3)]) (st' := [.int a3, .int ((3 * x19) + 2), .ref o18]) (h' := (setA (setA h7 o10 n12 (upd f13 ((3 * x11)).toNatClampNeg a1)) o14 n16 (upd f17 (((3 * x15) + 1)).toNatClampNeg a2))) 4 (fun n => rfl) ?_
        by_cases hc : a3 = 0
        · rw [if_pos hc] at hw
          refine zT_st (pc' := 86) (L' := [some (.ref a0), some (.int a1), some (.int a2), some (.int a3)]) (st' := [.int ((3 * x19) + 2), .ref o18]) (h' := (setA (setA h7 o10 n12 (upd f13 ((3 * x11)).toNatClampNeg a1)) o14 n16 (upd f17 (((3 * x15) + 1)).toNatClampNeg a2))) 1 (fun n => if_pos hc) ?_
          exact zT_st 1 (fun n => rfl) hw
        · rw [if_neg hc] at hw
          refine zT_st (pc' := 82) (L' := [some (.ref a0), some (.int a1), some (.int a2), some (.int a3)]) (st' := [.int ((3 * x19) + 2), .ref o18]) (h' := (setA (setA h7 o10 n12 (upd f13 ((3 * x11)).toNatClampNeg a1)) o14 n16 (upd f17 (((3 * x15) + 1)).toNatClampNeg a2))) 1 (fun n => if_neg hc) ?_
          exact zT_st 2 (fun n => rfl) hw
set_option maxRecDepth 4000 in
theorem s_m_see_87 (E : zX) (d : Nat) (a0 : Nat) (j1 : Option Value) (j2 : Option Value) (j3 : Option Value) (s0 : Nat) (s1 : Int32) (s2 : Int32) (h : zH) (r : zO × zH)
    (hw : ∃ (n1 : Nat) (f2 : Nat → Int32), arr h s0 = some (n1, f2) ∧ ¬ (s1 < 0 ∨ n1 ≤ (s1).toNatClampNeg) ∧
    ∃ x3 : Int32, fld (setA h s0 n1 (upd f2 (s1).toNatClampNeg s2)) a0 12 53 = some (.int x3) ∧
    (∃ w, fld (setA h s0 n1 (upd f2 (s1).toNatClampNeg s2)) a0 12 53 = some w) ∧
    ∃ x4 : Int32, fld (setF (setA h s0 n1 (upd f2 (s1).toNatClampNeg s2)) a0 53 (.int (x3 + 1))) a0 12 53 = some (.int x4) ∧
    r = (.inl (some (.int x4)), (setF (setA h s0 n1 (upd f2 (s1).toNatClampNeg s2)) a0 53 (.int (x3 + 1))))) :
    zT E (d + 1) m_m_see 87 [some (.ref a0), j1, j2, j3] [.int s2, .int s1, .ref s0] h r := by
  obtain ⟨n1, f2, e, hi, hw⟩ := hw
  refine zT_st (pc' := 88) (L' := [some (.ref a0), j1, j2, j3]) (st' := []) (h' := (setA h s0 n1 (upd f2 (s1).toNatClampNeg s2))) 1 (fun n => set_eq e hi _ _) ?_
  refine zT_st (pc' := 90) (L' := [some (.ref a0), j1, j2, j3]) (st' := [.ref a0, .ref a0]) (h' := (setA h s0 n1 (upd f2 (s1).toNatClampNeg s2))) 2 (fun n => rfl) ?_
  obtain ⟨x3, e, hw⟩ := hw
  refine zT_st (pc' := 93) (L' := [some (.ref a0), j1, j2, j3]) (st' := [.int x3, .ref a0]) (h' := (setA h s0 n1 (upd f2 (s1).toNatClampNeg s2))) 1 (fun n => fld_eq (E := E) e _) ?_
  refine zT_st (pc' := 95) (L' := [some (.ref a0), j1, j2, j3]) (st' := [.int (x3 + 1), .ref a0]) (h' := (setA h s0 n1 (upd f2 (s1).toNatClampNeg s2))) 2 (fun n => rfl) ?_
  obtain ⟨⟨w, e⟩, hw⟩ := hw
  refine zT_st (pc' := 98) (L' := [some (.ref a0), j1, j2, j3]) (st' := []) (h' := (setF (setA h s0 n1 (upd f2 (s1).toNatClampNeg s2)) a0 53 (.int (x3 + 1)))) 1 (fun n => put_eq e rfl _ _) ?_
  refine zT_st (pc' := 99) (L' := [some (.ref a0), j1, j2, j3]) (st' := [.ref a0]) (h' := (setF (setA h s0 n1 (upd f2 (s1).toNatClampNeg s2)) a0 53 (.int (x3 + 1)))) 1 (fun n => rfl) ?_
  obtain ⟨x4, e, hw⟩ := hw
  refine zT_st (pc' := 102) (L' := [some (.ref a0), j1, j2, j3]) (st' := [.int x4]) (h' := (setF (setA h s0 n1 (upd f2 (s1).toNatClampNeg s2)) a0 53 (.int (x3 + 1)))) 1 (fun n => fld_eq (E := E) e _) ?_
  subst hw
  exact zT_ret 1 rfl
set_option maxRecDepth 4000 in
theorem s_m_milder_0 (E : zX) (d : Nat) (a0 : Nat) (a1 : Int32) (h : zH) (r : zO × zH)
    (hw : (∃ w, fld h a0 12 0 = some w) ∧
    isO (setF h a0 0 (.int 0)) a0 12 = true ∧ ∃ (x1 : Int32) (h2 : zH), zT E d m_m_isWhat 0 [some (.ref a0), some (.int a1), some (.int 2)] [] (setF h a0 0 (.int 0)) (.inl (some (.int x1)), h2) ∧
    if x1 = 0 then (
      r = (.inl (some (.int 0)), h2))
    else (
      if a1 = 2 then (
        isO h2 a0 12 = true ∧ ∃ (h4 : zH), zT E d m_m_tries 0 [some (.ref a0), none] [] h2 (.inl none, h4) ∧
        isO h4 a0 12 = true ∧ ∃ (x5 : Int32) (h6 : zH), zT E d m_m_isSeen 0 [some (.ref a0), none, none] [] h4 (.inl (some (.int x5)), h6) ∧
        if x5 = 0 then (
          r = (.inl (some (.int 0)), h6))
        else (
          r = (.inl (some (.int 1)), h6)))
      else (
        zT E (d + 1) m_m_milder 45 [some (.ref a0), some (.int a1), some (.int 0), some (.int (-1)), some (.int 0)] [] h2 r))) :
    zT E (d + 1) m_m_milder 0 [some (.ref a0), some (.int a1), none, none, none] [] h r := by
  refine zT_st (pc' := 2) (L' := [some (.ref a0), some (.int a1), none, none, none]) (st' := [.int 0, .ref a0]) (h' := h) 2 (fun n => rfl) ?_
  obtain ⟨⟨w, e⟩, hw⟩ := hw
  refine zT_st (pc' := 5) (L' := [some (.ref a0), some (.int a1), none, none, none]) (st' := []) (h' := (setF h a0 0 (.int 0))) 1 (fun n => put_eq e rfl _ _) ?_
  refine zT_st (pc' := 8) (L' := [some (.ref a0), some (.int a1), none, none, none]) (st' := [.int 2, .int a1, .ref a0]) (h' := (setF h a0 0 (.int 0))) 3 (fun n => rfl) ?_
  obtain ⟨hq, hw⟩ := hw
  obtain ⟨x1, h2, hx, hw⟩ := hw
  refine zT_call (pc' := 11) (rest := []) 1 (fun n => rfl) hq hx ?_
  show zT E (d + 1) m_m_milder 11 [some (.ref a0), some (.int a1), none, none, none] [.int x1] h2 r
  by_cases hc : x1 = 0
  · rw [if_pos hc] at hw
    refine zT_st (pc' := 14) (L' := [some (.ref a0), some (.int a1), none, none, none]) (st' := []) (h' := h2) 1 (fun n => if_pos hc) ?_
    subst hw
    exact zT_ret 2 rfl
  · rw [if_neg hc] at hw
    refine zT_st (pc' := 16) (L' := [some (.ref a0), some (.int a1), none, none, none]) (st' := []) (h' := h2) 1 (fun n => if_neg hc) ?_
    refine zT_st (pc' := 18) (L' := [some (.ref a0), some (.int a1), none, none, none]) (st' := [.int 2, .int a1]) (h' := h2) 2 (fun n => rfl) ?_
    by_cases hc : a1 = 2
    · rw [if_pos hc] at hw
      refine zT_st (pc' := 21) (L' := [some (.ref a0), some (.int a1), none, none, none]) (st' := []) (h' := h2) 1 (fun n => if_pos hc) ?_
      refine zT_st (pc' := 22) (L' := [some (.ref a0), some (.int a1), none, none, none]) (st' := [.ref a0]) (h' := h2) 1 (fun n => rfl) ?_
      obtain ⟨hq, hw⟩ := hw
      obtain ⟨h4, hx, hw⟩ := hw
      refine zT_call (pc' := 25) (rest := []) 1 (fun n => rfl) hq hx ?_
      show zT E (d + 1) m_m_milder 25 [some (.ref a0), some (.int a1), none, none, none] [] h4 r
      refine zT_st (pc' := 26) (L' := [some (.ref a0), some (.int a1), none, none, none]) (st' := [.ref a0]) (h' := h4) 1 (fun n => rfl) ?_
      obtain ⟨hq, hw⟩ := hw
      obtain ⟨x5, h6, hx, hw⟩ := hw
      refine zT_call (pc' := 29) (rest := []) 1 (fun n => rfl) hq hx ?_
      show zT E (d + 1) m_m_milder 29 [some (.ref a0), some (.int a1), none, none, none] [.int x5] h6 r
      by_cases hc : x5 = 0
      · rw [if_pos hc] at hw
        refine zT_st (pc' := 36) (L' := [some (.ref a0), some (.int a1), none, none, none]) (st' := []) (h' := h6) 1 (fun n => if_pos hc) ?_
        subst hw
        exact zT_ret 2 rfl
      · rw [if_neg hc] at hw
        refine zT_st (pc' := 32) (L' := [some (.ref a0), some (.int a1), none, none, none]) (st' := []) (h' := h6) 1 (fun n => if_neg hc) ?_
        subst hw
        exact zT_ret 3 rfl
    · rw [if_neg hc] at hw
      refine zT_st (pc' := 38) (L' := [some (.ref a0), some (.int a1), none, none, none]) (st' := []) (h' := h2) 1 (fun n => if_neg hc) ?_
      exact zT_st 6 (fun n => rfl) hw
set_option maxRecDepth 4000 in
theorem s_m_milder_45 (E : zX) (d : Nat) (a0 : Nat) (a1 : Int32) (a2 : Int32) (a3 : Int32) (a4 : Int32) (h : zH) (r : zO × zH)
    (hw : ∃ x1 : Int32, fld h a0 12 3 = some (.int x1) ∧
    if (10 * x1) ≤ a4 then (
      if a1 = 0 then (
        r = (.inl (some (.int a2)), h))
      else (
        r = (.inl (some (.int a3)), h)))
    else (
      isO h a0 12 = true ∧ ∃ (x2 : Int32) (h3 : zH), zT E d m_m_isGuess 0 [some (.ref a0), some (.int a4), none] [] h (.inl (some (.int x2)), h3) ∧
      if x2 = 0 then (
        zT E (d + 1) m_m_milder 45 [some (.ref a0), some (.int a1), some (.int a2), some (.int a3), some (.int (a4 + 1))] [] h3 r)
      else (
        if a3 = (-1) then (
          zT E (d + 1) m_m_milder 45 [some (.ref a0), some (.int a1), some (.int (a2 + 1)), some (.int a4), some (.int (a4 + 1))] [] h3 r)
        else (
          zT E (d + 1) m_m_milder 45 [some (.ref a0), some (.int a1), some (.int (a2 + 1)), some (.int a3), some (.int (a4 + 1))] [] h3 r)))) :
    zT E (d + 1) m_m_milder 45 [some (.ref a0), some (.int a1), some (.int a2), some (.int a3), some (.int a4)] [] h r := by
  refine zT_st (pc' := 50) (L' := [some (.ref a0), some (.int a1), some (.int a2), some (.int a3), some (.int a4)]) (st' := [.ref a0, .int 10, .int a4]) (h' := h) 3 (fun n => rfl) ?_
  obtain ⟨x1, e, hw⟩ := hw
  refine zT_st (pc' := 53) (L' := [some (.ref a0), some (.int a1), some (.int a2), some (.int a3), some (.int a4)]) (st' := [.int x1, .int 10, .int a4]) (h' := h) 1 (fun n => fld_eq (E := E) e _) ?_
  refine zT_st (pc' := 54) (L' := [some (.ref a0), some (.int a1), some (.int a2), some (.int a3), some (.int a4)]) (st' := [.int (10 * x1), .int a4]) (h' := h) 1 (fun n => rfl) ?_
  by_cases hc : (10 * x1) ≤ a4
  · rw [if_pos hc] at hw
    refine zT_st (pc' := 86) (L' := [some (.ref a0), some (.int a1), some (.int a2), some (.int a3), some (.int a4)]) (st' := []) (h' := h) 1 (fun n => if_pos hc) ?_
    refine zT_st (pc' := 87) (L' := [some (.ref a0), some (.int a1), some (.int a2), some (.int a3), some (.int a4)]) (st' := [.int a1]) (h' := h) 1 (fun n => rfl) ?_
    by_cases hc : a1 = 0
    · rw [if_pos hc] at hw
      refine zT_st (pc' := 90) (L' := [some (.ref a0), some (.int a1), some (.int a2), some (.int a3), some (.int a4)]) (st' := []) (h' := h) 1 (fun n => if_pos hc) ?_
      subst hw
      exact zT_ret 3 rfl
    · rw [if_neg hc] at hw
      refine zT_st (pc' := 94) (L' := [some (.ref a0), some (.int a1), some (.int a2), some (.int a3), some (.int a4)]) (st' := []) (h' := h) 1 (fun n => if_neg hc) ?_
      subst hw
      exact zT_ret 2 rfl
  · rw [if_neg hc] at hw
    refine zT_st (pc' := 57) (L' := [some (.ref a0), some (.int a1), some (.int a2), some (.int a3), some (.int a4)]) (st' := []) (h' := h) 1 (fun n => if_neg hc) ?_
    refine zT_st (pc' := 60) (L' := [some (.ref a0), some (.int a1), some (.int a2), some (.int a3), some (.int a4)]) (st' := [.int a4, .ref a0]) (h' := h) 2 (fun n => rfl) ?_
    obtain ⟨hq, hw⟩ := hw
    obtain ⟨x2, h3, hx, hw⟩ := hw
    refine zT_call (pc' := 63) (rest := []) 1 (fun n => rfl) hq hx ?_
    show zT E (d + 1) m_m_milder 63 [some (.ref a0), some (.int a1), some (.int a2), some (.int a3), some (.int a4)] [.int x2] h3 r
    by_cases hc : x2 = 0
    · rw [if_pos hc] at hw
      refine zT_st (pc' := 66) (L' := [some (.ref a0), some (.int a1), some (.int a2), some (.int a3), some (.int a4)]) (st' := []) (h' := h3) 1 (fun n => if_pos hc) ?_
      exact zT_st 3 (fun n => rfl) hw
    · rw [if_neg hc] at hw
      refine zT_st (pc' := 69) (L' := [some (.ref a0), some (.int a1), some (.int a2), some (.int a3), some (.int a4)]) (st' := []) (h' := h3) 1 (fun n => if_neg hc) ?_
      refine zT_st (pc' := 74) (L' := [some (.ref a0), some (.int a1), some (.int (a2 + 1)), some (.int a3), some (.int a4)]) (st' := [.int (-1), .int a3]) (h' := h3) 3 (fun n => rfl) ?_
      by_cases hc : a3 = (-1)
      · rw [if_pos hc] at hw
        refine zT_st (pc' := 77) (L' := [some (.ref a0), some (.int a1), some (.int (a2 + 1)), some (.int a3), some (.int a4)]) (st' := []) (h' := h3) 1 (fun n => if_pos hc) ?_
        exact zT_st 4 (fun n => rfl) hw
      · rw [if_neg hc] at hw
        refine zT_st (pc' := 80) (L' := [some (.ref a0), some (.int a1), some (.int (a2 + 1)), some (.int a3), some (.int a4)]) (st' := []) (h' := h3) 1 (fun n => if_neg hc) ?_
        exact zT_st 2 (fun n => rfl) hw
set_option maxRecDepth 4000 in
theorem s_m_treads_0 (E : zX) (d : Nat) (a0 : Nat) (h : zH) (r : zO × zH)
    (hw : zT E (d + 1) m_m_treads 4 [some (.ref a0), some (.int (-1)), some (.int 0)] [] h r) :
    zT E (d + 1) m_m_treads 0 [some (.ref a0), none, none] [] h r := by
  exact zT_st 4 (fun n => rfl) hw
set_option maxRecDepth 4000 in
theorem s_m_treads_4 (E : zX) (d : Nat) (a0 : Nat) (a1 : Int32) (a2 : Int32) (h : zH) (r : zO × zH)
    (hw : ∃ x1 : Int32, fld h a0 12 4 = some (.int x1) ∧
    if x1 ≤ a2 then (
      if a1 = (-1) then (
        r = (.inl (none), h))
      else (
        isO h a0 12 = true ∧ ∃ (x2 : Int32) (h3 : zH), zT E d m_m_goOff 0 [some (.ref a0), some (.int 79), some (.int (1 <<< (a1 &&& 31))), none, none, none, none] [] h (.inl (some (.int x2)), h3) ∧
        r = (.inl (none), h3)))
    else (
      isO h a0 12 = true ∧ ∃ (x4 : Int32) (h5 : zH), zT E d m_m_mayTread 0 [some (.ref a0), some (.int 79), some (.int a2)] [] h (.inl (some (.int x4)), h5) ∧
      if x4 = 0 then (
        zT E (d + 1) m_m_treads 4 [some (.ref a0), some (.int a1), some (.int (a2 + 1))] [] h5 r)
      else (
        if a1 = (-1) then (
          zT E (d + 1) m_m_treads 4 [some (.ref a0), some (.int a2), some (.int (a2 + 1))] [] h5 r)
        else (
          ∃ o6 : Nat, fld h5 a0 12 40 = some (.ref o6) ∧
          ∃ (n7 : Nat) (f8 : Nat → Int32), arr h5 o6 = some (n7, f8) ∧ ¬ ((118 + a2) < 0 ∨ n7 ≤ ((118 + a2)).toNatClampNeg) ∧
          ∃ o9 : Nat, fld h5 a0 12 40 = some (.ref o9) ∧
          ∃ (n10 : Nat) (f11 : Nat → Int32), arr h5 o9 = some (n10, f11) ∧ ¬ ((118 + a1) < 0 ∨ n10 ≤ ((118 + a1)).toNatClampNeg) ∧
          if (f8 ((118 + a2)).toNatClampNeg) ≤ (f11 ((118 + a1)).toNatClampNeg) then (
            zT E (d + 1) m_m_treads 4 [some (.ref a0), some (.int a1), some (.int (a2 + 1))] [] h5 r)
          else (
            zT E (d + 1) m_m_treads 4 [some (.ref a0), some (.int a2), some (.int (a2 + 1))] [] h5 r))))) :
    zT E (d + 1) m_m_treads 4 [some (.ref a0), some (.int a1), some (.int a2)] [] h r := by
  refine zT_st (pc' := 6) (L' := [some (.ref a0), some (.int a1), some (.int a2)]) (st' := [.ref a0, .int a2]) (h' := h) 2 (fun n => rfl) ?_
  obtain ⟨x1, e, hw⟩ := hw
  refine zT_st (pc' := 9) (L' := [some (.ref a0), some (.int a1), some (.int a2)]) (st' := [.int x1, .int a2]) (h' := h) 1 (fun n => fld_eq (E := E) e _) ?_
  by_cases hc : x1 ≤ a2
  · rw [if_pos hc] at hw
    refine zT_st (pc' := 56) (L' := [some (.ref a0), some (.int a1), some (.int a2)]) (st' := []) (h' := h) 1 (fun n => if_pos hc) ?_
    refine zT_st (pc' := 58) (L' := [some (.ref a0), some (.int a1), some (.int a2)]) (st' := [.int (-1), .int a1]) (h' := h) 2 (fun n => rfl) ?_
    by_cases hc : a1 = (-1)
    · rw [if_pos hc] at hw
      refine zT_st (pc' := 71) (L' := [some (.ref a0), some (.int a1), some (.int a2)]) (st' := []) (h' := h) 1 (fun n => if_pos hc) ?_
      subst hw
      exact zT_ret 1 rfl
    · rw [if_neg hc] at hw
      refine zT_st (pc' := 61) (L' := [some (.ref a0), some (.int a1), some (.int a2)]) (st' := []) (h' := h) 1 (fun n => if_neg hc) ?_
      refine zT_st (pc' := 67) (L' := [some (.ref a0), some (.int a1), some (.int a2)]) (st' := [.int (1 <<< (a1 &&& 31)), .int 79, .ref a0]) (h' := h) 5 (fun n => rfl) ?_
      obtain ⟨hq, hw⟩ := hw
      obtain ⟨x2, h3, hx, hw⟩ := hw
      refine zT_call (pc' := 70) (rest := []) 1 (fun n => rfl) hq hx ?_
      show zT E (d + 1) m_m_treads 70 [some (.ref a0), some (.int a1), some (.int a2)] [.int x2] h3 r
      subst hw
      exact zT_ret 2 rfl
  · rw [if_neg hc] at hw
    refine zT_st (pc' := 12) (L' := [some (.ref a0), some (.int a1), some (.int a2)]) (st' := []) (h' := h) 1 (fun n => if_neg hc) ?_
    refine zT_st (pc' := 16) (L' := [some (.ref a0), some (.int a1), some (.int a2)]) (st' := [.int a2, .int 79, .ref a0]) (h' := h) 3 (fun n => rfl) ?_
    obtain ⟨hq, hw⟩ := hw
    obtain ⟨x4, h5, hx, hw⟩ := hw
    refine zT_call (pc' := 19) (rest := []) 1 (fun n => rfl) hq hx ?_
    show zT E (d + 1) m_m_treads 19 [some (.ref a0), some (.int a1), some (.int a2)] [.int x4] h5 r
    by_cases hc : x4 = 0
    · rw [if_pos hc] at hw
      refine zT_st (pc' := 50) (L' := [some (.ref a0), some (.int a1), some (.int a2)]) (st' := []) (h' := h5) 1 (fun n => if_pos hc) ?_
      exact zT_st 2 (fun n => rfl) hw
    · rw [if_neg hc] at hw
      refine zT_st (pc' := 22) (L' := [some (.ref a0), some (.int a1), some (.int a2)]) (st' := []) (h' := h5) 1 (fun n => if_neg hc) ?_
      refine zT_st (pc' := 24) (L' := [some (.ref a0), some (.int a1), some (.int a2)]) (st' := [.int (-1), .int a1]) (h' := h5) 2 (fun n => rfl) ?_
      by_cases hc : a1 = (-1)
      · rw [if_pos hc] at hw
        refine zT_st (pc' := 48) (L' := [some (.ref a0), some (.int a1), some (.int a2)]) (st' := []) (h' := h5) 1 (fun n => if_pos hc) ?_
        exact zT_st 4 (fun n => rfl) hw
      · rw [if_neg hc] at hw
        refine zT_st (pc' := 27) (L' := [some (.ref a0), some (.int a1), some (.int a2)]) (st' := []) (h' := h5) 1 (fun n => if_neg hc) ?_
        refine zT_st (pc' := 28) (L' := [some (.ref a0), some (.int a1), some (.int a2)]) (st' := [.ref a0]) (h' := h5) 1 (fun n => rfl) ?_
        obtain ⟨o6, e, hw⟩ := hw
        refine zT_st (pc' := 31) (L' := [some (.ref a0), some (.int a1), some (.int a2)]) (st' := [.ref o6]) (h' := h5) 1 (fun n => fld_eq (E := E) e _) ?_
        refine zT_st (pc' := 35) (L' := [some (.ref a0), some (.int a1), some (.int a2)]) (st' := [.int (118 + a2), .ref o6]) (h' := h5) 3 (fun n => rfl) ?_
        obtain ⟨n7, f8, e, hi, hw⟩ := hw
        refine zT_st (pc' := 36) (L' := [some (.ref a0), some (.int a1), some (.int a2)]) (st' := [.int (f8 ((118 + a2)).toNatClampNeg)]) (h' := h5) 1 (fun n => arr_eq (E := E) e hi [] (fun st => zrun zP zCd E n (d + 1) m_m_treads 36 [some (.ref a0), some (.int a1), some (.int a2)] st h5)) ?_
        refine zT_st (pc' := 37) (L' := [some (.ref a0), some (.int a1), some (.int a2)]) (st' := [.ref a0, .int (f8 ((118 + a2)).toNatClampNeg)]) (h' := h5) 1 (fun n => rfl) ?_
        obtain ⟨o9, e, hw⟩ := hw
        refine zT_st (pc' := 40) (L' := [some (.ref a0), some (.int a1), some (.int a2)]) (st' := [.ref o9, .int (f8 ((118 + a2)).toNatClampNeg)]) (h' := h5) 1 (fun n => fld_eq (E := E) e _) ?_
        refine zT_st (pc' := 44) (L' := [some (.ref a0), some (.int a1), some (.int a2)]) (st' := [.int (118 + a1), .ref o9, .int (f8 ((118 + a2)).toNatClampNeg)]) (h' := h5) 3 (fun n => rfl) ?_
        obtain ⟨n10, f11, e, hi, hw⟩ := hw
        refine zT_st (pc' := 45) (L' := [some (.ref a0), some (.int a1), some (.int a2)]) (st' := [.int (f11 ((118 + a1)).toNatClampNeg), .int (f8 ((118 + a2)).toNatClampNeg)]) (h' := h5) 1 (fun n => arr_eq (E := E) e hi [.int (f8 ((118 + a2)).toNatClampNeg)] (fun st => zrun zP zCd E n (d + 1) m_m_treads 45 [some (.ref a0), some (.int a1), some (.int a2)] st h5)) ?_
        by_cases hc : (f8 ((118 + a2)).toNatClampNeg) ≤ (f11 ((118 + a1)).toNatClampNeg)
        · rw [if_pos hc] at hw
          refine zT_st (pc' := 50) (L' := [some (.ref a0), some (.int a1), some (.int a2)]) (st' := []) (h' := h5) 1 (fun n => if_pos hc) ?_
          exact zT_st 2 (fun n => rfl) hw
        · rw [if_neg hc] at hw
          refine zT_st (pc' := 48) (L' := [some (.ref a0), some (.int a1), some (.int a2)]) (st' := []) (h' := h5) 1 (fun n => if_neg hc) ?_
          exact zT_st 4 (fun n => rfl) hw
set_option maxRecDepth 4000 in
theorem s_m_years_0 (E : zX) (d : Nat) (a0 : Nat) (a1 : Int32) (a2 : Int32) (a3 : Int32) (h : zH) (r : zO × zH)
    (hw : (∃ w, fld h a0 12 0 = some w) ∧
    isO (setF h a0 0 (.int 0)) a0 12 = true ∧ ∃ (x1 : Int32) (h2 : zH), zT E d m_m_isWhat 0 [some (.ref a0), some (.int a3), some (.int 2)] [] (setF h a0 0 (.int 0)) (.inl (some (.int x1)), h2) ∧
    if x1 = 0 then (
      r = (.inl (some (.int 0)), h2))
    else (
      isO h2 a0 12 = true ∧ ∃ (x3 : Int32) (h4 : zH), zT E d m_m_isSoon 0 [some (.ref a0), some (.int a2), some (.int 0), some (.int 2)] [] h2 (.inl (some (.int x3)), h4) ∧
      if x3 = 0 then (
        r = (.inl (some (.int 0)), h4))
      else (
        isO h4 a0 12 = true ∧ ∃ (h6 : zH), zT E d m_m_tries 0 [some (.ref a0), none] [] h4 (.inl none, h6) ∧
        (∃ w, fld h6 a0 12 57 = some w) ∧
        zT E (d + 1) m_m_years 41 [some (.ref a0), some (.int a1), some (.int a2), some (.int a3), some (.int 0), some (.int 0)] [] (setF h6 a0 57 (.int a1)) r))) :
    zT E (d + 1) m_m_years 0 [some (.ref a0), some (.int a1), some (.int a2), some (.int a3), none, none] [] h r := by
  refine zT_st (pc' := 2) (L' := [some (.ref a0), some (.int a1), some (.int a2), some (.int a3), none, none]) (st' := [.int 0, .ref a0]) (h' := h) 2 (fun n => rfl) ?_
  obtain ⟨⟨w, e⟩, hw⟩ := hw
  refine zT_st (pc' := 5) (L' := [some (.ref a0), some (.int a1), some (.int a2), some (.int a3), none, none]) (st' := []) (h' := (setF h a0 0 (.int 0))) 1 (fun n => put_eq e rfl _ _) ?_
  refine zT_st (pc' := 8) (L' := [some (.ref a0), some (.int a1), some (.int a2), some (.int a3), none, none]) (st' := [.int 2, .int a3, .ref a0]) (h' := (setF h a0 0 (.int 0))) 3 (fun n => rfl) ?_
  obtain ⟨hq, hw⟩ := hw
  obtain ⟨x1, h2, hx, hw⟩ := hw
  refine zT_call (pc' := 11) (rest := []) 1 (fun n => rfl) hq hx ?_
  show zT E (d + 1) m_m_years 11 [some (.ref a0), some (.int a1), some (.int a2), some (.int a3), none, none] [.int x1] h2 r
  by_cases hc : x1 = 0
  · rw [if_pos hc] at hw
    refine zT_st (pc' := 24) (L' := [some (.ref a0), some (.int a1), some (.int a2), some (.int a3), none, none]) (st' := []) (h' := h2) 1 (fun n => if_pos hc) ?_
    subst hw
    exact zT_ret 2 rfl
  · rw [if_neg hc] at hw
    refine zT_st (pc' := 14) (L' := [some (.ref a0), some (.int a1), some (.int a2), some (.int a3), none, none]) (st' := []) (h' := h2) 1 (fun n => if_neg hc) ?_
    refine zT_st (pc' := 18) (L' := [some (.ref a0), some (.int a1), some (.int a2), some (.int a3), none, none]) (st' := [.int 2, .int 0, .int a2, .ref a0]) (h' := h2) 4 (fun n => rfl) ?_
    obtain ⟨hq, hw⟩ := hw
    obtain ⟨x3, h4, hx, hw⟩ := hw
    refine zT_call (pc' := 21) (rest := []) 1 (fun n => rfl) hq hx ?_
    show zT E (d + 1) m_m_years 21 [some (.ref a0), some (.int a1), some (.int a2), some (.int a3), none, none] [.int x3] h4 r
    by_cases hc : x3 = 0
    · rw [if_pos hc] at hw
      refine zT_st (pc' := 24) (L' := [some (.ref a0), some (.int a1), some (.int a2), some (.int a3), none, none]) (st' := []) (h' := h4) 1 (fun n => if_pos hc) ?_
      subst hw
      exact zT_ret 2 rfl
    · rw [if_neg hc] at hw
      refine zT_st (pc' := 26) (L' := [some (.ref a0), some (.int a1), some (.int a2), some (.int a3), none, none]) (st' := []) (h' := h4) 1 (fun n => if_neg hc) ?_
      refine zT_st (pc' := 27) (L' := [some (.ref a0), some (.int a1), some (.int a2), some (.int a3), none, none]) (st' := [.ref a0]) (h' := h4) 1 (fun n => rfl) ?_
      obtain ⟨hq, hw⟩ := hw
      obtain ⟨h6, hx, hw⟩ := hw
      refine zT_call (pc' := 30) (rest := []) 1 (fun n => rfl) hq hx ?_
      show zT E (d + 1) m_m_years 30 [some (.ref a0), some (.int a1), some (.int a2), some (.int a3), none, none] [] h6 r
      refine zT_st (pc' := 32) (L' := [some (.ref a0), some (.int a1), some (.int a2), some (.int a3), none, none]) (st' := [.int a1, .ref a0]) (h' := h6) 2 (fun n => rfl) ?_
      obtain ⟨⟨w, e⟩, hw⟩ := hw
      refine zT_st (pc' := 35) (L' := [some (.ref a0), some (.int a1), some (.int a2), some (.int a3), none, none]) (st' := []) (h' := (setF h6 a0 57 (.int a1))) 1 (fun n => put_eq e rfl _ _) ?_
      exact zT_st 4 (fun n => rfl) hw
set_option maxRecDepth 4000 in
theorem s_m_years_41 (E : zX) (d : Nat) (a0 : Nat) (j1 : Option Value) (a2 : Int32) (a3 : Int32) (a4 : Int32) (a5 : Int32) (h : zH) (r : zO × zH)
    (hw : if a2 ≤ a5 then (
      if a3 = 0 then (
        r = (.inl (some (.int a4)), h))
      else (
        if a3 = 1 then (
          ∃ x1 : Int32, fld h a0 12 3 = some (.int x1) ∧
          isO h a0 12 = true ∧ ∃ (x2 : Int32) (h3 : zH), zT E d m_m_sumOf 0 [some (.ref a0), some (.int 79), some (.int 8), some (.int x1), none, none] [] h (.inl (some (.int x2)), h3) ∧
          ∃ x4 : Int32, fld h3 a0 12 3 = some (.int x4) ∧
          isO h3 a0 12 = true ∧ ∃ (x5 : Int32) (h6 : zH), zT E d m_m_sumOf 0 [some (.ref a0), some (.int 0), some (.int 8), some (.int x4), none, none] [] h3 (.inl (some (.int x5)), h6) ∧
          r = (.inl (some (.int (x2 - x5))), h6))
        else (
          ∃ x7 : Int32, fld h a0 12 3 = some (.int x7) ∧
          isO h a0 12 = true ∧ ∃ (x8 : Int32) (h9 : zH), zT E d m_m_sumOf 0 [some (.ref a0), some (.int 79), some (.int 1), some (.int x7), none, none] [] h (.inl (some (.int x8)), h9) ∧
          r = (.inl (some (.int x8)), h9))))
    else (
      isO h a0 12 = true ∧ ∃ (h11 : zH), zT E d m_m_begins0 0 [some (.ref a0)] [] h (.inl none, h11) ∧
      isO h11 a0 12 = true ∧ ∃ (h13 : zH), zT E d m_m_happens 0 [some (.ref a0), none, none] [] h11 (.inl none, h13) ∧
      isO h13 a0 12 = true ∧ ∃ (h15 : zH), zT E d m_m_dayGoes 0 [some (.ref a0), some (.int 79), none, none, none] [] h13 (.inl none, h15) ∧
      ∃ x16 : Int32, fld h15 a0 12 46 = some (.int x16) ∧
      zT E (d + 1) m_m_years 41 [some (.ref a0), j1, some (.int a2), some (.int a3), some (.int (a4 + x16)), some (.int (a5 + 1))] [] h15 r)) :
    zT E (d + 1) m_m_years 41 [some (.ref a0), j1, some (.int a2), some (.int a3), some (.int a4), some (.int a5)] [] h r := by
  refine zT_st (pc' := 44) (L' := [some (.ref a0), j1, some (.int a2), some (.int a3), some (.int a4), some (.int a5)]) (st' := [.int a2, .int a5]) (h' := h) 2 (fun n => rfl) ?_
  by_cases hc : a2 ≤ a5
  · rw [if_pos hc] at hw
    refine zT_st (pc' := 76) (L' := [some (.ref a0), j1, some (.int a2), some (.int a3), some (.int a4), some (.int a5)]) (st' := []) (h' := h) 1 (fun n => if_pos hc) ?_
    refine zT_st (pc' := 77) (L' := [some (.ref a0), j1, some (.int a2), some (.int a3), some (.int a4), some (.int a5)]) (st' := [.int a3]) (h' := h) 1 (fun n => rfl) ?_
    by_cases hc : a3 = 0
    · rw [if_pos hc] at hw
      refine zT_st (pc' := 80) (L' := [some (.ref a0), j1, some (.int a2), some (.int a3), some (.int a4), some (.int a5)]) (st' := []) (h' := h) 1 (fun n => if_pos hc) ?_
      subst hw
      exact zT_ret 3 rfl
    · rw [if_neg hc] at hw
      refine zT_st (pc' := 85) (L' := [some (.ref a0), j1, some (.int a2), some (.int a3), some (.int a4), some (.int a5)]) (st' := []) (h' := h) 1 (fun n => if_neg hc) ?_
      refine zT_st (pc' := 87) (L' := [some (.ref a0), j1, some (.int a2), some (.int a3), some (.int a4), some (.int a5)]) (st' := [.int 1, .int a3]) (h' := h) 2 (fun n => rfl) ?_
      by_cases hc : a3 = 1
      · rw [if_pos hc] at hw
        refine zT_st (pc' := 90) (L' := [some (.ref a0), j1, some (.int a2), some (.int a3), some (.int a4), some (.int a5)]) (st' := []) (h' := h) 1 (fun n => if_pos hc) ?_
        refine zT_st (pc' := 96) (L' := [some (.ref a0), j1, some (.int a2), some (.int a3), some (.int a4), some (.int a5)]) (st' := [.ref a0, .int 8, .int 79, .ref a0]) (h' := h) 4 (fun n => rfl) ?_
        obtain ⟨x1, e, hw⟩ := hw
        refine zT_st (pc' := 99) (L' := [some (.ref a0), j1, some (.int a2), some (.int a3), some (.int a4), some (.int a5)]) (st' := [.int x1, .int 8, .int 79, .ref a0]) (h' := h) 1 (fun n => fld_eq (E := E) e _) ?_
        obtain ⟨hq, hw⟩ := hw
        obtain ⟨x2, h3, hx, hw⟩ := hw
        refine zT_call (pc' := 102) (rest := []) 1 (fun n => rfl) hq hx ?_
        show zT E (d + 1) m_m_years 102 [some (.ref a0), j1, some (.int a2), some (.int a3), some (.int a4), some (.int a5)] [.int x2] h3 r
        refine zT_st (pc' := 107) (L' := [some (.ref a0), j1, some (.int a2), some (.int a3), some (.int a4), some (.int a5)]) (st' := [.ref a0, .int 8, .int 0, .ref a0, .int x2]) (h' := h3) 4 (fun n => rfl) ?_
        obtain ⟨x4, e, hw⟩ := hw
        refine zT_st (pc' := 110) (L' := [some (.ref a0), j1, some (.int a2), some (.int a3), some (.int a4), some (.int a5)]) (st' := [.int x4, .int 8, .int 0, .ref a0, .int x2]) (h' := h3) 1 (fun n => fld_eq (E := E) e _) ?_
        obtain ⟨hq, hw⟩ := hw
        obtain ⟨x5, h6, hx, hw⟩ := hw
        refine zT_call (pc' := 113) (rest := [.int x2]) 1 (fun n => rfl) hq hx ?_
        show zT E (d + 1) m_m_years 113 [some (.ref a0), j1, some (.int a2), some (.int a3), some (.int a4), some (.int a5)] [.int x5, .int x2] h6 r
        subst hw
        exact zT_ret 3 rfl
      · rw [if_neg hc] at hw
        refine zT_st (pc' := 117) (L' := [some (.ref a0), j1, some (.int a2), some (.int a3), some (.int a4), some (.int a5)]) (st' := []) (h' := h) 1 (fun n => if_neg hc) ?_
        refine zT_st (pc' := 122) (L' := [some (.ref a0), j1, some (.int a2), some (.int a3), some (.int a4), some (.int a5)]) (st' := [.ref a0, .int 1, .int 79, .ref a0]) (h' := h) 4 (fun n => rfl) ?_
        obtain ⟨x7, e, hw⟩ := hw
        refine zT_st (pc' := 125) (L' := [some (.ref a0), j1, some (.int a2), some (.int a3), some (.int a4), some (.int a5)]) (st' := [.int x7, .int 1, .int 79, .ref a0]) (h' := h) 1 (fun n => fld_eq (E := E) e _) ?_
        obtain ⟨hq, hw⟩ := hw
        obtain ⟨x8, h9, hx, hw⟩ := hw
        refine zT_call (pc' := 128) (rest := []) 1 (fun n => rfl) hq hx ?_
        show zT E (d + 1) m_m_years 128 [some (.ref a0), j1, some (.int a2), some (.int a3), some (.int a4), some (.int a5)] [.int x8] h9 r
        subst hw
        exact zT_ret 1 rfl
  · rw [if_neg hc] at hw
    refine zT_st (pc' := 47) (L' := [some (.ref a0), j1, some (.int a2), some (.int a3), some (.int a4), some (.int a5)]) (st' := []) (h' := h) 1 (fun n => if_neg hc) ?_
    refine zT_st (pc' := 48) (L' := [some (.ref a0), j1, some (.int a2), some (.int a3), some (.int a4), some (.int a5)]) (st' := [.ref a0]) (h' := h) 1 (fun n => rfl) ?_
    obtain ⟨hq, hw⟩ := hw
    obtain ⟨h11, hx, hw⟩ := hw
    refine zT_call (pc' := 51) (rest := []) 1 (fun n => rfl) hq hx ?_
    show zT E (d + 1) m_m_years 51 [some (.ref a0), j1, some (.int a2), some (.int a3), some (.int a4), some (.int a5)] [] h11 r
    refine zT_st (pc' := 52) (L' := [some (.ref a0), j1, some (.int a2), some (.int a3), some (.int a4), some (.int a5)]) (st' := [.ref a0]) (h' := h11) 1 (fun n => rfl) ?_
    obtain ⟨hq, hw⟩ := hw
    obtain ⟨h13, hx, hw⟩ := hw
    refine zT_call (pc' := 55) (rest := []) 1 (fun n => rfl) hq hx ?_
    show zT E (d + 1) m_m_years 55 [some (.ref a0), j1, some (.int a2), some (.int a3), some (.int a4), some (.int a5)] [] h13 r
    refine zT_st (pc' := 58) (L' := [some (.ref a0), j1, some (.int a2), some (.int a3), some (.int a4), some (.int a5)]) (st' := [.int 79, .ref a0]) (h' := h13) 2 (fun n => rfl) ?_
    obtain ⟨hq, hw⟩ := hw
    obtain ⟨h15, hx, hw⟩ := hw
    refine zT_call (pc' := 61) (rest := []) 1 (fun n => rfl) hq hx ?_
    show zT E (d + 1) m_m_years 61 [some (.ref a0), j1, some (.int a2), some (.int a3), some (.int a4), some (.int a5)] [] h15 r
    refine zT_st (pc' := 64) (L' := [some (.ref a0), j1, some (.int a2), some (.int a3), some (.int a4), some (.int a5)]) (st' := [.ref a0, .int a4]) (h' := h15) 2 (fun n => rfl) ?_
    obtain ⟨x16, e, hw⟩ := hw
    refine zT_st (pc' := 67) (L' := [some (.ref a0), j1, some (.int a2), some (.int a3), some (.int a4), some (.int a5)]) (st' := [.int x16, .int a4]) (h' := h15) 1 (fun n => fld_eq (E := E) e _) ?_
    exact zT_st 4 (fun n => rfl) hw
set_option maxRecDepth 4000 in
theorem s_m_restore_0 (E : zX) (d : Nat) (a0 : Nat) (h : zH) (r : zO × zH)
    (hw : (∃ w, fld h a0 12 0 = some w) ∧
    ∃ x1 : Int32, fld (setF h a0 0 (.int 0)) a0 12 58 = some (.int x1) ∧
    if x1 = 0 then (
      r = (.inl (some (.int 0)), (setF h a0 0 (.int 0))))
    else (
      ∃ x2 : Int32, fld (setF h a0 0 (.int 0)) a0 12 59 = some (.int x2) ∧
      (∃ w, fld (setF h a0 0 (.int 0)) a0 12 42 = some w) ∧
      ∃ x3 : Int32, fld (setF (setF h a0 0 (.int 0)) a0 42 (.int x2)) a0 12 60 = some (.int x3) ∧
      (∃ w, fld (setF (setF h a0 0 (.int 0)) a0 42 (.int x2)) a0 12 53 = some w) ∧
      zT E (d + 1) m_m_restore 32 [some (.ref a0), some (.int 0)] [] (setF (setF (setF h a0 0 (.int 0)) a0 42 (.int x2)) a0 53 (.int x3)) r)) :
    zT E (d + 1) m_m_restore 0 [some (.ref a0), none] [] h r := by
  refine zT_st (pc' := 2) (L' := [some (.ref a0), none]) (st' := [.int 0, .ref a0]) (h' := h) 2 (fun n => rfl) ?_
  obtain ⟨⟨w, e⟩, hw⟩ := hw
  refine zT_st (pc' := 5) (L' := [some (.ref a0), none]) (st' := []) (h' := (setF h a0 0 (.int 0))) 1 (fun n => put_eq e rfl _ _) ?_
  refine zT_st (pc' := 6) (L' := [some (.ref a0), none]) (st' := [.ref a0]) (h' := (setF h a0 0 (.int 0))) 1 (fun n => rfl) ?_
  obtain ⟨x1, e, hw⟩ := hw
  refine zT_st (pc' := 9) (L' := [some (.ref a0), none]) (st' := [.int x1]) (h' := (setF h a0 0 (.int 0))) 1 (fun n => fld_eq (E := E) e _) ?_
  by_cases hc : x1 = 0
  · rw [if_pos hc] at hw
    refine zT_st (pc' := 12) (L' := [some (.ref a0), none]) (st' := []) (h' := (setF h a0 0 (.int 0))) 1 (fun n => if_pos hc) ?_
    subst hw
    exact zT_ret 2 rfl
  · rw [if_neg hc] at hw
    refine zT_st (pc' := 14) (L' := [some (.ref a0), none]) (st' := []) (h' := (setF h a0 0 (.int 0))) 1 (fun n => if_neg hc) ?_
    refine zT_st (pc' := 16) (L' := [some (.ref a0), none]) (st' := [.ref a0, .ref a0]) (h' := (setF h a0 0 (.int 0))) 2 (fun n => rfl) ?_
    obtain ⟨x2, e, hw⟩ := hw
    refine zT_st (pc' := 19) (L' := [some (.ref a0), none]) (st' := [.int x2, .ref a0]) (h' := (setF h a0 0 (.int 0))) 1 (fun n => fld_eq (E := E) e _) ?_
    obtain ⟨⟨w, e⟩, hw⟩ := hw
    refine zT_st (pc' := 22) (L' := [some (.ref a0), none]) (st' := []) (h' := (setF (setF h a0 0 (.int 0)) a0 42 (.int x2))) 1 (fun n => put_eq e rfl _ _) ?_
    refine zT_st (pc' := 24) (L' := [some (.ref a0), none]) (st' := [.ref a0, .ref a0]) (h' := (setF (setF h a0 0 (.int 0)) a0 42 (.int x2))) 2 (fun n => rfl) ?_
    obtain ⟨x3, e, hw⟩ := hw
    refine zT_st (pc' := 27) (L' := [some (.ref a0), none]) (st' := [.int x3, .ref a0]) (h' := (setF (setF h a0 0 (.int 0)) a0 42 (.int x2))) 1 (fun n => fld_eq (E := E) e _) ?_
    obtain ⟨⟨w, e⟩, hw⟩ := hw
    refine zT_st (pc' := 30) (L' := [some (.ref a0), none]) (st' := []) (h' := (setF (setF (setF h a0 0 (.int 0)) a0 42 (.int x2)) a0 53 (.int x3))) 1 (fun n => put_eq e rfl _ _) ?_
    exact zT_st 2 (fun n => rfl) hw
set_option maxRecDepth 4000 in
theorem s_m_restore_32 (E : zX) (d : Nat) (a0 : Nat) (a1 : Int32) (h : zH) (r : zO × zH)
    (hw : if 79 ≤ a1 then (
      ∃ o1 : Nat, fld h a0 12 62 = some (.ref o1) ∧
      ∃ o2 : Nat, fld h a0 12 41 = some (.ref o2) ∧
      isO h a0 12 = true ∧ ∃ (h4 : zH), zT E d m_m_copies 0 [some (.ref a0), some (.ref o1), some (.ref o2), none] [] h (.inl none, h4) ∧
      ∃ o5 : Nat, fld h4 a0 12 63 = some (.ref o5) ∧
      ∃ o6 : Nat, fld h4 a0 12 54 = some (.ref o6) ∧
      isO h4 a0 12 = true ∧ ∃ (h8 : zH), zT E d m_m_copies 0 [some (.ref a0), some (.ref o5), some (.ref o6), none] [] h4 (.inl none, h8) ∧
      r = (.inl (some (.int 1)), h8))
    else (
      ∃ o9 : Nat, fld h a0 12 40 = some (.ref o9) ∧
      ∃ o10 : Nat, fld h a0 12 61 = some (.ref o10) ∧
      ∃ (n11 : Nat) (f12 : Nat → Int32), arr h o10 = some (n11, f12) ∧ ¬ (a1 < 0 ∨ n11 ≤ (a1).toNatClampNeg) ∧
      ∃ (n13 : Nat) (f14 : Nat → Int32), arr h o9 = some (n13, f14) ∧ ¬ (a1 < 0 ∨ n13 ≤ (a1).toNatClampNeg) ∧
      zT E (d + 1) m_m_restore 32 [some (.ref a0), some (.int (a1 + 1))] [] (setA h o9 n13 (upd f14 (a1).toNatClampNeg (f12 (a1).toNatClampNeg))) r)) :
    zT E (d + 1) m_m_restore 32 [some (.ref a0), some (.int a1)] [] h r := by
  refine zT_st (pc' := 35) (L' := [some (.ref a0), some (.int a1)]) (st' := [.int 79, .int a1]) (h' := h) 2 (fun n => rfl) ?_
  by_cases hc : 79 ≤ a1
  · rw [if_pos hc] at hw
    refine zT_st (pc' := 56) (L' := [some (.ref a0), some (.int a1)]) (st' := []) (h' := h) 1 (fun n => if_pos hc) ?_
    refine zT_st (pc' := 58) (L' := [some (.ref a0), some (.int a1)]) (st' := [.ref a0, .ref a0]) (h' := h) 2 (fun n => rfl) ?_
    obtain ⟨o1, e, hw⟩ := hw
    refine zT_st (pc' := 61) (L' := [some (.ref a0), some (.int a1)]) (st' := [.ref o1, .ref a0]) (h' := h) 1 (fun n => fld_eq (E := E) e _) ?_
    refine zT_st (pc' := 62) (L' := [some (.ref a0), some (.int a1)]) (st' := [.ref a0, .ref o1, .ref a0]) (h' := h) 1 (fun n => rfl) ?_
    obtain ⟨o2, e, hw⟩ := hw
    refine zT_st (pc' := 65) (L' := [some (.ref a0), some (.int a1)]) (st' := [.ref o2, .ref o1, .ref a0]) (h' := h) 1 (fun n => fld_eq (E := E) e _) ?_
    obtain ⟨hq, hw⟩ := hw
    obtain ⟨h4, hx, hw⟩ := hw
    refine zT_call (pc' := 68) (rest := []) 1 (fun n => rfl) hq hx ?_
    show zT E (d + 1) m_m_restore 68 [some (.ref a0), some (.int a1)] [] h4 r
    refine zT_st (pc' := 70) (L' := [some (.ref a0), some (.int a1)]) (st' := [.ref a0, .ref a0]) (h' := h4) 2 (fun n => rfl) ?_
    obtain ⟨o5, e, hw⟩ := hw
    refine zT_st (pc' := 73) (L' := [some (.ref a0), some (.int a1)]) (st' := [.ref o5, .ref a0]) (h' := h4) 1 (fun n => fld_eq (E := E) e _) ?_
    refine zT_st (pc' := 74) (L' := [some (.ref a0), some (.int a1)]) (st' := [.ref a0, .ref o5, .ref a0]) (h' := h4) 1 (fun n => rfl) ?_
    obtain ⟨o6, e, hw⟩ := hw
    refine zT_st (pc' := 77) (L' := [some (.ref a0), some (.int a1)]) (st' := [.ref o6, .ref o5, .ref a0]) (h' := h4) 1 (fun n => fld_eq (E := E) e _) ?_
    obtain ⟨hq, hw⟩ := hw
    obtain ⟨h8, hx, hw⟩ := hw
    refine zT_call (pc' := 80) (rest := []) 1 (fun n => rfl) hq hx ?_
    show zT E (d + 1) m_m_restore 80 [some (.ref a0), some (.int a1)] [] h8 r
    subst hw
    exact zT_ret 2 rfl
  · rw [if_neg hc] at hw
    refine zT_st (pc' := 38) (L' := [some (.ref a0), some (.int a1)]) (st' := []) (h' := h) 1 (fun n => if_neg hc) ?_
    refine zT_st (pc' := 39) (L' := [some (.ref a0), some (.int a1)]) (st' := [.ref a0]) (h' := h) 1 (fun n => rfl) ?_
    obtain ⟨o9, e, hw⟩ := hw
    refine zT_st (pc' := 42) (L' := [some (.ref a0), some (.int a1)]) (st' := [.ref o9]) (h' := h) 1 (fun n => fld_eq (E := E) e _) ?_
    refine zT_st (pc' := 44) (L' := [some (.ref a0), some (.int a1)]) (st' := [.ref a0, .int a1, .ref o9]) (h' := h) 2 (fun n => rfl) ?_
    obtain ⟨o10, e, hw⟩ := hw
    refine zT_st (pc' := 47) (L' := [some (.ref a0), some (.int a1)]) (st' := [.ref o10, .int a1, .ref o9]) (h' := h) 1 (fun n => fld_eq (E := E) e _) ?_
    refine zT_st (pc' := 48) (L' := [some (.ref a0), some (.int a1)]) (st' := [.int a1, .ref o10, .int a1, .ref o9]) (h' := h) 1 (fun n => rfl) ?_
    obtain ⟨n11, f12, e, hi, hw⟩ := hw
    refine zT_st (pc' := 49) (L' := [some (.ref a0), some (.int a1)]) (st' := [.int (f12 (a1).toNatClampNeg), .int a1, .ref o9]) (h' := h) 1 (fun n => arr_eq (E := E) e hi [.int a1, .ref o9] (fun st => zrun zP zCd E n (d + 1) m_m_restore 49 [some (.ref a0), some (.int a1)] st h)) ?_
    obtain ⟨n13, f14, e, hi, hw⟩ := hw
    refine zT_st (pc' := 50) (L' := [some (.ref a0), some (.int a1)]) (st' := []) (h' := (setA h o9 n13 (upd f14 (a1).toNatClampNeg (f12 (a1).toNatClampNeg)))) 1 (fun n => set_eq e hi _ _) ?_
    exact zT_st 2 (fun n => rfl) hw
