-- s_Chance_init_0: by hand
set_option maxRecDepth 4000 in
theorem s_Chance_whiteByBoys_0 (E : zX) (d : Nat) (a0 : Nat) (a1 : Int32) (a2 : Int32) (a3 : Int32) (h : zH) (r : zO × zH)
    (hw : zT E (d + 1) m_Chance_whiteByBoys 6 [some (.ref a0), some (.int a1), some (.int a2), some (.int a3), some (.int 0), some (.int 0), none, none, none, none] [] h r) :
    zT E (d + 1) m_Chance_whiteByBoys 0 [some (.ref a0), some (.int a1), some (.int a2), some (.int a3), none, none, none, none, none, none] [] h r := by
  exact zT_st 4 (fun n => rfl) hw
set_option maxRecDepth 4000 in
theorem s_Chance_whiteByBoys_6 (E : zX) (d : Nat) (a0 : Nat) (a1 : Int32) (a2 : Int32) (a3 : Int32) (a4 : Int32) (a5 : Int32) (j6 : Option Value) (j7 : Option Value) (j8 : Option Value) (j9 : Option Value) (h : zH) (r : zO × zH)
    (hw : if (1 <<< (a2 &&& 31)) ≤ a5 then (
      r = (.inl (some (.int a4)), h))
    else (
      ∃ o1 : Nat, fld h a0 1 6 = some (.ref o1) ∧
      ∃ o2 : Nat, fld h a0 1 5 = some (.ref o2) ∧
      isO h o1 10 = true ∧ ∃ (h4 : zH), zT E d m_Scene_copyFrom 0 [some (.ref o1), some (.ref o2)] [] h (.inl none, h4) ∧
      zT E (d + 1) m_Chance_whiteByBoys 31 [some (.ref a0), some (.int a1), some (.int a2), some (.int a3), some (.int a4), some (.int a5), some (.int 1), some (.int 0), j8, j9] [] h4 r)) :
    zT E (d + 1) m_Chance_whiteByBoys 6 [some (.ref a0), some (.int a1), some (.int a2), some (.int a3), some (.int a4), some (.int a5), j6, j7, j8, j9] [] h r := by
  refine zT_st (pc' := 11) (L' := [some (.ref a0), some (.int a1), some (.int a2), some (.int a3), some (.int a4), some (.int a5), j6, j7, j8, j9]) (st' := [.int (1 <<< (a2 &&& 31)), .int a5]) (h' := h) 4 (fun n => rfl) ?_
  by_cases hc : (1 <<< (a2 &&& 31)) ≤ a5
  · rw [if_pos hc] at hw
    refine zT_st (pc' := 165) (L' := [some (.ref a0), some (.int a1), some (.int a2), some (.int a3), some (.int a4), some (.int a5), j6, j7, j8, j9]) (st' := []) (h' := h) 1 (fun n => if_pos hc) ?_
    subst hw
    exact zT_ret 2 rfl
  · rw [if_neg hc] at hw
    refine zT_st (pc' := 14) (L' := [some (.ref a0), some (.int a1), some (.int a2), some (.int a3), some (.int a4), some (.int a5), j6, j7, j8, j9]) (st' := []) (h' := h) 1 (fun n => if_neg hc) ?_
    refine zT_st (pc' := 18) (L' := [some (.ref a0), some (.int a1), some (.int a2), some (.int a3), some (.int a4), some (.int a5), some (.int 1), j7, j8, j9]) (st' := [.ref a0]) (h' := h) 3 (fun n => rfl) ?_
    obtain ⟨o1, e, hw⟩ := hw
    refine zT_st (pc' := 21) (L' := [some (.ref a0), some (.int a1), some (.int a2), some (.int a3), some (.int a4), some (.int a5), some (.int 1), j7, j8, j9]) (st' := [.ref o1]) (h' := h) 1 (fun n => fld_eq (E := E) e _) ?_
    refine zT_st (pc' := 22) (L' := [some (.ref a0), some (.int a1), some (.int a2), some (.int a3), some (.int a4), some (.int a5), some (.int 1), j7, j8, j9]) (st' := [.ref a0, .ref o1]) (h' := h) 1 (fun n => rfl) ?_
    obtain ⟨o2, e, hw⟩ := hw
    refine zT_st (pc' := 25) (L' := [some (.ref a0), some (.int a1), some (.int a2), some (.int a3), some (.int a4), some (.int a5), some (.int 1), j7, j8, j9]) (st' := [.ref o2, .ref o1]) (h' := h) 1 (fun n => fld_eq (E := E) e _) ?_
    obtain ⟨hq, hw⟩ := hw
    obtain ⟨h4, hx, hw⟩ := hw
    refine zT_call (pc' := 28) (rest := []) 1 (fun n => rfl) hq hx ?_
    show zT E (d + 1) m_Chance_whiteByBoys 28 [some (.ref a0), some (.int a1), some (.int a2), some (.int a3), some (.int a4), some (.int a5), some (.int 1), j7, j8, j9] [] h4 r
    exact zT_st 2 (fun n => rfl) hw
set_option maxRecDepth 4000 in
theorem s_Chance_whiteByBoys_31 (E : zX) (d : Nat) (a0 : Nat) (a1 : Int32) (a2 : Int32) (a3 : Int32) (a4 : Int32) (a5 : Int32) (a6 : Int32) (a7 : Int32) (j8 : Option Value) (j9 : Option Value) (h : zH) (r : zO × zH)
    (hw : if a2 ≤ a7 then (
      zT E (d + 1) m_Chance_whiteByBoys 141 [some (.ref a0), some (.int a1), some (.int a2), some (.int a3), some (.int a4), some (.int a5), some (.int a6), some (.int a7), j8, j9] [] h r)
    else (
      if a6 ≤ 0 then (
        zT E (d + 1) m_Chance_whiteByBoys 141 [some (.ref a0), some (.int a1), some (.int a2), some (.int a3), some (.int a4), some (.int a5), some (.int a6), some (.int a7), j8, j9] [] h r)
      else (
        if (a5 &&& (1 <<< (a7 &&& 31))) = 0 then (
          zT E (d + 1) m_Chance_whiteByBoys 74 [some (.ref a0), some (.int a1), some (.int a2), some (.int a3), some (.int a4), some (.int a5), some (.int a6), some (.int a7), some (.int 0), j9] [.int (10 - a3), .int a6] h r)
        else (
          zT E (d + 1) m_Chance_whiteByBoys 74 [some (.ref a0), some (.int a1), some (.int a2), some (.int a3), some (.int a4), some (.int a5), some (.int a6), some (.int a7), some (.int 1), j9] [.int a3, .int a6] h r)))) :
    zT E (d + 1) m_Chance_whiteByBoys 31 [some (.ref a0), some (.int a1), some (.int a2), some (.int a3), some (.int a4), some (.int a5), some (.int a6), some (.int a7), j8, j9] [] h r := by
  refine zT_st (pc' := 34) (L' := [some (.ref a0), some (.int a1), some (.int a2), some (.int a3), some (.int a4), some (.int a5), some (.int a6), some (.int a7), j8, j9]) (st' := [.int a2, .int a7]) (h' := h) 2 (fun n => rfl) ?_
  by_cases hc : a2 ≤ a7
  · rw [if_pos hc] at hw
    refine zT_st (pc' := 141) (L' := [some (.ref a0), some (.int a1), some (.int a2), some (.int a3), some (.int a4), some (.int a5), some (.int a6), some (.int a7), j8, j9]) (st' := []) (h' := h) 1 (fun n => if_pos hc) ?_
    exact hw
  · rw [if_neg hc] at hw
    refine zT_st (pc' := 37) (L' := [some (.ref a0), some (.int a1), some (.int a2), some (.int a3), some (.int a4), some (.int a5), some (.int a6), some (.int a7), j8, j9]) (st' := []) (h' := h) 1 (fun n => if_neg hc) ?_
    refine zT_st (pc' := 39) (L' := [some (.ref a0), some (.int a1), some (.int a2), some (.int a3), some (.int a4), some (.int a5), some (.int a6), some (.int a7), j8, j9]) (st' := [.int a6]) (h' := h) 1 (fun n => rfl) ?_
    by_cases hc : a6 ≤ 0
    · rw [if_pos hc] at hw
      refine zT_st (pc' := 141) (L' := [some (.ref a0), some (.int a1), some (.int a2), some (.int a3), some (.int a4), some (.int a5), some (.int a6), some (.int a7), j8, j9]) (st' := []) (h' := h) 1 (fun n => if_pos hc) ?_
      exact hw
    · rw [if_neg hc] at hw
      refine zT_st (pc' := 42) (L' := [some (.ref a0), some (.int a1), some (.int a2), some (.int a3), some (.int a4), some (.int a5), some (.int a6), some (.int a7), j8, j9]) (st' := []) (h' := h) 1 (fun n => if_neg hc) ?_
      refine zT_st (pc' := 49) (L' := [some (.ref a0), some (.int a1), some (.int a2), some (.int a3), some (.int a4), some (.int a5), some (.int a6), some (.int a7), j8, j9]) (st' := [.int (a5 &&& (1 <<< (a7 &&& 31)))]) (h' := h) 5 (fun n => rfl) ?_
      by_cases hc : (a5 &&& (1 <<< (a7 &&& 31))) = 0
      · rw [if_pos hc] at hw
        refine zT_st (pc' := 56) (L' := [some (.ref a0), some (.int a1), some (.int a2), some (.int a3), some (.int a4), some (.int a5), some (.int a6), some (.int a7), j8, j9]) (st' := []) (h' := h) 1 (fun n => if_pos hc) ?_
        refine zT_st (pc' := 63) (L' := [some (.ref a0), some (.int a1), some (.int a2), some (.int a3), some (.int a4), some (.int a5), some (.int a6), some (.int a7), some (.int 0), j9]) (st' := [.int 0, .int a6]) (h' := h) 4 (fun n => rfl) ?_
        refine zT_st (pc' := 70) (L' := [some (.ref a0), some (.int a1), some (.int a2), some (.int a3), some (.int a4), some (.int a5), some (.int a6), some (.int a7), some (.int 0), j9]) (st' := [.int a6]) (h' := h) 1 (fun n => rfl) ?_
        exact zT_st 3 (fun n => rfl) hw
      · rw [if_neg hc] at hw
        refine zT_st (pc' := 52) (L' := [some (.ref a0), some (.int a1), some (.int a2), some (.int a3), some (.int a4), some (.int a5), some (.int a6), some (.int a7), j8, j9]) (st' := []) (h' := h) 1 (fun n => if_neg hc) ?_
        refine zT_st (pc' := 63) (L' := [some (.ref a0), some (.int a1), some (.int a2), some (.int a3), some (.int a4), some (.int a5), some (.int a6), some (.int a7), some (.int 1), j9]) (st' := [.int 1, .int a6]) (h' := h) 5 (fun n => rfl) ?_
        refine zT_st (pc' := 66) (L' := [some (.ref a0), some (.int a1), some (.int a2), some (.int a3), some (.int a4), some (.int a5), some (.int a6), some (.int a7), some (.int 1), j9]) (st' := [.int a6]) (h' := h) 1 (fun n => rfl) ?_
        exact zT_st 2 (fun n => rfl) hw
set_option maxRecDepth 4000 in
theorem s_Chance_whiteByBoys_74 (E : zX) (d : Nat) (a0 : Nat) (a1 : Int32) (a2 : Int32) (a3 : Int32) (a4 : Int32) (a5 : Int32) (j6 : Option Value) (a7 : Int32) (a8 : Int32) (j9 : Option Value) (s0 : Int32) (s1 : Int32) (h : zH) (r : zO × zH)
    (hw : ∃ o1 : Nat, fld h a0 1 3 = some (.ref o1) ∧
    ∃ o2 : Nat, fld h a0 1 6 = some (.ref o2) ∧
    ∃ o3 : Nat, fld h a0 1 6 = some (.ref o3) ∧
    isO h o3 10 = true ∧ ∃ (x4 : Int32) (h5 : zH), zT E d m_Scene_guards 0 [some (.ref o3)] [] h (.inl (some (.int x4)), h5) ∧
    isO h5 o1 2 = true ∧ ∃ (x6 : Int32) (h7 : zH), zT E d m_Downs_fullest 0 [some (.ref o1), some (.ref o2), some (.int x4), none, none] [] h5 (.inl (some (.int x6)), h7) ∧
    if a8 = 0 then (
      ∃ o8 : Nat, fld h7 a0 1 3 = some (.ref o8) ∧
      ∃ o9 : Nat, fld h7 a0 1 6 = some (.ref o9) ∧
      isO h7 o8 2 = true ∧ ∃ (h11 : zH), zT E d m_Downs_passDay 0 [some (.ref o8), some (.ref o9), none] [] h7 (.inl none, h11) ∧
      zT E (d + 1) m_Chance_whiteByBoys 31 [some (.ref a0), some (.int a1), some (.int a2), some (.int a3), some (.int a4), some (.int a5), some (.int (s0 * s1)), some (.int (a7 + 1)), some (.int a8), some (.int x6)] [] h11 r)
    else (
      if x6 = (-1) then (
        ∃ o12 : Nat, fld h7 a0 1 3 = some (.ref o12) ∧
        ∃ o13 : Nat, fld h7 a0 1 6 = some (.ref o13) ∧
        isO h7 o12 2 = true ∧ ∃ (h15 : zH), zT E d m_Downs_passDay 0 [some (.ref o12), some (.ref o13), none] [] h7 (.inl none, h15) ∧
        zT E (d + 1) m_Chance_whiteByBoys 31 [some (.ref a0), some (.int a1), some (.int a2), some (.int a3), some (.int a4), some (.int a5), some (.int (s0 * s1)), some (.int (a7 + 1)), some (.int a8), some (.int x6)] [] h15 r)
      else (
        ∃ o16 : Nat, fld h7 a0 1 3 = some (.ref o16) ∧
        ∃ o17 : Nat, fld h7 a0 1 6 = some (.ref o17) ∧
        isO h7 o16 2 = true ∧ ∃ (x18 : Int32) (h19 : zH), zT E d m_Downs_burst 0 [some (.ref o16), some (.ref o17), some (.int (1 <<< (x6 &&& 31))), none, none] [] h7 (.inl (some (.int x18)), h19) ∧
        ∃ o20 : Nat, fld h19 a0 1 3 = some (.ref o20) ∧
        ∃ o21 : Nat, fld h19 a0 1 6 = some (.ref o21) ∧
        isO h19 o20 2 = true ∧ ∃ (h23 : zH), zT E d m_Downs_passDay 0 [some (.ref o20), some (.ref o21), none] [] h19 (.inl none, h23) ∧
        zT E (d + 1) m_Chance_whiteByBoys 31 [some (.ref a0), some (.int a1), some (.int a2), some (.int a3), some (.int a4), some (.int a5), some (.int (s0 * s1)), some (.int (a7 + 1)), some (.int a8), some (.int x6)] [] h23 r))) :
    zT E (d + 1) m_Chance_whiteByBoys 74 [some (.ref a0), some (.int a1), some (.int a2), some (.int a3), some (.int a4), some (.int a5), j6, some (.int a7), some (.int a8), j9] [.int s1, .int s0] h r := by
  refine zT_st (pc' := 78) (L' := [some (.ref a0), some (.int a1), some (.int a2), some (.int a3), some (.int a4), some (.int a5), some (.int (s0 * s1)), some (.int a7), some (.int a8), j9]) (st' := [.ref a0]) (h' := h) 3 (fun n => rfl) ?_
  obtain ⟨o1, e, hw⟩ := hw
  refine zT_st (pc' := 81) (L' := [some (.ref a0), some (.int a1), some (.int a2), some (.int a3), some (.int a4), some (.int a5), some (.int (s0 * s1)), some (.int a7), some (.int a8), j9]) (st' := [.ref o1]) (h' := h) 1 (fun n => fld_eq (E := E) e _) ?_
  refine zT_st (pc' := 82) (L' := [some (.ref a0), some (.int a1), some (.int a2), some (.int a3), some (.int a4), some (.int a5), some (.int (s0 * s1)), some (.int a7), some (.int a8), j9]) (st' := [.ref a0, .ref o1]) (h' := h) 1 (fun n => rfl) ?_
  obtain ⟨o2, e, hw⟩ := hw
  refine zT_st (pc' := 85) (L' := [some (.ref a0), some (.int a1), some (.int a2), some (.int a3), some (.int a4), some (.int a5), some (.int (s0 * s1)), some (.int a7), some (.int a8), j9]) (st' := [.ref o2, .ref o1]) (h' := h) 1 (fun n => fld_eq (E := E) e _) ?_
  refine zT_st (pc' := 86) (L' := [some (.ref a0), some (.int a1), some (.int a2), some (.int a3), some (.int a4), some (.int a5), some (.int (s0 * s1)), some (.int a7), some (.int a8), j9]) (st' := [.ref a0, .ref o2, .ref o1]) (h' := h) 1 (fun n => rfl) ?_
  obtain ⟨o3, e, hw⟩ := hw
  refine zT_st (pc' := 89) (L' := [some (.ref a0), some (.int a1), some (.int a2), some (.int a3), some (.int a4), some (.int a5), some (.int (s0 * s1)), some (.int a7), some (.int a8), j9]) (st' := [.ref o3, .ref o2, .ref o1]) (h' := h) 1 (fun n => fld_eq (E := E) e _) ?_
  obtain ⟨hq, hw⟩ := hw
  obtain ⟨x4, h5, hx, hw⟩ := hw
  refine zT_call (pc' := 92) (rest := [.ref o2, .ref o1]) 1 (fun n => rfl) hq hx ?_
  show zT E (d + 1) m_Chance_whiteByBoys 92 [some (.ref a0), some (.int a1), some (.int a2), some (.int a3), some (.int a4), some (.int a5), some (.int (s0 * s1)), some (.int a7), some (.int a8), j9] [.int x4, .ref o2, .ref o1] h5 r
  obtain ⟨hq, hw⟩ := hw
  obtain ⟨x6, h7, hx, hw⟩ := hw
  refine zT_call (pc' := 95) (rest := []) 1 (fun n => rfl) hq hx ?_
  show zT E (d + 1) m_Chance_whiteByBoys 95 [some (.ref a0), some (.int a1), some (.int a2), some (.int a3), some (.int a4), some (.int a5), some (.int (s0 * s1)), some (.int a7), some (.int a8), j9] [.int x6] h7 r
  refine zT_st (pc' := 99) (L' := [some (.ref a0), some (.int a1), some (.int a2), some (.int a3), some (.int a4), some (.int a5), some (.int (s0 * s1)), some (.int a7), some (.int a8), some (.int x6)]) (st' := [.int a8]) (h' := h7) 2 (fun n => rfl) ?_
  by_cases hc : a8 = 0
  · rw [if_pos hc] at hw
    refine zT_st (pc' := 124) (L' := [some (.ref a0), some (.int a1), some (.int a2), some (.int a3), some (.int a4), some (.int a5), some (.int (s0 * s1)), some (.int a7), some (.int a8), some (.int x6)]) (st' := []) (h' := h7) 1 (fun n => if_pos hc) ?_
    refine zT_st (pc' := 125) (L' := [some (.ref a0), some (.int a1), some (.int a2), some (.int a3), some (.int a4), some (.int a5), some (.int (s0 * s1)), some (.int a7), some (.int a8), some (.int x6)]) (st' := [.ref a0]) (h' := h7) 1 (fun n => rfl) ?_
    obtain ⟨o8, e, hw⟩ := hw
    refine zT_st (pc' := 128) (L' := [some (.ref a0), some (.int a1), some (.int a2), some (.int a3), some (.int a4), some (.int a5), some (.int (s0 * s1)), some (.int a7), some (.int a8), some (.int x6)]) (st' := [.ref o8]) (h' := h7) 1 (fun n => fld_eq (E := E) e _) ?_
    refine zT_st (pc' := 129) (L' := [some (.ref a0), some (.int a1), some (.int a2), some (.int a3), some (.int a4), some (.int a5), some (.int (s0 * s1)), some (.int a7), some (.int a8), some (.int x6)]) (st' := [.ref a0, .ref o8]) (h' := h7) 1 (fun n => rfl) ?_
    obtain ⟨o9, e, hw⟩ := hw
    refine zT_st (pc' := 132) (L' := [some (.ref a0), some (.int a1), some (.int a2), some (.int a3), some (.int a4), some (.int a5), some (.int (s0 * s1)), some (.int a7), some (.int a8), some (.int x6)]) (st' := [.ref o9, .ref o8]) (h' := h7) 1 (fun n => fld_eq (E := E) e _) ?_
    obtain ⟨hq, hw⟩ := hw
    obtain ⟨h11, hx, hw⟩ := hw
    refine zT_call (pc' := 135) (rest := []) 1 (fun n => rfl) hq hx ?_
    show zT E (d + 1) m_Chance_whiteByBoys 135 [some (.ref a0), some (.int a1), some (.int a2), some (.int a3), some (.int a4), some (.int a5), some (.int (s0 * s1)), some (.int a7), some (.int a8), some (.int x6)] [] h11 r
    exact zT_st 2 (fun n => rfl) hw
  · rw [if_neg hc] at hw
    refine zT_st (pc' := 102) (L' := [some (.ref a0), some (.int a1), some (.int a2), some (.int a3), some (.int a4), some (.int a5), some (.int (s0 * s1)), some (.int a7), some (.int a8), some (.int x6)]) (st' := []) (h' := h7) 1 (fun n => if_neg hc) ?_
    refine zT_st (pc' := 105) (L' := [some (.ref a0), some (.int a1), some (.int a2), some (.int a3), some (.int a4), some (.int a5), some (.int (s0 * s1)), some (.int a7), some (.int a8), some (.int x6)]) (st' := [.int (-1), .int x6]) (h' := h7) 2 (fun n => rfl) ?_
    by_cases hc : x6 = (-1)
    · rw [if_pos hc] at hw
      refine zT_st (pc' := 124) (L' := [some (.ref a0), some (.int a1), some (.int a2), some (.int a3), some (.int a4), some (.int a5), some (.int (s0 * s1)), some (.int a7), some (.int a8), some (.int x6)]) (st' := []) (h' := h7) 1 (fun n => if_pos hc) ?_
      refine zT_st (pc' := 125) (L' := [some (.ref a0), some (.int a1), some (.int a2), some (.int a3), some (.int a4), some (.int a5), some (.int (s0 * s1)), some (.int a7), some (.int a8), some (.int x6)]) (st' := [.ref a0]) (h' := h7) 1 (fun n => rfl) ?_
      obtain ⟨o12, e, hw⟩ := hw
      refine zT_st (pc' := 128) (L' := [some (.ref a0), some (.int a1), some (.int a2), some (.int a3), some (.int a4), some (.int a5), some (.int (s0 * s1)), some (.int a7), some (.int a8), some (.int x6)]) (st' := [.ref o12]) (h' := h7) 1 (fun n => fld_eq (E := E) e _) ?_
      refine zT_st (pc' := 129) (L' := [some (.ref a0), some (.int a1), some (.int a2), some (.int a3), some (.int a4), some (.int a5), some (.int (s0 * s1)), some (.int a7), some (.int a8), some (.int x6)]) (st' := [.ref a0, .ref o12]) (h' := h7) 1 (fun n => rfl) ?_
      obtain ⟨o13, e, hw⟩ := hw
      refine zT_st (pc' := 132) (L' := [some (.ref a0), some (.int a1), some (.int a2), some (.int a3), some (.int a4), some (.int a5), some (.int (s0 * s1)), some (.int a7), some (.int a8), some (.int x6)]) (st' := [.ref o13, .ref o12]) (h' := h7) 1 (fun n => fld_eq (E := E) e _) ?_
      obtain ⟨hq, hw⟩ := hw
      obtain ⟨h15, hx, hw⟩ := hw
      refine zT_call (pc' := 135) (rest := []) 1 (fun n => rfl) hq hx ?_
      show zT E (d + 1) m_Chance_whiteByBoys 135 [some (.ref a0), some (.int a1), some (.int a2), some (.int a3), some (.int a4), some (.int a5), some (.int (s0 * s1)), some (.int a7), some (.int a8), some (.int x6)] [] h15 r
      exact zT_st 2 (fun n => rfl) hw
    · rw [if_neg hc] at hw
      refine zT_st (pc' := 108) (L' := [some (.ref a0), some (.int a1), some (.int a2), some (.int a3), some (.int a4), some (.int a5), some (.int (s0 * s1)), some (.int a7), some (.int a8), some (.int x6)]) (st' := []) (h' := h7) 1 (fun n => if_neg hc) ?_
      refine zT_st (pc' := 109) (L' := [some (.ref a0), some (.int a1), some (.int a2), some (.int a3), some (.int a4), some (.int a5), some (.int (s0 * s1)), some (.int a7), some (.int a8), some (.int x6)]) (st' := [.ref a0]) (h' := h7) 1 (fun n => rfl) ?_
      obtain ⟨o16, e, hw⟩ := hw
      refine zT_st (pc' := 112) (L' := [some (.ref a0), some (.int a1), some (.int a2), some (.int a3), some (.int a4), some (.int a5), some (.int (s0 * s1)), some (.int a7), some (.int a8), some (.int x6)]) (st' := [.ref o16]) (h' := h7) 1 (fun n => fld_eq (E := E) e _) ?_
      refine zT_st (pc' := 113) (L' := [some (.ref a0), some (.int a1), some (.int a2), some (.int a3), some (.int a4), some (.int a5), some (.int (s0 * s1)), some (.int a7), some (.int a8), some (.int x6)]) (st' := [.ref a0, .ref o16]) (h' := h7) 1 (fun n => rfl) ?_
      obtain ⟨o17, e, hw⟩ := hw
      refine zT_st (pc' := 116) (L' := [some (.ref a0), some (.int a1), some (.int a2), some (.int a3), some (.int a4), some (.int a5), some (.int (s0 * s1)), some (.int a7), some (.int a8), some (.int x6)]) (st' := [.ref o17, .ref o16]) (h' := h7) 1 (fun n => fld_eq (E := E) e _) ?_
      refine zT_st (pc' := 120) (L' := [some (.ref a0), some (.int a1), some (.int a2), some (.int a3), some (.int a4), some (.int a5), some (.int (s0 * s1)), some (.int a7), some (.int a8), some (.int x6)]) (st' := [.int (1 <<< (x6 &&& 31)), .ref o17, .ref o16]) (h' := h7) 3 (fun n => rfl) ?_
      obtain ⟨hq, hw⟩ := hw
      obtain ⟨x18, h19, hx, hw⟩ := hw
      refine zT_call (pc' := 123) (rest := []) 1 (fun n => rfl) hq hx ?_
      show zT E (d + 1) m_Chance_whiteByBoys 123 [some (.ref a0), some (.int a1), some (.int a2), some (.int a3), some (.int a4), some (.int a5), some (.int (s0 * s1)), some (.int a7), some (.int a8), some (.int x6)] [.int x18] h19 r
      refine zT_st (pc' := 125) (L' := [some (.ref a0), some (.int a1), some (.int a2), some (.int a3), some (.int a4), some (.int a5), some (.int (s0 * s1)), some (.int a7), some (.int a8), some (.int x6)]) (st' := [.ref a0]) (h' := h19) 2 (fun n => rfl) ?_
      obtain ⟨o20, e, hw⟩ := hw
      refine zT_st (pc' := 128) (L' := [some (.ref a0), some (.int a1), some (.int a2), some (.int a3), some (.int a4), some (.int a5), some (.int (s0 * s1)), some (.int a7), some (.int a8), some (.int x6)]) (st' := [.ref o20]) (h' := h19) 1 (fun n => fld_eq (E := E) e _) ?_
      refine zT_st (pc' := 129) (L' := [some (.ref a0), some (.int a1), some (.int a2), some (.int a3), some (.int a4), some (.int a5), some (.int (s0 * s1)), some (.int a7), some (.int a8), some (.int x6)]) (st' := [.ref a0, .ref o20]) (h' := h19) 1 (fun n => rfl) ?_
      obtain ⟨o21, e, hw⟩ := hw
      refine zT_st (pc' := 132) (L' := [some (.ref a0), some (.int a1), some (.int a2), some (.int a3), some (.int a4), some (.int a5), some (.int (s0 * s1)), some (.int a7), some (.int a8), some (.int x6)]) (st' := [.ref o21, .ref o20]) (h' := h19) 1 (fun n => fld_eq (E := E) e _) ?_
      obtain ⟨hq, hw⟩ := hw
      obtain ⟨h23, hx, hw⟩ := hw
      refine zT_call (pc' := 135) (rest := []) 1 (fun n => rfl) hq hx ?_
      show zT E (d + 1) m_Chance_whiteByBoys 135 [some (.ref a0), some (.int a1), some (.int a2), some (.int a3), some (.int a4), some (.int a5), some (.int (s0 * s1)), some (.int a7), some (.int a8), some (.int x6)] [] h23 r
      exact zT_st 2 (fun n => rfl) hw
set_option maxRecDepth 4000 in
theorem s_Chance_whiteByBoys_141 (E : zX) (d : Nat) (a0 : Nat) (a1 : Int32) (a2 : Int32) (a3 : Int32) (a4 : Int32) (a5 : Int32) (a6 : Int32) (j7 : Option Value) (j8 : Option Value) (j9 : Option Value) (h : zH) (r : zO × zH)
    (hw : ∃ o1 : Nat, fld h a0 1 6 = some (.ref o1) ∧
    isO h o1 10 = true ∧ ∃ (x2 : Int32) (h3 : zH), zT E d m_Scene_isWhite 0 [some (.ref o1), some (.int a1)] [] h (.inl (some (.int x2)), h3) ∧
    if x2 = 0 then (
      zT E (d + 1) m_Chance_whiteByBoys 6 [some (.ref a0), some (.int a1), some (.int a2), some (.int a3), some (.int a4), some (.int (a5 + 1)), some (.int a6), j7, j8, j9] [] h3 r)
    else (
      zT E (d + 1) m_Chance_whiteByBoys 6 [some (.ref a0), some (.int a1), some (.int a2), some (.int a3), some (.int (a4 + a6)), some (.int (a5 + 1)), some (.int a6), j7, j8, j9] [] h3 r)) :
    zT E (d + 1) m_Chance_whiteByBoys 141 [some (.ref a0), some (.int a1), some (.int a2), some (.int a3), some (.int a4), some (.int a5), some (.int a6), j7, j8, j9] [] h r := by
  refine zT_st (pc' := 142) (L' := [some (.ref a0), some (.int a1), some (.int a2), some (.int a3), some (.int a4), some (.int a5), some (.int a6), j7, j8, j9]) (st' := [.ref a0]) (h' := h) 1 (fun n => rfl) ?_
  obtain ⟨o1, e, hw⟩ := hw
  refine zT_st (pc' := 145) (L' := [some (.ref a0), some (.int a1), some (.int a2), some (.int a3), some (.int a4), some (.int a5), some (.int a6), j7, j8, j9]) (st' := [.ref o1]) (h' := h) 1 (fun n => fld_eq (E := E) e _) ?_
  refine zT_st (pc' := 146) (L' := [some (.ref a0), some (.int a1), some (.int a2), some (.int a3), some (.int a4), some (.int a5), some (.int a6), j7, j8, j9]) (st' := [.int a1, .ref o1]) (h' := h) 1 (fun n => rfl) ?_
  obtain ⟨hq, hw⟩ := hw
  obtain ⟨x2, h3, hx, hw⟩ := hw
  refine zT_call (pc' := 149) (rest := []) 1 (fun n => rfl) hq hx ?_
  show zT E (d + 1) m_Chance_whiteByBoys 149 [some (.ref a0), some (.int a1), some (.int a2), some (.int a3), some (.int a4), some (.int a5), some (.int a6), j7, j8, j9] [.int x2] h3 r
  by_cases hc : x2 = 0
  · rw [if_pos hc] at hw
    refine zT_st (pc' := 159) (L' := [some (.ref a0), some (.int a1), some (.int a2), some (.int a3), some (.int a4), some (.int a5), some (.int a6), j7, j8, j9]) (st' := []) (h' := h3) 1 (fun n => if_pos hc) ?_
    exact zT_st 2 (fun n => rfl) hw
  · rw [if_neg hc] at hw
    refine zT_st (pc' := 152) (L' := [some (.ref a0), some (.int a1), some (.int a2), some (.int a3), some (.int a4), some (.int a5), some (.int a6), j7, j8, j9]) (st' := []) (h' := h3) 1 (fun n => if_neg hc) ?_
    exact zT_st 6 (fun n => rfl) hw
set_option maxRecDepth 4000 in
theorem s_Chance_play_0 (E : zX) (d : Nat) (a0 : Nat) (a1 : Int32) (a2 : Int32) (h : zH) (r : zO × zH)
    (hw : zT E (d + 1) m_Chance_play 2 [some (.ref a0), some (.int a1), some (.int a2), some (.int 0), none, none, none] [] h r) :
    zT E (d + 1) m_Chance_play 0 [some (.ref a0), some (.int a1), some (.int a2), none, none, none, none] [] h r := by
  exact zT_st 2 (fun n => rfl) hw
set_option maxRecDepth 4000 in
theorem s_Chance_play_2 (E : zX) (d : Nat) (a0 : Nat) (a1 : Int32) (a2 : Int32) (a3 : Int32) (j4 : Option Value) (j5 : Option Value) (j6 : Option Value) (h : zH) (r : zO × zH)
    (hw : if 4 ≤ a3 then (
      r = (.inl (none), h))
    else (
      ∃ o1 : Nat, fld h a0 1 6 = some (.ref o1) ∧
      ∃ o2 : Nat, fld h a0 1 5 = some (.ref o2) ∧
      isO h o1 10 = true ∧ ∃ (h4 : zH), zT E d m_Scene_copyFrom 0 [some (.ref o1), some (.ref o2)] [] h (.inl none, h4) ∧
      if a2 ≤ a1 then (
        isO h4 a0 1 = true ∧ ∃ (h6 : zH), zT E d m_Chance_choose 0 [some (.ref a0), some (.int a2), some (.int (a3 &&& 1))] [] h4 (.inl none, h6) ∧
        isO h6 a0 1 = true ∧ ∃ (h8 : zH), zT E d m_Chance_choose 0 [some (.ref a0), some (.int a1), some (.int (a3 >>> (1 &&& 31)))] [] h6 (.inl none, h8) ∧
        zT E (d + 1) m_Chance_play 67 [some (.ref a0), some (.int a1), some (.int a2), some (.int a3), some (.int (a3 >>> (1 &&& 31))), some (.int (a3 &&& 1)), some (.int 0)] [] h8 r)
      else (
        isO h4 a0 1 = true ∧ ∃ (h10 : zH), zT E d m_Chance_choose 0 [some (.ref a0), some (.int a1), some (.int (a3 >>> (1 &&& 31)))] [] h4 (.inl none, h10) ∧
        isO h10 a0 1 = true ∧ ∃ (h12 : zH), zT E d m_Chance_choose 0 [some (.ref a0), some (.int a2), some (.int (a3 &&& 1))] [] h10 (.inl none, h12) ∧
        zT E (d + 1) m_Chance_play 67 [some (.ref a0), some (.int a1), some (.int a2), some (.int a3), some (.int (a3 >>> (1 &&& 31))), some (.int (a3 &&& 1)), some (.int 0)] [] h12 r))) :
    zT E (d + 1) m_Chance_play 2 [some (.ref a0), some (.int a1), some (.int a2), some (.int a3), j4, j5, j6] [] h r := by
  refine zT_st (pc' := 4) (L' := [some (.ref a0), some (.int a1), some (.int a2), some (.int a3), j4, j5, j6]) (st' := [.int 4, .int a3]) (h' := h) 2 (fun n => rfl) ?_
  by_cases hc : 4 ≤ a3
  · rw [if_pos hc] at hw
    refine zT_st (pc' := 129) (L' := [some (.ref a0), some (.int a1), some (.int a2), some (.int a3), j4, j5, j6]) (st' := []) (h' := h) 1 (fun n => if_pos hc) ?_
    subst hw
    exact zT_ret 1 rfl
  · rw [if_neg hc] at hw
    refine zT_st (pc' := 7) (L' := [some (.ref a0), some (.int a1), some (.int a2), some (.int a3), j4, j5, j6]) (st' := []) (h' := h) 1 (fun n => if_neg hc) ?_
    refine zT_st (pc' := 18) (L' := [some (.ref a0), some (.int a1), some (.int a2), some (.int a3), some (.int (a3 >>> (1 &&& 31))), some (.int (a3 &&& 1)), j6]) (st' := [.ref a0]) (h' := h) 9 (fun n => rfl) ?_
    obtain ⟨o1, e, hw⟩ := hw
    refine zT_st (pc' := 21) (L' := [some (.ref a0), some (.int a1), some (.int a2), some (.int a3), some (.int (a3 >>> (1 &&& 31))), some (.int (a3 &&& 1)), j6]) (st' := [.ref o1]) (h' := h) 1 (fun n => fld_eq (E := E) e _) ?_
    refine zT_st (pc' := 22) (L' := [some (.ref a0), some (.int a1), some (.int a2), some (.int a3), some (.int (a3 >>> (1 &&& 31))), some (.int (a3 &&& 1)), j6]) (st' := [.ref a0, .ref o1]) (h' := h) 1 (fun n => rfl) ?_
    obtain ⟨o2, e, hw⟩ := hw
    refine zT_st (pc' := 25) (L' := [some (.ref a0), some (.int a1), some (.int a2), some (.int a3), some (.int (a3 >>> (1 &&& 31))), some (.int (a3 &&& 1)), j6]) (st' := [.ref o2, .ref o1]) (h' := h) 1 (fun n => fld_eq (E := E) e _) ?_
    obtain ⟨hq, hw⟩ := hw
    obtain ⟨h4, hx, hw⟩ := hw
    refine zT_call (pc' := 28) (rest := []) 1 (fun n => rfl) hq hx ?_
    show zT E (d + 1) m_Chance_play 28 [some (.ref a0), some (.int a1), some (.int a2), some (.int a3), some (.int (a3 >>> (1 &&& 31))), some (.int (a3 &&& 1)), j6] [] h4 r
    refine zT_st (pc' := 30) (L' := [some (.ref a0), some (.int a1), some (.int a2), some (.int a3), some (.int (a3 >>> (1 &&& 31))), some (.int (a3 &&& 1)), j6]) (st' := [.int a2, .int a1]) (h' := h4) 2 (fun n => rfl) ?_
    by_cases hc : a2 ≤ a1
    · rw [if_pos hc] at hw
      refine zT_st (pc' := 50) (L' := [some (.ref a0), some (.int a1), some (.int a2), some (.int a3), some (.int (a3 >>> (1 &&& 31))), some (.int (a3 &&& 1)), j6]) (st' := []) (h' := h4) 1 (fun n => if_pos hc) ?_
      refine zT_st (pc' := 54) (L' := [some (.ref a0), some (.int a1), some (.int a2), some (.int a3), some (.int (a3 >>> (1 &&& 31))), some (.int (a3 &&& 1)), j6]) (st' := [.int (a3 &&& 1), .int a2, .ref a0]) (h' := h4) 3 (fun n => rfl) ?_
      obtain ⟨hq, hw⟩ := hw
      obtain ⟨h6, hx, hw⟩ := hw
      refine zT_call (pc' := 57) (rest := []) 1 (fun n => rfl) hq hx ?_
      show zT E (d + 1) m_Chance_play 57 [some (.ref a0), some (.int a1), some (.int a2), some (.int a3), some (.int (a3 >>> (1 &&& 31))), some (.int (a3 &&& 1)), j6] [] h6 r
      refine zT_st (pc' := 61) (L' := [some (.ref a0), some (.int a1), some (.int a2), some (.int a3), some (.int (a3 >>> (1 &&& 31))), some (.int (a3 &&& 1)), j6]) (st' := [.int (a3 >>> (1 &&& 31)), .int a1, .ref a0]) (h' := h6) 3 (fun n => rfl) ?_
      obtain ⟨hq, hw⟩ := hw
      obtain ⟨h8, hx, hw⟩ := hw
      refine zT_call (pc' := 64) (rest := []) 1 (fun n => rfl) hq hx ?_
      show zT E (d + 1) m_Chance_play 64 [some (.ref a0), some (.int a1), some (.int a2), some (.int a3), some (.int (a3 >>> (1 &&& 31))), some (.int (a3 &&& 1)), j6] [] h8 r
      exact zT_st 2 (fun n => rfl) hw
    · rw [if_neg hc] at hw
      refine zT_st (pc' := 33) (L' := [some (.ref a0), some (.int a1), some (.int a2), some (.int a3), some (.int (a3 >>> (1 &&& 31))), some (.int (a3 &&& 1)), j6]) (st' := []) (h' := h4) 1 (fun n => if_neg hc) ?_
      refine zT_st (pc' := 37) (L' := [some (.ref a0), some (.int a1), some (.int a2), some (.int a3), some (.int (a3 >>> (1 &&& 31))), some (.int (a3 &&& 1)), j6]) (st' := [.int (a3 >>> (1 &&& 31)), .int a1, .ref a0]) (h' := h4) 3 (fun n => rfl) ?_
      obtain ⟨hq, hw⟩ := hw
      obtain ⟨h10, hx, hw⟩ := hw
      refine zT_call (pc' := 40) (rest := []) 1 (fun n => rfl) hq hx ?_
      show zT E (d + 1) m_Chance_play 40 [some (.ref a0), some (.int a1), some (.int a2), some (.int a3), some (.int (a3 >>> (1 &&& 31))), some (.int (a3 &&& 1)), j6] [] h10 r
      refine zT_st (pc' := 44) (L' := [some (.ref a0), some (.int a1), some (.int a2), some (.int a3), some (.int (a3 >>> (1 &&& 31))), some (.int (a3 &&& 1)), j6]) (st' := [.int (a3 &&& 1), .int a2, .ref a0]) (h' := h10) 3 (fun n => rfl) ?_
      obtain ⟨hq, hw⟩ := hw
      obtain ⟨h12, hx, hw⟩ := hw
      refine zT_call (pc' := 47) (rest := []) 1 (fun n => rfl) hq hx ?_
      show zT E (d + 1) m_Chance_play 47 [some (.ref a0), some (.int a1), some (.int a2), some (.int a3), some (.int (a3 >>> (1 &&& 31))), some (.int (a3 &&& 1)), j6] [] h12 r
      exact zT_st 3 (fun n => rfl) hw
set_option maxRecDepth 4000 in
theorem s_Chance_play_67 (E : zX) (d : Nat) (a0 : Nat) (a1 : Int32) (a2 : Int32) (a3 : Int32) (a4 : Int32) (a5 : Int32) (a6 : Int32) (h : zH) (r : zO × zH)
    (hw : if 10 ≤ a6 then (
      ∃ o1 : Nat, fld h a0 1 7 = some (.ref o1) ∧
      isO h a0 1 = true ∧ ∃ (x2 : Int32) (h3 : zH), zT E d m_Chance_lossOf 0 [some (.ref a0), some (.int a1)] [] h (.inl (some (.int x2)), h3) ∧
      ∃ (n4 : Nat) (f5 : Nat → Int32), arr h3 o1 = some (n4, f5) ∧ ¬ (a3 < 0 ∨ n4 ≤ (a3).toNatClampNeg) ∧
      ∃ o6 : Nat, fld (setA h3 o1 n4 (upd f5 (a3).toNatClampNeg (x2 + (2 * a4)))) a0 1 8 = some (.ref o6) ∧
      isO (setA h3 o1 n4 (upd f5 (a3).toNatClampNeg (x2 + (2 * a4)))) a0 1 = true ∧ ∃ (x7 : Int32) (h8 : zH), zT E d m_Chance_lossOf 0 [some (.ref a0), some (.int a2)] [] (setA h3 o1 n4 (upd f5 (a3).toNatClampNeg (x2 + (2 * a4)))) (.inl (some (.int x7)), h8) ∧
      ∃ (n9 : Nat) (f10 : Nat → Int32), arr h8 o6 = some (n9, f10) ∧ ¬ (a3 < 0 ∨ n9 ≤ (a3).toNatClampNeg) ∧
      zT E (d + 1) m_Chance_play 2 [some (.ref a0), some (.int a1), some (.int a2), some (.int (a3 + 1)), some (.int a4), some (.int a5), some (.int a6)] [] (setA h8 o6 n9 (upd f10 (a3).toNatClampNeg (x7 + (2 * a5)))) r)
    else (
      ∃ o11 : Nat, fld h a0 1 3 = some (.ref o11) ∧
      ∃ o12 : Nat, fld h a0 1 6 = some (.ref o12) ∧
      isO h o11 2 = true ∧ ∃ (h14 : zH), zT E d m_Downs_passDay 0 [some (.ref o11), some (.ref o12), none] [] h (.inl none, h14) ∧
      zT E (d + 1) m_Chance_play 67 [some (.ref a0), some (.int a1), some (.int a2), some (.int a3), some (.int a4), some (.int a5), some (.int (a6 + 1))] [] h14 r)) :
    zT E (d + 1) m_Chance_play 67 [some (.ref a0), some (.int a1), some (.int a2), some (.int a3), some (.int a4), some (.int a5), some (.int a6)] [] h r := by
  refine zT_st (pc' := 71) (L' := [some (.ref a0), some (.int a1), some (.int a2), some (.int a3), some (.int a4), some (.int a5), some (.int a6)]) (st' := [.int 10, .int a6]) (h' := h) 2 (fun n => rfl) ?_
  by_cases hc : 10 ≤ a6
  · rw [if_pos hc] at hw
    refine zT_st (pc' := 91) (L' := [some (.ref a0), some (.int a1), some (.int a2), some (.int a3), some (.int a4), some (.int a5), some (.int a6)]) (st' := []) (h' := h) 1 (fun n => if_pos hc) ?_
    refine zT_st (pc' := 92) (L' := [some (.ref a0), some (.int a1), some (.int a2), some (.int a3), some (.int a4), some (.int a5), some (.int a6)]) (st' := [.ref a0]) (h' := h) 1 (fun n => rfl) ?_
    obtain ⟨o1, e, hw⟩ := hw
    refine zT_st (pc' := 95) (L' := [some (.ref a0), some (.int a1), some (.int a2), some (.int a3), some (.int a4), some (.int a5), some (.int a6)]) (st' := [.ref o1]) (h' := h) 1 (fun n => fld_eq (E := E) e _) ?_
    refine zT_st (pc' := 98) (L' := [some (.ref a0), some (.int a1), some (.int a2), some (.int a3), some (.int a4), some (.int a5), some (.int a6)]) (st' := [.int a1, .ref a0, .int a3, .ref o1]) (h' := h) 3 (fun n => rfl) ?_
    obtain ⟨hq, hw⟩ := hw
    obtain ⟨x2, h3, hx, hw⟩ := hw
    refine zT_call (pc' := 101) (rest := [.int a3, .ref o1]) 1 (fun n => rfl) hq hx ?_
    show zT E (d + 1) m_Chance_play 101 [some (.ref a0), some (.int a1), some (.int a2), some (.int a3), some (.int a4), some (.int a5), some (.int a6)] [.int x2, .int a3, .ref o1] h3 r
    refine zT_st (pc' := 106) (L' := [some (.ref a0), some (.int a1), some (.int a2), some (.int a3), some (.int a4), some (.int a5), some (.int a6)]) (st' := [.int (x2 + (2 * a4)), .int a3, .ref o1]) (h' := h3) 4 (fun n => rfl) ?_
    obtain ⟨n4, f5, e, hi, hw⟩ := hw
    refine zT_st (pc' := 107) (L' := [some (.ref a0), some (.int a1), some (.int a2), some (.int a3), some (.int a4), some (.int a5), some (.int a6)]) (st' := []) (h' := (setA h3 o1 n4 (upd f5 (a3).toNatClampNeg (x2 + (2 * a4))))) 1 (fun n => set_eq e hi _ _) ?_
    refine zT_st (pc' := 108) (L' := [some (.ref a0), some (.int a1), some (.int a2), some (.int a3), some (.int a4), some (.int a5), some (.int a6)]) (st' := [.ref a0]) (h' := (setA h3 o1 n4 (upd f5 (a3).toNatClampNeg (x2 + (2 * a4))))) 1 (fun n => rfl) ?_
    obtain ⟨o6, e, hw⟩ := hw
    refine zT_st (pc' := 111) (L' := [some (.ref a0), some (.int a1), some (.int a2), some (.int a3), some (.int a4), some (.int a5), some (.int a6)]) (st' := [.ref o6]) (h' := (setA h3 o1 n4 (upd f5 (a3).toNatClampNeg (x2 + (2 * a4))))) 1 (fun n => fld_eq (E := E) e _) ?_
    refine zT_st (pc' := 114) (L' := [some (.ref a0), some (.int a1), some (.int a2), some (.int a3), some (.int a4), some (.int a5), some (.int a6)]) (st' := [.int a2, .ref a0, .int a3, .ref o6]) (h' := (setA h3 o1 n4 (upd f5 (a3).toNatClampNeg (x2 + (2 * a4))))) 3 (fun n => rfl) ?_
    obtain ⟨hq, hw⟩ := hw
    obtain ⟨x7, h8, hx, hw⟩ := hw
    refine zT_call (pc' := 117) (rest := [.int a3, .ref o6]) 1 (fun n => rfl) hq hx ?_
    show zT E (d + 1) m_Chance_play 117 [some (.ref a0), some (.int a1), some (.int a2), some (.int a3), some (.int a4), some (.int a5), some (.int a6)] [.int x7, .int a3, .ref o6] h8 r
    refine zT_st (pc' := 122) (L' := [some (.ref a0), some (.int a1), some (.int a2), some (.int a3), some (.int a4), some (.int a5), some (.int a6)]) (st' := [.int (x7 + (2 * a5)), .int a3, .ref o6]) (h' := h8) 4 (fun n => rfl) ?_
    obtain ⟨n9, f10, e, hi, hw⟩ := hw
    refine zT_st (pc' := 123) (L' := [some (.ref a0), some (.int a1), some (.int a2), some (.int a3), some (.int a4), some (.int a5), some (.int a6)]) (st' := []) (h' := (setA h8 o6 n9 (upd f10 (a3).toNatClampNeg (x7 + (2 * a5))))) 1 (fun n => set_eq e hi _ _) ?_
    exact zT_st 2 (fun n => rfl) hw
  · rw [if_neg hc] at hw
    refine zT_st (pc' := 74) (L' := [some (.ref a0), some (.int a1), some (.int a2), some (.int a3), some (.int a4), some (.int a5), some (.int a6)]) (st' := []) (h' := h) 1 (fun n => if_neg hc) ?_
    refine zT_st (pc' := 75) (L' := [some (.ref a0), some (.int a1), some (.int a2), some (.int a3), some (.int a4), some (.int a5), some (.int a6)]) (st' := [.ref a0]) (h' := h) 1 (fun n => rfl) ?_
    obtain ⟨o11, e, hw⟩ := hw
    refine zT_st (pc' := 78) (L' := [some (.ref a0), some (.int a1), some (.int a2), some (.int a3), some (.int a4), some (.int a5), some (.int a6)]) (st' := [.ref o11]) (h' := h) 1 (fun n => fld_eq (E := E) e _) ?_
    refine zT_st (pc' := 79) (L' := [some (.ref a0), some (.int a1), some (.int a2), some (.int a3), some (.int a4), some (.int a5), some (.int a6)]) (st' := [.ref a0, .ref o11]) (h' := h) 1 (fun n => rfl) ?_
    obtain ⟨o12, e, hw⟩ := hw
    refine zT_st (pc' := 82) (L' := [some (.ref a0), some (.int a1), some (.int a2), some (.int a3), some (.int a4), some (.int a5), some (.int a6)]) (st' := [.ref o12, .ref o11]) (h' := h) 1 (fun n => fld_eq (E := E) e _) ?_
    obtain ⟨hq, hw⟩ := hw
    obtain ⟨h14, hx, hw⟩ := hw
    refine zT_call (pc' := 85) (rest := []) 1 (fun n => rfl) hq hx ?_
    show zT E (d + 1) m_Chance_play 85 [some (.ref a0), some (.int a1), some (.int a2), some (.int a3), some (.int a4), some (.int a5), some (.int a6)] [] h14 r
    exact zT_st 2 (fun n => rfl) hw
set_option maxRecDepth 4000 in
theorem s_Chance_choose_0 (E : zX) (d : Nat) (a0 : Nat) (a1 : Int32) (a2 : Int32) (h : zH) (r : zO × zH)
    (hw : if a2 = 1 then (
      ∃ o1 : Nat, fld h a0 1 3 = some (.ref o1) ∧
      ∃ o2 : Nat, fld h a0 1 6 = some (.ref o2) ∧
      isO h o1 2 = true ∧ ∃ (x3 : Int32) (h4 : zH), zT E d m_Downs_goOut 0 [some (.ref o1), some (.ref o2), some (.int a1), none] [] h (.inl (some (.int x3)), h4) ∧
      r = (.inl (none), h4))
    else (
      r = (.inl (none), h))) :
    zT E (d + 1) m_Chance_choose 0 [some (.ref a0), some (.int a1), some (.int a2)] [] h r := by
  refine zT_st (pc' := 2) (L' := [some (.ref a0), some (.int a1), some (.int a2)]) (st' := [.int 1, .int a2]) (h' := h) 2 (fun n => rfl) ?_
  by_cases hc : a2 = 1
  · rw [if_pos hc] at hw
    refine zT_st (pc' := 5) (L' := [some (.ref a0), some (.int a1), some (.int a2)]) (st' := []) (h' := h) 1 (fun n => if_pos hc) ?_
    refine zT_st (pc' := 6) (L' := [some (.ref a0), some (.int a1), some (.int a2)]) (st' := [.ref a0]) (h' := h) 1 (fun n => rfl) ?_
    obtain ⟨o1, e, hw⟩ := hw
    refine zT_st (pc' := 9) (L' := [some (.ref a0), some (.int a1), some (.int a2)]) (st' := [.ref o1]) (h' := h) 1 (fun n => fld_eq (E := E) e _) ?_
    refine zT_st (pc' := 10) (L' := [some (.ref a0), some (.int a1), some (.int a2)]) (st' := [.ref a0, .ref o1]) (h' := h) 1 (fun n => rfl) ?_
    obtain ⟨o2, e, hw⟩ := hw
    refine zT_st (pc' := 13) (L' := [some (.ref a0), some (.int a1), some (.int a2)]) (st' := [.ref o2, .ref o1]) (h' := h) 1 (fun n => fld_eq (E := E) e _) ?_
    refine zT_st (pc' := 14) (L' := [some (.ref a0), some (.int a1), some (.int a2)]) (st' := [.int a1, .ref o2, .ref o1]) (h' := h) 1 (fun n => rfl) ?_
    obtain ⟨hq, hw⟩ := hw
    obtain ⟨x3, h4, hx, hw⟩ := hw
    refine zT_call (pc' := 17) (rest := []) 1 (fun n => rfl) hq hx ?_
    show zT E (d + 1) m_Chance_choose 17 [some (.ref a0), some (.int a1), some (.int a2)] [.int x3] h4 r
    subst hw
    exact zT_ret 2 rfl
  · rw [if_neg hc] at hw
    refine zT_st (pc' := 18) (L' := [some (.ref a0), some (.int a1), some (.int a2)]) (st' := []) (h' := h) 1 (fun n => if_neg hc) ?_
    subst hw
    exact zT_ret 1 rfl
set_option maxRecDepth 4000 in
theorem s_Chance_lossOf_0 (E : zX) (d : Nat) (a0 : Nat) (a1 : Int32) (h : zH) (r : zO × zH)
    (hw : ∃ o1 : Nat, fld h a0 1 6 = some (.ref o1) ∧
    isO h o1 10 = true ∧ ∃ (x2 : Int32) (h3 : zH), zT E d m_Scene_shoutedBy 0 [some (.ref o1), some (.int a1)] [] h (.inl (some (.int x2)), h3) ∧
    ∃ o4 : Nat, fld h3 a0 1 5 = some (.ref o4) ∧
    isO h3 o4 10 = true ∧ ∃ (x5 : Int32) (h6 : zH), zT E d m_Scene_shoutedBy 0 [some (.ref o4), some (.int a1)] [] h3 (.inl (some (.int x5)), h6) ∧
    ∃ o7 : Nat, fld h6 a0 1 6 = some (.ref o7) ∧
    isO h6 o7 10 = true ∧ ∃ (x8 : Int32) (h9 : zH), zT E d m_Scene_heardBy 0 [some (.ref o7), some (.int a1)] [] h6 (.inl (some (.int x8)), h9) ∧
    ∃ o10 : Nat, fld h9 a0 1 5 = some (.ref o10) ∧
    isO h9 o10 10 = true ∧ ∃ (x11 : Int32) (h12 : zH), zT E d m_Scene_heardBy 0 [some (.ref o10), some (.int a1)] [] h9 (.inl (some (.int x11)), h12) ∧
    r = (.inl (some (.int (((4 * (x2 - x5)) + x8) - x11))), h12)) :
    zT E (d + 1) m_Chance_lossOf 0 [some (.ref a0), some (.int a1)] [] h r := by
  refine zT_st (pc' := 2) (L' := [some (.ref a0), some (.int a1)]) (st' := [.ref a0, .int 4]) (h' := h) 2 (fun n => rfl) ?_
  obtain ⟨o1, e, hw⟩ := hw
  refine zT_st (pc' := 5) (L' := [some (.ref a0), some (.int a1)]) (st' := [.ref o1, .int 4]) (h' := h) 1 (fun n => fld_eq (E := E) e _) ?_
  refine zT_st (pc' := 6) (L' := [some (.ref a0), some (.int a1)]) (st' := [.int a1, .ref o1, .int 4]) (h' := h) 1 (fun n => rfl) ?_
  obtain ⟨hq, hw⟩ := hw
  obtain ⟨x2, h3, hx, hw⟩ := hw
  refine zT_call (pc' := 9) (rest := [.int 4]) 1 (fun n => rfl) hq hx ?_
  show zT E (d + 1) m_Chance_lossOf 9 [some (.ref a0), some (.int a1)] [.int x2, .int 4] h3 r
  refine zT_st (pc' := 10) (L' := [some (.ref a0), some (.int a1)]) (st' := [.ref a0, .int x2, .int 4]) (h' := h3) 1 (fun n => rfl) ?_
  obtain ⟨o4, e, hw⟩ := hw
  refine zT_st (pc' := 13) (L' := [some (.ref a0), some (.int a1)]) (st' := [.ref o4, .int x2, .int 4]) (h' := h3) 1 (fun n => fld_eq (E := E) e _) ?_
  refine zT_st (pc' := 14) (L' := [some (.ref a0), some (.int a1)]) (st' := [.int a1, .ref o4, .int x2, .int 4]) (h' := h3) 1 (fun n => rfl) ?_
  obtain ⟨hq, hw⟩ := hw
  obtain ⟨x5, h6, hx, hw⟩ := hw
  refine zT_call (pc' := 17) (rest := [.int x2, .int 4]) 1 (fun n => rfl) hq hx ?_
  show zT E (d + 1) m_Chance_lossOf 17 [some (.ref a0), some (.int a1)] [.int x5, .int x2, .int 4] h6 r
  refine zT_st (pc' := 20) (L' := [some (.ref a0), some (.int a1)]) (st' := [.ref a0, .int (4 * (x2 - x5))]) (h' := h6) 3 (fun n => rfl) ?_
  obtain ⟨o7, e, hw⟩ := hw
  refine zT_st (pc' := 23) (L' := [some (.ref a0), some (.int a1)]) (st' := [.ref o7, .int (4 * (x2 - x5))]) (h' := h6) 1 (fun n => fld_eq (E := E) e _) ?_
  refine zT_st (pc' := 24) (L' := [some (.ref a0), some (.int a1)]) (st' := [.int a1, .ref o7, .int (4 * (x2 - x5))]) (h' := h6) 1 (fun n => rfl) ?_
  obtain ⟨hq, hw⟩ := hw
  obtain ⟨x8, h9, hx, hw⟩ := hw
  refine zT_call (pc' := 27) (rest := [.int (4 * (x2 - x5))]) 1 (fun n => rfl) hq hx ?_
  show zT E (d + 1) m_Chance_lossOf 27 [some (.ref a0), some (.int a1)] [.int x8, .int (4 * (x2 - x5))] h9 r
  refine zT_st (pc' := 29) (L' := [some (.ref a0), some (.int a1)]) (st' := [.ref a0, .int ((4 * (x2 - x5)) + x8)]) (h' := h9) 2 (fun n => rfl) ?_
  obtain ⟨o10, e, hw⟩ := hw
  refine zT_st (pc' := 32) (L' := [some (.ref a0), some (.int a1)]) (st' := [.ref o10, .int ((4 * (x2 - x5)) + x8)]) (h' := h9) 1 (fun n => fld_eq (E := E) e _) ?_
  refine zT_st (pc' := 33) (L' := [some (.ref a0), some (.int a1)]) (st' := [.int a1, .ref o10, .int ((4 * (x2 - x5)) + x8)]) (h' := h9) 1 (fun n => rfl) ?_
  obtain ⟨hq, hw⟩ := hw
  obtain ⟨x11, h12, hx, hw⟩ := hw
  refine zT_call (pc' := 36) (rest := [.int ((4 * (x2 - x5)) + x8)]) 1 (fun n => rfl) hq hx ?_
  show zT E (d + 1) m_Chance_lossOf 36 [some (.ref a0), some (.int a1)] [.int x11, .int ((4 * (x2 - x5)) + x8)] h12 r
  subst hw
  exact zT_ret 2 rfl
set_option maxRecDepth 4000 in
theorem s_Chance_resting_0 (E : zX) (d : Nat) (a0 : Nat) (h : zH) (r : zO × zH)
    (hw : zT E (d + 1) m_Chance_resting 4 [some (.ref a0), some (.int 0), some (.int 0)] [] h r) :
    zT E (d + 1) m_Chance_resting 0 [some (.ref a0), none, none] [] h r := by
  exact zT_st 4 (fun n => rfl) hw
set_option maxRecDepth 4000 in
theorem s_Chance_resting_4 (E : zX) (d : Nat) (a0 : Nat) (a1 : Int32) (a2 : Int32) (h : zH) (r : zO × zH)
    (hw : if 4 ≤ a2 then (
      r = (.inl (some (.int a1)), h))
    else (
      isO h a0 1 = true ∧ ∃ (x1 : Int32) (h2 : zH), zT E d m_Chance_rests 0 [some (.ref a0), some (.int a2)] [] h (.inl (some (.int x1)), h2) ∧
      if x1 = 0 then (
        zT E (d + 1) m_Chance_resting 4 [some (.ref a0), some (.int a1), some (.int (a2 + 1))] [] h2 r)
      else (
        zT E (d + 1) m_Chance_resting 4 [some (.ref a0), some (.int (a1 + 1)), some (.int (a2 + 1))] [] h2 r))) :
    zT E (d + 1) m_Chance_resting 4 [some (.ref a0), some (.int a1), some (.int a2)] [] h r := by
  refine zT_st (pc' := 6) (L' := [some (.ref a0), some (.int a1), some (.int a2)]) (st' := [.int 4, .int a2]) (h' := h) 2 (fun n => rfl) ?_
  by_cases hc : 4 ≤ a2
  · rw [if_pos hc] at hw
    refine zT_st (pc' := 26) (L' := [some (.ref a0), some (.int a1), some (.int a2)]) (st' := []) (h' := h) 1 (fun n => if_pos hc) ?_
    subst hw
    exact zT_ret 2 rfl
  · rw [if_neg hc] at hw
    refine zT_st (pc' := 9) (L' := [some (.ref a0), some (.int a1), some (.int a2)]) (st' := []) (h' := h) 1 (fun n => if_neg hc) ?_
    refine zT_st (pc' := 11) (L' := [some (.ref a0), some (.int a1), some (.int a2)]) (st' := [.int a2, .ref a0]) (h' := h) 2 (fun n => rfl) ?_
    obtain ⟨hq, hw⟩ := hw
    obtain ⟨x1, h2, hx, hw⟩ := hw
    refine zT_call (pc' := 14) (rest := []) 1 (fun n => rfl) hq hx ?_
    show zT E (d + 1) m_Chance_resting 14 [some (.ref a0), some (.int a1), some (.int a2)] [.int x1] h2 r
    by_cases hc : x1 = 0
    · rw [if_pos hc] at hw
      refine zT_st (pc' := 20) (L' := [some (.ref a0), some (.int a1), some (.int a2)]) (st' := []) (h' := h2) 1 (fun n => if_pos hc) ?_
      exact zT_st 2 (fun n => rfl) hw
    · rw [if_neg hc] at hw
      refine zT_st (pc' := 17) (L' := [some (.ref a0), some (.int a1), some (.int a2)]) (st' := []) (h' := h2) 1 (fun n => if_neg hc) ?_
      exact zT_st 3 (fun n => rfl) hw
set_option maxRecDepth 4000 in
theorem s_Chance_rests_0 (E : zX) (d : Nat) (a0 : Nat) (a1 : Int32) (h : zH) (r : zO × zH)
    (hw : ∃ o1 : Nat, fld h a0 1 7 = some (.ref o1) ∧
    ∃ (n2 : Nat) (f3 : Nat → Int32), arr h o1 = some (n2, f3) ∧ ¬ (a1 < 0 ∨ n2 ≤ (a1).toNatClampNeg) ∧
    ∃ o4 : Nat, fld h a0 1 7 = some (.ref o4) ∧
    ∃ (n5 : Nat) (f6 : Nat → Int32), arr h o4 = some (n5, f6) ∧ ¬ ((a1 ^^^ 2) < 0 ∨ n5 ≤ ((a1 ^^^ 2)).toNatClampNeg) ∧
    if (f6 ((a1 ^^^ 2)).toNatClampNeg) < (f3 (a1).toNatClampNeg) then (
      r = (.inl (some (.int 0)), h))
    else (
      ∃ o7 : Nat, fld h a0 1 8 = some (.ref o7) ∧
      ∃ (n8 : Nat) (f9 : Nat → Int32), arr h o7 = some (n8, f9) ∧ ¬ (a1 < 0 ∨ n8 ≤ (a1).toNatClampNeg) ∧
      ∃ o10 : Nat, fld h a0 1 8 = some (.ref o10) ∧
      ∃ (n11 : Nat) (f12 : Nat → Int32), arr h o10 = some (n11, f12) ∧ ¬ ((a1 ^^^ 1) < 0 ∨ n11 ≤ ((a1 ^^^ 1)).toNatClampNeg) ∧
      if (f12 ((a1 ^^^ 1)).toNatClampNeg) < (f9 (a1).toNatClampNeg) then (
        r = (.inl (some (.int 0)), h))
      else (
        r = (.inl (some (.int 1)), h)))) :
    zT E d m_Chance_rests 0 [some (.ref a0), some (.int a1)] [] h r := by
  refine zT_st (pc' := 1) (L' := [some (.ref a0), some (.int a1)]) (st' := [.ref a0]) (h' := h) 1 (fun n => rfl) ?_
  obtain ⟨o1, e, hw⟩ := hw
  refine zT_st (pc' := 4) (L' := [some (.ref a0), some (.int a1)]) (st' := [.ref o1]) (h' := h) 1 (fun n => fld_eq (E := E) e _) ?_
  refine zT_st (pc' := 5) (L' := [some (.ref a0), some (.int a1)]) (st' := [.int a1, .ref o1]) (h' := h) 1 (fun n => rfl) ?_
  obtain ⟨n2, f3, e, hi, hw⟩ := hw
  refine zT_st (pc' := 6) (L' := [some (.ref a0), some (.int a1)]) (st' := [.int (f3 (a1).toNatClampNeg)]) (h' := h) 1 (fun n => arr_eq (E := E) e hi [] (fun st => zrun zP zCd E n d m_Chance_rests 6 [some (.ref a0), some (.int a1)] st h)) ?_
  refine zT_st (pc' := 7) (L' := [some (.ref a0), some (.int a1)]) (st' := [.ref a0, .int (f3 (a1).toNatClampNeg)]) (h' := h) 1 (fun n => rfl) ?_
  obtain ⟨o4, e, hw⟩ := hw
  refine zT_st (pc' := 10) (L' := [some (.ref a0), some (.int a1)]) (st' := [.ref o4, .int (f3 (a1).toNatClampNeg)]) (h' := h) 1 (fun n => fld_eq (E := E) e _) ?_
  refine zT_st (pc' := 13) (L' := [some (.ref a0), some (.int a1)]) (st' := [.int (a1 ^^^ 2), .ref o4, .int (f3 (a1).toNatClampNeg)]) (h' := h) 3 (fun n => rfl) ?_
  obtain ⟨n5, f6, e, hi, hw⟩ := hw
  refine zT_st (pc' := 14) (L' := [some (.ref a0), some (.int a1)]) (st' := [.int (f6 ((a1 ^^^ 2)).toNatClampNeg), .int (f3 (a1).toNatClampNeg)]) (h' := h) 1 (fun n => arr_eq (E := E) e hi [.int (f3 (a1).toNatClampNeg)] (fun st => zrun zP zCd E n d m_Chance_rests 14 [some (.ref a0), some (.int a1)] st h)) ?_
  by_cases hc : (f6 ((a1 ^^^ 2)).toNatClampNeg) < (f3 (a1).toNatClampNeg)
  · rw [if_pos hc] at hw
    refine zT_st (pc' := 38) (L' := [some (.ref a0), some (.int a1)]) (st' := []) (h' := h) 1 (fun n => if_pos hc) ?_
    subst hw
    exact zT_ret 2 rfl
  · rw [if_neg hc] at hw
    refine zT_st (pc' := 17) (L' := [some (.ref a0), some (.int a1)]) (st' := []) (h' := h) 1 (fun n => if_neg hc) ?_
    refine zT_st (pc' := 18) (L' := [some (.ref a0), some (.int a1)]) (st' := [.ref a0]) (h' := h) 1 (fun n => rfl) ?_
    obtain ⟨o7, e, hw⟩ := hw
    refine zT_st (pc' := 21) (L' := [some (.ref a0), some (.int a1)]) (st' := [.ref o7]) (h' := h) 1 (fun n => fld_eq (E := E) e _) ?_
    refine zT_st (pc' := 22) (L' := [some (.ref a0), some (.int a1)]) (st' := [.int a1, .ref o7]) (h' := h) 1 (fun n => rfl) ?_
    obtain ⟨n8, f9, e, hi, hw⟩ := hw
    refine zT_st (pc' := 23) (L' := [some (.ref a0), some (.int a1)]) (st' := [.int (f9 (a1).toNatClampNeg)]) (h' := h) 1 (fun n => arr_eq (E := E) e hi [] (fun st => zrun zP zCd E n d m_Chance_rests 23 [some (.ref a0), some (.int a1)] st h)) ?_
    refine zT_st (pc' := 24) (L' := [some (.ref a0), some (.int a1)]) (st' := [.ref a0, .int (f9 (a1).toNatClampNeg)]) (h' := h) 1 (fun n => rfl) ?_
    obtain ⟨o10, e, hw⟩ := hw
    refine zT_st (pc' := 27) (L' := [some (.ref a0), some (.int a1)]) (st' := [.ref o10, .int (f9 (a1).toNatClampNeg)]) (h' := h) 1 (fun n => fld_eq (E := E) e _) ?_
    refine zT_st (pc' := 30) (L' := [some (.ref a0), some (.int a1)]) (st' := [.int (a1 ^^^ 1), .ref o10, .int (f9 (a1).toNatClampNeg)]) (h' := h) 3 (fun n => rfl) ?_
    obtain ⟨n11, f12, e, hi, hw⟩ := hw
    refine zT_st (pc' := 31) (L' := [some (.ref a0), some (.int a1)]) (st' := [.int (f12 ((a1 ^^^ 1)).toNatClampNeg), .int (f9 (a1).toNatClampNeg)]) (h' := h) 1 (fun n => arr_eq (E := E) e hi [.int (f9 (a1).toNatClampNeg)] (fun st => zrun zP zCd E n d m_Chance_rests 31 [some (.ref a0), some (.int a1)] st h)) ?_
    by_cases hc : (f12 ((a1 ^^^ 1)).toNatClampNeg) < (f9 (a1).toNatClampNeg)
    · rw [if_pos hc] at hw
      refine zT_st (pc' := 38) (L' := [some (.ref a0), some (.int a1)]) (st' := []) (h' := h) 1 (fun n => if_pos hc) ?_
      subst hw
      exact zT_ret 2 rfl
    · rw [if_neg hc] at hw
      refine zT_st (pc' := 34) (L' := [some (.ref a0), some (.int a1)]) (st' := []) (h' := h) 1 (fun n => if_neg hc) ?_
      subst hw
      exact zT_ret 3 rfl
set_option maxRecDepth 4000 in
theorem s_Chance_firstResting_0 (E : zX) (d : Nat) (a0 : Nat) (h : zH) (r : zO × zH)
    (hw : zT E (d + 1) m_Chance_firstResting 2 [some (.ref a0), some (.int 0)] [] h r) :
    zT E (d + 1) m_Chance_firstResting 0 [some (.ref a0), none] [] h r := by
  exact zT_st 2 (fun n => rfl) hw
set_option maxRecDepth 4000 in
theorem s_Chance_firstResting_2 (E : zX) (d : Nat) (a0 : Nat) (a1 : Int32) (h : zH) (r : zO × zH)
    (hw : if 4 ≤ a1 then (
      r = (.inl (some (.int (-1))), h))
    else (
      isO h a0 1 = true ∧ ∃ (x1 : Int32) (h2 : zH), zT E d m_Chance_rests 0 [some (.ref a0), some (.int a1)] [] h (.inl (some (.int x1)), h2) ∧
      if x1 = 0 then (
        zT E (d + 1) m_Chance_firstResting 2 [some (.ref a0), some (.int (a1 + 1))] [] h2 r)
      else (
        r = (.inl (some (.int ((10 * (a1 >>> (1 &&& 31))) + (a1 &&& 1)))), h2)))) :
    zT E (d + 1) m_Chance_firstResting 2 [some (.ref a0), some (.int a1)] [] h r := by
  refine zT_st (pc' := 4) (L' := [some (.ref a0), some (.int a1)]) (st' := [.int 4, .int a1]) (h' := h) 2 (fun n => rfl) ?_
  by_cases hc : 4 ≤ a1
  · rw [if_pos hc] at hw
    refine zT_st (pc' := 32) (L' := [some (.ref a0), some (.int a1)]) (st' := []) (h' := h) 1 (fun n => if_pos hc) ?_
    subst hw
    exact zT_ret 2 rfl
  · rw [if_neg hc] at hw
    refine zT_st (pc' := 7) (L' := [some (.ref a0), some (.int a1)]) (st' := []) (h' := h) 1 (fun n => if_neg hc) ?_
    refine zT_st (pc' := 9) (L' := [some (.ref a0), some (.int a1)]) (st' := [.int a1, .ref a0]) (h' := h) 2 (fun n => rfl) ?_
    obtain ⟨hq, hw⟩ := hw
    obtain ⟨x1, h2, hx, hw⟩ := hw
    refine zT_call (pc' := 12) (rest := []) 1 (fun n => rfl) hq hx ?_
    show zT E (d + 1) m_Chance_firstResting 12 [some (.ref a0), some (.int a1)] [.int x1] h2 r
    by_cases hc : x1 = 0
    · rw [if_pos hc] at hw
      refine zT_st (pc' := 26) (L' := [some (.ref a0), some (.int a1)]) (st' := []) (h' := h2) 1 (fun n => if_pos hc) ?_
      exact zT_st 2 (fun n => rfl) hw
    · rw [if_neg hc] at hw
      refine zT_st (pc' := 15) (L' := [some (.ref a0), some (.int a1)]) (st' := []) (h' := h2) 1 (fun n => if_neg hc) ?_
      subst hw
      exact zT_ret 10 rfl
set_option maxRecDepth 4000 in
theorem s_Chance_live_0 (E : zX) (d : Nat) (a0 : Nat) (a1 : Int32) (a2 : Int32) (h : zH) (r : zO × zH)
    (hw : (∃ w, fld h a0 1 9 = some w) ∧
    ∃ o1 : Nat, fld (setF h a0 9 (.int a1)) a0 1 6 = some (.ref o1) ∧
    ∃ o2 : Nat, fld (setF h a0 9 (.int a1)) a0 1 5 = some (.ref o2) ∧
    isO (setF h a0 9 (.int a1)) o1 10 = true ∧ ∃ (h4 : zH), zT E d m_Scene_copyFrom 0 [some (.ref o1), some (.ref o2)] [] (setF h a0 9 (.int a1)) (.inl none, h4) ∧
    (∃ w, fld h4 a0 1 0 = some w) ∧
    (∃ w, fld (setF h4 a0 0 (.int 0)) a0 1 1 = some w) ∧
    zT E (d + 1) m_Chance_live 28 [some (.ref a0), some (.int a1), some (.int a2), some (.int 0), none, none] [] (setF (setF h4 a0 0 (.int 0)) a0 1 (.int 0)) r) :
    zT E (d + 1) m_Chance_live 0 [some (.ref a0), some (.int a1), some (.int a2), none, none, none] [] h r := by
  refine zT_st (pc' := 2) (L' := [some (.ref a0), some (.int a1), some (.int a2), none, none, none]) (st' := [.int a1, .ref a0]) (h' := h) 2 (fun n => rfl) ?_
  obtain ⟨⟨w, e⟩, hw⟩ := hw
  refine zT_st (pc' := 5) (L' := [some (.ref a0), some (.int a1), some (.int a2), none, none, none]) (st' := []) (h' := (setF h a0 9 (.int a1))) 1 (fun n => put_eq e rfl _ _) ?_
  refine zT_st (pc' := 6) (L' := [some (.ref a0), some (.int a1), some (.int a2), none, none, none]) (st' := [.ref a0]) (h' := (setF h a0 9 (.int a1))) 1 (fun n => rfl) ?_
  obtain ⟨o1, e, hw⟩ := hw
  refine zT_st (pc' := 9) (L' := [some (.ref a0), some (.int a1), some (.int a2), none, none, none]) (st' := [.ref o1]) (h' := (setF h a0 9 (.int a1))) 1 (fun n => fld_eq (E := E) e _) ?_
  refine zT_st (pc' := 10) (L' := [some (.ref a0), some (.int a1), some (.int a2), none, none, none]) (st' := [.ref a0, .ref o1]) (h' := (setF h a0 9 (.int a1))) 1 (fun n => rfl) ?_
  obtain ⟨o2, e, hw⟩ := hw
  refine zT_st (pc' := 13) (L' := [some (.ref a0), some (.int a1), some (.int a2), none, none, none]) (st' := [.ref o2, .ref o1]) (h' := (setF h a0 9 (.int a1))) 1 (fun n => fld_eq (E := E) e _) ?_
  obtain ⟨hq, hw⟩ := hw
  obtain ⟨h4, hx, hw⟩ := hw
  refine zT_call (pc' := 16) (rest := []) 1 (fun n => rfl) hq hx ?_
  show zT E (d + 1) m_Chance_live 16 [some (.ref a0), some (.int a1), some (.int a2), none, none, none] [] h4 r
  refine zT_st (pc' := 18) (L' := [some (.ref a0), some (.int a1), some (.int a2), none, none, none]) (st' := [.int 0, .ref a0]) (h' := h4) 2 (fun n => rfl) ?_
  obtain ⟨⟨w, e⟩, hw⟩ := hw
  refine zT_st (pc' := 21) (L' := [some (.ref a0), some (.int a1), some (.int a2), none, none, none]) (st' := []) (h' := (setF h4 a0 0 (.int 0))) 1 (fun n => put_eq e rfl _ _) ?_
  refine zT_st (pc' := 23) (L' := [some (.ref a0), some (.int a1), some (.int a2), none, none, none]) (st' := [.int 0, .ref a0]) (h' := (setF h4 a0 0 (.int 0))) 2 (fun n => rfl) ?_
  obtain ⟨⟨w, e⟩, hw⟩ := hw
  refine zT_st (pc' := 26) (L' := [some (.ref a0), some (.int a1), some (.int a2), none, none, none]) (st' := []) (h' := (setF (setF h4 a0 0 (.int 0)) a0 1 (.int 0))) 1 (fun n => put_eq e rfl _ _) ?_
  exact zT_st 2 (fun n => rfl) hw
set_option maxRecDepth 4000 in
theorem s_Chance_live_28 (E : zX) (d : Nat) (a0 : Nat) (j1 : Option Value) (a2 : Int32) (a3 : Int32) (j4 : Option Value) (j5 : Option Value) (h : zH) (r : zO × zH)
    (hw : if a2 ≤ a3 then (
      ∃ o1 : Nat, fld h a0 1 3 = some (.ref o1) ∧
      ∃ o2 : Nat, fld h a0 1 6 = some (.ref o2) ∧
      isO h o1 2 = true ∧ ∃ (x3 : Int32) (h4 : zH), zT E d m_Downs_temperOfAll 0 [some (.ref o1), some (.ref o2), none, none] [] h (.inl (some (.int x3)), h4) ∧
      (∃ w, fld h4 a0 1 2 = some w) ∧
      r = (.inl (none), (setF h4 a0 2 (.int x3))))
    else (
      isO h a0 1 = true ∧ ∃ (x5 : Int32) (h6 : zH), zT E d m_Chance_draw 0 [some (.ref a0), some (.int 5)] [] h (.inl (some (.int x5)), h6) ∧
      if x5 = 0 then (
        ∃ o7 : Nat, fld h6 a0 1 4 = some (.ref o7) ∧
        ∃ x8 : Int32, fld h6 o7 5 4 = some (.int x8) ∧
        if x8 ≤ 0 then (
          zT E (d + 1) m_Chance_live 62 [some (.ref a0), j1, some (.int a2), some (.int a3), some (.int x5), j5] [] h6 r)
        else (
          isO h6 a0 1 = true ∧ ∃ (h10 : zH), zT E d m_Chance_treadDrawn 0 [some (.ref a0), none] [] h6 (.inl none, h10) ∧
          zT E (d + 1) m_Chance_live 106 [some (.ref a0), j1, some (.int a2), some (.int a3), some (.int x5), j5] [] h10 r))
      else (
        zT E (d + 1) m_Chance_live 62 [some (.ref a0), j1, some (.int a2), some (.int a3), some (.int x5), j5] [] h6 r))) :
    zT E (d + 1) m_Chance_live 28 [some (.ref a0), j1, some (.int a2), some (.int a3), j4, j5] [] h r := by
  refine zT_st (pc' := 30) (L' := [some (.ref a0), j1, some (.int a2), some (.int a3), j4, j5]) (st' := [.int a2, .int a3]) (h' := h) 2 (fun n => rfl) ?_
  by_cases hc : a2 ≤ a3
  · rw [if_pos hc] at hw
    refine zT_st (pc' := 165) (L' := [some (.ref a0), j1, some (.int a2), some (.int a3), j4, j5]) (st' := []) (h' := h) 1 (fun n => if_pos hc) ?_
    refine zT_st (pc' := 167) (L' := [some (.ref a0), j1, some (.int a2), some (.int a3), j4, j5]) (st' := [.ref a0, .ref a0]) (h' := h) 2 (fun n => rfl) ?_
    obtain ⟨o1, e, hw⟩ := hw
    refine zT_st (pc' := 170) (L' := [some (.ref a0), j1, some (.int a2), some (.int a3), j4, j5]) (st' := [.ref o1, .ref a0]) (h' := h) 1 (fun n => fld_eq (E := E) e _) ?_
    refine zT_st (pc' := 171) (L' := [some (.ref a0), j1, some (.int a2), some (.int a3), j4, j5]) (st' := [.ref a0, .ref o1, .ref a0]) (h' := h) 1 (fun n => rfl) ?_
    obtain ⟨o2, e, hw⟩ := hw
    refine zT_st (pc' := 174) (L' := [some (.ref a0), j1, some (.int a2), some (.int a3), j4, j5]) (st' := [.ref o2, .ref o1, .ref a0]) (h' := h) 1 (fun n => fld_eq (E := E) e _) ?_
    obtain ⟨hq, hw⟩ := hw
    obtain ⟨x3, h4, hx, hw⟩ := hw
    refine zT_call (pc' := 177) (rest := [.ref a0]) 1 (fun n => rfl) hq hx ?_
    show zT E (d + 1) m_Chance_live 177 [some (.ref a0), j1, some (.int a2), some (.int a3), j4, j5] [.int x3, .ref a0] h4 r
    obtain ⟨⟨w, e⟩, hw⟩ := hw
    refine zT_st (pc' := 180) (L' := [some (.ref a0), j1, some (.int a2), some (.int a3), j4, j5]) (st' := []) (h' := (setF h4 a0 2 (.int x3))) 1 (fun n => put_eq e rfl _ _) ?_
    subst hw
    exact zT_ret 1 rfl
  · rw [if_neg hc] at hw
    refine zT_st (pc' := 33) (L' := [some (.ref a0), j1, some (.int a2), some (.int a3), j4, j5]) (st' := []) (h' := h) 1 (fun n => if_neg hc) ?_
    refine zT_st (pc' := 35) (L' := [some (.ref a0), j1, some (.int a2), some (.int a3), j4, j5]) (st' := [.int 5, .ref a0]) (h' := h) 2 (fun n => rfl) ?_
    obtain ⟨hq, hw⟩ := hw
    obtain ⟨x5, h6, hx, hw⟩ := hw
    refine zT_call (pc' := 38) (rest := []) 1 (fun n => rfl) hq hx ?_
    show zT E (d + 1) m_Chance_live 38 [some (.ref a0), j1, some (.int a2), some (.int a3), j4, j5] [.int x5] h6 r
    refine zT_st (pc' := 42) (L' := [some (.ref a0), j1, some (.int a2), some (.int a3), some (.int x5), j5]) (st' := [.int x5]) (h' := h6) 2 (fun n => rfl) ?_
    by_cases hc : x5 = 0
    · rw [if_pos hc] at hw
      refine zT_st (pc' := 45) (L' := [some (.ref a0), j1, some (.int a2), some (.int a3), some (.int x5), j5]) (st' := []) (h' := h6) 1 (fun n => if_pos hc) ?_
      refine zT_st (pc' := 46) (L' := [some (.ref a0), j1, some (.int a2), some (.int a3), some (.int x5), j5]) (st' := [.ref a0]) (h' := h6) 1 (fun n => rfl) ?_
      obtain ⟨o7, e, hw⟩ := hw
      refine zT_st (pc' := 49) (L' := [some (.ref a0), j1, some (.int a2), some (.int a3), some (.int x5), j5]) (st' := [.ref o7]) (h' := h6) 1 (fun n => fld_eq (E := E) e _) ?_
      obtain ⟨x8, e, hw⟩ := hw
      refine zT_st (pc' := 52) (L' := [some (.ref a0), j1, some (.int a2), some (.int a3), some (.int x5), j5]) (st' := [.int x8]) (h' := h6) 1 (fun n => fld_eq (E := E) e _) ?_
      by_cases hc : x8 ≤ 0
      · rw [if_pos hc] at hw
        refine zT_st (pc' := 62) (L' := [some (.ref a0), j1, some (.int a2), some (.int a3), some (.int x5), j5]) (st' := []) (h' := h6) 1 (fun n => if_pos hc) ?_
        exact hw
      · rw [if_neg hc] at hw
        refine zT_st (pc' := 55) (L' := [some (.ref a0), j1, some (.int a2), some (.int a3), some (.int x5), j5]) (st' := []) (h' := h6) 1 (fun n => if_neg hc) ?_
        refine zT_st (pc' := 56) (L' := [some (.ref a0), j1, some (.int a2), some (.int a3), some (.int x5), j5]) (st' := [.ref a0]) (h' := h6) 1 (fun n => rfl) ?_
        obtain ⟨hq, hw⟩ := hw
        obtain ⟨h10, hx, hw⟩ := hw
        refine zT_call (pc' := 59) (rest := []) 1 (fun n => rfl) hq hx ?_
        show zT E (d + 1) m_Chance_live 59 [some (.ref a0), j1, some (.int a2), some (.int a3), some (.int x5), j5] [] h10 r
        exact zT_st 1 (fun n => rfl) hw
    · rw [if_neg hc] at hw
      refine zT_st (pc' := 62) (L' := [some (.ref a0), j1, some (.int a2), some (.int a3), some (.int x5), j5]) (st' := []) (h' := h6) 1 (fun n => if_neg hc) ?_
      exact hw
set_option maxRecDepth 4000 in
theorem s_Chance_live_62 (E : zX) (d : Nat) (a0 : Nat) (j1 : Option Value) (a2 : Int32) (a3 : Int32) (a4 : Int32) (j5 : Option Value) (h : zH) (r : zO × zH)
    (hw : if a4 = 1 then (
      ∃ o1 : Nat, fld h a0 1 4 = some (.ref o1) ∧
      ∃ x2 : Int32, fld h o1 5 3 = some (.int x2) ∧
      if x2 ≤ 0 then (
        zT E (d + 1) m_Chance_live 106 [some (.ref a0), j1, some (.int a2), some (.int a3), some (.int a4), j5] [] h r)
      else (
        ∃ o3 : Nat, fld h a0 1 4 = some (.ref o3) ∧
        ∃ x4 : Int32, fld h o3 5 3 = some (.int x4) ∧
        isO h a0 1 = true ∧ ∃ (x5 : Int32) (h6 : zH), zT E d m_Chance_draw 0 [some (.ref a0), some (.int x4)] [] h (.inl (some (.int x5)), h6) ∧
        ∃ o7 : Nat, fld h6 a0 1 6 = some (.ref o7) ∧
        isO h6 a0 1 = true ∧ ∃ (x8 : Int32) (h9 : zH), zT E d m_Chance_draw 0 [some (.ref a0), some (.int 60)] [] h6 (.inl (some (.int x8)), h9) ∧
        isO h9 o7 10 = true ∧ ∃ (h11 : zH), zT E d m_Scene_setTemper 0 [some (.ref o7), some (.int x5), some (.int x8)] [] h9 (.inl none, h11) ∧
        zT E (d + 1) m_Chance_live 106 [some (.ref a0), j1, some (.int a2), some (.int a3), some (.int a4), some (.int x5)] [] h11 r))
    else (
      zT E (d + 1) m_Chance_live 106 [some (.ref a0), j1, some (.int a2), some (.int a3), some (.int a4), j5] [] h r)) :
    zT E (d + 1) m_Chance_live 62 [some (.ref a0), j1, some (.int a2), some (.int a3), some (.int a4), j5] [] h r := by
  refine zT_st (pc' := 65) (L' := [some (.ref a0), j1, some (.int a2), some (.int a3), some (.int a4), j5]) (st' := [.int 1, .int a4]) (h' := h) 2 (fun n => rfl) ?_
  by_cases hc : a4 = 1
  · rw [if_pos hc] at hw
    refine zT_st (pc' := 68) (L' := [some (.ref a0), j1, some (.int a2), some (.int a3), some (.int a4), j5]) (st' := []) (h' := h) 1 (fun n => if_pos hc) ?_
    refine zT_st (pc' := 69) (L' := [some (.ref a0), j1, some (.int a2), some (.int a3), some (.int a4), j5]) (st' := [.ref a0]) (h' := h) 1 (fun n => rfl) ?_
    obtain ⟨o1, e, hw⟩ := hw
    refine zT_st (pc' := 72) (L' := [some (.ref a0), j1, some (.int a2), some (.int a3), some (.int a4), j5]) (st' := [.ref o1]) (h' := h) 1 (fun n => fld_eq (E := E) e _) ?_
    obtain ⟨x2, e, hw⟩ := hw
    refine zT_st (pc' := 75) (L' := [some (.ref a0), j1, some (.int a2), some (.int a3), some (.int a4), j5]) (st' := [.int x2]) (h' := h) 1 (fun n => fld_eq (E := E) e _) ?_
    by_cases hc : x2 ≤ 0
    · rw [if_pos hc] at hw
      refine zT_st (pc' := 106) (L' := [some (.ref a0), j1, some (.int a2), some (.int a3), some (.int a4), j5]) (st' := []) (h' := h) 1 (fun n => if_pos hc) ?_
      exact hw
    · rw [if_neg hc] at hw
      refine zT_st (pc' := 78) (L' := [some (.ref a0), j1, some (.int a2), some (.int a3), some (.int a4), j5]) (st' := []) (h' := h) 1 (fun n => if_neg hc) ?_
      refine zT_st (pc' := 80) (L' := [some (.ref a0), j1, some (.int a2), some (.int a3), some (.int a4), j5]) (st' := [.ref a0, .ref a0]) (h' := h) 2 (fun n => rfl) ?_
      obtain ⟨o3, e, hw⟩ := hw
      refine zT_st (pc' := 83) (L' := [some (.ref a0), j1, some (.int a2), some (.int a3), some (.int a4), j5]) (st' := [.ref o3, .ref a0]) (h' := h) 1 (fun n => fld_eq (E := E) e _) ?_
      obtain ⟨x4, e, hw⟩ := hw
      refine zT_st (pc' := 86) (L' := [some (.ref a0), j1, some (.int a2), some (.int a3), some (.int a4), j5]) (st' := [.int x4, .ref a0]) (h' := h) 1 (fun n => fld_eq (E := E) e _) ?_
      obtain ⟨hq, hw⟩ := hw
      obtain ⟨x5, h6, hx, hw⟩ := hw
      refine zT_call (pc' := 89) (rest := []) 1 (fun n => rfl) hq hx ?_
      show zT E (d + 1) m_Chance_live 89 [some (.ref a0), j1, some (.int a2), some (.int a3), some (.int a4), j5] [.int x5] h6 r
      refine zT_st (pc' := 92) (L' := [some (.ref a0), j1, some (.int a2), some (.int a3), some (.int a4), some (.int x5)]) (st' := [.ref a0]) (h' := h6) 2 (fun n => rfl) ?_
      obtain ⟨o7, e, hw⟩ := hw
      refine zT_st (pc' := 95) (L' := [some (.ref a0), j1, some (.int a2), some (.int a3), some (.int a4), some (.int x5)]) (st' := [.ref o7]) (h' := h6) 1 (fun n => fld_eq (E := E) e _) ?_
      refine zT_st (pc' := 100) (L' := [some (.ref a0), j1, some (.int a2), some (.int a3), some (.int a4), some (.int x5)]) (st' := [.int 60, .ref a0, .int x5, .ref o7]) (h' := h6) 3 (fun n => rfl) ?_
      obtain ⟨hq, hw⟩ := hw
      obtain ⟨x8, h9, hx, hw⟩ := hw
      refine zT_call (pc' := 103) (rest := [.int x5, .ref o7]) 1 (fun n => rfl) hq hx ?_
      show zT E (d + 1) m_Chance_live 103 [some (.ref a0), j1, some (.int a2), some (.int a3), some (.int a4), some (.int x5)] [.int x8, .int x5, .ref o7] h9 r
      obtain ⟨hq, hw⟩ := hw
      obtain ⟨h11, hx, hw⟩ := hw
      refine zT_call (pc' := 106) (rest := []) 1 (fun n => rfl) hq hx ?_
      show zT E (d + 1) m_Chance_live 106 [some (.ref a0), j1, some (.int a2), some (.int a3), some (.int a4), some (.int x5)] [] h11 r
      exact hw
  · rw [if_neg hc] at hw
    refine zT_st (pc' := 106) (L' := [some (.ref a0), j1, some (.int a2), some (.int a3), some (.int a4), j5]) (st' := []) (h' := h) 1 (fun n => if_neg hc) ?_
    exact hw
set_option maxRecDepth 4000 in
theorem s_Chance_live_106 (E : zX) (d : Nat) (a0 : Nat) (j1 : Option Value) (a2 : Int32) (a3 : Int32) (j4 : Option Value) (j5 : Option Value) (h : zH) (r : zO × zH)
    (hw : ∃ o1 : Nat, fld h a0 1 3 = some (.ref o1) ∧
    ∃ o2 : Nat, fld h a0 1 6 = some (.ref o2) ∧
    isO h o1 2 = true ∧ ∃ (h4 : zH), zT E d m_Downs_passDay 0 [some (.ref o1), some (.ref o2), none] [] h (.inl none, h4) ∧
    ∃ x5 : Int32, fld h4 a0 1 0 = some (.int x5) ∧
    ∃ o6 : Nat, fld h4 a0 1 3 = some (.ref o6) ∧
    ∃ o7 : Nat, fld h4 o6 2 1 = some (.ref o7) ∧
    ∃ (n8 : Nat) (f9 : Nat → Int32), arr h4 o7 = some (n8, f9) ∧ ¬ ((0 : Int32) < 0 ∨ n8 ≤ ((0 : Int32)).toNatClampNeg) ∧
    ∃ (x10 : Int32) (h11 : zH), zT E d m_Integer_bitCount 0 [some (.int (f9 ((0 : Int32)).toNatClampNeg))] [] h4 (.inl (some (.int x10)), h11) ∧
    (∃ w, fld h11 a0 1 0 = some w) ∧
    ∃ x12 : Int32, fld (setF h11 a0 0 (.int (x5 + x10))) a0 1 1 = some (.int x12) ∧
    ∃ o13 : Nat, fld (setF h11 a0 0 (.int (x5 + x10))) a0 1 3 = some (.ref o13) ∧
    ∃ o14 : Nat, fld (setF h11 a0 0 (.int (x5 + x10))) o13 2 1 = some (.ref o14) ∧
    ∃ (n15 : Nat) (f16 : Nat → Int32), arr (setF h11 a0 0 (.int (x5 + x10))) o14 = some (n15, f16) ∧ ¬ ((2 : Int32) < 0 ∨ n15 ≤ ((2 : Int32)).toNatClampNeg) ∧
    ∃ (x17 : Int32) (h18 : zH), zT E d m_Integer_bitCount 0 [some (.int (f16 ((2 : Int32)).toNatClampNeg))] [] (setF h11 a0 0 (.int (x5 + x10))) (.inl (some (.int x17)), h18) ∧
    (∃ w, fld h18 a0 1 1 = some w) ∧
    zT E (d + 1) m_Chance_live 28 [some (.ref a0), j1, some (.int a2), some (.int (a3 + 1)), j4, j5] [] (setF h18 a0 1 (.int (x12 + x17))) r) :
    zT E (d + 1) m_Chance_live 106 [some (.ref a0), j1, some (.int a2), some (.int a3), j4, j5] [] h r := by
  refine zT_st (pc' := 107) (L' := [some (.ref a0), j1, some (.int a2), some (.int a3), j4, j5]) (st' := [.ref a0]) (h' := h) 1 (fun n => rfl) ?_
  obtain ⟨o1, e, hw⟩ := hw
  refine zT_st (pc' := 110) (L' := [some (.ref a0), j1, some (.int a2), some (.int a3), j4, j5]) (st' := [.ref o1]) (h' := h) 1 (fun n => fld_eq (E := E) e _) ?_
  refine zT_st (pc' := 111) (L' := [some (.ref a0), j1, some (.int a2), some (.int a3), j4, j5]) (st' := [.ref a0, .ref o1]) (h' := h) 1 (fun n => rfl) ?_
  obtain ⟨o2, e, hw⟩ := hw
  refine zT_st (pc' := 114) (L' := [some (.ref a0), j1, some (.int a2), some (.int a3), j4, j5]) (st' := [.ref o2, .ref o1]) (h' := h) 1 (fun n => fld_eq (E := E) e _) ?_
  obtain ⟨hq, hw⟩ := hw
  obtain ⟨h4, hx, hw⟩ := hw
  refine zT_call (pc' := 117) (rest := []) 1 (fun n => rfl) hq hx ?_
  show zT E (d + 1) m_Chance_live 117 [some (.ref a0), j1, some (.int a2), some (.int a3), j4, j5] [] h4 r
  refine zT_st (pc' := 119) (L' := [some (.ref a0), j1, some (.int a2), some (.int a3), j4, j5]) (st' := [.ref a0, .ref a0]) (h' := h4) 2 (fun n => rfl) ?_
  obtain ⟨x5, e, hw⟩ := hw
  refine zT_st (pc' := 122) (L' := [some (.ref a0), j1, some (.int a2), some (.int a3), j4, j5]) (st' := [.int x5, .ref a0]) (h' := h4) 1 (fun n => fld_eq (E := E) e _) ?_
  refine zT_st (pc' := 123) (L' := [some (.ref a0), j1, some (.int a2), some (.int a3), j4, j5]) (st' := [.ref a0, .int x5, .ref a0]) (h' := h4) 1 (fun n => rfl) ?_
  obtain ⟨o6, e, hw⟩ := hw
  refine zT_st (pc' := 126) (L' := [some (.ref a0), j1, some (.int a2), some (.int a3), j4, j5]) (st' := [.ref o6, .int x5, .ref a0]) (h' := h4) 1 (fun n => fld_eq (E := E) e _) ?_
  obtain ⟨o7, e, hw⟩ := hw
  refine zT_st (pc' := 129) (L' := [some (.ref a0), j1, some (.int a2), some (.int a3), j4, j5]) (st' := [.ref o7, .int x5, .ref a0]) (h' := h4) 1 (fun n => fld_eq (E := E) e _) ?_
  refine zT_st (pc' := 130) (L' := [some (.ref a0), j1, some (.int a2), some (.int a3), j4, j5]) (st' := [.int 0, .ref o7, .int x5, .ref a0]) (h' := h4) 1 (fun n => rfl) ?_
  obtain ⟨n8, f9, e, hi, hw⟩ := hw
  refine zT_st (pc' := 131) (L' := [some (.ref a0), j1, some (.int a2), some (.int a3), j4, j5]) (st' := [.int (f9 ((0 : Int32)).toNatClampNeg), .int x5, .ref a0]) (h' := h4) 1 (fun n => arr_eq (E := E) e hi [.int x5, .ref a0] (fun st => zrun zP zCd E n (d + 1) m_Chance_live 131 [some (.ref a0), j1, some (.int a2), some (.int a3), j4, j5] st h4)) ?_
  obtain ⟨x10, h11, hx, hw⟩ := hw
  refine zT_call (pc' := 134) (rest := [.int x5, .ref a0]) 1 (fun n => rfl) rfl hx ?_
  show zT E (d + 1) m_Chance_live 134 [some (.ref a0), j1, some (.int a2), some (.int a3), j4, j5] [.int x10, .int x5, .ref a0] h11 r
  refine zT_st (pc' := 135) (L' := [some (.ref a0), j1, some (.int a2), some (.int a3), j4, j5]) (st' := [.int (x5 + x10), .ref a0]) (h' := h11) 1 (fun n => rfl) ?_
  obtain ⟨⟨w, e⟩, hw⟩ := hw
  refine zT_st (pc' := 138) (L' := [some (.ref a0), j1, some (.int a2), some (.int a3), j4, j5]) (st' := []) (h' := (setF h11 a0 0 (.int (x5 + x10)))) 1 (fun n => put_eq e rfl _ _) ?_
  refine zT_st (pc' := 140) (L' := [some (.ref a0), j1, some (.int a2), some (.int a3), j4, j5]) (st' := [.ref a0, .ref a0]) (h' := (setF h11 a0 0 (.int (x5 + x10)))) 2 (fun n => rfl) ?_
  obtain ⟨x12, e, hw⟩ := hw
  refine zT_st (pc' := 143) (L' := [some (.ref a0), j1, some (.int a2), some (.int a3), j4, j5]) (st' := [.int x12, .ref a0]) (h' := (setF h11 a0 0 (.int (x5 + x10)))) 1 (fun n => fld_eq (E := E) e _) ?_
  refine zT_st (pc' := 144) (L' := [some (.ref a0), j1, some (.int a2), some (.int a3), j4, j5]) (st' := [.ref a0, .int x12, .ref a0]) (h' := (setF h11 a0 0 (.int (x5 + x10)))) 1 (fun n => rfl) ?_
  obtain ⟨o13, e, hw⟩ := hw
  refine zT_st (pc' := 147) (L' := [some (.ref a0), j1, some (.int a2), some (.int a3), j4, j5]) (st' := [.ref o13, .int x12, .ref a0]) (h' := (setF h11 a0 0 (.int (x5 + x10)))) 1 (fun n => fld_eq (E := E) e _) ?_
  obtain ⟨o14, e, hw⟩ := hw
  refine zT_st (pc' := 150) (L' := [some (.ref a0), j1, some (.int a2), some (.int a3), j4, j5]) (st' := [.ref o14, .int x12, .ref a0]) (h' := (setF h11 a0 0 (.int (x5 + x10)))) 1 (fun n => fld_eq (E := E) e _) ?_
  refine zT_st (pc' := 151) (L' := [some (.ref a0), j1, some (.int a2), some (.int a3), j4, j5]) (st' := [.int 2, .ref o14, .int x12, .ref a0]) (h' := (setF h11 a0 0 (.int (x5 + x10)))) 1 (fun n => rfl) ?_
  obtain ⟨n15, f16, e, hi, hw⟩ := hw
  refine zT_st (pc' := 152) (L' := [some (.ref a0), j1, some (.int a2), some (.int a3), j4, j5]) (st' := [.int (f16 ((2 : Int32)).toNatClampNeg), .int x12, .ref a0]) (h' := (setF h11 a0 0 (.int (x5 + x10)))) 1 (fun n => arr_eq (E := E) e hi [.int x12, .ref a0] (fun st => zrun zP zCd E n (d + 1) m_Chance_live 152 [some (.ref a0), j1, some (.int a2), some (.int a3), j4, j5] st (setF h11 a0 0 (.int (x5 + x10))))) ?_
  obtain ⟨x17, h18, hx, hw⟩ := hw
  refine zT_call (pc' := 155) (rest := [.int x12, .ref a0]) 1 (fun n => rfl) rfl hx ?_
  show zT E (d + 1) m_Chance_live 155 [some (.ref a0), j1, some (.int a2), some (.int a3), j4, j5] [.int x17, .int x12, .ref a0] h18 r
  refine zT_st (pc' := 156) (L' := [some (.ref a0), j1, some (.int a2), some (.int a3), j4, j5]) (st' := [.int (x12 + x17), .ref a0]) (h' := h18) 1 (fun n => rfl) ?_
  obtain ⟨⟨w, e⟩, hw⟩ := hw
  refine zT_st (pc' := 159) (L' := [some (.ref a0), j1, some (.int a2), some (.int a3), j4, j5]) (st' := []) (h' := (setF h18 a0 1 (.int (x12 + x17)))) 1 (fun n => put_eq e rfl _ _) ?_
  exact zT_st 2 (fun n => rfl) hw
set_option maxRecDepth 4000 in
theorem s_Chance_draw_0 (E : zX) (d : Nat) (a0 : Nat) (a1 : Int32) (h : zH) (r : zO × zH)
    (hw : ∃ x1 : Int32, fld h a0 1 9 = some (.int x1) ∧
    (∃ w, fld h a0 1 9 = some w) ∧
    if a1 ≤ 0 then (
      r = (.inl (some (.int 0)), (setF h a0 9 (.int ((x1 * 1103515245) + 12345)))))
    else (
      ∃ x2 : Int32, fld (setF h a0 9 (.int ((x1 * 1103515245) + 12345))) a0 1 9 = some (.int x2) ∧
      ¬ a1 = 0 ∧
      r = (.inl (some (.int (zrem ((zushr x2 16) &&& 32767) a1))), (setF h a0 9 (.int ((x1 * 1103515245) + 12345)))))) :
    zT E d m_Chance_draw 0 [some (.ref a0), some (.int a1)] [] h r := by
  refine zT_st (pc' := 2) (L' := [some (.ref a0), some (.int a1)]) (st' := [.ref a0, .ref a0]) (h' := h) 2 (fun n => rfl) ?_
  obtain ⟨x1, e, hw⟩ := hw
  refine zT_st (pc' := 5) (L' := [some (.ref a0), some (.int a1)]) (st' := [.int x1, .ref a0]) (h' := h) 1 (fun n => fld_eq (E := E) e _) ?_
  refine zT_st (pc' := 12) (L' := [some (.ref a0), some (.int a1)]) (st' := [.int ((x1 * 1103515245) + 12345), .ref a0]) (h' := h) 4 (fun n => rfl) ?_
  obtain ⟨⟨w, e⟩, hw⟩ := hw
  refine zT_st (pc' := 15) (L' := [some (.ref a0), some (.int a1)]) (st' := []) (h' := (setF h a0 9 (.int ((x1 * 1103515245) + 12345)))) 1 (fun n => put_eq e rfl _ _) ?_
  refine zT_st (pc' := 16) (L' := [some (.ref a0), some (.int a1)]) (st' := [.int a1]) (h' := (setF h a0 9 (.int ((x1 * 1103515245) + 12345)))) 1 (fun n => rfl) ?_
  by_cases hc : a1 ≤ 0
  · rw [if_pos hc] at hw
    refine zT_st (pc' := 35) (L' := [some (.ref a0), some (.int a1)]) (st' := []) (h' := (setF h a0 9 (.int ((x1 * 1103515245) + 12345)))) 1 (fun n => if_pos hc) ?_
    subst hw
    exact zT_ret 2 rfl
  · rw [if_neg hc] at hw
    refine zT_st (pc' := 19) (L' := [some (.ref a0), some (.int a1)]) (st' := []) (h' := (setF h a0 9 (.int ((x1 * 1103515245) + 12345)))) 1 (fun n => if_neg hc) ?_
    refine zT_st (pc' := 20) (L' := [some (.ref a0), some (.int a1)]) (st' := [.ref a0]) (h' := (setF h a0 9 (.int ((x1 * 1103515245) + 12345)))) 1 (fun n => rfl) ?_
    obtain ⟨x2, e, hw⟩ := hw
    refine zT_st (pc' := 23) (L' := [some (.ref a0), some (.int a1)]) (st' := [.int x2]) (h' := (setF h a0 9 (.int ((x1 * 1103515245) + 12345)))) 1 (fun n => fld_eq (E := E) e _) ?_
    refine zT_st (pc' := 31) (L' := [some (.ref a0), some (.int a1)]) (st' := [.int a1, .int ((zushr x2 16) &&& 32767)]) (h' := (setF h a0 9 (.int ((x1 * 1103515245) + 12345)))) 5 (fun n => rfl) ?_
    obtain ⟨hz, hw⟩ := hw
    refine zT_st (pc' := 32) (L' := [some (.ref a0), some (.int a1)]) (st' := [.int (zrem ((zushr x2 16) &&& 32767) a1)]) (h' := (setF h a0 9 (.int ((x1 * 1103515245) + 12345)))) 1 (fun n => if_neg hz) ?_
    subst hw
    exact zT_ret 2 rfl
set_option maxRecDepth 4000 in
theorem s_Chance_treadDrawn_0 (E : zX) (d : Nat) (a0 : Nat) (h : zH) (r : zO × zH)
    (hw : ∃ o1 : Nat, fld h a0 1 4 = some (.ref o1) ∧
    ∃ x2 : Int32, fld h o1 5 4 = some (.int x2) ∧
    isO h a0 1 = true ∧ ∃ (x3 : Int32) (h4 : zH), zT E d m_Chance_draw 0 [some (.ref a0), some (.int x2)] [] h (.inl (some (.int x3)), h4) ∧
    ∃ o5 : Nat, fld h4 a0 1 6 = some (.ref o5) ∧
    isO h4 o5 10 = true ∧ ∃ (x6 : Int32) (h7 : zH), zT E d m_Scene_isLoose 0 [some (.ref o5), some (.int x3)] [] h4 (.inl (some (.int x6)), h7) ∧
    if x6 = 0 then (
      r = (.inl (none), h7))
    else (
      ∃ x8 : Int32, fld h7 a0 1 0 = some (.int x8) ∧
      ∃ o9 : Nat, fld h7 a0 1 3 = some (.ref o9) ∧
      ∃ o10 : Nat, fld h7 a0 1 6 = some (.ref o10) ∧
      isO h7 o9 2 = true ∧ ∃ (x11 : Int32) (h12 : zH), zT E d m_Downs_burst 0 [some (.ref o9), some (.ref o10), some (.int (1 <<< (x3 &&& 31))), none, none] [] h7 (.inl (some (.int x11)), h12) ∧
      ∃ (x13 : Int32) (h14 : zH), zT E d m_Integer_bitCount 0 [some (.int x11)] [] h12 (.inl (some (.int x13)), h14) ∧
      (∃ w, fld h14 a0 1 0 = some w) ∧
      r = (.inl (none), (setF h14 a0 0 (.int (x8 + x13)))))) :
    zT E (d + 1) m_Chance_treadDrawn 0 [some (.ref a0), none] [] h r := by
  refine zT_st (pc' := 2) (L' := [some (.ref a0), none]) (st' := [.ref a0, .ref a0]) (h' := h) 2 (fun n => rfl) ?_
  obtain ⟨o1, e, hw⟩ := hw
  refine zT_st (pc' := 5) (L' := [some (.ref a0), none]) (st' := [.ref o1, .ref a0]) (h' := h) 1 (fun n => fld_eq (E := E) e _) ?_
  obtain ⟨x2, e, hw⟩ := hw
  refine zT_st (pc' := 8) (L' := [some (.ref a0), none]) (st' := [.int x2, .ref a0]) (h' := h) 1 (fun n => fld_eq (E := E) e _) ?_
  obtain ⟨hq, hw⟩ := hw
  obtain ⟨x3, h4, hx, hw⟩ := hw
  refine zT_call (pc' := 11) (rest := []) 1 (fun n => rfl) hq hx ?_
  show zT E (d + 1) m_Chance_treadDrawn 11 [some (.ref a0), none] [.int x3] h4 r
  refine zT_st (pc' := 13) (L' := [some (.ref a0), some (.int x3)]) (st' := [.ref a0]) (h' := h4) 2 (fun n => rfl) ?_
  obtain ⟨o5, e, hw⟩ := hw
  refine zT_st (pc' := 16) (L' := [some (.ref a0), some (.int x3)]) (st' := [.ref o5]) (h' := h4) 1 (fun n => fld_eq (E := E) e _) ?_
  refine zT_st (pc' := 17) (L' := [some (.ref a0), some (.int x3)]) (st' := [.int x3, .ref o5]) (h' := h4) 1 (fun n => rfl) ?_
  obtain ⟨hq, hw⟩ := hw
  obtain ⟨x6, h7, hx, hw⟩ := hw
  refine zT_call (pc' := 20) (rest := []) 1 (fun n => rfl) hq hx ?_
  show zT E (d + 1) m_Chance_treadDrawn 20 [some (.ref a0), some (.int x3)] [.int x6] h7 r
  by_cases hc : x6 = 0
  · rw [if_pos hc] at hw
    refine zT_st (pc' := 49) (L' := [some (.ref a0), some (.int x3)]) (st' := []) (h' := h7) 1 (fun n => if_pos hc) ?_
    subst hw
    exact zT_ret 1 rfl
  · rw [if_neg hc] at hw
    refine zT_st (pc' := 23) (L' := [some (.ref a0), some (.int x3)]) (st' := []) (h' := h7) 1 (fun n => if_neg hc) ?_
    refine zT_st (pc' := 25) (L' := [some (.ref a0), some (.int x3)]) (st' := [.ref a0, .ref a0]) (h' := h7) 2 (fun n => rfl) ?_
    obtain ⟨x8, e, hw⟩ := hw
    refine zT_st (pc' := 28) (L' := [some (.ref a0), some (.int x3)]) (st' := [.int x8, .ref a0]) (h' := h7) 1 (fun n => fld_eq (E := E) e _) ?_
    refine zT_st (pc' := 29) (L' := [some (.ref a0), some (.int x3)]) (st' := [.ref a0, .int x8, .ref a0]) (h' := h7) 1 (fun n => rfl) ?_
    obtain ⟨o9, e, hw⟩ := hw
    refine zT_st (pc' := 32) (L' := [some (.ref a0), some (.int x3)]) (st' := [.ref o9, .int x8, .ref a0]) (h' := h7) 1 (fun n => fld_eq (E := E) e _) ?_
    refine zT_st (pc' := 33) (L' := [some (.ref a0), some (.int x3)]) (st' := [.ref a0, .ref o9, .int x8, .ref a0]) (h' := h7) 1 (fun n => rfl) ?_
    obtain ⟨o10, e, hw⟩ := hw
    refine zT_st (pc' := 36) (L' := [some (.ref a0), some (.int x3)]) (st' := [.ref o10, .ref o9, .int x8, .ref a0]) (h' := h7) 1 (fun n => fld_eq (E := E) e _) ?_
    refine zT_st (pc' := 39) (L' := [some (.ref a0), some (.int x3)]) (st' := [.int (1 <<< (x3 &&& 31)), .ref o10, .ref o9, .int x8, .ref a0]) (h' := h7) 3 (fun n => rfl) ?_
    obtain ⟨hq, hw⟩ := hw
    obtain ⟨x11, h12, hx, hw⟩ := hw
    refine zT_call (pc' := 42) (rest := [.int x8, .ref a0]) 1 (fun n => rfl) hq hx ?_
    show zT E (d + 1) m_Chance_treadDrawn 42 [some (.ref a0), some (.int x3)] [.int x11, .int x8, .ref a0] h12 r
    obtain ⟨x13, h14, hx, hw⟩ := hw
    refine zT_call (pc' := 45) (rest := [.int x8, .ref a0]) 1 (fun n => rfl) rfl hx ?_
    show zT E (d + 1) m_Chance_treadDrawn 45 [some (.ref a0), some (.int x3)] [.int x13, .int x8, .ref a0] h14 r
    refine zT_st (pc' := 46) (L' := [some (.ref a0), some (.int x3)]) (st' := [.int (x8 + x13), .ref a0]) (h' := h14) 1 (fun n => rfl) ?_
    obtain ⟨⟨w, e⟩, hw⟩ := hw
    refine zT_st (pc' := 49) (L' := [some (.ref a0), some (.int x3)]) (st' := []) (h' := (setF h14 a0 0 (.int (x8 + x13)))) 1 (fun n => put_eq e rfl _ _) ?_
    subst hw
    exact zT_ret 1 rfl
-- s_Forecast_init_0: by hand
set_option maxRecDepth 4000 in
theorem s_Forecast_firstToBurst_0 (E : zX) (d : Nat) (a0 : Nat) (h : zH) (r : zO × zH)
    (hw : isO h a0 3 = true ∧ ∃ (x1 : Int32) (h2 : zH), zT E d m_Forecast_firstDay 0 [some (.ref a0), some (.int 0), some (.int (-1)), none] [] h (.inl (some (.int x1)), h2) ∧
    if x1 = (-1) then (
      r = (.inl (some (.int (-1))), h2))
    else (
      zT E (d + 1) m_Forecast_firstToBurst 14 [some (.ref a0), some (.int 0)] [] h2 r)) :
    zT E (d + 1) m_Forecast_firstToBurst 0 [some (.ref a0), none] [] h r := by
  refine zT_st (pc' := 3) (L' := [some (.ref a0), none]) (st' := [.int (-1), .int 0, .ref a0]) (h' := h) 3 (fun n => rfl) ?_
  obtain ⟨hq, hw⟩ := hw
  obtain ⟨x1, h2, hx, hw⟩ := hw
  refine zT_call (pc' := 6) (rest := []) 1 (fun n => rfl) hq hx ?_
  show zT E (d + 1) m_Forecast_firstToBurst 6 [some (.ref a0), none] [.int x1] h2 r
  refine zT_st (pc' := 7) (L' := [some (.ref a0), none]) (st' := [.int (-1), .int x1]) (h' := h2) 1 (fun n => rfl) ?_
  by_cases hc : x1 = (-1)
  · rw [if_pos hc] at hw
    refine zT_st (pc' := 10) (L' := [some (.ref a0), none]) (st' := []) (h' := h2) 1 (fun n => if_pos hc) ?_
    subst hw
    exact zT_ret 2 rfl
  · rw [if_neg hc] at hw
    refine zT_st (pc' := 12) (L' := [some (.ref a0), none]) (st' := []) (h' := h2) 1 (fun n => if_neg hc) ?_
    exact zT_st 2 (fun n => rfl) hw
set_option maxRecDepth 4000 in
theorem s_Forecast_firstToBurst_14 (E : zX) (d : Nat) (a0 : Nat) (a1 : Int32) (h : zH) (r : zO × zH)
    (hw : if 10 ≤ a1 then (
      r = (.inl (some (.int (-1))), h))
    else (
      ∃ o1 : Nat, fld h a0 3 0 = some (.ref o1) ∧
      ∃ o2 : Nat, fld h o1 2 1 = some (.ref o2) ∧
      ∃ (n3 : Nat) (f4 : Nat → Int32), arr h o2 = some (n3, f4) ∧ ¬ ((0 : Int32) < 0 ∨ n3 ≤ ((0 : Int32)).toNatClampNeg) ∧
      if ((f4 ((0 : Int32)).toNatClampNeg) &&& (1 <<< (a1 &&& 31))) = 0 then (
        zT E (d + 1) m_Forecast_firstToBurst 14 [some (.ref a0), some (.int (a1 + 1))] [] h r)
      else (
        r = (.inl (some (.int a1)), h)))) :
    zT E (d + 1) m_Forecast_firstToBurst 14 [some (.ref a0), some (.int a1)] [] h r := by
  refine zT_st (pc' := 17) (L' := [some (.ref a0), some (.int a1)]) (st' := [.int 10, .int a1]) (h' := h) 2 (fun n => rfl) ?_
  by_cases hc : 10 ≤ a1
  · rw [if_pos hc] at hw
    refine zT_st (pc' := 44) (L' := [some (.ref a0), some (.int a1)]) (st' := []) (h' := h) 1 (fun n => if_pos hc) ?_
    subst hw
    exact zT_ret 2 rfl
  · rw [if_neg hc] at hw
    refine zT_st (pc' := 20) (L' := [some (.ref a0), some (.int a1)]) (st' := []) (h' := h) 1 (fun n => if_neg hc) ?_
    refine zT_st (pc' := 21) (L' := [some (.ref a0), some (.int a1)]) (st' := [.ref a0]) (h' := h) 1 (fun n => rfl) ?_
    obtain ⟨o1, e, hw⟩ := hw
    refine zT_st (pc' := 24) (L' := [some (.ref a0), some (.int a1)]) (st' := [.ref o1]) (h' := h) 1 (fun n => fld_eq (E := E) e _) ?_
    obtain ⟨o2, e, hw⟩ := hw
    refine zT_st (pc' := 27) (L' := [some (.ref a0), some (.int a1)]) (st' := [.ref o2]) (h' := h) 1 (fun n => fld_eq (E := E) e _) ?_
    refine zT_st (pc' := 28) (L' := [some (.ref a0), some (.int a1)]) (st' := [.int 0, .ref o2]) (h' := h) 1 (fun n => rfl) ?_
    obtain ⟨n3, f4, e, hi, hw⟩ := hw
    refine zT_st (pc' := 29) (L' := [some (.ref a0), some (.int a1)]) (st' := [.int (f4 ((0 : Int32)).toNatClampNeg)]) (h' := h) 1 (fun n => arr_eq (E := E) e hi [] (fun st => zrun zP zCd E n (d + 1) m_Forecast_firstToBurst 29 [some (.ref a0), some (.int a1)] st h)) ?_
    refine zT_st (pc' := 33) (L' := [some (.ref a0), some (.int a1)]) (st' := [.int ((f4 ((0 : Int32)).toNatClampNeg) &&& (1 <<< (a1 &&& 31)))]) (h' := h) 4 (fun n => rfl) ?_
    by_cases hc : ((f4 ((0 : Int32)).toNatClampNeg) &&& (1 <<< (a1 &&& 31))) = 0
    · rw [if_pos hc] at hw
      refine zT_st (pc' := 38) (L' := [some (.ref a0), some (.int a1)]) (st' := []) (h' := h) 1 (fun n => if_pos hc) ?_
      exact zT_st 2 (fun n => rfl) hw
    · rw [if_neg hc] at hw
      refine zT_st (pc' := 36) (L' := [some (.ref a0), some (.int a1)]) (st' := []) (h' := h) 1 (fun n => if_neg hc) ?_
      subst hw
      exact zT_ret 2 rfl
set_option maxRecDepth 4000 in
theorem s_Forecast_firstDay_0 (E : zX) (d : Nat) (a0 : Nat) (a1 : Int32) (a2 : Int32) (h : zH) (r : zO × zH)
    (hw : ∃ o1 : Nat, fld h a0 3 2 = some (.ref o1) ∧
    ∃ o2 : Nat, fld h a0 3 1 = some (.ref o2) ∧
    isO h o1 10 = true ∧ ∃ (h4 : zH), zT E d m_Scene_copyFrom 0 [some (.ref o1), some (.ref o2)] [] h (.inl none, h4) ∧
    zT E (d + 1) m_Forecast_firstDay 13 [some (.ref a0), some (.int a1), some (.int a2), some (.int 1)] [] h4 r) :
    zT E (d + 1) m_Forecast_firstDay 0 [some (.ref a0), some (.int a1), some (.int a2), none] [] h r := by
  refine zT_st (pc' := 1) (L' := [some (.ref a0), some (.int a1), some (.int a2), none]) (st' := [.ref a0]) (h' := h) 1 (fun n => rfl) ?_
  obtain ⟨o1, e, hw⟩ := hw
  refine zT_st (pc' := 4) (L' := [some (.ref a0), some (.int a1), some (.int a2), none]) (st' := [.ref o1]) (h' := h) 1 (fun n => fld_eq (E := E) e _) ?_
  refine zT_st (pc' := 5) (L' := [some (.ref a0), some (.int a1), some (.int a2), none]) (st' := [.ref a0, .ref o1]) (h' := h) 1 (fun n => rfl) ?_
  obtain ⟨o2, e, hw⟩ := hw
  refine zT_st (pc' := 8) (L' := [some (.ref a0), some (.int a1), some (.int a2), none]) (st' := [.ref o2, .ref o1]) (h' := h) 1 (fun n => fld_eq (E := E) e _) ?_
  obtain ⟨hq, hw⟩ := hw
  obtain ⟨h4, hx, hw⟩ := hw
  refine zT_call (pc' := 11) (rest := []) 1 (fun n => rfl) hq hx ?_
  show zT E (d + 1) m_Forecast_firstDay 11 [some (.ref a0), some (.int a1), some (.int a2), none] [] h4 r
  exact zT_st 2 (fun n => rfl) hw
set_option maxRecDepth 4000 in
theorem s_Forecast_firstDay_13 (E : zX) (d : Nat) (a0 : Nat) (a1 : Int32) (a2 : Int32) (a3 : Int32) (h : zH) (r : zO × zH)
    (hw : if 60 < a3 then (
      r = (.inl (some (.int (-1))), h))
    else (
      ∃ o1 : Nat, fld h a0 3 0 = some (.ref o1) ∧
      ∃ o2 : Nat, fld h a0 3 2 = some (.ref o2) ∧
      isO h o1 2 = true ∧ ∃ (h4 : zH), zT E d m_Downs_passDay 0 [some (.ref o1), some (.ref o2), none] [] h (.inl none, h4) ∧
      ∃ o5 : Nat, fld h4 a0 3 0 = some (.ref o5) ∧
      ∃ o6 : Nat, fld h4 o5 2 1 = some (.ref o6) ∧
      ∃ (n7 : Nat) (f8 : Nat → Int32), arr h4 o6 = some (n7, f8) ∧ ¬ (a1 < 0 ∨ n7 ≤ (a1).toNatClampNeg) ∧
      if ((f8 (a1).toNatClampNeg) &&& a2) = 0 then (
        zT E (d + 1) m_Forecast_firstDay 13 [some (.ref a0), some (.int a1), some (.int a2), some (.int (a3 + 1))] [] h4 r)
      else (
        r = (.inl (some (.int a3)), h4)))) :
    zT E (d + 1) m_Forecast_firstDay 13 [some (.ref a0), some (.int a1), some (.int a2), some (.int a3)] [] h r := by
  refine zT_st (pc' := 16) (L' := [some (.ref a0), some (.int a1), some (.int a2), some (.int a3)]) (st' := [.int 60, .int a3]) (h' := h) 2 (fun n => rfl) ?_
  by_cases hc : 60 < a3
  · rw [if_pos hc] at hw
    refine zT_st (pc' := 52) (L' := [some (.ref a0), some (.int a1), some (.int a2), some (.int a3)]) (st' := []) (h' := h) 1 (fun n => if_pos hc) ?_
    subst hw
    exact zT_ret 2 rfl
  · rw [if_neg hc] at hw
    refine zT_st (pc' := 19) (L' := [some (.ref a0), some (.int a1), some (.int a2), some (.int a3)]) (st' := []) (h' := h) 1 (fun n => if_neg hc) ?_
    refine zT_st (pc' := 20) (L' := [some (.ref a0), some (.int a1), some (.int a2), some (.int a3)]) (st' := [.ref a0]) (h' := h) 1 (fun n => rfl) ?_
    obtain ⟨o1, e, hw⟩ := hw
    refine zT_st (pc' := 23) (L' := [some (.ref a0), some (.int a1), some (.int a2), some (.int a3)]) (st' := [.ref o1]) (h' := h) 1 (fun n => fld_eq (E := E) e _) ?_
    refine zT_st (pc' := 24) (L' := [some (.ref a0), some (.int a1), some (.int a2), some (.int a3)]) (st' := [.ref a0, .ref o1]) (h' := h) 1 (fun n => rfl) ?_
    obtain ⟨o2, e, hw⟩ := hw
    refine zT_st (pc' := 27) (L' := [some (.ref a0), some (.int a1), some (.int a2), some (.int a3)]) (st' := [.ref o2, .ref o1]) (h' := h) 1 (fun n => fld_eq (E := E) e _) ?_
    obtain ⟨hq, hw⟩ := hw
    obtain ⟨h4, hx, hw⟩ := hw
    refine zT_call (pc' := 30) (rest := []) 1 (fun n => rfl) hq hx ?_
    show zT E (d + 1) m_Forecast_firstDay 30 [some (.ref a0), some (.int a1), some (.int a2), some (.int a3)] [] h4 r
    refine zT_st (pc' := 31) (L' := [some (.ref a0), some (.int a1), some (.int a2), some (.int a3)]) (st' := [.ref a0]) (h' := h4) 1 (fun n => rfl) ?_
    obtain ⟨o5, e, hw⟩ := hw
    refine zT_st (pc' := 34) (L' := [some (.ref a0), some (.int a1), some (.int a2), some (.int a3)]) (st' := [.ref o5]) (h' := h4) 1 (fun n => fld_eq (E := E) e _) ?_
    obtain ⟨o6, e, hw⟩ := hw
    refine zT_st (pc' := 37) (L' := [some (.ref a0), some (.int a1), some (.int a2), some (.int a3)]) (st' := [.ref o6]) (h' := h4) 1 (fun n => fld_eq (E := E) e _) ?_
    refine zT_st (pc' := 38) (L' := [some (.ref a0), some (.int a1), some (.int a2), some (.int a3)]) (st' := [.int a1, .ref o6]) (h' := h4) 1 (fun n => rfl) ?_
    obtain ⟨n7, f8, e, hi, hw⟩ := hw
    refine zT_st (pc' := 39) (L' := [some (.ref a0), some (.int a1), some (.int a2), some (.int a3)]) (st' := [.int (f8 (a1).toNatClampNeg)]) (h' := h4) 1 (fun n => arr_eq (E := E) e hi [] (fun st => zrun zP zCd E n (d + 1) m_Forecast_firstDay 39 [some (.ref a0), some (.int a1), some (.int a2), some (.int a3)] st h4)) ?_
    refine zT_st (pc' := 41) (L' := [some (.ref a0), some (.int a1), some (.int a2), some (.int a3)]) (st' := [.int ((f8 (a1).toNatClampNeg) &&& a2)]) (h' := h4) 2 (fun n => rfl) ?_
    by_cases hc : ((f8 (a1).toNatClampNeg) &&& a2) = 0
    · rw [if_pos hc] at hw
      refine zT_st (pc' := 46) (L' := [some (.ref a0), some (.int a1), some (.int a2), some (.int a3)]) (st' := []) (h' := h4) 1 (fun n => if_pos hc) ?_
      exact zT_st 2 (fun n => rfl) hw
    · rw [if_neg hc] at hw
      refine zT_st (pc' := 44) (L' := [some (.ref a0), some (.int a1), some (.int a2), some (.int a3)]) (st' := []) (h' := h4) 1 (fun n => if_neg hc) ?_
      subst hw
      exact zT_ret 2 rfl
set_option maxRecDepth 4000 in
theorem s_Forecast_behind_0 (E : zX) (d : Nat) (a0 : Nat) (a1 : Int32) (h : zH) (r : zO × zH)
    (hw : ∃ o1 : Nat, fld h a0 3 2 = some (.ref o1) ∧
    ∃ o2 : Nat, fld h a0 3 1 = some (.ref o2) ∧
    isO h o1 10 = true ∧ ∃ (h4 : zH), zT E d m_Scene_copyFrom 0 [some (.ref o1), some (.ref o2)] [] h (.inl none, h4) ∧
    zT E (d + 1) m_Forecast_behind 13 [some (.ref a0), some (.int a1), some (.int 1)] [] h4 r) :
    zT E (d + 1) m_Forecast_behind 0 [some (.ref a0), some (.int a1), none] [] h r := by
  refine zT_st (pc' := 1) (L' := [some (.ref a0), some (.int a1), none]) (st' := [.ref a0]) (h' := h) 1 (fun n => rfl) ?_
  obtain ⟨o1, e, hw⟩ := hw
  refine zT_st (pc' := 4) (L' := [some (.ref a0), some (.int a1), none]) (st' := [.ref o1]) (h' := h) 1 (fun n => fld_eq (E := E) e _) ?_
  refine zT_st (pc' := 5) (L' := [some (.ref a0), some (.int a1), none]) (st' := [.ref a0, .ref o1]) (h' := h) 1 (fun n => rfl) ?_
  obtain ⟨o2, e, hw⟩ := hw
  refine zT_st (pc' := 8) (L' := [some (.ref a0), some (.int a1), none]) (st' := [.ref o2, .ref o1]) (h' := h) 1 (fun n => fld_eq (E := E) e _) ?_
  obtain ⟨hq, hw⟩ := hw
  obtain ⟨h4, hx, hw⟩ := hw
  refine zT_call (pc' := 11) (rest := []) 1 (fun n => rfl) hq hx ?_
  show zT E (d + 1) m_Forecast_behind 11 [some (.ref a0), some (.int a1), none] [] h4 r
  exact zT_st 2 (fun n => rfl) hw
set_option maxRecDepth 4000 in
theorem s_Forecast_behind_13 (E : zX) (d : Nat) (a0 : Nat) (a1 : Int32) (a2 : Int32) (h : zH) (r : zO × zH)
    (hw : if a1 < a2 then (
      ∃ o1 : Nat, fld h a0 3 2 = some (.ref o1) ∧
      r = (.inl (some (.ref o1)), h))
    else (
      ∃ o2 : Nat, fld h a0 3 0 = some (.ref o2) ∧
      ∃ o3 : Nat, fld h a0 3 2 = some (.ref o3) ∧
      isO h o2 2 = true ∧ ∃ (h5 : zH), zT E d m_Downs_passDay 0 [some (.ref o2), some (.ref o3), none] [] h (.inl none, h5) ∧
      zT E (d + 1) m_Forecast_behind 13 [some (.ref a0), some (.int a1), some (.int (a2 + 1))] [] h5 r)) :
    zT E (d + 1) m_Forecast_behind 13 [some (.ref a0), some (.int a1), some (.int a2)] [] h r := by
  refine zT_st (pc' := 15) (L' := [some (.ref a0), some (.int a1), some (.int a2)]) (st' := [.int a1, .int a2]) (h' := h) 2 (fun n => rfl) ?_
  by_cases hc : a1 < a2
  · rw [if_pos hc] at hw
    refine zT_st (pc' := 35) (L' := [some (.ref a0), some (.int a1), some (.int a2)]) (st' := []) (h' := h) 1 (fun n => if_pos hc) ?_
    refine zT_st (pc' := 36) (L' := [some (.ref a0), some (.int a1), some (.int a2)]) (st' := [.ref a0]) (h' := h) 1 (fun n => rfl) ?_
    obtain ⟨o1, e, hw⟩ := hw
    refine zT_st (pc' := 39) (L' := [some (.ref a0), some (.int a1), some (.int a2)]) (st' := [.ref o1]) (h' := h) 1 (fun n => fld_eq (E := E) e _) ?_
    subst hw
    exact zT_ret 1 rfl
  · rw [if_neg hc] at hw
    refine zT_st (pc' := 18) (L' := [some (.ref a0), some (.int a1), some (.int a2)]) (st' := []) (h' := h) 1 (fun n => if_neg hc) ?_
    refine zT_st (pc' := 19) (L' := [some (.ref a0), some (.int a1), some (.int a2)]) (st' := [.ref a0]) (h' := h) 1 (fun n => rfl) ?_
    obtain ⟨o2, e, hw⟩ := hw
    refine zT_st (pc' := 22) (L' := [some (.ref a0), some (.int a1), some (.int a2)]) (st' := [.ref o2]) (h' := h) 1 (fun n => fld_eq (E := E) e _) ?_
    refine zT_st (pc' := 23) (L' := [some (.ref a0), some (.int a1), some (.int a2)]) (st' := [.ref a0, .ref o2]) (h' := h) 1 (fun n => rfl) ?_
    obtain ⟨o3, e, hw⟩ := hw
    refine zT_st (pc' := 26) (L' := [some (.ref a0), some (.int a1), some (.int a2)]) (st' := [.ref o3, .ref o2]) (h' := h) 1 (fun n => fld_eq (E := E) e _) ?_
    obtain ⟨hq, hw⟩ := hw
    obtain ⟨h5, hx, hw⟩ := hw
    refine zT_call (pc' := 29) (rest := []) 1 (fun n => rfl) hq hx ?_
    show zT E (d + 1) m_Forecast_behind 29 [some (.ref a0), some (.int a1), some (.int a2)] [] h5 r
    exact zT_st 2 (fun n => rfl) hw
set_option maxRecDepth 4000 in
theorem s_Forecast_bursts_0 (E : zX) (d : Nat) (a0 : Nat) (a1 : Int32) (h : zH) (r : zO × zH)
    (hw : ∃ o1 : Nat, fld h a0 3 2 = some (.ref o1) ∧
    ∃ o2 : Nat, fld h a0 3 1 = some (.ref o2) ∧
    isO h o1 10 = true ∧ ∃ (h4 : zH), zT E d m_Scene_copyFrom 0 [some (.ref o1), some (.ref o2)] [] h (.inl none, h4) ∧
    zT E (d + 1) m_Forecast_bursts 15 [some (.ref a0), some (.int a1), some (.int 0), some (.int 1)] [] h4 r) :
    zT E (d + 1) m_Forecast_bursts 0 [some (.ref a0), some (.int a1), none, none] [] h r := by
  refine zT_st (pc' := 3) (L' := [some (.ref a0), some (.int a1), some (.int 0), none]) (st' := [.ref a0]) (h' := h) 3 (fun n => rfl) ?_
  obtain ⟨o1, e, hw⟩ := hw
  refine zT_st (pc' := 6) (L' := [some (.ref a0), some (.int a1), some (.int 0), none]) (st' := [.ref o1]) (h' := h) 1 (fun n => fld_eq (E := E) e _) ?_
  refine zT_st (pc' := 7) (L' := [some (.ref a0), some (.int a1), some (.int 0), none]) (st' := [.ref a0, .ref o1]) (h' := h) 1 (fun n => rfl) ?_
  obtain ⟨o2, e, hw⟩ := hw
  refine zT_st (pc' := 10) (L' := [some (.ref a0), some (.int a1), some (.int 0), none]) (st' := [.ref o2, .ref o1]) (h' := h) 1 (fun n => fld_eq (E := E) e _) ?_
  obtain ⟨hq, hw⟩ := hw
  obtain ⟨h4, hx, hw⟩ := hw
  refine zT_call (pc' := 13) (rest := []) 1 (fun n => rfl) hq hx ?_
  show zT E (d + 1) m_Forecast_bursts 13 [some (.ref a0), some (.int a1), some (.int 0), none] [] h4 r
  exact zT_st 2 (fun n => rfl) hw
set_option maxRecDepth 4000 in
theorem s_Forecast_bursts_15 (E : zX) (d : Nat) (a0 : Nat) (a1 : Int32) (a2 : Int32) (a3 : Int32) (h : zH) (r : zO × zH)
    (hw : if a1 < a3 then (
      r = (.inl (some (.int a2)), h))
    else (
      ∃ o1 : Nat, fld h a0 3 0 = some (.ref o1) ∧
      ∃ o2 : Nat, fld h a0 3 2 = some (.ref o2) ∧
      isO h o1 2 = true ∧ ∃ (h4 : zH), zT E d m_Downs_passDay 0 [some (.ref o1), some (.ref o2), none] [] h (.inl none, h4) ∧
      ∃ o5 : Nat, fld h4 a0 3 0 = some (.ref o5) ∧
      ∃ o6 : Nat, fld h4 o5 2 1 = some (.ref o6) ∧
      ∃ (n7 : Nat) (f8 : Nat → Int32), arr h4 o6 = some (n7, f8) ∧ ¬ ((0 : Int32) < 0 ∨ n7 ≤ ((0 : Int32)).toNatClampNeg) ∧
      ∃ (x9 : Int32) (h10 : zH), zT E d m_Integer_bitCount 0 [some (.int (f8 ((0 : Int32)).toNatClampNeg))] [] h4 (.inl (some (.int x9)), h10) ∧
      zT E (d + 1) m_Forecast_bursts 15 [some (.ref a0), some (.int a1), some (.int (a2 + x9)), some (.int (a3 + 1))] [] h10 r)) :
    zT E (d + 1) m_Forecast_bursts 15 [some (.ref a0), some (.int a1), some (.int a2), some (.int a3)] [] h r := by
  refine zT_st (pc' := 17) (L' := [some (.ref a0), some (.int a1), some (.int a2), some (.int a3)]) (st' := [.int a1, .int a3]) (h' := h) 2 (fun n => rfl) ?_
  by_cases hc : a1 < a3
  · rw [if_pos hc] at hw
    refine zT_st (pc' := 52) (L' := [some (.ref a0), some (.int a1), some (.int a2), some (.int a3)]) (st' := []) (h' := h) 1 (fun n => if_pos hc) ?_
    subst hw
    exact zT_ret 2 rfl
  · rw [if_neg hc] at hw
    refine zT_st (pc' := 20) (L' := [some (.ref a0), some (.int a1), some (.int a2), some (.int a3)]) (st' := []) (h' := h) 1 (fun n => if_neg hc) ?_
    refine zT_st (pc' := 21) (L' := [some (.ref a0), some (.int a1), some (.int a2), some (.int a3)]) (st' := [.ref a0]) (h' := h) 1 (fun n => rfl) ?_
    obtain ⟨o1, e, hw⟩ := hw
    refine zT_st (pc' := 24) (L' := [some (.ref a0), some (.int a1), some (.int a2), some (.int a3)]) (st' := [.ref o1]) (h' := h) 1 (fun n => fld_eq (E := E) e _) ?_
    refine zT_st (pc' := 25) (L' := [some (.ref a0), some (.int a1), some (.int a2), some (.int a3)]) (st' := [.ref a0, .ref o1]) (h' := h) 1 (fun n => rfl) ?_
    obtain ⟨o2, e, hw⟩ := hw
    refine zT_st (pc' := 28) (L' := [some (.ref a0), some (.int a1), some (.int a2), some (.int a3)]) (st' := [.ref o2, .ref o1]) (h' := h) 1 (fun n => fld_eq (E := E) e _) ?_
    obtain ⟨hq, hw⟩ := hw
    obtain ⟨h4, hx, hw⟩ := hw
    refine zT_call (pc' := 31) (rest := []) 1 (fun n => rfl) hq hx ?_
    show zT E (d + 1) m_Forecast_bursts 31 [some (.ref a0), some (.int a1), some (.int a2), some (.int a3)] [] h4 r
    refine zT_st (pc' := 33) (L' := [some (.ref a0), some (.int a1), some (.int a2), some (.int a3)]) (st' := [.ref a0, .int a2]) (h' := h4) 2 (fun n => rfl) ?_
    obtain ⟨o5, e, hw⟩ := hw
    refine zT_st (pc' := 36) (L' := [some (.ref a0), some (.int a1), some (.int a2), some (.int a3)]) (st' := [.ref o5, .int a2]) (h' := h4) 1 (fun n => fld_eq (E := E) e _) ?_
    obtain ⟨o6, e, hw⟩ := hw
    refine zT_st (pc' := 39) (L' := [some (.ref a0), some (.int a1), some (.int a2), some (.int a3)]) (st' := [.ref o6, .int a2]) (h' := h4) 1 (fun n => fld_eq (E := E) e _) ?_
    refine zT_st (pc' := 40) (L' := [some (.ref a0), some (.int a1), some (.int a2), some (.int a3)]) (st' := [.int 0, .ref o6, .int a2]) (h' := h4) 1 (fun n => rfl) ?_
    obtain ⟨n7, f8, e, hi, hw⟩ := hw
    refine zT_st (pc' := 41) (L' := [some (.ref a0), some (.int a1), some (.int a2), some (.int a3)]) (st' := [.int (f8 ((0 : Int32)).toNatClampNeg), .int a2]) (h' := h4) 1 (fun n => arr_eq (E := E) e hi [.int a2] (fun st => zrun zP zCd E n (d + 1) m_Forecast_bursts 41 [some (.ref a0), some (.int a1), some (.int a2), some (.int a3)] st h4)) ?_
    obtain ⟨x9, h10, hx, hw⟩ := hw
    refine zT_call (pc' := 44) (rest := [.int a2]) 1 (fun n => rfl) rfl hx ?_
    show zT E (d + 1) m_Forecast_bursts 44 [some (.ref a0), some (.int a1), some (.int a2), some (.int a3)] [.int x9, .int a2] h10 r
    exact zT_st 4 (fun n => rfl) hw
set_option maxRecDepth 4000 in
theorem s_Forecast_calmDays_0 (E : zX) (d : Nat) (a0 : Nat) (a1 : Int32) (h : zH) (r : zO × zH)
    (hw : ∃ o1 : Nat, fld h a0 3 2 = some (.ref o1) ∧
    ∃ o2 : Nat, fld h a0 3 1 = some (.ref o2) ∧
    isO h o1 10 = true ∧ ∃ (h4 : zH), zT E d m_Scene_copyFrom 0 [some (.ref o1), some (.ref o2)] [] h (.inl none, h4) ∧
    zT E (d + 1) m_Forecast_calmDays 15 [some (.ref a0), some (.int a1), some (.int 0), some (.int 1)] [] h4 r) :
    zT E (d + 1) m_Forecast_calmDays 0 [some (.ref a0), some (.int a1), none, none] [] h r := by
  refine zT_st (pc' := 3) (L' := [some (.ref a0), some (.int a1), some (.int 0), none]) (st' := [.ref a0]) (h' := h) 3 (fun n => rfl) ?_
  obtain ⟨o1, e, hw⟩ := hw
  refine zT_st (pc' := 6) (L' := [some (.ref a0), some (.int a1), some (.int 0), none]) (st' := [.ref o1]) (h' := h) 1 (fun n => fld_eq (E := E) e _) ?_
  refine zT_st (pc' := 7) (L' := [some (.ref a0), some (.int a1), some (.int 0), none]) (st' := [.ref a0, .ref o1]) (h' := h) 1 (fun n => rfl) ?_
  obtain ⟨o2, e, hw⟩ := hw
  refine zT_st (pc' := 10) (L' := [some (.ref a0), some (.int a1), some (.int 0), none]) (st' := [.ref o2, .ref o1]) (h' := h) 1 (fun n => fld_eq (E := E) e _) ?_
  obtain ⟨hq, hw⟩ := hw
  obtain ⟨h4, hx, hw⟩ := hw
  refine zT_call (pc' := 13) (rest := []) 1 (fun n => rfl) hq hx ?_
  show zT E (d + 1) m_Forecast_calmDays 13 [some (.ref a0), some (.int a1), some (.int 0), none] [] h4 r
  exact zT_st 2 (fun n => rfl) hw
set_option maxRecDepth 4000 in
theorem s_Forecast_calmDays_15 (E : zX) (d : Nat) (a0 : Nat) (a1 : Int32) (a2 : Int32) (a3 : Int32) (h : zH) (r : zO × zH)
    (hw : if a1 < a3 then (
      r = (.inl (some (.int a2)), h))
    else (
      ∃ o1 : Nat, fld h a0 3 0 = some (.ref o1) ∧
      ∃ o2 : Nat, fld h a0 3 2 = some (.ref o2) ∧
      isO h o1 2 = true ∧ ∃ (h4 : zH), zT E d m_Downs_passDay 0 [some (.ref o1), some (.ref o2), none] [] h (.inl none, h4) ∧
      ∃ o5 : Nat, fld h4 a0 3 0 = some (.ref o5) ∧
      ∃ o6 : Nat, fld h4 o5 2 1 = some (.ref o6) ∧
      ∃ (n7 : Nat) (f8 : Nat → Int32), arr h4 o6 = some (n7, f8) ∧ ¬ ((0 : Int32) < 0 ∨ n7 ≤ ((0 : Int32)).toNatClampNeg) ∧
      if (f8 ((0 : Int32)).toNatClampNeg) = 0 then (
        ∃ o9 : Nat, fld h4 a0 3 0 = some (.ref o9) ∧
        ∃ o10 : Nat, fld h4 o9 2 1 = some (.ref o10) ∧
        ∃ (n11 : Nat) (f12 : Nat → Int32), arr h4 o10 = some (n11, f12) ∧ ¬ ((2 : Int32) < 0 ∨ n11 ≤ ((2 : Int32)).toNatClampNeg) ∧
        if (f12 ((2 : Int32)).toNatClampNeg) = 0 then (
          zT E (d + 1) m_Forecast_calmDays 15 [some (.ref a0), some (.int a1), some (.int (a2 + 1)), some (.int (a3 + 1))] [] h4 r)
        else (
          zT E (d + 1) m_Forecast_calmDays 15 [some (.ref a0), some (.int a1), some (.int a2), some (.int (a3 + 1))] [] h4 r))
      else (
        zT E (d + 1) m_Forecast_calmDays 15 [some (.ref a0), some (.int a1), some (.int a2), some (.int (a3 + 1))] [] h4 r))) :
    zT E (d + 1) m_Forecast_calmDays 15 [some (.ref a0), some (.int a1), some (.int a2), some (.int a3)] [] h r := by
  refine zT_st (pc' := 17) (L' := [some (.ref a0), some (.int a1), some (.int a2), some (.int a3)]) (st' := [.int a1, .int a3]) (h' := h) 2 (fun n => rfl) ?_
  by_cases hc : a1 < a3
  · rw [if_pos hc] at hw
    refine zT_st (pc' := 64) (L' := [some (.ref a0), some (.int a1), some (.int a2), some (.int a3)]) (st' := []) (h' := h) 1 (fun n => if_pos hc) ?_
    subst hw
    exact zT_ret 2 rfl
  · rw [if_neg hc] at hw
    refine zT_st (pc' := 20) (L' := [some (.ref a0), some (.int a1), some (.int a2), some (.int a3)]) (st' := []) (h' := h) 1 (fun n => if_neg hc) ?_
    refine zT_st (pc' := 21) (L' := [some (.ref a0), some (.int a1), some (.int a2), some (.int a3)]) (st' := [.ref a0]) (h' := h) 1 (fun n => rfl) ?_
    obtain ⟨o1, e, hw⟩ := hw
    refine zT_st (pc' := 24) (L' := [some (.ref a0), some (.int a1), some (.int a2), some (.int a3)]) (st' := [.ref o1]) (h' := h) 1 (fun n => fld_eq (E := E) e _) ?_
    refine zT_st (pc' := 25) (L' := [some (.ref a0), some (.int a1), some (.int a2), some (.int a3)]) (st' := [.ref a0, .ref o1]) (h' := h) 1 (fun n => rfl) ?_
    obtain ⟨o2, e, hw⟩ := hw
    refine zT_st (pc' := 28) (L' := [some (.ref a0), some (.int a1), some (.int a2), some (.int a3)]) (st' := [.ref o2, .ref o1]) (h' := h) 1 (fun n => fld_eq (E := E) e _) ?_
    obtain ⟨hq, hw⟩ := hw
    obtain ⟨h4, hx, hw⟩ := hw
    refine zT_call (pc' := 31) (rest := []) 1 (fun n => rfl) hq hx ?_
    show zT E (d + 1) m_Forecast_calmDays 31 [some (.ref a0), some (.int a1), some (.int a2), some (.int a3)] [] h4 r
    refine zT_st (pc' := 32) (L' := [some (.ref a0), some (.int a1), some (.int a2), some (.int a3)]) (st' := [.ref a0]) (h' := h4) 1 (fun n => rfl) ?_
    obtain ⟨o5, e, hw⟩ := hw
    refine zT_st (pc' := 35) (L' := [some (.ref a0), some (.int a1), some (.int a2), some (.int a3)]) (st' := [.ref o5]) (h' := h4) 1 (fun n => fld_eq (E := E) e _) ?_
    obtain ⟨o6, e, hw⟩ := hw
    refine zT_st (pc' := 38) (L' := [some (.ref a0), some (.int a1), some (.int a2), some (.int a3)]) (st' := [.ref o6]) (h' := h4) 1 (fun n => fld_eq (E := E) e _) ?_
    refine zT_st (pc' := 39) (L' := [some (.ref a0), some (.int a1), some (.int a2), some (.int a3)]) (st' := [.int 0, .ref o6]) (h' := h4) 1 (fun n => rfl) ?_
    obtain ⟨n7, f8, e, hi, hw⟩ := hw
    refine zT_st (pc' := 40) (L' := [some (.ref a0), some (.int a1), some (.int a2), some (.int a3)]) (st' := [.int (f8 ((0 : Int32)).toNatClampNeg)]) (h' := h4) 1 (fun n => arr_eq (E := E) e hi [] (fun st => zrun zP zCd E n (d + 1) m_Forecast_calmDays 40 [some (.ref a0), some (.int a1), some (.int a2), some (.int a3)] st h4)) ?_
    by_cases hc : (f8 ((0 : Int32)).toNatClampNeg) = 0
    · rw [if_pos hc] at hw
      refine zT_st (pc' := 43) (L' := [some (.ref a0), some (.int a1), some (.int a2), some (.int a3)]) (st' := []) (h' := h4) 1 (fun n => if_pos hc) ?_
      refine zT_st (pc' := 44) (L' := [some (.ref a0), some (.int a1), some (.int a2), some (.int a3)]) (st' := [.ref a0]) (h' := h4) 1 (fun n => rfl) ?_
      obtain ⟨o9, e, hw⟩ := hw
      refine zT_st (pc' := 47) (L' := [some (.ref a0), some (.int a1), some (.int a2), some (.int a3)]) (st' := [.ref o9]) (h' := h4) 1 (fun n => fld_eq (E := E) e _) ?_
      obtain ⟨o10, e, hw⟩ := hw
      refine zT_st (pc' := 50) (L' := [some (.ref a0), some (.int a1), some (.int a2), some (.int a3)]) (st' := [.ref o10]) (h' := h4) 1 (fun n => fld_eq (E := E) e _) ?_
      refine zT_st (pc' := 51) (L' := [some (.ref a0), some (.int a1), some (.int a2), some (.int a3)]) (st' := [.int 2, .ref o10]) (h' := h4) 1 (fun n => rfl) ?_
      obtain ⟨n11, f12, e, hi, hw⟩ := hw
      refine zT_st (pc' := 52) (L' := [some (.ref a0), some (.int a1), some (.int a2), some (.int a3)]) (st' := [.int (f12 ((2 : Int32)).toNatClampNeg)]) (h' := h4) 1 (fun n => arr_eq (E := E) e hi [] (fun st => zrun zP zCd E n (d + 1) m_Forecast_calmDays 52 [some (.ref a0), some (.int a1), some (.int a2), some (.int a3)] st h4)) ?_
      by_cases hc : (f12 ((2 : Int32)).toNatClampNeg) = 0
      · rw [if_pos hc] at hw
        refine zT_st (pc' := 55) (L' := [some (.ref a0), some (.int a1), some (.int a2), some (.int a3)]) (st' := []) (h' := h4) 1 (fun n => if_pos hc) ?_
        exact zT_st 3 (fun n => rfl) hw
      · rw [if_neg hc] at hw
        refine zT_st (pc' := 58) (L' := [some (.ref a0), some (.int a1), some (.int a2), some (.int a3)]) (st' := []) (h' := h4) 1 (fun n => if_neg hc) ?_
        exact zT_st 2 (fun n => rfl) hw
    · rw [if_neg hc] at hw
      refine zT_st (pc' := 58) (L' := [some (.ref a0), some (.int a1), some (.int a2), some (.int a3)]) (st' := []) (h' := h4) 1 (fun n => if_neg hc) ?_
      exact zT_st 2 (fun n => rfl) hw
set_option maxRecDepth 4000 in
theorem s_Forecast_outstayed_0 (E : zX) (d : Nat) (a0 : Nat) (a1 : Int32) (a2 : Int32) (h : zH) (r : zO × zH)
    (hw : ∃ o1 : Nat, fld h a0 3 2 = some (.ref o1) ∧
    ∃ o2 : Nat, fld h a0 3 1 = some (.ref o2) ∧
    isO h o1 10 = true ∧ ∃ (h4 : zH), zT E d m_Scene_copyFrom 0 [some (.ref o1), some (.ref o2)] [] h (.inl none, h4) ∧
    zT E (d + 1) m_Forecast_outstayed 16 [some (.ref a0), some (.int a1), some (.int a2), some (.int 0), some (.int 1)] [] h4 r) :
    zT E (d + 1) m_Forecast_outstayed 0 [some (.ref a0), some (.int a1), some (.int a2), none, none] [] h r := by
  refine zT_st (pc' := 3) (L' := [some (.ref a0), some (.int a1), some (.int a2), some (.int 0), none]) (st' := [.ref a0]) (h' := h) 3 (fun n => rfl) ?_
  obtain ⟨o1, e, hw⟩ := hw
  refine zT_st (pc' := 6) (L' := [some (.ref a0), some (.int a1), some (.int a2), some (.int 0), none]) (st' := [.ref o1]) (h' := h) 1 (fun n => fld_eq (E := E) e _) ?_
  refine zT_st (pc' := 7) (L' := [some (.ref a0), some (.int a1), some (.int a2), some (.int 0), none]) (st' := [.ref a0, .ref o1]) (h' := h) 1 (fun n => rfl) ?_
  obtain ⟨o2, e, hw⟩ := hw
  refine zT_st (pc' := 10) (L' := [some (.ref a0), some (.int a1), some (.int a2), some (.int 0), none]) (st' := [.ref o2, .ref o1]) (h' := h) 1 (fun n => fld_eq (E := E) e _) ?_
  obtain ⟨hq, hw⟩ := hw
  obtain ⟨h4, hx, hw⟩ := hw
  refine zT_call (pc' := 13) (rest := []) 1 (fun n => rfl) hq hx ?_
  show zT E (d + 1) m_Forecast_outstayed 13 [some (.ref a0), some (.int a1), some (.int a2), some (.int 0), none] [] h4 r
  exact zT_st 2 (fun n => rfl) hw
set_option maxRecDepth 4000 in
theorem s_Forecast_outstayed_16 (E : zX) (d : Nat) (a0 : Nat) (a1 : Int32) (a2 : Int32) (a3 : Int32) (a4 : Int32) (h : zH) (r : zO × zH)
    (hw : if a2 < a4 then (
      r = (.inl (some (.int a3)), h))
    else (
      ∃ o1 : Nat, fld h a0 3 0 = some (.ref o1) ∧
      ∃ o2 : Nat, fld h a0 3 2 = some (.ref o2) ∧
      isO h o1 2 = true ∧ ∃ (h4 : zH), zT E d m_Downs_passDay 0 [some (.ref o1), some (.ref o2), none] [] h (.inl none, h4) ∧
      ∃ o5 : Nat, fld h4 a0 3 0 = some (.ref o5) ∧
      ∃ o6 : Nat, fld h4 a0 3 2 = some (.ref o6) ∧
      isO h4 o5 2 = true ∧ ∃ (x7 : Int32) (h8 : zH), zT E d m_Downs_ownedBy 0 [some (.ref o5), some (.ref o6), some (.int a1), none, none] [] h4 (.inl (some (.int x7)), h8) ∧
      ∃ (x9 : Int32) (h10 : zH), zT E d m_Integer_bitCount 0 [some (.int x7)] [] h8 (.inl (some (.int x9)), h10) ∧
      zT E (d + 1) m_Forecast_outstayed 16 [some (.ref a0), some (.int a1), some (.int a2), some (.int (a3 + x9)), some (.int (a4 + 1))] [] h10 r)) :
    zT E (d + 1) m_Forecast_outstayed 16 [some (.ref a0), some (.int a1), some (.int a2), some (.int a3), some (.int a4)] [] h r := by
  refine zT_st (pc' := 19) (L' := [some (.ref a0), some (.int a1), some (.int a2), some (.int a3), some (.int a4)]) (st' := [.int a2, .int a4]) (h' := h) 2 (fun n => rfl) ?_
  by_cases hc : a2 < a4
  · rw [if_pos hc] at hw
    refine zT_st (pc' := 57) (L' := [some (.ref a0), some (.int a1), some (.int a2), some (.int a3), some (.int a4)]) (st' := []) (h' := h) 1 (fun n => if_pos hc) ?_
    subst hw
    exact zT_ret 2 rfl
  · rw [if_neg hc] at hw
    refine zT_st (pc' := 22) (L' := [some (.ref a0), some (.int a1), some (.int a2), some (.int a3), some (.int a4)]) (st' := []) (h' := h) 1 (fun n => if_neg hc) ?_
    refine zT_st (pc' := 23) (L' := [some (.ref a0), some (.int a1), some (.int a2), some (.int a3), some (.int a4)]) (st' := [.ref a0]) (h' := h) 1 (fun n => rfl) ?_
    obtain ⟨o1, e, hw⟩ := hw
    refine zT_st (pc' := 26) (L' := [some (.ref a0), some (.int a1), some (.int a2), some (.int a3), some (.int a4)]) (st' := [.ref o1]) (h' := h) 1 (fun n => fld_eq (E := E) e _) ?_
    refine zT_st (pc' := 27) (L' := [some (.ref a0), some (.int a1), some (.int a2), some (.int a3), some (.int a4)]) (st' := [.ref a0, .ref o1]) (h' := h) 1 (fun n => rfl) ?_
    obtain ⟨o2, e, hw⟩ := hw
    refine zT_st (pc' := 30) (L' := [some (.ref a0), some (.int a1), some (.int a2), some (.int a3), some (.int a4)]) (st' := [.ref o2, .ref o1]) (h' := h) 1 (fun n => fld_eq (E := E) e _) ?_
    obtain ⟨hq, hw⟩ := hw
    obtain ⟨h4, hx, hw⟩ := hw
    refine zT_call (pc' := 33) (rest := []) 1 (fun n => rfl) hq hx ?_
    show zT E (d + 1) m_Forecast_outstayed 33 [some (.ref a0), some (.int a1), some (.int a2), some (.int a3), some (.int a4)] [] h4 r
    refine zT_st (pc' := 35) (L' := [some (.ref a0), some (.int a1), some (.int a2), some (.int a3), some (.int a4)]) (st' := [.ref a0, .int a3]) (h' := h4) 2 (fun n => rfl) ?_
    obtain ⟨o5, e, hw⟩ := hw
    refine zT_st (pc' := 38) (L' := [some (.ref a0), some (.int a1), some (.int a2), some (.int a3), some (.int a4)]) (st' := [.ref o5, .int a3]) (h' := h4) 1 (fun n => fld_eq (E := E) e _) ?_
    refine zT_st (pc' := 39) (L' := [some (.ref a0), some (.int a1), some (.int a2), some (.int a3), some (.int a4)]) (st' := [.ref a0, .ref o5, .int a3]) (h' := h4) 1 (fun n => rfl) ?_
    obtain ⟨o6, e, hw⟩ := hw
    refine zT_st (pc' := 42) (L' := [some (.ref a0), some (.int a1), some (.int a2), some (.int a3), some (.int a4)]) (st' := [.ref o6, .ref o5, .int a3]) (h' := h4) 1 (fun n => fld_eq (E := E) e _) ?_
    refine zT_st (pc' := 43) (L' := [some (.ref a0), some (.int a1), some (.int a2), some (.int a3), some (.int a4)]) (st' := [.int a1, .ref o6, .ref o5, .int a3]) (h' := h4) 1 (fun n => rfl) ?_
    obtain ⟨hq, hw⟩ := hw
    obtain ⟨x7, h8, hx, hw⟩ := hw
    refine zT_call (pc' := 46) (rest := [.int a3]) 1 (fun n => rfl) hq hx ?_
    show zT E (d + 1) m_Forecast_outstayed 46 [some (.ref a0), some (.int a1), some (.int a2), some (.int a3), some (.int a4)] [.int x7, .int a3] h8 r
    obtain ⟨x9, h10, hx, hw⟩ := hw
    refine zT_call (pc' := 49) (rest := [.int a3]) 1 (fun n => rfl) rfl hx ?_
    show zT E (d + 1) m_Forecast_outstayed 49 [some (.ref a0), some (.int a1), some (.int a2), some (.int a3), some (.int a4)] [.int x9, .int a3] h10 r
    exact zT_st 4 (fun n => rfl) hw
-- s_Guess_init_0: by hand
set_option maxRecDepth 4000 in
theorem s_Guess_isSoAnyway_0 (E : zX) (d : Nat) (a0 : Nat) (h : zH) (r : zO × zH)
    (hw : ∃ o1 : Nat, fld h a0 4 5 = some (.ref o1) ∧
    ∃ o2 : Nat, fld h a0 4 4 = some (.ref o2) ∧
    ∃ o3 : Nat, fld h o2 0 0 = some (.ref o3) ∧
    isO h o1 10 = true ∧ ∃ (h5 : zH), zT E d m_Scene_copyFrom 0 [some (.ref o1), some (.ref o3)] [] h (.inl none, h5) ∧
    isO h5 a0 4 = true ∧ ∃ (x6 : Int32) (h7 : zH), zT E d m_Guess_lastDay 0 [some (.ref a0), none, none] [] h5 (.inl (some (.int x6)), h7) ∧
    isO h7 a0 4 = true ∧ ∃ (x8 : Int32) (h9 : zH), zT E d m_Guess_agrees 0 [some (.ref a0), some (.int x6), none] [] h7 (.inl (some (.int x8)), h9) ∧
    zfr (some .boolean) x8 = true ∧ r = (.inl (some (.int x8)), h9)) :
    zT E (d + 1) m_Guess_isSoAnyway 0 [some (.ref a0)] [] h r := by
  refine zT_st (pc' := 1) (L' := [some (.ref a0)]) (st' := [.ref a0]) (h' := h) 1 (fun n => rfl) ?_
  obtain ⟨o1, e, hw⟩ := hw
  refine zT_st (pc' := 4) (L' := [some (.ref a0)]) (st' := [.ref o1]) (h' := h) 1 (fun n => fld_eq (E := E) e _) ?_
  refine zT_st (pc' := 5) (L' := [some (.ref a0)]) (st' := [.ref a0, .ref o1]) (h' := h) 1 (fun n => rfl) ?_
  obtain ⟨o2, e, hw⟩ := hw
  refine zT_st (pc' := 8) (L' := [some (.ref a0)]) (st' := [.ref o2, .ref o1]) (h' := h) 1 (fun n => fld_eq (E := E) e _) ?_
  obtain ⟨o3, e, hw⟩ := hw
  refine zT_st (pc' := 11) (L' := [some (.ref a0)]) (st' := [.ref o3, .ref o1]) (h' := h) 1 (fun n => fld_eq (E := E) e _) ?_
  obtain ⟨hq, hw⟩ := hw
  obtain ⟨h5, hx, hw⟩ := hw
  refine zT_call (pc' := 14) (rest := []) 1 (fun n => rfl) hq hx ?_
  show zT E (d + 1) m_Guess_isSoAnyway 14 [some (.ref a0)] [] h5 r
  refine zT_st (pc' := 16) (L' := [some (.ref a0)]) (st' := [.ref a0, .ref a0]) (h' := h5) 2 (fun n => rfl) ?_
  obtain ⟨hq, hw⟩ := hw
  obtain ⟨x6, h7, hx, hw⟩ := hw
  refine zT_call (pc' := 19) (rest := [.ref a0]) 1 (fun n => rfl) hq hx ?_
  show zT E (d + 1) m_Guess_isSoAnyway 19 [some (.ref a0)] [.int x6, .ref a0] h7 r
  obtain ⟨hq, hw⟩ := hw
  obtain ⟨x8, h9, hx, hw⟩ := hw
  refine zT_call (pc' := 22) (rest := []) 1 (fun n => rfl) hq hx ?_
  show zT E (d + 1) m_Guess_isSoAnyway 22 [some (.ref a0)] [.int x8] h9 r
  obtain ⟨hz, hw⟩ := hw
  subst hw
  refine zT_ret 1 ?_
  show (bif zfr _ _ then _ else none) = _
  rw [hz]
  rfl
set_option maxRecDepth 4000 in
theorem s_Guess_lastDay_0 (E : zX) (d : Nat) (a0 : Nat) (h : zH) (r : zO × zH)
    (hw : zT E (d + 1) m_Guess_lastDay 4 [some (.ref a0), some (.int 0), some (.int 0)] [] h r) :
    zT E (d + 1) m_Guess_lastDay 0 [some (.ref a0), none, none] [] h r := by
  exact zT_st 4 (fun n => rfl) hw
set_option maxRecDepth 4000 in
theorem s_Guess_lastDay_4 (E : zX) (d : Nat) (a0 : Nat) (a1 : Int32) (a2 : Int32) (h : zH) (r : zO × zH)
    (hw : ∃ o1 : Nat, fld h a0 4 4 = some (.ref o1) ∧
    ∃ x2 : Int32, fld h o1 0 3 = some (.int x2) ∧
    if x2 ≤ a2 then (
      r = (.inl (some (.int a1)), h))
    else (
      ∃ o3 : Nat, fld h a0 4 4 = some (.ref o3) ∧
      ∃ o4 : Nat, fld h o3 0 5 = some (.ref o4) ∧
      ∃ (n5 : Nat) (f6 : Nat → Int32), arr h o4 = some (n5, f6) ∧ ¬ (a2 < 0 ∨ n5 ≤ (a2).toNatClampNeg) ∧
      zT E (d + 1) m_Guess_lastDay 4 [some (.ref a0), some (.int (zmax a1 (f6 (a2).toNatClampNeg))), some (.int (a2 + 1))] [] h r)) :
    zT E (d + 1) m_Guess_lastDay 4 [some (.ref a0), some (.int a1), some (.int a2)] [] h r := by
  refine zT_st (pc' := 6) (L' := [some (.ref a0), some (.int a1), some (.int a2)]) (st' := [.ref a0, .int a2]) (h' := h) 2 (fun n => rfl) ?_
  obtain ⟨o1, e, hw⟩ := hw
  refine zT_st (pc' := 9) (L' := [some (.ref a0), some (.int a1), some (.int a2)]) (st' := [.ref o1, .int a2]) (h' := h) 1 (fun n => fld_eq (E := E) e _) ?_
  obtain ⟨x2, e, hw⟩ := hw
  refine zT_st (pc' := 12) (L' := [some (.ref a0), some (.int a1), some (.int a2)]) (st' := [.int x2, .int a2]) (h' := h) 1 (fun n => fld_eq (E := E) e _) ?_
  by_cases hc : x2 ≤ a2
  · rw [if_pos hc] at hw
    refine zT_st (pc' := 35) (L' := [some (.ref a0), some (.int a1), some (.int a2)]) (st' := []) (h' := h) 1 (fun n => if_pos hc) ?_
    subst hw
    exact zT_ret 2 rfl
  · rw [if_neg hc] at hw
    refine zT_st (pc' := 15) (L' := [some (.ref a0), some (.int a1), some (.int a2)]) (st' := []) (h' := h) 1 (fun n => if_neg hc) ?_
    refine zT_st (pc' := 17) (L' := [some (.ref a0), some (.int a1), some (.int a2)]) (st' := [.ref a0, .int a1]) (h' := h) 2 (fun n => rfl) ?_
    obtain ⟨o3, e, hw⟩ := hw
    refine zT_st (pc' := 20) (L' := [some (.ref a0), some (.int a1), some (.int a2)]) (st' := [.ref o3, .int a1]) (h' := h) 1 (fun n => fld_eq (E := E) e _) ?_
    obtain ⟨o4, e, hw⟩ := hw
    refine zT_st (pc' := 23) (L' := [some (.ref a0), some (.int a1), some (.int a2)]) (st' := [.ref o4, .int a1]) (h' := h) 1 (fun n => fld_eq (E := E) e _) ?_
    refine zT_st (pc' := 24) (L' := [some (.ref a0), some (.int a1), some (.int a2)]) (st' := [.int a2, .ref o4, .int a1]) (h' := h) 1 (fun n => rfl) ?_
    obtain ⟨n5, f6, e, hi, hw⟩ := hw
    refine zT_st (pc' := 25) (L' := [some (.ref a0), some (.int a1), some (.int a2)]) (st' := [.int (f6 (a2).toNatClampNeg), .int a1]) (h' := h) 1 (fun n => arr_eq (E := E) e hi [.int a1] (fun st => zrun zP zCd E n (d + 1) m_Guess_lastDay 25 [some (.ref a0), some (.int a1), some (.int a2)] st h)) ?_
    exact zT_st 4 (fun n => rfl) hw
set_option maxRecDepth 4000 in
theorem s_Guess_agrees_0 (E : zX) (d : Nat) (a0 : Nat) (a1 : Int32) (h : zH) (r : zO × zH)
    (hw : zT E (d + 1) m_Guess_agrees 2 [some (.ref a0), some (.int a1), some (.int 0)] [] h r) :
    zT E (d + 1) m_Guess_agrees 0 [some (.ref a0), some (.int a1), none] [] h r := by
  exact zT_st 2 (fun n => rfl) hw
set_option maxRecDepth 4000 in
theorem s_Guess_agrees_2 (E : zX) (d : Nat) (a0 : Nat) (a1 : Int32) (a2 : Int32) (h : zH) (r : zO × zH)
    (hw : if a1 < a2 then (
      r = (.inl (some (.int 1)), h))
    else (
      if a2 ≤ 0 then (
        zT E (d + 1) m_Guess_agrees 22 [some (.ref a0), some (.int a1), some (.int a2)] [] h r)
      else (
        ∃ o1 : Nat, fld h a0 4 2 = some (.ref o1) ∧
        ∃ o2 : Nat, fld h a0 4 5 = some (.ref o2) ∧
        isO h o1 2 = true ∧ ∃ (h4 : zH), zT E d m_Downs_passDay 0 [some (.ref o1), some (.ref o2), none] [] h (.inl none, h4) ∧
        zT E (d + 1) m_Guess_agrees 22 [some (.ref a0), some (.int a1), some (.int a2)] [] h4 r))) :
    zT E (d + 1) m_Guess_agrees 2 [some (.ref a0), some (.int a1), some (.int a2)] [] h r := by
  refine zT_st (pc' := 4) (L' := [some (.ref a0), some (.int a1), some (.int a2)]) (st' := [.int a1, .int a2]) (h' := h) 2 (fun n => rfl) ?_
  by_cases hc : a1 < a2
  · rw [if_pos hc] at hw
    refine zT_st (pc' := 55) (L' := [some (.ref a0), some (.int a1), some (.int a2)]) (st' := []) (h' := h) 1 (fun n => if_pos hc) ?_
    subst hw
    exact zT_ret 2 rfl
  · rw [if_neg hc] at hw
    refine zT_st (pc' := 7) (L' := [some (.ref a0), some (.int a1), some (.int a2)]) (st' := []) (h' := h) 1 (fun n => if_neg hc) ?_
    refine zT_st (pc' := 8) (L' := [some (.ref a0), some (.int a1), some (.int a2)]) (st' := [.int a2]) (h' := h) 1 (fun n => rfl) ?_
    by_cases hc : a2 ≤ 0
    · rw [if_pos hc] at hw
      refine zT_st (pc' := 22) (L' := [some (.ref a0), some (.int a1), some (.int a2)]) (st' := []) (h' := h) 1 (fun n => if_pos hc) ?_
      exact hw
    · rw [if_neg hc] at hw
      refine zT_st (pc' := 11) (L' := [some (.ref a0), some (.int a1), some (.int a2)]) (st' := []) (h' := h) 1 (fun n => if_neg hc) ?_
      refine zT_st (pc' := 12) (L' := [some (.ref a0), some (.int a1), some (.int a2)]) (st' := [.ref a0]) (h' := h) 1 (fun n => rfl) ?_
      obtain ⟨o1, e, hw⟩ := hw
      refine zT_st (pc' := 15) (L' := [some (.ref a0), some (.int a1), some (.int a2)]) (st' := [.ref o1]) (h' := h) 1 (fun n => fld_eq (E := E) e _) ?_
      refine zT_st (pc' := 16) (L' := [some (.ref a0), some (.int a1), some (.int a2)]) (st' := [.ref a0, .ref o1]) (h' := h) 1 (fun n => rfl) ?_
      obtain ⟨o2, e, hw⟩ := hw
      refine zT_st (pc' := 19) (L' := [some (.ref a0), some (.int a1), some (.int a2)]) (st' := [.ref o2, .ref o1]) (h' := h) 1 (fun n => fld_eq (E := E) e _) ?_
      obtain ⟨hq, hw⟩ := hw
      obtain ⟨h4, hx, hw⟩ := hw
      refine zT_call (pc' := 22) (rest := []) 1 (fun n => rfl) hq hx ?_
      show zT E (d + 1) m_Guess_agrees 22 [some (.ref a0), some (.int a1), some (.int a2)] [] h4 r
      exact hw
set_option maxRecDepth 4000 in
theorem s_Guess_agrees_22 (E : zX) (d : Nat) (a0 : Nat) (a1 : Int32) (a2 : Int32) (h : zH) (r : zO × zH)
    (hw : isO h a0 4 = true ∧ ∃ (x1 : Int32) (h2 : zH), zT E d m_Guess_agreesOn 0 [some (.ref a0), some (.int a2), none] [] h (.inl (some (.int x1)), h2) ∧
    if x1 = 0 then (
      r = (.inl (some (.int 0)), h2))
    else (
      if a2 = 8 then (
        ∃ o3 : Nat, fld h2 a0 4 6 = some (.ref o3) ∧
        ∃ o4 : Nat, fld h2 a0 4 5 = some (.ref o4) ∧
        isO h2 o3 10 = true ∧ ∃ (h6 : zH), zT E d m_Scene_copyFrom 0 [some (.ref o3), some (.ref o4)] [] h2 (.inl none, h6) ∧
        zT E (d + 1) m_Guess_agrees 2 [some (.ref a0), some (.int a1), some (.int (a2 + 1))] [] h6 r)
      else (
        zT E (d + 1) m_Guess_agrees 2 [some (.ref a0), some (.int a1), some (.int (a2 + 1))] [] h2 r))) :
    zT E (d + 1) m_Guess_agrees 22 [some (.ref a0), some (.int a1), some (.int a2)] [] h r := by
  refine zT_st (pc' := 24) (L' := [some (.ref a0), some (.int a1), some (.int a2)]) (st' := [.int a2, .ref a0]) (h' := h) 2 (fun n => rfl) ?_
  obtain ⟨hq, hw⟩ := hw
  obtain ⟨x1, h2, hx, hw⟩ := hw
  refine zT_call (pc' := 27) (rest := []) 1 (fun n => rfl) hq hx ?_
  show zT E (d + 1) m_Guess_agrees 27 [some (.ref a0), some (.int a1), some (.int a2)] [.int x1] h2 r
  by_cases hc : x1 = 0
  · rw [if_pos hc] at hw
    refine zT_st (pc' := 30) (L' := [some (.ref a0), some (.int a1), some (.int a2)]) (st' := []) (h' := h2) 1 (fun n => if_pos hc) ?_
    subst hw
    exact zT_ret 2 rfl
  · rw [if_neg hc] at hw
    refine zT_st (pc' := 32) (L' := [some (.ref a0), some (.int a1), some (.int a2)]) (st' := []) (h' := h2) 1 (fun n => if_neg hc) ?_
    refine zT_st (pc' := 35) (L' := [some (.ref a0), some (.int a1), some (.int a2)]) (st' := [.int 8, .int a2]) (h' := h2) 2 (fun n => rfl) ?_
    by_cases hc : a2 = 8
    · rw [if_pos hc] at hw
      refine zT_st (pc' := 38) (L' := [some (.ref a0), some (.int a1), some (.int a2)]) (st' := []) (h' := h2) 1 (fun n => if_pos hc) ?_
      refine zT_st (pc' := 39) (L' := [some (.ref a0), some (.int a1), some (.int a2)]) (st' := [.ref a0]) (h' := h2) 1 (fun n => rfl) ?_
      obtain ⟨o3, e, hw⟩ := hw
      refine zT_st (pc' := 42) (L' := [some (.ref a0), some (.int a1), some (.int a2)]) (st' := [.ref o3]) (h' := h2) 1 (fun n => fld_eq (E := E) e _) ?_
      refine zT_st (pc' := 43) (L' := [some (.ref a0), some (.int a1), some (.int a2)]) (st' := [.ref a0, .ref o3]) (h' := h2) 1 (fun n => rfl) ?_
      obtain ⟨o4, e, hw⟩ := hw
      refine zT_st (pc' := 46) (L' := [some (.ref a0), some (.int a1), some (.int a2)]) (st' := [.ref o4, .ref o3]) (h' := h2) 1 (fun n => fld_eq (E := E) e _) ?_
      obtain ⟨hq, hw⟩ := hw
      obtain ⟨h6, hx, hw⟩ := hw
      refine zT_call (pc' := 49) (rest := []) 1 (fun n => rfl) hq hx ?_
      show zT E (d + 1) m_Guess_agrees 49 [some (.ref a0), some (.int a1), some (.int a2)] [] h6 r
      exact zT_st 2 (fun n => rfl) hw
    · rw [if_neg hc] at hw
      refine zT_st (pc' := 49) (L' := [some (.ref a0), some (.int a1), some (.int a2)]) (st' := []) (h' := h2) 1 (fun n => if_neg hc) ?_
      exact zT_st 2 (fun n => rfl) hw
set_option maxRecDepth 4000 in
theorem s_Guess_agreesOn_0 (E : zX) (d : Nat) (a0 : Nat) (a1 : Int32) (h : zH) (r : zO × zH)
    (hw : zT E (d + 1) m_Guess_agreesOn 2 [some (.ref a0), some (.int a1), some (.int 0)] [] h r) :
    zT E (d + 1) m_Guess_agreesOn 0 [some (.ref a0), some (.int a1), none] [] h r := by
  exact zT_st 2 (fun n => rfl) hw
set_option maxRecDepth 4000 in
theorem s_Guess_agreesOn_2 (E : zX) (d : Nat) (a0 : Nat) (a1 : Int32) (a2 : Int32) (h : zH) (r : zO × zH)
    (hw : ∃ o1 : Nat, fld h a0 4 4 = some (.ref o1) ∧
    ∃ x2 : Int32, fld h o1 0 3 = some (.int x2) ∧
    if x2 ≤ a2 then (
      r = (.inl (some (.int 1)), h))
    else (
      ∃ o3 : Nat, fld h a0 4 4 = some (.ref o3) ∧
      ∃ o4 : Nat, fld h o3 0 5 = some (.ref o4) ∧
      ∃ (n5 : Nat) (f6 : Nat → Int32), arr h o4 = some (n5, f6) ∧ ¬ (a2 < 0 ∨ n5 ≤ (a2).toNatClampNeg) ∧
      if (f6 (a2).toNatClampNeg) = a1 then (
        ∃ o7 : Nat, fld h a0 4 5 = some (.ref o7) ∧
        ∃ o8 : Nat, fld h a0 4 4 = some (.ref o8) ∧
        ∃ o9 : Nat, fld h o8 0 4 = some (.ref o9) ∧
        ∃ (n10 : Nat) (f11 : Nat → Int32), arr h o9 = some (n10, f11) ∧ ¬ (a2 < 0 ∨ n10 ≤ (a2).toNatClampNeg) ∧
        isO h o7 10 = true ∧ ∃ (x12 : Int32) (h13 : zH), zT E d m_Scene_isWhite 0 [some (.ref o7), some (.int (f11 (a2).toNatClampNeg))] [] h (.inl (some (.int x12)), h13) ∧
        ∃ o14 : Nat, fld h13 a0 4 4 = some (.ref o14) ∧
        ∃ o15 : Nat, fld h13 o14 0 6 = some (.ref o15) ∧
        ∃ (n16 : Nat) (f17 : Nat → Int32), arr h13 o15 = some (n16, f17) ∧ ¬ (a2 < 0 ∨ n16 ≤ (a2).toNatClampNeg) ∧
        if (f17 (a2).toNatClampNeg) = 1 then (
          if x12 = 1 then (
            zT E (d + 1) m_Guess_agreesOn 2 [some (.ref a0), some (.int a1), some (.int (a2 + 1))] [] h13 r)
          else (
            r = (.inl (some (.int 0)), h13)))
        else (
          if x12 = 0 then (
            zT E (d + 1) m_Guess_agreesOn 2 [some (.ref a0), some (.int a1), some (.int (a2 + 1))] [] h13 r)
          else (
            r = (.inl (some (.int 0)), h13))))
      else (
        zT E (d + 1) m_Guess_agreesOn 2 [some (.ref a0), some (.int a1), some (.int (a2 + 1))] [] h r))) :
    zT E (d + 1) m_Guess_agreesOn 2 [some (.ref a0), some (.int a1), some (.int a2)] [] h r := by
  refine zT_st (pc' := 4) (L' := [some (.ref a0), some (.int a1), some (.int a2)]) (st' := [.ref a0, .int a2]) (h' := h) 2 (fun n => rfl) ?_
  obtain ⟨o1, e, hw⟩ := hw
  refine zT_st (pc' := 7) (L' := [some (.ref a0), some (.int a1), some (.int a2)]) (st' := [.ref o1, .int a2]) (h' := h) 1 (fun n => fld_eq (E := E) e _) ?_
  obtain ⟨x2, e, hw⟩ := hw
  refine zT_st (pc' := 10) (L' := [some (.ref a0), some (.int a1), some (.int a2)]) (st' := [.int x2, .int a2]) (h' := h) 1 (fun n => fld_eq (E := E) e _) ?_
  by_cases hc : x2 ≤ a2
  · rw [if_pos hc] at hw
    refine zT_st (pc' := 71) (L' := [some (.ref a0), some (.int a1), some (.int a2)]) (st' := []) (h' := h) 1 (fun n => if_pos hc) ?_
    subst hw
    exact zT_ret 2 rfl
  · rw [if_neg hc] at hw
    refine zT_st (pc' := 13) (L' := [some (.ref a0), some (.int a1), some (.int a2)]) (st' := []) (h' := h) 1 (fun n => if_neg hc) ?_
    refine zT_st (pc' := 14) (L' := [some (.ref a0), some (.int a1), some (.int a2)]) (st' := [.ref a0]) (h' := h) 1 (fun n => rfl) ?_
    obtain ⟨o3, e, hw⟩ := hw
    refine zT_st (pc' := 17) (L' := [some (.ref a0), some (.int a1), some (.int a2)]) (st' := [.ref o3]) (h' := h) 1 (fun n => fld_eq (E := E) e _) ?_
    obtain ⟨o4, e, hw⟩ := hw
    refine zT_st (pc' := 20) (L' := [some (.ref a0), some (.int a1), some (.int a2)]) (st' := [.ref o4]) (h' := h) 1 (fun n => fld_eq (E := E) e _) ?_
    refine zT_st (pc' := 21) (L' := [some (.ref a0), some (.int a1), some (.int a2)]) (st' := [.int a2, .ref o4]) (h' := h) 1 (fun n => rfl) ?_
    obtain ⟨n5, f6, e, hi, hw⟩ := hw
    refine zT_st (pc' := 22) (L' := [some (.ref a0), some (.int a1), some (.int a2)]) (st' := [.int (f6 (a2).toNatClampNeg)]) (h' := h) 1 (fun n => arr_eq (E := E) e hi [] (fun st => zrun zP zCd E n (d + 1) m_Guess_agreesOn 22 [some (.ref a0), some (.int a1), some (.int a2)] st h)) ?_
    refine zT_st (pc' := 23) (L' := [some (.ref a0), some (.int a1), some (.int a2)]) (st' := [.int a1, .int (f6 (a2).toNatClampNeg)]) (h' := h) 1 (fun n => rfl) ?_
    by_cases hc : (f6 (a2).toNatClampNeg) = a1
    · rw [if_pos hc] at hw
      refine zT_st (pc' := 26) (L' := [some (.ref a0), some (.int a1), some (.int a2)]) (st' := []) (h' := h) 1 (fun n => if_pos hc) ?_
      refine zT_st (pc' := 27) (L' := [some (.ref a0), some (.int a1), some (.int a2)]) (st' := [.ref a0]) (h' := h) 1 (fun n => rfl) ?_
      obtain ⟨o7, e, hw⟩ := hw
      refine zT_st (pc' := 30) (L' := [some (.ref a0), some (.int a1), some (.int a2)]) (st' := [.ref o7]) (h' := h) 1 (fun n => fld_eq (E := E) e _) ?_
      refine zT_st (pc' := 31) (L' := [some (.ref a0), some (.int a1), some (.int a2)]) (st' := [.ref a0, .ref o7]) (h' := h) 1 (fun n => rfl) ?_
      obtain ⟨o8, e, hw⟩ := hw
      refine zT_st (pc' := 34) (L' := [some (.ref a0), some (.int a1), some (.int a2)]) (st' := [.ref o8, .ref o7]) (h' := h) 1 (fun n => fld_eq (E := E) e _) ?_
      obtain ⟨o9, e, hw⟩ := hw
      refine zT_st (pc' := 37) (L' := [some (.ref a0), some (.int a1), some (.int a2)]) (st' := [.ref o9, .ref o7]) (h' := h) 1 (fun n => fld_eq (E := E) e _) ?_
      refine zT_st (pc' := 38) (L' := [some (.ref a0), some (.int a1), some (.int a2)]) (st' := [.int a2, .ref o9, .ref o7]) (h' := h) 1 (fun n => rfl) ?_
      obtain ⟨n10, f11, e, hi, hw⟩ := hw
      refine zT_st (pc' := 39) (L' := [some (.ref a0), some (.int a1), some (.int a2)]) (st' := [.int (f11 (a2).toNatClampNeg), .ref o7]) (h' := h) 1 (fun n => arr_eq (E := E) e hi [.ref o7] (fun st => zrun zP zCd E n (d + 1) m_Guess_agreesOn 39 [some (.ref a0), some (.int a1), some (.int a2)] st h)) ?_
      obtain ⟨hq, hw⟩ := hw
      obtain ⟨x12, h13, hx, hw⟩ := hw
      refine zT_call (pc' := 42) (rest := []) 1 (fun n => rfl) hq hx ?_
      show zT E (d + 1) m_Guess_agreesOn 42 [some (.ref a0), some (.int a1), some (.int a2)] [.int x12] h13 r
      refine zT_st (pc' := 43) (L' := [some (.ref a0), some (.int a1), some (.int a2)]) (st' := [.ref a0, .int x12]) (h' := h13) 1 (fun n => rfl) ?_
      obtain ⟨o14, e, hw⟩ := hw
      refine zT_st (pc' := 46) (L' := [some (.ref a0), some (.int a1), some (.int a2)]) (st' := [.ref o14, .int x12]) (h' := h13) 1 (fun n => fld_eq (E := E) e _) ?_
      obtain ⟨o15, e, hw⟩ := hw
      refine zT_st (pc' := 49) (L' := [some (.ref a0), some (.int a1), some (.int a2)]) (st' := [.ref o15, .int x12]) (h' := h13) 1 (fun n => fld_eq (E := E) e _) ?_
      refine zT_st (pc' := 50) (L' := [some (.ref a0), some (.int a1), some (.int a2)]) (st' := [.int a2, .ref o15, .int x12]) (h' := h13) 1 (fun n => rfl) ?_
      obtain ⟨n16, f17, e, hi, hw⟩ := hw
      refine zT_st (pc' := 51) (L' := [some (.ref a0), some (.int a1), some (.int a2)]) (st' := [.int (f17 (a2).toNatClampNeg), .int x12]) (h' := h13) 1 (fun n => arr_eq (E := E) e hi [.int x12] (fun st => zrun zP zCd E n (d + 1) m_Guess_agreesOn 51 [some (.ref a0), some (.int a1), some (.int a2)] st h13)) ?_
      refine zT_st (pc' := 52) (L' := [some (.ref a0), some (.int a1), some (.int a2)]) (st' := [.int 1, .int (f17 (a2).toNatClampNeg), .int x12]) (h' := h13) 1 (fun n => rfl) ?_
      by_cases hc : (f17 (a2).toNatClampNeg) = 1
      · rw [if_pos hc] at hw
        refine zT_st (pc' := 55) (L' := [some (.ref a0), some (.int a1), some (.int a2)]) (st' := [.int x12]) (h' := h13) 1 (fun n => if_pos hc) ?_
        refine zT_st (pc' := 60) (L' := [some (.ref a0), some (.int a1), some (.int a2)]) (st' := [.int 1, .int x12]) (h' := h13) 2 (fun n => rfl) ?_
        by_cases hc : x12 = 1
        · rw [if_pos hc] at hw
          refine zT_st (pc' := 65) (L' := [some (.ref a0), some (.int a1), some (.int a2)]) (st' := []) (h' := h13) 1 (fun n => if_pos hc) ?_
          exact zT_st 2 (fun n => rfl) hw
        · rw [if_neg hc] at hw
          refine zT_st (pc' := 63) (L' := [some (.ref a0), some (.int a1), some (.int a2)]) (st' := []) (h' := h13) 1 (fun n => if_neg hc) ?_
          subst hw
          exact zT_ret 2 rfl
      · rw [if_neg hc] at hw
        refine zT_st (pc' := 59) (L' := [some (.ref a0), some (.int a1), some (.int a2)]) (st' := [.int x12]) (h' := h13) 1 (fun n => if_neg hc) ?_
        refine zT_st (pc' := 60) (L' := [some (.ref a0), some (.int a1), some (.int a2)]) (st' := [.int 0, .int x12]) (h' := h13) 1 (fun n => rfl) ?_
        by_cases hc : x12 = 0
        · rw [if_pos hc] at hw
          refine zT_st (pc' := 65) (L' := [some (.ref a0), some (.int a1), some (.int a2)]) (st' := []) (h' := h13) 1 (fun n => if_pos hc) ?_
          exact zT_st 2 (fun n => rfl) hw
        · rw [if_neg hc] at hw
          refine zT_st (pc' := 63) (L' := [some (.ref a0), some (.int a1), some (.int a2)]) (st' := []) (h' := h13) 1 (fun n => if_neg hc) ?_
          subst hw
          exact zT_ret 2 rfl
    · rw [if_neg hc] at hw
      refine zT_st (pc' := 65) (L' := [some (.ref a0), some (.int a1), some (.int a2)]) (st' := []) (h' := h) 1 (fun n => if_neg hc) ?_
      exact zT_st 2 (fun n => rfl) hw
set_option maxRecDepth 4000 in
theorem s_Guess_search_0 (E : zX) (d : Nat) (a0 : Nat) (a1 : Int32) (h : zH) (r : zO × zH)
    (hw : isO h a0 4 = true ∧ ∃ (x1 : Int32) (h2 : zH), zT E d m_Guess_lastDay 0 [some (.ref a0), none, none] [] h (.inl (some (.int x1)), h2) ∧
    (∃ w, fld h2 a0 4 0 = some w) ∧
    (∃ w, fld (setF h2 a0 0 (.int 0)) a0 4 1 = some w) ∧
    zT E (d + 1) m_Guess_search 21 [some (.ref a0), some (.int a1), some (.int (zmax a1 x1)), some (.int 0), none, none] [] (setF (setF h2 a0 0 (.int 0)) a0 1 (.int (-1))) r) :
    zT E (d + 1) m_Guess_search 0 [some (.ref a0), some (.int a1), none, none, none, none] [] h r := by
  refine zT_st (pc' := 2) (L' := [some (.ref a0), some (.int a1), none, none, none, none]) (st' := [.ref a0, .int a1]) (h' := h) 2 (fun n => rfl) ?_
  obtain ⟨hq, hw⟩ := hw
  obtain ⟨x1, h2, hx, hw⟩ := hw
  refine zT_call (pc' := 5) (rest := [.int a1]) 1 (fun n => rfl) hq hx ?_
  show zT E (d + 1) m_Guess_search 5 [some (.ref a0), some (.int a1), none, none, none, none] [.int x1, .int a1] h2 r
  refine zT_st (pc' := 11) (L' := [some (.ref a0), some (.int a1), some (.int (zmax a1 x1)), none, none, none]) (st' := [.int 0, .ref a0]) (h' := h2) 4 (fun n => rfl) ?_
  obtain ⟨⟨w, e⟩, hw⟩ := hw
  refine zT_st (pc' := 14) (L' := [some (.ref a0), some (.int a1), some (.int (zmax a1 x1)), none, none, none]) (st' := []) (h' := (setF h2 a0 0 (.int 0))) 1 (fun n => put_eq e rfl _ _) ?_
  refine zT_st (pc' := 16) (L' := [some (.ref a0), some (.int a1), some (.int (zmax a1 x1)), none, none, none]) (st' := [.int (-1), .ref a0]) (h' := (setF h2 a0 0 (.int 0))) 2 (fun n => rfl) ?_
  obtain ⟨⟨w, e⟩, hw⟩ := hw
  refine zT_st (pc' := 19) (L' := [some (.ref a0), some (.int a1), some (.int (zmax a1 x1)), none, none, none]) (st' := []) (h' := (setF (setF h2 a0 0 (.int 0)) a0 1 (.int (-1)))) 1 (fun n => put_eq e rfl _ _) ?_
  exact zT_st 2 (fun n => rfl) hw
set_option maxRecDepth 4000 in
theorem s_Guess_search_21 (E : zX) (d : Nat) (a0 : Nat) (j1 : Option Value) (a2 : Int32) (a3 : Int32) (j4 : Option Value) (j5 : Option Value) (h : zH) (r : zO × zH)
    (hw : ∃ o1 : Nat, fld h a0 4 7 = some (.ref o1) ∧
    ∃ (n2 : Nat) (f3 : Nat → Int32), arr h o1 = some (n2, f3) ∧
    if (Int32.ofNat n2) ≤ a3 then (
      zT E (d + 1) m_Guess_search 45 [some (.ref a0), j1, some (.int a2), some (.int 0), j4, j5] [] h r)
    else (
      ∃ o4 : Nat, fld h a0 4 7 = some (.ref o4) ∧
      ∃ (n5 : Nat) (f6 : Nat → Int32), arr h o4 = some (n5, f6) ∧ ¬ (a3 < 0 ∨ n5 ≤ (a3).toNatClampNeg) ∧
      zT E (d + 1) m_Guess_search 21 [some (.ref a0), j1, some (.int a2), some (.int (a3 + 1)), j4, j5] [] (setA h o4 n5 (upd f6 (a3).toNatClampNeg 0)) r)) :
    zT E (d + 1) m_Guess_search 21 [some (.ref a0), j1, some (.int a2), some (.int a3), j4, j5] [] h r := by
  refine zT_st (pc' := 23) (L' := [some (.ref a0), j1, some (.int a2), some (.int a3), j4, j5]) (st' := [.ref a0, .int a3]) (h' := h) 2 (fun n => rfl) ?_
  obtain ⟨o1, e, hw⟩ := hw
  refine zT_st (pc' := 26) (L' := [some (.ref a0), j1, some (.int a2), some (.int a3), j4, j5]) (st' := [.ref o1, .int a3]) (h' := h) 1 (fun n => fld_eq (E := E) e _) ?_
  obtain ⟨n2, f3, e, hw⟩ := hw
  refine zT_st (pc' := 27) (L' := [some (.ref a0), j1, some (.int a2), some (.int a3), j4, j5]) (st' := [.int (Int32.ofNat n2), .int a3]) (h' := h) 1 (fun n => len_eq (E := E) e [.int a3] (fun st => zrun zP zCd E n (d + 1) m_Guess_search 27 [some (.ref a0), j1, some (.int a2), some (.int a3), j4, j5] st h)) ?_
  by_cases hc : (Int32.ofNat n2) ≤ a3
  · rw [if_pos hc] at hw
    refine zT_st (pc' := 43) (L' := [some (.ref a0), j1, some (.int a2), some (.int a3), j4, j5]) (st' := []) (h' := h) 1 (fun n => if_pos hc) ?_
    exact zT_st 2 (fun n => rfl) hw
  · rw [if_neg hc] at hw
    refine zT_st (pc' := 30) (L' := [some (.ref a0), j1, some (.int a2), some (.int a3), j4, j5]) (st' := []) (h' := h) 1 (fun n => if_neg hc) ?_
    refine zT_st (pc' := 31) (L' := [some (.ref a0), j1, some (.int a2), some (.int a3), j4, j5]) (st' := [.ref a0]) (h' := h) 1 (fun n => rfl) ?_
    obtain ⟨o4, e, hw⟩ := hw
    refine zT_st (pc' := 34) (L' := [some (.ref a0), j1, some (.int a2), some (.int a3), j4, j5]) (st' := [.ref o4]) (h' := h) 1 (fun n => fld_eq (E := E) e _) ?_
    refine zT_st (pc' := 36) (L' := [some (.ref a0), j1, some (.int a2), some (.int a3), j4, j5]) (st' := [.int 0, .int a3, .ref o4]) (h' := h) 2 (fun n => rfl) ?_
    obtain ⟨n5, f6, e, hi, hw⟩ := hw
    refine zT_st (pc' := 37) (L' := [some (.ref a0), j1, some (.int a2), some (.int a3), j4, j5]) (st' := []) (h' := (setA h o4 n5 (upd f6 (a3).toNatClampNeg 0))) 1 (fun n => set_eq e hi _ _) ?_
    exact zT_st 2 (fun n => rfl) hw
set_option maxRecDepth 4000 in
theorem s_Guess_search_45 (E : zX) (d : Nat) (a0 : Nat) (j1 : Option Value) (a2 : Int32) (a3 : Int32) (j4 : Option Value) (j5 : Option Value) (h : zH) (r : zO × zH)
    (hw : ∃ o1 : Nat, fld h a0 4 3 = some (.ref o1) ∧
    ∃ x2 : Int32, fld h o1 5 3 = some (.int x2) ∧
    if (10 * x2) ≤ a3 then (
      r = (.inl (none), h))
    else (
      ∃ o3 : Nat, fld h a0 4 4 = some (.ref o3) ∧
      ∃ o4 : Nat, fld h o3 0 0 = some (.ref o4) ∧
      isO h o4 10 = true ∧ ∃ (x5 : Int32) (h6 : zH), zT E d m_Scene_mildOf 0 [some (.ref o4), some (.int (a3 / 10))] [] h (.inl (some (.int x5)), h6) ∧
      if (zrem a3 10) = x5 then (
        zT E (d + 1) m_Guess_search 45 [some (.ref a0), j1, some (.int a2), some (.int (a3 + 1)), some (.int (a3 / 10)), some (.int (zrem a3 10))] [] h6 r)
      else (
        ∃ o7 : Nat, fld h6 a0 4 5 = some (.ref o7) ∧
        ∃ o8 : Nat, fld h6 a0 4 4 = some (.ref o8) ∧
        ∃ o9 : Nat, fld h6 o8 0 0 = some (.ref o9) ∧
        isO h6 o7 10 = true ∧ ∃ (h11 : zH), zT E d m_Scene_copyFrom 0 [some (.ref o7), some (.ref o9)] [] h6 (.inl none, h11) ∧
        ∃ o12 : Nat, fld h11 a0 4 5 = some (.ref o12) ∧
        isO h11 o12 10 = true ∧ ∃ (h14 : zH), zT E d m_Scene_setMild 0 [some (.ref o12), some (.int (a3 / 10)), some (.int (zrem a3 10))] [] h11 (.inl none, h14) ∧
        isO h14 a0 4 = true ∧ ∃ (x15 : Int32) (h16 : zH), zT E d m_Guess_agrees 0 [some (.ref a0), some (.int a2), none] [] h14 (.inl (some (.int x15)), h16) ∧
        if x15 = 0 then (
          zT E (d + 1) m_Guess_search 45 [some (.ref a0), j1, some (.int a2), some (.int (a3 + 1)), some (.int (a3 / 10)), some (.int (zrem a3 10))] [] h16 r)
        else (
          isO h16 a0 4 = true ∧ ∃ (h18 : zH), zT E d m_Guess_note 0 [some (.ref a0), some (.int a3), some (.int a2), none, none] [] h16 (.inl none, h18) ∧
          zT E (d + 1) m_Guess_search 45 [some (.ref a0), j1, some (.int a2), some (.int (a3 + 1)), some (.int (a3 / 10)), some (.int (zrem a3 10))] [] h18 r)))) :
    zT E (d + 1) m_Guess_search 45 [some (.ref a0), j1, some (.int a2), some (.int a3), j4, j5] [] h r := by
  refine zT_st (pc' := 49) (L' := [some (.ref a0), j1, some (.int a2), some (.int a3), j4, j5]) (st' := [.ref a0, .int 10, .int a3]) (h' := h) 3 (fun n => rfl) ?_
  obtain ⟨o1, e, hw⟩ := hw
  refine zT_st (pc' := 52) (L' := [some (.ref a0), j1, some (.int a2), some (.int a3), j4, j5]) (st' := [.ref o1, .int 10, .int a3]) (h' := h) 1 (fun n => fld_eq (E := E) e _) ?_
  obtain ⟨x2, e, hw⟩ := hw
  refine zT_st (pc' := 55) (L' := [some (.ref a0), j1, some (.int a2), some (.int a3), j4, j5]) (st' := [.int x2, .int 10, .int a3]) (h' := h) 1 (fun n => fld_eq (E := E) e _) ?_
  refine zT_st (pc' := 56) (L' := [some (.ref a0), j1, some (.int a2), some (.int a3), j4, j5]) (st' := [.int (10 * x2), .int a3]) (h' := h) 1 (fun n => rfl) ?_
  by_cases hc : (10 * x2) ≤ a3
  · rw [if_pos hc] at hw
    refine zT_st (pc' := 133) (L' := [some (.ref a0), j1, some (.int a2), some (.int a3), j4, j5]) (st' := []) (h' := h) 1 (fun n => if_pos hc) ?_
    subst hw
    exact zT_ret 1 rfl
  · rw [if_neg hc] at hw
    refine zT_st (pc' := 59) (L' := [some (.ref a0), j1, some (.int a2), some (.int a3), j4, j5]) (st' := []) (h' := h) 1 (fun n => if_neg hc) ?_
    refine zT_st (pc' := 62) (L' := [some (.ref a0), j1, some (.int a2), some (.int a3), j4, j5]) (st' := [.int 10, .int a3]) (h' := h) 2 (fun n => rfl) ?_
    refine zT_st (pc' := 63) (L' := [some (.ref a0), j1, some (.int a2), some (.int a3), j4, j5]) (st' := [.int (a3 / 10)]) (h' := h) 1 (fun n => rfl) ?_
    refine zT_st (pc' := 68) (L' := [some (.ref a0), j1, some (.int a2), some (.int a3), some (.int (a3 / 10)), j5]) (st' := [.int 10, .int a3]) (h' := h) 3 (fun n => rfl) ?_
    refine zT_st (pc' := 69) (L' := [some (.ref a0), j1, some (.int a2), some (.int a3), some (.int (a3 / 10)), j5]) (st' := [.int (zrem a3 10)]) (h' := h) 1 (fun n => rfl) ?_
    refine zT_st (pc' := 74) (L' := [some (.ref a0), j1, some (.int a2), some (.int a3), some (.int (a3 / 10)), some (.int (zrem a3 10))]) (st' := [.ref a0, .int (zrem a3 10)]) (h' := h) 3 (fun n => rfl) ?_
    obtain ⟨o3, e, hw⟩ := hw
    refine zT_st (pc' := 77) (L' := [some (.ref a0), j1, some (.int a2), some (.int a3), some (.int (a3 / 10)), some (.int (zrem a3 10))]) (st' := [.ref o3, .int (zrem a3 10)]) (h' := h) 1 (fun n => fld_eq (E := E) e _) ?_
    obtain ⟨o4, e, hw⟩ := hw
    refine zT_st (pc' := 80) (L' := [some (.ref a0), j1, some (.int a2), some (.int a3), some (.int (a3 / 10)), some (.int (zrem a3 10))]) (st' := [.ref o4, .int (zrem a3 10)]) (h' := h) 1 (fun n => fld_eq (E := E) e _) ?_
    refine zT_st (pc' := 82) (L' := [some (.ref a0), j1, some (.int a2), some (.int a3), some (.int (a3 / 10)), some (.int (zrem a3 10))]) (st' := [.int (a3 / 10), .ref o4, .int (zrem a3 10)]) (h' := h) 1 (fun n => rfl) ?_
    obtain ⟨hq, hw⟩ := hw
    obtain ⟨x5, h6, hx, hw⟩ := hw
    refine zT_call (pc' := 85) (rest := [.int (zrem a3 10)]) 1 (fun n => rfl) hq hx ?_
    show zT E (d + 1) m_Guess_search 85 [some (.ref a0), j1, some (.int a2), some (.int a3), some (.int (a3 / 10)), some (.int (zrem a3 10))] [.int x5, .int (zrem a3 10)] h6 r
    by_cases hc : (zrem a3 10) = x5
    · rw [if_pos hc] at hw
      refine zT_st (pc' := 127) (L' := [some (.ref a0), j1, some (.int a2), some (.int a3), some (.int (a3 / 10)), some (.int (zrem a3 10))]) (st' := []) (h' := h6) 1 (fun n => if_pos hc) ?_
      exact zT_st 2 (fun n => rfl) hw
    · rw [if_neg hc] at hw
      refine zT_st (pc' := 88) (L' := [some (.ref a0), j1, some (.int a2), some (.int a3), some (.int (a3 / 10)), some (.int (zrem a3 10))]) (st' := []) (h' := h6) 1 (fun n => if_neg hc) ?_
      refine zT_st (pc' := 89) (L' := [some (.ref a0), j1, some (.int a2), some (.int a3), some (.int (a3 / 10)), some (.int (zrem a3 10))]) (st' := [.ref a0]) (h' := h6) 1 (fun n => rfl) ?_
      obtain ⟨o7, e, hw⟩ := hw
      refine zT_st (pc' := 92) (L' := [some (.ref a0), j1, some (.int a2), some (.int a3), some (.int (a3 / 10)), some (.int (zrem a3 10))]) (st' := [.ref o7]) (h' := h6) 1 (fun n => fld_eq (E := E) e _) ?_
      refine zT_st (pc' := 93) (L' := [some (.ref a0), j1, some (.int a2), some (.int a3), some (.int (a3 / 10)), some (.int (zrem a3 10))]) (st' := [.ref a0, .ref o7]) (h' := h6) 1 (fun n => rfl) ?_
      obtain ⟨o8, e, hw⟩ := hw
      refine zT_st (pc' := 96) (L' := [some (.ref a0), j1, some (.int a2), some (.int a3), some (.int (a3 / 10)), some (.int (zrem a3 10))]) (st' := [.ref o8, .ref o7]) (h' := h6) 1 (fun n => fld_eq (E := E) e _) ?_
      obtain ⟨o9, e, hw⟩ := hw
      refine zT_st (pc' := 99) (L' := [some (.ref a0), j1, some (.int a2), some (.int a3), some (.int (a3 / 10)), some (.int (zrem a3 10))]) (st' := [.ref o9, .ref o7]) (h' := h6) 1 (fun n => fld_eq (E := E) e _) ?_
      obtain ⟨hq, hw⟩ := hw
      obtain ⟨h11, hx, hw⟩ := hw
      refine zT_call (pc' := 102) (rest := []) 1 (fun n => rfl) hq hx ?_
      show zT E (d + 1) m_Guess_search 102 [some (.ref a0), j1, some (.int a2), some (.int a3), some (.int (a3 / 10)), some (.int (zrem a3 10))] [] h11 r
      refine zT_st (pc' := 103) (L' := [some (.ref a0), j1, some (.int a2), some (.int a3), some (.int (a3 / 10)), some (.int (zrem a3 10))]) (st' := [.ref a0]) (h' := h11) 1 (fun n => rfl) ?_
      obtain ⟨o12, e, hw⟩ := hw
      refine zT_st (pc' := 106) (L' := [some (.ref a0), j1, some (.int a2), some (.int a3), some (.int (a3 / 10)), some (.int (zrem a3 10))]) (st' := [.ref o12]) (h' := h11) 1 (fun n => fld_eq (E := E) e _) ?_
      refine zT_st (pc' := 110) (L' := [some (.ref a0), j1, some (.int a2), some (.int a3), some (.int (a3 / 10)), some (.int (zrem a3 10))]) (st' := [.int (zrem a3 10), .int (a3 / 10), .ref o12]) (h' := h11) 2 (fun n => rfl) ?_
      obtain ⟨hq, hw⟩ := hw
      obtain ⟨h14, hx, hw⟩ := hw
      refine zT_call (pc' := 113) (rest := []) 1 (fun n => rfl) hq hx ?_
      show zT E (d + 1) m_Guess_search 113 [some (.ref a0), j1, some (.int a2), some (.int a3), some (.int (a3 / 10)), some (.int (zrem a3 10))] [] h14 r
      refine zT_st (pc' := 115) (L' := [some (.ref a0), j1, some (.int a2), some (.int a3), some (.int (a3 / 10)), some (.int (zrem a3 10))]) (st' := [.int a2, .ref a0]) (h' := h14) 2 (fun n => rfl) ?_
      obtain ⟨hq, hw⟩ := hw
      obtain ⟨x15, h16, hx, hw⟩ := hw
      refine zT_call (pc' := 118) (rest := []) 1 (fun n => rfl) hq hx ?_
      show zT E (d + 1) m_Guess_search 118 [some (.ref a0), j1, some (.int a2), some (.int a3), some (.int (a3 / 10)), some (.int (zrem a3 10))] [.int x15] h16 r
      by_cases hc : x15 = 0
      · rw [if_pos hc] at hw
        refine zT_st (pc' := 127) (L' := [some (.ref a0), j1, some (.int a2), some (.int a3), some (.int (a3 / 10)), some (.int (zrem a3 10))]) (st' := []) (h' := h16) 1 (fun n => if_pos hc) ?_
        exact zT_st 2 (fun n => rfl) hw
      · rw [if_neg hc] at hw
        refine zT_st (pc' := 121) (L' := [some (.ref a0), j1, some (.int a2), some (.int a3), some (.int (a3 / 10)), some (.int (zrem a3 10))]) (st' := []) (h' := h16) 1 (fun n => if_neg hc) ?_
        refine zT_st (pc' := 124) (L' := [some (.ref a0), j1, some (.int a2), some (.int a3), some (.int (a3 / 10)), some (.int (zrem a3 10))]) (st' := [.int a2, .int a3, .ref a0]) (h' := h16) 3 (fun n => rfl) ?_
        obtain ⟨hq, hw⟩ := hw
        obtain ⟨h18, hx, hw⟩ := hw
        refine zT_call (pc' := 127) (rest := []) 1 (fun n => rfl) hq hx ?_
        show zT E (d + 1) m_Guess_search 127 [some (.ref a0), j1, some (.int a2), some (.int a3), some (.int (a3 / 10)), some (.int (zrem a3 10))] [] h18 r
        exact zT_st 2 (fun n => rfl) hw
set_option maxRecDepth 4000 in
theorem s_Guess_note_0 (E : zX) (d : Nat) (a0 : Nat) (a1 : Int32) (a2 : Int32) (h : zH) (r : zO × zH)
    (hw : ∃ x1 : Int32, fld h a0 4 0 = some (.int x1) ∧
    (∃ w, fld h a0 4 0 = some w) ∧
    ∃ x2 : Int32, fld (setF h a0 0 (.int (x1 + 1))) a0 4 1 = some (.int x2) ∧
    if x2 = (-1) then (
      (∃ w, fld (setF h a0 0 (.int (x1 + 1))) a0 4 1 = some w) ∧
      zT E (d + 1) m_Guess_note 25 [some (.ref a0), some (.int a1), some (.int a2), some (.int 0), none] [] (setF (setF h a0 0 (.int (x1 + 1))) a0 1 (.int a1)) r)
    else (
      zT E (d + 1) m_Guess_note 25 [some (.ref a0), some (.int a1), some (.int a2), some (.int 0), none] [] (setF h a0 0 (.int (x1 + 1))) r)) :
    zT E (d + 1) m_Guess_note 0 [some (.ref a0), some (.int a1), some (.int a2), none, none] [] h r := by
  refine zT_st (pc' := 2) (L' := [some (.ref a0), some (.int a1), some (.int a2), none, none]) (st' := [.ref a0, .ref a0]) (h' := h) 2 (fun n => rfl) ?_
  obtain ⟨x1, e, hw⟩ := hw
  refine zT_st (pc' := 5) (L' := [some (.ref a0), some (.int a1), some (.int a2), none, none]) (st' := [.int x1, .ref a0]) (h' := h) 1 (fun n => fld_eq (E := E) e _) ?_
  refine zT_st (pc' := 7) (L' := [some (.ref a0), some (.int a1), some (.int a2), none, none]) (st' := [.int (x1 + 1), .ref a0]) (h' := h) 2 (fun n => rfl) ?_
  obtain ⟨⟨w, e⟩, hw⟩ := hw
  refine zT_st (pc' := 10) (L' := [some (.ref a0), some (.int a1), some (.int a2), none, none]) (st' := []) (h' := (setF h a0 0 (.int (x1 + 1)))) 1 (fun n => put_eq e rfl _ _) ?_
  refine zT_st (pc' := 11) (L' := [some (.ref a0), some (.int a1), some (.int a2), none, none]) (st' := [.ref a0]) (h' := (setF h a0 0 (.int (x1 + 1)))) 1 (fun n => rfl) ?_
  obtain ⟨x2, e, hw⟩ := hw
  refine zT_st (pc' := 14) (L' := [some (.ref a0), some (.int a1), some (.int a2), none, none]) (st' := [.int x2]) (h' := (setF h a0 0 (.int (x1 + 1)))) 1 (fun n => fld_eq (E := E) e _) ?_
  refine zT_st (pc' := 15) (L' := [some (.ref a0), some (.int a1), some (.int a2), none, none]) (st' := [.int (-1), .int x2]) (h' := (setF h a0 0 (.int (x1 + 1)))) 1 (fun n => rfl) ?_
  by_cases hc : x2 = (-1)
  · rw [if_pos hc] at hw
    refine zT_st (pc' := 18) (L' := [some (.ref a0), some (.int a1), some (.int a2), none, none]) (st' := []) (h' := (setF h a0 0 (.int (x1 + 1)))) 1 (fun n => if_pos hc) ?_
    refine zT_st (pc' := 20) (L' := [some (.ref a0), some (.int a1), some (.int a2), none, none]) (st' := [.int a1, .ref a0]) (h' := (setF h a0 0 (.int (x1 + 1)))) 2 (fun n => rfl) ?_
    obtain ⟨⟨w, e⟩, hw⟩ := hw
    refine zT_st (pc' := 23) (L' := [some (.ref a0), some (.int a1), some (.int a2), none, none]) (st' := []) (h' := (setF (setF h a0 0 (.int (x1 + 1))) a0 1 (.int a1))) 1 (fun n => put_eq e rfl _ _) ?_
    exact zT_st 2 (fun n => rfl) hw
  · rw [if_neg hc] at hw
    refine zT_st (pc' := 23) (L' := [some (.ref a0), some (.int a1), some (.int a2), none, none]) (st' := []) (h' := (setF h a0 0 (.int (x1 + 1)))) 1 (fun n => if_neg hc) ?_
    exact zT_st 2 (fun n => rfl) hw
set_option maxRecDepth 4000 in
theorem s_Guess_note_25 (E : zX) (d : Nat) (a0 : Nat) (j1 : Option Value) (a2 : Int32) (a3 : Int32) (j4 : Option Value) (h : zH) (r : zO × zH)
    (hw : ∃ o1 : Nat, fld h a0 4 3 = some (.ref o1) ∧
    ∃ x2 : Int32, fld h o1 5 4 = some (.int x2) ∧
    if x2 ≤ a3 then (
      r = (.inl (none), h))
    else (
      if a2 < 8 then (
        r = (.inl (none), h))
      else (
        ∃ o3 : Nat, fld h a0 4 6 = some (.ref o3) ∧
        isO h o3 10 = true ∧ ∃ (x4 : Int32) (h5 : zH), zT E d m_Scene_heldIn 0 [some (.ref o3), some (.int a3)] [] h (.inl (some (.int x4)), h5) ∧
        ∃ o6 : Nat, fld h5 a0 4 7 = some (.ref o6) ∧
        ∃ (n7 : Nat) (f8 : Nat → Int32), arr h5 o6 = some (n7, f8) ∧ ¬ (((a3 * 4) + (x4 >>> (5 &&& 31))) < 0 ∨ n7 ≤ (((a3 * 4) + (x4 >>> (5 &&& 31)))).toNatClampNeg) ∧
        ∃ (n9 : Nat) (f10 : Nat → Int32), arr h5 o6 = some (n9, f10) ∧ ¬ (((a3 * 4) + (x4 >>> (5 &&& 31))) < 0 ∨ n9 ≤ (((a3 * 4) + (x4 >>> (5 &&& 31)))).toNatClampNeg) ∧
        zT E (d + 1) m_Guess_note 25 [some (.ref a0), j1, some (.int a2), some (.int (a3 + 1)), some (.int x4)] [] (setA h5 o6 n9 (upd f10 (((a3 * 4) + (x4 >>> (5 &&& 31)))).toNatClampNeg ((f8 (((a3 * 4) + (x4 >>> (5 &&& 31)))).toNatClampNeg) ||| (1 <<< ((x4 &&& 31) &&& 31))))) r))) :
    zT E (d + 1) m_Guess_note 25 [some (.ref a0), j1, some (.int a2), some (.int a3), j4] [] h r := by
  refine zT_st (pc' := 27) (L' := [some (.ref a0), j1, some (.int a2), some (.int a3), j4]) (st' := [.ref a0, .int a3]) (h' := h) 2 (fun n => rfl) ?_
  obtain ⟨o1, e, hw⟩ := hw
  refine zT_st (pc' := 30) (L' := [some (.ref a0), j1, some (.int a2), some (.int a3), j4]) (st' := [.ref o1, .int a3]) (h' := h) 1 (fun n => fld_eq (E := E) e _) ?_
  obtain ⟨x2, e, hw⟩ := hw
  refine zT_st (pc' := 33) (L' := [some (.ref a0), j1, some (.int a2), some (.int a3), j4]) (st' := [.int x2, .int a3]) (h' := h) 1 (fun n => fld_eq (E := E) e _) ?_
  by_cases hc : x2 ≤ a3
  · rw [if_pos hc] at hw
    refine zT_st (pc' := 81) (L' := [some (.ref a0), j1, some (.int a2), some (.int a3), j4]) (st' := []) (h' := h) 1 (fun n => if_pos hc) ?_
    subst hw
    exact zT_ret 1 rfl
  · rw [if_neg hc] at hw
    refine zT_st (pc' := 36) (L' := [some (.ref a0), j1, some (.int a2), some (.int a3), j4]) (st' := []) (h' := h) 1 (fun n => if_neg hc) ?_
    refine zT_st (pc' := 39) (L' := [some (.ref a0), j1, some (.int a2), some (.int a3), j4]) (st' := [.int 8, .int a2]) (h' := h) 2 (fun n => rfl) ?_
    by_cases hc : a2 < 8
    · rw [if_pos hc] at hw
      refine zT_st (pc' := 81) (L' := [some (.ref a0), j1, some (.int a2), some (.int a3), j4]) (st' := []) (h' := h) 1 (fun n => if_pos hc) ?_
      subst hw
      exact zT_ret 1 rfl
    · rw [if_neg hc] at hw
      refine zT_st (pc' := 42) (L' := [some (.ref a0), j1, some (.int a2), some (.int a3), j4]) (st' := []) (h' := h) 1 (fun n => if_neg hc) ?_
      refine zT_st (pc' := 43) (L' := [some (.ref a0), j1, some (.int a2), some (.int a3), j4]) (st' := [.ref a0]) (h' := h) 1 (fun n => rfl) ?_
      obtain ⟨o3, e, hw⟩ := hw
      refine zT_st (pc' := 46) (L' := [some (.ref a0), j1, some (.int a2), some (.int a3), j4]) (st' := [.ref o3]) (h' := h) 1 (fun n => fld_eq (E := E) e _) ?_
      refine zT_st (pc' := 47) (L' := [some (.ref a0), j1, some (.int a2), some (.int a3), j4]) (st' := [.int a3, .ref o3]) (h' := h) 1 (fun n => rfl) ?_
      obtain ⟨hq, hw⟩ := hw
      obtain ⟨x4, h5, hx, hw⟩ := hw
      refine zT_call (pc' := 50) (rest := []) 1 (fun n => rfl) hq hx ?_
      show zT E (d + 1) m_Guess_note 50 [some (.ref a0), j1, some (.int a2), some (.int a3), j4] [.int x4] h5 r
      refine zT_st (pc' := 53) (L' := [some (.ref a0), j1, some (.int a2), some (.int a3), some (.int x4)]) (st' := [.ref a0]) (h' := h5) 2 (fun n => rfl) ?_
      obtain ⟨o6, e, hw⟩ := hw
      refine zT_st (pc' := 56) (L' := [some (.ref a0), j1, some (.int a2), some (.int a3), some (.int x4)]) (st' := [.ref o6]) (h' := h5) 1 (fun n => fld_eq (E := E) e _) ?_
      refine zT_st (pc' := 65) (L' := [some (.ref a0), j1, some (.int a2), some (.int a3), some (.int x4)]) (st' := [.int ((a3 * 4) + (x4 >>> (5 &&& 31))), .ref o6, .int ((a3 * 4) + (x4 >>> (5 &&& 31))), .ref o6]) (h' := h5) 8 (fun n => rfl) ?_
      obtain ⟨n7, f8, e, hi, hw⟩ := hw
      refine zT_st (pc' := 66) (L' := [some (.ref a0), j1, some (.int a2), some (.int a3), some (.int x4)]) (st' := [.int (f8 (((a3 * 4) + (x4 >>> (5 &&& 31)))).toNatClampNeg), .int ((a3 * 4) + (x4 >>> (5 &&& 31))), .ref o6]) (h' := h5) 1 (fun n => arr_eq (E := E) e hi [.int ((a3 * 4) + (x4 >>> (5 &&& 31))), .ref o6] (fun st => zrun zP zCd E n (d + 1) m_Guess_note 66 [some (.ref a0), j1, some (.int a2), some (.int a3), some (.int x4)] st h5)) ?_
      refine zT_st (pc' := 74) (L' := [some (.ref a0), j1, some (.int a2), some (.int a3), some (.int x4)]) (st' := [.int ((f8 (((a3 * 4) + (x4 >>> (5 &&& 31)))).toNatClampNeg) ||| (1 <<< ((x4 &&& 31) &&& 31))), .int ((a3 * 4) + (x4 >>> (5 &&& 31))), .ref o6]) (h' := h5) 6 (fun n => rfl) ?_
      obtain ⟨n9, f10, e, hi, hw⟩ := hw
      refine zT_st (pc' := 75) (L' := [some (.ref a0), j1, some (.int a2), some (.int a3), some (.int x4)]) (st' := []) (h' := (setA h5 o6 n9 (upd f10 (((a3 * 4) + (x4 >>> (5 &&& 31)))).toNatClampNeg ((f8 (((a3 * 4) + (x4 >>> (5 &&& 31)))).toNatClampNeg) ||| (1 <<< ((x4 &&& 31) &&& 31)))))) 1 (fun n => set_eq e hi _ _) ?_
      exact zT_st 2 (fun n => rfl) hw
set_option maxRecDepth 4000 in
theorem s_Guess_mostUnlike_0 (E : zX) (d : Nat) (a0 : Nat) (h : zH) (r : zO × zH)
    (hw : zT E (d + 1) m_Guess_mostUnlike 4 [some (.ref a0), some (.int (-1)), some (.int 0)] [] h r) :
    zT E (d + 1) m_Guess_mostUnlike 0 [some (.ref a0), none, none] [] h r := by
  exact zT_st 4 (fun n => rfl) hw
set_option maxRecDepth 4000 in
theorem s_Guess_mostUnlike_4 (E : zX) (d : Nat) (a0 : Nat) (a1 : Int32) (a2 : Int32) (h : zH) (r : zO × zH)
    (hw : ∃ o1 : Nat, fld h a0 4 3 = some (.ref o1) ∧
    ∃ x2 : Int32, fld h o1 5 4 = some (.int x2) ∧
    if x2 ≤ a2 then (
      r = (.inl (some (.int a1)), h))
    else (
      ∃ x3 : Int32, fld h a0 4 0 = some (.int x3) ∧
      if x3 ≤ 0 then (
        r = (.inl (some (.int a1)), h))
      else (
        if a1 = (-1) then (
          zT E (d + 1) m_Guess_mostUnlike 4 [some (.ref a0), some (.int a2), some (.int (a2 + 1))] [] h r)
        else (
          isO h a0 4 = true ∧ ∃ (x4 : Int32) (h5 : zH), zT E d m_Guess_unlikeIn 0 [some (.ref a0), some (.int a2), none, none] [] h (.inl (some (.int x4)), h5) ∧
          isO h5 a0 4 = true ∧ ∃ (x6 : Int32) (h7 : zH), zT E d m_Guess_unlikeIn 0 [some (.ref a0), some (.int a1), none, none] [] h5 (.inl (some (.int x6)), h7) ∧
          if x4 ≤ x6 then (
            zT E (d + 1) m_Guess_mostUnlike 4 [some (.ref a0), some (.int a1), some (.int (a2 + 1))] [] h7 r)
          else (
            zT E (d + 1) m_Guess_mostUnlike 4 [some (.ref a0), some (.int a2), some (.int (a2 + 1))] [] h7 r))))) :
    zT E (d + 1) m_Guess_mostUnlike 4 [some (.ref a0), some (.int a1), some (.int a2)] [] h r := by
  refine zT_st (pc' := 6) (L' := [some (.ref a0), some (.int a1), some (.int a2)]) (st' := [.ref a0, .int a2]) (h' := h) 2 (fun n => rfl) ?_
  obtain ⟨o1, e, hw⟩ := hw
  refine zT_st (pc' := 9) (L' := [some (.ref a0), some (.int a1), some (.int a2)]) (st' := [.ref o1, .int a2]) (h' := h) 1 (fun n => fld_eq (E := E) e _) ?_
  obtain ⟨x2, e, hw⟩ := hw
  refine zT_st (pc' := 12) (L' := [some (.ref a0), some (.int a1), some (.int a2)]) (st' := [.int x2, .int a2]) (h' := h) 1 (fun n => fld_eq (E := E) e _) ?_
  by_cases hc : x2 ≤ a2
  · rw [if_pos hc] at hw
    refine zT_st (pc' := 48) (L' := [some (.ref a0), some (.int a1), some (.int a2)]) (st' := []) (h' := h) 1 (fun n => if_pos hc) ?_
    subst hw
    exact zT_ret 2 rfl
  · rw [if_neg hc] at hw
    refine zT_st (pc' := 15) (L' := [some (.ref a0), some (.int a1), some (.int a2)]) (st' := []) (h' := h) 1 (fun n => if_neg hc) ?_
    refine zT_st (pc' := 16) (L' := [some (.ref a0), some (.int a1), some (.int a2)]) (st' := [.ref a0]) (h' := h) 1 (fun n => rfl) ?_
    obtain ⟨x3, e, hw⟩ := hw
    refine zT_st (pc' := 19) (L' := [some (.ref a0), some (.int a1), some (.int a2)]) (st' := [.int x3]) (h' := h) 1 (fun n => fld_eq (E := E) e _) ?_
    by_cases hc : x3 ≤ 0
    · rw [if_pos hc] at hw
      refine zT_st (pc' := 48) (L' := [some (.ref a0), some (.int a1), some (.int a2)]) (st' := []) (h' := h) 1 (fun n => if_pos hc) ?_
      subst hw
      exact zT_ret 2 rfl
    · rw [if_neg hc] at hw
      refine zT_st (pc' := 22) (L' := [some (.ref a0), some (.int a1), some (.int a2)]) (st' := []) (h' := h) 1 (fun n => if_neg hc) ?_
      refine zT_st (pc' := 24) (L' := [some (.ref a0), some (.int a1), some (.int a2)]) (st' := [.int (-1), .int a1]) (h' := h) 2 (fun n => rfl) ?_
      by_cases hc : a1 = (-1)
      · rw [if_pos hc] at hw
        refine zT_st (pc' := 40) (L' := [some (.ref a0), some (.int a1), some (.int a2)]) (st' := []) (h' := h) 1 (fun n => if_pos hc) ?_
        exact zT_st 4 (fun n => rfl) hw
      · rw [if_neg hc] at hw
        refine zT_st (pc' := 27) (L' := [some (.ref a0), some (.int a1), some (.int a2)]) (st' := []) (h' := h) 1 (fun n => if_neg hc) ?_
        refine zT_st (pc' := 29) (L' := [some (.ref a0), some (.int a1), some (.int a2)]) (st' := [.int a2, .ref a0]) (h' := h) 2 (fun n => rfl) ?_
        obtain ⟨hq, hw⟩ := hw
        obtain ⟨x4, h5, hx, hw⟩ := hw
        refine zT_call (pc' := 32) (rest := []) 1 (fun n => rfl) hq hx ?_
        show zT E (d + 1) m_Guess_mostUnlike 32 [some (.ref a0), some (.int a1), some (.int a2)] [.int x4] h5 r
        refine zT_st (pc' := 34) (L' := [some (.ref a0), some (.int a1), some (.int a2)]) (st' := [.int a1, .ref a0, .int x4]) (h' := h5) 2 (fun n => rfl) ?_
        obtain ⟨hq, hw⟩ := hw
        obtain ⟨x6, h7, hx, hw⟩ := hw
        refine zT_call (pc' := 37) (rest := [.int x4]) 1 (fun n => rfl) hq hx ?_
        show zT E (d + 1) m_Guess_mostUnlike 37 [some (.ref a0), some (.int a1), some (.int a2)] [.int x6, .int x4] h7 r
        by_cases hc : x4 ≤ x6
        · rw [if_pos hc] at hw
          refine zT_st (pc' := 42) (L' := [some (.ref a0), some (.int a1), some (.int a2)]) (st' := []) (h' := h7) 1 (fun n => if_pos hc) ?_
          exact zT_st 2 (fun n => rfl) hw
        · rw [if_neg hc] at hw
          refine zT_st (pc' := 40) (L' := [some (.ref a0), some (.int a1), some (.int a2)]) (st' := []) (h' := h7) 1 (fun n => if_neg hc) ?_
          exact zT_st 4 (fun n => rfl) hw
set_option maxRecDepth 4000 in
theorem s_Guess_unlikeIn_0 (E : zX) (d : Nat) (a0 : Nat) (a1 : Int32) (h : zH) (r : zO × zH)
    (hw : zT E (d + 1) m_Guess_unlikeIn 4 [some (.ref a0), some (.int a1), some (.int 0), some (.int 0)] [] h r) :
    zT E (d + 1) m_Guess_unlikeIn 0 [some (.ref a0), some (.int a1), none, none] [] h r := by
  exact zT_st 4 (fun n => rfl) hw
set_option maxRecDepth 4000 in
theorem s_Guess_unlikeIn_4 (E : zX) (d : Nat) (a0 : Nat) (a1 : Int32) (a2 : Int32) (a3 : Int32) (h : zH) (r : zO × zH)
    (hw : if 4 ≤ a3 then (
      r = (.inl (some (.int a2)), h))
    else (
      ∃ o1 : Nat, fld h a0 4 7 = some (.ref o1) ∧
      ∃ (n2 : Nat) (f3 : Nat → Int32), arr h o1 = some (n2, f3) ∧ ¬ (((a1 * 4) + a3) < 0 ∨ n2 ≤ (((a1 * 4) + a3)).toNatClampNeg) ∧
      ∃ (x4 : Int32) (h5 : zH), zT E d m_Integer_bitCount 0 [some (.int (f3 (((a1 * 4) + a3)).toNatClampNeg))] [] h (.inl (some (.int x4)), h5) ∧
      zT E (d + 1) m_Guess_unlikeIn 4 [some (.ref a0), some (.int a1), some (.int (a2 + x4)), some (.int (a3 + 1))] [] h5 r)) :
    zT E (d + 1) m_Guess_unlikeIn 4 [some (.ref a0), some (.int a1), some (.int a2), some (.int a3)] [] h r := by
  refine zT_st (pc' := 6) (L' := [some (.ref a0), some (.int a1), some (.int a2), some (.int a3)]) (st' := [.int 4, .int a3]) (h' := h) 2 (fun n => rfl) ?_
  by_cases hc : 4 ≤ a3
  · rw [if_pos hc] at hw
    refine zT_st (pc' := 31) (L' := [some (.ref a0), some (.int a1), some (.int a2), some (.int a3)]) (st' := []) (h' := h) 1 (fun n => if_pos hc) ?_
    subst hw
    exact zT_ret 2 rfl
  · rw [if_neg hc] at hw
    refine zT_st (pc' := 9) (L' := [some (.ref a0), some (.int a1), some (.int a2), some (.int a3)]) (st' := []) (h' := h) 1 (fun n => if_neg hc) ?_
    refine zT_st (pc' := 11) (L' := [some (.ref a0), some (.int a1), some (.int a2), some (.int a3)]) (st' := [.ref a0, .int a2]) (h' := h) 2 (fun n => rfl) ?_
    obtain ⟨o1, e, hw⟩ := hw
    refine zT_st (pc' := 14) (L' := [some (.ref a0), some (.int a1), some (.int a2), some (.int a3)]) (st' := [.ref o1, .int a2]) (h' := h) 1 (fun n => fld_eq (E := E) e _) ?_
    refine zT_st (pc' := 19) (L' := [some (.ref a0), some (.int a1), some (.int a2), some (.int a3)]) (st' := [.int ((a1 * 4) + a3), .ref o1, .int a2]) (h' := h) 5 (fun n => rfl) ?_
    obtain ⟨n2, f3, e, hi, hw⟩ := hw
    refine zT_st (pc' := 20) (L' := [some (.ref a0), some (.int a1), some (.int a2), some (.int a3)]) (st' := [.int (f3 (((a1 * 4) + a3)).toNatClampNeg), .int a2]) (h' := h) 1 (fun n => arr_eq (E := E) e hi [.int a2] (fun st => zrun zP zCd E n (d + 1) m_Guess_unlikeIn 20 [some (.ref a0), some (.int a1), some (.int a2), some (.int a3)] st h)) ?_
    obtain ⟨x4, h5, hx, hw⟩ := hw
    refine zT_call (pc' := 23) (rest := [.int a2]) 1 (fun n => rfl) rfl hx ?_
    show zT E (d + 1) m_Guess_unlikeIn 23 [some (.ref a0), some (.int a1), some (.int a2), some (.int a3)] [.int x4, .int a2] h5 r
    exact zT_st 4 (fun n => rfl) hw
-- s_Plans_init_0: by hand
set_option maxRecDepth 4000 in
theorem s_Plans_allAtOnce_0 (E : zX) (d : Nat) (a0 : Nat) (h : zH) (r : zO × zH)
    (hw : ∃ o1 : Nat, fld h a0 6 0 = some (.ref o1) ∧
    ∃ o2 : Nat, fld h a0 6 2 = some (.ref o2) ∧
    isO h o1 2 = true ∧ ∃ (h4 : zH), zT E d m_Downs_link 0 [some (.ref o1), some (.ref o2), none, none] [] h (.inl none, h4) ∧
    zT E (d + 1) m_Plans_allAtOnce 15 [some (.ref a0), some (.int 0), some (.int 0), none] [] h4 r) :
    zT E (d + 1) m_Plans_allAtOnce 0 [some (.ref a0), none, none, none] [] h r := by
  refine zT_st (pc' := 3) (L' := [some (.ref a0), some (.int 0), none, none]) (st' := [.ref a0]) (h' := h) 3 (fun n => rfl) ?_
  obtain ⟨o1, e, hw⟩ := hw
  refine zT_st (pc' := 6) (L' := [some (.ref a0), some (.int 0), none, none]) (st' := [.ref o1]) (h' := h) 1 (fun n => fld_eq (E := E) e _) ?_
  refine zT_st (pc' := 7) (L' := [some (.ref a0), some (.int 0), none, none]) (st' := [.ref a0, .ref o1]) (h' := h) 1 (fun n => rfl) ?_
  obtain ⟨o2, e, hw⟩ := hw
  refine zT_st (pc' := 10) (L' := [some (.ref a0), some (.int 0), none, none]) (st' := [.ref o2, .ref o1]) (h' := h) 1 (fun n => fld_eq (E := E) e _) ?_
  obtain ⟨hq, hw⟩ := hw
  obtain ⟨h4, hx, hw⟩ := hw
  refine zT_call (pc' := 13) (rest := []) 1 (fun n => rfl) hq hx ?_
  show zT E (d + 1) m_Plans_allAtOnce 13 [some (.ref a0), some (.int 0), none, none] [] h4 r
  exact zT_st 2 (fun n => rfl) hw
set_option maxRecDepth 4000 in
theorem s_Plans_allAtOnce_15 (E : zX) (d : Nat) (a0 : Nat) (a1 : Int32) (a2 : Int32) (j3 : Option Value) (h : zH) (r : zO × zH)
    (hw : ∃ o1 : Nat, fld h a0 6 1 = some (.ref o1) ∧
    ∃ x2 : Int32, fld h o1 5 4 = some (.int x2) ∧
    if x2 ≤ a2 then (
      zT E (d + 1) m_Plans_allAtOnce 76 [some (.ref a0), some (.int a1), some (.int a1), some (.int 0)] [] h r)
    else (
      ∃ o3 : Nat, fld h a0 6 3 = some (.ref o3) ∧
      ∃ o4 : Nat, fld h a0 6 0 = some (.ref o4) ∧
      ∃ o5 : Nat, fld h a0 6 2 = some (.ref o5) ∧
      isO h o5 10 = true ∧ ∃ (x6 : Int32) (h7 : zH), zT E d m_Scene_guards 0 [some (.ref o5)] [] h (.inl (some (.int x6)), h7) ∧
      isO h7 o4 2 = true ∧ ∃ (x8 : Int32) (h9 : zH), zT E d m_Downs_chain 0 [some (.ref o4), some (.int (1 <<< (a2 &&& 31))), some (.int x6), none, none, none, none] [] h7 (.inl (some (.int x8)), h9) ∧
      ∃ (n10 : Nat) (f11 : Nat → Int32), arr h9 o3 = some (n10, f11) ∧ ¬ (a2 < 0 ∨ n10 ≤ (a2).toNatClampNeg) ∧
      ∃ o12 : Nat, fld (setA h9 o3 n10 (upd f11 (a2).toNatClampNeg x8)) a0 6 2 = some (.ref o12) ∧
      isO (setA h9 o3 n10 (upd f11 (a2).toNatClampNeg x8)) o12 10 = true ∧ ∃ (x13 : Int32) (h14 : zH), zT E d m_Scene_isLoose 0 [some (.ref o12), some (.int a2)] [] (setA h9 o3 n10 (upd f11 (a2).toNatClampNeg x8)) (.inl (some (.int x13)), h14) ∧
      if x13 = 0 then (
        zT E (d + 1) m_Plans_allAtOnce 15 [some (.ref a0), some (.int a1), some (.int (a2 + 1)), j3] [] h14 r)
      else (
        zT E (d + 1) m_Plans_allAtOnce 15 [some (.ref a0), some (.int (a1 ||| (1 <<< (a2 &&& 31)))), some (.int (a2 + 1)), j3] [] h14 r))) :
    zT E (d + 1) m_Plans_allAtOnce 15 [some (.ref a0), some (.int a1), some (.int a2), j3] [] h r := by
  refine zT_st (pc' := 17) (L' := [some (.ref a0), some (.int a1), some (.int a2), j3]) (st' := [.ref a0, .int a2]) (h' := h) 2 (fun n => rfl) ?_
  obtain ⟨o1, e, hw⟩ := hw
  refine zT_st (pc' := 20) (L' := [some (.ref a0), some (.int a1), some (.int a2), j3]) (st' := [.ref o1, .int a2]) (h' := h) 1 (fun n => fld_eq (E := E) e _) ?_
  obtain ⟨x2, e, hw⟩ := hw
  refine zT_st (pc' := 23) (L' := [some (.ref a0), some (.int a1), some (.int a2), j3]) (st' := [.int x2, .int a2]) (h' := h) 1 (fun n => fld_eq (E := E) e _) ?_
  by_cases hc : x2 ≤ a2
  · rw [if_pos hc] at hw
    refine zT_st (pc' := 72) (L' := [some (.ref a0), some (.int a1), some (.int a2), j3]) (st' := []) (h' := h) 1 (fun n => if_pos hc) ?_
    exact zT_st 4 (fun n => rfl) hw
  · rw [if_neg hc] at hw
    refine zT_st (pc' := 26) (L' := [some (.ref a0), some (.int a1), some (.int a2), j3]) (st' := []) (h' := h) 1 (fun n => if_neg hc) ?_
    refine zT_st (pc' := 27) (L' := [some (.ref a0), some (.int a1), some (.int a2), j3]) (st' := [.ref a0]) (h' := h) 1 (fun n => rfl) ?_
    obtain ⟨o3, e, hw⟩ := hw
    refine zT_st (pc' := 30) (L' := [some (.ref a0), some (.int a1), some (.int a2), j3]) (st' := [.ref o3]) (h' := h) 1 (fun n => fld_eq (E := E) e _) ?_
    refine zT_st (pc' := 32) (L' := [some (.ref a0), some (.int a1), some (.int a2), j3]) (st' := [.ref a0, .int a2, .ref o3]) (h' := h) 2 (fun n => rfl) ?_
    obtain ⟨o4, e, hw⟩ := hw
    refine zT_st (pc' := 35) (L' := [some (.ref a0), some (.int a1), some (.int a2), j3]) (st' := [.ref o4, .int a2, .ref o3]) (h' := h) 1 (fun n => fld_eq (E := E) e _) ?_
    refine zT_st (pc' := 39) (L' := [some (.ref a0), some (.int a1), some (.int a2), j3]) (st' := [.ref a0, .int (1 <<< (a2 &&& 31)), .ref o4, .int a2, .ref o3]) (h' := h) 4 (fun n => rfl) ?_
    obtain ⟨o5, e, hw⟩ := hw
    refine zT_st (pc' := 42) (L' := [some (.ref a0), some (.int a1), some (.int a2), j3]) (st' := [.ref o5, .int (1 <<< (a2 &&& 31)), .ref o4, .int a2, .ref o3]) (h' := h) 1 (fun n => fld_eq (E := E) e _) ?_
    obtain ⟨hq, hw⟩ := hw
    obtain ⟨x6, h7, hx, hw⟩ := hw
    refine zT_call (pc' := 45) (rest := [.int (1 <<< (a2 &&& 31)), .ref o4, .int a2, .ref o3]) 1 (fun n => rfl) hq hx ?_
    show zT E (d + 1) m_Plans_allAtOnce 45 [some (.ref a0), some (.int a1), some (.int a2), j3] [.int x6, .int (1 <<< (a2 &&& 31)), .ref o4, .int a2, .ref o3] h7 r
    obtain ⟨hq, hw⟩ := hw
    obtain ⟨x8, h9, hx, hw⟩ := hw
    refine zT_call (pc' := 48) (rest := [.int a2, .ref o3]) 1 (fun n => rfl) hq hx ?_
    show zT E (d + 1) m_Plans_allAtOnce 48 [some (.ref a0), some (.int a1), some (.int a2), j3] [.int x8, .int a2, .ref o3] h9 r
    obtain ⟨n10, f11, e, hi, hw⟩ := hw
    refine zT_st (pc' := 49) (L' := [some (.ref a0), some (.int a1), some (.int a2), j3]) (st' := []) (h' := (setA h9 o3 n10 (upd f11 (a2).toNatClampNeg x8))) 1 (fun n => set_eq e hi _ _) ?_
    refine zT_st (pc' := 50) (L' := [some (.ref a0), some (.int a1), some (.int a2), j3]) (st' := [.ref a0]) (h' := (setA h9 o3 n10 (upd f11 (a2).toNatClampNeg x8))) 1 (fun n => rfl) ?_
    obtain ⟨o12, e, hw⟩ := hw
    refine zT_st (pc' := 53) (L' := [some (.ref a0), some (.int a1), some (.int a2), j3]) (st' := [.ref o12]) (h' := (setA h9 o3 n10 (upd f11 (a2).toNatClampNeg x8))) 1 (fun n => fld_eq (E := E) e _) ?_
    refine zT_st (pc' := 54) (L' := [some (.ref a0), some (.int a1), some (.int a2), j3]) (st' := [.int a2, .ref o12]) (h' := (setA h9 o3 n10 (upd f11 (a2).toNatClampNeg x8))) 1 (fun n => rfl) ?_
    obtain ⟨hq, hw⟩ := hw
    obtain ⟨x13, h14, hx, hw⟩ := hw
    refine zT_call (pc' := 57) (rest := []) 1 (fun n => rfl) hq hx ?_
    show zT E (d + 1) m_Plans_allAtOnce 57 [some (.ref a0), some (.int a1), some (.int a2), j3] [.int x13] h14 r
    by_cases hc : x13 = 0
    · rw [if_pos hc] at hw
      refine zT_st (pc' := 66) (L' := [some (.ref a0), some (.int a1), some (.int a2), j3]) (st' := []) (h' := h14) 1 (fun n => if_pos hc) ?_
      exact zT_st 2 (fun n => rfl) hw
    · rw [if_neg hc] at hw
      refine zT_st (pc' := 60) (L' := [some (.ref a0), some (.int a1), some (.int a2), j3]) (st' := []) (h' := h14) 1 (fun n => if_neg hc) ?_
      exact zT_st 8 (fun n => rfl) hw
set_option maxRecDepth 4000 in
theorem s_Plans_allAtOnce_76 (E : zX) (d : Nat) (a0 : Nat) (a1 : Int32) (a2 : Int32) (a3 : Int32) (h : zH) (r : zO × zH)
    (hw : if 1024 ≤ a3 then (
      r = (.inl (some (.int a2)), h))
    else (
      if (a3 &&& (a1 ^^^ (-1))) = 0 then (
        ∃ (x1 : Int32) (h2 : zH), zT E d m_Integer_bitCount 0 [some (.int a3)] [] h (.inl (some (.int x1)), h2) ∧
        ∃ (x3 : Int32) (h4 : zH), zT E d m_Integer_bitCount 0 [some (.int a2)] [] h2 (.inl (some (.int x3)), h4) ∧
        if x3 ≤ x1 then (
          zT E (d + 1) m_Plans_allAtOnce 76 [some (.ref a0), some (.int a1), some (.int a2), some (.int (a3 + 1))] [] h4 r)
        else (
          isO h4 a0 6 = true ∧ ∃ (x5 : Int32) (h6 : zH), zT E d m_Plans_together 0 [some (.ref a0), some (.int a3), none, none] [] h4 (.inl (some (.int x5)), h6) ∧
          if x5 = a1 then (
            zT E (d + 1) m_Plans_allAtOnce 76 [some (.ref a0), some (.int a1), some (.int a3), some (.int (a3 + 1))] [] h6 r)
          else (
            zT E (d + 1) m_Plans_allAtOnce 76 [some (.ref a0), some (.int a1), some (.int a2), some (.int (a3 + 1))] [] h6 r)))
      else (
        zT E (d + 1) m_Plans_allAtOnce 76 [some (.ref a0), some (.int a1), some (.int a2), some (.int (a3 + 1))] [] h r))) :
    zT E (d + 1) m_Plans_allAtOnce 76 [some (.ref a0), some (.int a1), some (.int a2), some (.int a3)] [] h r := by
  refine zT_st (pc' := 80) (L' := [some (.ref a0), some (.int a1), some (.int a2), some (.int a3)]) (st' := [.int 1024, .int a3]) (h' := h) 2 (fun n => rfl) ?_
  by_cases hc : 1024 ≤ a3
  · rw [if_pos hc] at hw
    refine zT_st (pc' := 119) (L' := [some (.ref a0), some (.int a1), some (.int a2), some (.int a3)]) (st' := []) (h' := h) 1 (fun n => if_pos hc) ?_
    subst hw
    exact zT_ret 2 rfl
  · rw [if_neg hc] at hw
    refine zT_st (pc' := 83) (L' := [some (.ref a0), some (.int a1), some (.int a2), some (.int a3)]) (st' := []) (h' := h) 1 (fun n => if_neg hc) ?_
    refine zT_st (pc' := 88) (L' := [some (.ref a0), some (.int a1), some (.int a2), some (.int a3)]) (st' := [.int (a3 &&& (a1 ^^^ (-1)))]) (h' := h) 5 (fun n => rfl) ?_
    by_cases hc : (a3 &&& (a1 ^^^ (-1))) = 0
    · rw [if_pos hc] at hw
      refine zT_st (pc' := 91) (L' := [some (.ref a0), some (.int a1), some (.int a2), some (.int a3)]) (st' := []) (h' := h) 1 (fun n => if_pos hc) ?_
      refine zT_st (pc' := 92) (L' := [some (.ref a0), some (.int a1), some (.int a2), some (.int a3)]) (st' := [.int a3]) (h' := h) 1 (fun n => rfl) ?_
      obtain ⟨x1, h2, hx, hw⟩ := hw
      refine zT_call (pc' := 95) (rest := []) 1 (fun n => rfl) rfl hx ?_
      show zT E (d + 1) m_Plans_allAtOnce 95 [some (.ref a0), some (.int a1), some (.int a2), some (.int a3)] [.int x1] h2 r
      refine zT_st (pc' := 96) (L' := [some (.ref a0), some (.int a1), some (.int a2), some (.int a3)]) (st' := [.int a2, .int x1]) (h' := h2) 1 (fun n => rfl) ?_
      obtain ⟨x3, h4, hx, hw⟩ := hw
      refine zT_call (pc' := 99) (rest := [.int x1]) 1 (fun n => rfl) rfl hx ?_
      show zT E (d + 1) m_Plans_allAtOnce 99 [some (.ref a0), some (.int a1), some (.int a2), some (.int a3)] [.int x3, .int x1] h4 r
      by_cases hc : x3 ≤ x1
      · rw [if_pos hc] at hw
        refine zT_st (pc' := 113) (L' := [some (.ref a0), some (.int a1), some (.int a2), some (.int a3)]) (st' := []) (h' := h4) 1 (fun n => if_pos hc) ?_
        exact zT_st 2 (fun n => rfl) hw
      · rw [if_neg hc] at hw
        refine zT_st (pc' := 102) (L' := [some (.ref a0), some (.int a1), some (.int a2), some (.int a3)]) (st' := []) (h' := h4) 1 (fun n => if_neg hc) ?_
        refine zT_st (pc' := 104) (L' := [some (.ref a0), some (.int a1), some (.int a2), some (.int a3)]) (st' := [.int a3, .ref a0]) (h' := h4) 2 (fun n => rfl) ?_
        obtain ⟨hq, hw⟩ := hw
        obtain ⟨x5, h6, hx, hw⟩ := hw
        refine zT_call (pc' := 107) (rest := []) 1 (fun n => rfl) hq hx ?_
        show zT E (d + 1) m_Plans_allAtOnce 107 [some (.ref a0), some (.int a1), some (.int a2), some (.int a3)] [.int x5] h6 r
        refine zT_st (pc' := 108) (L' := [some (.ref a0), some (.int a1), some (.int a2), some (.int a3)]) (st' := [.int a1, .int x5]) (h' := h6) 1 (fun n => rfl) ?_
        by_cases hc : x5 = a1
        · rw [if_pos hc] at hw
          refine zT_st (pc' := 111) (L' := [some (.ref a0), some (.int a1), some (.int a2), some (.int a3)]) (st' := []) (h' := h6) 1 (fun n => if_pos hc) ?_
          exact zT_st 4 (fun n => rfl) hw
        · rw [if_neg hc] at hw
          refine zT_st (pc' := 113) (L' := [some (.ref a0), some (.int a1), some (.int a2), some (.int a3)]) (st' := []) (h' := h6) 1 (fun n => if_neg hc) ?_
          exact zT_st 2 (fun n => rfl) hw
    · rw [if_neg hc] at hw
      refine zT_st (pc' := 113) (L' := [some (.ref a0), some (.int a1), some (.int a2), some (.int a3)]) (st' := []) (h' := h) 1 (fun n => if_neg hc) ?_
      exact zT_st 2 (fun n => rfl) hw
set_option maxRecDepth 4000 in
theorem s_Plans_together_0 (E : zX) (d : Nat) (a0 : Nat) (a1 : Int32) (h : zH) (r : zO × zH)
    (hw : zT E d m_Plans_together 4 [some (.ref a0), some (.int a1), some (.int 0), some (.int 0)] [] h r) :
    zT E d m_Plans_together 0 [some (.ref a0), some (.int a1), none, none] [] h r := by
  exact zT_st 4 (fun n => rfl) hw
set_option maxRecDepth 4000 in
theorem s_Plans_together_4 (E : zX) (d : Nat) (a0 : Nat) (a1 : Int32) (a2 : Int32) (a3 : Int32) (h : zH) (r : zO × zH)
    (hw : ∃ o1 : Nat, fld h a0 6 1 = some (.ref o1) ∧
    ∃ x2 : Int32, fld h o1 5 4 = some (.int x2) ∧
    if x2 ≤ a3 then (
      r = (.inl (some (.int a2)), h))
    else (
      if (a1 &&& (1 <<< (a3 &&& 31))) = 0 then (
        zT E d m_Plans_together 4 [some (.ref a0), some (.int a1), some (.int a2), some (.int (a3 + 1))] [] h r)
      else (
        ∃ o3 : Nat, fld h a0 6 3 = some (.ref o3) ∧
        ∃ (n4 : Nat) (f5 : Nat → Int32), arr h o3 = some (n4, f5) ∧ ¬ (a3 < 0 ∨ n4 ≤ (a3).toNatClampNeg) ∧
        zT E d m_Plans_together 4 [some (.ref a0), some (.int a1), some (.int (a2 ||| (f5 (a3).toNatClampNeg))), some (.int (a3 + 1))] [] h r))) :
    zT E d m_Plans_together 4 [some (.ref a0), some (.int a1), some (.int a2), some (.int a3)] [] h r := by
  refine zT_st (pc' := 6) (L' := [some (.ref a0), some (.int a1), some (.int a2), some (.int a3)]) (st' := [.ref a0, .int a3]) (h' := h) 2 (fun n => rfl) ?_
  obtain ⟨o1, e, hw⟩ := hw
  refine zT_st (pc' := 9) (L' := [some (.ref a0), some (.int a1), some (.int a2), some (.int a3)]) (st' := [.ref o1, .int a3]) (h' := h) 1 (fun n => fld_eq (E := E) e _) ?_
  obtain ⟨x2, e, hw⟩ := hw
  refine zT_st (pc' := 12) (L' := [some (.ref a0), some (.int a1), some (.int a2), some (.int a3)]) (st' := [.int x2, .int a3]) (h' := h) 1 (fun n => fld_eq (E := E) e _) ?_
  by_cases hc : x2 ≤ a3
  · rw [if_pos hc] at hw
    refine zT_st (pc' := 38) (L' := [some (.ref a0), some (.int a1), some (.int a2), some (.int a3)]) (st' := []) (h' := h) 1 (fun n => if_pos hc) ?_
    subst hw
    exact zT_ret 2 rfl
  · rw [if_neg hc] at hw
    refine zT_st (pc' := 15) (L' := [some (.ref a0), some (.int a1), some (.int a2), some (.int a3)]) (st' := []) (h' := h) 1 (fun n => if_neg hc) ?_
    refine zT_st (pc' := 20) (L' := [some (.ref a0), some (.int a1), some (.int a2), some (.int a3)]) (st' := [.int (a1 &&& (1 <<< (a3 &&& 31)))]) (h' := h) 5 (fun n => rfl) ?_
    by_cases hc : (a1 &&& (1 <<< (a3 &&& 31))) = 0
    · rw [if_pos hc] at hw
      refine zT_st (pc' := 32) (L' := [some (.ref a0), some (.int a1), some (.int a2), some (.int a3)]) (st' := []) (h' := h) 1 (fun n => if_pos hc) ?_
      exact zT_st 2 (fun n => rfl) hw
    · rw [if_neg hc] at hw
      refine zT_st (pc' := 23) (L' := [some (.ref a0), some (.int a1), some (.int a2), some (.int a3)]) (st' := []) (h' := h) 1 (fun n => if_neg hc) ?_
      refine zT_st (pc' := 25) (L' := [some (.ref a0), some (.int a1), some (.int a2), some (.int a3)]) (st' := [.ref a0, .int a2]) (h' := h) 2 (fun n => rfl) ?_
      obtain ⟨o3, e, hw⟩ := hw
      refine zT_st (pc' := 28) (L' := [some (.ref a0), some (.int a1), some (.int a2), some (.int a3)]) (st' := [.ref o3, .int a2]) (h' := h) 1 (fun n => fld_eq (E := E) e _) ?_
      refine zT_st (pc' := 29) (L' := [some (.ref a0), some (.int a1), some (.int a2), some (.int a3)]) (st' := [.int a3, .ref o3, .int a2]) (h' := h) 1 (fun n => rfl) ?_
      obtain ⟨n4, f5, e, hi, hw⟩ := hw
      refine zT_st (pc' := 30) (L' := [some (.ref a0), some (.int a1), some (.int a2), some (.int a3)]) (st' := [.int (f5 (a3).toNatClampNeg), .int a2]) (h' := h) 1 (fun n => arr_eq (E := E) e hi [.int a2] (fun st => zrun zP zCd E n d m_Plans_together 30 [some (.ref a0), some (.int a1), some (.int a2), some (.int a3)] st h)) ?_
      exact zT_st 4 (fun n => rfl) hw
set_option maxRecDepth 4000 in
theorem s_Plans_guardsBetween_0 (E : zX) (d : Nat) (a0 : Nat) (a1 : Int32) (a2 : Int32) (h : zH) (r : zO × zH)
    (hw : ∃ o1 : Nat, fld h a0 6 0 = some (.ref o1) ∧
    ∃ o2 : Nat, fld h a0 6 2 = some (.ref o2) ∧
    isO h o1 2 = true ∧ ∃ (x3 : Int32) (h4 : zH), zT E d m_Downs_setOffBy 0 [some (.ref o1), some (.ref o2), some (.int a1)] [] h (.inl (some (.int x3)), h4) ∧
    if (x3 &&& (1 <<< (a2 &&& 31))) = 0 then (
      r = (.inl (some (.int 0)), h4))
    else (
      zT E (d + 1) m_Plans_guardsBetween 47 [some (.ref a0), some (.int a1), some (.int a2), some (.int (1 <<< (a2 &&& 31))), some (.int x3), some (.int ((x3 &&& ((1 <<< (a2 &&& 31)) ^^^ (-1))) &&& ((1 <<< (a1 &&& 31)) ^^^ (-1)))), some (.int (-1)), some (.int 1)] [] h4 r)) :
    zT E (d + 1) m_Plans_guardsBetween 0 [some (.ref a0), some (.int a1), some (.int a2), none, none, none, none, none] [] h r := by
  refine zT_st (pc' := 5) (L' := [some (.ref a0), some (.int a1), some (.int a2), some (.int (1 <<< (a2 &&& 31))), none, none, none, none]) (st' := [.ref a0]) (h' := h) 5 (fun n => rfl) ?_
  obtain ⟨o1, e, hw⟩ := hw
  refine zT_st (pc' := 8) (L' := [some (.ref a0), some (.int a1), some (.int a2), some (.int (1 <<< (a2 &&& 31))), none, none, none, none]) (st' := [.ref o1]) (h' := h) 1 (fun n => fld_eq (E := E) e _) ?_
  refine zT_st (pc' := 9) (L' := [some (.ref a0), some (.int a1), some (.int a2), some (.int (1 <<< (a2 &&& 31))), none, none, none, none]) (st' := [.ref a0, .ref o1]) (h' := h) 1 (fun n => rfl) ?_
  obtain ⟨o2, e, hw⟩ := hw
  refine zT_st (pc' := 12) (L' := [some (.ref a0), some (.int a1), some (.int a2), some (.int (1 <<< (a2 &&& 31))), none, none, none, none]) (st' := [.ref o2, .ref o1]) (h' := h) 1 (fun n => fld_eq (E := E) e _) ?_
  refine zT_st (pc' := 13) (L' := [some (.ref a0), some (.int a1), some (.int a2), some (.int (1 <<< (a2 &&& 31))), none, none, none, none]) (st' := [.int a1, .ref o2, .ref o1]) (h' := h) 1 (fun n => rfl) ?_
  obtain ⟨hq, hw⟩ := hw
  obtain ⟨x3, h4, hx, hw⟩ := hw
  refine zT_call (pc' := 16) (rest := []) 1 (fun n => rfl) hq hx ?_
  show zT E (d + 1) m_Plans_guardsBetween 16 [some (.ref a0), some (.int a1), some (.int a2), some (.int (1 <<< (a2 &&& 31))), none, none, none, none] [.int x3] h4 r
  refine zT_st (pc' := 22) (L' := [some (.ref a0), some (.int a1), some (.int a2), some (.int (1 <<< (a2 &&& 31))), some (.int x3), none, none, none]) (st' := [.int (x3 &&& (1 <<< (a2 &&& 31)))]) (h' := h4) 4 (fun n => rfl) ?_
  by_cases hc : (x3 &&& (1 <<< (a2 &&& 31))) = 0
  · rw [if_pos hc] at hw
    refine zT_st (pc' := 25) (L' := [some (.ref a0), some (.int a1), some (.int a2), some (.int (1 <<< (a2 &&& 31))), some (.int x3), none, none, none]) (st' := []) (h' := h4) 1 (fun n => if_pos hc) ?_
    subst hw
    exact zT_ret 2 rfl
  · rw [if_neg hc] at hw
    refine zT_st (pc' := 27) (L' := [some (.ref a0), some (.int a1), some (.int a2), some (.int (1 <<< (a2 &&& 31))), some (.int x3), none, none, none]) (st' := []) (h' := h4) 1 (fun n => if_neg hc) ?_
    exact zT_st 16 (fun n => rfl) hw
set_option maxRecDepth 4000 in
theorem s_Plans_guardsBetween_47 (E : zX) (d : Nat) (a0 : Nat) (a1 : Int32) (j2 : Option Value) (a3 : Int32) (j4 : Option Value) (a5 : Int32) (a6 : Int32) (a7 : Int32) (h : zH) (r : zO × zH)
    (hw : if 1024 ≤ a7 then (
      r = (.inl (some (.int a6)), h))
    else (
      if (a7 &&& (a5 ^^^ (-1))) = 0 then (
        if a6 = (-1) then (
          zT E (d + 1) m_Plans_guardsBetween 84 [some (.ref a0), some (.int a1), j2, some (.int a3), j4, some (.int a5), some (.int a6), some (.int a7)] [] h r)
        else (
          ∃ (x1 : Int32) (h2 : zH), zT E d m_Integer_bitCount 0 [some (.int a7)] [] h (.inl (some (.int x1)), h2) ∧
          ∃ (x3 : Int32) (h4 : zH), zT E d m_Integer_bitCount 0 [some (.int a6)] [] h2 (.inl (some (.int x3)), h4) ∧
          if x3 ≤ x1 then (
            zT E (d + 1) m_Plans_guardsBetween 47 [some (.ref a0), some (.int a1), j2, some (.int a3), j4, some (.int a5), some (.int a6), some (.int (a7 + 1))] [] h4 r)
          else (
            zT E (d + 1) m_Plans_guardsBetween 84 [some (.ref a0), some (.int a1), j2, some (.int a3), j4, some (.int a5), some (.int a6), some (.int a7)] [] h4 r)))
      else (
        zT E (d + 1) m_Plans_guardsBetween 47 [some (.ref a0), some (.int a1), j2, some (.int a3), j4, some (.int a5), some (.int a6), some (.int (a7 + 1))] [] h r))) :
    zT E (d + 1) m_Plans_guardsBetween 47 [some (.ref a0), some (.int a1), j2, some (.int a3), j4, some (.int a5), some (.int a6), some (.int a7)] [] h r := by
  refine zT_st (pc' := 52) (L' := [some (.ref a0), some (.int a1), j2, some (.int a3), j4, some (.int a5), some (.int a6), some (.int a7)]) (st' := [.int 1024, .int a7]) (h' := h) 2 (fun n => rfl) ?_
  by_cases hc : 1024 ≤ a7
  · rw [if_pos hc] at hw
    refine zT_st (pc' := 119) (L' := [some (.ref a0), some (.int a1), j2, some (.int a3), j4, some (.int a5), some (.int a6), some (.int a7)]) (st' := []) (h' := h) 1 (fun n => if_pos hc) ?_
    subst hw
    exact zT_ret 2 rfl
  · rw [if_neg hc] at hw
    refine zT_st (pc' := 55) (L' := [some (.ref a0), some (.int a1), j2, some (.int a3), j4, some (.int a5), some (.int a6), some (.int a7)]) (st' := []) (h' := h) 1 (fun n => if_neg hc) ?_
    refine zT_st (pc' := 62) (L' := [some (.ref a0), some (.int a1), j2, some (.int a3), j4, some (.int a5), some (.int a6), some (.int a7)]) (st' := [.int (a7 &&& (a5 ^^^ (-1)))]) (h' := h) 5 (fun n => rfl) ?_
    by_cases hc : (a7 &&& (a5 ^^^ (-1))) = 0
    · rw [if_pos hc] at hw
      refine zT_st (pc' := 65) (L' := [some (.ref a0), some (.int a1), j2, some (.int a3), j4, some (.int a5), some (.int a6), some (.int a7)]) (st' := []) (h' := h) 1 (fun n => if_pos hc) ?_
      refine zT_st (pc' := 68) (L' := [some (.ref a0), some (.int a1), j2, some (.int a3), j4, some (.int a5), some (.int a6), some (.int a7)]) (st' := [.int (-1), .int a6]) (h' := h) 2 (fun n => rfl) ?_
      by_cases hc : a6 = (-1)
      · rw [if_pos hc] at hw
        refine zT_st (pc' := 84) (L' := [some (.ref a0), some (.int a1), j2, some (.int a3), j4, some (.int a5), some (.int a6), some (.int a7)]) (st' := []) (h' := h) 1 (fun n => if_pos hc) ?_
        exact hw
      · rw [if_neg hc] at hw
        refine zT_st (pc' := 71) (L' := [some (.ref a0), some (.int a1), j2, some (.int a3), j4, some (.int a5), some (.int a6), some (.int a7)]) (st' := []) (h' := h) 1 (fun n => if_neg hc) ?_
        refine zT_st (pc' := 73) (L' := [some (.ref a0), some (.int a1), j2, some (.int a3), j4, some (.int a5), some (.int a6), some (.int a7)]) (st' := [.int a7]) (h' := h) 1 (fun n => rfl) ?_
        obtain ⟨x1, h2, hx, hw⟩ := hw
        refine zT_call (pc' := 76) (rest := []) 1 (fun n => rfl) rfl hx ?_
        show zT E (d + 1) m_Plans_guardsBetween 76 [some (.ref a0), some (.int a1), j2, some (.int a3), j4, some (.int a5), some (.int a6), some (.int a7)] [.int x1] h2 r
        refine zT_st (pc' := 78) (L' := [some (.ref a0), some (.int a1), j2, some (.int a3), j4, some (.int a5), some (.int a6), some (.int a7)]) (st' := [.int a6, .int x1]) (h' := h2) 1 (fun n => rfl) ?_
        obtain ⟨x3, h4, hx, hw⟩ := hw
        refine zT_call (pc' := 81) (rest := [.int x1]) 1 (fun n => rfl) rfl hx ?_
        show zT E (d + 1) m_Plans_guardsBetween 81 [some (.ref a0), some (.int a1), j2, some (.int a3), j4, some (.int a5), some (.int a6), some (.int a7)] [.int x3, .int x1] h4 r
        by_cases hc : x3 ≤ x1
        · rw [if_pos hc] at hw
          refine zT_st (pc' := 113) (L' := [some (.ref a0), some (.int a1), j2, some (.int a3), j4, some (.int a5), some (.int a6), some (.int a7)]) (st' := []) (h' := h4) 1 (fun n => if_pos hc) ?_
          exact zT_st 2 (fun n => rfl) hw
        · rw [if_neg hc] at hw
          refine zT_st (pc' := 84) (L' := [some (.ref a0), some (.int a1), j2, some (.int a3), j4, some (.int a5), some (.int a6), some (.int a7)]) (st' := []) (h' := h4) 1 (fun n => if_neg hc) ?_
          exact hw
    · rw [if_neg hc] at hw
      refine zT_st (pc' := 113) (L' := [some (.ref a0), some (.int a1), j2, some (.int a3), j4, some (.int a5), some (.int a6), some (.int a7)]) (st' := []) (h' := h) 1 (fun n => if_neg hc) ?_
      exact zT_st 2 (fun n => rfl) hw
set_option maxRecDepth 4000 in
theorem s_Plans_guardsBetween_84 (E : zX) (d : Nat) (a0 : Nat) (a1 : Int32) (j2 : Option Value) (a3 : Int32) (j4 : Option Value) (a5 : Int32) (a6 : Int32) (a7 : Int32) (h : zH) (r : zO × zH)
    (hw : ∃ o1 : Nat, fld h a0 6 0 = some (.ref o1) ∧
    ∃ o2 : Nat, fld h a0 6 2 = some (.ref o2) ∧
    isO h o2 10 = true ∧ ∃ (x3 : Int32) (h4 : zH), zT E d m_Scene_guards 0 [some (.ref o2)] [] h (.inl (some (.int x3)), h4) ∧
    isO h4 o1 2 = true ∧ ∃ (x5 : Int32) (h6 : zH), zT E d m_Downs_chain 0 [some (.ref o1), some (.int (1 <<< (a1 &&& 31))), some (.int (x3 ||| a7)), none, none, none, none] [] h4 (.inl (some (.int x5)), h6) ∧
    if (x5 &&& a3) = 0 then (
      zT E (d + 1) m_Plans_guardsBetween 47 [some (.ref a0), some (.int a1), j2, some (.int a3), j4, some (.int a5), some (.int a7), some (.int (a7 + 1))] [] h6 r)
    else (
      zT E (d + 1) m_Plans_guardsBetween 47 [some (.ref a0), some (.int a1), j2, some (.int a3), j4, some (.int a5), some (.int a6), some (.int (a7 + 1))] [] h6 r)) :
    zT E (d + 1) m_Plans_guardsBetween 84 [some (.ref a0), some (.int a1), j2, some (.int a3), j4, some (.int a5), some (.int a6), some (.int a7)] [] h r := by
  refine zT_st (pc' := 85) (L' := [some (.ref a0), some (.int a1), j2, some (.int a3), j4, some (.int a5), some (.int a6), some (.int a7)]) (st' := [.ref a0]) (h' := h) 1 (fun n => rfl) ?_
  obtain ⟨o1, e, hw⟩ := hw
  refine zT_st (pc' := 88) (L' := [some (.ref a0), some (.int a1), j2, some (.int a3), j4, some (.int a5), some (.int a6), some (.int a7)]) (st' := [.ref o1]) (h' := h) 1 (fun n => fld_eq (E := E) e _) ?_
  refine zT_st (pc' := 92) (L' := [some (.ref a0), some (.int a1), j2, some (.int a3), j4, some (.int a5), some (.int a6), some (.int a7)]) (st' := [.ref a0, .int (1 <<< (a1 &&& 31)), .ref o1]) (h' := h) 4 (fun n => rfl) ?_
  obtain ⟨o2, e, hw⟩ := hw
  refine zT_st (pc' := 95) (L' := [some (.ref a0), some (.int a1), j2, some (.int a3), j4, some (.int a5), some (.int a6), some (.int a7)]) (st' := [.ref o2, .int (1 <<< (a1 &&& 31)), .ref o1]) (h' := h) 1 (fun n => fld_eq (E := E) e _) ?_
  obtain ⟨hq, hw⟩ := hw
  obtain ⟨x3, h4, hx, hw⟩ := hw
  refine zT_call (pc' := 98) (rest := [.int (1 <<< (a1 &&& 31)), .ref o1]) 1 (fun n => rfl) hq hx ?_
  show zT E (d + 1) m_Plans_guardsBetween 98 [some (.ref a0), some (.int a1), j2, some (.int a3), j4, some (.int a5), some (.int a6), some (.int a7)] [.int x3, .int (1 <<< (a1 &&& 31)), .ref o1] h4 r
  refine zT_st (pc' := 101) (L' := [some (.ref a0), some (.int a1), j2, some (.int a3), j4, some (.int a5), some (.int a6), some (.int a7)]) (st' := [.int (x3 ||| a7), .int (1 <<< (a1 &&& 31)), .ref o1]) (h' := h4) 2 (fun n => rfl) ?_
  obtain ⟨hq, hw⟩ := hw
  obtain ⟨x5, h6, hx, hw⟩ := hw
  refine zT_call (pc' := 104) (rest := []) 1 (fun n => rfl) hq hx ?_
  show zT E (d + 1) m_Plans_guardsBetween 104 [some (.ref a0), some (.int a1), j2, some (.int a3), j4, some (.int a5), some (.int a6), some (.int a7)] [.int x5] h6 r
  refine zT_st (pc' := 106) (L' := [some (.ref a0), some (.int a1), j2, some (.int a3), j4, some (.int a5), some (.int a6), some (.int a7)]) (st' := [.int (x5 &&& a3)]) (h' := h6) 2 (fun n => rfl) ?_
  by_cases hc : (x5 &&& a3) = 0
  · rw [if_pos hc] at hw
    refine zT_st (pc' := 109) (L' := [some (.ref a0), some (.int a1), j2, some (.int a3), j4, some (.int a5), some (.int a6), some (.int a7)]) (st' := []) (h' := h6) 1 (fun n => if_pos hc) ?_
    exact zT_st 4 (fun n => rfl) hw
  · rw [if_neg hc] at hw
    refine zT_st (pc' := 113) (L' := [some (.ref a0), some (.int a1), j2, some (.int a3), j4, some (.int a5), some (.int a6), some (.int a7)]) (st' := []) (h' := h6) 1 (fun n => if_neg hc) ?_
    exact zT_st 2 (fun n => rfl) hw
set_option maxRecDepth 4000 in
theorem s_Plans_bestCellFor_0 (E : zX) (d : Nat) (a0 : Nat) (a1 : Int32) (h : zH) (r : zO × zH)
    (hw : ∃ o1 : Nat, fld h a0 6 2 = some (.ref o1) ∧
    isO h o1 10 = true ∧ ∃ (x2 : Int32) (h3 : zH), zT E d m_Scene_cellOf 0 [some (.ref o1), some (.int a1)] [] h (.inl (some (.int x2)), h3) ∧
    isO h3 a0 6 = true ∧ ∃ (x4 : Int32) (h5 : zH), zT E d m_Plans_homesInReach 0 [some (.ref a0), some (.int a1), some (.int x2), none, none] [] h3 (.inl (some (.int x4)), h5) ∧
    zT E (d + 1) m_Plans_bestCellFor 22 [some (.ref a0), some (.int a1), some (.int x2), some (.int x2), some (.int x4), some (.int 0), none] [] h5 r) :
    zT E (d + 1) m_Plans_bestCellFor 0 [some (.ref a0), some (.int a1), none, none, none, none, none] [] h r := by
  refine zT_st (pc' := 1) (L' := [some (.ref a0), some (.int a1), none, none, none, none, none]) (st' := [.ref a0]) (h' := h) 1 (fun n => rfl) ?_
  obtain ⟨o1, e, hw⟩ := hw
  refine zT_st (pc' := 4) (L' := [some (.ref a0), some (.int a1), none, none, none, none, none]) (st' := [.ref o1]) (h' := h) 1 (fun n => fld_eq (E := E) e _) ?_
  refine zT_st (pc' := 5) (L' := [some (.ref a0), some (.int a1), none, none, none, none, none]) (st' := [.int a1, .ref o1]) (h' := h) 1 (fun n => rfl) ?_
  obtain ⟨hq, hw⟩ := hw
  obtain ⟨x2, h3, hx, hw⟩ := hw
  refine zT_call (pc' := 8) (rest := []) 1 (fun n => rfl) hq hx ?_
  show zT E (d + 1) m_Plans_bestCellFor 8 [some (.ref a0), some (.int a1), none, none, none, none, none] [.int x2] h3 r
  refine zT_st (pc' := 14) (L' := [some (.ref a0), some (.int a1), some (.int x2), some (.int x2), none, none, none]) (st' := [.int x2, .int a1, .ref a0]) (h' := h3) 6 (fun n => rfl) ?_
  obtain ⟨hq, hw⟩ := hw
  obtain ⟨x4, h5, hx, hw⟩ := hw
  refine zT_call (pc' := 17) (rest := []) 1 (fun n => rfl) hq hx ?_
  show zT E (d + 1) m_Plans_bestCellFor 17 [some (.ref a0), some (.int a1), some (.int x2), some (.int x2), none, none, none] [.int x4] h5 r
  exact zT_st 3 (fun n => rfl) hw
set_option maxRecDepth 4000 in
theorem s_Plans_bestCellFor_22 (E : zX) (d : Nat) (a0 : Nat) (a1 : Int32) (a2 : Int32) (a3 : Int32) (a4 : Int32) (a5 : Int32) (j6 : Option Value) (h : zH) (r : zO × zH)
    (hw : ∃ o1 : Nat, fld h a0 6 1 = some (.ref o1) ∧
    ∃ x2 : Int32, fld h o1 5 2 = some (.int x2) ∧
    if x2 ≤ a5 then (
      r = (.inl (some (.int a3)), h))
    else (
      isO h a0 6 = true ∧ ∃ (x3 : Int32) (h4 : zH), zT E d m_Plans_homesInReach 0 [some (.ref a0), some (.int a1), some (.int a5), none, none] [] h (.inl (some (.int x3)), h4) ∧
      if x3 < a4 then (
        zT E (d + 1) m_Plans_bestCellFor 22 [some (.ref a0), some (.int a1), some (.int a2), some (.int a5), some (.int x3), some (.int (a5 + 1)), some (.int x3)] [] h4 r)
      else (
        if x3 = a4 then (
          ∃ o5 : Nat, fld h4 a0 6 1 = some (.ref o5) ∧
          isO h4 o5 5 = true ∧ ∃ (x6 : Int32) (h7 : zH), zT E d m_Land_far 0 [some (.ref o5), some (.int a5), some (.int a2), none, none] [] h4 (.inl (some (.int x6)), h7) ∧
          ∃ o8 : Nat, fld h7 a0 6 1 = some (.ref o8) ∧
          isO h7 o8 5 = true ∧ ∃ (x9 : Int32) (h10 : zH), zT E d m_Land_far 0 [some (.ref o8), some (.int a3), some (.int a2), none, none] [] h7 (.inl (some (.int x9)), h10) ∧
          if x9 ≤ x6 then (
            zT E (d + 1) m_Plans_bestCellFor 22 [some (.ref a0), some (.int a1), some (.int a2), some (.int a3), some (.int a4), some (.int (a5 + 1)), some (.int x3)] [] h10 r)
          else (
            zT E (d + 1) m_Plans_bestCellFor 22 [some (.ref a0), some (.int a1), some (.int a2), some (.int a5), some (.int x3), some (.int (a5 + 1)), some (.int x3)] [] h10 r))
        else (
          zT E (d + 1) m_Plans_bestCellFor 22 [some (.ref a0), some (.int a1), some (.int a2), some (.int a3), some (.int a4), some (.int (a5 + 1)), some (.int x3)] [] h4 r)))) :
    zT E (d + 1) m_Plans_bestCellFor 22 [some (.ref a0), some (.int a1), some (.int a2), some (.int a3), some (.int a4), some (.int a5), j6] [] h r := by
  refine zT_st (pc' := 25) (L' := [some (.ref a0), some (.int a1), some (.int a2), some (.int a3), some (.int a4), some (.int a5), j6]) (st' := [.ref a0, .int a5]) (h' := h) 2 (fun n => rfl) ?_
  obtain ⟨o1, e, hw⟩ := hw
  refine zT_st (pc' := 28) (L' := [some (.ref a0), some (.int a1), some (.int a2), some (.int a3), some (.int a4), some (.int a5), j6]) (st' := [.ref o1, .int a5]) (h' := h) 1 (fun n => fld_eq (E := E) e _) ?_
  obtain ⟨x2, e, hw⟩ := hw
  refine zT_st (pc' := 31) (L' := [some (.ref a0), some (.int a1), some (.int a2), some (.int a3), some (.int a4), some (.int a5), j6]) (st' := [.int x2, .int a5]) (h' := h) 1 (fun n => fld_eq (E := E) e _) ?_
  by_cases hc : x2 ≤ a5
  · rw [if_pos hc] at hw
    refine zT_st (pc' := 92) (L' := [some (.ref a0), some (.int a1), some (.int a2), some (.int a3), some (.int a4), some (.int a5), j6]) (st' := []) (h' := h) 1 (fun n => if_pos hc) ?_
    subst hw
    exact zT_ret 2 rfl
  · rw [if_neg hc] at hw
    refine zT_st (pc' := 34) (L' := [some (.ref a0), some (.int a1), some (.int a2), some (.int a3), some (.int a4), some (.int a5), j6]) (st' := []) (h' := h) 1 (fun n => if_neg hc) ?_
    refine zT_st (pc' := 38) (L' := [some (.ref a0), some (.int a1), some (.int a2), some (.int a3), some (.int a4), some (.int a5), j6]) (st' := [.int a5, .int a1, .ref a0]) (h' := h) 3 (fun n => rfl) ?_
    obtain ⟨hq, hw⟩ := hw
    obtain ⟨x3, h4, hx, hw⟩ := hw
    refine zT_call (pc' := 41) (rest := []) 1 (fun n => rfl) hq hx ?_
    show zT E (d + 1) m_Plans_bestCellFor 41 [some (.ref a0), some (.int a1), some (.int a2), some (.int a3), some (.int a4), some (.int a5), j6] [.int x3] h4 r
    refine zT_st (pc' := 47) (L' := [some (.ref a0), some (.int a1), some (.int a2), some (.int a3), some (.int a4), some (.int a5), some (.int x3)]) (st' := [.int a4, .int x3]) (h' := h4) 3 (fun n => rfl) ?_
    by_cases hc : x3 < a4
    · rw [if_pos hc] at hw
      refine zT_st (pc' := 79) (L' := [some (.ref a0), some (.int a1), some (.int a2), some (.int a3), some (.int a4), some (.int a5), some (.int x3)]) (st' := []) (h' := h4) 1 (fun n => if_pos hc) ?_
      exact zT_st 6 (fun n => rfl) hw
    · rw [if_neg hc] at hw
      refine zT_st (pc' := 50) (L' := [some (.ref a0), some (.int a1), some (.int a2), some (.int a3), some (.int a4), some (.int a5), some (.int x3)]) (st' := []) (h' := h4) 1 (fun n => if_neg hc) ?_
      refine zT_st (pc' := 54) (L' := [some (.ref a0), some (.int a1), some (.int a2), some (.int a3), some (.int a4), some (.int a5), some (.int x3)]) (st' := [.int a4, .int x3]) (h' := h4) 2 (fun n => rfl) ?_
      by_cases hc : x3 = a4
      · rw [if_pos hc] at hw
        refine zT_st (pc' := 57) (L' := [some (.ref a0), some (.int a1), some (.int a2), some (.int a3), some (.int a4), some (.int a5), some (.int x3)]) (st' := []) (h' := h4) 1 (fun n => if_pos hc) ?_
        refine zT_st (pc' := 58) (L' := [some (.ref a0), some (.int a1), some (.int a2), some (.int a3), some (.int a4), some (.int a5), some (.int x3)]) (st' := [.ref a0]) (h' := h4) 1 (fun n => rfl) ?_
        obtain ⟨o5, e, hw⟩ := hw
        refine zT_st (pc' := 61) (L' := [some (.ref a0), some (.int a1), some (.int a2), some (.int a3), some (.int a4), some (.int a5), some (.int x3)]) (st' := [.ref o5]) (h' := h4) 1 (fun n => fld_eq (E := E) e _) ?_
        refine zT_st (pc' := 64) (L' := [some (.ref a0), some (.int a1), some (.int a2), some (.int a3), some (.int a4), some (.int a5), some (.int x3)]) (st' := [.int a2, .int a5, .ref o5]) (h' := h4) 2 (fun n => rfl) ?_
        obtain ⟨hq, hw⟩ := hw
        obtain ⟨x6, h7, hx, hw⟩ := hw
        refine zT_call (pc' := 67) (rest := []) 1 (fun n => rfl) hq hx ?_
        show zT E (d + 1) m_Plans_bestCellFor 67 [some (.ref a0), some (.int a1), some (.int a2), some (.int a3), some (.int a4), some (.int a5), some (.int x3)] [.int x6] h7 r
        refine zT_st (pc' := 68) (L' := [some (.ref a0), some (.int a1), some (.int a2), some (.int a3), some (.int a4), some (.int a5), some (.int x3)]) (st' := [.ref a0, .int x6]) (h' := h7) 1 (fun n => rfl) ?_
        obtain ⟨o8, e, hw⟩ := hw
        refine zT_st (pc' := 71) (L' := [some (.ref a0), some (.int a1), some (.int a2), some (.int a3), some (.int a4), some (.int a5), some (.int x3)]) (st' := [.ref o8, .int x6]) (h' := h7) 1 (fun n => fld_eq (E := E) e _) ?_
        refine zT_st (pc' := 73) (L' := [some (.ref a0), some (.int a1), some (.int a2), some (.int a3), some (.int a4), some (.int a5), some (.int x3)]) (st' := [.int a2, .int a3, .ref o8, .int x6]) (h' := h7) 2 (fun n => rfl) ?_
        obtain ⟨hq, hw⟩ := hw
        obtain ⟨x9, h10, hx, hw⟩ := hw
        refine zT_call (pc' := 76) (rest := [.int x6]) 1 (fun n => rfl) hq hx ?_
        show zT E (d + 1) m_Plans_bestCellFor 76 [some (.ref a0), some (.int a1), some (.int a2), some (.int a3), some (.int a4), some (.int a5), some (.int x3)] [.int x9, .int x6] h10 r
        by_cases hc : x9 ≤ x6
        · rw [if_pos hc] at hw
          refine zT_st (pc' := 86) (L' := [some (.ref a0), some (.int a1), some (.int a2), some (.int a3), some (.int a4), some (.int a5), some (.int x3)]) (st' := []) (h' := h10) 1 (fun n => if_pos hc) ?_
          exact zT_st 2 (fun n => rfl) hw
        · rw [if_neg hc] at hw
          refine zT_st (pc' := 79) (L' := [some (.ref a0), some (.int a1), some (.int a2), some (.int a3), some (.int a4), some (.int a5), some (.int x3)]) (st' := []) (h' := h10) 1 (fun n => if_neg hc) ?_
          exact zT_st 6 (fun n => rfl) hw
      · rw [if_neg hc] at hw
        refine zT_st (pc' := 86) (L' := [some (.ref a0), some (.int a1), some (.int a2), some (.int a3), some (.int a4), some (.int a5), some (.int x3)]) (st' := []) (h' := h4) 1 (fun n => if_neg hc) ?_
        exact zT_st 2 (fun n => rfl) hw
set_option maxRecDepth 4000 in
theorem s_Plans_homesInReach_0 (E : zX) (d : Nat) (a0 : Nat) (a1 : Int32) (a2 : Int32) (h : zH) (r : zO × zH)
    (hw : zT E (d + 1) m_Plans_homesInReach 5 [some (.ref a0), some (.int a1), some (.int a2), some (.int 0), some (.int 0)] [] h r) :
    zT E (d + 1) m_Plans_homesInReach 0 [some (.ref a0), some (.int a1), some (.int a2), none, none] [] h r := by
  exact zT_st 4 (fun n => rfl) hw
set_option maxRecDepth 4000 in
theorem s_Plans_homesInReach_5 (E : zX) (d : Nat) (a0 : Nat) (a1 : Int32) (a2 : Int32) (a3 : Int32) (a4 : Int32) (h : zH) (r : zO × zH)
    (hw : ∃ o1 : Nat, fld h a0 6 1 = some (.ref o1) ∧
    ∃ x2 : Int32, fld h o1 5 3 = some (.int x2) ∧
    if x2 ≤ a4 then (
      r = (.inl (some (.int a3)), h))
    else (
      ∃ o3 : Nat, fld h a0 6 1 = some (.ref o3) ∧
      ∃ o4 : Nat, fld h a0 6 1 = some (.ref o4) ∧
      ∃ o5 : Nat, fld h o4 5 5 = some (.ref o5) ∧
      ∃ (n6 : Nat) (f7 : Nat → Int32), arr h o5 = some (n6, f7) ∧ ¬ (a4 < 0 ∨ n6 ≤ (a4).toNatClampNeg) ∧
      isO h o3 5 = true ∧ ∃ (x8 : Int32) (h9 : zH), zT E d m_Land_far 0 [some (.ref o3), some (.int a2), some (.int (f7 (a4).toNatClampNeg)), none, none] [] h (.inl (some (.int x8)), h9) ∧
      ∃ o10 : Nat, fld h9 a0 6 2 = some (.ref o10) ∧
      isO h9 o10 10 = true ∧ ∃ (x11 : Int32) (h12 : zH), zT E d m_Scene_heldIn 0 [some (.ref o10), some (.int a1)] [] h9 (.inl (some (.int x11)), h12) ∧
      if (x11 / 10) < x8 then (
        zT E (d + 1) m_Plans_homesInReach 5 [some (.ref a0), some (.int a1), some (.int a2), some (.int a3), some (.int (a4 + 1))] [] h12 r)
      else (
        zT E (d + 1) m_Plans_homesInReach 5 [some (.ref a0), some (.int a1), some (.int a2), some (.int (a3 + 1)), some (.int (a4 + 1))] [] h12 r))) :
    zT E (d + 1) m_Plans_homesInReach 5 [some (.ref a0), some (.int a1), some (.int a2), some (.int a3), some (.int a4)] [] h r := by
  refine zT_st (pc' := 8) (L' := [some (.ref a0), some (.int a1), some (.int a2), some (.int a3), some (.int a4)]) (st' := [.ref a0, .int a4]) (h' := h) 2 (fun n => rfl) ?_
  obtain ⟨o1, e, hw⟩ := hw
  refine zT_st (pc' := 11) (L' := [some (.ref a0), some (.int a1), some (.int a2), some (.int a3), some (.int a4)]) (st' := [.ref o1, .int a4]) (h' := h) 1 (fun n => fld_eq (E := E) e _) ?_
  obtain ⟨x2, e, hw⟩ := hw
  refine zT_st (pc' := 14) (L' := [some (.ref a0), some (.int a1), some (.int a2), some (.int a3), some (.int a4)]) (st' := [.int x2, .int a4]) (h' := h) 1 (fun n => fld_eq (E := E) e _) ?_
  by_cases hc : x2 ≤ a4
  · rw [if_pos hc] at hw
    refine zT_st (pc' := 58) (L' := [some (.ref a0), some (.int a1), some (.int a2), some (.int a3), some (.int a4)]) (st' := []) (h' := h) 1 (fun n => if_pos hc) ?_
    subst hw
    exact zT_ret 2 rfl
  · rw [if_neg hc] at hw
    refine zT_st (pc' := 17) (L' := [some (.ref a0), some (.int a1), some (.int a2), some (.int a3), some (.int a4)]) (st' := []) (h' := h) 1 (fun n => if_neg hc) ?_
    refine zT_st (pc' := 18) (L' := [some (.ref a0), some (.int a1), some (.int a2), some (.int a3), some (.int a4)]) (st' := [.ref a0]) (h' := h) 1 (fun n => rfl) ?_
    obtain ⟨o3, e, hw⟩ := hw
    refine zT_st (pc' := 21) (L' := [some (.ref a0), some (.int a1), some (.int a2), some (.int a3), some (.int a4)]) (st' := [.ref o3]) (h' := h) 1 (fun n => fld_eq (E := E) e _) ?_
    refine zT_st (pc' := 23) (L' := [some (.ref a0), some (.int a1), some (.int a2), some (.int a3), some (.int a4)]) (st' := [.ref a0, .int a2, .ref o3]) (h' := h) 2 (fun n => rfl) ?_
    obtain ⟨o4, e, hw⟩ := hw
    refine zT_st (pc' := 26) (L' := [some (.ref a0), some (.int a1), some (.int a2), some (.int a3), some (.int a4)]) (st' := [.ref o4, .int a2, .ref o3]) (h' := h) 1 (fun n => fld_eq (E := E) e _) ?_
    obtain ⟨o5, e, hw⟩ := hw
    refine zT_st (pc' := 29) (L' := [some (.ref a0), some (.int a1), some (.int a2), some (.int a3), some (.int a4)]) (st' := [.ref o5, .int a2, .ref o3]) (h' := h) 1 (fun n => fld_eq (E := E) e _) ?_
    refine zT_st (pc' := 31) (L' := [some (.ref a0), some (.int a1), some (.int a2), some (.int a3), some (.int a4)]) (st' := [.int a4, .ref o5, .int a2, .ref o3]) (h' := h) 1 (fun n => rfl) ?_
    obtain ⟨n6, f7, e, hi, hw⟩ := hw
    refine zT_st (pc' := 32) (L' := [some (.ref a0), some (.int a1), some (.int a2), some (.int a3), some (.int a4)]) (st' := [.int (f7 (a4).toNatClampNeg), .int a2, .ref o3]) (h' := h) 1 (fun n => arr_eq (E := E) e hi [.int a2, .ref o3] (fun st => zrun zP zCd E n (d + 1) m_Plans_homesInReach 32 [some (.ref a0), some (.int a1), some (.int a2), some (.int a3), some (.int a4)] st h)) ?_
    obtain ⟨hq, hw⟩ := hw
    obtain ⟨x8, h9, hx, hw⟩ := hw
    refine zT_call (pc' := 35) (rest := []) 1 (fun n => rfl) hq hx ?_
    show zT E (d + 1) m_Plans_homesInReach 35 [some (.ref a0), some (.int a1), some (.int a2), some (.int a3), some (.int a4)] [.int x8] h9 r
    refine zT_st (pc' := 36) (L' := [some (.ref a0), some (.int a1), some (.int a2), some (.int a3), some (.int a4)]) (st' := [.ref a0, .int x8]) (h' := h9) 1 (fun n => rfl) ?_
    obtain ⟨o10, e, hw⟩ := hw
    refine zT_st (pc' := 39) (L' := [some (.ref a0), some (.int a1), some (.int a2), some (.int a3), some (.int a4)]) (st' := [.ref o10, .int x8]) (h' := h9) 1 (fun n => fld_eq (E := E) e _) ?_
    refine zT_st (pc' := 40) (L' := [some (.ref a0), some (.int a1), some (.int a2), some (.int a3), some (.int a4)]) (st' := [.int a1, .ref o10, .int x8]) (h' := h9) 1 (fun n => rfl) ?_
    obtain ⟨hq, hw⟩ := hw
    obtain ⟨x11, h12, hx, hw⟩ := hw
    refine zT_call (pc' := 43) (rest := [.int x8]) 1 (fun n => rfl) hq hx ?_
    show zT E (d + 1) m_Plans_homesInReach 43 [some (.ref a0), some (.int a1), some (.int a2), some (.int a3), some (.int a4)] [.int x11, .int x8] h12 r
    refine zT_st (pc' := 45) (L' := [some (.ref a0), some (.int a1), some (.int a2), some (.int a3), some (.int a4)]) (st' := [.int 10, .int x11, .int x8]) (h' := h12) 1 (fun n => rfl) ?_
    refine zT_st (pc' := 46) (L' := [some (.ref a0), some (.int a1), some (.int a2), some (.int a3), some (.int a4)]) (st' := [.int (x11 / 10), .int x8]) (h' := h12) 1 (fun n => rfl) ?_
    by_cases hc : (x11 / 10) < x8
    · rw [if_pos hc] at hw
      refine zT_st (pc' := 52) (L' := [some (.ref a0), some (.int a1), some (.int a2), some (.int a3), some (.int a4)]) (st' := []) (h' := h12) 1 (fun n => if_pos hc) ?_
      exact zT_st 2 (fun n => rfl) hw
    · rw [if_neg hc] at hw
      refine zT_st (pc' := 49) (L' := [some (.ref a0), some (.int a1), some (.int a2), some (.int a3), some (.int a4)]) (st' := []) (h' := h12) 1 (fun n => if_neg hc) ?_
      exact zT_st 3 (fun n => rfl) hw
set_option maxRecDepth 4000 in
theorem s_Plans_stepsBetween_0 (E : zX) (d : Nat) (a0 : Nat) (a1 : Int32) (a2 : Int32) (h : zH) (r : zO × zH)
    (hw : if a1 = a2 then (
      r = (.inl (some (.int 0)), h))
    else (
      isO h a0 6 = true ∧ ∃ (x1 : Int32) (h2 : zH), zT E d m_Plans_isBarred 0 [some (.ref a0), some (.int a2), none] [] h (.inl (some (.int x1)), h2) ∧
      if x1 = 0 then (
        isO h2 a0 6 = true ∧ ∃ (h4 : zH), zT E d m_Plans_walkBackFrom 0 [some (.ref a0), some (.int a2), some (.int a1), none, none, none] [] h2 (.inl none, h4) ∧
        ∃ o5 : Nat, fld h4 a0 6 4 = some (.ref o5) ∧
        ∃ (n6 : Nat) (f7 : Nat → Int32), arr h4 o5 = some (n6, f7) ∧ ¬ (a1 < 0 ∨ n6 ≤ (a1).toNatClampNeg) ∧
        r = (.inl (some (.int (f7 (a1).toNatClampNeg))), h4))
      else (
        r = (.inl (some (.int (-1))), h2)))) :
    zT E (d + 1) m_Plans_stepsBetween 0 [some (.ref a0), some (.int a1), some (.int a2)] [] h r := by
  refine zT_st (pc' := 2) (L' := [some (.ref a0), some (.int a1), some (.int a2)]) (st' := [.int a2, .int a1]) (h' := h) 2 (fun n => rfl) ?_
  by_cases hc : a1 = a2
  · rw [if_pos hc] at hw
    refine zT_st (pc' := 5) (L' := [some (.ref a0), some (.int a1), some (.int a2)]) (st' := []) (h' := h) 1 (fun n => if_pos hc) ?_
    subst hw
    exact zT_ret 2 rfl
  · rw [if_neg hc] at hw
    refine zT_st (pc' := 7) (L' := [some (.ref a0), some (.int a1), some (.int a2)]) (st' := []) (h' := h) 1 (fun n => if_neg hc) ?_
    refine zT_st (pc' := 9) (L' := [some (.ref a0), some (.int a1), some (.int a2)]) (st' := [.int a2, .ref a0]) (h' := h) 2 (fun n => rfl) ?_
    obtain ⟨hq, hw⟩ := hw
    obtain ⟨x1, h2, hx, hw⟩ := hw
    refine zT_call (pc' := 12) (rest := []) 1 (fun n => rfl) hq hx ?_
    show zT E (d + 1) m_Plans_stepsBetween 12 [some (.ref a0), some (.int a1), some (.int a2)] [.int x1] h2 r
    by_cases hc : x1 = 0
    · rw [if_pos hc] at hw
      refine zT_st (pc' := 17) (L' := [some (.ref a0), some (.int a1), some (.int a2)]) (st' := []) (h' := h2) 1 (fun n => if_pos hc) ?_
      refine zT_st (pc' := 20) (L' := [some (.ref a0), some (.int a1), some (.int a2)]) (st' := [.int a1, .int a2, .ref a0]) (h' := h2) 3 (fun n => rfl) ?_
      obtain ⟨hq, hw⟩ := hw
      obtain ⟨h4, hx, hw⟩ := hw
      refine zT_call (pc' := 23) (rest := []) 1 (fun n => rfl) hq hx ?_
      show zT E (d + 1) m_Plans_stepsBetween 23 [some (.ref a0), some (.int a1), some (.int a2)] [] h4 r
      refine zT_st (pc' := 24) (L' := [some (.ref a0), some (.int a1), some (.int a2)]) (st' := [.ref a0]) (h' := h4) 1 (fun n => rfl) ?_
      obtain ⟨o5, e, hw⟩ := hw
      refine zT_st (pc' := 27) (L' := [some (.ref a0), some (.int a1), some (.int a2)]) (st' := [.ref o5]) (h' := h4) 1 (fun n => fld_eq (E := E) e _) ?_
      refine zT_st (pc' := 28) (L' := [some (.ref a0), some (.int a1), some (.int a2)]) (st' := [.int a1, .ref o5]) (h' := h4) 1 (fun n => rfl) ?_
      obtain ⟨n6, f7, e, hi, hw⟩ := hw
      refine zT_st (pc' := 29) (L' := [some (.ref a0), some (.int a1), some (.int a2)]) (st' := [.int (f7 (a1).toNatClampNeg)]) (h' := h4) 1 (fun n => arr_eq (E := E) e hi [] (fun st => zrun zP zCd E n (d + 1) m_Plans_stepsBetween 29 [some (.ref a0), some (.int a1), some (.int a2)] st h4)) ?_
      subst hw
      exact zT_ret 1 rfl
    · rw [if_neg hc] at hw
      refine zT_st (pc' := 15) (L' := [some (.ref a0), some (.int a1), some (.int a2)]) (st' := []) (h' := h2) 1 (fun n => if_neg hc) ?_
      subst hw
      exact zT_ret 2 rfl
set_option maxRecDepth 4000 in
theorem s_Plans_isBarred_0 (E : zX) (d : Nat) (a0 : Nat) (a1 : Int32) (h : zH) (r : zO × zH)
    (hw : zT E (d + 1) m_Plans_isBarred 2 [some (.ref a0), some (.int a1), some (.int 0)] [] h r) :
    zT E (d + 1) m_Plans_isBarred 0 [some (.ref a0), some (.int a1), none] [] h r := by
  exact zT_st 2 (fun n => rfl) hw
set_option maxRecDepth 4000 in
theorem s_Plans_isBarred_2 (E : zX) (d : Nat) (a0 : Nat) (a1 : Int32) (a2 : Int32) (h : zH) (r : zO × zH)
    (hw : ∃ o1 : Nat, fld h a0 6 1 = some (.ref o1) ∧
    ∃ x2 : Int32, fld h o1 5 4 = some (.int x2) ∧
    if x2 ≤ a2 then (
      r = (.inl (some (.int 0)), h))
    else (
      ∃ o3 : Nat, fld h a0 6 2 = some (.ref o3) ∧
      isO h o3 10 = true ∧ ∃ (x4 : Int32) (h5 : zH), zT E d m_Scene_cellOf 0 [some (.ref o3), some (.int a2)] [] h (.inl (some (.int x4)), h5) ∧
      if x4 = a1 then (
        ∃ o6 : Nat, fld h5 a0 6 2 = some (.ref o6) ∧
        isO h5 o6 10 = true ∧ ∃ (x7 : Int32) (h8 : zH), zT E d m_Scene_isWhite 0 [some (.ref o6), some (.int a2)] [] h5 (.inl (some (.int x7)), h8) ∧
        if x7 = 0 then (
          r = (.inl (some (.int 1)), h8))
        else (
          zT E (d + 1) m_Plans_isBarred 2 [some (.ref a0), some (.int a1), some (.int (a2 + 1))] [] h8 r))
      else (
        zT E (d + 1) m_Plans_isBarred 2 [some (.ref a0), some (.int a1), some (.int (a2 + 1))] [] h5 r))) :
    zT E (d + 1) m_Plans_isBarred 2 [some (.ref a0), some (.int a1), some (.int a2)] [] h r := by
  refine zT_st (pc' := 4) (L' := [some (.ref a0), some (.int a1), some (.int a2)]) (st' := [.ref a0, .int a2]) (h' := h) 2 (fun n => rfl) ?_
  obtain ⟨o1, e, hw⟩ := hw
  refine zT_st (pc' := 7) (L' := [some (.ref a0), some (.int a1), some (.int a2)]) (st' := [.ref o1, .int a2]) (h' := h) 1 (fun n => fld_eq (E := E) e _) ?_
  obtain ⟨x2, e, hw⟩ := hw
  refine zT_st (pc' := 10) (L' := [some (.ref a0), some (.int a1), some (.int a2)]) (st' := [.int x2, .int a2]) (h' := h) 1 (fun n => fld_eq (E := E) e _) ?_
  by_cases hc : x2 ≤ a2
  · rw [if_pos hc] at hw
    refine zT_st (pc' := 44) (L' := [some (.ref a0), some (.int a1), some (.int a2)]) (st' := []) (h' := h) 1 (fun n => if_pos hc) ?_
    subst hw
    exact zT_ret 2 rfl
  · rw [if_neg hc] at hw
    refine zT_st (pc' := 13) (L' := [some (.ref a0), some (.int a1), some (.int a2)]) (st' := []) (h' := h) 1 (fun n => if_neg hc) ?_
    refine zT_st (pc' := 14) (L' := [some (.ref a0), some (.int a1), some (.int a2)]) (st' := [.ref a0]) (h' := h) 1 (fun n => rfl) ?_
    obtain ⟨o3, e, hw⟩ := hw
    refine zT_st (pc' := 17) (L' := [some (.ref a0), some (.int a1), some (.int a2)]) (st' := [.ref o3]) (h' := h) 1 (fun n => fld_eq (E := E) e _) ?_
    refine zT_st (pc' := 18) (L' := [some (.ref a0), some (.int a1), some (.int a2)]) (st' := [.int a2, .ref o3]) (h' := h) 1 (fun n => rfl) ?_
    obtain ⟨hq, hw⟩ := hw
    obtain ⟨x4, h5, hx, hw⟩ := hw
    refine zT_call (pc' := 21) (rest := []) 1 (fun n => rfl) hq hx ?_
    show zT E (d + 1) m_Plans_isBarred 21 [some (.ref a0), some (.int a1), some (.int a2)] [.int x4] h5 r
    refine zT_st (pc' := 22) (L' := [some (.ref a0), some (.int a1), some (.int a2)]) (st' := [.int a1, .int x4]) (h' := h5) 1 (fun n => rfl) ?_
    by_cases hc : x4 = a1
    · rw [if_pos hc] at hw
      refine zT_st (pc' := 25) (L' := [some (.ref a0), some (.int a1), some (.int a2)]) (st' := []) (h' := h5) 1 (fun n => if_pos hc) ?_
      refine zT_st (pc' := 26) (L' := [some (.ref a0), some (.int a1), some (.int a2)]) (st' := [.ref a0]) (h' := h5) 1 (fun n => rfl) ?_
      obtain ⟨o6, e, hw⟩ := hw
      refine zT_st (pc' := 29) (L' := [some (.ref a0), some (.int a1), some (.int a2)]) (st' := [.ref o6]) (h' := h5) 1 (fun n => fld_eq (E := E) e _) ?_
      refine zT_st (pc' := 30) (L' := [some (.ref a0), some (.int a1), some (.int a2)]) (st' := [.int a2, .ref o6]) (h' := h5) 1 (fun n => rfl) ?_
      obtain ⟨hq, hw⟩ := hw
      obtain ⟨x7, h8, hx, hw⟩ := hw
      refine zT_call (pc' := 33) (rest := []) 1 (fun n => rfl) hq hx ?_
      show zT E (d + 1) m_Plans_isBarred 33 [some (.ref a0), some (.int a1), some (.int a2)] [.int x7] h8 r
      by_cases hc : x7 = 0
      · rw [if_pos hc] at hw
        refine zT_st (pc' := 36) (L' := [some (.ref a0), some (.int a1), some (.int a2)]) (st' := []) (h' := h8) 1 (fun n => if_pos hc) ?_
        subst hw
        exact zT_ret 2 rfl
      · rw [if_neg hc] at hw
        refine zT_st (pc' := 38) (L' := [some (.ref a0), some (.int a1), some (.int a2)]) (st' := []) (h' := h8) 1 (fun n => if_neg hc) ?_
        exact zT_st 2 (fun n => rfl) hw
    · rw [if_neg hc] at hw
      refine zT_st (pc' := 38) (L' := [some (.ref a0), some (.int a1), some (.int a2)]) (st' := []) (h' := h5) 1 (fun n => if_neg hc) ?_
      exact zT_st 2 (fun n => rfl) hw
set_option maxRecDepth 4000 in
theorem s_Plans_walkBackFrom_0 (E : zX) (d : Nat) (a0 : Nat) (a1 : Int32) (a2 : Int32) (h : zH) (r : zO × zH)
    (hw : zT E (d + 1) m_Plans_walkBackFrom 2 [some (.ref a0), some (.int a1), some (.int a2), some (.int 0), none, none] [] h r) :
    zT E (d + 1) m_Plans_walkBackFrom 0 [some (.ref a0), some (.int a1), some (.int a2), none, none, none] [] h r := by
  exact zT_st 2 (fun n => rfl) hw
set_option maxRecDepth 4000 in
theorem s_Plans_walkBackFrom_2 (E : zX) (d : Nat) (a0 : Nat) (a1 : Int32) (a2 : Int32) (a3 : Int32) (j4 : Option Value) (j5 : Option Value) (h : zH) (r : zO × zH)
    (hw : ∃ o1 : Nat, fld h a0 6 1 = some (.ref o1) ∧
    ∃ x2 : Int32, fld h o1 5 2 = some (.int x2) ∧
    if x2 ≤ a3 then (
      ∃ o3 : Nat, fld h a0 6 4 = some (.ref o3) ∧
      ∃ (n4 : Nat) (f5 : Nat → Int32), arr h o3 = some (n4, f5) ∧ ¬ (a1 < 0 ∨ n4 ≤ (a1).toNatClampNeg) ∧
      ∃ o6 : Nat, fld (setA h o3 n4 (upd f5 (a1).toNatClampNeg 0)) a0 6 5 = some (.ref o6) ∧
      ∃ (n7 : Nat) (f8 : Nat → Int32), arr (setA h o3 n4 (upd f5 (a1).toNatClampNeg 0)) o6 = some (n7, f8) ∧ ¬ ((0 : Int32) < 0 ∨ n7 ≤ ((0 : Int32)).toNatClampNeg) ∧
      zT E (d + 1) m_Plans_walkBackFrom 45 [some (.ref a0), some (.int a1), some (.int a2), some (.int 1), some (.int 0), j5] [] (setA (setA h o3 n4 (upd f5 (a1).toNatClampNeg 0)) o6 n7 (upd f8 ((0 : Int32)).toNatClampNeg a1)) r)
    else (
      ∃ o9 : Nat, fld h a0 6 4 = some (.ref o9) ∧
      ∃ (n10 : Nat) (f11 : Nat → Int32), arr h o9 = some (n10, f11) ∧ ¬ (a3 < 0 ∨ n10 ≤ (a3).toNatClampNeg) ∧
      zT E (d + 1) m_Plans_walkBackFrom 2 [some (.ref a0), some (.int a1), some (.int a2), some (.int (a3 + 1)), j4, j5] [] (setA h o9 n10 (upd f11 (a3).toNatClampNeg (-1))) r)) :
    zT E (d + 1) m_Plans_walkBackFrom 2 [some (.ref a0), some (.int a1), some (.int a2), some (.int a3), j4, j5] [] h r := by
  refine zT_st (pc' := 4) (L' := [some (.ref a0), some (.int a1), some (.int a2), some (.int a3), j4, j5]) (st' := [.ref a0, .int a3]) (h' := h) 2 (fun n => rfl) ?_
  obtain ⟨o1, e, hw⟩ := hw
  refine zT_st (pc' := 7) (L' := [some (.ref a0), some (.int a1), some (.int a2), some (.int a3), j4, j5]) (st' := [.ref o1, .int a3]) (h' := h) 1 (fun n => fld_eq (E := E) e _) ?_
  obtain ⟨x2, e, hw⟩ := hw
  refine zT_st (pc' := 10) (L' := [some (.ref a0), some (.int a1), some (.int a2), some (.int a3), j4, j5]) (st' := [.int x2, .int a3]) (h' := h) 1 (fun n => fld_eq (E := E) e _) ?_
  by_cases hc : x2 ≤ a3
  · rw [if_pos hc] at hw
    refine zT_st (pc' := 26) (L' := [some (.ref a0), some (.int a1), some (.int a2), some (.int a3), j4, j5]) (st' := []) (h' := h) 1 (fun n => if_pos hc) ?_
    refine zT_st (pc' := 27) (L' := [some (.ref a0), some (.int a1), some (.int a2), some (.int a3), j4, j5]) (st' := [.ref a0]) (h' := h) 1 (fun n => rfl) ?_
    obtain ⟨o3, e, hw⟩ := hw
    refine zT_st (pc' := 30) (L' := [some (.ref a0), some (.int a1), some (.int a2), some (.int a3), j4, j5]) (st' := [.ref o3]) (h' := h) 1 (fun n => fld_eq (E := E) e _) ?_
    refine zT_st (pc' := 32) (L' := [some (.ref a0), some (.int a1), some (.int a2), some (.int a3), j4, j5]) (st' := [.int 0, .int a1, .ref o3]) (h' := h) 2 (fun n => rfl) ?_
    obtain ⟨n4, f5, e, hi, hw⟩ := hw
    refine zT_st (pc' := 33) (L' := [some (.ref a0), some (.int a1), some (.int a2), some (.int a3), j4, j5]) (st' := []) (h' := (setA h o3 n4 (upd f5 (a1).toNatClampNeg 0))) 1 (fun n => set_eq e hi _ _) ?_
    refine zT_st (pc' := 34) (L' := [some (.ref a0), some (.int a1), some (.int a2), some (.int a3), j4, j5]) (st' := [.ref a0]) (h' := (setA h o3 n4 (upd f5 (a1).toNatClampNeg 0))) 1 (fun n => rfl) ?_
    obtain ⟨o6, e, hw⟩ := hw
    refine zT_st (pc' := 37) (L' := [some (.ref a0), some (.int a1), some (.int a2), some (.int a3), j4, j5]) (st' := [.ref o6]) (h' := (setA h o3 n4 (upd f5 (a1).toNatClampNeg 0))) 1 (fun n => fld_eq (E := E) e _) ?_
    refine zT_st (pc' := 39) (L' := [some (.ref a0), some (.int a1), some (.int a2), some (.int a3), j4, j5]) (st' := [.int a1, .int 0, .ref o6]) (h' := (setA h o3 n4 (upd f5 (a1).toNatClampNeg 0))) 2 (fun n => rfl) ?_
    obtain ⟨n7, f8, e, hi, hw⟩ := hw
    refine zT_st (pc' := 40) (L' := [some (.ref a0), some (.int a1), some (.int a2), some (.int a3), j4, j5]) (st' := []) (h' := (setA (setA h o3 n4 (upd f5 (a1).toNatClampNeg 0)) o6 n7 (upd f8 ((0 : Int32)).toNatClampNeg a1))) 1 (fun n => set_eq e hi _ _) ?_
    exact zT_st 4 (fun n => rfl) hw
  · rw [if_neg hc] at hw
    refine zT_st (pc' := 13) (L' := [some (.ref a0), some (.int a1), some (.int a2), some (.int a3), j4, j5]) (st' := []) (h' := h) 1 (fun n => if_neg hc) ?_
    refine zT_st (pc' := 14) (L' := [some (.ref a0), some (.int a1), some (.int a2), some (.int a3), j4, j5]) (st' := [.ref a0]) (h' := h) 1 (fun n => rfl) ?_
    obtain ⟨o9, e, hw⟩ := hw
    refine zT_st (pc' := 17) (L' := [some (.ref a0), some (.int a1), some (.int a2), some (.int a3), j4, j5]) (st' := [.ref o9]) (h' := h) 1 (fun n => fld_eq (E := E) e _) ?_
    refine zT_st (pc' := 19) (L' := [some (.ref a0), some (.int a1), some (.int a2), some (.int a3), j4, j5]) (st' := [.int (-1), .int a3, .ref o9]) (h' := h) 2 (fun n => rfl) ?_
    obtain ⟨n10, f11, e, hi, hw⟩ := hw
    refine zT_st (pc' := 20) (L' := [some (.ref a0), some (.int a1), some (.int a2), some (.int a3), j4, j5]) (st' := []) (h' := (setA h o9 n10 (upd f11 (a3).toNatClampNeg (-1)))) 1 (fun n => set_eq e hi _ _) ?_
    exact zT_st 2 (fun n => rfl) hw
set_option maxRecDepth 4000 in
theorem s_Plans_walkBackFrom_45 (E : zX) (d : Nat) (a0 : Nat) (j1 : Option Value) (a2 : Int32) (a3 : Int32) (a4 : Int32) (j5 : Option Value) (h : zH) (r : zO × zH)
    (hw : if a3 ≤ a4 then (
      r = (.inl (none), h))
    else (
      ∃ o1 : Nat, fld h a0 6 1 = some (.ref o1) ∧
      ∃ x2 : Int32, fld h o1 5 2 = some (.int x2) ∧
      if x2 ≤ a4 then (
        r = (.inl (none), h))
      else (
        zT E (d + 1) m_Plans_walkBackFrom 66 [some (.ref a0), j1, some (.int a2), some (.int a3), some (.int a4), some (.int 0)] [] h r))) :
    zT E (d + 1) m_Plans_walkBackFrom 45 [some (.ref a0), j1, some (.int a2), some (.int a3), some (.int a4), j5] [] h r := by
  refine zT_st (pc' := 48) (L' := [some (.ref a0), j1, some (.int a2), some (.int a3), some (.int a4), j5]) (st' := [.int a3, .int a4]) (h' := h) 2 (fun n => rfl) ?_
  by_cases hc : a3 ≤ a4
  · rw [if_pos hc] at hw
    refine zT_st (pc' := 174) (L' := [some (.ref a0), j1, some (.int a2), some (.int a3), some (.int a4), j5]) (st' := []) (h' := h) 1 (fun n => if_pos hc) ?_
    subst hw
    exact zT_ret 1 rfl
  · rw [if_neg hc] at hw
    refine zT_st (pc' := 51) (L' := [some (.ref a0), j1, some (.int a2), some (.int a3), some (.int a4), j5]) (st' := []) (h' := h) 1 (fun n => if_neg hc) ?_
    refine zT_st (pc' := 54) (L' := [some (.ref a0), j1, some (.int a2), some (.int a3), some (.int a4), j5]) (st' := [.ref a0, .int a4]) (h' := h) 2 (fun n => rfl) ?_
    obtain ⟨o1, e, hw⟩ := hw
    refine zT_st (pc' := 57) (L' := [some (.ref a0), j1, some (.int a2), some (.int a3), some (.int a4), j5]) (st' := [.ref o1, .int a4]) (h' := h) 1 (fun n => fld_eq (E := E) e _) ?_
    obtain ⟨x2, e, hw⟩ := hw
    refine zT_st (pc' := 60) (L' := [some (.ref a0), j1, some (.int a2), some (.int a3), some (.int a4), j5]) (st' := [.int x2, .int a4]) (h' := h) 1 (fun n => fld_eq (E := E) e _) ?_
    by_cases hc : x2 ≤ a4
    · rw [if_pos hc] at hw
      refine zT_st (pc' := 174) (L' := [some (.ref a0), j1, some (.int a2), some (.int a3), some (.int a4), j5]) (st' := []) (h' := h) 1 (fun n => if_pos hc) ?_
      subst hw
      exact zT_ret 1 rfl
    · rw [if_neg hc] at hw
      refine zT_st (pc' := 63) (L' := [some (.ref a0), j1, some (.int a2), some (.int a3), some (.int a4), j5]) (st' := []) (h' := h) 1 (fun n => if_neg hc) ?_
      exact zT_st 2 (fun n => rfl) hw
set_option maxRecDepth 4000 in
theorem s_Plans_walkBackFrom_66 (E : zX) (d : Nat) (a0 : Nat) (j1 : Option Value) (a2 : Int32) (a3 : Int32) (a4 : Int32) (a5 : Int32) (h : zH) (r : zO × zH)
    (hw : ∃ o1 : Nat, fld h a0 6 1 = some (.ref o1) ∧
    ∃ x2 : Int32, fld h o1 5 2 = some (.int x2) ∧
    if x2 ≤ a5 then (
      zT E (d + 1) m_Plans_walkBackFrom 45 [some (.ref a0), j1, some (.int a2), some (.int a3), some (.int (a4 + 1)), some (.int a5)] [] h r)
    else (
      if 36 ≤ a3 then (
        zT E (d + 1) m_Plans_walkBackFrom 45 [some (.ref a0), j1, some (.int a2), some (.int a3), some (.int (a4 + 1)), some (.int a5)] [] h r)
      else (
        ∃ o3 : Nat, fld h a0 6 4 = some (.ref o3) ∧
        ∃ (n4 : Nat) (f5 : Nat → Int32), arr h o3 = some (n4, f5) ∧ ¬ (a5 < 0 ∨ n4 ≤ (a5).toNatClampNeg) ∧
        if (f5 (a5).toNatClampNeg) = (-1) then (
          ∃ o6 : Nat, fld h a0 6 1 = some (.ref o6) ∧
          ∃ o7 : Nat, fld h a0 6 5 = some (.ref o7) ∧
          ∃ (n8 : Nat) (f9 : Nat → Int32), arr h o7 = some (n8, f9) ∧ ¬ (a4 < 0 ∨ n8 ≤ (a4).toNatClampNeg) ∧
          isO h o6 5 = true ∧ ∃ (x10 : Int32) (h11 : zH), zT E d m_Land_far 0 [some (.ref o6), some (.int (f9 (a4).toNatClampNeg)), some (.int a5), none, none] [] h (.inl (some (.int x10)), h11) ∧
          if x10 = 1 then (
            if a5 = a2 then (
              zT E (d + 1) m_Plans_walkBackFrom 130 [some (.ref a0), j1, some (.int a2), some (.int a3), some (.int a4), some (.int a5)] [] h11 r)
            else (
              isO h11 a0 6 = true ∧ ∃ (x12 : Int32) (h13 : zH), zT E d m_Plans_isBarred 0 [some (.ref a0), some (.int a5), none] [] h11 (.inl (some (.int x12)), h13) ∧
              if x12 = 0 then (
                zT E (d + 1) m_Plans_walkBackFrom 130 [some (.ref a0), j1, some (.int a2), some (.int a3), some (.int a4), some (.int a5)] [] h13 r)
              else (
                zT E (d + 1) m_Plans_walkBackFrom 66 [some (.ref a0), j1, some (.int a2), some (.int a3), some (.int a4), some (.int (a5 + 1))] [] h13 r)))
          else (
            zT E (d + 1) m_Plans_walkBackFrom 66 [some (.ref a0), j1, some (.int a2), some (.int a3), some (.int a4), some (.int (a5 + 1))] [] h11 r))
        else (
          zT E (d + 1) m_Plans_walkBackFrom 66 [some (.ref a0), j1, some (.int a2), some (.int a3), some (.int a4), some (.int (a5 + 1))] [] h r)))) :
    zT E (d + 1) m_Plans_walkBackFrom 66 [some (.ref a0), j1, some (.int a2), some (.int a3), some (.int a4), some (.int a5)] [] h r := by
  refine zT_st (pc' := 69) (L' := [some (.ref a0), j1, some (.int a2), some (.int a3), some (.int a4), some (.int a5)]) (st' := [.ref a0, .int a5]) (h' := h) 2 (fun n => rfl) ?_
  obtain ⟨o1, e, hw⟩ := hw
  refine zT_st (pc' := 72) (L' := [some (.ref a0), j1, some (.int a2), some (.int a3), some (.int a4), some (.int a5)]) (st' := [.ref o1, .int a5]) (h' := h) 1 (fun n => fld_eq (E := E) e _) ?_
  obtain ⟨x2, e, hw⟩ := hw
  refine zT_st (pc' := 75) (L' := [some (.ref a0), j1, some (.int a2), some (.int a3), some (.int a4), some (.int a5)]) (st' := [.int x2, .int a5]) (h' := h) 1 (fun n => fld_eq (E := E) e _) ?_
  by_cases hc : x2 ≤ a5
  · rw [if_pos hc] at hw
    refine zT_st (pc' := 168) (L' := [some (.ref a0), j1, some (.int a2), some (.int a3), some (.int a4), some (.int a5)]) (st' := []) (h' := h) 1 (fun n => if_pos hc) ?_
    exact zT_st 2 (fun n => rfl) hw
  · rw [if_neg hc] at hw
    refine zT_st (pc' := 78) (L' := [some (.ref a0), j1, some (.int a2), some (.int a3), some (.int a4), some (.int a5)]) (st' := []) (h' := h) 1 (fun n => if_neg hc) ?_
    refine zT_st (pc' := 81) (L' := [some (.ref a0), j1, some (.int a2), some (.int a3), some (.int a4), some (.int a5)]) (st' := [.int 36, .int a3]) (h' := h) 2 (fun n => rfl) ?_
    by_cases hc : 36 ≤ a3
    · rw [if_pos hc] at hw
      refine zT_st (pc' := 168) (L' := [some (.ref a0), j1, some (.int a2), some (.int a3), some (.int a4), some (.int a5)]) (st' := []) (h' := h) 1 (fun n => if_pos hc) ?_
      exact zT_st 2 (fun n => rfl) hw
    · rw [if_neg hc] at hw
      refine zT_st (pc' := 84) (L' := [some (.ref a0), j1, some (.int a2), some (.int a3), some (.int a4), some (.int a5)]) (st' := []) (h' := h) 1 (fun n => if_neg hc) ?_
      refine zT_st (pc' := 85) (L' := [some (.ref a0), j1, some (.int a2), some (.int a3), some (.int a4), some (.int a5)]) (st' := [.ref a0]) (h' := h) 1 (fun n => rfl) ?_
      obtain ⟨o3, e, hw⟩ := hw
      refine zT_st (pc' := 88) (L' := [some (.ref a0), j1, some (.int a2), some (.int a3), some (.int a4), some (.int a5)]) (st' := [.ref o3]) (h' := h) 1 (fun n => fld_eq (E := E) e _) ?_
      refine zT_st (pc' := 90) (L' := [some (.ref a0), j1, some (.int a2), some (.int a3), some (.int a4), some (.int a5)]) (st' := [.int a5, .ref o3]) (h' := h) 1 (fun n => rfl) ?_
      obtain ⟨n4, f5, e, hi, hw⟩ := hw
      refine zT_st (pc' := 91) (L' := [some (.ref a0), j1, some (.int a2), some (.int a3), some (.int a4), some (.int a5)]) (st' := [.int (f5 (a5).toNatClampNeg)]) (h' := h) 1 (fun n => arr_eq (E := E) e hi [] (fun st => zrun zP zCd E n (d + 1) m_Plans_walkBackFrom 91 [some (.ref a0), j1, some (.int a2), some (.int a3), some (.int a4), some (.int a5)] st h)) ?_
      refine zT_st (pc' := 92) (L' := [some (.ref a0), j1, some (.int a2), some (.int a3), some (.int a4), some (.int a5)]) (st' := [.int (-1), .int (f5 (a5).toNatClampNeg)]) (h' := h) 1 (fun n => rfl) ?_
      by_cases hc : (f5 (a5).toNatClampNeg) = (-1)
      · rw [if_pos hc] at hw
        refine zT_st (pc' := 95) (L' := [some (.ref a0), j1, some (.int a2), some (.int a3), some (.int a4), some (.int a5)]) (st' := []) (h' := h) 1 (fun n => if_pos hc) ?_
        refine zT_st (pc' := 96) (L' := [some (.ref a0), j1, some (.int a2), some (.int a3), some (.int a4), some (.int a5)]) (st' := [.ref a0]) (h' := h) 1 (fun n => rfl) ?_
        obtain ⟨o6, e, hw⟩ := hw
        refine zT_st (pc' := 99) (L' := [some (.ref a0), j1, some (.int a2), some (.int a3), some (.int a4), some (.int a5)]) (st' := [.ref o6]) (h' := h) 1 (fun n => fld_eq (E := E) e _) ?_
        refine zT_st (pc' := 100) (L' := [some (.ref a0), j1, some (.int a2), some (.int a3), some (.int a4), some (.int a5)]) (st' := [.ref a0, .ref o6]) (h' := h) 1 (fun n => rfl) ?_
        obtain ⟨o7, e, hw⟩ := hw
        refine zT_st (pc' := 103) (L' := [some (.ref a0), j1, some (.int a2), some (.int a3), some (.int a4), some (.int a5)]) (st' := [.ref o7, .ref o6]) (h' := h) 1 (fun n => fld_eq (E := E) e _) ?_
        refine zT_st (pc' := 105) (L' := [some (.ref a0), j1, some (.int a2), some (.int a3), some (.int a4), some (.int a5)]) (st' := [.int a4, .ref o7, .ref o6]) (h' := h) 1 (fun n => rfl) ?_
        obtain ⟨n8, f9, e, hi, hw⟩ := hw
        refine zT_st (pc' := 106) (L' := [some (.ref a0), j1, some (.int a2), some (.int a3), some (.int a4), some (.int a5)]) (st' := [.int (f9 (a4).toNatClampNeg), .ref o6]) (h' := h) 1 (fun n => arr_eq (E := E) e hi [.ref o6] (fun st => zrun zP zCd E n (d + 1) m_Plans_walkBackFrom 106 [some (.ref a0), j1, some (.int a2), some (.int a3), some (.int a4), some (.int a5)] st h)) ?_
        refine zT_st (pc' := 108) (L' := [some (.ref a0), j1, some (.int a2), some (.int a3), some (.int a4), some (.int a5)]) (st' := [.int a5, .int (f9 (a4).toNatClampNeg), .ref o6]) (h' := h) 1 (fun n => rfl) ?_
        obtain ⟨hq, hw⟩ := hw
        obtain ⟨x10, h11, hx, hw⟩ := hw
        refine zT_call (pc' := 111) (rest := []) 1 (fun n => rfl) hq hx ?_
        show zT E (d + 1) m_Plans_walkBackFrom 111 [some (.ref a0), j1, some (.int a2), some (.int a3), some (.int a4), some (.int a5)] [.int x10] h11 r
        refine zT_st (pc' := 112) (L' := [some (.ref a0), j1, some (.int a2), some (.int a3), some (.int a4), some (.int a5)]) (st' := [.int 1, .int x10]) (h' := h11) 1 (fun n => rfl) ?_
        by_cases hc : x10 = 1
        · rw [if_pos hc] at hw
          refine zT_st (pc' := 115) (L' := [some (.ref a0), j1, some (.int a2), some (.int a3), some (.int a4), some (.int a5)]) (st' := []) (h' := h11) 1 (fun n => if_pos hc) ?_
          refine zT_st (pc' := 118) (L' := [some (.ref a0), j1, some (.int a2), some (.int a3), some (.int a4), some (.int a5)]) (st' := [.int a2, .int a5]) (h' := h11) 2 (fun n => rfl) ?_
          by_cases hc : a5 = a2
          · rw [if_pos hc] at hw
            refine zT_st (pc' := 130) (L' := [some (.ref a0), j1, some (.int a2), some (.int a3), some (.int a4), some (.int a5)]) (st' := []) (h' := h11) 1 (fun n => if_pos hc) ?_
            exact hw
          · rw [if_neg hc] at hw
            refine zT_st (pc' := 121) (L' := [some (.ref a0), j1, some (.int a2), some (.int a3), some (.int a4), some (.int a5)]) (st' := []) (h' := h11) 1 (fun n => if_neg hc) ?_
            refine zT_st (pc' := 124) (L' := [some (.ref a0), j1, some (.int a2), some (.int a3), some (.int a4), some (.int a5)]) (st' := [.int a5, .ref a0]) (h' := h11) 2 (fun n => rfl) ?_
            obtain ⟨hq, hw⟩ := hw
            obtain ⟨x12, h13, hx, hw⟩ := hw
            refine zT_call (pc' := 127) (rest := []) 1 (fun n => rfl) hq hx ?_
            show zT E (d + 1) m_Plans_walkBackFrom 127 [some (.ref a0), j1, some (.int a2), some (.int a3), some (.int a4), some (.int a5)] [.int x12] h13 r
            by_cases hc : x12 = 0
            · rw [if_pos hc] at hw
              refine zT_st (pc' := 130) (L' := [some (.ref a0), j1, some (.int a2), some (.int a3), some (.int a4), some (.int a5)]) (st' := []) (h' := h13) 1 (fun n => if_pos hc) ?_
              exact hw
            · rw [if_neg hc] at hw
              refine zT_st (pc' := 162) (L' := [some (.ref a0), j1, some (.int a2), some (.int a3), some (.int a4), some (.int a5)]) (st' := []) (h' := h13) 1 (fun n => if_neg hc) ?_
              exact zT_st 2 (fun n => rfl) hw
        · rw [if_neg hc] at hw
          refine zT_st (pc' := 162) (L' := [some (.ref a0), j1, some (.int a2), some (.int a3), some (.int a4), some (.int a5)]) (st' := []) (h' := h11) 1 (fun n => if_neg hc) ?_
          exact zT_st 2 (fun n => rfl) hw
      · rw [if_neg hc] at hw
        refine zT_st (pc' := 162) (L' := [some (.ref a0), j1, some (.int a2), some (.int a3), some (.int a4), some (.int a5)]) (st' := []) (h' := h) 1 (fun n => if_neg hc) ?_
        exact zT_st 2 (fun n => rfl) hw
set_option maxRecDepth 4000 in
theorem s_Plans_walkBackFrom_130 (E : zX) (d : Nat) (a0 : Nat) (j1 : Option Value) (a2 : Int32) (a3 : Int32) (a4 : Int32) (a5 : Int32) (h : zH) (r : zO × zH)
    (hw : ∃ o1 : Nat, fld h a0 6 4 = some (.ref o1) ∧
    ∃ o2 : Nat, fld h a0 6 4 = some (.ref o2) ∧
    ∃ o3 : Nat, fld h a0 6 5 = some (.ref o3) ∧
    ∃ (n4 : Nat) (f5 : Nat → Int32), arr h o3 = some (n4, f5) ∧ ¬ (a4 < 0 ∨ n4 ≤ (a4).toNatClampNeg) ∧
    ∃ (n6 : Nat) (f7 : Nat → Int32), arr h o2 = some (n6, f7) ∧ ¬ ((f5 (a4).toNatClampNeg) < 0 ∨ n6 ≤ ((f5 (a4).toNatClampNeg)).toNatClampNeg) ∧
    ∃ (n8 : Nat) (f9 : Nat → Int32), arr h o1 = some (n8, f9) ∧ ¬ (a5 < 0 ∨ n8 ≤ (a5).toNatClampNeg) ∧
    ∃ o10 : Nat, fld (setA h o1 n8 (upd f9 (a5).toNatClampNeg ((f7 ((f5 (a4).toNatClampNeg)).toNatClampNeg) + 1))) a0 6 5 = some (.ref o10) ∧
    ∃ (n11 : Nat) (f12 : Nat → Int32), arr (setA h o1 n8 (upd f9 (a5).toNatClampNeg ((f7 ((f5 (a4).toNatClampNeg)).toNatClampNeg) + 1))) o10 = some (n11, f12) ∧ ¬ (a3 < 0 ∨ n11 ≤ (a3).toNatClampNeg) ∧
    zT E (d + 1) m_Plans_walkBackFrom 66 [some (.ref a0), j1, some (.int a2), some (.int (a3 + 1)), some (.int a4), some (.int (a5 + 1))] [] (setA (setA h o1 n8 (upd f9 (a5).toNatClampNeg ((f7 ((f5 (a4).toNatClampNeg)).toNatClampNeg) + 1))) o10 n11 (upd f12 (a3).toNatClampNeg a5)) r) :
    zT E (d + 1) m_Plans_walkBackFrom 130 [some (.ref a0), j1, some (.int a2), some (.int a3), some (.int a4), some (.int a5)] [] h r := by
  refine zT_st (pc' := 131) (L' := [some (.ref a0), j1, some (.int a2), some (.int a3), some (.int a4), some (.int a5)]) (st' := [.ref a0]) (h' := h) 1 (fun n => rfl) ?_
  obtain ⟨o1, e, hw⟩ := hw
  refine zT_st (pc' := 134) (L' := [some (.ref a0), j1, some (.int a2), some (.int a3), some (.int a4), some (.int a5)]) (st' := [.ref o1]) (h' := h) 1 (fun n => fld_eq (E := E) e _) ?_
  refine zT_st (pc' := 137) (L' := [some (.ref a0), j1, some (.int a2), some (.int a3), some (.int a4), some (.int a5)]) (st' := [.ref a0, .int a5, .ref o1]) (h' := h) 2 (fun n => rfl) ?_
  obtain ⟨o2, e, hw⟩ := hw
  refine zT_st (pc' := 140) (L' := [some (.ref a0), j1, some (.int a2), some (.int a3), some (.int a4), some (.int a5)]) (st' := [.ref o2, .int a5, .ref o1]) (h' := h) 1 (fun n => fld_eq (E := E) e _) ?_
  refine zT_st (pc' := 141) (L' := [some (.ref a0), j1, some (.int a2), some (.int a3), some (.int a4), some (.int a5)]) (st' := [.ref a0, .ref o2, .int a5, .ref o1]) (h' := h) 1 (fun n => rfl) ?_
  obtain ⟨o3, e, hw⟩ := hw
  refine zT_st (pc' := 144) (L' := [some (.ref a0), j1, some (.int a2), some (.int a3), some (.int a4), some (.int a5)]) (st' := [.ref o3, .ref o2, .int a5, .ref o1]) (h' := h) 1 (fun n => fld_eq (E := E) e _) ?_
  refine zT_st (pc' := 146) (L' := [some (.ref a0), j1, some (.int a2), some (.int a3), some (.int a4), some (.int a5)]) (st' := [.int a4, .ref o3, .ref o2, .int a5, .ref o1]) (h' := h) 1 (fun n => rfl) ?_
  obtain ⟨n4, f5, e, hi, hw⟩ := hw
  refine zT_st (pc' := 147) (L' := [some (.ref a0), j1, some (.int a2), some (.int a3), some (.int a4), some (.int a5)]) (st' := [.int (f5 (a4).toNatClampNeg), .ref o2, .int a5, .ref o1]) (h' := h) 1 (fun n => arr_eq (E := E) e hi [.ref o2, .int a5, .ref o1] (fun st => zrun zP zCd E n (d + 1) m_Plans_walkBackFrom 147 [some (.ref a0), j1, some (.int a2), some (.int a3), some (.int a4), some (.int a5)] st h)) ?_
  obtain ⟨n6, f7, e, hi, hw⟩ := hw
  refine zT_st (pc' := 148) (L' := [some (.ref a0), j1, some (.int a2), some (.int a3), some (.int a4), some (.int a5)]) (st' := [.int (f7 ((f5 (a4).toNatClampNeg)).toNatClampNeg), .int a5, .ref o1]) (h' := h) 1 (fun n => arr_eq (E := E) e hi [.int a5, .ref o1] (fun st => zrun zP zCd E n (d + 1) m_Plans_walkBackFrom 148 [some (.ref a0), j1, some (.int a2), some (.int a3), some (.int a4), some (.int a5)] st h)) ?_
  refine zT_st (pc' := 150) (L' := [some (.ref a0), j1, some (.int a2), some (.int a3), some (.int a4), some (.int a5)]) (st' := [.int ((f7 ((f5 (a4).toNatClampNeg)).toNatClampNeg) + 1), .int a5, .ref o1]) (h' := h) 2 (fun n => rfl) ?_
  obtain ⟨n8, f9, e, hi, hw⟩ := hw
  refine zT_st (pc' := 151) (L' := [some (.ref a0), j1, some (.int a2), some (.int a3), some (.int a4), some (.int a5)]) (st' := []) (h' := (setA h o1 n8 (upd f9 (a5).toNatClampNeg ((f7 ((f5 (a4).toNatClampNeg)).toNatClampNeg) + 1)))) 1 (fun n => set_eq e hi _ _) ?_
  refine zT_st (pc' := 152) (L' := [some (.ref a0), j1, some (.int a2), some (.int a3), some (.int a4), some (.int a5)]) (st' := [.ref a0]) (h' := (setA h o1 n8 (upd f9 (a5).toNatClampNeg ((f7 ((f5 (a4).toNatClampNeg)).toNatClampNeg) + 1)))) 1 (fun n => rfl) ?_
  obtain ⟨o10, e, hw⟩ := hw
  refine zT_st (pc' := 155) (L' := [some (.ref a0), j1, some (.int a2), some (.int a3), some (.int a4), some (.int a5)]) (st' := [.ref o10]) (h' := (setA h o1 n8 (upd f9 (a5).toNatClampNeg ((f7 ((f5 (a4).toNatClampNeg)).toNatClampNeg) + 1)))) 1 (fun n => fld_eq (E := E) e _) ?_
  refine zT_st (pc' := 158) (L' := [some (.ref a0), j1, some (.int a2), some (.int a3), some (.int a4), some (.int a5)]) (st' := [.int a5, .int a3, .ref o10]) (h' := (setA h o1 n8 (upd f9 (a5).toNatClampNeg ((f7 ((f5 (a4).toNatClampNeg)).toNatClampNeg) + 1)))) 2 (fun n => rfl) ?_
  obtain ⟨n11, f12, e, hi, hw⟩ := hw
  refine zT_st (pc' := 159) (L' := [some (.ref a0), j1, some (.int a2), some (.int a3), some (.int a4), some (.int a5)]) (st' := []) (h' := (setA (setA h o1 n8 (upd f9 (a5).toNatClampNeg ((f7 ((f5 (a4).toNatClampNeg)).toNatClampNeg) + 1))) o10 n11 (upd f12 (a3).toNatClampNeg a5))) 1 (fun n => set_eq e hi _ _) ?_
  exact zT_st 3 (fun n => rfl) hw
set_option maxRecDepth 4000 in
theorem s_Plans_firstStep_0 (E : zX) (d : Nat) (a0 : Nat) (a1 : Int32) (a2 : Int32) (h : zH) (r : zO × zH)
    (hw : isO h a0 6 = true ∧ ∃ (x1 : Int32) (h2 : zH), zT E d m_Plans_stepsBetween 0 [some (.ref a0), some (.int a1), some (.int a2)] [] h (.inl (some (.int x1)), h2) ∧
    if 1 ≤ x1 then (
      zT E (d + 1) m_Plans_firstStep 17 [some (.ref a0), some (.int a1), some (.int a2), some (.int x1), some (.int 0)] [] h2 r)
    else (
      r = (.inl (some (.int (-1))), h2))) :
    zT E (d + 1) m_Plans_firstStep 0 [some (.ref a0), some (.int a1), some (.int a2), none, none] [] h r := by
  refine zT_st (pc' := 3) (L' := [some (.ref a0), some (.int a1), some (.int a2), none, none]) (st' := [.int a2, .int a1, .ref a0]) (h' := h) 3 (fun n => rfl) ?_
  obtain ⟨hq, hw⟩ := hw
  obtain ⟨x1, h2, hx, hw⟩ := hw
  refine zT_call (pc' := 6) (rest := []) 1 (fun n => rfl) hq hx ?_
  show zT E (d + 1) m_Plans_firstStep 6 [some (.ref a0), some (.int a1), some (.int a2), none, none] [.int x1] h2 r
  refine zT_st (pc' := 9) (L' := [some (.ref a0), some (.int a1), some (.int a2), some (.int x1), none]) (st' := [.int 1, .int x1]) (h' := h2) 3 (fun n => rfl) ?_
  by_cases hc : 1 ≤ x1
  · rw [if_pos hc] at hw
    refine zT_st (pc' := 14) (L' := [some (.ref a0), some (.int a1), some (.int a2), some (.int x1), none]) (st' := []) (h' := h2) 1 (fun n => if_pos hc) ?_
    exact zT_st 2 (fun n => rfl) hw
  · rw [if_neg hc] at hw
    refine zT_st (pc' := 12) (L' := [some (.ref a0), some (.int a1), some (.int a2), some (.int x1), none]) (st' := []) (h' := h2) 1 (fun n => if_neg hc) ?_
    subst hw
    exact zT_ret 2 rfl
set_option maxRecDepth 4000 in
theorem s_Plans_firstStep_17 (E : zX) (d : Nat) (a0 : Nat) (a1 : Int32) (j2 : Option Value) (a3 : Int32) (a4 : Int32) (h : zH) (r : zO × zH)
    (hw : ∃ o1 : Nat, fld h a0 6 1 = some (.ref o1) ∧
    ∃ x2 : Int32, fld h o1 5 2 = some (.int x2) ∧
    if x2 ≤ a4 then (
      r = (.inl (some (.int (-1))), h))
    else (
      ∃ o3 : Nat, fld h a0 6 1 = some (.ref o3) ∧
      isO h o3 5 = true ∧ ∃ (x4 : Int32) (h5 : zH), zT E d m_Land_far 0 [some (.ref o3), some (.int a4), some (.int a1), none, none] [] h (.inl (some (.int x4)), h5) ∧
      if x4 = 1 then (
        ∃ o6 : Nat, fld h5 a0 6 4 = some (.ref o6) ∧
        ∃ (n7 : Nat) (f8 : Nat → Int32), arr h5 o6 = some (n7, f8) ∧ ¬ (a4 < 0 ∨ n7 ≤ (a4).toNatClampNeg) ∧
        if (f8 (a4).toNatClampNeg) = (a3 - 1) then (
          r = (.inl (some (.int a4)), h5))
        else (
          zT E (d + 1) m_Plans_firstStep 17 [some (.ref a0), some (.int a1), j2, some (.int a3), some (.int (a4 + 1))] [] h5 r))
      else (
        zT E (d + 1) m_Plans_firstStep 17 [some (.ref a0), some (.int a1), j2, some (.int a3), some (.int (a4 + 1))] [] h5 r))) :
    zT E (d + 1) m_Plans_firstStep 17 [some (.ref a0), some (.int a1), j2, some (.int a3), some (.int a4)] [] h r := by
  refine zT_st (pc' := 20) (L' := [some (.ref a0), some (.int a1), j2, some (.int a3), some (.int a4)]) (st' := [.ref a0, .int a4]) (h' := h) 2 (fun n => rfl) ?_
  obtain ⟨o1, e, hw⟩ := hw
  refine zT_st (pc' := 23) (L' := [some (.ref a0), some (.int a1), j2, some (.int a3), some (.int a4)]) (st' := [.ref o1, .int a4]) (h' := h) 1 (fun n => fld_eq (E := E) e _) ?_
  obtain ⟨x2, e, hw⟩ := hw
  refine zT_st (pc' := 26) (L' := [some (.ref a0), some (.int a1), j2, some (.int a3), some (.int a4)]) (st' := [.int x2, .int a4]) (h' := h) 1 (fun n => fld_eq (E := E) e _) ?_
  by_cases hc : x2 ≤ a4
  · rw [if_pos hc] at hw
    refine zT_st (pc' := 65) (L' := [some (.ref a0), some (.int a1), j2, some (.int a3), some (.int a4)]) (st' := []) (h' := h) 1 (fun n => if_pos hc) ?_
    subst hw
    exact zT_ret 2 rfl
  · rw [if_neg hc] at hw
    refine zT_st (pc' := 29) (L' := [some (.ref a0), some (.int a1), j2, some (.int a3), some (.int a4)]) (st' := []) (h' := h) 1 (fun n => if_neg hc) ?_
    refine zT_st (pc' := 30) (L' := [some (.ref a0), some (.int a1), j2, some (.int a3), some (.int a4)]) (st' := [.ref a0]) (h' := h) 1 (fun n => rfl) ?_
    obtain ⟨o3, e, hw⟩ := hw
    refine zT_st (pc' := 33) (L' := [some (.ref a0), some (.int a1), j2, some (.int a3), some (.int a4)]) (st' := [.ref o3]) (h' := h) 1 (fun n => fld_eq (E := E) e _) ?_
    refine zT_st (pc' := 36) (L' := [some (.ref a0), some (.int a1), j2, some (.int a3), some (.int a4)]) (st' := [.int a1, .int a4, .ref o3]) (h' := h) 2 (fun n => rfl) ?_
    obtain ⟨hq, hw⟩ := hw
    obtain ⟨x4, h5, hx, hw⟩ := hw
    refine zT_call (pc' := 39) (rest := []) 1 (fun n => rfl) hq hx ?_
    show zT E (d + 1) m_Plans_firstStep 39 [some (.ref a0), some (.int a1), j2, some (.int a3), some (.int a4)] [.int x4] h5 r
    refine zT_st (pc' := 40) (L' := [some (.ref a0), some (.int a1), j2, some (.int a3), some (.int a4)]) (st' := [.int 1, .int x4]) (h' := h5) 1 (fun n => rfl) ?_
    by_cases hc : x4 = 1
    · rw [if_pos hc] at hw
      refine zT_st (pc' := 43) (L' := [some (.ref a0), some (.int a1), j2, some (.int a3), some (.int a4)]) (st' := []) (h' := h5) 1 (fun n => if_pos hc) ?_
      refine zT_st (pc' := 44) (L' := [some (.ref a0), some (.int a1), j2, some (.int a3), some (.int a4)]) (st' := [.ref a0]) (h' := h5) 1 (fun n => rfl) ?_
      obtain ⟨o6, e, hw⟩ := hw
      refine zT_st (pc' := 47) (L' := [some (.ref a0), some (.int a1), j2, some (.int a3), some (.int a4)]) (st' := [.ref o6]) (h' := h5) 1 (fun n => fld_eq (E := E) e _) ?_
      refine zT_st (pc' := 49) (L' := [some (.ref a0), some (.int a1), j2, some (.int a3), some (.int a4)]) (st' := [.int a4, .ref o6]) (h' := h5) 1 (fun n => rfl) ?_
      obtain ⟨n7, f8, e, hi, hw⟩ := hw
      refine zT_st (pc' := 50) (L' := [some (.ref a0), some (.int a1), j2, some (.int a3), some (.int a4)]) (st' := [.int (f8 (a4).toNatClampNeg)]) (h' := h5) 1 (fun n => arr_eq (E := E) e hi [] (fun st => zrun zP zCd E n (d + 1) m_Plans_firstStep 50 [some (.ref a0), some (.int a1), j2, some (.int a3), some (.int a4)] st h5)) ?_
      refine zT_st (pc' := 53) (L' := [some (.ref a0), some (.int a1), j2, some (.int a3), some (.int a4)]) (st' := [.int (a3 - 1), .int (f8 (a4).toNatClampNeg)]) (h' := h5) 3 (fun n => rfl) ?_
      by_cases hc : (f8 (a4).toNatClampNeg) = (a3 - 1)
      · rw [if_pos hc] at hw
        refine zT_st (pc' := 56) (L' := [some (.ref a0), some (.int a1), j2, some (.int a3), some (.int a4)]) (st' := []) (h' := h5) 1 (fun n => if_pos hc) ?_
        subst hw
        exact zT_ret 2 rfl
      · rw [if_neg hc] at hw
        refine zT_st (pc' := 59) (L' := [some (.ref a0), some (.int a1), j2, some (.int a3), some (.int a4)]) (st' := []) (h' := h5) 1 (fun n => if_neg hc) ?_
        exact zT_st 2 (fun n => rfl) hw
    · rw [if_neg hc] at hw
      refine zT_st (pc' := 59) (L' := [some (.ref a0), some (.int a1), j2, some (.int a3), some (.int a4)]) (st' := []) (h' := h5) 1 (fun n => if_neg hc) ?_
      exact zT_st 2 (fun n => rfl) hw
-- s_PutBy_init_0: by hand
set_option maxRecDepth 4000 in
theorem s_PutBy_choose_0 (E : zX) (d : Nat) (a0 : Nat) (h : zH) (r : zO × zH)
    (hw : isO h a0 7 = true ∧ ∃ (h2 : zH), zT E d m_PutBy_sortPeople 0 [some (.ref a0), none, none] [] h (.inl none, h2) ∧
    isO h2 a0 7 = true ∧ ∃ (h4 : zH), zT E d m_PutBy_sortBalls 0 [some (.ref a0), none, none] [] h2 (.inl none, h4) ∧
    (∃ w, fld h4 a0 7 0 = some w) ∧
    (∃ w, fld (setF h4 a0 0 (.int 0)) a0 7 1 = some w) ∧
    isO (setF (setF h4 a0 0 (.int 0)) a0 1 (.int 0)) a0 7 = true ∧ ∃ (x5 : Int32) (h6 : zH), zT E d m_PutBy_crossPeople 0 [some (.ref a0), none, none] [] (setF (setF h4 a0 0 (.int 0)) a0 1 (.int 0)) (.inl (some (.int x5)), h6) ∧
    isO h6 a0 7 = true ∧ ∃ (x7 : Int32) (h8 : zH), zT E d m_PutBy_whiteBalls 0 [some (.ref a0), none, none] [] h6 (.inl (some (.int x7)), h8) ∧
    isO h8 a0 7 = true ∧ ∃ (x9 : Int32) (h10 : zH), zT E d m_PutBy_bestOf 0 [some (.ref a0), some (.int x5), some (.int x7), none, none, none, none] [] h8 (.inl (some (.int x9)), h10) ∧
    zT E (d + 1) m_PutBy_choose 38 [some (.ref a0), some (.int x5), some (.int x7), some (.int x9), some (.int 0), none] [] h10 r) :
    zT E (d + 1) m_PutBy_choose 0 [some (.ref a0), none, none, none, none, none] [] h r := by
  refine zT_st (pc' := 1) (L' := [some (.ref a0), none, none, none, none, none]) (st' := [.ref a0]) (h' := h) 1 (fun n => rfl) ?_
  obtain ⟨hq, hw⟩ := hw
  obtain ⟨h2, hx, hw⟩ := hw
  refine zT_call (pc' := 4) (rest := []) 1 (fun n => rfl) hq hx ?_
  show zT E (d + 1) m_PutBy_choose 4 [some (.ref a0), none, none, none, none, none] [] h2 r
  refine zT_st (pc' := 5) (L' := [some (.ref a0), none, none, none, none, none]) (st' := [.ref a0]) (h' := h2) 1 (fun n => rfl) ?_
  obtain ⟨hq, hw⟩ := hw
  obtain ⟨h4, hx, hw⟩ := hw
  refine zT_call (pc' := 8) (rest := []) 1 (fun n => rfl) hq hx ?_
  show zT E (d + 1) m_PutBy_choose 8 [some (.ref a0), none, none, none, none, none] [] h4 r
  refine zT_st (pc' := 10) (L' := [some (.ref a0), none, none, none, none, none]) (st' := [.int 0, .ref a0]) (h' := h4) 2 (fun n => rfl) ?_
  obtain ⟨⟨w, e⟩, hw⟩ := hw
  refine zT_st (pc' := 13) (L' := [some (.ref a0), none, none, none, none, none]) (st' := []) (h' := (setF h4 a0 0 (.int 0))) 1 (fun n => put_eq e rfl _ _) ?_
  refine zT_st (pc' := 15) (L' := [some (.ref a0), none, none, none, none, none]) (st' := [.int 0, .ref a0]) (h' := (setF h4 a0 0 (.int 0))) 2 (fun n => rfl) ?_
  obtain ⟨⟨w, e⟩, hw⟩ := hw
  refine zT_st (pc' := 18) (L' := [some (.ref a0), none, none, none, none, none]) (st' := []) (h' := (setF (setF h4 a0 0 (.int 0)) a0 1 (.int 0))) 1 (fun n => put_eq e rfl _ _) ?_
  refine zT_st (pc' := 19) (L' := [some (.ref a0), none, none, none, none, none]) (st' := [.ref a0]) (h' := (setF (setF h4 a0 0 (.int 0)) a0 1 (.int 0))) 1 (fun n => rfl) ?_
  obtain ⟨hq, hw⟩ := hw
  obtain ⟨x5, h6, hx, hw⟩ := hw
  refine zT_call (pc' := 22) (rest := []) 1 (fun n => rfl) hq hx ?_
  show zT E (d + 1) m_PutBy_choose 22 [some (.ref a0), none, none, none, none, none] [.int x5] h6 r
  refine zT_st (pc' := 24) (L' := [some (.ref a0), some (.int x5), none, none, none, none]) (st' := [.ref a0]) (h' := h6) 2 (fun n => rfl) ?_
  obtain ⟨hq, hw⟩ := hw
  obtain ⟨x7, h8, hx, hw⟩ := hw
  refine zT_call (pc' := 27) (rest := []) 1 (fun n => rfl) hq hx ?_
  show zT E (d + 1) m_PutBy_choose 27 [some (.ref a0), some (.int x5), none, none, none, none] [.int x7] h8 r
  refine zT_st (pc' := 31) (L' := [some (.ref a0), some (.int x5), some (.int x7), none, none, none]) (st' := [.int x7, .int x5, .ref a0]) (h' := h8) 4 (fun n => rfl) ?_
  obtain ⟨hq, hw⟩ := hw
  obtain ⟨x9, h10, hx, hw⟩ := hw
  refine zT_call (pc' := 34) (rest := []) 1 (fun n => rfl) hq hx ?_
  show zT E (d + 1) m_PutBy_choose 34 [some (.ref a0), some (.int x5), some (.int x7), none, none, none] [.int x9] h10 r
  exact zT_st 3 (fun n => rfl) hw
set_option maxRecDepth 4000 in
theorem s_PutBy_choose_38 (E : zX) (d : Nat) (a0 : Nat) (a1 : Int32) (a2 : Int32) (a3 : Int32) (a4 : Int32) (j5 : Option Value) (h : zH) (r : zO × zH)
    (hw : ∃ o1 : Nat, fld h a0 7 3 = some (.ref o1) ∧
    ∃ x2 : Int32, fld h o1 5 3 = some (.int x2) ∧
    if x2 ≤ a4 then (
      r = (.inl (none), h))
    else (
      ∃ o3 : Nat, fld h a0 7 2 = some (.ref o3) ∧
      ∃ (n4 : Nat) (f5 : Nat → Int32), arr h o3 = some (n4, f5) ∧ ¬ (a4 < 0 ∨ n4 ≤ (a4).toNatClampNeg) ∧
      if (a1 &&& (1 <<< (a4 &&& 31))) = 0 then (
        zT E (d + 1) m_PutBy_choose 38 [some (.ref a0), some (.int a1), some (.int a2), some (.int a3), some (.int (a4 + 1)), j5] [] (setA h o3 n4 (upd f5 (a4).toNatClampNeg (-1))) r)
      else (
        isO (setA h o3 n4 (upd f5 (a4).toNatClampNeg (-1))) a0 7 = true ∧ ∃ (x6 : Int32) (h7 : zH), zT E d m_PutBy_firstFor 0 [some (.ref a0), some (.int a4), some (.int (a1 &&& ((1 <<< (a4 &&& 31)) ^^^ (-1)))), some (.int a2), some (.int a3), none] [] (setA h o3 n4 (upd f5 (a4).toNatClampNeg (-1))) (.inl (some (.int x6)), h7) ∧
        if x6 = (-1) then (
          zT E (d + 1) m_PutBy_choose 38 [some (.ref a0), some (.int (a1 &&& ((1 <<< (a4 &&& 31)) ^^^ (-1)))), some (.int a2), some (.int a3), some (.int (a4 + 1)), some (.int x6)] [] h7 r)
        else (
          isO h7 a0 7 = true ∧ ∃ (h9 : zH), zT E d m_PutBy_take 0 [some (.ref a0), some (.int a4), some (.int x6)] [] h7 (.inl none, h9) ∧
          isO h9 a0 7 = true ∧ ∃ (x10 : Int32) (h11 : zH), zT E d m_PutBy_worthOf 0 [some (.ref a0), some (.int x6)] [] h9 (.inl (some (.int x10)), h11) ∧
          zT E (d + 1) m_PutBy_choose 38 [some (.ref a0), some (.int (a1 &&& ((1 <<< (a4 &&& 31)) ^^^ (-1)))), some (.int (a2 &&& ((1 <<< (x6 &&& 31)) ^^^ (-1)))), some (.int (a3 - x10)), some (.int (a4 + 1)), some (.int x6)] [] h11 r)))) :
    zT E (d + 1) m_PutBy_choose 38 [some (.ref a0), some (.int a1), some (.int a2), some (.int a3), some (.int a4), j5] [] h r := by
  refine zT_st (pc' := 41) (L' := [some (.ref a0), some (.int a1), some (.int a2), some (.int a3), some (.int a4), j5]) (st' := [.ref a0, .int a4]) (h' := h) 2 (fun n => rfl) ?_
  obtain ⟨o1, e, hw⟩ := hw
  refine zT_st (pc' := 44) (L' := [some (.ref a0), some (.int a1), some (.int a2), some (.int a3), some (.int a4), j5]) (st' := [.ref o1, .int a4]) (h' := h) 1 (fun n => fld_eq (E := E) e _) ?_
  obtain ⟨x2, e, hw⟩ := hw
  refine zT_st (pc' := 47) (L' := [some (.ref a0), some (.int a1), some (.int a2), some (.int a3), some (.int a4), j5]) (st' := [.int x2, .int a4]) (h' := h) 1 (fun n => fld_eq (E := E) e _) ?_
  by_cases hc : x2 ≤ a4
  · rw [if_pos hc] at hw
    refine zT_st (pc' := 125) (L' := [some (.ref a0), some (.int a1), some (.int a2), some (.int a3), some (.int a4), j5]) (st' := []) (h' := h) 1 (fun n => if_pos hc) ?_
    subst hw
    exact zT_ret 1 rfl
  · rw [if_neg hc] at hw
    refine zT_st (pc' := 50) (L' := [some (.ref a0), some (.int a1), some (.int a2), some (.int a3), some (.int a4), j5]) (st' := []) (h' := h) 1 (fun n => if_neg hc) ?_
    refine zT_st (pc' := 51) (L' := [some (.ref a0), some (.int a1), some (.int a2), some (.int a3), some (.int a4), j5]) (st' := [.ref a0]) (h' := h) 1 (fun n => rfl) ?_
    obtain ⟨o3, e, hw⟩ := hw
    refine zT_st (pc' := 54) (L' := [some (.ref a0), some (.int a1), some (.int a2), some (.int a3), some (.int a4), j5]) (st' := [.ref o3]) (h' := h) 1 (fun n => fld_eq (E := E) e _) ?_
    refine zT_st (pc' := 57) (L' := [some (.ref a0), some (.int a1), some (.int a2), some (.int a3), some (.int a4), j5]) (st' := [.int (-1), .int a4, .ref o3]) (h' := h) 2 (fun n => rfl) ?_
    obtain ⟨n4, f5, e, hi, hw⟩ := hw
    refine zT_st (pc' := 58) (L' := [some (.ref a0), some (.int a1), some (.int a2), some (.int a3), some (.int a4), j5]) (st' := []) (h' := (setA h o3 n4 (upd f5 (a4).toNatClampNeg (-1)))) 1 (fun n => set_eq e hi _ _) ?_
    refine zT_st (pc' := 64) (L' := [some (.ref a0), some (.int a1), some (.int a2), some (.int a3), some (.int a4), j5]) (st' := [.int (a1 &&& (1 <<< (a4 &&& 31)))]) (h' := (setA h o3 n4 (upd f5 (a4).toNatClampNeg (-1)))) 5 (fun n => rfl) ?_
    by_cases hc : (a1 &&& (1 <<< (a4 &&& 31))) = 0
    · rw [if_pos hc] at hw
      refine zT_st (pc' := 119) (L' := [some (.ref a0), some (.int a1), some (.int a2), some (.int a3), some (.int a4), j5]) (st' := []) (h' := (setA h o3 n4 (upd f5 (a4).toNatClampNeg (-1)))) 1 (fun n => if_pos hc) ?_
      exact zT_st 2 (fun n => rfl) hw
    · rw [if_neg hc] at hw
      refine zT_st (pc' := 67) (L' := [some (.ref a0), some (.int a1), some (.int a2), some (.int a3), some (.int a4), j5]) (st' := []) (h' := (setA h o3 n4 (upd f5 (a4).toNatClampNeg (-1)))) 1 (fun n => if_neg hc) ?_
      refine zT_st (pc' := 82) (L' := [some (.ref a0), some (.int (a1 &&& ((1 <<< (a4 &&& 31)) ^^^ (-1)))), some (.int a2), some (.int a3), some (.int a4), j5]) (st' := [.int a3, .int a2, .int (a1 &&& ((1 <<< (a4 &&& 31)) ^^^ (-1))), .int a4, .ref a0]) (h' := (setA h o3 n4 (upd f5 (a4).toNatClampNeg (-1)))) 13 (fun n => rfl) ?_
      obtain ⟨hq, hw⟩ := hw
      obtain ⟨x6, h7, hx, hw⟩ := hw
      refine zT_call (pc' := 85) (rest := []) 1 (fun n => rfl) hq hx ?_
      show zT E (d + 1) m_PutBy_choose 85 [some (.ref a0), some (.int (a1 &&& ((1 <<< (a4 &&& 31)) ^^^ (-1)))), some (.int a2), some (.int a3), some (.int a4), j5] [.int x6] h7 r
      refine zT_st (pc' := 90) (L' := [some (.ref a0), some (.int (a1 &&& ((1 <<< (a4 &&& 31)) ^^^ (-1)))), some (.int a2), some (.int a3), some (.int a4), some (.int x6)]) (st' := [.int (-1), .int x6]) (h' := h7) 3 (fun n => rfl) ?_
      by_cases hc : x6 = (-1)
      · rw [if_pos hc] at hw
        refine zT_st (pc' := 119) (L' := [some (.ref a0), some (.int (a1 &&& ((1 <<< (a4 &&& 31)) ^^^ (-1)))), some (.int a2), some (.int a3), some (.int a4), some (.int x6)]) (st' := []) (h' := h7) 1 (fun n => if_pos hc) ?_
        exact zT_st 2 (fun n => rfl) hw
      · rw [if_neg hc] at hw
        refine zT_st (pc' := 93) (L' := [some (.ref a0), some (.int (a1 &&& ((1 <<< (a4 &&& 31)) ^^^ (-1)))), some (.int a2), some (.int a3), some (.int a4), some (.int x6)]) (st' := []) (h' := h7) 1 (fun n => if_neg hc) ?_
        refine zT_st (pc' := 98) (L' := [some (.ref a0), some (.int (a1 &&& ((1 <<< (a4 &&& 31)) ^^^ (-1)))), some (.int a2), some (.int a3), some (.int a4), some (.int x6)]) (st' := [.int x6, .int a4, .ref a0]) (h' := h7) 3 (fun n => rfl) ?_
        obtain ⟨hq, hw⟩ := hw
        obtain ⟨h9, hx, hw⟩ := hw
        refine zT_call (pc' := 101) (rest := []) 1 (fun n => rfl) hq hx ?_
        show zT E (d + 1) m_PutBy_choose 101 [some (.ref a0), some (.int (a1 &&& ((1 <<< (a4 &&& 31)) ^^^ (-1)))), some (.int a2), some (.int a3), some (.int a4), some (.int x6)] [] h9 r
        refine zT_st (pc' := 114) (L' := [some (.ref a0), some (.int (a1 &&& ((1 <<< (a4 &&& 31)) ^^^ (-1)))), some (.int (a2 &&& ((1 <<< (x6 &&& 31)) ^^^ (-1)))), some (.int a3), some (.int a4), some (.int x6)]) (st' := [.int x6, .ref a0, .int a3]) (h' := h9) 11 (fun n => rfl) ?_
        obtain ⟨hq, hw⟩ := hw
        obtain ⟨x10, h11, hx, hw⟩ := hw
        refine zT_call (pc' := 117) (rest := [.int a3]) 1 (fun n => rfl) hq hx ?_
        show zT E (d + 1) m_PutBy_choose 117 [some (.ref a0), some (.int (a1 &&& ((1 <<< (a4 &&& 31)) ^^^ (-1)))), some (.int (a2 &&& ((1 <<< (x6 &&& 31)) ^^^ (-1)))), some (.int a3), some (.int a4), some (.int x6)] [.int x10, .int a3] h11 r
        exact zT_st 4 (fun n => rfl) hw
set_option maxRecDepth 4000 in
theorem s_PutBy_sortPeople_0 (E : zX) (d : Nat) (a0 : Nat) (h : zH) (r : zO × zH)
    (hw : zT E (d + 1) m_PutBy_sortPeople 2 [some (.ref a0), some (.int 0), none] [] h r) :
    zT E (d + 1) m_PutBy_sortPeople 0 [some (.ref a0), none, none] [] h r := by
  exact zT_st 2 (fun n => rfl) hw
set_option maxRecDepth 4000 in
theorem s_PutBy_sortPeople_2 (E : zX) (d : Nat) (a0 : Nat) (a1 : Int32) (j2 : Option Value) (h : zH) (r : zO × zH)
    (hw : ∃ o1 : Nat, fld h a0 7 3 = some (.ref o1) ∧
    ∃ x2 : Int32, fld h o1 5 3 = some (.int x2) ∧
    if x2 ≤ a1 then (
      r = (.inl (none), h))
    else (
      zT E (d + 1) m_PutBy_sortPeople 15 [some (.ref a0), some (.int a1), some (.int a1)] [] h r)) :
    zT E (d + 1) m_PutBy_sortPeople 2 [some (.ref a0), some (.int a1), j2] [] h r := by
  refine zT_st (pc' := 4) (L' := [some (.ref a0), some (.int a1), j2]) (st' := [.ref a0, .int a1]) (h' := h) 2 (fun n => rfl) ?_
  obtain ⟨o1, e, hw⟩ := hw
  refine zT_st (pc' := 7) (L' := [some (.ref a0), some (.int a1), j2]) (st' := [.ref o1, .int a1]) (h' := h) 1 (fun n => fld_eq (E := E) e _) ?_
  obtain ⟨x2, e, hw⟩ := hw
  refine zT_st (pc' := 10) (L' := [some (.ref a0), some (.int a1), j2]) (st' := [.int x2, .int a1]) (h' := h) 1 (fun n => fld_eq (E := E) e _) ?_
  by_cases hc : x2 ≤ a1
  · rw [if_pos hc] at hw
    refine zT_st (pc' := 78) (L' := [some (.ref a0), some (.int a1), j2]) (st' := []) (h' := h) 1 (fun n => if_pos hc) ?_
    subst hw
    exact zT_ret 1 rfl
  · rw [if_neg hc] at hw
    refine zT_st (pc' := 13) (L' := [some (.ref a0), some (.int a1), j2]) (st' := []) (h' := h) 1 (fun n => if_neg hc) ?_
    exact zT_st 2 (fun n => rfl) hw
set_option maxRecDepth 4000 in
theorem s_PutBy_sortPeople_15 (E : zX) (d : Nat) (a0 : Nat) (a1 : Int32) (a2 : Int32) (h : zH) (r : zO × zH)
    (hw : if a2 ≤ 0 then (
      ∃ o1 : Nat, fld h a0 7 5 = some (.ref o1) ∧
      ∃ (n2 : Nat) (f3 : Nat → Int32), arr h o1 = some (n2, f3) ∧ ¬ (a2 < 0 ∨ n2 ≤ (a2).toNatClampNeg) ∧
      zT E (d + 1) m_PutBy_sortPeople 2 [some (.ref a0), some (.int (a1 + 1)), some (.int a2)] [] (setA h o1 n2 (upd f3 (a2).toNatClampNeg a1)) r)
    else (
      ∃ o4 : Nat, fld h a0 7 4 = some (.ref o4) ∧
      ∃ o5 : Nat, fld h a0 7 5 = some (.ref o5) ∧
      ∃ (n6 : Nat) (f7 : Nat → Int32), arr h o5 = some (n6, f7) ∧ ¬ ((a2 - 1) < 0 ∨ n6 ≤ ((a2 - 1)).toNatClampNeg) ∧
      isO h o4 10 = true ∧ ∃ (x8 : Int32) (h9 : zH), zT E d m_Scene_temperOf 0 [some (.ref o4), some (.int (f7 ((a2 - 1)).toNatClampNeg))] [] h (.inl (some (.int x8)), h9) ∧
      ∃ o10 : Nat, fld h9 a0 7 4 = some (.ref o10) ∧
      isO h9 o10 10 = true ∧ ∃ (x11 : Int32) (h12 : zH), zT E d m_Scene_temperOf 0 [some (.ref o10), some (.int a1)] [] h9 (.inl (some (.int x11)), h12) ∧
      if x8 ≤ x11 then (
        ∃ o13 : Nat, fld h12 a0 7 5 = some (.ref o13) ∧
        ∃ (n14 : Nat) (f15 : Nat → Int32), arr h12 o13 = some (n14, f15) ∧ ¬ (a2 < 0 ∨ n14 ≤ (a2).toNatClampNeg) ∧
        zT E (d + 1) m_PutBy_sortPeople 2 [some (.ref a0), some (.int (a1 + 1)), some (.int a2)] [] (setA h12 o13 n14 (upd f15 (a2).toNatClampNeg a1)) r)
      else (
        ∃ o16 : Nat, fld h12 a0 7 5 = some (.ref o16) ∧
        ∃ o17 : Nat, fld h12 a0 7 5 = some (.ref o17) ∧
        ∃ (n18 : Nat) (f19 : Nat → Int32), arr h12 o17 = some (n18, f19) ∧ ¬ ((a2 - 1) < 0 ∨ n18 ≤ ((a2 - 1)).toNatClampNeg) ∧
        ∃ (n20 : Nat) (f21 : Nat → Int32), arr h12 o16 = some (n20, f21) ∧ ¬ (a2 < 0 ∨ n20 ≤ (a2).toNatClampNeg) ∧
        zT E (d + 1) m_PutBy_sortPeople 15 [some (.ref a0), some (.int a1), some (.int (a2 + (-1)))] [] (setA h12 o16 n20 (upd f21 (a2).toNatClampNeg (f19 ((a2 - 1)).toNatClampNeg))) r))) :
    zT E (d + 1) m_PutBy_sortPeople 15 [some (.ref a0), some (.int a1), some (.int a2)] [] h r := by
  refine zT_st (pc' := 16) (L' := [some (.ref a0), some (.int a1), some (.int a2)]) (st' := [.int a2]) (h' := h) 1 (fun n => rfl) ?_
  by_cases hc : a2 ≤ 0
  · rw [if_pos hc] at hw
    refine zT_st (pc' := 65) (L' := [some (.ref a0), some (.int a1), some (.int a2)]) (st' := []) (h' := h) 1 (fun n => if_pos hc) ?_
    refine zT_st (pc' := 66) (L' := [some (.ref a0), some (.int a1), some (.int a2)]) (st' := [.ref a0]) (h' := h) 1 (fun n => rfl) ?_
    obtain ⟨o1, e, hw⟩ := hw
    refine zT_st (pc' := 69) (L' := [some (.ref a0), some (.int a1), some (.int a2)]) (st' := [.ref o1]) (h' := h) 1 (fun n => fld_eq (E := E) e _) ?_
    refine zT_st (pc' := 71) (L' := [some (.ref a0), some (.int a1), some (.int a2)]) (st' := [.int a1, .int a2, .ref o1]) (h' := h) 2 (fun n => rfl) ?_
    obtain ⟨n2, f3, e, hi, hw⟩ := hw
    refine zT_st (pc' := 72) (L' := [some (.ref a0), some (.int a1), some (.int a2)]) (st' := []) (h' := (setA h o1 n2 (upd f3 (a2).toNatClampNeg a1))) 1 (fun n => set_eq e hi _ _) ?_
    exact zT_st 2 (fun n => rfl) hw
  · rw [if_neg hc] at hw
    refine zT_st (pc' := 19) (L' := [some (.ref a0), some (.int a1), some (.int a2)]) (st' := []) (h' := h) 1 (fun n => if_neg hc) ?_
    refine zT_st (pc' := 20) (L' := [some (.ref a0), some (.int a1), some (.int a2)]) (st' := [.ref a0]) (h' := h) 1 (fun n => rfl) ?_
    obtain ⟨o4, e, hw⟩ := hw
    refine zT_st (pc' := 23) (L' := [some (.ref a0), some (.int a1), some (.int a2)]) (st' := [.ref o4]) (h' := h) 1 (fun n => fld_eq (E := E) e _) ?_
    refine zT_st (pc' := 24) (L' := [some (.ref a0), some (.int a1), some (.int a2)]) (st' := [.ref a0, .ref o4]) (h' := h) 1 (fun n => rfl) ?_
    obtain ⟨o5, e, hw⟩ := hw
    refine zT_st (pc' := 27) (L' := [some (.ref a0), some (.int a1), some (.int a2)]) (st' := [.ref o5, .ref o4]) (h' := h) 1 (fun n => fld_eq (E := E) e _) ?_
    refine zT_st (pc' := 30) (L' := [some (.ref a0), some (.int a1), some (.int a2)]) (st' := [.int (a2 - 1), .ref o5, .ref o4]) (h' := h) 3 (fun n => rfl) ?_
    obtain ⟨n6, f7, e, hi, hw⟩ := hw
    refine zT_st (pc' := 31) (L' := [some (.ref a0), some (.int a1), some (.int a2)]) (st' := [.int (f7 ((a2 - 1)).toNatClampNeg), .ref o4]) (h' := h) 1 (fun n => arr_eq (E := E) e hi [.ref o4] (fun st => zrun zP zCd E n (d + 1) m_PutBy_sortPeople 31 [some (.ref a0), some (.int a1), some (.int a2)] st h)) ?_
    obtain ⟨hq, hw⟩ := hw
    obtain ⟨x8, h9, hx, hw⟩ := hw
    refine zT_call (pc' := 34) (rest := []) 1 (fun n => rfl) hq hx ?_
    show zT E (d + 1) m_PutBy_sortPeople 34 [some (.ref a0), some (.int a1), some (.int a2)] [.int x8] h9 r
    refine zT_st (pc' := 35) (L' := [some (.ref a0), some (.int a1), some (.int a2)]) (st' := [.ref a0, .int x8]) (h' := h9) 1 (fun n => rfl) ?_
    obtain ⟨o10, e, hw⟩ := hw
    refine zT_st (pc' := 38) (L' := [some (.ref a0), some (.int a1), some (.int a2)]) (st' := [.ref o10, .int x8]) (h' := h9) 1 (fun n => fld_eq (E := E) e _) ?_
    refine zT_st (pc' := 39) (L' := [some (.ref a0), some (.int a1), some (.int a2)]) (st' := [.int a1, .ref o10, .int x8]) (h' := h9) 1 (fun n => rfl) ?_
    obtain ⟨hq, hw⟩ := hw
    obtain ⟨x11, h12, hx, hw⟩ := hw
    refine zT_call (pc' := 42) (rest := [.int x8]) 1 (fun n => rfl) hq hx ?_
    show zT E (d + 1) m_PutBy_sortPeople 42 [some (.ref a0), some (.int a1), some (.int a2)] [.int x11, .int x8] h12 r
    by_cases hc : x8 ≤ x11
    · rw [if_pos hc] at hw
      refine zT_st (pc' := 65) (L' := [some (.ref a0), some (.int a1), some (.int a2)]) (st' := []) (h' := h12) 1 (fun n => if_pos hc) ?_
      refine zT_st (pc' := 66) (L' := [some (.ref a0), some (.int a1), some (.int a2)]) (st' := [.ref a0]) (h' := h12) 1 (fun n => rfl) ?_
      obtain ⟨o13, e, hw⟩ := hw
      refine zT_st (pc' := 69) (L' := [some (.ref a0), some (.int a1), some (.int a2)]) (st' := [.ref o13]) (h' := h12) 1 (fun n => fld_eq (E := E) e _) ?_
      refine zT_st (pc' := 71) (L' := [some (.ref a0), some (.int a1), some (.int a2)]) (st' := [.int a1, .int a2, .ref o13]) (h' := h12) 2 (fun n => rfl) ?_
      obtain ⟨n14, f15, e, hi, hw⟩ := hw
      refine zT_st (pc' := 72) (L' := [some (.ref a0), some (.int a1), some (.int a2)]) (st' := []) (h' := (setA h12 o13 n14 (upd f15 (a2).toNatClampNeg a1))) 1 (fun n => set_eq e hi _ _) ?_
      exact zT_st 2 (fun n => rfl) hw
    · rw [if_neg hc] at hw
      refine zT_st (pc' := 45) (L' := [some (.ref a0), some (.int a1), some (.int a2)]) (st' := []) (h' := h12) 1 (fun n => if_neg hc) ?_
      refine zT_st (pc' := 46) (L' := [some (.ref a0), some (.int a1), some (.int a2)]) (st' := [.ref a0]) (h' := h12) 1 (fun n => rfl) ?_
      obtain ⟨o16, e, hw⟩ := hw
      refine zT_st (pc' := 49) (L' := [some (.ref a0), some (.int a1), some (.int a2)]) (st' := [.ref o16]) (h' := h12) 1 (fun n => fld_eq (E := E) e _) ?_
      refine zT_st (pc' := 51) (L' := [some (.ref a0), some (.int a1), some (.int a2)]) (st' := [.ref a0, .int a2, .ref o16]) (h' := h12) 2 (fun n => rfl) ?_
      obtain ⟨o17, e, hw⟩ := hw
      refine zT_st (pc' := 54) (L' := [some (.ref a0), some (.int a1), some (.int a2)]) (st' := [.ref o17, .int a2, .ref o16]) (h' := h12) 1 (fun n => fld_eq (E := E) e _) ?_
      refine zT_st (pc' := 57) (L' := [some (.ref a0), some (.int a1), some (.int a2)]) (st' := [.int (a2 - 1), .ref o17, .int a2, .ref o16]) (h' := h12) 3 (fun n => rfl) ?_
      obtain ⟨n18, f19, e, hi, hw⟩ := hw
      refine zT_st (pc' := 58) (L' := [some (.ref a0), some (.int a1), some (.int a2)]) (st' := [.int (f19 ((a2 - 1)).toNatClampNeg), .int a2, .ref o16]) (h' := h12) 1 (fun n => arr_eq (E := E) e hi [.int a2, .ref o16] (fun st => zrun zP zCd E n (d + 1) m_PutBy_sortPeople 58 [some (.ref a0), some (.int a1), some (.int a2)] st h12)) ?_
      obtain ⟨n20, f21, e, hi, hw⟩ := hw
      refine zT_st (pc' := 59) (L' := [some (.ref a0), some (.int a1), some (.int a2)]) (st' := []) (h' := (setA h12 o16 n20 (upd f21 (a2).toNatClampNeg (f19 ((a2 - 1)).toNatClampNeg)))) 1 (fun n => set_eq e hi _ _) ?_
      exact zT_st 2 (fun n => rfl) hw
set_option maxRecDepth 4000 in
theorem s_PutBy_sortBalls_0 (E : zX) (d : Nat) (a0 : Nat) (h : zH) (r : zO × zH)
    (hw : zT E d m_PutBy_sortBalls 2 [some (.ref a0), some (.int 0), none] [] h r) :
    zT E d m_PutBy_sortBalls 0 [some (.ref a0), none, none] [] h r := by
  exact zT_st 2 (fun n => rfl) hw
set_option maxRecDepth 4000 in
theorem s_PutBy_sortBalls_2 (E : zX) (d : Nat) (a0 : Nat) (a1 : Int32) (j2 : Option Value) (h : zH) (r : zO × zH)
    (hw : ∃ o1 : Nat, fld h a0 7 3 = some (.ref o1) ∧
    ∃ x2 : Int32, fld h o1 5 4 = some (.int x2) ∧
    if x2 ≤ a1 then (
      r = (.inl (none), h))
    else (
      zT E d m_PutBy_sortBalls 15 [some (.ref a0), some (.int a1), some (.int a1)] [] h r)) :
    zT E d m_PutBy_sortBalls 2 [some (.ref a0), some (.int a1), j2] [] h r := by
  refine zT_st (pc' := 4) (L' := [some (.ref a0), some (.int a1), j2]) (st' := [.ref a0, .int a1]) (h' := h) 2 (fun n => rfl) ?_
  obtain ⟨o1, e, hw⟩ := hw
  refine zT_st (pc' := 7) (L' := [some (.ref a0), some (.int a1), j2]) (st' := [.ref o1, .int a1]) (h' := h) 1 (fun n => fld_eq (E := E) e _) ?_
  obtain ⟨x2, e, hw⟩ := hw
  refine zT_st (pc' := 10) (L' := [some (.ref a0), some (.int a1), j2]) (st' := [.int x2, .int a1]) (h' := h) 1 (fun n => fld_eq (E := E) e _) ?_
  by_cases hc : x2 ≤ a1
  · rw [if_pos hc] at hw
    refine zT_st (pc' := 80) (L' := [some (.ref a0), some (.int a1), j2]) (st' := []) (h' := h) 1 (fun n => if_pos hc) ?_
    subst hw
    exact zT_ret 1 rfl
  · rw [if_neg hc] at hw
    refine zT_st (pc' := 13) (L' := [some (.ref a0), some (.int a1), j2]) (st' := []) (h' := h) 1 (fun n => if_neg hc) ?_
    exact zT_st 2 (fun n => rfl) hw
set_option maxRecDepth 4000 in
theorem s_PutBy_sortBalls_15 (E : zX) (d : Nat) (a0 : Nat) (a1 : Int32) (a2 : Int32) (h : zH) (r : zO × zH)
    (hw : if a2 ≤ 0 then (
      ∃ o1 : Nat, fld h a0 7 6 = some (.ref o1) ∧
      ∃ (n2 : Nat) (f3 : Nat → Int32), arr h o1 = some (n2, f3) ∧ ¬ (a2 < 0 ∨ n2 ≤ (a2).toNatClampNeg) ∧
      zT E d m_PutBy_sortBalls 2 [some (.ref a0), some (.int (a1 + 1)), some (.int a2)] [] (setA h o1 n2 (upd f3 (a2).toNatClampNeg a1)) r)
    else (
      ∃ o4 : Nat, fld h a0 7 3 = some (.ref o4) ∧
      ∃ o5 : Nat, fld h o4 5 6 = some (.ref o5) ∧
      ∃ o6 : Nat, fld h a0 7 6 = some (.ref o6) ∧
      ∃ (n7 : Nat) (f8 : Nat → Int32), arr h o6 = some (n7, f8) ∧ ¬ ((a2 - 1) < 0 ∨ n7 ≤ ((a2 - 1)).toNatClampNeg) ∧
      ∃ (n9 : Nat) (f10 : Nat → Int32), arr h o5 = some (n9, f10) ∧ ¬ ((f8 ((a2 - 1)).toNatClampNeg) < 0 ∨ n9 ≤ ((f8 ((a2 - 1)).toNatClampNeg)).toNatClampNeg) ∧
      ∃ o11 : Nat, fld h a0 7 3 = some (.ref o11) ∧
      ∃ o12 : Nat, fld h o11 5 6 = some (.ref o12) ∧
      ∃ (n13 : Nat) (f14 : Nat → Int32), arr h o12 = some (n13, f14) ∧ ¬ (a1 < 0 ∨ n13 ≤ (a1).toNatClampNeg) ∧
      if (f10 ((f8 ((a2 - 1)).toNatClampNeg)).toNatClampNeg) ≤ (f14 (a1).toNatClampNeg) then (
        ∃ o15 : Nat, fld h a0 7 6 = some (.ref o15) ∧
        ∃ (n16 : Nat) (f17 : Nat → Int32), arr h o15 = some (n16, f17) ∧ ¬ (a2 < 0 ∨ n16 ≤ (a2).toNatClampNeg) ∧
        zT E d m_PutBy_sortBalls 2 [some (.ref a0), some (.int (a1 + 1)), some (.int a2)] [] (setA h o15 n16 (upd f17 (a2).toNatClampNeg a1)) r)
      else (
        ∃ o18 : Nat, fld h a0 7 6 = some (.ref o18) ∧
        ∃ o19 : Nat, fld h a0 7 6 = some (.ref o19) ∧
        ∃ (n20 : Nat) (f21 : Nat → Int32), arr h o19 = some (n20, f21) ∧ ¬ ((a2 - 1) < 0 ∨ n20 ≤ ((a2 - 1)).toNatClampNeg) ∧
        ∃ (n22 : Nat) (f23 : Nat → Int32), arr h o18 = some (n22, f23) ∧ ¬ (a2 < 0 ∨ n22 ≤ (a2).toNatClampNeg) ∧
        zT E d m_PutBy_sortBalls 15 [some (.ref a0), some (.int a1), some (.int (a2 + (-1)))] [] (setA h o18 n22 (upd f23 (a2).toNatClampNeg (f21 ((a2 - 1)).toNatClampNeg))) r))) :
    zT E d m_PutBy_sortBalls 15 [some (.ref a0), some (.int a1), some (.int a2)] [] h r := by
  refine zT_st (pc' := 16) (L' := [some (.ref a0), some (.int a1), some (.int a2)]) (st' := [.int a2]) (h' := h) 1 (fun n => rfl) ?_
  by_cases hc : a2 ≤ 0
  · rw [if_pos hc] at hw
    refine zT_st (pc' := 67) (L' := [some (.ref a0), some (.int a1), some (.int a2)]) (st' := []) (h' := h) 1 (fun n => if_pos hc) ?_
    refine zT_st (pc' := 68) (L' := [some (.ref a0), some (.int a1), some (.int a2)]) (st' := [.ref a0]) (h' := h) 1 (fun n => rfl) ?_
    obtain ⟨o1, e, hw⟩ := hw
    refine zT_st (pc' := 71) (L' := [some (.ref a0), some (.int a1), some (.int a2)]) (st' := [.ref o1]) (h' := h) 1 (fun n => fld_eq (E := E) e _) ?_
    refine zT_st (pc' := 73) (L' := [some (.ref a0), some (.int a1), some (.int a2)]) (st' := [.int a1, .int a2, .ref o1]) (h' := h) 2 (fun n => rfl) ?_
    obtain ⟨n2, f3, e, hi, hw⟩ := hw
    refine zT_st (pc' := 74) (L' := [some (.ref a0), some (.int a1), some (.int a2)]) (st' := []) (h' := (setA h o1 n2 (upd f3 (a2).toNatClampNeg a1))) 1 (fun n => set_eq e hi _ _) ?_
    exact zT_st 2 (fun n => rfl) hw
  · rw [if_neg hc] at hw
    refine zT_st (pc' := 19) (L' := [some (.ref a0), some (.int a1), some (.int a2)]) (st' := []) (h' := h) 1 (fun n => if_neg hc) ?_
    refine zT_st (pc' := 20) (L' := [some (.ref a0), some (.int a1), some (.int a2)]) (st' := [.ref a0]) (h' := h) 1 (fun n => rfl) ?_
    obtain ⟨o4, e, hw⟩ := hw
    refine zT_st (pc' := 23) (L' := [some (.ref a0), some (.int a1), some (.int a2)]) (st' := [.ref o4]) (h' := h) 1 (fun n => fld_eq (E := E) e _) ?_
    obtain ⟨o5, e, hw⟩ := hw
    refine zT_st (pc' := 26) (L' := [some (.ref a0), some (.int a1), some (.int a2)]) (st' := [.ref o5]) (h' := h) 1 (fun n => fld_eq (E := E) e _) ?_
    refine zT_st (pc' := 27) (L' := [some (.ref a0), some (.int a1), some (.int a2)]) (st' := [.ref a0, .ref o5]) (h' := h) 1 (fun n => rfl) ?_
    obtain ⟨o6, e, hw⟩ := hw
    refine zT_st (pc' := 30) (L' := [some (.ref a0), some (.int a1), some (.int a2)]) (st' := [.ref o6, .ref o5]) (h' := h) 1 (fun n => fld_eq (E := E) e _) ?_
    refine zT_st (pc' := 33) (L' := [some (.ref a0), some (.int a1), some (.int a2)]) (st' := [.int (a2 - 1), .ref o6, .ref o5]) (h' := h) 3 (fun n => rfl) ?_
    obtain ⟨n7, f8, e, hi, hw⟩ := hw
    refine zT_st (pc' := 34) (L' := [some (.ref a0), some (.int a1), some (.int a2)]) (st' := [.int (f8 ((a2 - 1)).toNatClampNeg), .ref o5]) (h' := h) 1 (fun n => arr_eq (E := E) e hi [.ref o5] (fun st => zrun zP zCd E n d m_PutBy_sortBalls 34 [some (.ref a0), some (.int a1), some (.int a2)] st h)) ?_
    obtain ⟨n9, f10, e, hi, hw⟩ := hw
    refine zT_st (pc' := 35) (L' := [some (.ref a0), some (.int a1), some (.int a2)]) (st' := [.int (f10 ((f8 ((a2 - 1)).toNatClampNeg)).toNatClampNeg)]) (h' := h) 1 (fun n => arr_eq (E := E) e hi [] (fun st => zrun zP zCd E n d m_PutBy_sortBalls 35 [some (.ref a0), some (.int a1), some (.int a2)] st h)) ?_
    refine zT_st (pc' := 36) (L' := [some (.ref a0), some (.int a1), some (.int a2)]) (st' := [.ref a0, .int (f10 ((f8 ((a2 - 1)).toNatClampNeg)).toNatClampNeg)]) (h' := h) 1 (fun n => rfl) ?_
    obtain ⟨o11, e, hw⟩ := hw
    refine zT_st (pc' := 39) (L' := [some (.ref a0), some (.int a1), some (.int a2)]) (st' := [.ref o11, .int (f10 ((f8 ((a2 - 1)).toNatClampNeg)).toNatClampNeg)]) (h' := h) 1 (fun n => fld_eq (E := E) e _) ?_
    obtain ⟨o12, e, hw⟩ := hw
    refine zT_st (pc' := 42) (L' := [some (.ref a0), some (.int a1), some (.int a2)]) (st' := [.ref o12, .int (f10 ((f8 ((a2 - 1)).toNatClampNeg)).toNatClampNeg)]) (h' := h) 1 (fun n => fld_eq (E := E) e _) ?_
    refine zT_st (pc' := 43) (L' := [some (.ref a0), some (.int a1), some (.int a2)]) (st' := [.int a1, .ref o12, .int (f10 ((f8 ((a2 - 1)).toNatClampNeg)).toNatClampNeg)]) (h' := h) 1 (fun n => rfl) ?_
    obtain ⟨n13, f14, e, hi, hw⟩ := hw
    refine zT_st (pc' := 44) (L' := [some (.ref a0), some (.int a1), some (.int a2)]) (st' := [.int (f14 (a1).toNatClampNeg), .int (f10 ((f8 ((a2 - 1)).toNatClampNeg)).toNatClampNeg)]) (h' := h) 1 (fun n => arr_eq (E := E) e hi [.int (f10 ((f8 ((a2 - 1)).toNatClampNeg)).toNatClampNeg)] (fun st => zrun zP zCd E n d m_PutBy_sortBalls 44 [some (.ref a0), some (.int a1), some (.int a2)] st h)) ?_
    by_cases hc : (f10 ((f8 ((a2 - 1)).toNatClampNeg)).toNatClampNeg) ≤ (f14 (a1).toNatClampNeg)
    · rw [if_pos hc] at hw
      refine zT_st (pc' := 67) (L' := [some (.ref a0), some (.int a1), some (.int a2)]) (st' := []) (h' := h) 1 (fun n => if_pos hc) ?_
      refine zT_st (pc' := 68) (L' := [some (.ref a0), some (.int a1), some (.int a2)]) (st' := [.ref a0]) (h' := h) 1 (fun n => rfl) ?_
      obtain ⟨o15, e, hw⟩ := hw
      refine zT_st (pc' := 71) (L' := [some (.ref a0), some (.int a1), some (.int a2)]) (st' := [.ref o15]) (h' := h) 1 (fun n => fld_eq (E := E) e _) ?_
      refine zT_st (pc' := 73) (L' := [some (.ref a0), some (.int a1), some (.int a2)]) (st' := [.int a1, .int a2, .ref o15]) (h' := h) 2 (fun n => rfl) ?_
      obtain ⟨n16, f17, e, hi, hw⟩ := hw
      refine zT_st (pc' := 74) (L' := [some (.ref a0), some (.int a1), some (.int a2)]) (st' := []) (h' := (setA h o15 n16 (upd f17 (a2).toNatClampNeg a1))) 1 (fun n => set_eq e hi _ _) ?_
      exact zT_st 2 (fun n => rfl) hw
    · rw [if_neg hc] at hw
      refine zT_st (pc' := 47) (L' := [some (.ref a0), some (.int a1), some (.int a2)]) (st' := []) (h' := h) 1 (fun n => if_neg hc) ?_
      refine zT_st (pc' := 48) (L' := [some (.ref a0), some (.int a1), some (.int a2)]) (st' := [.ref a0]) (h' := h) 1 (fun n => rfl) ?_
      obtain ⟨o18, e, hw⟩ := hw
      refine zT_st (pc' := 51) (L' := [some (.ref a0), some (.int a1), some (.int a2)]) (st' := [.ref o18]) (h' := h) 1 (fun n => fld_eq (E := E) e _) ?_
      refine zT_st (pc' := 53) (L' := [some (.ref a0), some (.int a1), some (.int a2)]) (st' := [.ref a0, .int a2, .ref o18]) (h' := h) 2 (fun n => rfl) ?_
      obtain ⟨o19, e, hw⟩ := hw
      refine zT_st (pc' := 56) (L' := [some (.ref a0), some (.int a1), some (.int a2)]) (st' := [.ref o19, .int a2, .ref o18]) (h' := h) 1 (fun n => fld_eq (E := E) e _) ?_
      refine zT_st (pc' := 59) (L' := [some (.ref a0), some (.int a1), some (.int a2)]) (st' := [.int (a2 - 1), .ref o19, .int a2, .ref o18]) (h' := h) 3 (fun n => rfl) ?_
      obtain ⟨n20, f21, e, hi, hw⟩ := hw
      refine zT_st (pc' := 60) (L' := [some (.ref a0), some (.int a1), some (.int a2)]) (st' := [.int (f21 ((a2 - 1)).toNatClampNeg), .int a2, .ref o18]) (h' := h) 1 (fun n => arr_eq (E := E) e hi [.int a2, .ref o18] (fun st => zrun zP zCd E n d m_PutBy_sortBalls 60 [some (.ref a0), some (.int a1), some (.int a2)] st h)) ?_
      obtain ⟨n22, f23, e, hi, hw⟩ := hw
      refine zT_st (pc' := 61) (L' := [some (.ref a0), some (.int a1), some (.int a2)]) (st' := []) (h' := (setA h o18 n22 (upd f23 (a2).toNatClampNeg (f21 ((a2 - 1)).toNatClampNeg)))) 1 (fun n => set_eq e hi _ _) ?_
      exact zT_st 2 (fun n => rfl) hw
set_option maxRecDepth 4000 in
theorem s_PutBy_crossPeople_0 (E : zX) (d : Nat) (a0 : Nat) (h : zH) (r : zO × zH)
    (hw : zT E (d + 1) m_PutBy_crossPeople 4 [some (.ref a0), some (.int 0), some (.int 0)] [] h r) :
    zT E (d + 1) m_PutBy_crossPeople 0 [some (.ref a0), none, none] [] h r := by
  exact zT_st 4 (fun n => rfl) hw
set_option maxRecDepth 4000 in
theorem s_PutBy_crossPeople_4 (E : zX) (d : Nat) (a0 : Nat) (a1 : Int32) (a2 : Int32) (h : zH) (r : zO × zH)
    (hw : ∃ o1 : Nat, fld h a0 7 3 = some (.ref o1) ∧
    ∃ x2 : Int32, fld h o1 5 3 = some (.int x2) ∧
    if x2 ≤ a2 then (
      r = (.inl (some (.int a1)), h))
    else (
      ∃ o3 : Nat, fld h a0 7 4 = some (.ref o3) ∧
      isO h o3 10 = true ∧ ∃ (x4 : Int32) (h5 : zH), zT E d m_Scene_temperOf 0 [some (.ref o3), some (.int a2)] [] h (.inl (some (.int x4)), h5) ∧
      if x4 ≤ 0 then (
        zT E (d + 1) m_PutBy_crossPeople 4 [some (.ref a0), some (.int a1), some (.int (a2 + 1))] [] h5 r)
      else (
        zT E (d + 1) m_PutBy_crossPeople 4 [some (.ref a0), some (.int (a1 ||| (1 <<< (a2 &&& 31)))), some (.int (a2 + 1))] [] h5 r))) :
    zT E (d + 1) m_PutBy_crossPeople 4 [some (.ref a0), some (.int a1), some (.int a2)] [] h r := by
  refine zT_st (pc' := 6) (L' := [some (.ref a0), some (.int a1), some (.int a2)]) (st' := [.ref a0, .int a2]) (h' := h) 2 (fun n => rfl) ?_
  obtain ⟨o1, e, hw⟩ := hw
  refine zT_st (pc' := 9) (L' := [some (.ref a0), some (.int a1), some (.int a2)]) (st' := [.ref o1, .int a2]) (h' := h) 1 (fun n => fld_eq (E := E) e _) ?_
  obtain ⟨x2, e, hw⟩ := hw
  refine zT_st (pc' := 12) (L' := [some (.ref a0), some (.int a1), some (.int a2)]) (st' := [.int x2, .int a2]) (h' := h) 1 (fun n => fld_eq (E := E) e _) ?_
  by_cases hc : x2 ≤ a2
  · rw [if_pos hc] at hw
    refine zT_st (pc' := 38) (L' := [some (.ref a0), some (.int a1), some (.int a2)]) (st' := []) (h' := h) 1 (fun n => if_pos hc) ?_
    subst hw
    exact zT_ret 2 rfl
  · rw [if_neg hc] at hw
    refine zT_st (pc' := 15) (L' := [some (.ref a0), some (.int a1), some (.int a2)]) (st' := []) (h' := h) 1 (fun n => if_neg hc) ?_
    refine zT_st (pc' := 16) (L' := [some (.ref a0), some (.int a1), some (.int a2)]) (st' := [.ref a0]) (h' := h) 1 (fun n => rfl) ?_
    obtain ⟨o3, e, hw⟩ := hw
    refine zT_st (pc' := 19) (L' := [some (.ref a0), some (.int a1), some (.int a2)]) (st' := [.ref o3]) (h' := h) 1 (fun n => fld_eq (E := E) e _) ?_
    refine zT_st (pc' := 20) (L' := [some (.ref a0), some (.int a1), some (.int a2)]) (st' := [.int a2, .ref o3]) (h' := h) 1 (fun n => rfl) ?_
    obtain ⟨hq, hw⟩ := hw
    obtain ⟨x4, h5, hx, hw⟩ := hw
    refine zT_call (pc' := 23) (rest := []) 1 (fun n => rfl) hq hx ?_
    show zT E (d + 1) m_PutBy_crossPeople 23 [some (.ref a0), some (.int a1), some (.int a2)] [.int x4] h5 r
    by_cases hc : x4 ≤ 0
    · rw [if_pos hc] at hw
      refine zT_st (pc' := 32) (L' := [some (.ref a0), some (.int a1), some (.int a2)]) (st' := []) (h' := h5) 1 (fun n => if_pos hc) ?_
      exact zT_st 2 (fun n => rfl) hw
    · rw [if_neg hc] at hw
      refine zT_st (pc' := 26) (L' := [some (.ref a0), some (.int a1), some (.int a2)]) (st' := []) (h' := h5) 1 (fun n => if_neg hc) ?_
      exact zT_st 8 (fun n => rfl) hw
set_option maxRecDepth 4000 in
theorem s_PutBy_whiteBalls_0 (E : zX) (d : Nat) (a0 : Nat) (h : zH) (r : zO × zH)
    (hw : zT E (d + 1) m_PutBy_whiteBalls 4 [some (.ref a0), some (.int 0), some (.int 0)] [] h r) :
    zT E (d + 1) m_PutBy_whiteBalls 0 [some (.ref a0), none, none] [] h r := by
  exact zT_st 4 (fun n => rfl) hw
set_option maxRecDepth 4000 in
theorem s_PutBy_whiteBalls_4 (E : zX) (d : Nat) (a0 : Nat) (a1 : Int32) (a2 : Int32) (h : zH) (r : zO × zH)
    (hw : ∃ o1 : Nat, fld h a0 7 3 = some (.ref o1) ∧
    ∃ x2 : Int32, fld h o1 5 4 = some (.int x2) ∧
    if x2 ≤ a2 then (
      r = (.inl (some (.int a1)), h))
    else (
      ∃ o3 : Nat, fld h a0 7 4 = some (.ref o3) ∧
      isO h o3 10 = true ∧ ∃ (x4 : Int32) (h5 : zH), zT E d m_Scene_isWhite 0 [some (.ref o3), some (.int a2)] [] h (.inl (some (.int x4)), h5) ∧
      if x4 = 0 then (
        zT E (d + 1) m_PutBy_whiteBalls 4 [some (.ref a0), some (.int a1), some (.int (a2 + 1))] [] h5 r)
      else (
        zT E (d + 1) m_PutBy_whiteBalls 4 [some (.ref a0), some (.int (a1 ||| (1 <<< (a2 &&& 31)))), some (.int (a2 + 1))] [] h5 r))) :
    zT E (d + 1) m_PutBy_whiteBalls 4 [some (.ref a0), some (.int a1), some (.int a2)] [] h r := by
  refine zT_st (pc' := 6) (L' := [some (.ref a0), some (.int a1), some (.int a2)]) (st' := [.ref a0, .int a2]) (h' := h) 2 (fun n => rfl) ?_
  obtain ⟨o1, e, hw⟩ := hw
  refine zT_st (pc' := 9) (L' := [some (.ref a0), some (.int a1), some (.int a2)]) (st' := [.ref o1, .int a2]) (h' := h) 1 (fun n => fld_eq (E := E) e _) ?_
  obtain ⟨x2, e, hw⟩ := hw
  refine zT_st (pc' := 12) (L' := [some (.ref a0), some (.int a1), some (.int a2)]) (st' := [.int x2, .int a2]) (h' := h) 1 (fun n => fld_eq (E := E) e _) ?_
  by_cases hc : x2 ≤ a2
  · rw [if_pos hc] at hw
    refine zT_st (pc' := 38) (L' := [some (.ref a0), some (.int a1), some (.int a2)]) (st' := []) (h' := h) 1 (fun n => if_pos hc) ?_
    subst hw
    exact zT_ret 2 rfl
  · rw [if_neg hc] at hw
    refine zT_st (pc' := 15) (L' := [some (.ref a0), some (.int a1), some (.int a2)]) (st' := []) (h' := h) 1 (fun n => if_neg hc) ?_
    refine zT_st (pc' := 16) (L' := [some (.ref a0), some (.int a1), some (.int a2)]) (st' := [.ref a0]) (h' := h) 1 (fun n => rfl) ?_
    obtain ⟨o3, e, hw⟩ := hw
    refine zT_st (pc' := 19) (L' := [some (.ref a0), some (.int a1), some (.int a2)]) (st' := [.ref o3]) (h' := h) 1 (fun n => fld_eq (E := E) e _) ?_
    refine zT_st (pc' := 20) (L' := [some (.ref a0), some (.int a1), some (.int a2)]) (st' := [.int a2, .ref o3]) (h' := h) 1 (fun n => rfl) ?_
    obtain ⟨hq, hw⟩ := hw
    obtain ⟨x4, h5, hx, hw⟩ := hw
    refine zT_call (pc' := 23) (rest := []) 1 (fun n => rfl) hq hx ?_
    show zT E (d + 1) m_PutBy_whiteBalls 23 [some (.ref a0), some (.int a1), some (.int a2)] [.int x4] h5 r
    by_cases hc : x4 = 0
    · rw [if_pos hc] at hw
      refine zT_st (pc' := 32) (L' := [some (.ref a0), some (.int a1), some (.int a2)]) (st' := []) (h' := h5) 1 (fun n => if_pos hc) ?_
      exact zT_st 2 (fun n => rfl) hw
    · rw [if_neg hc] at hw
      refine zT_st (pc' := 26) (L' := [some (.ref a0), some (.int a1), some (.int a2)]) (st' := []) (h' := h5) 1 (fun n => if_neg hc) ?_
      exact zT_st 8 (fun n => rfl) hw
set_option maxRecDepth 4000 in
theorem s_PutBy_bestOf_0 (E : zX) (d : Nat) (a0 : Nat) (a1 : Int32) (a2 : Int32) (h : zH) (r : zO × zH)
    (hw : zT E (d + 1) m_PutBy_bestOf 8 [some (.ref a0), some (.int a1), some (.int a2), some (.int 0), some (.int 0), some (.int 0), none] [] h r) :
    zT E (d + 1) m_PutBy_bestOf 0 [some (.ref a0), some (.int a1), some (.int a2), none, none, none, none] [] h r := by
  exact zT_st 6 (fun n => rfl) hw
set_option maxRecDepth 4000 in
theorem s_PutBy_bestOf_8 (E : zX) (d : Nat) (a0 : Nat) (a1 : Int32) (a2 : Int32) (a3 : Int32) (a4 : Int32) (a5 : Int32) (j6 : Option Value) (h : zH) (r : zO × zH)
    (hw : ∃ o1 : Nat, fld h a0 7 3 = some (.ref o1) ∧
    ∃ x2 : Int32, fld h o1 5 4 = some (.int x2) ∧
    if x2 ≤ a5 then (
      r = (.inl (some (.int a3)), h))
    else (
      ∃ o3 : Nat, fld h a0 7 6 = some (.ref o3) ∧
      ∃ (n4 : Nat) (f5 : Nat → Int32), arr h o3 = some (n4, f5) ∧ ¬ (a5 < 0 ∨ n4 ≤ (a5).toNatClampNeg) ∧
      zT E (d + 1) m_PutBy_bestOf 29 [some (.ref a0), some (.int a1), some (.int a2), some (.int a3), some (.int a4), some (.int a5), some (.int (f5 (a5).toNatClampNeg))] [] h r)) :
    zT E (d + 1) m_PutBy_bestOf 8 [some (.ref a0), some (.int a1), some (.int a2), some (.int a3), some (.int a4), some (.int a5), j6] [] h r := by
  refine zT_st (pc' := 11) (L' := [some (.ref a0), some (.int a1), some (.int a2), some (.int a3), some (.int a4), some (.int a5), j6]) (st' := [.ref a0, .int a5]) (h' := h) 2 (fun n => rfl) ?_
  obtain ⟨o1, e, hw⟩ := hw
  refine zT_st (pc' := 14) (L' := [some (.ref a0), some (.int a1), some (.int a2), some (.int a3), some (.int a4), some (.int a5), j6]) (st' := [.ref o1, .int a5]) (h' := h) 1 (fun n => fld_eq (E := E) e _) ?_
  obtain ⟨x2, e, hw⟩ := hw
  refine zT_st (pc' := 17) (L' := [some (.ref a0), some (.int a1), some (.int a2), some (.int a3), some (.int a4), some (.int a5), j6]) (st' := [.int x2, .int a5]) (h' := h) 1 (fun n => fld_eq (E := E) e _) ?_
  by_cases hc : x2 ≤ a5
  · rw [if_pos hc] at hw
    refine zT_st (pc' := 127) (L' := [some (.ref a0), some (.int a1), some (.int a2), some (.int a3), some (.int a4), some (.int a5), j6]) (st' := []) (h' := h) 1 (fun n => if_pos hc) ?_
    subst hw
    exact zT_ret 2 rfl
  · rw [if_neg hc] at hw
    refine zT_st (pc' := 20) (L' := [some (.ref a0), some (.int a1), some (.int a2), some (.int a3), some (.int a4), some (.int a5), j6]) (st' := []) (h' := h) 1 (fun n => if_neg hc) ?_
    refine zT_st (pc' := 21) (L' := [some (.ref a0), some (.int a1), some (.int a2), some (.int a3), some (.int a4), some (.int a5), j6]) (st' := [.ref a0]) (h' := h) 1 (fun n => rfl) ?_
    obtain ⟨o3, e, hw⟩ := hw
    refine zT_st (pc' := 24) (L' := [some (.ref a0), some (.int a1), some (.int a2), some (.int a3), some (.int a4), some (.int a5), j6]) (st' := [.ref o3]) (h' := h) 1 (fun n => fld_eq (E := E) e _) ?_
    refine zT_st (pc' := 26) (L' := [some (.ref a0), some (.int a1), some (.int a2), some (.int a3), some (.int a4), some (.int a5), j6]) (st' := [.int a5, .ref o3]) (h' := h) 1 (fun n => rfl) ?_
    obtain ⟨n4, f5, e, hi, hw⟩ := hw
    refine zT_st (pc' := 27) (L' := [some (.ref a0), some (.int a1), some (.int a2), some (.int a3), some (.int a4), some (.int a5), j6]) (st' := [.int (f5 (a5).toNatClampNeg)]) (h' := h) 1 (fun n => arr_eq (E := E) e hi [] (fun st => zrun zP zCd E n (d + 1) m_PutBy_bestOf 27 [some (.ref a0), some (.int a1), some (.int a2), some (.int a3), some (.int a4), some (.int a5), j6] st h)) ?_
    exact zT_st 1 (fun n => rfl) hw
set_option maxRecDepth 4000 in
theorem s_PutBy_bestOf_29 (E : zX) (d : Nat) (a0 : Nat) (a1 : Int32) (a2 : Int32) (a3 : Int32) (a4 : Int32) (a5 : Int32) (a6 : Int32) (h : zH) (r : zO × zH)
    (hw : ∃ o1 : Nat, fld h a0 7 3 = some (.ref o1) ∧
    ∃ x2 : Int32, fld h o1 5 3 = some (.int x2) ∧
    if x2 ≤ a4 then (
      zT E (d + 1) m_PutBy_bestOf 61 [some (.ref a0), some (.int a1), some (.int a2), some (.int a3), some (.int a4), some (.int a5), some (.int a6)] [] h r)
    else (
      ∃ o3 : Nat, fld h a0 7 5 = some (.ref o3) ∧
      ∃ (n4 : Nat) (f5 : Nat → Int32), arr h o3 = some (n4, f5) ∧ ¬ (a4 < 0 ∨ n4 ≤ (a4).toNatClampNeg) ∧
      if (a1 &&& (1 <<< ((f5 (a4).toNatClampNeg) &&& 31))) = 0 then (
        zT E (d + 1) m_PutBy_bestOf 29 [some (.ref a0), some (.int a1), some (.int a2), some (.int a3), some (.int (a4 + 1)), some (.int a5), some (.int a6)] [] h r)
      else (
        zT E (d + 1) m_PutBy_bestOf 61 [some (.ref a0), some (.int a1), some (.int a2), some (.int a3), some (.int a4), some (.int a5), some (.int a6)] [] h r))) :
    zT E (d + 1) m_PutBy_bestOf 29 [some (.ref a0), some (.int a1), some (.int a2), some (.int a3), some (.int a4), some (.int a5), some (.int a6)] [] h r := by
  refine zT_st (pc' := 32) (L' := [some (.ref a0), some (.int a1), some (.int a2), some (.int a3), some (.int a4), some (.int a5), some (.int a6)]) (st' := [.ref a0, .int a4]) (h' := h) 2 (fun n => rfl) ?_
  obtain ⟨o1, e, hw⟩ := hw
  refine zT_st (pc' := 35) (L' := [some (.ref a0), some (.int a1), some (.int a2), some (.int a3), some (.int a4), some (.int a5), some (.int a6)]) (st' := [.ref o1, .int a4]) (h' := h) 1 (fun n => fld_eq (E := E) e _) ?_
  obtain ⟨x2, e, hw⟩ := hw
  refine zT_st (pc' := 38) (L' := [some (.ref a0), some (.int a1), some (.int a2), some (.int a3), some (.int a4), some (.int a5), some (.int a6)]) (st' := [.int x2, .int a4]) (h' := h) 1 (fun n => fld_eq (E := E) e _) ?_
  by_cases hc : x2 ≤ a4
  · rw [if_pos hc] at hw
    refine zT_st (pc' := 61) (L' := [some (.ref a0), some (.int a1), some (.int a2), some (.int a3), some (.int a4), some (.int a5), some (.int a6)]) (st' := []) (h' := h) 1 (fun n => if_pos hc) ?_
    exact hw
  · rw [if_neg hc] at hw
    refine zT_st (pc' := 41) (L' := [some (.ref a0), some (.int a1), some (.int a2), some (.int a3), some (.int a4), some (.int a5), some (.int a6)]) (st' := []) (h' := h) 1 (fun n => if_neg hc) ?_
    refine zT_st (pc' := 44) (L' := [some (.ref a0), some (.int a1), some (.int a2), some (.int a3), some (.int a4), some (.int a5), some (.int a6)]) (st' := [.ref a0, .int 1, .int a1]) (h' := h) 3 (fun n => rfl) ?_
    obtain ⟨o3, e, hw⟩ := hw
    refine zT_st (pc' := 47) (L' := [some (.ref a0), some (.int a1), some (.int a2), some (.int a3), some (.int a4), some (.int a5), some (.int a6)]) (st' := [.ref o3, .int 1, .int a1]) (h' := h) 1 (fun n => fld_eq (E := E) e _) ?_
    refine zT_st (pc' := 49) (L' := [some (.ref a0), some (.int a1), some (.int a2), some (.int a3), some (.int a4), some (.int a5), some (.int a6)]) (st' := [.int a4, .ref o3, .int 1, .int a1]) (h' := h) 1 (fun n => rfl) ?_
    obtain ⟨n4, f5, e, hi, hw⟩ := hw
    refine zT_st (pc' := 50) (L' := [some (.ref a0), some (.int a1), some (.int a2), some (.int a3), some (.int a4), some (.int a5), some (.int a6)]) (st' := [.int (f5 (a4).toNatClampNeg), .int 1, .int a1]) (h' := h) 1 (fun n => arr_eq (E := E) e hi [.int 1, .int a1] (fun st => zrun zP zCd E n (d + 1) m_PutBy_bestOf 50 [some (.ref a0), some (.int a1), some (.int a2), some (.int a3), some (.int a4), some (.int a5), some (.int a6)] st h)) ?_
    refine zT_st (pc' := 52) (L' := [some (.ref a0), some (.int a1), some (.int a2), some (.int a3), some (.int a4), some (.int a5), some (.int a6)]) (st' := [.int (a1 &&& (1 <<< ((f5 (a4).toNatClampNeg) &&& 31)))]) (h' := h) 2 (fun n => rfl) ?_
    by_cases hc : (a1 &&& (1 <<< ((f5 (a4).toNatClampNeg) &&& 31))) = 0
    · rw [if_pos hc] at hw
      refine zT_st (pc' := 55) (L' := [some (.ref a0), some (.int a1), some (.int a2), some (.int a3), some (.int a4), some (.int a5), some (.int a6)]) (st' := []) (h' := h) 1 (fun n => if_pos hc) ?_
      exact zT_st 2 (fun n => rfl) hw
    · rw [if_neg hc] at hw
      refine zT_st (pc' := 61) (L' := [some (.ref a0), some (.int a1), some (.int a2), some (.int a3), some (.int a4), some (.int a5), some (.int a6)]) (st' := []) (h' := h) 1 (fun n => if_neg hc) ?_
      exact hw
set_option maxRecDepth 4000 in
theorem s_PutBy_bestOf_61 (E : zX) (d : Nat) (a0 : Nat) (a1 : Int32) (a2 : Int32) (a3 : Int32) (a4 : Int32) (a5 : Int32) (a6 : Int32) (h : zH) (r : zO × zH)
    (hw : ∃ o1 : Nat, fld h a0 7 3 = some (.ref o1) ∧
    ∃ x2 : Int32, fld h o1 5 3 = some (.int x2) ∧
    if x2 ≤ a4 then (
      zT E (d + 1) m_PutBy_bestOf 8 [some (.ref a0), some (.int a1), some (.int a2), some (.int a3), some (.int a4), some (.int (a5 + 1)), some (.int a6)] [] h r)
    else (
      if (a2 &&& (1 <<< (a6 &&& 31))) = 0 then (
        zT E (d + 1) m_PutBy_bestOf 8 [some (.ref a0), some (.int a1), some (.int a2), some (.int a3), some (.int a4), some (.int (a5 + 1)), some (.int a6)] [] h r)
      else (
        ∃ o3 : Nat, fld h a0 7 3 = some (.ref o3) ∧
        ∃ o4 : Nat, fld h o3 5 6 = some (.ref o4) ∧
        ∃ (n5 : Nat) (f6 : Nat → Int32), arr h o4 = some (n5, f6) ∧ ¬ (a6 < 0 ∨ n5 ≤ (a6).toNatClampNeg) ∧
        ∃ o7 : Nat, fld h a0 7 4 = some (.ref o7) ∧
        ∃ o8 : Nat, fld h a0 7 5 = some (.ref o8) ∧
        ∃ (n9 : Nat) (f10 : Nat → Int32), arr h o8 = some (n9, f10) ∧ ¬ (a4 < 0 ∨ n9 ≤ (a4).toNatClampNeg) ∧
        isO h o7 10 = true ∧ ∃ (x11 : Int32) (h12 : zH), zT E d m_Scene_temperOf 0 [some (.ref o7), some (.int (f10 (a4).toNatClampNeg))] [] h (.inl (some (.int x11)), h12) ∧
        if (f6 (a6).toNatClampNeg) < x11 then (
          zT E (d + 1) m_PutBy_bestOf 8 [some (.ref a0), some (.int a1), some (.int a2), some (.int a3), some (.int a4), some (.int (a5 + 1)), some (.int a6)] [] h12 r)
        else (
          isO h12 a0 7 = true ∧ ∃ (x13 : Int32) (h14 : zH), zT E d m_PutBy_worthOf 0 [some (.ref a0), some (.int a6)] [] h12 (.inl (some (.int x13)), h14) ∧
          zT E (d + 1) m_PutBy_bestOf 8 [some (.ref a0), some (.int a1), some (.int a2), some (.int (a3 + x13)), some (.int (a4 + 1)), some (.int (a5 + 1)), some (.int a6)] [] h14 r)))) :
    zT E (d + 1) m_PutBy_bestOf 61 [some (.ref a0), some (.int a1), some (.int a2), some (.int a3), some (.int a4), some (.int a5), some (.int a6)] [] h r := by
  refine zT_st (pc' := 64) (L' := [some (.ref a0), some (.int a1), some (.int a2), some (.int a3), some (.int a4), some (.int a5), some (.int a6)]) (st' := [.ref a0, .int a4]) (h' := h) 2 (fun n => rfl) ?_
  obtain ⟨o1, e, hw⟩ := hw
  refine zT_st (pc' := 67) (L' := [some (.ref a0), some (.int a1), some (.int a2), some (.int a3), some (.int a4), some (.int a5), some (.int a6)]) (st' := [.ref o1, .int a4]) (h' := h) 1 (fun n => fld_eq (E := E) e _) ?_
  obtain ⟨x2, e, hw⟩ := hw
  refine zT_st (pc' := 70) (L' := [some (.ref a0), some (.int a1), some (.int a2), some (.int a3), some (.int a4), some (.int a5), some (.int a6)]) (st' := [.int x2, .int a4]) (h' := h) 1 (fun n => fld_eq (E := E) e _) ?_
  by_cases hc : x2 ≤ a4
  · rw [if_pos hc] at hw
    refine zT_st (pc' := 121) (L' := [some (.ref a0), some (.int a1), some (.int a2), some (.int a3), some (.int a4), some (.int a5), some (.int a6)]) (st' := []) (h' := h) 1 (fun n => if_pos hc) ?_
    exact zT_st 2 (fun n => rfl) hw
  · rw [if_neg hc] at hw
    refine zT_st (pc' := 73) (L' := [some (.ref a0), some (.int a1), some (.int a2), some (.int a3), some (.int a4), some (.int a5), some (.int a6)]) (st' := []) (h' := h) 1 (fun n => if_neg hc) ?_
    refine zT_st (pc' := 79) (L' := [some (.ref a0), some (.int a1), some (.int a2), some (.int a3), some (.int a4), some (.int a5), some (.int a6)]) (st' := [.int (a2 &&& (1 <<< (a6 &&& 31)))]) (h' := h) 5 (fun n => rfl) ?_
    by_cases hc : (a2 &&& (1 <<< (a6 &&& 31))) = 0
    · rw [if_pos hc] at hw
      refine zT_st (pc' := 121) (L' := [some (.ref a0), some (.int a1), some (.int a2), some (.int a3), some (.int a4), some (.int a5), some (.int a6)]) (st' := []) (h' := h) 1 (fun n => if_pos hc) ?_
      exact zT_st 2 (fun n => rfl) hw
    · rw [if_neg hc] at hw
      refine zT_st (pc' := 82) (L' := [some (.ref a0), some (.int a1), some (.int a2), some (.int a3), some (.int a4), some (.int a5), some (.int a6)]) (st' := []) (h' := h) 1 (fun n => if_neg hc) ?_
      refine zT_st (pc' := 83) (L' := [some (.ref a0), some (.int a1), some (.int a2), some (.int a3), some (.int a4), some (.int a5), some (.int a6)]) (st' := [.ref a0]) (h' := h) 1 (fun n => rfl) ?_
      obtain ⟨o3, e, hw⟩ := hw
      refine zT_st (pc' := 86) (L' := [some (.ref a0), some (.int a1), some (.int a2), some (.int a3), some (.int a4), some (.int a5), some (.int a6)]) (st' := [.ref o3]) (h' := h) 1 (fun n => fld_eq (E := E) e _) ?_
      obtain ⟨o4, e, hw⟩ := hw
      refine zT_st (pc' := 89) (L' := [some (.ref a0), some (.int a1), some (.int a2), some (.int a3), some (.int a4), some (.int a5), some (.int a6)]) (st' := [.ref o4]) (h' := h) 1 (fun n => fld_eq (E := E) e _) ?_
      refine zT_st (pc' := 91) (L' := [some (.ref a0), some (.int a1), some (.int a2), some (.int a3), some (.int a4), some (.int a5), some (.int a6)]) (st' := [.int a6, .ref o4]) (h' := h) 1 (fun n => rfl) ?_
      obtain ⟨n5, f6, e, hi, hw⟩ := hw
      refine zT_st (pc' := 92) (L' := [some (.ref a0), some (.int a1), some (.int a2), some (.int a3), some (.int a4), some (.int a5), some (.int a6)]) (st' := [.int (f6 (a6).toNatClampNeg)]) (h' := h) 1 (fun n => arr_eq (E := E) e hi [] (fun st => zrun zP zCd E n (d + 1) m_PutBy_bestOf 92 [some (.ref a0), some (.int a1), some (.int a2), some (.int a3), some (.int a4), some (.int a5), some (.int a6)] st h)) ?_
      refine zT_st (pc' := 93) (L' := [some (.ref a0), some (.int a1), some (.int a2), some (.int a3), some (.int a4), some (.int a5), some (.int a6)]) (st' := [.ref a0, .int (f6 (a6).toNatClampNeg)]) (h' := h) 1 (fun n => rfl) ?_
      obtain ⟨o7, e, hw⟩ := hw
      refine zT_st (pc' := 96) (L' := [some (.ref a0), some (.int a1), some (.int a2), some (.int a3), some (.int a4), some (.int a5), some (.int a6)]) (st' := [.ref o7, .int (f6 (a6).toNatClampNeg)]) (h' := h) 1 (fun n => fld_eq (E := E) e _) ?_
      refine zT_st (pc' := 97) (L' := [some (.ref a0), some (.int a1), some (.int a2), some (.int a3), some (.int a4), some (.int a5), some (.int a6)]) (st' := [.ref a0, .ref o7, .int (f6 (a6).toNatClampNeg)]) (h' := h) 1 (fun n => rfl) ?_
      obtain ⟨o8, e, hw⟩ := hw
      refine zT_st (pc' := 100) (L' := [some (.ref a0), some (.int a1), some (.int a2), some (.int a3), some (.int a4), some (.int a5), some (.int a6)]) (st' := [.ref o8, .ref o7, .int (f6 (a6).toNatClampNeg)]) (h' := h) 1 (fun n => fld_eq (E := E) e _) ?_
      refine zT_st (pc' := 102) (L' := [some (.ref a0), some (.int a1), some (.int a2), some (.int a3), some (.int a4), some (.int a5), some (.int a6)]) (st' := [.int a4, .ref o8, .ref o7, .int (f6 (a6).toNatClampNeg)]) (h' := h) 1 (fun n => rfl) ?_
      obtain ⟨n9, f10, e, hi, hw⟩ := hw
      refine zT_st (pc' := 103) (L' := [some (.ref a0), some (.int a1), some (.int a2), some (.int a3), some (.int a4), some (.int a5), some (.int a6)]) (st' := [.int (f10 (a4).toNatClampNeg), .ref o7, .int (f6 (a6).toNatClampNeg)]) (h' := h) 1 (fun n => arr_eq (E := E) e hi [.ref o7, .int (f6 (a6).toNatClampNeg)] (fun st => zrun zP zCd E n (d + 1) m_PutBy_bestOf 103 [some (.ref a0), some (.int a1), some (.int a2), some (.int a3), some (.int a4), some (.int a5), some (.int a6)] st h)) ?_
      obtain ⟨hq, hw⟩ := hw
      obtain ⟨x11, h12, hx, hw⟩ := hw
      refine zT_call (pc' := 106) (rest := [.int (f6 (a6).toNatClampNeg)]) 1 (fun n => rfl) hq hx ?_
      show zT E (d + 1) m_PutBy_bestOf 106 [some (.ref a0), some (.int a1), some (.int a2), some (.int a3), some (.int a4), some (.int a5), some (.int a6)] [.int x11, .int (f6 (a6).toNatClampNeg)] h12 r
      by_cases hc : (f6 (a6).toNatClampNeg) < x11
      · rw [if_pos hc] at hw
        refine zT_st (pc' := 121) (L' := [some (.ref a0), some (.int a1), some (.int a2), some (.int a3), some (.int a4), some (.int a5), some (.int a6)]) (st' := []) (h' := h12) 1 (fun n => if_pos hc) ?_
        exact zT_st 2 (fun n => rfl) hw
      · rw [if_neg hc] at hw
        refine zT_st (pc' := 109) (L' := [some (.ref a0), some (.int a1), some (.int a2), some (.int a3), some (.int a4), some (.int a5), some (.int a6)]) (st' := []) (h' := h12) 1 (fun n => if_neg hc) ?_
        refine zT_st (pc' := 113) (L' := [some (.ref a0), some (.int a1), some (.int a2), some (.int a3), some (.int a4), some (.int a5), some (.int a6)]) (st' := [.int a6, .ref a0, .int a3]) (h' := h12) 3 (fun n => rfl) ?_
        obtain ⟨hq, hw⟩ := hw
        obtain ⟨x13, h14, hx, hw⟩ := hw
        refine zT_call (pc' := 116) (rest := [.int a3]) 1 (fun n => rfl) hq hx ?_
        show zT E (d + 1) m_PutBy_bestOf 116 [some (.ref a0), some (.int a1), some (.int a2), some (.int a3), some (.int a4), some (.int a5), some (.int a6)] [.int x13, .int a3] h14 r
        exact zT_st 5 (fun n => rfl) hw
set_option maxRecDepth 4000 in
theorem s_PutBy_worthOf_0 (E : zX) (d : Nat) (a0 : Nat) (a1 : Int32) (h : zH) (r : zO × zH)
    (hw : ∃ o1 : Nat, fld h a0 7 3 = some (.ref o1) ∧
    ∃ o2 : Nat, fld h o1 5 6 = some (.ref o2) ∧
    ∃ (n3 : Nat) (f4 : Nat → Int32), arr h o2 = some (n3, f4) ∧ ¬ (a1 < 0 ∨ n3 ≤ (a1).toNatClampNeg) ∧
    r = (.inl (some (.int (1000 - (f4 (a1).toNatClampNeg)))), h)) :
    zT E d m_PutBy_worthOf 0 [some (.ref a0), some (.int a1)] [] h r := by
  refine zT_st (pc' := 4) (L' := [some (.ref a0), some (.int a1)]) (st' := [.ref a0, .int 1000]) (h' := h) 2 (fun n => rfl) ?_
  obtain ⟨o1, e, hw⟩ := hw
  refine zT_st (pc' := 7) (L' := [some (.ref a0), some (.int a1)]) (st' := [.ref o1, .int 1000]) (h' := h) 1 (fun n => fld_eq (E := E) e _) ?_
  obtain ⟨o2, e, hw⟩ := hw
  refine zT_st (pc' := 10) (L' := [some (.ref a0), some (.int a1)]) (st' := [.ref o2, .int 1000]) (h' := h) 1 (fun n => fld_eq (E := E) e _) ?_
  refine zT_st (pc' := 11) (L' := [some (.ref a0), some (.int a1)]) (st' := [.int a1, .ref o2, .int 1000]) (h' := h) 1 (fun n => rfl) ?_
  obtain ⟨n3, f4, e, hi, hw⟩ := hw
  refine zT_st (pc' := 12) (L' := [some (.ref a0), some (.int a1)]) (st' := [.int (f4 (a1).toNatClampNeg), .int 1000]) (h' := h) 1 (fun n => arr_eq (E := E) e hi [.int 1000] (fun st => zrun zP zCd E n d m_PutBy_worthOf 12 [some (.ref a0), some (.int a1)] st h)) ?_
  subst hw
  exact zT_ret 2 rfl
set_option maxRecDepth 4000 in
theorem s_PutBy_firstFor_0 (E : zX) (d : Nat) (a0 : Nat) (a1 : Int32) (a2 : Int32) (a3 : Int32) (a4 : Int32) (h : zH) (r : zO × zH)
    (hw : zT E (d + 1) m_PutBy_firstFor 3 [some (.ref a0), some (.int a1), some (.int a2), some (.int a3), some (.int a4), some (.int 0)] [] h r) :
    zT E (d + 1) m_PutBy_firstFor 0 [some (.ref a0), some (.int a1), some (.int a2), some (.int a3), some (.int a4), none] [] h r := by
  exact zT_st 2 (fun n => rfl) hw
set_option maxRecDepth 4000 in
theorem s_PutBy_firstFor_3 (E : zX) (d : Nat) (a0 : Nat) (a1 : Int32) (a2 : Int32) (a3 : Int32) (a4 : Int32) (a5 : Int32) (h : zH) (r : zO × zH)
    (hw : ∃ o1 : Nat, fld h a0 7 3 = some (.ref o1) ∧
    ∃ x2 : Int32, fld h o1 5 4 = some (.int x2) ∧
    if x2 ≤ a5 then (
      r = (.inl (some (.int (-1))), h))
    else (
      if (a3 &&& (1 <<< (a5 &&& 31))) = 0 then (
        zT E (d + 1) m_PutBy_firstFor 3 [some (.ref a0), some (.int a1), some (.int a2), some (.int a3), some (.int a4), some (.int (a5 + 1))] [] h r)
      else (
        ∃ o3 : Nat, fld h a0 7 3 = some (.ref o3) ∧
        ∃ o4 : Nat, fld h o3 5 6 = some (.ref o4) ∧
        ∃ (n5 : Nat) (f6 : Nat → Int32), arr h o4 = some (n5, f6) ∧ ¬ (a5 < 0 ∨ n5 ≤ (a5).toNatClampNeg) ∧
        ∃ o7 : Nat, fld h a0 7 4 = some (.ref o7) ∧
        isO h o7 10 = true ∧ ∃ (x8 : Int32) (h9 : zH), zT E d m_Scene_temperOf 0 [some (.ref o7), some (.int a1)] [] h (.inl (some (.int x8)), h9) ∧
        if (f6 (a5).toNatClampNeg) < x8 then (
          zT E (d + 1) m_PutBy_firstFor 3 [some (.ref a0), some (.int a1), some (.int a2), some (.int a3), some (.int a4), some (.int (a5 + 1))] [] h9 r)
        else (
          isO h9 a0 7 = true ∧ ∃ (x10 : Int32) (h11 : zH), zT E d m_PutBy_worthOf 0 [some (.ref a0), some (.int a5)] [] h9 (.inl (some (.int x10)), h11) ∧
          isO h11 a0 7 = true ∧ ∃ (x12 : Int32) (h13 : zH), zT E d m_PutBy_bestOf 0 [some (.ref a0), some (.int a2), some (.int (a3 &&& ((1 <<< (a5 &&& 31)) ^^^ (-1)))), none, none, none, none] [] h11 (.inl (some (.int x12)), h13) ∧
          if (x10 + x12) = a4 then (
            r = (.inl (some (.int a5)), h13))
          else (
            zT E (d + 1) m_PutBy_firstFor 3 [some (.ref a0), some (.int a1), some (.int a2), some (.int a3), some (.int a4), some (.int (a5 + 1))] [] h13 r))))) :
    zT E (d + 1) m_PutBy_firstFor 3 [some (.ref a0), some (.int a1), some (.int a2), some (.int a3), some (.int a4), some (.int a5)] [] h r := by
  refine zT_st (pc' := 6) (L' := [some (.ref a0), some (.int a1), some (.int a2), some (.int a3), some (.int a4), some (.int a5)]) (st' := [.ref a0, .int a5]) (h' := h) 2 (fun n => rfl) ?_
  obtain ⟨o1, e, hw⟩ := hw
  refine zT_st (pc' := 9) (L' := [some (.ref a0), some (.int a1), some (.int a2), some (.int a3), some (.int a4), some (.int a5)]) (st' := [.ref o1, .int a5]) (h' := h) 1 (fun n => fld_eq (E := E) e _) ?_
  obtain ⟨x2, e, hw⟩ := hw
  refine zT_st (pc' := 12) (L' := [some (.ref a0), some (.int a1), some (.int a2), some (.int a3), some (.int a4), some (.int a5)]) (st' := [.int x2, .int a5]) (h' := h) 1 (fun n => fld_eq (E := E) e _) ?_
  by_cases hc : x2 ≤ a5
  · rw [if_pos hc] at hw
    refine zT_st (pc' := 79) (L' := [some (.ref a0), some (.int a1), some (.int a2), some (.int a3), some (.int a4), some (.int a5)]) (st' := []) (h' := h) 1 (fun n => if_pos hc) ?_
    subst hw
    exact zT_ret 2 rfl
  · rw [if_neg hc] at hw
    refine zT_st (pc' := 15) (L' := [some (.ref a0), some (.int a1), some (.int a2), some (.int a3), some (.int a4), some (.int a5)]) (st' := []) (h' := h) 1 (fun n => if_neg hc) ?_
    refine zT_st (pc' := 21) (L' := [some (.ref a0), some (.int a1), some (.int a2), some (.int a3), some (.int a4), some (.int a5)]) (st' := [.int (a3 &&& (1 <<< (a5 &&& 31)))]) (h' := h) 5 (fun n => rfl) ?_
    by_cases hc : (a3 &&& (1 <<< (a5 &&& 31))) = 0
    · rw [if_pos hc] at hw
      refine zT_st (pc' := 73) (L' := [some (.ref a0), some (.int a1), some (.int a2), some (.int a3), some (.int a4), some (.int a5)]) (st' := []) (h' := h) 1 (fun n => if_pos hc) ?_
      exact zT_st 2 (fun n => rfl) hw
    · rw [if_neg hc] at hw
      refine zT_st (pc' := 24) (L' := [some (.ref a0), some (.int a1), some (.int a2), some (.int a3), some (.int a4), some (.int a5)]) (st' := []) (h' := h) 1 (fun n => if_neg hc) ?_
      refine zT_st (pc' := 25) (L' := [some (.ref a0), some (.int a1), some (.int a2), some (.int a3), some (.int a4), some (.int a5)]) (st' := [.ref a0]) (h' := h) 1 (fun n => rfl) ?_
      obtain ⟨o3, e, hw⟩ := hw
      refine zT_st (pc' := 28) (L' := [some (.ref a0), some (.int a1), some (.int a2), some (.int a3), some (.int a4), some (.int a5)]) (st' := [.ref o3]) (h' := h) 1 (fun n => fld_eq (E := E) e _) ?_
      obtain ⟨o4, e, hw⟩ := hw
      refine zT_st (pc' := 31) (L' := [some (.ref a0), some (.int a1), some (.int a2), some (.int a3), some (.int a4), some (.int a5)]) (st' := [.ref o4]) (h' := h) 1 (fun n => fld_eq (E := E) e _) ?_
      refine zT_st (pc' := 33) (L' := [some (.ref a0), some (.int a1), some (.int a2), some (.int a3), some (.int a4), some (.int a5)]) (st' := [.int a5, .ref o4]) (h' := h) 1 (fun n => rfl) ?_
      obtain ⟨n5, f6, e, hi, hw⟩ := hw
      refine zT_st (pc' := 34) (L' := [some (.ref a0), some (.int a1), some (.int a2), some (.int a3), some (.int a4), some (.int a5)]) (st' := [.int (f6 (a5).toNatClampNeg)]) (h' := h) 1 (fun n => arr_eq (E := E) e hi [] (fun st => zrun zP zCd E n (d + 1) m_PutBy_firstFor 34 [some (.ref a0), some (.int a1), some (.int a2), some (.int a3), some (.int a4), some (.int a5)] st h)) ?_
      refine zT_st (pc' := 35) (L' := [some (.ref a0), some (.int a1), some (.int a2), some (.int a3), some (.int a4), some (.int a5)]) (st' := [.ref a0, .int (f6 (a5).toNatClampNeg)]) (h' := h) 1 (fun n => rfl) ?_
      obtain ⟨o7, e, hw⟩ := hw
      refine zT_st (pc' := 38) (L' := [some (.ref a0), some (.int a1), some (.int a2), some (.int a3), some (.int a4), some (.int a5)]) (st' := [.ref o7, .int (f6 (a5).toNatClampNeg)]) (h' := h) 1 (fun n => fld_eq (E := E) e _) ?_
      refine zT_st (pc' := 39) (L' := [some (.ref a0), some (.int a1), some (.int a2), some (.int a3), some (.int a4), some (.int a5)]) (st' := [.int a1, .ref o7, .int (f6 (a5).toNatClampNeg)]) (h' := h) 1 (fun n => rfl) ?_
      obtain ⟨hq, hw⟩ := hw
      obtain ⟨x8, h9, hx, hw⟩ := hw
      refine zT_call (pc' := 42) (rest := [.int (f6 (a5).toNatClampNeg)]) 1 (fun n => rfl) hq hx ?_
      show zT E (d + 1) m_PutBy_firstFor 42 [some (.ref a0), some (.int a1), some (.int a2), some (.int a3), some (.int a4), some (.int a5)] [.int x8, .int (f6 (a5).toNatClampNeg)] h9 r
      by_cases hc : (f6 (a5).toNatClampNeg) < x8
      · rw [if_pos hc] at hw
        refine zT_st (pc' := 73) (L' := [some (.ref a0), some (.int a1), some (.int a2), some (.int a3), some (.int a4), some (.int a5)]) (st' := []) (h' := h9) 1 (fun n => if_pos hc) ?_
        exact zT_st 2 (fun n => rfl) hw
      · rw [if_neg hc] at hw
        refine zT_st (pc' := 45) (L' := [some (.ref a0), some (.int a1), some (.int a2), some (.int a3), some (.int a4), some (.int a5)]) (st' := []) (h' := h9) 1 (fun n => if_neg hc) ?_
        refine zT_st (pc' := 48) (L' := [some (.ref a0), some (.int a1), some (.int a2), some (.int a3), some (.int a4), some (.int a5)]) (st' := [.int a5, .ref a0]) (h' := h9) 2 (fun n => rfl) ?_
        obtain ⟨hq, hw⟩ := hw
        obtain ⟨x10, h11, hx, hw⟩ := hw
        refine zT_call (pc' := 51) (rest := []) 1 (fun n => rfl) hq hx ?_
        show zT E (d + 1) m_PutBy_firstFor 51 [some (.ref a0), some (.int a1), some (.int a2), some (.int a3), some (.int a4), some (.int a5)] [.int x10] h11 r
        refine zT_st (pc' := 61) (L' := [some (.ref a0), some (.int a1), some (.int a2), some (.int a3), some (.int a4), some (.int a5)]) (st' := [.int (a3 &&& ((1 <<< (a5 &&& 31)) ^^^ (-1))), .int a2, .ref a0, .int x10]) (h' := h11) 9 (fun n => rfl) ?_
        obtain ⟨hq, hw⟩ := hw
        obtain ⟨x12, h13, hx, hw⟩ := hw
        refine zT_call (pc' := 64) (rest := [.int x10]) 1 (fun n => rfl) hq hx ?_
        show zT E (d + 1) m_PutBy_firstFor 64 [some (.ref a0), some (.int a1), some (.int a2), some (.int a3), some (.int a4), some (.int a5)] [.int x12, .int x10] h13 r
        refine zT_st (pc' := 67) (L' := [some (.ref a0), some (.int a1), some (.int a2), some (.int a3), some (.int a4), some (.int a5)]) (st' := [.int a4, .int (x10 + x12)]) (h' := h13) 2 (fun n => rfl) ?_
        by_cases hc : (x10 + x12) = a4
        · rw [if_pos hc] at hw
          refine zT_st (pc' := 70) (L' := [some (.ref a0), some (.int a1), some (.int a2), some (.int a3), some (.int a4), some (.int a5)]) (st' := []) (h' := h13) 1 (fun n => if_pos hc) ?_
          subst hw
          exact zT_ret 2 rfl
        · rw [if_neg hc] at hw
          refine zT_st (pc' := 73) (L' := [some (.ref a0), some (.int a1), some (.int a2), some (.int a3), some (.int a4), some (.int a5)]) (st' := []) (h' := h13) 1 (fun n => if_neg hc) ?_
          exact zT_st 2 (fun n => rfl) hw
set_option maxRecDepth 4000 in
theorem s_PutBy_take_0 (E : zX) (d : Nat) (a0 : Nat) (a1 : Int32) (a2 : Int32) (h : zH) (r : zO × zH)
    (hw : ∃ o1 : Nat, fld h a0 7 2 = some (.ref o1) ∧
    ∃ (n2 : Nat) (f3 : Nat → Int32), arr h o1 = some (n2, f3) ∧ ¬ (a1 < 0 ∨ n2 ≤ (a1).toNatClampNeg) ∧
    ∃ x4 : Int32, fld (setA h o1 n2 (upd f3 (a1).toNatClampNeg a2)) a0 7 0 = some (.int x4) ∧
    (∃ w, fld (setA h o1 n2 (upd f3 (a1).toNatClampNeg a2)) a0 7 0 = some w) ∧
    ∃ x5 : Int32, fld (setF (setA h o1 n2 (upd f3 (a1).toNatClampNeg a2)) a0 0 (.int (x4 + 1))) a0 7 1 = some (.int x5) ∧
    ∃ o6 : Nat, fld (setF (setA h o1 n2 (upd f3 (a1).toNatClampNeg a2)) a0 0 (.int (x4 + 1))) a0 7 3 = some (.ref o6) ∧
    ∃ o7 : Nat, fld (setF (setA h o1 n2 (upd f3 (a1).toNatClampNeg a2)) a0 0 (.int (x4 + 1))) o6 5 6 = some (.ref o7) ∧
    ∃ (n8 : Nat) (f9 : Nat → Int32), arr (setF (setA h o1 n2 (upd f3 (a1).toNatClampNeg a2)) a0 0 (.int (x4 + 1))) o7 = some (n8, f9) ∧ ¬ (a2 < 0 ∨ n8 ≤ (a2).toNatClampNeg) ∧
    ∃ o10 : Nat, fld (setF (setA h o1 n2 (upd f3 (a1).toNatClampNeg a2)) a0 0 (.int (x4 + 1))) a0 7 4 = some (.ref o10) ∧
    isO (setF (setA h o1 n2 (upd f3 (a1).toNatClampNeg a2)) a0 0 (.int (x4 + 1))) o10 10 = true ∧ ∃ (x11 : Int32) (h12 : zH), zT E d m_Scene_temperOf 0 [some (.ref o10), some (.int a1)] [] (setF (setA h o1 n2 (upd f3 (a1).toNatClampNeg a2)) a0 0 (.int (x4 + 1))) (.inl (some (.int x11)), h12) ∧
    (∃ w, fld h12 a0 7 1 = some w) ∧
    r = (.inl (none), (setF h12 a0 1 (.int (x5 + ((f9 (a2).toNatClampNeg) - x11)))))) :
    zT E (d + 1) m_PutBy_take 0 [some (.ref a0), some (.int a1), some (.int a2)] [] h r := by
  refine zT_st (pc' := 1) (L' := [some (.ref a0), some (.int a1), some (.int a2)]) (st' := [.ref a0]) (h' := h) 1 (fun n => rfl) ?_
  obtain ⟨o1, e, hw⟩ := hw
  refine zT_st (pc' := 4) (L' := [some (.ref a0), some (.int a1), some (.int a2)]) (st' := [.ref o1]) (h' := h) 1 (fun n => fld_eq (E := E) e _) ?_
  refine zT_st (pc' := 6) (L' := [some (.ref a0), some (.int a1), some (.int a2)]) (st' := [.int a2, .int a1, .ref o1]) (h' := h) 2 (fun n => rfl) ?_
  obtain ⟨n2, f3, e, hi, hw⟩ := hw
  refine zT_st (pc' := 7) (L' := [some (.ref a0), some (.int a1), some (.int a2)]) (st' := []) (h' := (setA h o1 n2 (upd f3 (a1).toNatClampNeg a2))) 1 (fun n => set_eq e hi _ _) ?_
  refine zT_st (pc' := 9) (L' := [some (.ref a0), some (.int a1), some (.int a2)]) (st' := [.ref a0, .ref a0]) (h' := (setA h o1 n2 (upd f3 (a1).toNatClampNeg a2))) 2 (fun n => rfl) ?_
  obtain ⟨x4, e, hw⟩ := hw
  refine zT_st (pc' := 12) (L' := [some (.ref a0), some (.int a1), some (.int a2)]) (st' := [.int x4, .ref a0]) (h' := (setA h o1 n2 (upd f3 (a1).toNatClampNeg a2))) 1 (fun n => fld_eq (E := E) e _) ?_
  refine zT_st (pc' := 14) (L' := [some (.ref a0), some (.int a1), some (.int a2)]) (st' := [.int (x4 + 1), .ref a0]) (h' := (setA h o1 n2 (upd f3 (a1).toNatClampNeg a2))) 2 (fun n => rfl) ?_
  obtain ⟨⟨w, e⟩, hw⟩ := hw
  refine zT_st (pc' := 17) (L' := [some (.ref a0), some (.int a1), some (.int a2)]) (st' := []) (h' := (setF (setA h o1 n2 (upd f3 (a1).toNatClampNeg a2)) a0 0 (.int (x4 + 1)))) 1 (fun n => put_eq e rfl _ _) ?_
  refine zT_st (pc' := 19) (L' := [some (.ref a0), some (.int a1), some (.int a2)]) (st' := [.ref a0, .ref a0]) (h' := (setF (setA h o1 n2 (upd f3 (a1).toNatClampNeg a2)) a0 0 (.int (x4 + 1)))) 2 (fun n => rfl) ?_
  obtain ⟨x5, e, hw⟩ := hw
  refine zT_st (pc' := 22) (L' := [some (.ref a0), some (.int a1), some (.int a2)]) (st' := [.int x5, .ref a0]) (h' := (setF (setA h o1 n2 (upd f3 (a1).toNatClampNeg a2)) a0 0 (.int (x4 + 1)))) 1 (fun n => fld_eq (E := E) e _) ?_
  refine zT_st (pc' := 23) (L' := [some (.ref a0), some (.int a1), some (.int a2)]) (st' := [.ref a0, .int x5, .ref a0]) (h' := (setF (setA h o1 n2 (upd f3 (a1).toNatClampNeg a2)) a0 0 (.int (x4 + 1)))) 1 (fun n => rfl) ?_
  obtain ⟨o6, e, hw⟩ := hw
  refine zT_st (pc' := 26) (L' := [some (.ref a0), some (.int a1), some (.int a2)]) (st' := [.ref o6, .int x5, .ref a0]) (h' := (setF (setA h o1 n2 (upd f3 (a1).toNatClampNeg a2)) a0 0 (.int (x4 + 1)))) 1 (fun n => fld_eq (E := E) e _) ?_
  obtain ⟨o7, e, hw⟩ := hw
  refine zT_st (pc' := 29) (L' := [some (.ref a0), some (.int a1), some (.int a2)]) (st' := [.ref o7, .int x5, .ref a0]) (h' := (setF (setA h o1 n2 (upd f3 (a1).toNatClampNeg a2)) a0 0 (.int (x4 + 1)))) 1 (fun n => fld_eq (E := E) e _) ?_
  refine zT_st (pc' := 30) (L' := [some (.ref a0), some (.int a1), some (.int a2)]) (st' := [.int a2, .ref o7, .int x5, .ref a0]) (h' := (setF (setA h o1 n2 (upd f3 (a1).toNatClampNeg a2)) a0 0 (.int (x4 + 1)))) 1 (fun n => rfl) ?_
  obtain ⟨n8, f9, e, hi, hw⟩ := hw
  refine zT_st (pc' := 31) (L' := [some (.ref a0), some (.int a1), some (.int a2)]) (st' := [.int (f9 (a2).toNatClampNeg), .int x5, .ref a0]) (h' := (setF (setA h o1 n2 (upd f3 (a1).toNatClampNeg a2)) a0 0 (.int (x4 + 1)))) 1 (fun n => arr_eq (E := E) e hi [.int x5, .ref a0] (fun st => zrun zP zCd E n (d + 1) m_PutBy_take 31 [some (.ref a0), some (.int a1), some (.int a2)] st (setF (setA h o1 n2 (upd f3 (a1).toNatClampNeg a2)) a0 0 (.int (x4 + 1))))) ?_
  refine zT_st (pc' := 32) (L' := [some (.ref a0), some (.int a1), some (.int a2)]) (st' := [.ref a0, .int (f9 (a2).toNatClampNeg), .int x5, .ref a0]) (h' := (setF (setA h o1 n2 (upd f3 (a1).toNatClampNeg a2)) a0 0 (.int (x4 + 1)))) 1 (fun n => rfl) ?_
  obtain ⟨o10, e, hw⟩ := hw
  refine zT_st (pc' := 35) (L' := [some (.ref a0), some (.int a1), some (.int a2)]) (st' := [.ref o10, .int (f9 (a2).toNatClampNeg), .int x5, .ref a0]) (h' := (setF (setA h o1 n2 (upd f3 (a1).toNatClampNeg a2)) a0 0 (.int (x4 + 1)))) 1 (fun n => fld_eq (E := E) e _) ?_
  refine zT_st (pc' := 36) (L' := [some (.ref a0), some (.int a1), some (.int a2)]) (st' := [.int a1, .ref o10, .int (f9 (a2).toNatClampNeg), .int x5, .ref a0]) (h' := (setF (setA h o1 n2 (upd f3 (a1).toNatClampNeg a2)) a0 0 (.int (x4 + 1)))) 1 (fun n => rfl) ?_
  obtain ⟨hq, hw⟩ := hw
  obtain ⟨x11, h12, hx, hw⟩ := hw
  refine zT_call (pc' := 39) (rest := [.int (f9 (a2).toNatClampNeg), .int x5, .ref a0]) 1 (fun n => rfl) hq hx ?_
  show zT E (d + 1) m_PutBy_take 39 [some (.ref a0), some (.int a1), some (.int a2)] [.int x11, .int (f9 (a2).toNatClampNeg), .int x5, .ref a0] h12 r
  refine zT_st (pc' := 41) (L' := [some (.ref a0), some (.int a1), some (.int a2)]) (st' := [.int (x5 + ((f9 (a2).toNatClampNeg) - x11)), .ref a0]) (h' := h12) 2 (fun n => rfl) ?_
  obtain ⟨⟨w, e⟩, hw⟩ := hw
  refine zT_st (pc' := 44) (L' := [some (.ref a0), some (.int a1), some (.int a2)]) (st' := []) (h' := (setF h12 a0 1 (.int (x5 + ((f9 (a2).toNatClampNeg) - x11))))) 1 (fun n => put_eq e rfl _ _) ?_
  subst hw
  exact zT_ret 1 rfl
-- s_Reader_init_0: by hand
set_option maxRecDepth 4000 in
theorem s_Reader_readText_0 (E : zX) (d : Nat) (a0 : Nat) (a1 : Int32) (h : zH) (r : zO × zH)
    (hw : ∃ o1 : Nat, fld h a0 8 4 = some (.ref o1) ∧
    ∃ (n2 : Nat) (f3 : Nat → Int32), arr h o1 = some (n2, f3) ∧
    (∃ w, fld h a0 8 5 = some w) ∧
    (∃ w, fld (setF h a0 5 (.int (zmin a1 (Int32.ofNat n2)))) a0 8 7 = some w) ∧
    (∃ w, fld (setF (setF h a0 5 (.int (zmin a1 (Int32.ofNat n2)))) a0 7 (.int 0)) a0 8 3 = some w) ∧
    (∃ w, fld (setF (setF (setF h a0 5 (.int (zmin a1 (Int32.ofNat n2)))) a0 7 (.int 0)) a0 3 (.int 0)) a0 8 2 = some w) ∧
    ∃ o4 : Nat, fld (setF (setF (setF (setF h a0 5 (.int (zmin a1 (Int32.ofNat n2)))) a0 7 (.int 0)) a0 3 (.int 0)) a0 2 (.int (-1))) a0 8 0 = some (.ref o4) ∧
    isO (setF (setF (setF (setF h a0 5 (.int (zmin a1 (Int32.ofNat n2)))) a0 7 (.int 0)) a0 3 (.int 0)) a0 2 (.int (-1))) o4 5 = true ∧ ∃ (h6 : zH), zT E d m_Land_clear 0 [some (.ref o4)] [] (setF (setF (setF (setF h a0 5 (.int (zmin a1 (Int32.ofNat n2)))) a0 7 (.int 0)) a0 3 (.int 0)) a0 2 (.int (-1))) (.inl none, h6) ∧
    ∃ o7 : Nat, fld h6 a0 8 1 = some (.ref o7) ∧
    isO h6 o7 10 = true ∧ ∃ (h9 : zH), zT E d m_Scene_clear 0 [some (.ref o7), none] [] h6 (.inl none, h9) ∧
    isO h9 a0 8 = true ∧ ∃ (h11 : zH), zT E d m_Reader_nextToken 0 [some (.ref a0)] [] h9 (.inl none, h11) ∧
    isO h11 a0 8 = true ∧ ∃ (x12 : Int32) (h13 : zH), zT E d m_Reader_isWord 0 [some (.ref a0), some (.float 3), none] [] h11 (.inl (some (.int x12)), h13) ∧
    if x12 = 0 then (
      zT E (d + 1) m_Reader_readText 69 [some (.ref a0), some (.int a1), some (.int 0)] [] h13 r)
    else (
      isO h13 a0 8 = true ∧ ∃ (x14 : Int32) (h15 : zH), zT E d m_Reader_readDowns 0 [some (.ref a0), none] [] h13 (.inl (some (.int x14)), h15) ∧
      if x14 = 0 then (
        ∃ x16 : Int32, fld h15 a0 8 3 = some (.int x16) ∧
        r = (.inl (some (.int x16)), h15))
      else (
        zT E (d + 1) m_Reader_readText 69 [some (.ref a0), some (.int a1), some (.int 0)] [] h15 r))) :
    zT E (d + 1) m_Reader_readText 0 [some (.ref a0), some (.int a1), none] [] h r := by
  refine zT_st (pc' := 3) (L' := [some (.ref a0), some (.int a1), none]) (st' := [.ref a0, .int a1, .ref a0]) (h' := h) 3 (fun n => rfl) ?_
  obtain ⟨o1, e, hw⟩ := hw
  refine zT_st (pc' := 6) (L' := [some (.ref a0), some (.int a1), none]) (st' := [.ref o1, .int a1, .ref a0]) (h' := h) 1 (fun n => fld_eq (E := E) e _) ?_
  obtain ⟨n2, f3, e, hw⟩ := hw
  refine zT_st (pc' := 7) (L' := [some (.ref a0), some (.int a1), none]) (st' := [.int (Int32.ofNat n2), .int a1, .ref a0]) (h' := h) 1 (fun n => len_eq (E := E) e [.int a1, .ref a0] (fun st => zrun zP zCd E n (d + 1) m_Reader_readText 7 [some (.ref a0), some (.int a1), none] st h)) ?_
  refine zT_st (pc' := 10) (L' := [some (.ref a0), some (.int a1), none]) (st' := [.int (zmin a1 (Int32.ofNat n2)), .ref a0]) (h' := h) 1 (fun n => rfl) ?_
  obtain ⟨⟨w, e⟩, hw⟩ := hw
  refine zT_st (pc' := 13) (L' := [some (.ref a0), some (.int a1), none]) (st' := []) (h' := (setF h a0 5 (.int (zmin a1 (Int32.ofNat n2))))) 1 (fun n => put_eq e rfl _ _) ?_
  refine zT_st (pc' := 15) (L' := [some (.ref a0), some (.int a1), none]) (st' := [.int 0, .ref a0]) (h' := (setF h a0 5 (.int (zmin a1 (Int32.ofNat n2))))) 2 (fun n => rfl) ?_
  obtain ⟨⟨w, e⟩, hw⟩ := hw
  refine zT_st (pc' := 18) (L' := [some (.ref a0), some (.int a1), none]) (st' := []) (h' := (setF (setF h a0 5 (.int (zmin a1 (Int32.ofNat n2)))) a0 7 (.int 0))) 1 (fun n => put_eq e rfl _ _) ?_
  refine zT_st (pc' := 20) (L' := [some (.ref a0), some (.int a1), none]) (st' := [.int 0, .ref a0]) (h' := (setF (setF h a0 5 (.int (zmin a1 (Int32.ofNat n2)))) a0 7 (.int 0))) 2 (fun n => rfl) ?_
  obtain ⟨⟨w, e⟩, hw⟩ := hw
  refine zT_st (pc' := 23) (L' := [some (.ref a0), some (.int a1), none]) (st' := []) (h' := (setF (setF (setF h a0 5 (.int (zmin a1 (Int32.ofNat n2)))) a0 7 (.int 0)) a0 3 (.int 0))) 1 (fun n => put_eq e rfl _ _) ?_
  refine zT_st (pc' := 25) (L' := [some (.ref a0), some (.int a1), none]) (st' := [.int (-1), .ref a0]) (h' := (setF (setF (setF h a0 5 (.int (zmin a1 (Int32.ofNat n2)))) a0 7 (.int 0)) a0 3 (.int 0))) 2 (fun n => rfl) ?_
  obtain ⟨⟨w, e⟩, hw⟩ := hw
  refine zT_st (pc' := 28) (L' := [some (.ref a0), some (.int a1), none]) (st' := []) (h' := (setF (setF (setF (setF h a0 5 (.int (zmin a1 (Int32.ofNat n2)))) a0 7 (.int 0)) a0 3 (.int 0)) a0 2 (.int (-1)))) 1 (fun n => put_eq e rfl _ _) ?_
  refine zT_st (pc' := 29) (L' := [some (.ref a0), some (.int a1), none]) (st' := [.ref a0]) (h' := (setF (setF (setF (setF h a0 5 (.int (zmin a1 (Int32.ofNat n2)))) a0 7 (.int 0)) a0 3 (.int 0)) a0 2 (.int (-1)))) 1 (fun n => rfl) ?_
  obtain ⟨o4, e, hw⟩ := hw
  refine zT_st (pc' := 32) (L' := [some (.ref a0), some (.int a1), none]) (st' := [.ref o4]) (h' := (setF (setF (setF (setF h a0 5 (.int (zmin a1 (Int32.ofNat n2)))) a0 7 (.int 0)) a0 3 (.int 0)) a0 2 (.int (-1)))) 1 (fun n => fld_eq (E := E) e _) ?_
  obtain ⟨hq, hw⟩ := hw
  obtain ⟨h6, hx, hw⟩ := hw
  refine zT_call (pc' := 35) (rest := []) 1 (fun n => rfl) hq hx ?_
  show zT E (d + 1) m_Reader_readText 35 [some (.ref a0), some (.int a1), none] [] h6 r
  refine zT_st (pc' := 36) (L' := [some (.ref a0), some (.int a1), none]) (st' := [.ref a0]) (h' := h6) 1 (fun n => rfl) ?_
  obtain ⟨o7, e, hw⟩ := hw
  refine zT_st (pc' := 39) (L' := [some (.ref a0), some (.int a1), none]) (st' := [.ref o7]) (h' := h6) 1 (fun n => fld_eq (E := E) e _) ?_
  obtain ⟨hq, hw⟩ := hw
  obtain ⟨h9, hx, hw⟩ := hw
  refine zT_call (pc' := 42) (rest := []) 1 (fun n => rfl) hq hx ?_
  show zT E (d + 1) m_Reader_readText 42 [some (.ref a0), some (.int a1), none] [] h9 r
  refine zT_st (pc' := 43) (L' := [some (.ref a0), some (.int a1), none]) (st' := [.ref a0]) (h' := h9) 1 (fun n => rfl) ?_
  obtain ⟨hq, hw⟩ := hw
  obtain ⟨h11, hx, hw⟩ := hw
  refine zT_call (pc' := 46) (rest := []) 1 (fun n => rfl) hq hx ?_
  show zT E (d + 1) m_Reader_readText 46 [some (.ref a0), some (.int a1), none] [] h11 r
  refine zT_st (pc' := 49) (L' := [some (.ref a0), some (.int a1), none]) (st' := [.float 3, .ref a0]) (h' := h11) 2 (fun n => rfl) ?_
  obtain ⟨hq, hw⟩ := hw
  obtain ⟨x12, h13, hx, hw⟩ := hw
  refine zT_call (pc' := 52) (rest := []) 1 (fun n => rfl) hq hx ?_
  show zT E (d + 1) m_Reader_readText 52 [some (.ref a0), some (.int a1), none] [.int x12] h13 r
  by_cases hc : x12 = 0
  · rw [if_pos hc] at hw
    refine zT_st (pc' := 67) (L' := [some (.ref a0), some (.int a1), none]) (st' := []) (h' := h13) 1 (fun n => if_pos hc) ?_
    exact zT_st 2 (fun n => rfl) hw
  · rw [if_neg hc] at hw
    refine zT_st (pc' := 55) (L' := [some (.ref a0), some (.int a1), none]) (st' := []) (h' := h13) 1 (fun n => if_neg hc) ?_
    refine zT_st (pc' := 56) (L' := [some (.ref a0), some (.int a1), none]) (st' := [.ref a0]) (h' := h13) 1 (fun n => rfl) ?_
    obtain ⟨hq, hw⟩ := hw
    obtain ⟨x14, h15, hx, hw⟩ := hw
    refine zT_call (pc' := 59) (rest := []) 1 (fun n => rfl) hq hx ?_
    show zT E (d + 1) m_Reader_readText 59 [some (.ref a0), some (.int a1), none] [.int x14] h15 r
    by_cases hc : x14 = 0
    · rw [if_pos hc] at hw
      refine zT_st (pc' := 62) (L' := [some (.ref a0), some (.int a1), none]) (st' := []) (h' := h15) 1 (fun n => if_pos hc) ?_
      refine zT_st (pc' := 63) (L' := [some (.ref a0), some (.int a1), none]) (st' := [.ref a0]) (h' := h15) 1 (fun n => rfl) ?_
      obtain ⟨x16, e, hw⟩ := hw
      refine zT_st (pc' := 66) (L' := [some (.ref a0), some (.int a1), none]) (st' := [.int x16]) (h' := h15) 1 (fun n => fld_eq (E := E) e _) ?_
      subst hw
      exact zT_ret 1 rfl
    · rw [if_neg hc] at hw
      refine zT_st (pc' := 67) (L' := [some (.ref a0), some (.int a1), none]) (st' := []) (h' := h15) 1 (fun n => if_neg hc) ?_
      exact zT_st 2 (fun n => rfl) hw
set_option maxRecDepth 4000 in
theorem s_Reader_readText_69 (E : zX) (d : Nat) (a0 : Nat) (j1 : Option Value) (a2 : Int32) (h : zH) (r : zO × zH)
    (hw : if 700 ≤ a2 then (
      ∃ x1 : Int32, fld h a0 8 3 = some (.int x1) ∧
      r = (.inl (some (.int x1)), h))
    else (
      ∃ x2 : Int32, fld h a0 8 8 = some (.int x2) ∧
      if x2 = 0 then (
        ∃ x3 : Int32, fld h a0 8 3 = some (.int x3) ∧
        r = (.inl (some (.int x3)), h))
      else (
        isO h a0 8 = true ∧ ∃ (x4 : Int32) (h5 : zH), zT E d m_Reader_readLine 0 [some (.ref a0)] [] h (.inl (some (.int x4)), h5) ∧
        if x4 = 0 then (
          ∃ x6 : Int32, fld h5 a0 8 3 = some (.int x6) ∧
          r = (.inl (some (.int x6)), h5))
        else (
          zT E (d + 1) m_Reader_readText 69 [some (.ref a0), j1, some (.int (a2 + 1))] [] h5 r)))) :
    zT E (d + 1) m_Reader_readText 69 [some (.ref a0), j1, some (.int a2)] [] h r := by
  refine zT_st (pc' := 73) (L' := [some (.ref a0), j1, some (.int a2)]) (st' := [.int 700, .int a2]) (h' := h) 2 (fun n => rfl) ?_
  by_cases hc : 700 ≤ a2
  · rw [if_pos hc] at hw
    refine zT_st (pc' := 101) (L' := [some (.ref a0), j1, some (.int a2)]) (st' := []) (h' := h) 1 (fun n => if_pos hc) ?_
    refine zT_st (pc' := 102) (L' := [some (.ref a0), j1, some (.int a2)]) (st' := [.ref a0]) (h' := h) 1 (fun n => rfl) ?_
    obtain ⟨x1, e, hw⟩ := hw
    refine zT_st (pc' := 105) (L' := [some (.ref a0), j1, some (.int a2)]) (st' := [.int x1]) (h' := h) 1 (fun n => fld_eq (E := E) e _) ?_
    subst hw
    exact zT_ret 1 rfl
  · rw [if_neg hc] at hw
    refine zT_st (pc' := 76) (L' := [some (.ref a0), j1, some (.int a2)]) (st' := []) (h' := h) 1 (fun n => if_neg hc) ?_
    refine zT_st (pc' := 77) (L' := [some (.ref a0), j1, some (.int a2)]) (st' := [.ref a0]) (h' := h) 1 (fun n => rfl) ?_
    obtain ⟨x2, e, hw⟩ := hw
    refine zT_st (pc' := 80) (L' := [some (.ref a0), j1, some (.int a2)]) (st' := [.int x2]) (h' := h) 1 (fun n => fld_eq (E := E) e _) ?_
    by_cases hc : x2 = 0
    · rw [if_pos hc] at hw
      refine zT_st (pc' := 101) (L' := [some (.ref a0), j1, some (.int a2)]) (st' := []) (h' := h) 1 (fun n => if_pos hc) ?_
      refine zT_st (pc' := 102) (L' := [some (.ref a0), j1, some (.int a2)]) (st' := [.ref a0]) (h' := h) 1 (fun n => rfl) ?_
      obtain ⟨x3, e, hw⟩ := hw
      refine zT_st (pc' := 105) (L' := [some (.ref a0), j1, some (.int a2)]) (st' := [.int x3]) (h' := h) 1 (fun n => fld_eq (E := E) e _) ?_
      subst hw
      exact zT_ret 1 rfl
    · rw [if_neg hc] at hw
      refine zT_st (pc' := 83) (L' := [some (.ref a0), j1, some (.int a2)]) (st' := []) (h' := h) 1 (fun n => if_neg hc) ?_
      refine zT_st (pc' := 84) (L' := [some (.ref a0), j1, some (.int a2)]) (st' := [.ref a0]) (h' := h) 1 (fun n => rfl) ?_
      obtain ⟨hq, hw⟩ := hw
      obtain ⟨x4, h5, hx, hw⟩ := hw
      refine zT_call (pc' := 87) (rest := []) 1 (fun n => rfl) hq hx ?_
      show zT E (d + 1) m_Reader_readText 87 [some (.ref a0), j1, some (.int a2)] [.int x4] h5 r
      by_cases hc : x4 = 0
      · rw [if_pos hc] at hw
        refine zT_st (pc' := 90) (L' := [some (.ref a0), j1, some (.int a2)]) (st' := []) (h' := h5) 1 (fun n => if_pos hc) ?_
        refine zT_st (pc' := 91) (L' := [some (.ref a0), j1, some (.int a2)]) (st' := [.ref a0]) (h' := h5) 1 (fun n => rfl) ?_
        obtain ⟨x6, e, hw⟩ := hw
        refine zT_st (pc' := 94) (L' := [some (.ref a0), j1, some (.int a2)]) (st' := [.int x6]) (h' := h5) 1 (fun n => fld_eq (E := E) e _) ?_
        subst hw
        exact zT_ret 1 rfl
      · rw [if_neg hc] at hw
        refine zT_st (pc' := 95) (L' := [some (.ref a0), j1, some (.int a2)]) (st' := []) (h' := h5) 1 (fun n => if_neg hc) ?_
        exact zT_st 2 (fun n => rfl) hw
set_option maxRecDepth 4000 in
theorem s_Reader_nextToken_0 (E : zX) (d : Nat) (a0 : Nat) (h : zH) (r : zO × zH)
    (hw : ∃ x1 : Int32, fld h a0 8 7 = some (.int x1) ∧
    (∃ w, fld h a0 8 6 = some w) ∧
    zT E (d + 1) m_Reader_nextToken 8 [some (.ref a0)] [] (setF h a0 6 (.int x1)) r) :
    zT E (d + 1) m_Reader_nextToken 0 [some (.ref a0)] [] h r := by
  refine zT_st (pc' := 2) (L' := [some (.ref a0)]) (st' := [.ref a0, .ref a0]) (h' := h) 2 (fun n => rfl) ?_
  obtain ⟨x1, e, hw⟩ := hw
  refine zT_st (pc' := 5) (L' := [some (.ref a0)]) (st' := [.int x1, .ref a0]) (h' := h) 1 (fun n => fld_eq (E := E) e _) ?_
  obtain ⟨⟨w, e⟩, hw⟩ := hw
  refine zT_st (pc' := 8) (L' := [some (.ref a0)]) (st' := []) (h' := (setF h a0 6 (.int x1))) 1 (fun n => put_eq e rfl _ _) ?_
  exact hw
set_option maxRecDepth 4000 in
theorem s_Reader_nextToken_8 (E : zX) (d : Nat) (a0 : Nat) (h : zH) (r : zO × zH)
    (hw : ∃ x1 : Int32, fld h a0 8 6 = some (.int x1) ∧
    ∃ x2 : Int32, fld h a0 8 5 = some (.int x2) ∧
    if x2 ≤ x1 then (
      zT E (d + 1) m_Reader_nextToken 60 [some (.ref a0)] [] h r)
    else (
      ∃ o3 : Nat, fld h a0 8 4 = some (.ref o3) ∧
      ∃ x4 : Int32, fld h a0 8 6 = some (.int x4) ∧
      ∃ (n5 : Nat) (f6 : Nat → Int32), arr h o3 = some (n5, f6) ∧ ¬ (x4 < 0 ∨ n5 ≤ (x4).toNatClampNeg) ∧
      if (f6 (x4).toNatClampNeg) = 32 then (
        ∃ x7 : Int32, fld h a0 8 6 = some (.int x7) ∧
        (∃ w, fld h a0 8 6 = some w) ∧
        zT E (d + 1) m_Reader_nextToken 8 [some (.ref a0)] [] (setF h a0 6 (.int (x7 + 1))) r)
      else (
        ∃ o8 : Nat, fld h a0 8 4 = some (.ref o8) ∧
        ∃ x9 : Int32, fld h a0 8 6 = some (.int x9) ∧
        ∃ (n10 : Nat) (f11 : Nat → Int32), arr h o8 = some (n10, f11) ∧ ¬ (x9 < 0 ∨ n10 ≤ (x9).toNatClampNeg) ∧
        if (f11 (x9).toNatClampNeg) = 10 then (
          ∃ x12 : Int32, fld h a0 8 6 = some (.int x12) ∧
          (∃ w, fld h a0 8 6 = some w) ∧
          zT E (d + 1) m_Reader_nextToken 8 [some (.ref a0)] [] (setF h a0 6 (.int (x12 + 1))) r)
        else (
          zT E (d + 1) m_Reader_nextToken 60 [some (.ref a0)] [] h r)))) :
    zT E (d + 1) m_Reader_nextToken 8 [some (.ref a0)] [] h r := by
  refine zT_st (pc' := 9) (L' := [some (.ref a0)]) (st' := [.ref a0]) (h' := h) 1 (fun n => rfl) ?_
  obtain ⟨x1, e, hw⟩ := hw
  refine zT_st (pc' := 12) (L' := [some (.ref a0)]) (st' := [.int x1]) (h' := h) 1 (fun n => fld_eq (E := E) e _) ?_
  refine zT_st (pc' := 13) (L' := [some (.ref a0)]) (st' := [.ref a0, .int x1]) (h' := h) 1 (fun n => rfl) ?_
  obtain ⟨x2, e, hw⟩ := hw
  refine zT_st (pc' := 16) (L' := [some (.ref a0)]) (st' := [.int x2, .int x1]) (h' := h) 1 (fun n => fld_eq (E := E) e _) ?_
  by_cases hc : x2 ≤ x1
  · rw [if_pos hc] at hw
    refine zT_st (pc' := 60) (L' := [some (.ref a0)]) (st' := []) (h' := h) 1 (fun n => if_pos hc) ?_
    exact hw
  · rw [if_neg hc] at hw
    refine zT_st (pc' := 19) (L' := [some (.ref a0)]) (st' := []) (h' := h) 1 (fun n => if_neg hc) ?_
    refine zT_st (pc' := 20) (L' := [some (.ref a0)]) (st' := [.ref a0]) (h' := h) 1 (fun n => rfl) ?_
    obtain ⟨o3, e, hw⟩ := hw
    refine zT_st (pc' := 23) (L' := [some (.ref a0)]) (st' := [.ref o3]) (h' := h) 1 (fun n => fld_eq (E := E) e _) ?_
    refine zT_st (pc' := 24) (L' := [some (.ref a0)]) (st' := [.ref a0, .ref o3]) (h' := h) 1 (fun n => rfl) ?_
    obtain ⟨x4, e, hw⟩ := hw
    refine zT_st (pc' := 27) (L' := [some (.ref a0)]) (st' := [.int x4, .ref o3]) (h' := h) 1 (fun n => fld_eq (E := E) e _) ?_
    obtain ⟨n5, f6, e, hi, hw⟩ := hw
    refine zT_st (pc' := 28) (L' := [some (.ref a0)]) (st' := [.int (f6 (x4).toNatClampNeg)]) (h' := h) 1 (fun n => arr_eq (E := E) e hi [] (fun st => zrun zP zCd E n (d + 1) m_Reader_nextToken 28 [some (.ref a0)] st h)) ?_
    refine zT_st (pc' := 30) (L' := [some (.ref a0)]) (st' := [.int 32, .int (f6 (x4).toNatClampNeg)]) (h' := h) 1 (fun n => rfl) ?_
    by_cases hc : (f6 (x4).toNatClampNeg) = 32
    · rw [if_pos hc] at hw
      refine zT_st (pc' := 47) (L' := [some (.ref a0)]) (st' := []) (h' := h) 1 (fun n => if_pos hc) ?_
      refine zT_st (pc' := 49) (L' := [some (.ref a0)]) (st' := [.ref a0, .ref a0]) (h' := h) 2 (fun n => rfl) ?_
      obtain ⟨x7, e, hw⟩ := hw
      refine zT_st (pc' := 52) (L' := [some (.ref a0)]) (st' := [.int x7, .ref a0]) (h' := h) 1 (fun n => fld_eq (E := E) e _) ?_
      refine zT_st (pc' := 54) (L' := [some (.ref a0)]) (st' := [.int (x7 + 1), .ref a0]) (h' := h) 2 (fun n => rfl) ?_
      obtain ⟨⟨w, e⟩, hw⟩ := hw
      refine zT_st (pc' := 57) (L' := [some (.ref a0)]) (st' := []) (h' := (setF h a0 6 (.int (x7 + 1)))) 1 (fun n => put_eq e rfl _ _) ?_
      exact zT_st 1 (fun n => rfl) hw
    · rw [if_neg hc] at hw
      refine zT_st (pc' := 33) (L' := [some (.ref a0)]) (st' := []) (h' := h) 1 (fun n => if_neg hc) ?_
      refine zT_st (pc' := 34) (L' := [some (.ref a0)]) (st' := [.ref a0]) (h' := h) 1 (fun n => rfl) ?_
      obtain ⟨o8, e, hw⟩ := hw
      refine zT_st (pc' := 37) (L' := [some (.ref a0)]) (st' := [.ref o8]) (h' := h) 1 (fun n => fld_eq (E := E) e _) ?_
      refine zT_st (pc' := 38) (L' := [some (.ref a0)]) (st' := [.ref a0, .ref o8]) (h' := h) 1 (fun n => rfl) ?_
      obtain ⟨x9, e, hw⟩ := hw
      refine zT_st (pc' := 41) (L' := [some (.ref a0)]) (st' := [.int x9, .ref o8]) (h' := h) 1 (fun n => fld_eq (E := E) e _) ?_
      obtain ⟨n10, f11, e, hi, hw⟩ := hw
      refine zT_st (pc' := 42) (L' := [some (.ref a0)]) (st' := [.int (f11 (x9).toNatClampNeg)]) (h' := h) 1 (fun n => arr_eq (E := E) e hi [] (fun st => zrun zP zCd E n (d + 1) m_Reader_nextToken 42 [some (.ref a0)] st h)) ?_
      refine zT_st (pc' := 44) (L' := [some (.ref a0)]) (st' := [.int 10, .int (f11 (x9).toNatClampNeg)]) (h' := h) 1 (fun n => rfl) ?_
      by_cases hc : (f11 (x9).toNatClampNeg) = 10
      · rw [if_pos hc] at hw
        refine zT_st (pc' := 47) (L' := [some (.ref a0)]) (st' := []) (h' := h) 1 (fun n => if_pos hc) ?_
        refine zT_st (pc' := 49) (L' := [some (.ref a0)]) (st' := [.ref a0, .ref a0]) (h' := h) 2 (fun n => rfl) ?_
        obtain ⟨x12, e, hw⟩ := hw
        refine zT_st (pc' := 52) (L' := [some (.ref a0)]) (st' := [.int x12, .ref a0]) (h' := h) 1 (fun n => fld_eq (E := E) e _) ?_
        refine zT_st (pc' := 54) (L' := [some (.ref a0)]) (st' := [.int (x12 + 1), .ref a0]) (h' := h) 2 (fun n => rfl) ?_
        obtain ⟨⟨w, e⟩, hw⟩ := hw
        refine zT_st (pc' := 57) (L' := [some (.ref a0)]) (st' := []) (h' := (setF h a0 6 (.int (x12 + 1)))) 1 (fun n => put_eq e rfl _ _) ?_
        exact zT_st 1 (fun n => rfl) hw
      · rw [if_neg hc] at hw
        refine zT_st (pc' := 60) (L' := [some (.ref a0)]) (st' := []) (h' := h) 1 (fun n => if_neg hc) ?_
        exact hw
set_option maxRecDepth 4000 in
theorem s_Reader_nextToken_60 (E : zX) (d : Nat) (a0 : Nat) (h : zH) (r : zO × zH)
    (hw : ∃ x1 : Int32, fld h a0 8 6 = some (.int x1) ∧
    (∃ w, fld h a0 8 7 = some w) ∧
    ∃ x2 : Int32, fld (setF h a0 7 (.int x1)) a0 8 6 = some (.int x2) ∧
    ∃ x3 : Int32, fld (setF h a0 7 (.int x1)) a0 8 5 = some (.int x3) ∧
    if x2 < x3 then (
      ∃ o4 : Nat, fld (setF h a0 7 (.int x1)) a0 8 4 = some (.ref o4) ∧
      ∃ x5 : Int32, fld (setF h a0 7 (.int x1)) a0 8 6 = some (.int x5) ∧
      ∃ (n6 : Nat) (f7 : Nat → Int32), arr (setF h a0 7 (.int x1)) o4 = some (n6, f7) ∧ ¬ (x5 < 0 ∨ n6 ≤ (x5).toNatClampNeg) ∧
      ∃ (x8 : Int32) (h9 : zH), zT E d m_Reader_isLetter 0 [some (.int (f7 (x5).toNatClampNeg))] [] (setF h a0 7 (.int x1)) (.inl (some (.int x8)), h9) ∧
      if x8 = 0 then (
        ∃ o10 : Nat, fld h9 a0 8 4 = some (.ref o10) ∧
        ∃ x11 : Int32, fld h9 a0 8 6 = some (.int x11) ∧
        ∃ (n12 : Nat) (f13 : Nat → Int32), arr h9 o10 = some (n12, f13) ∧ ¬ (x11 < 0 ∨ n12 ≤ (x11).toNatClampNeg) ∧
        ∃ (x14 : Int32) (h15 : zH), zT E d m_Reader_isDigit 0 [some (.int (f13 (x11).toNatClampNeg))] [] h9 (.inl (some (.int x14)), h15) ∧
        if x14 = 0 then (
          ∃ o16 : Nat, fld h15 a0 8 4 = some (.ref o16) ∧
          ∃ x17 : Int32, fld h15 a0 8 6 = some (.int x17) ∧
          ∃ (n18 : Nat) (f19 : Nat → Int32), arr h15 o16 = some (n18, f19) ∧ ¬ (x17 < 0 ∨ n18 ≤ (x17).toNatClampNeg) ∧
          isT E 1 = true ∧ ∃ (x20 : Int32) (h21 : zH), zT E d m_String_indexOf_I 0 [some (.float 1), some (.int (zi2c (f19 (x17).toNatClampNeg)))] [] h15 (.inl (some (.int x20)), h21) ∧
          if x20 < 0 then (
            (∃ w, fld h21 a0 8 8 = some w) ∧
            ∃ x22 : Int32, fld (setF h21 a0 8 (.int 4)) a0 8 7 = some (.int x22) ∧
            (∃ w, fld (setF h21 a0 8 (.int 4)) a0 8 7 = some w) ∧
            r = (.inl (none), (setF (setF h21 a0 8 (.int 4)) a0 7 (.int (x22 + 1)))))
          else (
            (∃ w, fld h21 a0 8 8 = some w) ∧
            ∃ x23 : Int32, fld (setF h21 a0 8 (.int 3)) a0 8 7 = some (.int x23) ∧
            (∃ w, fld (setF h21 a0 8 (.int 3)) a0 8 7 = some w) ∧
            r = (.inl (none), (setF (setF h21 a0 8 (.int 3)) a0 7 (.int (x23 + 1))))))
        else (
          (∃ w, fld h15 a0 8 8 = some w) ∧
          (∃ w, fld (setF h15 a0 8 (.int 2)) a0 8 9 = some w) ∧
          zT E (d + 1) m_Reader_nextToken 171 [some (.ref a0)] [] (setF (setF h15 a0 8 (.int 2)) a0 9 (.int 0)) r))
      else (
        (∃ w, fld h9 a0 8 8 = some w) ∧
        zT E (d + 1) m_Reader_nextToken 107 [some (.ref a0)] [] (setF h9 a0 8 (.int 1)) r))
    else (
      (∃ w, fld (setF h a0 7 (.int x1)) a0 8 8 = some w) ∧
      r = (.inl (none), (setF (setF h a0 7 (.int x1)) a0 8 (.int 0))))) :
    zT E (d + 1) m_Reader_nextToken 60 [some (.ref a0)] [] h r := by
  refine zT_st (pc' := 62) (L' := [some (.ref a0)]) (st' := [.ref a0, .ref a0]) (h' := h) 2 (fun n => rfl) ?_
  obtain ⟨x1, e, hw⟩ := hw
  refine zT_st (pc' := 65) (L' := [some (.ref a0)]) (st' := [.int x1, .ref a0]) (h' := h) 1 (fun n => fld_eq (E := E) e _) ?_
  obtain ⟨⟨w, e⟩, hw⟩ := hw
  refine zT_st (pc' := 68) (L' := [some (.ref a0)]) (st' := []) (h' := (setF h a0 7 (.int x1))) 1 (fun n => put_eq e rfl _ _) ?_
  refine zT_st (pc' := 69) (L' := [some (.ref a0)]) (st' := [.ref a0]) (h' := (setF h a0 7 (.int x1))) 1 (fun n => rfl) ?_
  obtain ⟨x2, e, hw⟩ := hw
  refine zT_st (pc' := 72) (L' := [some (.ref a0)]) (st' := [.int x2]) (h' := (setF h a0 7 (.int x1))) 1 (fun n => fld_eq (E := E) e _) ?_
  refine zT_st (pc' := 73) (L' := [some (.ref a0)]) (st' := [.ref a0, .int x2]) (h' := (setF h a0 7 (.int x1))) 1 (fun n => rfl) ?_
  obtain ⟨x3, e, hw⟩ := hw
  refine zT_st (pc' := 76) (L' := [some (.ref a0)]) (st' := [.int x3, .int x2]) (h' := (setF h a0 7 (.int x1))) 1 (fun n => fld_eq (E := E) e _) ?_
  by_cases hc : x2 < x3
  · rw [if_pos hc] at hw
    refine zT_st (pc' := 87) (L' := [some (.ref a0)]) (st' := []) (h' := (setF h a0 7 (.int x1))) 1 (fun n => if_pos hc) ?_
    refine zT_st (pc' := 88) (L' := [some (.ref a0)]) (st' := [.ref a0]) (h' := (setF h a0 7 (.int x1))) 1 (fun n => rfl) ?_
    obtain ⟨o4, e, hw⟩ := hw
    refine zT_st (pc' := 91) (L' := [some (.ref a0)]) (st' := [.ref o4]) (h' := (setF h a0 7 (.int x1))) 1 (fun n => fld_eq (E := E) e _) ?_
    refine zT_st (pc' := 92) (L' := [some (.ref a0)]) (st' := [.ref a0, .ref o4]) (h' := (setF h a0 7 (.int x1))) 1 (fun n => rfl) ?_
    obtain ⟨x5, e, hw⟩ := hw
    refine zT_st (pc' := 95) (L' := [some (.ref a0)]) (st' := [.int x5, .ref o4]) (h' := (setF h a0 7 (.int x1))) 1 (fun n => fld_eq (E := E) e _) ?_
    obtain ⟨n6, f7, e, hi, hw⟩ := hw
    refine zT_st (pc' := 96) (L' := [some (.ref a0)]) (st' := [.int (f7 (x5).toNatClampNeg)]) (h' := (setF h a0 7 (.int x1))) 1 (fun n => arr_eq (E := E) e hi [] (fun st => zrun zP zCd E n (d + 1) m_Reader_nextToken 96 [some (.ref a0)] st (setF h a0 7 (.int x1)))) ?_
    obtain ⟨x8, h9, hx, hw⟩ := hw
    refine zT_call (pc' := 99) (rest := []) 1 (fun n => rfl) rfl hx ?_
    show zT E (d + 1) m_Reader_nextToken 99 [some (.ref a0)] [.int x8] h9 r
    by_cases hc : x8 = 0
    · rw [if_pos hc] at hw
      refine zT_st (pc' := 146) (L' := [some (.ref a0)]) (st' := []) (h' := h9) 1 (fun n => if_pos hc) ?_
      refine zT_st (pc' := 147) (L' := [some (.ref a0)]) (st' := [.ref a0]) (h' := h9) 1 (fun n => rfl) ?_
      obtain ⟨o10, e, hw⟩ := hw
      refine zT_st (pc' := 150) (L' := [some (.ref a0)]) (st' := [.ref o10]) (h' := h9) 1 (fun n => fld_eq (E := E) e _) ?_
      refine zT_st (pc' := 151) (L' := [some (.ref a0)]) (st' := [.ref a0, .ref o10]) (h' := h9) 1 (fun n => rfl) ?_
      obtain ⟨x11, e, hw⟩ := hw
      refine zT_st (pc' := 154) (L' := [some (.ref a0)]) (st' := [.int x11, .ref o10]) (h' := h9) 1 (fun n => fld_eq (E := E) e _) ?_
      obtain ⟨n12, f13, e, hi, hw⟩ := hw
      refine zT_st (pc' := 155) (L' := [some (.ref a0)]) (st' := [.int (f13 (x11).toNatClampNeg)]) (h' := h9) 1 (fun n => arr_eq (E := E) e hi [] (fun st => zrun zP zCd E n (d + 1) m_Reader_nextToken 155 [some (.ref a0)] st h9)) ?_
      obtain ⟨x14, h15, hx, hw⟩ := hw
      refine zT_call (pc' := 158) (rest := []) 1 (fun n => rfl) rfl hx ?_
      show zT E (d + 1) m_Reader_nextToken 158 [some (.ref a0)] [.int x14] h15 r
      by_cases hc : x14 = 0
      · rw [if_pos hc] at hw
        refine zT_st (pc' := 264) (L' := [some (.ref a0)]) (st' := []) (h' := h15) 1 (fun n => if_pos hc) ?_
        refine zT_st (pc' := 268) (L' := [some (.ref a0)]) (st' := [.ref a0, .float 1, .ref a0]) (h' := h15) 3 (fun n => rfl) ?_
        obtain ⟨o16, e, hw⟩ := hw
        refine zT_st (pc' := 271) (L' := [some (.ref a0)]) (st' := [.ref o16, .float 1, .ref a0]) (h' := h15) 1 (fun n => fld_eq (E := E) e _) ?_
        refine zT_st (pc' := 272) (L' := [some (.ref a0)]) (st' := [.ref a0, .ref o16, .float 1, .ref a0]) (h' := h15) 1 (fun n => rfl) ?_
        obtain ⟨x17, e, hw⟩ := hw
        refine zT_st (pc' := 275) (L' := [some (.ref a0)]) (st' := [.int x17, .ref o16, .float 1, .ref a0]) (h' := h15) 1 (fun n => fld_eq (E := E) e _) ?_
        obtain ⟨n18, f19, e, hi, hw⟩ := hw
        refine zT_st (pc' := 276) (L' := [some (.ref a0)]) (st' := [.int (f19 (x17).toNatClampNeg), .float 1, .ref a0]) (h' := h15) 1 (fun n => arr_eq (E := E) e hi [.float 1, .ref a0] (fun st => zrun zP zCd E n (d + 1) m_Reader_nextToken 276 [some (.ref a0)] st h15)) ?_
        refine zT_st (pc' := 277) (L' := [some (.ref a0)]) (st' := [.int (zi2c (f19 (x17).toNatClampNeg)), .float 1, .ref a0]) (h' := h15) 1 (fun n => rfl) ?_
        obtain ⟨hq, hw⟩ := hw
        obtain ⟨x20, h21, hx, hw⟩ := hw
        refine zT_call (pc' := 280) (rest := [.ref a0]) 1 (fun n => rfl) hq hx ?_
        show zT E (d + 1) m_Reader_nextToken 280 [some (.ref a0)] [.int x20, .ref a0] h21 r
        by_cases hc : x20 < 0
        · rw [if_pos hc] at hw
          refine zT_st (pc' := 287) (L' := [some (.ref a0)]) (st' := [.ref a0]) (h' := h21) 1 (fun n => if_pos hc) ?_
          refine zT_st (pc' := 288) (L' := [some (.ref a0)]) (st' := [.int 4, .ref a0]) (h' := h21) 1 (fun n => rfl) ?_
          obtain ⟨⟨w, e⟩, hw⟩ := hw
          refine zT_st (pc' := 291) (L' := [some (.ref a0)]) (st' := []) (h' := (setF h21 a0 8 (.int 4))) 1 (fun n => put_eq e rfl _ _) ?_
          refine zT_st (pc' := 293) (L' := [some (.ref a0)]) (st' := [.ref a0, .ref a0]) (h' := (setF h21 a0 8 (.int 4))) 2 (fun n => rfl) ?_
          obtain ⟨x22, e, hw⟩ := hw
          refine zT_st (pc' := 296) (L' := [some (.ref a0)]) (st' := [.int x22, .ref a0]) (h' := (setF h21 a0 8 (.int 4))) 1 (fun n => fld_eq (E := E) e _) ?_
          refine zT_st (pc' := 298) (L' := [some (.ref a0)]) (st' := [.int (x22 + 1), .ref a0]) (h' := (setF h21 a0 8 (.int 4))) 2 (fun n => rfl) ?_
          obtain ⟨⟨w, e⟩, hw⟩ := hw
          refine zT_st (pc' := 301) (L' := [some (.ref a0)]) (st' := []) (h' := (setF (setF h21 a0 8 (.int 4)) a0 7 (.int (x22 + 1)))) 1 (fun n => put_eq e rfl _ _) ?_
          subst hw
          exact zT_ret 1 rfl
        · rw [if_neg hc] at hw
          refine zT_st (pc' := 283) (L' := [some (.ref a0)]) (st' := [.ref a0]) (h' := h21) 1 (fun n => if_neg hc) ?_
          refine zT_st (pc' := 288) (L' := [some (.ref a0)]) (st' := [.int 3, .ref a0]) (h' := h21) 2 (fun n => rfl) ?_
          obtain ⟨⟨w, e⟩, hw⟩ := hw
          refine zT_st (pc' := 291) (L' := [some (.ref a0)]) (st' := []) (h' := (setF h21 a0 8 (.int 3))) 1 (fun n => put_eq e rfl _ _) ?_
          refine zT_st (pc' := 293) (L' := [some (.ref a0)]) (st' := [.ref a0, .ref a0]) (h' := (setF h21 a0 8 (.int 3))) 2 (fun n => rfl) ?_
          obtain ⟨x23, e, hw⟩ := hw
          refine zT_st (pc' := 296) (L' := [some (.ref a0)]) (st' := [.int x23, .ref a0]) (h' := (setF h21 a0 8 (.int 3))) 1 (fun n => fld_eq (E := E) e _) ?_
          refine zT_st (pc' := 298) (L' := [some (.ref a0)]) (st' := [.int (x23 + 1), .ref a0]) (h' := (setF h21 a0 8 (.int 3))) 2 (fun n => rfl) ?_
          obtain ⟨⟨w, e⟩, hw⟩ := hw
          refine zT_st (pc' := 301) (L' := [some (.ref a0)]) (st' := []) (h' := (setF (setF h21 a0 8 (.int 3)) a0 7 (.int (x23 + 1)))) 1 (fun n => put_eq e rfl _ _) ?_
          subst hw
          exact zT_ret 1 rfl
      · rw [if_neg hc] at hw
        refine zT_st (pc' := 161) (L' := [some (.ref a0)]) (st' := []) (h' := h15) 1 (fun n => if_neg hc) ?_
        refine zT_st (pc' := 163) (L' := [some (.ref a0)]) (st' := [.int 2, .ref a0]) (h' := h15) 2 (fun n => rfl) ?_
        obtain ⟨⟨w, e⟩, hw⟩ := hw
        refine zT_st (pc' := 166) (L' := [some (.ref a0)]) (st' := []) (h' := (setF h15 a0 8 (.int 2))) 1 (fun n => put_eq e rfl _ _) ?_
        refine zT_st (pc' := 168) (L' := [some (.ref a0)]) (st' := [.int 0, .ref a0]) (h' := (setF h15 a0 8 (.int 2))) 2 (fun n => rfl) ?_
        obtain ⟨⟨w, e⟩, hw⟩ := hw
        refine zT_st (pc' := 171) (L' := [some (.ref a0)]) (st' := []) (h' := (setF (setF h15 a0 8 (.int 2)) a0 9 (.int 0))) 1 (fun n => put_eq e rfl _ _) ?_
        exact hw
    · rw [if_neg hc] at hw
      refine zT_st (pc' := 102) (L' := [some (.ref a0)]) (st' := []) (h' := h9) 1 (fun n => if_neg hc) ?_
      refine zT_st (pc' := 104) (L' := [some (.ref a0)]) (st' := [.int 1, .ref a0]) (h' := h9) 2 (fun n => rfl) ?_
      obtain ⟨⟨w, e⟩, hw⟩ := hw
      refine zT_st (pc' := 107) (L' := [some (.ref a0)]) (st' := []) (h' := (setF h9 a0 8 (.int 1))) 1 (fun n => put_eq e rfl _ _) ?_
      exact hw
  · rw [if_neg hc] at hw
    refine zT_st (pc' := 79) (L' := [some (.ref a0)]) (st' := []) (h' := (setF h a0 7 (.int x1))) 1 (fun n => if_neg hc) ?_
    refine zT_st (pc' := 81) (L' := [some (.ref a0)]) (st' := [.int 0, .ref a0]) (h' := (setF h a0 7 (.int x1))) 2 (fun n => rfl) ?_
    obtain ⟨⟨w, e⟩, hw⟩ := hw
    refine zT_st (pc' := 84) (L' := [some (.ref a0)]) (st' := []) (h' := (setF (setF h a0 7 (.int x1)) a0 8 (.int 0))) 1 (fun n => put_eq e rfl _ _) ?_
    subst hw
    exact zT_ret 2 rfl
set_option maxRecDepth 4000 in
theorem s_Reader_nextToken_107 (E : zX) (d : Nat) (a0 : Nat) (h : zH) (r : zO × zH)
    (hw : ∃ x1 : Int32, fld h a0 8 7 = some (.int x1) ∧
    ∃ x2 : Int32, fld h a0 8 5 = some (.int x2) ∧
    if x2 ≤ x1 then (
      r = (.inl (none), h))
    else (
      ∃ o3 : Nat, fld h a0 8 4 = some (.ref o3) ∧
      ∃ x4 : Int32, fld h a0 8 7 = some (.int x4) ∧
      ∃ (n5 : Nat) (f6 : Nat → Int32), arr h o3 = some (n5, f6) ∧ ¬ (x4 < 0 ∨ n5 ≤ (x4).toNatClampNeg) ∧
      ∃ (x7 : Int32) (h8 : zH), zT E d m_Reader_isLetter 0 [some (.int (f6 (x4).toNatClampNeg))] [] h (.inl (some (.int x7)), h8) ∧
      if x7 = 0 then (
        r = (.inl (none), h8))
      else (
        ∃ x9 : Int32, fld h8 a0 8 7 = some (.int x9) ∧
        (∃ w, fld h8 a0 8 7 = some w) ∧
        zT E (d + 1) m_Reader_nextToken 107 [some (.ref a0)] [] (setF h8 a0 7 (.int (x9 + 1))) r))) :
    zT E (d + 1) m_Reader_nextToken 107 [some (.ref a0)] [] h r := by
  refine zT_st (pc' := 108) (L' := [some (.ref a0)]) (st' := [.ref a0]) (h' := h) 1 (fun n => rfl) ?_
  obtain ⟨x1, e, hw⟩ := hw
  refine zT_st (pc' := 111) (L' := [some (.ref a0)]) (st' := [.int x1]) (h' := h) 1 (fun n => fld_eq (E := E) e _) ?_
  refine zT_st (pc' := 112) (L' := [some (.ref a0)]) (st' := [.ref a0, .int x1]) (h' := h) 1 (fun n => rfl) ?_
  obtain ⟨x2, e, hw⟩ := hw
  refine zT_st (pc' := 115) (L' := [some (.ref a0)]) (st' := [.int x2, .int x1]) (h' := h) 1 (fun n => fld_eq (E := E) e _) ?_
  by_cases hc : x2 ≤ x1
  · rw [if_pos hc] at hw
    refine zT_st (pc' := 301) (L' := [some (.ref a0)]) (st' := []) (h' := h) 1 (fun n => if_pos hc) ?_
    subst hw
    exact zT_ret 1 rfl
  · rw [if_neg hc] at hw
    refine zT_st (pc' := 118) (L' := [some (.ref a0)]) (st' := []) (h' := h) 1 (fun n => if_neg hc) ?_
    refine zT_st (pc' := 119) (L' := [some (.ref a0)]) (st' := [.ref a0]) (h' := h) 1 (fun n => rfl) ?_
    obtain ⟨o3, e, hw⟩ := hw
    refine zT_st (pc' := 122) (L' := [some (.ref a0)]) (st' := [.ref o3]) (h' := h) 1 (fun n => fld_eq (E := E) e _) ?_
    refine zT_st (pc' := 123) (L' := [some (.ref a0)]) (st' := [.ref a0, .ref o3]) (h' := h) 1 (fun n => rfl) ?_
    obtain ⟨x4, e, hw⟩ := hw
    refine zT_st (pc' := 126) (L' := [some (.ref a0)]) (st' := [.int x4, .ref o3]) (h' := h) 1 (fun n => fld_eq (E := E) e _) ?_
    obtain ⟨n5, f6, e, hi, hw⟩ := hw
    refine zT_st (pc' := 127) (L' := [some (.ref a0)]) (st' := [.int (f6 (x4).toNatClampNeg)]) (h' := h) 1 (fun n => arr_eq (E := E) e hi [] (fun st => zrun zP zCd E n (d + 1) m_Reader_nextToken 127 [some (.ref a0)] st h)) ?_
    obtain ⟨x7, h8, hx, hw⟩ := hw
    refine zT_call (pc' := 130) (rest := []) 1 (fun n => rfl) rfl hx ?_
    show zT E (d + 1) m_Reader_nextToken 130 [some (.ref a0)] [.int x7] h8 r
    by_cases hc : x7 = 0
    · rw [if_pos hc] at hw
      refine zT_st (pc' := 301) (L' := [some (.ref a0)]) (st' := []) (h' := h8) 1 (fun n => if_pos hc) ?_
      subst hw
      exact zT_ret 1 rfl
    · rw [if_neg hc] at hw
      refine zT_st (pc' := 133) (L' := [some (.ref a0)]) (st' := []) (h' := h8) 1 (fun n => if_neg hc) ?_
      refine zT_st (pc' := 135) (L' := [some (.ref a0)]) (st' := [.ref a0, .ref a0]) (h' := h8) 2 (fun n => rfl) ?_
      obtain ⟨x9, e, hw⟩ := hw
      refine zT_st (pc' := 138) (L' := [some (.ref a0)]) (st' := [.int x9, .ref a0]) (h' := h8) 1 (fun n => fld_eq (E := E) e _) ?_
      refine zT_st (pc' := 140) (L' := [some (.ref a0)]) (st' := [.int (x9 + 1), .ref a0]) (h' := h8) 2 (fun n => rfl) ?_
      obtain ⟨⟨w, e⟩, hw⟩ := hw
      refine zT_st (pc' := 143) (L' := [some (.ref a0)]) (st' := []) (h' := (setF h8 a0 7 (.int (x9 + 1)))) 1 (fun n => put_eq e rfl _ _) ?_
      exact zT_st 1 (fun n => rfl) hw
set_option maxRecDepth 4000 in
theorem s_Reader_nextToken_171 (E : zX) (d : Nat) (a0 : Nat) (h : zH) (r : zO × zH)
    (hw : ∃ x1 : Int32, fld h a0 8 7 = some (.int x1) ∧
    ∃ x2 : Int32, fld h a0 8 5 = some (.int x2) ∧
    if x2 ≤ x1 then (
      zT E (d + 1) m_Reader_nextToken 239 [some (.ref a0)] [] h r)
    else (
      ∃ o3 : Nat, fld h a0 8 4 = some (.ref o3) ∧
      ∃ x4 : Int32, fld h a0 8 7 = some (.int x4) ∧
      ∃ (n5 : Nat) (f6 : Nat → Int32), arr h o3 = some (n5, f6) ∧ ¬ (x4 < 0 ∨ n5 ≤ (x4).toNatClampNeg) ∧
      ∃ (x7 : Int32) (h8 : zH), zT E d m_Reader_isDigit 0 [some (.int (f6 (x4).toNatClampNeg))] [] h (.inl (some (.int x7)), h8) ∧
      if x7 = 0 then (
        zT E (d + 1) m_Reader_nextToken 239 [some (.ref a0)] [] h8 r)
      else (
        ∃ x9 : Int32, fld h8 a0 8 9 = some (.int x9) ∧
        ∃ o10 : Nat, fld h8 a0 8 4 = some (.ref o10) ∧
        ∃ x11 : Int32, fld h8 a0 8 7 = some (.int x11) ∧
        ∃ (n12 : Nat) (f13 : Nat → Int32), arr h8 o10 = some (n12, f13) ∧ ¬ (x11 < 0 ∨ n12 ≤ (x11).toNatClampNeg) ∧
        (∃ w, fld h8 a0 8 9 = some w) ∧
        ∃ x14 : Int32, fld (setF h8 a0 9 (.int (zmin (((x9 * 10) + (f13 (x11).toNatClampNeg)) - 48) 99999))) a0 8 7 = some (.int x14) ∧
        (∃ w, fld (setF h8 a0 9 (.int (zmin (((x9 * 10) + (f13 (x11).toNatClampNeg)) - 48) 99999))) a0 8 7 = some w) ∧
        zT E (d + 1) m_Reader_nextToken 171 [some (.ref a0)] [] (setF (setF h8 a0 9 (.int (zmin (((x9 * 10) + (f13 (x11).toNatClampNeg)) - 48) 99999))) a0 7 (.int (x14 + 1))) r))) :
    zT E (d + 1) m_Reader_nextToken 171 [some (.ref a0)] [] h r := by
  refine zT_st (pc' := 172) (L' := [some (.ref a0)]) (st' := [.ref a0]) (h' := h) 1 (fun n => rfl) ?_
  obtain ⟨x1, e, hw⟩ := hw
  refine zT_st (pc' := 175) (L' := [some (.ref a0)]) (st' := [.int x1]) (h' := h) 1 (fun n => fld_eq (E := E) e _) ?_
  refine zT_st (pc' := 176) (L' := [some (.ref a0)]) (st' := [.ref a0, .int x1]) (h' := h) 1 (fun n => rfl) ?_
  obtain ⟨x2, e, hw⟩ := hw
  refine zT_st (pc' := 179) (L' := [some (.ref a0)]) (st' := [.int x2, .int x1]) (h' := h) 1 (fun n => fld_eq (E := E) e _) ?_
  by_cases hc : x2 ≤ x1
  · rw [if_pos hc] at hw
    refine zT_st (pc' := 239) (L' := [some (.ref a0)]) (st' := []) (h' := h) 1 (fun n => if_pos hc) ?_
    exact hw
  · rw [if_neg hc] at hw
    refine zT_st (pc' := 182) (L' := [some (.ref a0)]) (st' := []) (h' := h) 1 (fun n => if_neg hc) ?_
    refine zT_st (pc' := 183) (L' := [some (.ref a0)]) (st' := [.ref a0]) (h' := h) 1 (fun n => rfl) ?_
    obtain ⟨o3, e, hw⟩ := hw
    refine zT_st (pc' := 186) (L' := [some (.ref a0)]) (st' := [.ref o3]) (h' := h) 1 (fun n => fld_eq (E := E) e _) ?_
    refine zT_st (pc' := 187) (L' := [some (.ref a0)]) (st' := [.ref a0, .ref o3]) (h' := h) 1 (fun n => rfl) ?_
    obtain ⟨x4, e, hw⟩ := hw
    refine zT_st (pc' := 190) (L' := [some (.ref a0)]) (st' := [.int x4, .ref o3]) (h' := h) 1 (fun n => fld_eq (E := E) e _) ?_
    obtain ⟨n5, f6, e, hi, hw⟩ := hw
    refine zT_st (pc' := 191) (L' := [some (.ref a0)]) (st' := [.int (f6 (x4).toNatClampNeg)]) (h' := h) 1 (fun n => arr_eq (E := E) e hi [] (fun st => zrun zP zCd E n (d + 1) m_Reader_nextToken 191 [some (.ref a0)] st h)) ?_
    obtain ⟨x7, h8, hx, hw⟩ := hw
    refine zT_call (pc' := 194) (rest := []) 1 (fun n => rfl) rfl hx ?_
    show zT E (d + 1) m_Reader_nextToken 194 [some (.ref a0)] [.int x7] h8 r
    by_cases hc : x7 = 0
    · rw [if_pos hc] at hw
      refine zT_st (pc' := 239) (L' := [some (.ref a0)]) (st' := []) (h' := h8) 1 (fun n => if_pos hc) ?_
      exact hw
    · rw [if_neg hc] at hw
      refine zT_st (pc' := 197) (L' := [some (.ref a0)]) (st' := []) (h' := h8) 1 (fun n => if_neg hc) ?_
      refine zT_st (pc' := 199) (L' := [some (.ref a0)]) (st' := [.ref a0, .ref a0]) (h' := h8) 2 (fun n => rfl) ?_
      obtain ⟨x9, e, hw⟩ := hw
      refine zT_st (pc' := 202) (L' := [some (.ref a0)]) (st' := [.int x9, .ref a0]) (h' := h8) 1 (fun n => fld_eq (E := E) e _) ?_
      refine zT_st (pc' := 206) (L' := [some (.ref a0)]) (st' := [.ref a0, .int (x9 * 10), .ref a0]) (h' := h8) 3 (fun n => rfl) ?_
      obtain ⟨o10, e, hw⟩ := hw
      refine zT_st (pc' := 209) (L' := [some (.ref a0)]) (st' := [.ref o10, .int (x9 * 10), .ref a0]) (h' := h8) 1 (fun n => fld_eq (E := E) e _) ?_
      refine zT_st (pc' := 210) (L' := [some (.ref a0)]) (st' := [.ref a0, .ref o10, .int (x9 * 10), .ref a0]) (h' := h8) 1 (fun n => rfl) ?_
      obtain ⟨x11, e, hw⟩ := hw
      refine zT_st (pc' := 213) (L' := [some (.ref a0)]) (st' := [.int x11, .ref o10, .int (x9 * 10), .ref a0]) (h' := h8) 1 (fun n => fld_eq (E := E) e _) ?_
      obtain ⟨n12, f13, e, hi, hw⟩ := hw
      refine zT_st (pc' := 214) (L' := [some (.ref a0)]) (st' := [.int (f13 (x11).toNatClampNeg), .int (x9 * 10), .ref a0]) (h' := h8) 1 (fun n => arr_eq (E := E) e hi [.int (x9 * 10), .ref a0] (fun st => zrun zP zCd E n (d + 1) m_Reader_nextToken 214 [some (.ref a0)] st h8)) ?_
      refine zT_st (pc' := 223) (L' := [some (.ref a0)]) (st' := [.int (zmin (((x9 * 10) + (f13 (x11).toNatClampNeg)) - 48) 99999), .ref a0]) (h' := h8) 5 (fun n => rfl) ?_
      obtain ⟨⟨w, e⟩, hw⟩ := hw
      refine zT_st (pc' := 226) (L' := [some (.ref a0)]) (st' := []) (h' := (setF h8 a0 9 (.int (zmin (((x9 * 10) + (f13 (x11).toNatClampNeg)) - 48) 99999)))) 1 (fun n => put_eq e rfl _ _) ?_
      refine zT_st (pc' := 228) (L' := [some (.ref a0)]) (st' := [.ref a0, .ref a0]) (h' := (setF h8 a0 9 (.int (zmin (((x9 * 10) + (f13 (x11).toNatClampNeg)) - 48) 99999)))) 2 (fun n => rfl) ?_
      obtain ⟨x14, e, hw⟩ := hw
      refine zT_st (pc' := 231) (L' := [some (.ref a0)]) (st' := [.int x14, .ref a0]) (h' := (setF h8 a0 9 (.int (zmin (((x9 * 10) + (f13 (x11).toNatClampNeg)) - 48) 99999)))) 1 (fun n => fld_eq (E := E) e _) ?_
      refine zT_st (pc' := 233) (L' := [some (.ref a0)]) (st' := [.int (x14 + 1), .ref a0]) (h' := (setF h8 a0 9 (.int (zmin (((x9 * 10) + (f13 (x11).toNatClampNeg)) - 48) 99999)))) 2 (fun n => rfl) ?_
      obtain ⟨⟨w, e⟩, hw⟩ := hw
      refine zT_st (pc' := 236) (L' := [some (.ref a0)]) (st' := []) (h' := (setF (setF h8 a0 9 (.int (zmin (((x9 * 10) + (f13 (x11).toNatClampNeg)) - 48) 99999))) a0 7 (.int (x14 + 1)))) 1 (fun n => put_eq e rfl _ _) ?_
      exact zT_st 1 (fun n => rfl) hw
set_option maxRecDepth 4000 in
theorem s_Reader_nextToken_239 (E : zX) (d : Nat) (a0 : Nat) (h : zH) (r : zO × zH)
    (hw : ∃ x1 : Int32, fld h a0 8 7 = some (.int x1) ∧
    ∃ x2 : Int32, fld h a0 8 6 = some (.int x2) ∧
    if (x1 - x2) ≤ 4 then (
      (∃ w, fld h a0 8 10 = some w) ∧
      r = (.inl (none), (setF h a0 10 (.int 0))))
    else (
      (∃ w, fld h a0 8 10 = some w) ∧
      r = (.inl (none), (setF h a0 10 (.int 1))))) :
    zT E (d + 1) m_Reader_nextToken 239 [some (.ref a0)] [] h r := by
  refine zT_st (pc' := 241) (L' := [some (.ref a0)]) (st' := [.ref a0, .ref a0]) (h' := h) 2 (fun n => rfl) ?_
  obtain ⟨x1, e, hw⟩ := hw
  refine zT_st (pc' := 244) (L' := [some (.ref a0)]) (st' := [.int x1, .ref a0]) (h' := h) 1 (fun n => fld_eq (E := E) e _) ?_
  refine zT_st (pc' := 245) (L' := [some (.ref a0)]) (st' := [.ref a0, .int x1, .ref a0]) (h' := h) 1 (fun n => rfl) ?_
  obtain ⟨x2, e, hw⟩ := hw
  refine zT_st (pc' := 248) (L' := [some (.ref a0)]) (st' := [.int x2, .int x1, .ref a0]) (h' := h) 1 (fun n => fld_eq (E := E) e _) ?_
  refine zT_st (pc' := 250) (L' := [some (.ref a0)]) (st' := [.int 4, .int (x1 - x2), .ref a0]) (h' := h) 2 (fun n => rfl) ?_
  by_cases hc : (x1 - x2) ≤ 4
  · rw [if_pos hc] at hw
    refine zT_st (pc' := 257) (L' := [some (.ref a0)]) (st' := [.ref a0]) (h' := h) 1 (fun n => if_pos hc) ?_
    refine zT_st (pc' := 258) (L' := [some (.ref a0)]) (st' := [.int 0, .ref a0]) (h' := h) 1 (fun n => rfl) ?_
    obtain ⟨⟨w, e⟩, hw⟩ := hw
    refine zT_st (pc' := 261) (L' := [some (.ref a0)]) (st' := []) (h' := (setF h a0 10 (.int 0))) 1 (fun n => put_eq e rfl _ _) ?_
    subst hw
    exact zT_ret 2 rfl
  · rw [if_neg hc] at hw
    refine zT_st (pc' := 253) (L' := [some (.ref a0)]) (st' := [.ref a0]) (h' := h) 1 (fun n => if_neg hc) ?_
    refine zT_st (pc' := 258) (L' := [some (.ref a0)]) (st' := [.int 1, .ref a0]) (h' := h) 2 (fun n => rfl) ?_
    obtain ⟨⟨w, e⟩, hw⟩ := hw
    refine zT_st (pc' := 261) (L' := [some (.ref a0)]) (st' := []) (h' := (setF h a0 10 (.int 1))) 1 (fun n => put_eq e rfl _ _) ?_
    subst hw
    exact zT_ret 2 rfl
set_option maxRecDepth 4000 in
theorem s_Reader_isLetter_0 (E : zX) (d : Nat) (a0 : Int32) (h : zH) (r : zO × zH)
    (hw : if a0 < 97 then (
      r = (.inl (some (.int 0)), h))
    else (
      if 122 < a0 then (
        r = (.inl (some (.int 0)), h))
      else (
        r = (.inl (some (.int 1)), h)))) :
    zT E d m_Reader_isLetter 0 [some (.int a0)] [] h r := by
  refine zT_st (pc' := 3) (L' := [some (.int a0)]) (st' := [.int 97, .int a0]) (h' := h) 2 (fun n => rfl) ?_
  by_cases hc : a0 < 97
  · rw [if_pos hc] at hw
    refine zT_st (pc' := 16) (L' := [some (.int a0)]) (st' := []) (h' := h) 1 (fun n => if_pos hc) ?_
    subst hw
    exact zT_ret 2 rfl
  · rw [if_neg hc] at hw
    refine zT_st (pc' := 6) (L' := [some (.int a0)]) (st' := []) (h' := h) 1 (fun n => if_neg hc) ?_
    refine zT_st (pc' := 9) (L' := [some (.int a0)]) (st' := [.int 122, .int a0]) (h' := h) 2 (fun n => rfl) ?_
    by_cases hc : 122 < a0
    · rw [if_pos hc] at hw
      refine zT_st (pc' := 16) (L' := [some (.int a0)]) (st' := []) (h' := h) 1 (fun n => if_pos hc) ?_
      subst hw
      exact zT_ret 2 rfl
    · rw [if_neg hc] at hw
      refine zT_st (pc' := 12) (L' := [some (.int a0)]) (st' := []) (h' := h) 1 (fun n => if_neg hc) ?_
      subst hw
      exact zT_ret 3 rfl
set_option maxRecDepth 4000 in
theorem s_Reader_isDigit_0 (E : zX) (d : Nat) (a0 : Int32) (h : zH) (r : zO × zH)
    (hw : if a0 < 48 then (
      r = (.inl (some (.int 0)), h))
    else (
      if 57 < a0 then (
        r = (.inl (some (.int 0)), h))
      else (
        r = (.inl (some (.int 1)), h)))) :
    zT E d m_Reader_isDigit 0 [some (.int a0)] [] h r := by
  refine zT_st (pc' := 3) (L' := [some (.int a0)]) (st' := [.int 48, .int a0]) (h' := h) 2 (fun n => rfl) ?_
  by_cases hc : a0 < 48
  · rw [if_pos hc] at hw
    refine zT_st (pc' := 16) (L' := [some (.int a0)]) (st' := []) (h' := h) 1 (fun n => if_pos hc) ?_
    subst hw
    exact zT_ret 2 rfl
  · rw [if_neg hc] at hw
    refine zT_st (pc' := 6) (L' := [some (.int a0)]) (st' := []) (h' := h) 1 (fun n => if_neg hc) ?_
    refine zT_st (pc' := 9) (L' := [some (.int a0)]) (st' := [.int 57, .int a0]) (h' := h) 2 (fun n => rfl) ?_
    by_cases hc : 57 < a0
    · rw [if_pos hc] at hw
      refine zT_st (pc' := 16) (L' := [some (.int a0)]) (st' := []) (h' := h) 1 (fun n => if_pos hc) ?_
      subst hw
      exact zT_ret 2 rfl
    · rw [if_neg hc] at hw
      refine zT_st (pc' := 12) (L' := [some (.int a0)]) (st' := []) (h' := h) 1 (fun n => if_neg hc) ?_
      subst hw
      exact zT_ret 3 rfl
set_option maxRecDepth 4000 in
theorem s_Reader_isWord_0 (E : zX) (d : Nat) (a0 : Nat) (a1 : UInt32) (h : zH) (r : zO × zH)
    (hw : ∃ x1 : Int32, fld h a0 8 8 = some (.int x1) ∧
    if x1 = 1 then (
      ∃ x2 : Int32, fld h a0 8 7 = some (.int x2) ∧
      ∃ x3 : Int32, fld h a0 8 6 = some (.int x3) ∧
      isT E a1 = true ∧ ∃ (x4 : Int32) (h5 : zH), zT E d m_String_length 0 [some (.float a1)] [] h (.inl (some (.int x4)), h5) ∧
      if (x2 - x3) = x4 then (
        zT E (d + 1) m_Reader_isWord 28 [some (.ref a0), some (.float a1), some (.int 0)] [] h5 r)
      else (
        r = (.inl (some (.int 0)), h5)))
    else (
      r = (.inl (some (.int 0)), h))) :
    zT E (d + 1) m_Reader_isWord 0 [some (.ref a0), some (.float a1), none] [] h r := by
  refine zT_st (pc' := 1) (L' := [some (.ref a0), some (.float a1), none]) (st' := [.ref a0]) (h' := h) 1 (fun n => rfl) ?_
  obtain ⟨x1, e, hw⟩ := hw
  refine zT_st (pc' := 4) (L' := [some (.ref a0), some (.float a1), none]) (st' := [.int x1]) (h' := h) 1 (fun n => fld_eq (E := E) e _) ?_
  refine zT_st (pc' := 5) (L' := [some (.ref a0), some (.float a1), none]) (st' := [.int 1, .int x1]) (h' := h) 1 (fun n => rfl) ?_
  by_cases hc : x1 = 1
  · rw [if_pos hc] at hw
    refine zT_st (pc' := 8) (L' := [some (.ref a0), some (.float a1), none]) (st' := []) (h' := h) 1 (fun n => if_pos hc) ?_
    refine zT_st (pc' := 9) (L' := [some (.ref a0), some (.float a1), none]) (st' := [.ref a0]) (h' := h) 1 (fun n => rfl) ?_
    obtain ⟨x2, e, hw⟩ := hw
    refine zT_st (pc' := 12) (L' := [some (.ref a0), some (.float a1), none]) (st' := [.int x2]) (h' := h) 1 (fun n => fld_eq (E := E) e _) ?_
    refine zT_st (pc' := 13) (L' := [some (.ref a0), some (.float a1), none]) (st' := [.ref a0, .int x2]) (h' := h) 1 (fun n => rfl) ?_
    obtain ⟨x3, e, hw⟩ := hw
    refine zT_st (pc' := 16) (L' := [some (.ref a0), some (.float a1), none]) (st' := [.int x3, .int x2]) (h' := h) 1 (fun n => fld_eq (E := E) e _) ?_
    refine zT_st (pc' := 18) (L' := [some (.ref a0), some (.float a1), none]) (st' := [.float a1, .int (x2 - x3)]) (h' := h) 2 (fun n => rfl) ?_
    obtain ⟨hq, hw⟩ := hw
    obtain ⟨x4, h5, hx, hw⟩ := hw
    refine zT_call (pc' := 21) (rest := [.int (x2 - x3)]) 1 (fun n => rfl) hq hx ?_
    show zT E (d + 1) m_Reader_isWord 21 [some (.ref a0), some (.float a1), none] [.int x4, .int (x2 - x3)] h5 r
    by_cases hc : (x2 - x3) = x4
    · rw [if_pos hc] at hw
      refine zT_st (pc' := 26) (L' := [some (.ref a0), some (.float a1), none]) (st' := []) (h' := h5) 1 (fun n => if_pos hc) ?_
      exact zT_st 2 (fun n => rfl) hw
    · rw [if_neg hc] at hw
      refine zT_st (pc' := 24) (L' := [some (.ref a0), some (.float a1), none]) (st' := []) (h' := h5) 1 (fun n => if_neg hc) ?_
      subst hw
      exact zT_ret 2 rfl
  · rw [if_neg hc] at hw
    refine zT_st (pc' := 24) (L' := [some (.ref a0), some (.float a1), none]) (st' := []) (h' := h) 1 (fun n => if_neg hc) ?_
    subst hw
    exact zT_ret 2 rfl
set_option maxRecDepth 4000 in
theorem s_Reader_isWord_28 (E : zX) (d : Nat) (a0 : Nat) (a1 : UInt32) (a2 : Int32) (h : zH) (r : zO × zH)
    (hw : isT E a1 = true ∧ ∃ (x1 : Int32) (h2 : zH), zT E d m_String_length 0 [some (.float a1)] [] h (.inl (some (.int x1)), h2) ∧
    if x1 ≤ a2 then (
      r = (.inl (some (.int 1)), h2))
    else (
      ∃ o3 : Nat, fld h2 a0 8 4 = some (.ref o3) ∧
      ∃ x4 : Int32, fld h2 a0 8 6 = some (.int x4) ∧
      ∃ (n5 : Nat) (f6 : Nat → Int32), arr h2 o3 = some (n5, f6) ∧ ¬ ((x4 + a2) < 0 ∨ n5 ≤ ((x4 + a2)).toNatClampNeg) ∧
      isT E a1 = true ∧ ∃ (x7 : Int32) (h8 : zH), zT E d m_String_charAt 0 [some (.float a1), some (.int a2)] [] h2 (.inl (some (.int x7)), h8) ∧
      if (f6 ((x4 + a2)).toNatClampNeg) = x7 then (
        zT E (d + 1) m_Reader_isWord 28 [some (.ref a0), some (.float a1), some (.int (a2 + 1))] [] h8 r)
      else (
        r = (.inl (some (.int 0)), h8)))) :
    zT E (d + 1) m_Reader_isWord 28 [some (.ref a0), some (.float a1), some (.int a2)] [] h r := by
  refine zT_st (pc' := 30) (L' := [some (.ref a0), some (.float a1), some (.int a2)]) (st' := [.float a1, .int a2]) (h' := h) 2 (fun n => rfl) ?_
  obtain ⟨hq, hw⟩ := hw
  obtain ⟨x1, h2, hx, hw⟩ := hw
  refine zT_call (pc' := 33) (rest := [.int a2]) 1 (fun n => rfl) hq hx ?_
  show zT E (d + 1) m_Reader_isWord 33 [some (.ref a0), some (.float a1), some (.int a2)] [.int x1, .int a2] h2 r
  by_cases hc : x1 ≤ a2
  · rw [if_pos hc] at hw
    refine zT_st (pc' := 63) (L' := [some (.ref a0), some (.float a1), some (.int a2)]) (st' := []) (h' := h2) 1 (fun n => if_pos hc) ?_
    subst hw
    exact zT_ret 2 rfl
  · rw [if_neg hc] at hw
    refine zT_st (pc' := 36) (L' := [some (.ref a0), some (.float a1), some (.int a2)]) (st' := []) (h' := h2) 1 (fun n => if_neg hc) ?_
    refine zT_st (pc' := 37) (L' := [some (.ref a0), some (.float a1), some (.int a2)]) (st' := [.ref a0]) (h' := h2) 1 (fun n => rfl) ?_
    obtain ⟨o3, e, hw⟩ := hw
    refine zT_st (pc' := 40) (L' := [some (.ref a0), some (.float a1), some (.int a2)]) (st' := [.ref o3]) (h' := h2) 1 (fun n => fld_eq (E := E) e _) ?_
    refine zT_st (pc' := 41) (L' := [some (.ref a0), some (.float a1), some (.int a2)]) (st' := [.ref a0, .ref o3]) (h' := h2) 1 (fun n => rfl) ?_
    obtain ⟨x4, e, hw⟩ := hw
    refine zT_st (pc' := 44) (L' := [some (.ref a0), some (.float a1), some (.int a2)]) (st' := [.int x4, .ref o3]) (h' := h2) 1 (fun n => fld_eq (E := E) e _) ?_
    refine zT_st (pc' := 46) (L' := [some (.ref a0), some (.float a1), some (.int a2)]) (st' := [.int (x4 + a2), .ref o3]) (h' := h2) 2 (fun n => rfl) ?_
    obtain ⟨n5, f6, e, hi, hw⟩ := hw
    refine zT_st (pc' := 47) (L' := [some (.ref a0), some (.float a1), some (.int a2)]) (st' := [.int (f6 ((x4 + a2)).toNatClampNeg)]) (h' := h2) 1 (fun n => arr_eq (E := E) e hi [] (fun st => zrun zP zCd E n (d + 1) m_Reader_isWord 47 [some (.ref a0), some (.float a1), some (.int a2)] st h2)) ?_
    refine zT_st (pc' := 49) (L' := [some (.ref a0), some (.float a1), some (.int a2)]) (st' := [.int a2, .float a1, .int (f6 ((x4 + a2)).toNatClampNeg)]) (h' := h2) 2 (fun n => rfl) ?_
    obtain ⟨hq, hw⟩ := hw
    obtain ⟨x7, h8, hx, hw⟩ := hw
    refine zT_call (pc' := 52) (rest := [.int (f6 ((x4 + a2)).toNatClampNeg)]) 1 (fun n => rfl) hq hx ?_
    show zT E (d + 1) m_Reader_isWord 52 [some (.ref a0), some (.float a1), some (.int a2)] [.int x7, .int (f6 ((x4 + a2)).toNatClampNeg)] h8 r
    by_cases hc : (f6 ((x4 + a2)).toNatClampNeg) = x7
    · rw [if_pos hc] at hw
      refine zT_st (pc' := 57) (L' := [some (.ref a0), some (.float a1), some (.int a2)]) (st' := []) (h' := h8) 1 (fun n => if_pos hc) ?_
      exact zT_st 2 (fun n => rfl) hw
    · rw [if_neg hc] at hw
      refine zT_st (pc' := 55) (L' := [some (.ref a0), some (.float a1), some (.int a2)]) (st' := []) (h' := h8) 1 (fun n => if_neg hc) ?_
      subst hw
      exact zT_ret 2 rfl
set_option maxRecDepth 4000 in
theorem s_Reader_readDowns_0 (E : zX) (d : Nat) (a0 : Nat) (h : zH) (r : zO × zH)
    (hw : isO h a0 8 = true ∧ ∃ (h2 : zH), zT E d m_Reader_nextToken 0 [some (.ref a0)] [] h (.inl none, h2) ∧
    isO h2 a0 8 = true ∧ ∃ (x3 : Int32) (h4 : zH), zT E d m_Reader_readNumber 0 [some (.ref a0), some (.int 1), some (.int 6)] [] h2 (.inl (some (.int x3)), h4) ∧
    if x3 = 0 then (
      r = (.inl (some (.int 0)), h4))
    else (
      ∃ x5 : Int32, fld h4 a0 8 11 = some (.int x5) ∧
      isO h4 a0 8 = true ∧ ∃ (x6 : Int32) (h7 : zH), zT E d m_Reader_readNumber 0 [some (.ref a0), some (.int 1), some (.int 6)] [] h4 (.inl (some (.int x6)), h7) ∧
      if x6 = 0 then (
        r = (.inl (some (.int 0)), h7))
      else (
        ∃ o8 : Nat, fld h7 a0 8 0 = some (.ref o8) ∧
        ∃ x9 : Int32, fld h7 a0 8 11 = some (.int x9) ∧
        isO h7 o8 5 = true ∧ ∃ (h11 : zH), zT E d m_Land_measure 0 [some (.ref o8), some (.int x5), some (.int x9), none, none, none] [] h7 (.inl none, h11) ∧
        isO h11 a0 8 = true ∧ ∃ (x12 : Int32) (h13 : zH), zT E d m_Reader_readSign 0 [some (.ref a0), some (.int 59)] [] h11 (.inl (some (.int x12)), h13) ∧
        zfr (some .boolean) x12 = true ∧ r = (.inl (some (.int x12)), h13)))) :
    zT E (d + 1) m_Reader_readDowns 0 [some (.ref a0), none] [] h r := by
  refine zT_st (pc' := 1) (L' := [some (.ref a0), none]) (st' := [.ref a0]) (h' := h) 1 (fun n => rfl) ?_
  obtain ⟨hq, hw⟩ := hw
  obtain ⟨h2, hx, hw⟩ := hw
  refine zT_call (pc' := 4) (rest := []) 1 (fun n => rfl) hq hx ?_
  show zT E (d + 1) m_Reader_readDowns 4 [some (.ref a0), none] [] h2 r
  refine zT_st (pc' := 8) (L' := [some (.ref a0), none]) (st' := [.int 6, .int 1, .ref a0]) (h' := h2) 3 (fun n => rfl) ?_
  obtain ⟨hq, hw⟩ := hw
  obtain ⟨x3, h4, hx, hw⟩ := hw
  refine zT_call (pc' := 11) (rest := []) 1 (fun n => rfl) hq hx ?_
  show zT E (d + 1) m_Reader_readDowns 11 [some (.ref a0), none] [.int x3] h4 r
  by_cases hc : x3 = 0
  · rw [if_pos hc] at hw
    refine zT_st (pc' := 14) (L' := [some (.ref a0), none]) (st' := []) (h' := h4) 1 (fun n => if_pos hc) ?_
    subst hw
    exact zT_ret 2 rfl
  · rw [if_neg hc] at hw
    refine zT_st (pc' := 16) (L' := [some (.ref a0), none]) (st' := []) (h' := h4) 1 (fun n => if_neg hc) ?_
    refine zT_st (pc' := 17) (L' := [some (.ref a0), none]) (st' := [.ref a0]) (h' := h4) 1 (fun n => rfl) ?_
    obtain ⟨x5, e, hw⟩ := hw
    refine zT_st (pc' := 20) (L' := [some (.ref a0), none]) (st' := [.int x5]) (h' := h4) 1 (fun n => fld_eq (E := E) e _) ?_
    refine zT_st (pc' := 25) (L' := [some (.ref a0), some (.int x5)]) (st' := [.int 6, .int 1, .ref a0]) (h' := h4) 4 (fun n => rfl) ?_
    obtain ⟨hq, hw⟩ := hw
    obtain ⟨x6, h7, hx, hw⟩ := hw
    refine zT_call (pc' := 28) (rest := []) 1 (fun n => rfl) hq hx ?_
    show zT E (d + 1) m_Reader_readDowns 28 [some (.ref a0), some (.int x5)] [.int x6] h7 r
    by_cases hc : x6 = 0
    · rw [if_pos hc] at hw
      refine zT_st (pc' := 31) (L' := [some (.ref a0), some (.int x5)]) (st' := []) (h' := h7) 1 (fun n => if_pos hc) ?_
      subst hw
      exact zT_ret 2 rfl
    · rw [if_neg hc] at hw
      refine zT_st (pc' := 33) (L' := [some (.ref a0), some (.int x5)]) (st' := []) (h' := h7) 1 (fun n => if_neg hc) ?_
      refine zT_st (pc' := 34) (L' := [some (.ref a0), some (.int x5)]) (st' := [.ref a0]) (h' := h7) 1 (fun n => rfl) ?_
      obtain ⟨o8, e, hw⟩ := hw
      refine zT_st (pc' := 37) (L' := [some (.ref a0), some (.int x5)]) (st' := [.ref o8]) (h' := h7) 1 (fun n => fld_eq (E := E) e _) ?_
      refine zT_st (pc' := 39) (L' := [some (.ref a0), some (.int x5)]) (st' := [.ref a0, .int x5, .ref o8]) (h' := h7) 2 (fun n => rfl) ?_
      obtain ⟨x9, e, hw⟩ := hw
      refine zT_st (pc' := 42) (L' := [some (.ref a0), some (.int x5)]) (st' := [.int x9, .int x5, .ref o8]) (h' := h7) 1 (fun n => fld_eq (E := E) e _) ?_
      obtain ⟨hq, hw⟩ := hw
      obtain ⟨h11, hx, hw⟩ := hw
      refine zT_call (pc' := 45) (rest := []) 1 (fun n => rfl) hq hx ?_
      show zT E (d + 1) m_Reader_readDowns 45 [some (.ref a0), some (.int x5)] [] h11 r
      refine zT_st (pc' := 48) (L' := [some (.ref a0), some (.int x5)]) (st' := [.int 59, .ref a0]) (h' := h11) 2 (fun n => rfl) ?_
      obtain ⟨hq, hw⟩ := hw
      obtain ⟨x12, h13, hx, hw⟩ := hw
      refine zT_call (pc' := 51) (rest := []) 1 (fun n => rfl) hq hx ?_
      show zT E (d + 1) m_Reader_readDowns 51 [some (.ref a0), some (.int x5)] [.int x12] h13 r
      obtain ⟨hz, hw⟩ := hw
      subst hw
      refine zT_ret 1 ?_
      show (bif zfr _ _ then _ else none) = _
      rw [hz]
      rfl
set_option maxRecDepth 4000 in
theorem s_Reader_readNumber_0 (E : zX) (d : Nat) (a0 : Nat) (a1 : Int32) (a2 : Int32) (h : zH) (r : zO × zH)
    (hw : ∃ x1 : Int32, fld h a0 8 8 = some (.int x1) ∧
    if x1 = 2 then (
      ∃ x2 : Int32, fld h a0 8 10 = some (.int x2) ∧
      if x2 = 0 then (
        ∃ x3 : Int32, fld h a0 8 9 = some (.int x3) ∧
        if x3 < a1 then (
          isO h a0 8 = true ∧ ∃ (x4 : Int32) (h5 : zH), zT E d m_Reader_fail 0 [some (.ref a0), some (.int 2)] [] h (.inl (some (.int x4)), h5) ∧
          zfr (some .boolean) x4 = true ∧ r = (.inl (some (.int x4)), h5))
        else (
          ∃ x6 : Int32, fld h a0 8 9 = some (.int x6) ∧
          if x6 ≤ a2 then (
            ∃ x7 : Int32, fld h a0 8 9 = some (.int x7) ∧
            (∃ w, fld h a0 8 11 = some w) ∧
            isO (setF h a0 11 (.int x7)) a0 8 = true ∧ ∃ (h9 : zH), zT E d m_Reader_nextToken 0 [some (.ref a0)] [] (setF h a0 11 (.int x7)) (.inl none, h9) ∧
            r = (.inl (some (.int 1)), h9))
          else (
            isO h a0 8 = true ∧ ∃ (x10 : Int32) (h11 : zH), zT E d m_Reader_fail 0 [some (.ref a0), some (.int 2)] [] h (.inl (some (.int x10)), h11) ∧
            zfr (some .boolean) x10 = true ∧ r = (.inl (some (.int x10)), h11))))
      else (
        isO h a0 8 = true ∧ ∃ (x12 : Int32) (h13 : zH), zT E d m_Reader_fail 0 [some (.ref a0), some (.int 2)] [] h (.inl (some (.int x12)), h13) ∧
        zfr (some .boolean) x12 = true ∧ r = (.inl (some (.int x12)), h13)))
    else (
      isO h a0 8 = true ∧ ∃ (x14 : Int32) (h15 : zH), zT E d m_Reader_fail 0 [some (.ref a0), some (.int 1)] [] h (.inl (some (.int x14)), h15) ∧
      zfr (some .boolean) x14 = true ∧ r = (.inl (some (.int x14)), h15))) :
    zT E (d + 1) m_Reader_readNumber 0 [some (.ref a0), some (.int a1), some (.int a2)] [] h r := by
  refine zT_st (pc' := 1) (L' := [some (.ref a0), some (.int a1), some (.int a2)]) (st' := [.ref a0]) (h' := h) 1 (fun n => rfl) ?_
  obtain ⟨x1, e, hw⟩ := hw
  refine zT_st (pc' := 4) (L' := [some (.ref a0), some (.int a1), some (.int a2)]) (st' := [.int x1]) (h' := h) 1 (fun n => fld_eq (E := E) e _) ?_
  refine zT_st (pc' := 5) (L' := [some (.ref a0), some (.int a1), some (.int a2)]) (st' := [.int 2, .int x1]) (h' := h) 1 (fun n => rfl) ?_
  by_cases hc : x1 = 2
  · rw [if_pos hc] at hw
    refine zT_st (pc' := 14) (L' := [some (.ref a0), some (.int a1), some (.int a2)]) (st' := []) (h' := h) 1 (fun n => if_pos hc) ?_
    refine zT_st (pc' := 15) (L' := [some (.ref a0), some (.int a1), some (.int a2)]) (st' := [.ref a0]) (h' := h) 1 (fun n => rfl) ?_
    obtain ⟨x2, e, hw⟩ := hw
    refine zT_st (pc' := 18) (L' := [some (.ref a0), some (.int a1), some (.int a2)]) (st' := [.int x2]) (h' := h) 1 (fun n => fld_eq (E := E) e _) ?_
    by_cases hc : x2 = 0
    · rw [if_pos hc] at hw
      refine zT_st (pc' := 21) (L' := [some (.ref a0), some (.int a1), some (.int a2)]) (st' := []) (h' := h) 1 (fun n => if_pos hc) ?_
      refine zT_st (pc' := 22) (L' := [some (.ref a0), some (.int a1), some (.int a2)]) (st' := [.ref a0]) (h' := h) 1 (fun n => rfl) ?_
      obtain ⟨x3, e, hw⟩ := hw
      refine zT_st (pc' := 25) (L' := [some (.ref a0), some (.int a1), some (.int a2)]) (st' := [.int x3]) (h' := h) 1 (fun n => fld_eq (E := E) e _) ?_
      refine zT_st (pc' := 26) (L' := [some (.ref a0), some (.int a1), some (.int a2)]) (st' := [.int a1, .int x3]) (h' := h) 1 (fun n => rfl) ?_
      by_cases hc : x3 < a1
      · rw [if_pos hc] at hw
        refine zT_st (pc' := 37) (L' := [some (.ref a0), some (.int a1), some (.int a2)]) (st' := []) (h' := h) 1 (fun n => if_pos hc) ?_
        refine zT_st (pc' := 39) (L' := [some (.ref a0), some (.int a1), some (.int a2)]) (st' := [.int 2, .ref a0]) (h' := h) 2 (fun n => rfl) ?_
        obtain ⟨hq, hw⟩ := hw
        obtain ⟨x4, h5, hx, hw⟩ := hw
        refine zT_call (pc' := 42) (rest := []) 1 (fun n => rfl) hq hx ?_
        show zT E (d + 1) m_Reader_readNumber 42 [some (.ref a0), some (.int a1), some (.int a2)] [.int x4] h5 r
        obtain ⟨hz, hw⟩ := hw
        subst hw
        refine zT_ret 1 ?_
        show (bif zfr _ _ then _ else none) = _
        rw [hz]
        rfl
      · rw [if_neg hc] at hw
        refine zT_st (pc' := 29) (L' := [some (.ref a0), some (.int a1), some (.int a2)]) (st' := []) (h' := h) 1 (fun n => if_neg hc) ?_
        refine zT_st (pc' := 30) (L' := [some (.ref a0), some (.int a1), some (.int a2)]) (st' := [.ref a0]) (h' := h) 1 (fun n => rfl) ?_
        obtain ⟨x6, e, hw⟩ := hw
        refine zT_st (pc' := 33) (L' := [some (.ref a0), some (.int a1), some (.int a2)]) (st' := [.int x6]) (h' := h) 1 (fun n => fld_eq (E := E) e _) ?_
        refine zT_st (pc' := 34) (L' := [some (.ref a0), some (.int a1), some (.int a2)]) (st' := [.int a2, .int x6]) (h' := h) 1 (fun n => rfl) ?_
        by_cases hc : x6 ≤ a2
        · rw [if_pos hc] at hw
          refine zT_st (pc' := 43) (L' := [some (.ref a0), some (.int a1), some (.int a2)]) (st' := []) (h' := h) 1 (fun n => if_pos hc) ?_
          refine zT_st (pc' := 45) (L' := [some (.ref a0), some (.int a1), some (.int a2)]) (st' := [.ref a0, .ref a0]) (h' := h) 2 (fun n => rfl) ?_
          obtain ⟨x7, e, hw⟩ := hw
          refine zT_st (pc' := 48) (L' := [some (.ref a0), some (.int a1), some (.int a2)]) (st' := [.int x7, .ref a0]) (h' := h) 1 (fun n => fld_eq (E := E) e _) ?_
          obtain ⟨⟨w, e⟩, hw⟩ := hw
          refine zT_st (pc' := 51) (L' := [some (.ref a0), some (.int a1), some (.int a2)]) (st' := []) (h' := (setF h a0 11 (.int x7))) 1 (fun n => put_eq e rfl _ _) ?_
          refine zT_st (pc' := 52) (L' := [some (.ref a0), some (.int a1), some (.int a2)]) (st' := [.ref a0]) (h' := (setF h a0 11 (.int x7))) 1 (fun n => rfl) ?_
          obtain ⟨hq, hw⟩ := hw
          obtain ⟨h9, hx, hw⟩ := hw
          refine zT_call (pc' := 55) (rest := []) 1 (fun n => rfl) hq hx ?_
          show zT E (d + 1) m_Reader_readNumber 55 [some (.ref a0), some (.int a1), some (.int a2)] [] h9 r
          subst hw
          exact zT_ret 2 rfl
        · rw [if_neg hc] at hw
          refine zT_st (pc' := 37) (L' := [some (.ref a0), some (.int a1), some (.int a2)]) (st' := []) (h' := h) 1 (fun n => if_neg hc) ?_
          refine zT_st (pc' := 39) (L' := [some (.ref a0), some (.int a1), some (.int a2)]) (st' := [.int 2, .ref a0]) (h' := h) 2 (fun n => rfl) ?_
          obtain ⟨hq, hw⟩ := hw
          obtain ⟨x10, h11, hx, hw⟩ := hw
          refine zT_call (pc' := 42) (rest := []) 1 (fun n => rfl) hq hx ?_
          show zT E (d + 1) m_Reader_readNumber 42 [some (.ref a0), some (.int a1), some (.int a2)] [.int x10] h11 r
          obtain ⟨hz, hw⟩ := hw
          subst hw
          refine zT_ret 1 ?_
          show (bif zfr _ _ then _ else none) = _
          rw [hz]
          rfl
    · rw [if_neg hc] at hw
      refine zT_st (pc' := 37) (L' := [some (.ref a0), some (.int a1), some (.int a2)]) (st' := []) (h' := h) 1 (fun n => if_neg hc) ?_
      refine zT_st (pc' := 39) (L' := [some (.ref a0), some (.int a1), some (.int a2)]) (st' := [.int 2, .ref a0]) (h' := h) 2 (fun n => rfl) ?_
      obtain ⟨hq, hw⟩ := hw
      obtain ⟨x12, h13, hx, hw⟩ := hw
      refine zT_call (pc' := 42) (rest := []) 1 (fun n => rfl) hq hx ?_
      show zT E (d + 1) m_Reader_readNumber 42 [some (.ref a0), some (.int a1), some (.int a2)] [.int x12] h13 r
      obtain ⟨hz, hw⟩ := hw
      subst hw
      refine zT_ret 1 ?_
      show (bif zfr _ _ then _ else none) = _
      rw [hz]
      rfl
  · rw [if_neg hc] at hw
    refine zT_st (pc' := 8) (L' := [some (.ref a0), some (.int a1), some (.int a2)]) (st' := []) (h' := h) 1 (fun n => if_neg hc) ?_
    refine zT_st (pc' := 10) (L' := [some (.ref a0), some (.int a1), some (.int a2)]) (st' := [.int 1, .ref a0]) (h' := h) 2 (fun n => rfl) ?_
    obtain ⟨hq, hw⟩ := hw
    obtain ⟨x14, h15, hx, hw⟩ := hw
    refine zT_call (pc' := 13) (rest := []) 1 (fun n => rfl) hq hx ?_
    show zT E (d + 1) m_Reader_readNumber 13 [some (.ref a0), some (.int a1), some (.int a2)] [.int x14] h15 r
    obtain ⟨hz, hw⟩ := hw
    subst hw
    refine zT_ret 1 ?_
    show (bif zfr _ _ then _ else none) = _
    rw [hz]
    rfl
set_option maxRecDepth 4000 in
theorem s_Reader_fail_0 (E : zX) (d : Nat) (a0 : Nat) (a1 : Int32) (h : zH) (r : zO × zH)
    (hw : (∃ w, fld h a0 8 3 = some w) ∧
    ∃ x1 : Int32, fld (setF h a0 3 (.int a1)) a0 8 6 = some (.int x1) ∧
    (∃ w, fld (setF h a0 3 (.int a1)) a0 8 2 = some w) ∧
    r = (.inl (some (.int 0)), (setF (setF h a0 3 (.int a1)) a0 2 (.int x1)))) :
    zT E d m_Reader_fail 0 [some (.ref a0), some (.int a1)] [] h r := by
  refine zT_st (pc' := 2) (L' := [some (.ref a0), some (.int a1)]) (st' := [.int a1, .ref a0]) (h' := h) 2 (fun n => rfl) ?_
  obtain ⟨⟨w, e⟩, hw⟩ := hw
  refine zT_st (pc' := 5) (L' := [some (.ref a0), some (.int a1)]) (st' := []) (h' := (setF h a0 3 (.int a1))) 1 (fun n => put_eq e rfl _ _) ?_
  refine zT_st (pc' := 7) (L' := [some (.ref a0), some (.int a1)]) (st' := [.ref a0, .ref a0]) (h' := (setF h a0 3 (.int a1))) 2 (fun n => rfl) ?_
  obtain ⟨x1, e, hw⟩ := hw
  refine zT_st (pc' := 10) (L' := [some (.ref a0), some (.int a1)]) (st' := [.int x1, .ref a0]) (h' := (setF h a0 3 (.int a1))) 1 (fun n => fld_eq (E := E) e _) ?_
  obtain ⟨⟨w, e⟩, hw⟩ := hw
  refine zT_st (pc' := 13) (L' := [some (.ref a0), some (.int a1)]) (st' := []) (h' := (setF (setF h a0 3 (.int a1)) a0 2 (.int x1))) 1 (fun n => put_eq e rfl _ _) ?_
  subst hw
  exact zT_ret 2 rfl
set_option maxRecDepth 4000 in
theorem s_Reader_readSign_0 (E : zX) (d : Nat) (a0 : Nat) (a1 : Int32) (h : zH) (r : zO × zH)
    (hw : isO h a0 8 = true ∧ ∃ (x1 : Int32) (h2 : zH), zT E d m_Reader_isSign 0 [some (.ref a0), some (.int a1)] [] h (.inl (some (.int x1)), h2) ∧
    if x1 = 0 then (
      isO h2 a0 8 = true ∧ ∃ (x3 : Int32) (h4 : zH), zT E d m_Reader_fail 0 [some (.ref a0), some (.int 1)] [] h2 (.inl (some (.int x3)), h4) ∧
      zfr (some .boolean) x3 = true ∧ r = (.inl (some (.int x3)), h4))
    else (
      isO h2 a0 8 = true ∧ ∃ (h6 : zH), zT E d m_Reader_nextToken 0 [some (.ref a0)] [] h2 (.inl none, h6) ∧
      r = (.inl (some (.int 1)), h6))) :
    zT E (d + 1) m_Reader_readSign 0 [some (.ref a0), some (.int a1)] [] h r := by
  refine zT_st (pc' := 2) (L' := [some (.ref a0), some (.int a1)]) (st' := [.int a1, .ref a0]) (h' := h) 2 (fun n => rfl) ?_
  obtain ⟨hq, hw⟩ := hw
  obtain ⟨x1, h2, hx, hw⟩ := hw
  refine zT_call (pc' := 5) (rest := []) 1 (fun n => rfl) hq hx ?_
  show zT E (d + 1) m_Reader_readSign 5 [some (.ref a0), some (.int a1)] [.int x1] h2 r
  by_cases hc : x1 = 0
  · rw [if_pos hc] at hw
    refine zT_st (pc' := 8) (L' := [some (.ref a0), some (.int a1)]) (st' := []) (h' := h2) 1 (fun n => if_pos hc) ?_
    refine zT_st (pc' := 10) (L' := [some (.ref a0), some (.int a1)]) (st' := [.int 1, .ref a0]) (h' := h2) 2 (fun n => rfl) ?_
    obtain ⟨hq, hw⟩ := hw
    obtain ⟨x3, h4, hx, hw⟩ := hw
    refine zT_call (pc' := 13) (rest := []) 1 (fun n => rfl) hq hx ?_
    show zT E (d + 1) m_Reader_readSign 13 [some (.ref a0), some (.int a1)] [.int x3] h4 r
    obtain ⟨hz, hw⟩ := hw
    subst hw
    refine zT_ret 1 ?_
    show (bif zfr _ _ then _ else none) = _
    rw [hz]
    rfl
  · rw [if_neg hc] at hw
    refine zT_st (pc' := 14) (L' := [some (.ref a0), some (.int a1)]) (st' := []) (h' := h2) 1 (fun n => if_neg hc) ?_
    refine zT_st (pc' := 15) (L' := [some (.ref a0), some (.int a1)]) (st' := [.ref a0]) (h' := h2) 1 (fun n => rfl) ?_
    obtain ⟨hq, hw⟩ := hw
    obtain ⟨h6, hx, hw⟩ := hw
    refine zT_call (pc' := 18) (rest := []) 1 (fun n => rfl) hq hx ?_
    show zT E (d + 1) m_Reader_readSign 18 [some (.ref a0), some (.int a1)] [] h6 r
    subst hw
    exact zT_ret 2 rfl
set_option maxRecDepth 4000 in
theorem s_Reader_isSign_0 (E : zX) (d : Nat) (a0 : Nat) (a1 : Int32) (h : zH) (r : zO × zH)
    (hw : ∃ x1 : Int32, fld h a0 8 8 = some (.int x1) ∧
    if x1 = 3 then (
      ∃ o2 : Nat, fld h a0 8 4 = some (.ref o2) ∧
      ∃ x3 : Int32, fld h a0 8 6 = some (.int x3) ∧
      ∃ (n4 : Nat) (f5 : Nat → Int32), arr h o2 = some (n4, f5) ∧ ¬ (x3 < 0 ∨ n4 ≤ (x3).toNatClampNeg) ∧
      if (f5 (x3).toNatClampNeg) = a1 then (
        r = (.inl (some (.int 1)), h))
      else (
        r = (.inl (some (.int 0)), h)))
    else (
      r = (.inl (some (.int 0)), h))) :
    zT E d m_Reader_isSign 0 [some (.ref a0), some (.int a1)] [] h r := by
  refine zT_st (pc' := 1) (L' := [some (.ref a0), some (.int a1)]) (st' := [.ref a0]) (h' := h) 1 (fun n => rfl) ?_
  obtain ⟨x1, e, hw⟩ := hw
  refine zT_st (pc' := 4) (L' := [some (.ref a0), some (.int a1)]) (st' := [.int x1]) (h' := h) 1 (fun n => fld_eq (E := E) e _) ?_
  refine zT_st (pc' := 5) (L' := [some (.ref a0), some (.int a1)]) (st' := [.int 3, .int x1]) (h' := h) 1 (fun n => rfl) ?_
  by_cases hc : x1 = 3
  · rw [if_pos hc] at hw
    refine zT_st (pc' := 8) (L' := [some (.ref a0), some (.int a1)]) (st' := []) (h' := h) 1 (fun n => if_pos hc) ?_
    refine zT_st (pc' := 9) (L' := [some (.ref a0), some (.int a1)]) (st' := [.ref a0]) (h' := h) 1 (fun n => rfl) ?_
    obtain ⟨o2, e, hw⟩ := hw
    refine zT_st (pc' := 12) (L' := [some (.ref a0), some (.int a1)]) (st' := [.ref o2]) (h' := h) 1 (fun n => fld_eq (E := E) e _) ?_
    refine zT_st (pc' := 13) (L' := [some (.ref a0), some (.int a1)]) (st' := [.ref a0, .ref o2]) (h' := h) 1 (fun n => rfl) ?_
    obtain ⟨x3, e, hw⟩ := hw
    refine zT_st (pc' := 16) (L' := [some (.ref a0), some (.int a1)]) (st' := [.int x3, .ref o2]) (h' := h) 1 (fun n => fld_eq (E := E) e _) ?_
    obtain ⟨n4, f5, e, hi, hw⟩ := hw
    refine zT_st (pc' := 17) (L' := [some (.ref a0), some (.int a1)]) (st' := [.int (f5 (x3).toNatClampNeg)]) (h' := h) 1 (fun n => arr_eq (E := E) e hi [] (fun st => zrun zP zCd E n d m_Reader_isSign 17 [some (.ref a0), some (.int a1)] st h)) ?_
    refine zT_st (pc' := 18) (L' := [some (.ref a0), some (.int a1)]) (st' := [.int a1, .int (f5 (x3).toNatClampNeg)]) (h' := h) 1 (fun n => rfl) ?_
    by_cases hc : (f5 (x3).toNatClampNeg) = a1
    · rw [if_pos hc] at hw
      refine zT_st (pc' := 21) (L' := [some (.ref a0), some (.int a1)]) (st' := []) (h' := h) 1 (fun n => if_pos hc) ?_
      subst hw
      exact zT_ret 3 rfl
    · rw [if_neg hc] at hw
      refine zT_st (pc' := 25) (L' := [some (.ref a0), some (.int a1)]) (st' := []) (h' := h) 1 (fun n => if_neg hc) ?_
      subst hw
      exact zT_ret 2 rfl
  · rw [if_neg hc] at hw
    refine zT_st (pc' := 25) (L' := [some (.ref a0), some (.int a1)]) (st' := []) (h' := h) 1 (fun n => if_neg hc) ?_
    subst hw
    exact zT_ret 2 rfl
set_option maxRecDepth 4000 in
theorem s_Reader_readLine_0 (E : zX) (d : Nat) (a0 : Nat) (h : zH) (r : zO × zH)
    (hw : isO h a0 8 = true ∧ ∃ (x1 : Int32) (h2 : zH), zT E d m_Reader_isWord 0 [some (.ref a0), some (.float 5), none] [] h (.inl (some (.int x1)), h2) ∧
    if x1 = 0 then (
      isO h2 a0 8 = true ∧ ∃ (x3 : Int32) (h4 : zH), zT E d m_Reader_isWord 0 [some (.ref a0), some (.float 7), none] [] h2 (.inl (some (.int x3)), h4) ∧
      if x3 = 0 then (
        isO h4 a0 8 = true ∧ ∃ (x5 : Int32) (h6 : zH), zT E d m_Reader_isWord 0 [some (.ref a0), some (.float 11), none] [] h4 (.inl (some (.int x5)), h6) ∧
        if x5 = 0 then (
          isO h6 a0 8 = true ∧ ∃ (x7 : Int32) (h8 : zH), zT E d m_Reader_isWord 0 [some (.ref a0), some (.float 35), none] [] h6 (.inl (some (.int x7)), h8) ∧
          if x7 = 0 then (
            isO h8 a0 8 = true ∧ ∃ (x9 : Int32) (h10 : zH), zT E d m_Reader_fail 0 [some (.ref a0), some (.int 1)] [] h8 (.inl (some (.int x9)), h10) ∧
            zfr (some .boolean) x9 = true ∧ r = (.inl (some (.int x9)), h10))
          else (
            (∃ w, fld h8 a0 8 13 = some w) ∧
            ∃ o11 : Nat, fld (setF h8 a0 13 (.int 0)) a0 8 0 = some (.ref o11) ∧
            ∃ o12 : Nat, fld (setF h8 a0 13 (.int 0)) o11 5 8 = some (.ref o12) ∧
            isO (setF h8 a0 13 (.int 0)) a0 8 = true ∧ ∃ (x13 : Int32) (h14 : zH), zT E d m_Reader_readRule 0 [some (.ref a0), some (.ref o12)] [] (setF h8 a0 13 (.int 0)) (.inl (some (.int x13)), h14) ∧
            zfr (some .boolean) x13 = true ∧ r = (.inl (some (.int x13)), h14)))
        else (
          (∃ w, fld h6 a0 8 13 = some w) ∧
          ∃ o15 : Nat, fld (setF h6 a0 13 (.int 1)) a0 8 0 = some (.ref o15) ∧
          ∃ o16 : Nat, fld (setF h6 a0 13 (.int 1)) o15 5 7 = some (.ref o16) ∧
          isO (setF h6 a0 13 (.int 1)) a0 8 = true ∧ ∃ (x17 : Int32) (h18 : zH), zT E d m_Reader_readRule 0 [some (.ref a0), some (.ref o16)] [] (setF h6 a0 13 (.int 1)) (.inl (some (.int x17)), h18) ∧
          zfr (some .boolean) x17 = true ∧ r = (.inl (some (.int x17)), h18)))
      else (
        isO h4 a0 8 = true ∧ ∃ (x19 : Int32) (h20 : zH), zT E d m_Reader_readBall 0 [some (.ref a0), none] [] h4 (.inl (some (.int x19)), h20) ∧
        zfr (some .boolean) x19 = true ∧ r = (.inl (some (.int x19)), h20)))
    else (
      isO h2 a0 8 = true ∧ ∃ (x21 : Int32) (h22 : zH), zT E d m_Reader_readPerson 0 [some (.ref a0), none] [] h2 (.inl (some (.int x21)), h22) ∧
      zfr (some .boolean) x21 = true ∧ r = (.inl (some (.int x21)), h22))) :
    zT E (d + 1) m_Reader_readLine 0 [some (.ref a0)] [] h r := by
  refine zT_st (pc' := 3) (L' := [some (.ref a0)]) (st' := [.float 5, .ref a0]) (h' := h) 2 (fun n => rfl) ?_
  obtain ⟨hq, hw⟩ := hw
  obtain ⟨x1, h2, hx, hw⟩ := hw
  refine zT_call (pc' := 6) (rest := []) 1 (fun n => rfl) hq hx ?_
  show zT E (d + 1) m_Reader_readLine 6 [some (.ref a0)] [.int x1] h2 r
  by_cases hc : x1 = 0
  · rw [if_pos hc] at hw
    refine zT_st (pc' := 14) (L' := [some (.ref a0)]) (st' := []) (h' := h2) 1 (fun n => if_pos hc) ?_
    refine zT_st (pc' := 17) (L' := [some (.ref a0)]) (st' := [.float 7, .ref a0]) (h' := h2) 2 (fun n => rfl) ?_
    obtain ⟨hq, hw⟩ := hw
    obtain ⟨x3, h4, hx, hw⟩ := hw
    refine zT_call (pc' := 20) (rest := []) 1 (fun n => rfl) hq hx ?_
    show zT E (d + 1) m_Reader_readLine 20 [some (.ref a0)] [.int x3] h4 r
    by_cases hc : x3 = 0
    · rw [if_pos hc] at hw
      refine zT_st (pc' := 28) (L' := [some (.ref a0)]) (st' := []) (h' := h4) 1 (fun n => if_pos hc) ?_
      refine zT_st (pc' := 31) (L' := [some (.ref a0)]) (st' := [.float 11, .ref a0]) (h' := h4) 2 (fun n => rfl) ?_
      obtain ⟨hq, hw⟩ := hw
      obtain ⟨x5, h6, hx, hw⟩ := hw
      refine zT_call (pc' := 34) (rest := []) 1 (fun n => rfl) hq hx ?_
      show zT E (d + 1) m_Reader_readLine 34 [some (.ref a0)] [.int x5] h6 r
      by_cases hc : x5 = 0
      · rw [if_pos hc] at hw
        refine zT_st (pc' := 54) (L' := [some (.ref a0)]) (st' := []) (h' := h6) 1 (fun n => if_pos hc) ?_
        refine zT_st (pc' := 57) (L' := [some (.ref a0)]) (st' := [.float 35, .ref a0]) (h' := h6) 2 (fun n => rfl) ?_
        obtain ⟨hq, hw⟩ := hw
        obtain ⟨x7, h8, hx, hw⟩ := hw
        refine zT_call (pc' := 60) (rest := []) 1 (fun n => rfl) hq hx ?_
        show zT E (d + 1) m_Reader_readLine 60 [some (.ref a0)] [.int x7] h8 r
        by_cases hc : x7 = 0
        · rw [if_pos hc] at hw
          refine zT_st (pc' := 80) (L' := [some (.ref a0)]) (st' := []) (h' := h8) 1 (fun n => if_pos hc) ?_
          refine zT_st (pc' := 82) (L' := [some (.ref a0)]) (st' := [.int 1, .ref a0]) (h' := h8) 2 (fun n => rfl) ?_
          obtain ⟨hq, hw⟩ := hw
          obtain ⟨x9, h10, hx, hw⟩ := hw
          refine zT_call (pc' := 85) (rest := []) 1 (fun n => rfl) hq hx ?_
          show zT E (d + 1) m_Reader_readLine 85 [some (.ref a0)] [.int x9] h10 r
          obtain ⟨hz, hw⟩ := hw
          subst hw
          refine zT_ret 1 ?_
          show (bif zfr _ _ then _ else none) = _
          rw [hz]
          rfl
        · rw [if_neg hc] at hw
          refine zT_st (pc' := 63) (L' := [some (.ref a0)]) (st' := []) (h' := h8) 1 (fun n => if_neg hc) ?_
          refine zT_st (pc' := 65) (L' := [some (.ref a0)]) (st' := [.int 0, .ref a0]) (h' := h8) 2 (fun n => rfl) ?_
          obtain ⟨⟨w, e⟩, hw⟩ := hw
          refine zT_st (pc' := 68) (L' := [some (.ref a0)]) (st' := []) (h' := (setF h8 a0 13 (.int 0))) 1 (fun n => put_eq e rfl _ _) ?_
          refine zT_st (pc' := 70) (L' := [some (.ref a0)]) (st' := [.ref a0, .ref a0]) (h' := (setF h8 a0 13 (.int 0))) 2 (fun n => rfl) ?_
          obtain ⟨o11, e, hw⟩ := hw
          refine zT_st (pc' := 73) (L' := [some (.ref a0)]) (st' := [.ref o11, .ref a0]) (h' := (setF h8 a0 13 (.int 0))) 1 (fun n => fld_eq (E := E) e _) ?_
          obtain ⟨o12, e, hw⟩ := hw
          refine zT_st (pc' := 76) (L' := [some (.ref a0)]) (st' := [.ref o12, .ref a0]) (h' := (setF h8 a0 13 (.int 0))) 1 (fun n => fld_eq (E := E) e _) ?_
          obtain ⟨hq, hw⟩ := hw
          obtain ⟨x13, h14, hx, hw⟩ := hw
          refine zT_call (pc' := 79) (rest := []) 1 (fun n => rfl) hq hx ?_
          show zT E (d + 1) m_Reader_readLine 79 [some (.ref a0)] [.int x13] h14 r
          obtain ⟨hz, hw⟩ := hw
          subst hw
          refine zT_ret 1 ?_
          show (bif zfr _ _ then _ else none) = _
          rw [hz]
          rfl
      · rw [if_neg hc] at hw
        refine zT_st (pc' := 37) (L' := [some (.ref a0)]) (st' := []) (h' := h6) 1 (fun n => if_neg hc) ?_
        refine zT_st (pc' := 39) (L' := [some (.ref a0)]) (st' := [.int 1, .ref a0]) (h' := h6) 2 (fun n => rfl) ?_
        obtain ⟨⟨w, e⟩, hw⟩ := hw
        refine zT_st (pc' := 42) (L' := [some (.ref a0)]) (st' := []) (h' := (setF h6 a0 13 (.int 1))) 1 (fun n => put_eq e rfl _ _) ?_
        refine zT_st (pc' := 44) (L' := [some (.ref a0)]) (st' := [.ref a0, .ref a0]) (h' := (setF h6 a0 13 (.int 1))) 2 (fun n => rfl) ?_
        obtain ⟨o15, e, hw⟩ := hw
        refine zT_st (pc' := 47) (L' := [some (.ref a0)]) (st' := [.ref o15, .ref a0]) (h' := (setF h6 a0 13 (.int 1))) 1 (fun n => fld_eq (E := E) e _) ?_
        obtain ⟨o16, e, hw⟩ := hw
        refine zT_st (pc' := 50) (L' := [some (.ref a0)]) (st' := [.ref o16, .ref a0]) (h' := (setF h6 a0 13 (.int 1))) 1 (fun n => fld_eq (E := E) e _) ?_
        obtain ⟨hq, hw⟩ := hw
        obtain ⟨x17, h18, hx, hw⟩ := hw
        refine zT_call (pc' := 53) (rest := []) 1 (fun n => rfl) hq hx ?_
        show zT E (d + 1) m_Reader_readLine 53 [some (.ref a0)] [.int x17] h18 r
        obtain ⟨hz, hw⟩ := hw
        subst hw
        refine zT_ret 1 ?_
        show (bif zfr _ _ then _ else none) = _
        rw [hz]
        rfl
    · rw [if_neg hc] at hw
      refine zT_st (pc' := 23) (L' := [some (.ref a0)]) (st' := []) (h' := h4) 1 (fun n => if_neg hc) ?_
      refine zT_st (pc' := 24) (L' := [some (.ref a0)]) (st' := [.ref a0]) (h' := h4) 1 (fun n => rfl) ?_
      obtain ⟨hq, hw⟩ := hw
      obtain ⟨x19, h20, hx, hw⟩ := hw
      refine zT_call (pc' := 27) (rest := []) 1 (fun n => rfl) hq hx ?_
      show zT E (d + 1) m_Reader_readLine 27 [some (.ref a0)] [.int x19] h20 r
      obtain ⟨hz, hw⟩ := hw
      subst hw
      refine zT_ret 1 ?_
      show (bif zfr _ _ then _ else none) = _
      rw [hz]
      rfl
  · rw [if_neg hc] at hw
    refine zT_st (pc' := 9) (L' := [some (.ref a0)]) (st' := []) (h' := h2) 1 (fun n => if_neg hc) ?_
    refine zT_st (pc' := 10) (L' := [some (.ref a0)]) (st' := [.ref a0]) (h' := h2) 1 (fun n => rfl) ?_
    obtain ⟨hq, hw⟩ := hw
    obtain ⟨x21, h22, hx, hw⟩ := hw
    refine zT_call (pc' := 13) (rest := []) 1 (fun n => rfl) hq hx ?_
    show zT E (d + 1) m_Reader_readLine 13 [some (.ref a0)] [.int x21] h22 r
    obtain ⟨hz, hw⟩ := hw
    subst hw
    refine zT_ret 1 ?_
    show (bif zfr _ _ then _ else none) = _
    rw [hz]
    rfl
set_option maxRecDepth 4000 in
theorem s_Reader_readPerson_0 (E : zX) (d : Nat) (a0 : Nat) (h : zH) (r : zO × zH)
    (hw : ∃ o1 : Nat, fld h a0 8 0 = some (.ref o1) ∧
    ∃ x2 : Int32, fld h o1 5 3 = some (.int x2) ∧
    if x2 < 7 then (
      isO h a0 8 = true ∧ ∃ (h4 : zH), zT E d m_Reader_nextToken 0 [some (.ref a0)] [] h (.inl none, h4) ∧
      isO h4 a0 8 = true ∧ ∃ (x5 : Int32) (h6 : zH), zT E d m_Reader_readCell 0 [some (.ref a0)] [] h4 (.inl (some (.int x5)), h6) ∧
      if x5 = 0 then (
        r = (.inl (some (.int 0)), h6))
      else (
        ∃ o7 : Nat, fld h6 a0 8 0 = some (.ref o7) ∧
        ∃ o8 : Nat, fld h6 o7 5 5 = some (.ref o8) ∧
        ∃ x9 : Int32, fld h6 a0 8 11 = some (.int x9) ∧
        ∃ (n10 : Nat) (f11 : Nat → Int32), arr h6 o8 = some (n10, f11) ∧ ¬ (x2 < 0 ∨ n10 ≤ (x2).toNatClampNeg) ∧
        isO (setA h6 o8 n10 (upd f11 (x2).toNatClampNeg x9)) a0 8 = true ∧ ∃ (x12 : Int32) (h13 : zH), zT E d m_Reader_readNumber 0 [some (.ref a0), some (.int 0), some (.int 9)] [] (setA h6 o8 n10 (upd f11 (x2).toNatClampNeg x9)) (.inl (some (.int x12)), h13) ∧
        if x12 = 0 then (
          r = (.inl (some (.int 0)), h13))
        else (
          ∃ o14 : Nat, fld h13 a0 8 1 = some (.ref o14) ∧
          ∃ x15 : Int32, fld h13 a0 8 11 = some (.int x15) ∧
          isO h13 o14 10 = true ∧ ∃ (h17 : zH), zT E d m_Scene_setMild 0 [some (.ref o14), some (.int x2), some (.int x15)] [] h13 (.inl none, h17) ∧
          isO h17 a0 8 = true ∧ ∃ (x18 : Int32) (h19 : zH), zT E d m_Reader_readNumber 0 [some (.ref a0), some (.int 0), some (.int 99)] [] h17 (.inl (some (.int x18)), h19) ∧
          if x18 = 0 then (
            r = (.inl (some (.int 0)), h19))
          else (
            ∃ o20 : Nat, fld h19 a0 8 1 = some (.ref o20) ∧
            ∃ x21 : Int32, fld h19 a0 8 11 = some (.int x21) ∧
            isO h19 o20 10 = true ∧ ∃ (h23 : zH), zT E d m_Scene_setTemper 0 [some (.ref o20), some (.int x2), some (.int x21)] [] h19 (.inl none, h23) ∧
            ∃ o24 : Nat, fld h23 a0 8 0 = some (.ref o24) ∧
            ∃ x25 : Int32, fld h23 o24 5 3 = some (.int x25) ∧
            (∃ w, fld h23 o24 5 3 = some w) ∧
            isO (setF h23 o24 3 (.int (x25 + 1))) a0 8 = true ∧ ∃ (x26 : Int32) (h27 : zH), zT E d m_Reader_readSign 0 [some (.ref a0), some (.int 59)] [] (setF h23 o24 3 (.int (x25 + 1))) (.inl (some (.int x26)), h27) ∧
            zfr (some .boolean) x26 = true ∧ r = (.inl (some (.int x26)), h27)))))
    else (
      isO h a0 8 = true ∧ ∃ (x28 : Int32) (h29 : zH), zT E d m_Reader_fail 0 [some (.ref a0), some (.int 2)] [] h (.inl (some (.int x28)), h29) ∧
      zfr (some .boolean) x28 = true ∧ r = (.inl (some (.int x28)), h29))) :
    zT E (d + 1) m_Reader_readPerson 0 [some (.ref a0), none] [] h r := by
  refine zT_st (pc' := 1) (L' := [some (.ref a0), none]) (st' := [.ref a0]) (h' := h) 1 (fun n => rfl) ?_
  obtain ⟨o1, e, hw⟩ := hw
  refine zT_st (pc' := 4) (L' := [some (.ref a0), none]) (st' := [.ref o1]) (h' := h) 1 (fun n => fld_eq (E := E) e _) ?_
  obtain ⟨x2, e, hw⟩ := hw
  refine zT_st (pc' := 7) (L' := [some (.ref a0), none]) (st' := [.int x2]) (h' := h) 1 (fun n => fld_eq (E := E) e _) ?_
  refine zT_st (pc' := 11) (L' := [some (.ref a0), some (.int x2)]) (st' := [.int 7, .int x2]) (h' := h) 3 (fun n => rfl) ?_
  by_cases hc : x2 < 7
  · rw [if_pos hc] at hw
    refine zT_st (pc' := 20) (L' := [some (.ref a0), some (.int x2)]) (st' := []) (h' := h) 1 (fun n => if_pos hc) ?_
    refine zT_st (pc' := 21) (L' := [some (.ref a0), some (.int x2)]) (st' := [.ref a0]) (h' := h) 1 (fun n => rfl) ?_
    obtain ⟨hq, hw⟩ := hw
    obtain ⟨h4, hx, hw⟩ := hw
    refine zT_call (pc' := 24) (rest := []) 1 (fun n => rfl) hq hx ?_
    show zT E (d + 1) m_Reader_readPerson 24 [some (.ref a0), some (.int x2)] [] h4 r
    refine zT_st (pc' := 25) (L' := [some (.ref a0), some (.int x2)]) (st' := [.ref a0]) (h' := h4) 1 (fun n => rfl) ?_
    obtain ⟨hq, hw⟩ := hw
    obtain ⟨x5, h6, hx, hw⟩ := hw
    refine zT_call (pc' := 28) (rest := []) 1 (fun n => rfl) hq hx ?_
    show zT E (d + 1) m_Reader_readPerson 28 [some (.ref a0), some (.int x2)] [.int x5] h6 r
    by_cases hc : x5 = 0
    · rw [if_pos hc] at hw
      refine zT_st (pc' := 31) (L' := [some (.ref a0), some (.int x2)]) (st' := []) (h' := h6) 1 (fun n => if_pos hc) ?_
      subst hw
      exact zT_ret 2 rfl
    · rw [if_neg hc] at hw
      refine zT_st (pc' := 33) (L' := [some (.ref a0), some (.int x2)]) (st' := []) (h' := h6) 1 (fun n => if_neg hc) ?_
      refine zT_st (pc' := 34) (L' := [some (.ref a0), some (.int x2)]) (st' := [.ref a0]) (h' := h6) 1 (fun n => rfl) ?_
      obtain ⟨o7, e, hw⟩ := hw
      refine zT_st (pc' := 37) (L' := [some (.ref a0), some (.int x2)]) (st' := [.ref o7]) (h' := h6) 1 (fun n => fld_eq (E := E) e _) ?_
      obtain ⟨o8, e, hw⟩ := hw
      refine zT_st (pc' := 40) (L' := [some (.ref a0), some (.int x2)]) (st' := [.ref o8]) (h' := h6) 1 (fun n => fld_eq (E := E) e _) ?_
      refine zT_st (pc' := 42) (L' := [some (.ref a0), some (.int x2)]) (st' := [.ref a0, .int x2, .ref o8]) (h' := h6) 2 (fun n => rfl) ?_
      obtain ⟨x9, e, hw⟩ := hw
      refine zT_st (pc' := 45) (L' := [some (.ref a0), some (.int x2)]) (st' := [.int x9, .int x2, .ref o8]) (h' := h6) 1 (fun n => fld_eq (E := E) e _) ?_
      obtain ⟨n10, f11, e, hi, hw⟩ := hw
      refine zT_st (pc' := 46) (L' := [some (.ref a0), some (.int x2)]) (st' := []) (h' := (setA h6 o8 n10 (upd f11 (x2).toNatClampNeg x9))) 1 (fun n => set_eq e hi _ _) ?_
      refine zT_st (pc' := 50) (L' := [some (.ref a0), some (.int x2)]) (st' := [.int 9, .int 0, .ref a0]) (h' := (setA h6 o8 n10 (upd f11 (x2).toNatClampNeg x9))) 3 (fun n => rfl) ?_
      obtain ⟨hq, hw⟩ := hw
      obtain ⟨x12, h13, hx, hw⟩ := hw
      refine zT_call (pc' := 53) (rest := []) 1 (fun n => rfl) hq hx ?_
      show zT E (d + 1) m_Reader_readPerson 53 [some (.ref a0), some (.int x2)] [.int x12] h13 r
      by_cases hc : x12 = 0
      · rw [if_pos hc] at hw
        refine zT_st (pc' := 56) (L' := [some (.ref a0), some (.int x2)]) (st' := []) (h' := h13) 1 (fun n => if_pos hc) ?_
        subst hw
        exact zT_ret 2 rfl
      · rw [if_neg hc] at hw
        refine zT_st (pc' := 58) (L' := [some (.ref a0), some (.int x2)]) (st' := []) (h' := h13) 1 (fun n => if_neg hc) ?_
        refine zT_st (pc' := 59) (L' := [some (.ref a0), some (.int x2)]) (st' := [.ref a0]) (h' := h13) 1 (fun n => rfl) ?_
        obtain ⟨o14, e, hw⟩ := hw
        refine zT_st (pc' := 62) (L' := [some (.ref a0), some (.int x2)]) (st' := [.ref o14]) (h' := h13) 1 (fun n => fld_eq (E := E) e _) ?_
        refine zT_st (pc' := 64) (L' := [some (.ref a0), some (.int x2)]) (st' := [.ref a0, .int x2, .ref o14]) (h' := h13) 2 (fun n => rfl) ?_
        obtain ⟨x15, e, hw⟩ := hw
        refine zT_st (pc' := 67) (L' := [some (.ref a0), some (.int x2)]) (st' := [.int x15, .int x2, .ref o14]) (h' := h13) 1 (fun n => fld_eq (E := E) e _) ?_
        obtain ⟨hq, hw⟩ := hw
        obtain ⟨h17, hx, hw⟩ := hw
        refine zT_call (pc' := 70) (rest := []) 1 (fun n => rfl) hq hx ?_
        show zT E (d + 1) m_Reader_readPerson 70 [some (.ref a0), some (.int x2)] [] h17 r
        refine zT_st (pc' := 74) (L' := [some (.ref a0), some (.int x2)]) (st' := [.int 99, .int 0, .ref a0]) (h' := h17) 3 (fun n => rfl) ?_
        obtain ⟨hq, hw⟩ := hw
        obtain ⟨x18, h19, hx, hw⟩ := hw
        refine zT_call (pc' := 77) (rest := []) 1 (fun n => rfl) hq hx ?_
        show zT E (d + 1) m_Reader_readPerson 77 [some (.ref a0), some (.int x2)] [.int x18] h19 r
        by_cases hc : x18 = 0
        · rw [if_pos hc] at hw
          refine zT_st (pc' := 80) (L' := [some (.ref a0), some (.int x2)]) (st' := []) (h' := h19) 1 (fun n => if_pos hc) ?_
          subst hw
          exact zT_ret 2 rfl
        · rw [if_neg hc] at hw
          refine zT_st (pc' := 82) (L' := [some (.ref a0), some (.int x2)]) (st' := []) (h' := h19) 1 (fun n => if_neg hc) ?_
          refine zT_st (pc' := 83) (L' := [some (.ref a0), some (.int x2)]) (st' := [.ref a0]) (h' := h19) 1 (fun n => rfl) ?_
          obtain ⟨o20, e, hw⟩ := hw
          refine zT_st (pc' := 86) (L' := [some (.ref a0), some (.int x2)]) (st' := [.ref o20]) (h' := h19) 1 (fun n => fld_eq (E := E) e _) ?_
          refine zT_st (pc' := 88) (L' := [some (.ref a0), some (.int x2)]) (st' := [.ref a0, .int x2, .ref o20]) (h' := h19) 2 (fun n => rfl) ?_
          obtain ⟨x21, e, hw⟩ := hw
          refine zT_st (pc' := 91) (L' := [some (.ref a0), some (.int x2)]) (st' := [.int x21, .int x2, .ref o20]) (h' := h19) 1 (fun n => fld_eq (E := E) e _) ?_
          obtain ⟨hq, hw⟩ := hw
          obtain ⟨h23, hx, hw⟩ := hw
          refine zT_call (pc' := 94) (rest := []) 1 (fun n => rfl) hq hx ?_
          show zT E (d + 1) m_Reader_readPerson 94 [some (.ref a0), some (.int x2)] [] h23 r
          refine zT_st (pc' := 95) (L' := [some (.ref a0), some (.int x2)]) (st' := [.ref a0]) (h' := h23) 1 (fun n => rfl) ?_
          obtain ⟨o24, e, hw⟩ := hw
          refine zT_st (pc' := 98) (L' := [some (.ref a0), some (.int x2)]) (st' := [.ref o24]) (h' := h23) 1 (fun n => fld_eq (E := E) e _) ?_
          refine zT_st (pc' := 99) (L' := [some (.ref a0), some (.int x2)]) (st' := [.ref o24, .ref o24]) (h' := h23) 1 (fun n => rfl) ?_
          obtain ⟨x25, e, hw⟩ := hw
          refine zT_st (pc' := 102) (L' := [some (.ref a0), some (.int x2)]) (st' := [.int x25, .ref o24]) (h' := h23) 1 (fun n => fld_eq (E := E) e _) ?_
          refine zT_st (pc' := 104) (L' := [some (.ref a0), some (.int x2)]) (st' := [.int (x25 + 1), .ref o24]) (h' := h23) 2 (fun n => rfl) ?_
          obtain ⟨⟨w, e⟩, hw⟩ := hw
          refine zT_st (pc' := 107) (L' := [some (.ref a0), some (.int x2)]) (st' := []) (h' := (setF h23 o24 3 (.int (x25 + 1)))) 1 (fun n => put_eq e rfl _ _) ?_
          refine zT_st (pc' := 110) (L' := [some (.ref a0), some (.int x2)]) (st' := [.int 59, .ref a0]) (h' := (setF h23 o24 3 (.int (x25 + 1)))) 2 (fun n => rfl) ?_
          obtain ⟨hq, hw⟩ := hw
          obtain ⟨x26, h27, hx, hw⟩ := hw
          refine zT_call (pc' := 113) (rest := []) 1 (fun n => rfl) hq hx ?_
          show zT E (d + 1) m_Reader_readPerson 113 [some (.ref a0), some (.int x2)] [.int x26] h27 r
          obtain ⟨hz, hw⟩ := hw
          subst hw
          refine zT_ret 1 ?_
          show (bif zfr _ _ then _ else none) = _
          rw [hz]
          rfl
  · rw [if_neg hc] at hw
    refine zT_st (pc' := 14) (L' := [some (.ref a0), some (.int x2)]) (st' := []) (h' := h) 1 (fun n => if_neg hc) ?_
    refine zT_st (pc' := 16) (L' := [some (.ref a0), some (.int x2)]) (st' := [.int 2, .ref a0]) (h' := h) 2 (fun n => rfl) ?_
    obtain ⟨hq, hw⟩ := hw
    obtain ⟨x28, h29, hx, hw⟩ := hw
    refine zT_call (pc' := 19) (rest := []) 1 (fun n => rfl) hq hx ?_
    show zT E (d + 1) m_Reader_readPerson 19 [some (.ref a0), some (.int x2)] [.int x28] h29 r
    obtain ⟨hz, hw⟩ := hw
    subst hw
    refine zT_ret 1 ?_
    show (bif zfr _ _ then _ else none) = _
    rw [hz]
    rfl
set_option maxRecDepth 4000 in
theorem s_Reader_readCell_0 (E : zX) (d : Nat) (a0 : Nat) (h : zH) (r : zO × zH)
    (hw : ∃ x1 : Int32, fld h a0 8 8 = some (.int x1) ∧
    if x1 = 2 then (
      ∃ x2 : Int32, fld h a0 8 9 = some (.int x2) ∧
      ∃ o3 : Nat, fld h a0 8 0 = some (.ref o3) ∧
      ∃ x4 : Int32, fld h o3 5 2 = some (.int x4) ∧
      if x2 < x4 then (
        ∃ o5 : Nat, fld h a0 8 0 = some (.ref o5) ∧
        ∃ x6 : Int32, fld h o5 5 2 = some (.int x6) ∧
        isO h a0 8 = true ∧ ∃ (x7 : Int32) (h8 : zH), zT E d m_Reader_readNumber 0 [some (.ref a0), some (.int 0), some (.int (x6 - 1))] [] h (.inl (some (.int x7)), h8) ∧
        zfr (some .boolean) x7 = true ∧ r = (.inl (some (.int x7)), h8))
      else (
        isO h a0 8 = true ∧ ∃ (x9 : Int32) (h10 : zH), zT E d m_Reader_fail 0 [some (.ref a0), some (.int 3)] [] h (.inl (some (.int x9)), h10) ∧
        zfr (some .boolean) x9 = true ∧ r = (.inl (some (.int x9)), h10)))
    else (
      ∃ o11 : Nat, fld h a0 8 0 = some (.ref o11) ∧
      ∃ x12 : Int32, fld h o11 5 2 = some (.int x12) ∧
      isO h a0 8 = true ∧ ∃ (x13 : Int32) (h14 : zH), zT E d m_Reader_readNumber 0 [some (.ref a0), some (.int 0), some (.int (x12 - 1))] [] h (.inl (some (.int x13)), h14) ∧
      zfr (some .boolean) x13 = true ∧ r = (.inl (some (.int x13)), h14))) :
    zT E (d + 1) m_Reader_readCell 0 [some (.ref a0)] [] h r := by
  refine zT_st (pc' := 1) (L' := [some (.ref a0)]) (st' := [.ref a0]) (h' := h) 1 (fun n => rfl) ?_
  obtain ⟨x1, e, hw⟩ := hw
  refine zT_st (pc' := 4) (L' := [some (.ref a0)]) (st' := [.int x1]) (h' := h) 1 (fun n => fld_eq (E := E) e _) ?_
  refine zT_st (pc' := 5) (L' := [some (.ref a0)]) (st' := [.int 2, .int x1]) (h' := h) 1 (fun n => rfl) ?_
  by_cases hc : x1 = 2
  · rw [if_pos hc] at hw
    refine zT_st (pc' := 8) (L' := [some (.ref a0)]) (st' := []) (h' := h) 1 (fun n => if_pos hc) ?_
    refine zT_st (pc' := 9) (L' := [some (.ref a0)]) (st' := [.ref a0]) (h' := h) 1 (fun n => rfl) ?_
    obtain ⟨x2, e, hw⟩ := hw
    refine zT_st (pc' := 12) (L' := [some (.ref a0)]) (st' := [.int x2]) (h' := h) 1 (fun n => fld_eq (E := E) e _) ?_
    refine zT_st (pc' := 13) (L' := [some (.ref a0)]) (st' := [.ref a0, .int x2]) (h' := h) 1 (fun n => rfl) ?_
    obtain ⟨o3, e, hw⟩ := hw
    refine zT_st (pc' := 16) (L' := [some (.ref a0)]) (st' := [.ref o3, .int x2]) (h' := h) 1 (fun n => fld_eq (E := E) e _) ?_
    obtain ⟨x4, e, hw⟩ := hw
    refine zT_st (pc' := 19) (L' := [some (.ref a0)]) (st' := [.int x4, .int x2]) (h' := h) 1 (fun n => fld_eq (E := E) e _) ?_
    by_cases hc : x2 < x4
    · rw [if_pos hc] at hw
      refine zT_st (pc' := 28) (L' := [some (.ref a0)]) (st' := []) (h' := h) 1 (fun n => if_pos hc) ?_
      refine zT_st (pc' := 31) (L' := [some (.ref a0)]) (st' := [.ref a0, .int 0, .ref a0]) (h' := h) 3 (fun n => rfl) ?_
      obtain ⟨o5, e, hw⟩ := hw
      refine zT_st (pc' := 34) (L' := [some (.ref a0)]) (st' := [.ref o5, .int 0, .ref a0]) (h' := h) 1 (fun n => fld_eq (E := E) e _) ?_
      obtain ⟨x6, e, hw⟩ := hw
      refine zT_st (pc' := 37) (L' := [some (.ref a0)]) (st' := [.int x6, .int 0, .ref a0]) (h' := h) 1 (fun n => fld_eq (E := E) e _) ?_
      refine zT_st (pc' := 39) (L' := [some (.ref a0)]) (st' := [.int (x6 - 1), .int 0, .ref a0]) (h' := h) 2 (fun n => rfl) ?_
      obtain ⟨hq, hw⟩ := hw
      obtain ⟨x7, h8, hx, hw⟩ := hw
      refine zT_call (pc' := 42) (rest := []) 1 (fun n => rfl) hq hx ?_
      show zT E (d + 1) m_Reader_readCell 42 [some (.ref a0)] [.int x7] h8 r
      obtain ⟨hz, hw⟩ := hw
      subst hw
      refine zT_ret 1 ?_
      show (bif zfr _ _ then _ else none) = _
      rw [hz]
      rfl
    · rw [if_neg hc] at hw
      refine zT_st (pc' := 22) (L' := [some (.ref a0)]) (st' := []) (h' := h) 1 (fun n => if_neg hc) ?_
      refine zT_st (pc' := 24) (L' := [some (.ref a0)]) (st' := [.int 3, .ref a0]) (h' := h) 2 (fun n => rfl) ?_
      obtain ⟨hq, hw⟩ := hw
      obtain ⟨x9, h10, hx, hw⟩ := hw
      refine zT_call (pc' := 27) (rest := []) 1 (fun n => rfl) hq hx ?_
      show zT E (d + 1) m_Reader_readCell 27 [some (.ref a0)] [.int x9] h10 r
      obtain ⟨hz, hw⟩ := hw
      subst hw
      refine zT_ret 1 ?_
      show (bif zfr _ _ then _ else none) = _
      rw [hz]
      rfl
  · rw [if_neg hc] at hw
    refine zT_st (pc' := 28) (L' := [some (.ref a0)]) (st' := []) (h' := h) 1 (fun n => if_neg hc) ?_
    refine zT_st (pc' := 31) (L' := [some (.ref a0)]) (st' := [.ref a0, .int 0, .ref a0]) (h' := h) 3 (fun n => rfl) ?_
    obtain ⟨o11, e, hw⟩ := hw
    refine zT_st (pc' := 34) (L' := [some (.ref a0)]) (st' := [.ref o11, .int 0, .ref a0]) (h' := h) 1 (fun n => fld_eq (E := E) e _) ?_
    obtain ⟨x12, e, hw⟩ := hw
    refine zT_st (pc' := 37) (L' := [some (.ref a0)]) (st' := [.int x12, .int 0, .ref a0]) (h' := h) 1 (fun n => fld_eq (E := E) e _) ?_
    refine zT_st (pc' := 39) (L' := [some (.ref a0)]) (st' := [.int (x12 - 1), .int 0, .ref a0]) (h' := h) 2 (fun n => rfl) ?_
    obtain ⟨hq, hw⟩ := hw
    obtain ⟨x13, h14, hx, hw⟩ := hw
    refine zT_call (pc' := 42) (rest := []) 1 (fun n => rfl) hq hx ?_
    show zT E (d + 1) m_Reader_readCell 42 [some (.ref a0)] [.int x13] h14 r
    obtain ⟨hz, hw⟩ := hw
    subst hw
    refine zT_ret 1 ?_
    show (bif zfr _ _ then _ else none) = _
    rw [hz]
    rfl
set_option maxRecDepth 4000 in
theorem s_Reader_readBall_0 (E : zX) (d : Nat) (a0 : Nat) (h : zH) (r : zO × zH)
    (hw : ∃ o1 : Nat, fld h a0 8 0 = some (.ref o1) ∧
    ∃ x2 : Int32, fld h o1 5 4 = some (.int x2) ∧
    if x2 < 10 then (
      isO h a0 8 = true ∧ ∃ (h4 : zH), zT E d m_Reader_nextToken 0 [some (.ref a0)] [] h (.inl none, h4) ∧
      isO h4 a0 8 = true ∧ ∃ (x5 : Int32) (h6 : zH), zT E d m_Reader_readCell 0 [some (.ref a0)] [] h4 (.inl (some (.int x5)), h6) ∧
      if x5 = 0 then (
        r = (.inl (some (.int 0)), h6))
      else (
        ∃ o7 : Nat, fld h6 a0 8 1 = some (.ref o7) ∧
        ∃ x8 : Int32, fld h6 a0 8 11 = some (.int x8) ∧
        isO h6 o7 10 = true ∧ ∃ (h10 : zH), zT E d m_Scene_setCell 0 [some (.ref o7), some (.int x2), some (.int x8)] [] h6 (.inl none, h10) ∧
        isO h10 a0 8 = true ∧ ∃ (x11 : Int32) (h12 : zH), zT E d m_Reader_readNumber 0 [some (.ref a0), some (.int 1), some (.int 99)] [] h10 (.inl (some (.int x11)), h12) ∧
        if x11 = 0 then (
          r = (.inl (some (.int 0)), h12))
        else (
          ∃ o13 : Nat, fld h12 a0 8 0 = some (.ref o13) ∧
          ∃ o14 : Nat, fld h12 o13 5 6 = some (.ref o14) ∧
          ∃ x15 : Int32, fld h12 a0 8 11 = some (.int x15) ∧
          ∃ (n16 : Nat) (f17 : Nat → Int32), arr h12 o14 = some (n16, f17) ∧ ¬ (x2 < 0 ∨ n16 ≤ (x2).toNatClampNeg) ∧
          isO (setA h12 o14 n16 (upd f17 (x2).toNatClampNeg x15)) a0 8 = true ∧ ∃ (x18 : Int32) (h19 : zH), zT E d m_Reader_isWord 0 [some (.ref a0), some (.float 9), none] [] (setA h12 o14 n16 (upd f17 (x2).toNatClampNeg x15)) (.inl (some (.int x18)), h19) ∧
          if x18 = 0 then (
            zT E (d + 1) m_Reader_readBall 115 [some (.ref a0), some (.int x2)] [] h19 r)
          else (
            isO h19 a0 8 = true ∧ ∃ (h21 : zH), zT E d m_Reader_nextToken 0 [some (.ref a0)] [] h19 (.inl none, h21) ∧
            ∃ o22 : Nat, fld h21 a0 8 0 = some (.ref o22) ∧
            ∃ o23 : Nat, fld h21 o22 5 6 = some (.ref o23) ∧
            ∃ (n24 : Nat) (f25 : Nat → Int32), arr h21 o23 = some (n24, f25) ∧ ¬ (x2 < 0 ∨ n24 ≤ (x2).toNatClampNeg) ∧
            isO h21 a0 8 = true ∧ ∃ (x26 : Int32) (h27 : zH), zT E d m_Reader_readNumber 0 [some (.ref a0), some (.int 1), some (.int (f25 (x2).toNatClampNeg))] [] h21 (.inl (some (.int x26)), h27) ∧
            if x26 = 0 then (
              r = (.inl (some (.int 0)), h27))
            else (
              ∃ o28 : Nat, fld h27 a0 8 1 = some (.ref o28) ∧
              ∃ x29 : Int32, fld h27 a0 8 11 = some (.int x29) ∧
              isO h27 o28 10 = true ∧ ∃ (h31 : zH), zT E d m_Scene_fill 0 [some (.ref o28), some (.int x2), some (.int x29), some (.int (-1))] [] h27 (.inl none, h31) ∧
              zT E (d + 1) m_Reader_readBall 115 [some (.ref a0), some (.int x2)] [] h31 r)))))
    else (
      isO h a0 8 = true ∧ ∃ (x32 : Int32) (h33 : zH), zT E d m_Reader_fail 0 [some (.ref a0), some (.int 2)] [] h (.inl (some (.int x32)), h33) ∧
      zfr (some .boolean) x32 = true ∧ r = (.inl (some (.int x32)), h33))) :
    zT E (d + 1) m_Reader_readBall 0 [some (.ref a0), none] [] h r := by
  refine zT_st (pc' := 1) (L' := [some (.ref a0), none]) (st' := [.ref a0]) (h' := h) 1 (fun n => rfl) ?_
  obtain ⟨o1, e, hw⟩ := hw
  refine zT_st (pc' := 4) (L' := [some (.ref a0), none]) (st' := [.ref o1]) (h' := h) 1 (fun n => fld_eq (E := E) e _) ?_
  obtain ⟨x2, e, hw⟩ := hw
  refine zT_st (pc' := 7) (L' := [some (.ref a0), none]) (st' := [.int x2]) (h' := h) 1 (fun n => fld_eq (E := E) e _) ?_
  refine zT_st (pc' := 11) (L' := [some (.ref a0), some (.int x2)]) (st' := [.int 10, .int x2]) (h' := h) 3 (fun n => rfl) ?_
  by_cases hc : x2 < 10
  · rw [if_pos hc] at hw
    refine zT_st (pc' := 20) (L' := [some (.ref a0), some (.int x2)]) (st' := []) (h' := h) 1 (fun n => if_pos hc) ?_
    refine zT_st (pc' := 21) (L' := [some (.ref a0), some (.int x2)]) (st' := [.ref a0]) (h' := h) 1 (fun n => rfl) ?_
    obtain ⟨hq, hw⟩ := hw
    obtain ⟨h4, hx, hw⟩ := hw
    refine zT_call (pc' := 24) (rest := []) 1 (fun n => rfl) hq hx ?_
    show zT E (d + 1) m_Reader_readBall 24 [some (.ref a0), some (.int x2)] [] h4 r
    refine zT_st (pc' := 25) (L' := [some (.ref a0), some (.int x2)]) (st' := [.ref a0]) (h' := h4) 1 (fun n => rfl) ?_
    obtain ⟨hq, hw⟩ := hw
    obtain ⟨x5, h6, hx, hw⟩ := hw
    refine zT_call (pc' := 28) (rest := []) 1 (fun n => rfl) hq hx ?_
    show zT E (d + 1) m_Reader_readBall 28 [some (.ref a0), some (.int x2)] [.int x5] h6 r
    by_cases hc : x5 = 0
    · rw [if_pos hc] at hw
      refine zT_st (pc' := 31) (L' := [some (.ref a0), some (.int x2)]) (st' := []) (h' := h6) 1 (fun n => if_pos hc) ?_
      subst hw
      exact zT_ret 2 rfl
    · rw [if_neg hc] at hw
      refine zT_st (pc' := 33) (L' := [some (.ref a0), some (.int x2)]) (st' := []) (h' := h6) 1 (fun n => if_neg hc) ?_
      refine zT_st (pc' := 34) (L' := [some (.ref a0), some (.int x2)]) (st' := [.ref a0]) (h' := h6) 1 (fun n => rfl) ?_
      obtain ⟨o7, e, hw⟩ := hw
      refine zT_st (pc' := 37) (L' := [some (.ref a0), some (.int x2)]) (st' := [.ref o7]) (h' := h6) 1 (fun n => fld_eq (E := E) e _) ?_
      refine zT_st (pc' := 39) (L' := [some (.ref a0), some (.int x2)]) (st' := [.ref a0, .int x2, .ref o7]) (h' := h6) 2 (fun n => rfl) ?_
      obtain ⟨x8, e, hw⟩ := hw
      refine zT_st (pc' := 42) (L' := [some (.ref a0), some (.int x2)]) (st' := [.int x8, .int x2, .ref o7]) (h' := h6) 1 (fun n => fld_eq (E := E) e _) ?_
      obtain ⟨hq, hw⟩ := hw
      obtain ⟨h10, hx, hw⟩ := hw
      refine zT_call (pc' := 45) (rest := []) 1 (fun n => rfl) hq hx ?_
      show zT E (d + 1) m_Reader_readBall 45 [some (.ref a0), some (.int x2)] [] h10 r
      refine zT_st (pc' := 49) (L' := [some (.ref a0), some (.int x2)]) (st' := [.int 99, .int 1, .ref a0]) (h' := h10) 3 (fun n => rfl) ?_
      obtain ⟨hq, hw⟩ := hw
      obtain ⟨x11, h12, hx, hw⟩ := hw
      refine zT_call (pc' := 52) (rest := []) 1 (fun n => rfl) hq hx ?_
      show zT E (d + 1) m_Reader_readBall 52 [some (.ref a0), some (.int x2)] [.int x11] h12 r
      by_cases hc : x11 = 0
      · rw [if_pos hc] at hw
        refine zT_st (pc' := 55) (L' := [some (.ref a0), some (.int x2)]) (st' := []) (h' := h12) 1 (fun n => if_pos hc) ?_
        subst hw
        exact zT_ret 2 rfl
      · rw [if_neg hc] at hw
        refine zT_st (pc' := 57) (L' := [some (.ref a0), some (.int x2)]) (st' := []) (h' := h12) 1 (fun n => if_neg hc) ?_
        refine zT_st (pc' := 58) (L' := [some (.ref a0), some (.int x2)]) (st' := [.ref a0]) (h' := h12) 1 (fun n => rfl) ?_
        obtain ⟨o13, e, hw⟩ := hw
        refine zT_st (pc' := 61) (L' := [some (.ref a0), some (.int x2)]) (st' := [.ref o13]) (h' := h12) 1 (fun n => fld_eq (E := E) e _) ?_
        obtain ⟨o14, e, hw⟩ := hw
        refine zT_st (pc' := 64) (L' := [some (.ref a0), some (.int x2)]) (st' := [.ref o14]) (h' := h12) 1 (fun n => fld_eq (E := E) e _) ?_
        refine zT_st (pc' := 66) (L' := [some (.ref a0), some (.int x2)]) (st' := [.ref a0, .int x2, .ref o14]) (h' := h12) 2 (fun n => rfl) ?_
        obtain ⟨x15, e, hw⟩ := hw
        refine zT_st (pc' := 69) (L' := [some (.ref a0), some (.int x2)]) (st' := [.int x15, .int x2, .ref o14]) (h' := h12) 1 (fun n => fld_eq (E := E) e _) ?_
        obtain ⟨n16, f17, e, hi, hw⟩ := hw
        refine zT_st (pc' := 70) (L' := [some (.ref a0), some (.int x2)]) (st' := []) (h' := (setA h12 o14 n16 (upd f17 (x2).toNatClampNeg x15))) 1 (fun n => set_eq e hi _ _) ?_
        refine zT_st (pc' := 73) (L' := [some (.ref a0), some (.int x2)]) (st' := [.float 9, .ref a0]) (h' := (setA h12 o14 n16 (upd f17 (x2).toNatClampNeg x15))) 2 (fun n => rfl) ?_
        obtain ⟨hq, hw⟩ := hw
        obtain ⟨x18, h19, hx, hw⟩ := hw
        refine zT_call (pc' := 76) (rest := []) 1 (fun n => rfl) hq hx ?_
        show zT E (d + 1) m_Reader_readBall 76 [some (.ref a0), some (.int x2)] [.int x18] h19 r
        by_cases hc : x18 = 0
        · rw [if_pos hc] at hw
          refine zT_st (pc' := 115) (L' := [some (.ref a0), some (.int x2)]) (st' := []) (h' := h19) 1 (fun n => if_pos hc) ?_
          exact hw
        · rw [if_neg hc] at hw
          refine zT_st (pc' := 79) (L' := [some (.ref a0), some (.int x2)]) (st' := []) (h' := h19) 1 (fun n => if_neg hc) ?_
          refine zT_st (pc' := 80) (L' := [some (.ref a0), some (.int x2)]) (st' := [.ref a0]) (h' := h19) 1 (fun n => rfl) ?_
          obtain ⟨hq, hw⟩ := hw
          obtain ⟨h21, hx, hw⟩ := hw
          refine zT_call (pc' := 83) (rest := []) 1 (fun n => rfl) hq hx ?_
          show zT E (d + 1) m_Reader_readBall 83 [some (.ref a0), some (.int x2)] [] h21 r
          refine zT_st (pc' := 86) (L' := [some (.ref a0), some (.int x2)]) (st' := [.ref a0, .int 1, .ref a0]) (h' := h21) 3 (fun n => rfl) ?_
          obtain ⟨o22, e, hw⟩ := hw
          refine zT_st (pc' := 89) (L' := [some (.ref a0), some (.int x2)]) (st' := [.ref o22, .int 1, .ref a0]) (h' := h21) 1 (fun n => fld_eq (E := E) e _) ?_
          obtain ⟨o23, e, hw⟩ := hw
          refine zT_st (pc' := 92) (L' := [some (.ref a0), some (.int x2)]) (st' := [.ref o23, .int 1, .ref a0]) (h' := h21) 1 (fun n => fld_eq (E := E) e _) ?_
          refine zT_st (pc' := 93) (L' := [some (.ref a0), some (.int x2)]) (st' := [.int x2, .ref o23, .int 1, .ref a0]) (h' := h21) 1 (fun n => rfl) ?_
          obtain ⟨n24, f25, e, hi, hw⟩ := hw
          refine zT_st (pc' := 94) (L' := [some (.ref a0), some (.int x2)]) (st' := [.int (f25 (x2).toNatClampNeg), .int 1, .ref a0]) (h' := h21) 1 (fun n => arr_eq (E := E) e hi [.int 1, .ref a0] (fun st => zrun zP zCd E n (d + 1) m_Reader_readBall 94 [some (.ref a0), some (.int x2)] st h21)) ?_
          obtain ⟨hq, hw⟩ := hw
          obtain ⟨x26, h27, hx, hw⟩ := hw
          refine zT_call (pc' := 97) (rest := []) 1 (fun n => rfl) hq hx ?_
          show zT E (d + 1) m_Reader_readBall 97 [some (.ref a0), some (.int x2)] [.int x26] h27 r
          by_cases hc : x26 = 0
          · rw [if_pos hc] at hw
            refine zT_st (pc' := 100) (L' := [some (.ref a0), some (.int x2)]) (st' := []) (h' := h27) 1 (fun n => if_pos hc) ?_
            subst hw
            exact zT_ret 2 rfl
          · rw [if_neg hc] at hw
            refine zT_st (pc' := 102) (L' := [some (.ref a0), some (.int x2)]) (st' := []) (h' := h27) 1 (fun n => if_neg hc) ?_
            refine zT_st (pc' := 103) (L' := [some (.ref a0), some (.int x2)]) (st' := [.ref a0]) (h' := h27) 1 (fun n => rfl) ?_
            obtain ⟨o28, e, hw⟩ := hw
            refine zT_st (pc' := 106) (L' := [some (.ref a0), some (.int x2)]) (st' := [.ref o28]) (h' := h27) 1 (fun n => fld_eq (E := E) e _) ?_
            refine zT_st (pc' := 108) (L' := [some (.ref a0), some (.int x2)]) (st' := [.ref a0, .int x2, .ref o28]) (h' := h27) 2 (fun n => rfl) ?_
            obtain ⟨x29, e, hw⟩ := hw
            refine zT_st (pc' := 111) (L' := [some (.ref a0), some (.int x2)]) (st' := [.int x29, .int x2, .ref o28]) (h' := h27) 1 (fun n => fld_eq (E := E) e _) ?_
            refine zT_st (pc' := 112) (L' := [some (.ref a0), some (.int x2)]) (st' := [.int (-1), .int x29, .int x2, .ref o28]) (h' := h27) 1 (fun n => rfl) ?_
            obtain ⟨hq, hw⟩ := hw
            obtain ⟨h31, hx, hw⟩ := hw
            refine zT_call (pc' := 115) (rest := []) 1 (fun n => rfl) hq hx ?_
            show zT E (d + 1) m_Reader_readBall 115 [some (.ref a0), some (.int x2)] [] h31 r
            exact hw
  · rw [if_neg hc] at hw
    refine zT_st (pc' := 14) (L' := [some (.ref a0), some (.int x2)]) (st' := []) (h' := h) 1 (fun n => if_neg hc) ?_
    refine zT_st (pc' := 16) (L' := [some (.ref a0), some (.int x2)]) (st' := [.int 2, .ref a0]) (h' := h) 2 (fun n => rfl) ?_
    obtain ⟨hq, hw⟩ := hw
    obtain ⟨x32, h33, hx, hw⟩ := hw
    refine zT_call (pc' := 19) (rest := []) 1 (fun n => rfl) hq hx ?_
    show zT E (d + 1) m_Reader_readBall 19 [some (.ref a0), some (.int x2)] [.int x32] h33 r
    obtain ⟨hz, hw⟩ := hw
    subst hw
    refine zT_ret 1 ?_
    show (bif zfr _ _ then _ else none) = _
    rw [hz]
    rfl
set_option maxRecDepth 4000 in
theorem s_Reader_readBall_115 (E : zX) (d : Nat) (a0 : Nat) (j1 : Option Value) (h : zH) (r : zO × zH)
    (hw : ∃ o1 : Nat, fld h a0 8 0 = some (.ref o1) ∧
    ∃ x2 : Int32, fld h o1 5 4 = some (.int x2) ∧
    (∃ w, fld h o1 5 4 = some w) ∧
    isO (setF h o1 4 (.int (x2 + 1))) a0 8 = true ∧ ∃ (x3 : Int32) (h4 : zH), zT E d m_Reader_readSign 0 [some (.ref a0), some (.int 59)] [] (setF h o1 4 (.int (x2 + 1))) (.inl (some (.int x3)), h4) ∧
    zfr (some .boolean) x3 = true ∧ r = (.inl (some (.int x3)), h4)) :
    zT E (d + 1) m_Reader_readBall 115 [some (.ref a0), j1] [] h r := by
  refine zT_st (pc' := 116) (L' := [some (.ref a0), j1]) (st' := [.ref a0]) (h' := h) 1 (fun n => rfl) ?_
  obtain ⟨o1, e, hw⟩ := hw
  refine zT_st (pc' := 119) (L' := [some (.ref a0), j1]) (st' := [.ref o1]) (h' := h) 1 (fun n => fld_eq (E := E) e _) ?_
  refine zT_st (pc' := 120) (L' := [some (.ref a0), j1]) (st' := [.ref o1, .ref o1]) (h' := h) 1 (fun n => rfl) ?_
  obtain ⟨x2, e, hw⟩ := hw
  refine zT_st (pc' := 123) (L' := [some (.ref a0), j1]) (st' := [.int x2, .ref o1]) (h' := h) 1 (fun n => fld_eq (E := E) e _) ?_
  refine zT_st (pc' := 125) (L' := [some (.ref a0), j1]) (st' := [.int (x2 + 1), .ref o1]) (h' := h) 2 (fun n => rfl) ?_
  obtain ⟨⟨w, e⟩, hw⟩ := hw
  refine zT_st (pc' := 128) (L' := [some (.ref a0), j1]) (st' := []) (h' := (setF h o1 4 (.int (x2 + 1)))) 1 (fun n => put_eq e rfl _ _) ?_
  refine zT_st (pc' := 131) (L' := [some (.ref a0), j1]) (st' := [.int 59, .ref a0]) (h' := (setF h o1 4 (.int (x2 + 1)))) 2 (fun n => rfl) ?_
  obtain ⟨hq, hw⟩ := hw
  obtain ⟨x3, h4, hx, hw⟩ := hw
  refine zT_call (pc' := 134) (rest := []) 1 (fun n => rfl) hq hx ?_
  show zT E (d + 1) m_Reader_readBall 134 [some (.ref a0), j1] [.int x3] h4 r
  obtain ⟨hz, hw⟩ := hw
  subst hw
  refine zT_ret 1 ?_
  show (bif zfr _ _ then _ else none) = _
  rw [hz]
  rfl
set_option maxRecDepth 4000 in
theorem s_Reader_readRule_0 (E : zX) (d : Nat) (a0 : Nat) (a1 : Nat) (h : zH) (r : zO × zH)
    (hw : isO h a1 9 = true ∧ ∃ (x1 : Int32) (h2 : zH), zT E d m_Rule_isTold 0 [some (.ref a1)] [] h (.inl (some (.int x1)), h2) ∧
    if x1 = 0 then (
      (∃ w, fld h2 a0 8 12 = some w) ∧
      isO (setF h2 a0 12 (.ref a1)) a0 8 = true ∧ ∃ (h4 : zH), zT E d m_Reader_nextToken 0 [some (.ref a0)] [] (setF h2 a0 12 (.ref a1)) (.inl none, h4) ∧
      isO h4 a0 8 = true ∧ ∃ (x5 : Int32) (h6 : zH), zT E d m_Reader_readExpr 0 [some (.ref a0), some (.int 0), none] [] h4 (.inl (some (.int x5)), h6) ∧
      if x5 = 0 then (
        r = (.inl (some (.int 0)), h6))
      else (
        isO h6 a0 8 = true ∧ ∃ (x7 : Int32) (h8 : zH), zT E d m_Reader_readSign 0 [some (.ref a0), some (.int 59)] [] h6 (.inl (some (.int x7)), h8) ∧
        if x7 = 0 then (
          r = (.inl (some (.int 0)), h8))
        else (
          r = (.inl (some (.int 1)), h8))))
    else (
      isO h2 a0 8 = true ∧ ∃ (x9 : Int32) (h10 : zH), zT E d m_Reader_fail 0 [some (.ref a0), some (.int 5)] [] h2 (.inl (some (.int x9)), h10) ∧
      zfr (some .boolean) x9 = true ∧ r = (.inl (some (.int x9)), h10))) :
    zT E (d + 1) m_Reader_readRule 0 [some (.ref a0), some (.ref a1)] [] h r := by
  refine zT_st (pc' := 1) (L' := [some (.ref a0), some (.ref a1)]) (st' := [.ref a1]) (h' := h) 1 (fun n => rfl) ?_
  obtain ⟨hq, hw⟩ := hw
  obtain ⟨x1, h2, hx, hw⟩ := hw
  refine zT_call (pc' := 4) (rest := []) 1 (fun n => rfl) hq hx ?_
  show zT E (d + 1) m_Reader_readRule 4 [some (.ref a0), some (.ref a1)] [.int x1] h2 r
  by_cases hc : x1 = 0
  · rw [if_pos hc] at hw
    refine zT_st (pc' := 13) (L' := [some (.ref a0), some (.ref a1)]) (st' := []) (h' := h2) 1 (fun n => if_pos hc) ?_
    refine zT_st (pc' := 15) (L' := [some (.ref a0), some (.ref a1)]) (st' := [.ref a1, .ref a0]) (h' := h2) 2 (fun n => rfl) ?_
    obtain ⟨⟨w, e⟩, hw⟩ := hw
    refine zT_st (pc' := 18) (L' := [some (.ref a0), some (.ref a1)]) (st' := []) (h' := (setF h2 a0 12 (.ref a1))) 1 (fun n => put_eq e rfl _ _) ?_
    refine zT_st (pc' := 19) (L' := [some (.ref a0), some (.ref a1)]) (st' := [.ref a0]) (h' := (setF h2 a0 12 (.ref a1))) 1 (fun n => rfl) ?_
    obtain ⟨hq, hw⟩ := hw
    obtain ⟨h4, hx, hw⟩ := hw
    refine zT_call (pc' := 22) (rest := []) 1 (fun n => rfl) hq hx ?_
    show zT E (d + 1) m_Reader_readRule 22 [some (.ref a0), some (.ref a1)] [] h4 r
    refine zT_st (pc' := 24) (L' := [some (.ref a0), some (.ref a1)]) (st' := [.int 0, .ref a0]) (h' := h4) 2 (fun n => rfl) ?_
    obtain ⟨hq, hw⟩ := hw
    obtain ⟨x5, h6, hx, hw⟩ := hw
    refine zT_call (pc' := 27) (rest := []) 1 (fun n => rfl) hq hx ?_
    show zT E (d + 1) m_Reader_readRule 27 [some (.ref a0), some (.ref a1)] [.int x5] h6 r
    by_cases hc : x5 = 0
    · rw [if_pos hc] at hw
      refine zT_st (pc' := 43) (L' := [some (.ref a0), some (.ref a1)]) (st' := []) (h' := h6) 1 (fun n => if_pos hc) ?_
      subst hw
      exact zT_ret 2 rfl
    · rw [if_neg hc] at hw
      refine zT_st (pc' := 30) (L' := [some (.ref a0), some (.ref a1)]) (st' := []) (h' := h6) 1 (fun n => if_neg hc) ?_
      refine zT_st (pc' := 33) (L' := [some (.ref a0), some (.ref a1)]) (st' := [.int 59, .ref a0]) (h' := h6) 2 (fun n => rfl) ?_
      obtain ⟨hq, hw⟩ := hw
      obtain ⟨x7, h8, hx, hw⟩ := hw
      refine zT_call (pc' := 36) (rest := []) 1 (fun n => rfl) hq hx ?_
      show zT E (d + 1) m_Reader_readRule 36 [some (.ref a0), some (.ref a1)] [.int x7] h8 r
      by_cases hc : x7 = 0
      · rw [if_pos hc] at hw
        refine zT_st (pc' := 43) (L' := [some (.ref a0), some (.ref a1)]) (st' := []) (h' := h8) 1 (fun n => if_pos hc) ?_
        subst hw
        exact zT_ret 2 rfl
      · rw [if_neg hc] at hw
        refine zT_st (pc' := 39) (L' := [some (.ref a0), some (.ref a1)]) (st' := []) (h' := h8) 1 (fun n => if_neg hc) ?_
        subst hw
        exact zT_ret 3 rfl
  · rw [if_neg hc] at hw
    refine zT_st (pc' := 7) (L' := [some (.ref a0), some (.ref a1)]) (st' := []) (h' := h2) 1 (fun n => if_neg hc) ?_
    refine zT_st (pc' := 9) (L' := [some (.ref a0), some (.ref a1)]) (st' := [.int 5, .ref a0]) (h' := h2) 2 (fun n => rfl) ?_
    obtain ⟨hq, hw⟩ := hw
    obtain ⟨x9, h10, hx, hw⟩ := hw
    refine zT_call (pc' := 12) (rest := []) 1 (fun n => rfl) hq hx ?_
    show zT E (d + 1) m_Reader_readRule 12 [some (.ref a0), some (.ref a1)] [.int x9] h10 r
    obtain ⟨hz, hw⟩ := hw
    subst hw
    refine zT_ret 1 ?_
    show (bif zfr _ _ then _ else none) = _
    rw [hz]
    rfl
set_option maxRecDepth 4000 in
theorem s_Reader_readExpr_0 (E : zX) (d : Nat) (a0 : Nat) (a1 : Int32) (h : zH) (r : zO × zH)
    (hw : if a1 < 6 then (
      isO h a0 8 = true ∧ ∃ (x1 : Int32) (h2 : zH), zT E d m_Reader_readAnd 0 [some (.ref a0), some (.int a1), none] [] h (.inl (some (.int x1)), h2) ∧
      if x1 = 0 then (
        r = (.inl (some (.int 0)), h2))
      else (
        zT E (d + 1) m_Reader_readExpr 49 [some (.ref a0), some (.int a1), some (.int 0)] [] h2 r))
    else (
      ∃ x3 : Int32, fld h a0 8 8 = some (.int x3) ∧
      if x3 = 2 then (
        isO h a0 8 = true ∧ ∃ (x4 : Int32) (h5 : zH), zT E d m_Reader_fail 0 [some (.ref a0), some (.int 2)] [] h (.inl (some (.int x4)), h5) ∧
        zfr (some .boolean) x4 = true ∧ r = (.inl (some (.int x4)), h5))
      else (
        ∃ x6 : Int32, fld h a0 8 8 = some (.int x6) ∧
        if x6 = 1 then (
          isO h a0 8 = true ∧ ∃ (x7 : Int32) (h8 : zH), zT E d m_Reader_fail 0 [some (.ref a0), some (.int 2)] [] h (.inl (some (.int x7)), h8) ∧
          zfr (some .boolean) x7 = true ∧ r = (.inl (some (.int x7)), h8))
        else (
          isO h a0 8 = true ∧ ∃ (x9 : Int32) (h10 : zH), zT E d m_Reader_isSign 0 [some (.ref a0), some (.int 40)] [] h (.inl (some (.int x9)), h10) ∧
          if x9 = 0 then (
            isO h10 a0 8 = true ∧ ∃ (x11 : Int32) (h12 : zH), zT E d m_Reader_readAnd 0 [some (.ref a0), some (.int a1), none] [] h10 (.inl (some (.int x11)), h12) ∧
            if x11 = 0 then (
              r = (.inl (some (.int 0)), h12))
            else (
              zT E (d + 1) m_Reader_readExpr 49 [some (.ref a0), some (.int a1), some (.int 0)] [] h12 r))
          else (
            isO h10 a0 8 = true ∧ ∃ (x13 : Int32) (h14 : zH), zT E d m_Reader_fail 0 [some (.ref a0), some (.int 2)] [] h10 (.inl (some (.int x13)), h14) ∧
            zfr (some .boolean) x13 = true ∧ r = (.inl (some (.int x13)), h14)))))) :
    zT E (d + 1) m_Reader_readExpr 0 [some (.ref a0), some (.int a1), none] [] h r := by
  refine zT_st (pc' := 3) (L' := [some (.ref a0), some (.int a1), none]) (st' := [.int 6, .int a1]) (h' := h) 2 (fun n => rfl) ?_
  by_cases hc : a1 < 6
  · rw [if_pos hc] at hw
    refine zT_st (pc' := 37) (L' := [some (.ref a0), some (.int a1), none]) (st' := []) (h' := h) 1 (fun n => if_pos hc) ?_
    refine zT_st (pc' := 39) (L' := [some (.ref a0), some (.int a1), none]) (st' := [.int a1, .ref a0]) (h' := h) 2 (fun n => rfl) ?_
    obtain ⟨hq, hw⟩ := hw
    obtain ⟨x1, h2, hx, hw⟩ := hw
    refine zT_call (pc' := 42) (rest := []) 1 (fun n => rfl) hq hx ?_
    show zT E (d + 1) m_Reader_readExpr 42 [some (.ref a0), some (.int a1), none] [.int x1] h2 r
    by_cases hc : x1 = 0
    · rw [if_pos hc] at hw
      refine zT_st (pc' := 45) (L' := [some (.ref a0), some (.int a1), none]) (st' := []) (h' := h2) 1 (fun n => if_pos hc) ?_
      subst hw
      exact zT_ret 2 rfl
    · rw [if_neg hc] at hw
      refine zT_st (pc' := 47) (L' := [some (.ref a0), some (.int a1), none]) (st' := []) (h' := h2) 1 (fun n => if_neg hc) ?_
      exact zT_st 2 (fun n => rfl) hw
  · rw [if_neg hc] at hw
    refine zT_st (pc' := 6) (L' := [some (.ref a0), some (.int a1), none]) (st' := []) (h' := h) 1 (fun n => if_neg hc) ?_
    refine zT_st (pc' := 7) (L' := [some (.ref a0), some (.int a1), none]) (st' := [.ref a0]) (h' := h) 1 (fun n => rfl) ?_
    obtain ⟨x3, e, hw⟩ := hw
    refine zT_st (pc' := 10) (L' := [some (.ref a0), some (.int a1), none]) (st' := [.int x3]) (h' := h) 1 (fun n => fld_eq (E := E) e _) ?_
    refine zT_st (pc' := 11) (L' := [some (.ref a0), some (.int a1), none]) (st' := [.int 2, .int x3]) (h' := h) 1 (fun n => rfl) ?_
    by_cases hc : x3 = 2
    · rw [if_pos hc] at hw
      refine zT_st (pc' := 31) (L' := [some (.ref a0), some (.int a1), none]) (st' := []) (h' := h) 1 (fun n => if_pos hc) ?_
      refine zT_st (pc' := 33) (L' := [some (.ref a0), some (.int a1), none]) (st' := [.int 2, .ref a0]) (h' := h) 2 (fun n => rfl) ?_
      obtain ⟨hq, hw⟩ := hw
      obtain ⟨x4, h5, hx, hw⟩ := hw
      refine zT_call (pc' := 36) (rest := []) 1 (fun n => rfl) hq hx ?_
      show zT E (d + 1) m_Reader_readExpr 36 [some (.ref a0), some (.int a1), none] [.int x4] h5 r
      obtain ⟨hz, hw⟩ := hw
      subst hw
      refine zT_ret 1 ?_
      show (bif zfr _ _ then _ else none) = _
      rw [hz]
      rfl
    · rw [if_neg hc] at hw
      refine zT_st (pc' := 14) (L' := [some (.ref a0), some (.int a1), none]) (st' := []) (h' := h) 1 (fun n => if_neg hc) ?_
      refine zT_st (pc' := 15) (L' := [some (.ref a0), some (.int a1), none]) (st' := [.ref a0]) (h' := h) 1 (fun n => rfl) ?_
      obtain ⟨x6, e, hw⟩ := hw
      refine zT_st (pc' := 18) (L' := [some (.ref a0), some (.int a1), none]) (st' := [.int x6]) (h' := h) 1 (fun n => fld_eq (E := E) e _) ?_
      refine zT_st (pc' := 19) (L' := [some (.ref a0), some (.int a1), none]) (st' := [.int 1, .int x6]) (h' := h) 1 (fun n => rfl) ?_
      by_cases hc : x6 = 1
      · rw [if_pos hc] at hw
        refine zT_st (pc' := 31) (L' := [some (.ref a0), some (.int a1), none]) (st' := []) (h' := h) 1 (fun n => if_pos hc) ?_
        refine zT_st (pc' := 33) (L' := [some (.ref a0), some (.int a1), none]) (st' := [.int 2, .ref a0]) (h' := h) 2 (fun n => rfl) ?_
        obtain ⟨hq, hw⟩ := hw
        obtain ⟨x7, h8, hx, hw⟩ := hw
        refine zT_call (pc' := 36) (rest := []) 1 (fun n => rfl) hq hx ?_
        show zT E (d + 1) m_Reader_readExpr 36 [some (.ref a0), some (.int a1), none] [.int x7] h8 r
        obtain ⟨hz, hw⟩ := hw
        subst hw
        refine zT_ret 1 ?_
        show (bif zfr _ _ then _ else none) = _
        rw [hz]
        rfl
      · rw [if_neg hc] at hw
        refine zT_st (pc' := 22) (L' := [some (.ref a0), some (.int a1), none]) (st' := []) (h' := h) 1 (fun n => if_neg hc) ?_
        refine zT_st (pc' := 25) (L' := [some (.ref a0), some (.int a1), none]) (st' := [.int 40, .ref a0]) (h' := h) 2 (fun n => rfl) ?_
        obtain ⟨hq, hw⟩ := hw
        obtain ⟨x9, h10, hx, hw⟩ := hw
        refine zT_call (pc' := 28) (rest := []) 1 (fun n => rfl) hq hx ?_
        show zT E (d + 1) m_Reader_readExpr 28 [some (.ref a0), some (.int a1), none] [.int x9] h10 r
        by_cases hc : x9 = 0
        · rw [if_pos hc] at hw
          refine zT_st (pc' := 37) (L' := [some (.ref a0), some (.int a1), none]) (st' := []) (h' := h10) 1 (fun n => if_pos hc) ?_
          refine zT_st (pc' := 39) (L' := [some (.ref a0), some (.int a1), none]) (st' := [.int a1, .ref a0]) (h' := h10) 2 (fun n => rfl) ?_
          obtain ⟨hq, hw⟩ := hw
          obtain ⟨x11, h12, hx, hw⟩ := hw
          refine zT_call (pc' := 42) (rest := []) 1 (fun n => rfl) hq hx ?_
          show zT E (d + 1) m_Reader_readExpr 42 [some (.ref a0), some (.int a1), none] [.int x11] h12 r
          by_cases hc : x11 = 0
          · rw [if_pos hc] at hw
            refine zT_st (pc' := 45) (L' := [some (.ref a0), some (.int a1), none]) (st' := []) (h' := h12) 1 (fun n => if_pos hc) ?_
            subst hw
            exact zT_ret 2 rfl
          · rw [if_neg hc] at hw
            refine zT_st (pc' := 47) (L' := [some (.ref a0), some (.int a1), none]) (st' := []) (h' := h12) 1 (fun n => if_neg hc) ?_
            exact zT_st 2 (fun n => rfl) hw
        · rw [if_neg hc] at hw
          refine zT_st (pc' := 31) (L' := [some (.ref a0), some (.int a1), none]) (st' := []) (h' := h10) 1 (fun n => if_neg hc) ?_
          refine zT_st (pc' := 33) (L' := [some (.ref a0), some (.int a1), none]) (st' := [.int 2, .ref a0]) (h' := h10) 2 (fun n => rfl) ?_
          obtain ⟨hq, hw⟩ := hw
          obtain ⟨x13, h14, hx, hw⟩ := hw
          refine zT_call (pc' := 36) (rest := []) 1 (fun n => rfl) hq hx ?_
          show zT E (d + 1) m_Reader_readExpr 36 [some (.ref a0), some (.int a1), none] [.int x13] h14 r
          obtain ⟨hz, hw⟩ := hw
          subst hw
          refine zT_ret 1 ?_
          show (bif zfr _ _ then _ else none) = _
          rw [hz]
          rfl
set_option maxRecDepth 4000 in
theorem s_Reader_readExpr_49 (E : zX) (d : Nat) (a0 : Nat) (a1 : Int32) (a2 : Int32) (h : zH) (r : zO × zH)
    (hw : if 700 ≤ a2 then (
      r = (.inl (some (.int 1)), h))
    else (
      isO h a0 8 = true ∧ ∃ (x1 : Int32) (h2 : zH), zT E d m_Reader_isWord 0 [some (.ref a0), some (.float 33), none] [] h (.inl (some (.int x1)), h2) ∧
      if x1 = 0 then (
        r = (.inl (some (.int 1)), h2))
      else (
        isO h2 a0 8 = true ∧ ∃ (h4 : zH), zT E d m_Reader_nextToken 0 [some (.ref a0)] [] h2 (.inl none, h4) ∧
        isO h4 a0 8 = true ∧ ∃ (x5 : Int32) (h6 : zH), zT E d m_Reader_readAnd 0 [some (.ref a0), some (.int a1), none] [] h4 (.inl (some (.int x5)), h6) ∧
        if x5 = 0 then (
          r = (.inl (some (.int 0)), h6))
        else (
          ∃ o7 : Nat, fld h6 a0 8 12 = some (.ref o7) ∧
          isO h6 o7 9 = true ∧ ∃ (h9 : zH), zT E d m_Rule_add 0 [some (.ref o7), some (.int (-1))] [] h6 (.inl none, h9) ∧
          zT E (d + 1) m_Reader_readExpr 49 [some (.ref a0), some (.int a1), some (.int (a2 + 1))] [] h9 r)))) :
    zT E (d + 1) m_Reader_readExpr 49 [some (.ref a0), some (.int a1), some (.int a2)] [] h r := by
  refine zT_st (pc' := 53) (L' := [some (.ref a0), some (.int a1), some (.int a2)]) (st' := [.int 700, .int a2]) (h' := h) 2 (fun n => rfl) ?_
  by_cases hc : 700 ≤ a2
  · rw [if_pos hc] at hw
    refine zT_st (pc' := 93) (L' := [some (.ref a0), some (.int a1), some (.int a2)]) (st' := []) (h' := h) 1 (fun n => if_pos hc) ?_
    subst hw
    exact zT_ret 2 rfl
  · rw [if_neg hc] at hw
    refine zT_st (pc' := 56) (L' := [some (.ref a0), some (.int a1), some (.int a2)]) (st' := []) (h' := h) 1 (fun n => if_neg hc) ?_
    refine zT_st (pc' := 59) (L' := [some (.ref a0), some (.int a1), some (.int a2)]) (st' := [.float 33, .ref a0]) (h' := h) 2 (fun n => rfl) ?_
    obtain ⟨hq, hw⟩ := hw
    obtain ⟨x1, h2, hx, hw⟩ := hw
    refine zT_call (pc' := 62) (rest := []) 1 (fun n => rfl) hq hx ?_
    show zT E (d + 1) m_Reader_readExpr 62 [some (.ref a0), some (.int a1), some (.int a2)] [.int x1] h2 r
    by_cases hc : x1 = 0
    · rw [if_pos hc] at hw
      refine zT_st (pc' := 93) (L' := [some (.ref a0), some (.int a1), some (.int a2)]) (st' := []) (h' := h2) 1 (fun n => if_pos hc) ?_
      subst hw
      exact zT_ret 2 rfl
    · rw [if_neg hc] at hw
      refine zT_st (pc' := 65) (L' := [some (.ref a0), some (.int a1), some (.int a2)]) (st' := []) (h' := h2) 1 (fun n => if_neg hc) ?_
      refine zT_st (pc' := 66) (L' := [some (.ref a0), some (.int a1), some (.int a2)]) (st' := [.ref a0]) (h' := h2) 1 (fun n => rfl) ?_
      obtain ⟨hq, hw⟩ := hw
      obtain ⟨h4, hx, hw⟩ := hw
      refine zT_call (pc' := 69) (rest := []) 1 (fun n => rfl) hq hx ?_
      show zT E (d + 1) m_Reader_readExpr 69 [some (.ref a0), some (.int a1), some (.int a2)] [] h4 r
      refine zT_st (pc' := 71) (L' := [some (.ref a0), some (.int a1), some (.int a2)]) (st' := [.int a1, .ref a0]) (h' := h4) 2 (fun n => rfl) ?_
      obtain ⟨hq, hw⟩ := hw
      obtain ⟨x5, h6, hx, hw⟩ := hw
      refine zT_call (pc' := 74) (rest := []) 1 (fun n => rfl) hq hx ?_
      show zT E (d + 1) m_Reader_readExpr 74 [some (.ref a0), some (.int a1), some (.int a2)] [.int x5] h6 r
      by_cases hc : x5 = 0
      · rw [if_pos hc] at hw
        refine zT_st (pc' := 77) (L' := [some (.ref a0), some (.int a1), some (.int a2)]) (st' := []) (h' := h6) 1 (fun n => if_pos hc) ?_
        subst hw
        exact zT_ret 2 rfl
      · rw [if_neg hc] at hw
        refine zT_st (pc' := 79) (L' := [some (.ref a0), some (.int a1), some (.int a2)]) (st' := []) (h' := h6) 1 (fun n => if_neg hc) ?_
        refine zT_st (pc' := 80) (L' := [some (.ref a0), some (.int a1), some (.int a2)]) (st' := [.ref a0]) (h' := h6) 1 (fun n => rfl) ?_
        obtain ⟨o7, e, hw⟩ := hw
        refine zT_st (pc' := 83) (L' := [some (.ref a0), some (.int a1), some (.int a2)]) (st' := [.ref o7]) (h' := h6) 1 (fun n => fld_eq (E := E) e _) ?_
        refine zT_st (pc' := 84) (L' := [some (.ref a0), some (.int a1), some (.int a2)]) (st' := [.int (-1), .ref o7]) (h' := h6) 1 (fun n => rfl) ?_
        obtain ⟨hq, hw⟩ := hw
        obtain ⟨h9, hx, hw⟩ := hw
        refine zT_call (pc' := 87) (rest := []) 1 (fun n => rfl) hq hx ?_
        show zT E (d + 1) m_Reader_readExpr 87 [some (.ref a0), some (.int a1), some (.int a2)] [] h9 r
        exact zT_st 2 (fun n => rfl) hw
set_option maxRecDepth 4000 in
theorem s_Reader_readAnd_0 (E : zX) (d : Nat) (a0 : Nat) (a1 : Int32) (h : zH) (r : zO × zH)
    (hw : isO h a0 8 = true ∧ ∃ (x1 : Int32) (h2 : zH), zT E d m_Reader_readNot 0 [some (.ref a0), some (.int a1), none, none] [] h (.inl (some (.int x1)), h2) ∧
    if x1 = 0 then (
      r = (.inl (some (.int 0)), h2))
    else (
      zT E (d + 1) m_Reader_readAnd 12 [some (.ref a0), some (.int a1), some (.int 0)] [] h2 r)) :
    zT E (d + 1) m_Reader_readAnd 0 [some (.ref a0), some (.int a1), none] [] h r := by
  refine zT_st (pc' := 2) (L' := [some (.ref a0), some (.int a1), none]) (st' := [.int a1, .ref a0]) (h' := h) 2 (fun n => rfl) ?_
  obtain ⟨hq, hw⟩ := hw
  obtain ⟨x1, h2, hx, hw⟩ := hw
  refine zT_call (pc' := 5) (rest := []) 1 (fun n => rfl) hq hx ?_
  show zT E (d + 1) m_Reader_readAnd 5 [some (.ref a0), some (.int a1), none] [.int x1] h2 r
  by_cases hc : x1 = 0
  · rw [if_pos hc] at hw
    refine zT_st (pc' := 8) (L' := [some (.ref a0), some (.int a1), none]) (st' := []) (h' := h2) 1 (fun n => if_pos hc) ?_
    subst hw
    exact zT_ret 2 rfl
  · rw [if_neg hc] at hw
    refine zT_st (pc' := 10) (L' := [some (.ref a0), some (.int a1), none]) (st' := []) (h' := h2) 1 (fun n => if_neg hc) ?_
    exact zT_st 2 (fun n => rfl) hw
set_option maxRecDepth 4000 in
theorem s_Reader_readAnd_12 (E : zX) (d : Nat) (a0 : Nat) (a1 : Int32) (a2 : Int32) (h : zH) (r : zO × zH)
    (hw : if 700 ≤ a2 then (
      r = (.inl (some (.int 1)), h))
    else (
      isO h a0 8 = true ∧ ∃ (x1 : Int32) (h2 : zH), zT E d m_Reader_isWord 0 [some (.ref a0), some (.float 31), none] [] h (.inl (some (.int x1)), h2) ∧
      if x1 = 0 then (
        r = (.inl (some (.int 1)), h2))
      else (
        isO h2 a0 8 = true ∧ ∃ (h4 : zH), zT E d m_Reader_nextToken 0 [some (.ref a0)] [] h2 (.inl none, h4) ∧
        isO h4 a0 8 = true ∧ ∃ (x5 : Int32) (h6 : zH), zT E d m_Reader_readNot 0 [some (.ref a0), some (.int a1), none, none] [] h4 (.inl (some (.int x5)), h6) ∧
        if x5 = 0 then (
          r = (.inl (some (.int 0)), h6))
        else (
          ∃ o7 : Nat, fld h6 a0 8 12 = some (.ref o7) ∧
          isO h6 o7 9 = true ∧ ∃ (h9 : zH), zT E d m_Rule_add 0 [some (.ref o7), some (.int (-2))] [] h6 (.inl none, h9) ∧
          zT E (d + 1) m_Reader_readAnd 12 [some (.ref a0), some (.int a1), some (.int (a2 + 1))] [] h9 r)))) :
    zT E (d + 1) m_Reader_readAnd 12 [some (.ref a0), some (.int a1), some (.int a2)] [] h r := by
  refine zT_st (pc' := 16) (L' := [some (.ref a0), some (.int a1), some (.int a2)]) (st' := [.int 700, .int a2]) (h' := h) 2 (fun n => rfl) ?_
  by_cases hc : 700 ≤ a2
  · rw [if_pos hc] at hw
    refine zT_st (pc' := 57) (L' := [some (.ref a0), some (.int a1), some (.int a2)]) (st' := []) (h' := h) 1 (fun n => if_pos hc) ?_
    subst hw
    exact zT_ret 2 rfl
  · rw [if_neg hc] at hw
    refine zT_st (pc' := 19) (L' := [some (.ref a0), some (.int a1), some (.int a2)]) (st' := []) (h' := h) 1 (fun n => if_neg hc) ?_
    refine zT_st (pc' := 22) (L' := [some (.ref a0), some (.int a1), some (.int a2)]) (st' := [.float 31, .ref a0]) (h' := h) 2 (fun n => rfl) ?_
    obtain ⟨hq, hw⟩ := hw
    obtain ⟨x1, h2, hx, hw⟩ := hw
    refine zT_call (pc' := 25) (rest := []) 1 (fun n => rfl) hq hx ?_
    show zT E (d + 1) m_Reader_readAnd 25 [some (.ref a0), some (.int a1), some (.int a2)] [.int x1] h2 r
    by_cases hc : x1 = 0
    · rw [if_pos hc] at hw
      refine zT_st (pc' := 57) (L' := [some (.ref a0), some (.int a1), some (.int a2)]) (st' := []) (h' := h2) 1 (fun n => if_pos hc) ?_
      subst hw
      exact zT_ret 2 rfl
    · rw [if_neg hc] at hw
      refine zT_st (pc' := 28) (L' := [some (.ref a0), some (.int a1), some (.int a2)]) (st' := []) (h' := h2) 1 (fun n => if_neg hc) ?_
      refine zT_st (pc' := 29) (L' := [some (.ref a0), some (.int a1), some (.int a2)]) (st' := [.ref a0]) (h' := h2) 1 (fun n => rfl) ?_
      obtain ⟨hq, hw⟩ := hw
      obtain ⟨h4, hx, hw⟩ := hw
      refine zT_call (pc' := 32) (rest := []) 1 (fun n => rfl) hq hx ?_
      show zT E (d + 1) m_Reader_readAnd 32 [some (.ref a0), some (.int a1), some (.int a2)] [] h4 r
      refine zT_st (pc' := 34) (L' := [some (.ref a0), some (.int a1), some (.int a2)]) (st' := [.int a1, .ref a0]) (h' := h4) 2 (fun n => rfl) ?_
      obtain ⟨hq, hw⟩ := hw
      obtain ⟨x5, h6, hx, hw⟩ := hw
      refine zT_call (pc' := 37) (rest := []) 1 (fun n => rfl) hq hx ?_
      show zT E (d + 1) m_Reader_readAnd 37 [some (.ref a0), some (.int a1), some (.int a2)] [.int x5] h6 r
      by_cases hc : x5 = 0
      · rw [if_pos hc] at hw
        refine zT_st (pc' := 40) (L' := [some (.ref a0), some (.int a1), some (.int a2)]) (st' := []) (h' := h6) 1 (fun n => if_pos hc) ?_
        subst hw
        exact zT_ret 2 rfl
      · rw [if_neg hc] at hw
        refine zT_st (pc' := 42) (L' := [some (.ref a0), some (.int a1), some (.int a2)]) (st' := []) (h' := h6) 1 (fun n => if_neg hc) ?_
        refine zT_st (pc' := 43) (L' := [some (.ref a0), some (.int a1), some (.int a2)]) (st' := [.ref a0]) (h' := h6) 1 (fun n => rfl) ?_
        obtain ⟨o7, e, hw⟩ := hw
        refine zT_st (pc' := 46) (L' := [some (.ref a0), some (.int a1), some (.int a2)]) (st' := [.ref o7]) (h' := h6) 1 (fun n => fld_eq (E := E) e _) ?_
        refine zT_st (pc' := 48) (L' := [some (.ref a0), some (.int a1), some (.int a2)]) (st' := [.int (-2), .ref o7]) (h' := h6) 1 (fun n => rfl) ?_
        obtain ⟨hq, hw⟩ := hw
        obtain ⟨h9, hx, hw⟩ := hw
        refine zT_call (pc' := 51) (rest := []) 1 (fun n => rfl) hq hx ?_
        show zT E (d + 1) m_Reader_readAnd 51 [some (.ref a0), some (.int a1), some (.int a2)] [] h9 r
        exact zT_st 2 (fun n => rfl) hw
set_option maxRecDepth 4000 in
theorem s_Reader_readNot_0 (E : zX) (d : Nat) (a0 : Nat) (a1 : Int32) (h : zH) (r : zO × zH)
    (hw : zT E (d + 1) m_Reader_readNot 2 [some (.ref a0), some (.int a1), some (.int 0), none] [] h r) :
    zT E (d + 1) m_Reader_readNot 0 [some (.ref a0), some (.int a1), none, none] [] h r := by
  exact zT_st 2 (fun n => rfl) hw
set_option maxRecDepth 4000 in
theorem s_Reader_readNot_2 (E : zX) (d : Nat) (a0 : Nat) (a1 : Int32) (a2 : Int32) (j3 : Option Value) (h : zH) (r : zO × zH)
    (hw : if 6 ≤ a2 then (
      zT E (d + 1) m_Reader_readNot 27 [some (.ref a0), some (.int a1), some (.int a2), j3] [] h r)
    else (
      isO h a0 8 = true ∧ ∃ (x1 : Int32) (h2 : zH), zT E d m_Reader_isWord 0 [some (.ref a0), some (.float 13), none] [] h (.inl (some (.int x1)), h2) ∧
      if x1 = 0 then (
        zT E (d + 1) m_Reader_readNot 27 [some (.ref a0), some (.int a1), some (.int a2), j3] [] h2 r)
      else (
        isO h2 a0 8 = true ∧ ∃ (h4 : zH), zT E d m_Reader_nextToken 0 [some (.ref a0)] [] h2 (.inl none, h4) ∧
        zT E (d + 1) m_Reader_readNot 2 [some (.ref a0), some (.int a1), some (.int (a2 + 1)), j3] [] h4 r))) :
    zT E (d + 1) m_Reader_readNot 2 [some (.ref a0), some (.int a1), some (.int a2), j3] [] h r := by
  refine zT_st (pc' := 5) (L' := [some (.ref a0), some (.int a1), some (.int a2), j3]) (st' := [.int 6, .int a2]) (h' := h) 2 (fun n => rfl) ?_
  by_cases hc : 6 ≤ a2
  · rw [if_pos hc] at hw
    refine zT_st (pc' := 27) (L' := [some (.ref a0), some (.int a1), some (.int a2), j3]) (st' := []) (h' := h) 1 (fun n => if_pos hc) ?_
    exact hw
  · rw [if_neg hc] at hw
    refine zT_st (pc' := 8) (L' := [some (.ref a0), some (.int a1), some (.int a2), j3]) (st' := []) (h' := h) 1 (fun n => if_neg hc) ?_
    refine zT_st (pc' := 11) (L' := [some (.ref a0), some (.int a1), some (.int a2), j3]) (st' := [.float 13, .ref a0]) (h' := h) 2 (fun n => rfl) ?_
    obtain ⟨hq, hw⟩ := hw
    obtain ⟨x1, h2, hx, hw⟩ := hw
    refine zT_call (pc' := 14) (rest := []) 1 (fun n => rfl) hq hx ?_
    show zT E (d + 1) m_Reader_readNot 14 [some (.ref a0), some (.int a1), some (.int a2), j3] [.int x1] h2 r
    by_cases hc : x1 = 0
    · rw [if_pos hc] at hw
      refine zT_st (pc' := 27) (L' := [some (.ref a0), some (.int a1), some (.int a2), j3]) (st' := []) (h' := h2) 1 (fun n => if_pos hc) ?_
      exact hw
    · rw [if_neg hc] at hw
      refine zT_st (pc' := 17) (L' := [some (.ref a0), some (.int a1), some (.int a2), j3]) (st' := []) (h' := h2) 1 (fun n => if_neg hc) ?_
      refine zT_st (pc' := 21) (L' := [some (.ref a0), some (.int a1), some (.int (a2 + 1)), j3]) (st' := [.ref a0]) (h' := h2) 2 (fun n => rfl) ?_
      obtain ⟨hq, hw⟩ := hw
      obtain ⟨h4, hx, hw⟩ := hw
      refine zT_call (pc' := 24) (rest := []) 1 (fun n => rfl) hq hx ?_
      show zT E (d + 1) m_Reader_readNot 24 [some (.ref a0), some (.int a1), some (.int (a2 + 1)), j3] [] h4 r
      exact zT_st 1 (fun n => rfl) hw
set_option maxRecDepth 4000 in
theorem s_Reader_readNot_27 (E : zX) (d : Nat) (a0 : Nat) (a1 : Int32) (a2 : Int32) (j3 : Option Value) (h : zH) (r : zO × zH)
    (hw : if a2 = 6 then (
      isO h a0 8 = true ∧ ∃ (x1 : Int32) (h2 : zH), zT E d m_Reader_isWord 0 [some (.ref a0), some (.float 13), none] [] h (.inl (some (.int x1)), h2) ∧
      if x1 = 0 then (
        isO h2 a0 8 = true ∧ ∃ (x3 : Int32) (h4 : zH), zT E d m_Reader_readTest 0 [some (.ref a0), some (.int a1), none] [] h2 (.inl (some (.int x3)), h4) ∧
        if x3 = 0 then (
          r = (.inl (some (.int 0)), h4))
        else (
          zT E (d + 1) m_Reader_readNot 60 [some (.ref a0), some (.int a1), some (.int a2), some (.int 0)] [] h4 r))
      else (
        isO h2 a0 8 = true ∧ ∃ (x5 : Int32) (h6 : zH), zT E d m_Reader_fail 0 [some (.ref a0), some (.int 2)] [] h2 (.inl (some (.int x5)), h6) ∧
        zfr (some .boolean) x5 = true ∧ r = (.inl (some (.int x5)), h6)))
    else (
      isO h a0 8 = true ∧ ∃ (x7 : Int32) (h8 : zH), zT E d m_Reader_readTest 0 [some (.ref a0), some (.int a1), none] [] h (.inl (some (.int x7)), h8) ∧
      if x7 = 0 then (
        r = (.inl (some (.int 0)), h8))
      else (
        zT E (d + 1) m_Reader_readNot 60 [some (.ref a0), some (.int a1), some (.int a2), some (.int 0)] [] h8 r))) :
    zT E (d + 1) m_Reader_readNot 27 [some (.ref a0), some (.int a1), some (.int a2), j3] [] h r := by
  refine zT_st (pc' := 30) (L' := [some (.ref a0), some (.int a1), some (.int a2), j3]) (st' := [.int 6, .int a2]) (h' := h) 2 (fun n => rfl) ?_
  by_cases hc : a2 = 6
  · rw [if_pos hc] at hw
    refine zT_st (pc' := 33) (L' := [some (.ref a0), some (.int a1), some (.int a2), j3]) (st' := []) (h' := h) 1 (fun n => if_pos hc) ?_
    refine zT_st (pc' := 36) (L' := [some (.ref a0), some (.int a1), some (.int a2), j3]) (st' := [.float 13, .ref a0]) (h' := h) 2 (fun n => rfl) ?_
    obtain ⟨hq, hw⟩ := hw
    obtain ⟨x1, h2, hx, hw⟩ := hw
    refine zT_call (pc' := 39) (rest := []) 1 (fun n => rfl) hq hx ?_
    show zT E (d + 1) m_Reader_readNot 39 [some (.ref a0), some (.int a1), some (.int a2), j3] [.int x1] h2 r
    by_cases hc : x1 = 0
    · rw [if_pos hc] at hw
      refine zT_st (pc' := 48) (L' := [some (.ref a0), some (.int a1), some (.int a2), j3]) (st' := []) (h' := h2) 1 (fun n => if_pos hc) ?_
      refine zT_st (pc' := 50) (L' := [some (.ref a0), some (.int a1), some (.int a2), j3]) (st' := [.int a1, .ref a0]) (h' := h2) 2 (fun n => rfl) ?_
      obtain ⟨hq, hw⟩ := hw
      obtain ⟨x3, h4, hx, hw⟩ := hw
      refine zT_call (pc' := 53) (rest := []) 1 (fun n => rfl) hq hx ?_
      show zT E (d + 1) m_Reader_readNot 53 [some (.ref a0), some (.int a1), some (.int a2), j3] [.int x3] h4 r
      by_cases hc : x3 = 0
      · rw [if_pos hc] at hw
        refine zT_st (pc' := 56) (L' := [some (.ref a0), some (.int a1), some (.int a2), j3]) (st' := []) (h' := h4) 1 (fun n => if_pos hc) ?_
        subst hw
        exact zT_ret 2 rfl
      · rw [if_neg hc] at hw
        refine zT_st (pc' := 58) (L' := [some (.ref a0), some (.int a1), some (.int a2), j3]) (st' := []) (h' := h4) 1 (fun n => if_neg hc) ?_
        exact zT_st 2 (fun n => rfl) hw
    · rw [if_neg hc] at hw
      refine zT_st (pc' := 42) (L' := [some (.ref a0), some (.int a1), some (.int a2), j3]) (st' := []) (h' := h2) 1 (fun n => if_neg hc) ?_
      refine zT_st (pc' := 44) (L' := [some (.ref a0), some (.int a1), some (.int a2), j3]) (st' := [.int 2, .ref a0]) (h' := h2) 2 (fun n => rfl) ?_
      obtain ⟨hq, hw⟩ := hw
      obtain ⟨x5, h6, hx, hw⟩ := hw
      refine zT_call (pc' := 47) (rest := []) 1 (fun n => rfl) hq hx ?_
      show zT E (d + 1) m_Reader_readNot 47 [some (.ref a0), some (.int a1), some (.int a2), j3] [.int x5] h6 r
      obtain ⟨hz, hw⟩ := hw
      subst hw
      refine zT_ret 1 ?_
      show (bif zfr _ _ then _ else none) = _
      rw [hz]
      rfl
  · rw [if_neg hc] at hw
    refine zT_st (pc' := 48) (L' := [some (.ref a0), some (.int a1), some (.int a2), j3]) (st' := []) (h' := h) 1 (fun n => if_neg hc) ?_
    refine zT_st (pc' := 50) (L' := [some (.ref a0), some (.int a1), some (.int a2), j3]) (st' := [.int a1, .ref a0]) (h' := h) 2 (fun n => rfl) ?_
    obtain ⟨hq, hw⟩ := hw
    obtain ⟨x7, h8, hx, hw⟩ := hw
    refine zT_call (pc' := 53) (rest := []) 1 (fun n => rfl) hq hx ?_
    show zT E (d + 1) m_Reader_readNot 53 [some (.ref a0), some (.int a1), some (.int a2), j3] [.int x7] h8 r
    by_cases hc : x7 = 0
    · rw [if_pos hc] at hw
      refine zT_st (pc' := 56) (L' := [some (.ref a0), some (.int a1), some (.int a2), j3]) (st' := []) (h' := h8) 1 (fun n => if_pos hc) ?_
      subst hw
      exact zT_ret 2 rfl
    · rw [if_neg hc] at hw
      refine zT_st (pc' := 58) (L' := [some (.ref a0), some (.int a1), some (.int a2), j3]) (st' := []) (h' := h8) 1 (fun n => if_neg hc) ?_
      exact zT_st 2 (fun n => rfl) hw
set_option maxRecDepth 4000 in
theorem s_Reader_readNot_60 (E : zX) (d : Nat) (a0 : Nat) (j1 : Option Value) (a2 : Int32) (a3 : Int32) (h : zH) (r : zO × zH)
    (hw : if a2 ≤ a3 then (
      r = (.inl (some (.int 1)), h))
    else (
      ∃ o1 : Nat, fld h a0 8 12 = some (.ref o1) ∧
      isO h o1 9 = true ∧ ∃ (h3 : zH), zT E d m_Rule_add 0 [some (.ref o1), some (.int (-3))] [] h (.inl none, h3) ∧
      zT E (d + 1) m_Reader_readNot 60 [some (.ref a0), j1, some (.int a2), some (.int (a3 + 1))] [] h3 r)) :
    zT E (d + 1) m_Reader_readNot 60 [some (.ref a0), j1, some (.int a2), some (.int a3)] [] h r := by
  refine zT_st (pc' := 62) (L' := [some (.ref a0), j1, some (.int a2), some (.int a3)]) (st' := [.int a2, .int a3]) (h' := h) 2 (fun n => rfl) ?_
  by_cases hc : a2 ≤ a3
  · rw [if_pos hc] at hw
    refine zT_st (pc' := 80) (L' := [some (.ref a0), j1, some (.int a2), some (.int a3)]) (st' := []) (h' := h) 1 (fun n => if_pos hc) ?_
    subst hw
    exact zT_ret 2 rfl
  · rw [if_neg hc] at hw
    refine zT_st (pc' := 65) (L' := [some (.ref a0), j1, some (.int a2), some (.int a3)]) (st' := []) (h' := h) 1 (fun n => if_neg hc) ?_
    refine zT_st (pc' := 66) (L' := [some (.ref a0), j1, some (.int a2), some (.int a3)]) (st' := [.ref a0]) (h' := h) 1 (fun n => rfl) ?_
    obtain ⟨o1, e, hw⟩ := hw
    refine zT_st (pc' := 69) (L' := [some (.ref a0), j1, some (.int a2), some (.int a3)]) (st' := [.ref o1]) (h' := h) 1 (fun n => fld_eq (E := E) e _) ?_
    refine zT_st (pc' := 71) (L' := [some (.ref a0), j1, some (.int a2), some (.int a3)]) (st' := [.int (-3), .ref o1]) (h' := h) 1 (fun n => rfl) ?_
    obtain ⟨hq, hw⟩ := hw
    obtain ⟨h3, hx, hw⟩ := hw
    refine zT_call (pc' := 74) (rest := []) 1 (fun n => rfl) hq hx ?_
    show zT E (d + 1) m_Reader_readNot 74 [some (.ref a0), j1, some (.int a2), some (.int a3)] [] h3 r
    exact zT_st 2 (fun n => rfl) hw
set_option maxRecDepth 4000 in
theorem s_Reader_readTest_0 (E : zX) (d : Nat) (a0 : Nat) (a1 : Int32) (h : zH) (r : zO × zH)
    (hw : isO h a0 8 = true ∧ ∃ (x1 : Int32) (h2 : zH), zT E d m_Reader_readSum 0 [some (.ref a0), some (.int a1), none, none] [] h (.inl (some (.int x1)), h2) ∧
    if x1 = 0 then (
      r = (.inl (some (.int 0)), h2))
    else (
      isO h2 a0 8 = true ∧ ∃ (x3 : Int32) (h4 : zH), zT E d m_Reader_isSign 0 [some (.ref a0), some (.int 60)] [] h2 (.inl (some (.int x3)), h4) ∧
      if x3 = 0 then (
        isO h4 a0 8 = true ∧ ∃ (x5 : Int32) (h6 : zH), zT E d m_Reader_isSign 0 [some (.ref a0), some (.int 61)] [] h4 (.inl (some (.int x5)), h6) ∧
        if x5 = 0 then (
          r = (.inl (some (.int 1)), h6))
        else (
          isO h6 a0 8 = true ∧ ∃ (x7 : Int32) (h8 : zH), zT E d m_Reader_isSign 0 [some (.ref a0), some (.int 60)] [] h6 (.inl (some (.int x7)), h8) ∧
          if x7 = 0 then (
            zT E (d + 1) m_Reader_readTest 46 [some (.ref a0), some (.int a1), none] [.int (-5)] h8 r)
          else (
            zT E (d + 1) m_Reader_readTest 46 [some (.ref a0), some (.int a1), none] [.int (-4)] h8 r)))
      else (
        isO h4 a0 8 = true ∧ ∃ (x9 : Int32) (h10 : zH), zT E d m_Reader_isSign 0 [some (.ref a0), some (.int 60)] [] h4 (.inl (some (.int x9)), h10) ∧
        if x9 = 0 then (
          zT E (d + 1) m_Reader_readTest 46 [some (.ref a0), some (.int a1), none] [.int (-5)] h10 r)
        else (
          zT E (d + 1) m_Reader_readTest 46 [some (.ref a0), some (.int a1), none] [.int (-4)] h10 r)))) :
    zT E (d + 1) m_Reader_readTest 0 [some (.ref a0), some (.int a1), none] [] h r := by
  refine zT_st (pc' := 2) (L' := [some (.ref a0), some (.int a1), none]) (st' := [.int a1, .ref a0]) (h' := h) 2 (fun n => rfl) ?_
  obtain ⟨hq, hw⟩ := hw
  obtain ⟨x1, h2, hx, hw⟩ := hw
  refine zT_call (pc' := 5) (rest := []) 1 (fun n => rfl) hq hx ?_
  show zT E (d + 1) m_Reader_readTest 5 [some (.ref a0), some (.int a1), none] [.int x1] h2 r
  by_cases hc : x1 = 0
  · rw [if_pos hc] at hw
    refine zT_st (pc' := 8) (L' := [some (.ref a0), some (.int a1), none]) (st' := []) (h' := h2) 1 (fun n => if_pos hc) ?_
    subst hw
    exact zT_ret 2 rfl
  · rw [if_neg hc] at hw
    refine zT_st (pc' := 10) (L' := [some (.ref a0), some (.int a1), none]) (st' := []) (h' := h2) 1 (fun n => if_neg hc) ?_
    refine zT_st (pc' := 13) (L' := [some (.ref a0), some (.int a1), none]) (st' := [.int 60, .ref a0]) (h' := h2) 2 (fun n => rfl) ?_
    obtain ⟨hq, hw⟩ := hw
    obtain ⟨x3, h4, hx, hw⟩ := hw
    refine zT_call (pc' := 16) (rest := []) 1 (fun n => rfl) hq hx ?_
    show zT E (d + 1) m_Reader_readTest 16 [some (.ref a0), some (.int a1), none] [.int x3] h4 r
    by_cases hc : x3 = 0
    · rw [if_pos hc] at hw
      refine zT_st (pc' := 19) (L' := [some (.ref a0), some (.int a1), none]) (st' := []) (h' := h4) 1 (fun n => if_pos hc) ?_
      refine zT_st (pc' := 22) (L' := [some (.ref a0), some (.int a1), none]) (st' := [.int 61, .ref a0]) (h' := h4) 2 (fun n => rfl) ?_
      obtain ⟨hq, hw⟩ := hw
      obtain ⟨x5, h6, hx, hw⟩ := hw
      refine zT_call (pc' := 25) (rest := []) 1 (fun n => rfl) hq hx ?_
      show zT E (d + 1) m_Reader_readTest 25 [some (.ref a0), some (.int a1), none] [.int x5] h6 r
      by_cases hc : x5 = 0
      · rw [if_pos hc] at hw
        refine zT_st (pc' := 28) (L' := [some (.ref a0), some (.int a1), none]) (st' := []) (h' := h6) 1 (fun n => if_pos hc) ?_
        subst hw
        exact zT_ret 2 rfl
      · rw [if_neg hc] at hw
        refine zT_st (pc' := 30) (L' := [some (.ref a0), some (.int a1), none]) (st' := []) (h' := h6) 1 (fun n => if_neg hc) ?_
        refine zT_st (pc' := 33) (L' := [some (.ref a0), some (.int a1), none]) (st' := [.int 60, .ref a0]) (h' := h6) 2 (fun n => rfl) ?_
        obtain ⟨hq, hw⟩ := hw
        obtain ⟨x7, h8, hx, hw⟩ := hw
        refine zT_call (pc' := 36) (rest := []) 1 (fun n => rfl) hq hx ?_
        show zT E (d + 1) m_Reader_readTest 36 [some (.ref a0), some (.int a1), none] [.int x7] h8 r
        by_cases hc : x7 = 0
        · rw [if_pos hc] at hw
          refine zT_st (pc' := 44) (L' := [some (.ref a0), some (.int a1), none]) (st' := []) (h' := h8) 1 (fun n => if_pos hc) ?_
          exact zT_st 1 (fun n => rfl) hw
        · rw [if_neg hc] at hw
          refine zT_st (pc' := 39) (L' := [some (.ref a0), some (.int a1), none]) (st' := []) (h' := h8) 1 (fun n => if_neg hc) ?_
          exact zT_st 2 (fun n => rfl) hw
    · rw [if_neg hc] at hw
      refine zT_st (pc' := 30) (L' := [some (.ref a0), some (.int a1), none]) (st' := []) (h' := h4) 1 (fun n => if_neg hc) ?_
      refine zT_st (pc' := 33) (L' := [some (.ref a0), some (.int a1), none]) (st' := [.int 60, .ref a0]) (h' := h4) 2 (fun n => rfl) ?_
      obtain ⟨hq, hw⟩ := hw
      obtain ⟨x9, h10, hx, hw⟩ := hw
      refine zT_call (pc' := 36) (rest := []) 1 (fun n => rfl) hq hx ?_
      show zT E (d + 1) m_Reader_readTest 36 [some (.ref a0), some (.int a1), none] [.int x9] h10 r
      by_cases hc : x9 = 0
      · rw [if_pos hc] at hw
        refine zT_st (pc' := 44) (L' := [some (.ref a0), some (.int a1), none]) (st' := []) (h' := h10) 1 (fun n => if_pos hc) ?_
        exact zT_st 1 (fun n => rfl) hw
      · rw [if_neg hc] at hw
        refine zT_st (pc' := 39) (L' := [some (.ref a0), some (.int a1), none]) (st' := []) (h' := h10) 1 (fun n => if_neg hc) ?_
        exact zT_st 2 (fun n => rfl) hw
set_option maxRecDepth 4000 in
theorem s_Reader_readTest_46 (E : zX) (d : Nat) (a0 : Nat) (a1 : Int32) (j2 : Option Value) (s0 : Int32) (h : zH) (r : zO × zH)
    (hw : isO h a0 8 = true ∧ ∃ (h2 : zH), zT E d m_Reader_nextToken 0 [some (.ref a0)] [] h (.inl none, h2) ∧
    isO h2 a0 8 = true ∧ ∃ (x3 : Int32) (h4 : zH), zT E d m_Reader_readSum 0 [some (.ref a0), some (.int a1), none, none] [] h2 (.inl (some (.int x3)), h4) ∧
    if x3 = 0 then (
      r = (.inl (some (.int 0)), h4))
    else (
      ∃ o5 : Nat, fld h4 a0 8 12 = some (.ref o5) ∧
      isO h4 o5 9 = true ∧ ∃ (h7 : zH), zT E d m_Rule_add 0 [some (.ref o5), some (.int s0)] [] h4 (.inl none, h7) ∧
      r = (.inl (some (.int 1)), h7))) :
    zT E (d + 1) m_Reader_readTest 46 [some (.ref a0), some (.int a1), j2] [.int s0] h r := by
  refine zT_st (pc' := 48) (L' := [some (.ref a0), some (.int a1), some (.int s0)]) (st' := [.ref a0]) (h' := h) 2 (fun n => rfl) ?_
  obtain ⟨hq, hw⟩ := hw
  obtain ⟨h2, hx, hw⟩ := hw
  refine zT_call (pc' := 51) (rest := []) 1 (fun n => rfl) hq hx ?_
  show zT E (d + 1) m_Reader_readTest 51 [some (.ref a0), some (.int a1), some (.int s0)] [] h2 r
  refine zT_st (pc' := 53) (L' := [some (.ref a0), some (.int a1), some (.int s0)]) (st' := [.int a1, .ref a0]) (h' := h2) 2 (fun n => rfl) ?_
  obtain ⟨hq, hw⟩ := hw
  obtain ⟨x3, h4, hx, hw⟩ := hw
  refine zT_call (pc' := 56) (rest := []) 1 (fun n => rfl) hq hx ?_
  show zT E (d + 1) m_Reader_readTest 56 [some (.ref a0), some (.int a1), some (.int s0)] [.int x3] h4 r
  by_cases hc : x3 = 0
  · rw [if_pos hc] at hw
    refine zT_st (pc' := 59) (L' := [some (.ref a0), some (.int a1), some (.int s0)]) (st' := []) (h' := h4) 1 (fun n => if_pos hc) ?_
    subst hw
    exact zT_ret 2 rfl
  · rw [if_neg hc] at hw
    refine zT_st (pc' := 61) (L' := [some (.ref a0), some (.int a1), some (.int s0)]) (st' := []) (h' := h4) 1 (fun n => if_neg hc) ?_
    refine zT_st (pc' := 62) (L' := [some (.ref a0), some (.int a1), some (.int s0)]) (st' := [.ref a0]) (h' := h4) 1 (fun n => rfl) ?_
    obtain ⟨o5, e, hw⟩ := hw
    refine zT_st (pc' := 65) (L' := [some (.ref a0), some (.int a1), some (.int s0)]) (st' := [.ref o5]) (h' := h4) 1 (fun n => fld_eq (E := E) e _) ?_
    refine zT_st (pc' := 66) (L' := [some (.ref a0), some (.int a1), some (.int s0)]) (st' := [.int s0, .ref o5]) (h' := h4) 1 (fun n => rfl) ?_
    obtain ⟨hq, hw⟩ := hw
    obtain ⟨h7, hx, hw⟩ := hw
    refine zT_call (pc' := 69) (rest := []) 1 (fun n => rfl) hq hx ?_
    show zT E (d + 1) m_Reader_readTest 69 [some (.ref a0), some (.int a1), some (.int s0)] [] h7 r
    subst hw
    exact zT_ret 2 rfl
set_option maxRecDepth 4000 in
theorem s_Reader_readSum_0 (E : zX) (d : Nat) (a0 : Nat) (a1 : Int32) (h : zH) (r : zO × zH)
    (hw : isO h a0 8 = true ∧ ∃ (x1 : Int32) (h2 : zH), zT E d m_Reader_readProduct 0 [some (.ref a0), some (.int a1), none, none] [] h (.inl (some (.int x1)), h2) ∧
    if x1 = 0 then (
      r = (.inl (some (.int 0)), h2))
    else (
      zT E (d + 1) m_Reader_readSum 12 [some (.ref a0), some (.int a1), some (.int 0), none] [] h2 r)) :
    zT E (d + 1) m_Reader_readSum 0 [some (.ref a0), some (.int a1), none, none] [] h r := by
  refine zT_st (pc' := 2) (L' := [some (.ref a0), some (.int a1), none, none]) (st' := [.int a1, .ref a0]) (h' := h) 2 (fun n => rfl) ?_
  obtain ⟨hq, hw⟩ := hw
  obtain ⟨x1, h2, hx, hw⟩ := hw
  refine zT_call (pc' := 5) (rest := []) 1 (fun n => rfl) hq hx ?_
  show zT E (d + 1) m_Reader_readSum 5 [some (.ref a0), some (.int a1), none, none] [.int x1] h2 r
  by_cases hc : x1 = 0
  · rw [if_pos hc] at hw
    refine zT_st (pc' := 8) (L' := [some (.ref a0), some (.int a1), none, none]) (st' := []) (h' := h2) 1 (fun n => if_pos hc) ?_
    subst hw
    exact zT_ret 2 rfl
  · rw [if_neg hc] at hw
    refine zT_st (pc' := 10) (L' := [some (.ref a0), some (.int a1), none, none]) (st' := []) (h' := h2) 1 (fun n => if_neg hc) ?_
    exact zT_st 2 (fun n => rfl) hw
set_option maxRecDepth 4000 in
theorem s_Reader_readSum_12 (E : zX) (d : Nat) (a0 : Nat) (a1 : Int32) (a2 : Int32) (j3 : Option Value) (h : zH) (r : zO × zH)
    (hw : if 700 ≤ a2 then (
      r = (.inl (some (.int 1)), h))
    else (
      isO h a0 8 = true ∧ ∃ (x1 : Int32) (h2 : zH), zT E d m_Reader_isSign 0 [some (.ref a0), some (.int 43)] [] h (.inl (some (.int x1)), h2) ∧
      if x1 = 0 then (
        isO h2 a0 8 = true ∧ ∃ (x3 : Int32) (h4 : zH), zT E d m_Reader_isSign 0 [some (.ref a0), some (.int 45)] [] h2 (.inl (some (.int x3)), h4) ∧
        if x3 = 0 then (
          r = (.inl (some (.int 1)), h4))
        else (
          isO h4 a0 8 = true ∧ ∃ (x5 : Int32) (h6 : zH), zT E d m_Reader_isSign 0 [some (.ref a0), some (.int 43)] [] h4 (.inl (some (.int x5)), h6) ∧
          if x5 = 0 then (
            zT E (d + 1) m_Reader_readSum 53 [some (.ref a0), some (.int a1), some (.int a2), j3] [.int (-7)] h6 r)
          else (
            zT E (d + 1) m_Reader_readSum 53 [some (.ref a0), some (.int a1), some (.int a2), j3] [.int (-6)] h6 r)))
      else (
        isO h2 a0 8 = true ∧ ∃ (x7 : Int32) (h8 : zH), zT E d m_Reader_isSign 0 [some (.ref a0), some (.int 43)] [] h2 (.inl (some (.int x7)), h8) ∧
        if x7 = 0 then (
          zT E (d + 1) m_Reader_readSum 53 [some (.ref a0), some (.int a1), some (.int a2), j3] [.int (-7)] h8 r)
        else (
          zT E (d + 1) m_Reader_readSum 53 [some (.ref a0), some (.int a1), some (.int a2), j3] [.int (-6)] h8 r)))) :
    zT E (d + 1) m_Reader_readSum 12 [some (.ref a0), some (.int a1), some (.int a2), j3] [] h r := by
  refine zT_st (pc' := 16) (L' := [some (.ref a0), some (.int a1), some (.int a2), j3]) (st' := [.int 700, .int a2]) (h' := h) 2 (fun n => rfl) ?_
  by_cases hc : 700 ≤ a2
  · rw [if_pos hc] at hw
    refine zT_st (pc' := 82) (L' := [some (.ref a0), some (.int a1), some (.int a2), j3]) (st' := []) (h' := h) 1 (fun n => if_pos hc) ?_
    subst hw
    exact zT_ret 2 rfl
  · rw [if_neg hc] at hw
    refine zT_st (pc' := 19) (L' := [some (.ref a0), some (.int a1), some (.int a2), j3]) (st' := []) (h' := h) 1 (fun n => if_neg hc) ?_
    refine zT_st (pc' := 22) (L' := [some (.ref a0), some (.int a1), some (.int a2), j3]) (st' := [.int 43, .ref a0]) (h' := h) 2 (fun n => rfl) ?_
    obtain ⟨hq, hw⟩ := hw
    obtain ⟨x1, h2, hx, hw⟩ := hw
    refine zT_call (pc' := 25) (rest := []) 1 (fun n => rfl) hq hx ?_
    show zT E (d + 1) m_Reader_readSum 25 [some (.ref a0), some (.int a1), some (.int a2), j3] [.int x1] h2 r
    by_cases hc : x1 = 0
    · rw [if_pos hc] at hw
      refine zT_st (pc' := 28) (L' := [some (.ref a0), some (.int a1), some (.int a2), j3]) (st' := []) (h' := h2) 1 (fun n => if_pos hc) ?_
      refine zT_st (pc' := 31) (L' := [some (.ref a0), some (.int a1), some (.int a2), j3]) (st' := [.int 45, .ref a0]) (h' := h2) 2 (fun n => rfl) ?_
      obtain ⟨hq, hw⟩ := hw
      obtain ⟨x3, h4, hx, hw⟩ := hw
      refine zT_call (pc' := 34) (rest := []) 1 (fun n => rfl) hq hx ?_
      show zT E (d + 1) m_Reader_readSum 34 [some (.ref a0), some (.int a1), some (.int a2), j3] [.int x3] h4 r
      by_cases hc : x3 = 0
      · rw [if_pos hc] at hw
        refine zT_st (pc' := 82) (L' := [some (.ref a0), some (.int a1), some (.int a2), j3]) (st' := []) (h' := h4) 1 (fun n => if_pos hc) ?_
        subst hw
        exact zT_ret 2 rfl
      · rw [if_neg hc] at hw
        refine zT_st (pc' := 37) (L' := [some (.ref a0), some (.int a1), some (.int a2), j3]) (st' := []) (h' := h4) 1 (fun n => if_neg hc) ?_
        refine zT_st (pc' := 40) (L' := [some (.ref a0), some (.int a1), some (.int a2), j3]) (st' := [.int 43, .ref a0]) (h' := h4) 2 (fun n => rfl) ?_
        obtain ⟨hq, hw⟩ := hw
        obtain ⟨x5, h6, hx, hw⟩ := hw
        refine zT_call (pc' := 43) (rest := []) 1 (fun n => rfl) hq hx ?_
        show zT E (d + 1) m_Reader_readSum 43 [some (.ref a0), some (.int a1), some (.int a2), j3] [.int x5] h6 r
        by_cases hc : x5 = 0
        · rw [if_pos hc] at hw
          refine zT_st (pc' := 51) (L' := [some (.ref a0), some (.int a1), some (.int a2), j3]) (st' := []) (h' := h6) 1 (fun n => if_pos hc) ?_
          exact zT_st 1 (fun n => rfl) hw
        · rw [if_neg hc] at hw
          refine zT_st (pc' := 46) (L' := [some (.ref a0), some (.int a1), some (.int a2), j3]) (st' := []) (h' := h6) 1 (fun n => if_neg hc) ?_
          exact zT_st 2 (fun n => rfl) hw
    · rw [if_neg hc] at hw
      refine zT_st (pc' := 37) (L' := [some (.ref a0), some (.int a1), some (.int a2), j3]) (st' := []) (h' := h2) 1 (fun n => if_neg hc) ?_
      refine zT_st (pc' := 40) (L' := [some (.ref a0), some (.int a1), some (.int a2), j3]) (st' := [.int 43, .ref a0]) (h' := h2) 2 (fun n => rfl) ?_
      obtain ⟨hq, hw⟩ := hw
      obtain ⟨x7, h8, hx, hw⟩ := hw
      refine zT_call (pc' := 43) (rest := []) 1 (fun n => rfl) hq hx ?_
      show zT E (d + 1) m_Reader_readSum 43 [some (.ref a0), some (.int a1), some (.int a2), j3] [.int x7] h8 r
      by_cases hc : x7 = 0
      · rw [if_pos hc] at hw
        refine zT_st (pc' := 51) (L' := [some (.ref a0), some (.int a1), some (.int a2), j3]) (st' := []) (h' := h8) 1 (fun n => if_pos hc) ?_
        exact zT_st 1 (fun n => rfl) hw
      · rw [if_neg hc] at hw
        refine zT_st (pc' := 46) (L' := [some (.ref a0), some (.int a1), some (.int a2), j3]) (st' := []) (h' := h8) 1 (fun n => if_neg hc) ?_
        exact zT_st 2 (fun n => rfl) hw
set_option maxRecDepth 4000 in
theorem s_Reader_readSum_53 (E : zX) (d : Nat) (a0 : Nat) (a1 : Int32) (a2 : Int32) (j3 : Option Value) (s0 : Int32) (h : zH) (r : zO × zH)
    (hw : isO h a0 8 = true ∧ ∃ (h2 : zH), zT E d m_Reader_nextToken 0 [some (.ref a0)] [] h (.inl none, h2) ∧
    isO h2 a0 8 = true ∧ ∃ (x3 : Int32) (h4 : zH), zT E d m_Reader_readProduct 0 [some (.ref a0), some (.int a1), none, none] [] h2 (.inl (some (.int x3)), h4) ∧
    if x3 = 0 then (
      r = (.inl (some (.int 0)), h4))
    else (
      ∃ o5 : Nat, fld h4 a0 8 12 = some (.ref o5) ∧
      isO h4 o5 9 = true ∧ ∃ (h7 : zH), zT E d m_Rule_add 0 [some (.ref o5), some (.int s0)] [] h4 (.inl none, h7) ∧
      zT E (d + 1) m_Reader_readSum 12 [some (.ref a0), some (.int a1), some (.int (a2 + 1)), some (.int s0)] [] h7 r)) :
    zT E (d + 1) m_Reader_readSum 53 [some (.ref a0), some (.int a1), some (.int a2), j3] [.int s0] h r := by
  refine zT_st (pc' := 55) (L' := [some (.ref a0), some (.int a1), some (.int a2), some (.int s0)]) (st' := [.ref a0]) (h' := h) 2 (fun n => rfl) ?_
  obtain ⟨hq, hw⟩ := hw
  obtain ⟨h2, hx, hw⟩ := hw
  refine zT_call (pc' := 58) (rest := []) 1 (fun n => rfl) hq hx ?_
  show zT E (d + 1) m_Reader_readSum 58 [some (.ref a0), some (.int a1), some (.int a2), some (.int s0)] [] h2 r
  refine zT_st (pc' := 60) (L' := [some (.ref a0), some (.int a1), some (.int a2), some (.int s0)]) (st' := [.int a1, .ref a0]) (h' := h2) 2 (fun n => rfl) ?_
  obtain ⟨hq, hw⟩ := hw
  obtain ⟨x3, h4, hx, hw⟩ := hw
  refine zT_call (pc' := 63) (rest := []) 1 (fun n => rfl) hq hx ?_
  show zT E (d + 1) m_Reader_readSum 63 [some (.ref a0), some (.int a1), some (.int a2), some (.int s0)] [.int x3] h4 r
  by_cases hc : x3 = 0
  · rw [if_pos hc] at hw
    refine zT_st (pc' := 66) (L' := [some (.ref a0), some (.int a1), some (.int a2), some (.int s0)]) (st' := []) (h' := h4) 1 (fun n => if_pos hc) ?_
    subst hw
    exact zT_ret 2 rfl
  · rw [if_neg hc] at hw
    refine zT_st (pc' := 68) (L' := [some (.ref a0), some (.int a1), some (.int a2), some (.int s0)]) (st' := []) (h' := h4) 1 (fun n => if_neg hc) ?_
    refine zT_st (pc' := 69) (L' := [some (.ref a0), some (.int a1), some (.int a2), some (.int s0)]) (st' := [.ref a0]) (h' := h4) 1 (fun n => rfl) ?_
    obtain ⟨o5, e, hw⟩ := hw
    refine zT_st (pc' := 72) (L' := [some (.ref a0), some (.int a1), some (.int a2), some (.int s0)]) (st' := [.ref o5]) (h' := h4) 1 (fun n => fld_eq (E := E) e _) ?_
    refine zT_st (pc' := 73) (L' := [some (.ref a0), some (.int a1), some (.int a2), some (.int s0)]) (st' := [.int s0, .ref o5]) (h' := h4) 1 (fun n => rfl) ?_
    obtain ⟨hq, hw⟩ := hw
    obtain ⟨h7, hx, hw⟩ := hw
    refine zT_call (pc' := 76) (rest := []) 1 (fun n => rfl) hq hx ?_
    show zT E (d + 1) m_Reader_readSum 76 [some (.ref a0), some (.int a1), some (.int a2), some (.int s0)] [] h7 r
    exact zT_st 2 (fun n => rfl) hw
set_option maxRecDepth 4000 in
theorem s_Reader_readProduct_0 (E : zX) (d : Nat) (a0 : Nat) (a1 : Int32) (h : zH) (r : zO × zH)
    (hw : isO h a0 8 = true ∧ ∃ (x1 : Int32) (h2 : zH), zT E d m_Reader_readPart 0 [some (.ref a0), some (.int a1), none] [] h (.inl (some (.int x1)), h2) ∧
    if x1 = 0 then (
      r = (.inl (some (.int 0)), h2))
    else (
      zT E (d + 1) m_Reader_readProduct 12 [some (.ref a0), some (.int a1), some (.int 0), none] [] h2 r)) :
    zT E (d + 1) m_Reader_readProduct 0 [some (.ref a0), some (.int a1), none, none] [] h r := by
  refine zT_st (pc' := 2) (L' := [some (.ref a0), some (.int a1), none, none]) (st' := [.int a1, .ref a0]) (h' := h) 2 (fun n => rfl) ?_
  obtain ⟨hq, hw⟩ := hw
  obtain ⟨x1, h2, hx, hw⟩ := hw
  refine zT_call (pc' := 5) (rest := []) 1 (fun n => rfl) hq hx ?_
  show zT E (d + 1) m_Reader_readProduct 5 [some (.ref a0), some (.int a1), none, none] [.int x1] h2 r
  by_cases hc : x1 = 0
  · rw [if_pos hc] at hw
    refine zT_st (pc' := 8) (L' := [some (.ref a0), some (.int a1), none, none]) (st' := []) (h' := h2) 1 (fun n => if_pos hc) ?_
    subst hw
    exact zT_ret 2 rfl
  · rw [if_neg hc] at hw
    refine zT_st (pc' := 10) (L' := [some (.ref a0), some (.int a1), none, none]) (st' := []) (h' := h2) 1 (fun n => if_neg hc) ?_
    exact zT_st 2 (fun n => rfl) hw
set_option maxRecDepth 4000 in
theorem s_Reader_readProduct_12 (E : zX) (d : Nat) (a0 : Nat) (a1 : Int32) (a2 : Int32) (j3 : Option Value) (h : zH) (r : zO × zH)
    (hw : if 700 ≤ a2 then (
      r = (.inl (some (.int 1)), h))
    else (
      isO h a0 8 = true ∧ ∃ (x1 : Int32) (h2 : zH), zT E d m_Reader_isSign 0 [some (.ref a0), some (.int 42)] [] h (.inl (some (.int x1)), h2) ∧
      if x1 = 0 then (
        isO h2 a0 8 = true ∧ ∃ (x3 : Int32) (h4 : zH), zT E d m_Reader_isSign 0 [some (.ref a0), some (.int 47)] [] h2 (.inl (some (.int x3)), h4) ∧
        if x3 = 0 then (
          r = (.inl (some (.int 1)), h4))
        else (
          isO h4 a0 8 = true ∧ ∃ (x5 : Int32) (h6 : zH), zT E d m_Reader_isSign 0 [some (.ref a0), some (.int 42)] [] h4 (.inl (some (.int x5)), h6) ∧
          if x5 = 0 then (
            zT E (d + 1) m_Reader_readProduct 53 [some (.ref a0), some (.int a1), some (.int a2), j3] [.int (-9)] h6 r)
          else (
            zT E (d + 1) m_Reader_readProduct 53 [some (.ref a0), some (.int a1), some (.int a2), j3] [.int (-8)] h6 r)))
      else (
        isO h2 a0 8 = true ∧ ∃ (x7 : Int32) (h8 : zH), zT E d m_Reader_isSign 0 [some (.ref a0), some (.int 42)] [] h2 (.inl (some (.int x7)), h8) ∧
        if x7 = 0 then (
          zT E (d + 1) m_Reader_readProduct 53 [some (.ref a0), some (.int a1), some (.int a2), j3] [.int (-9)] h8 r)
        else (
          zT E (d + 1) m_Reader_readProduct 53 [some (.ref a0), some (.int a1), some (.int a2), j3] [.int (-8)] h8 r)))) :
    zT E (d + 1) m_Reader_readProduct 12 [some (.ref a0), some (.int a1), some (.int a2), j3] [] h r := by
  refine zT_st (pc' := 16) (L' := [some (.ref a0), some (.int a1), some (.int a2), j3]) (st' := [.int 700, .int a2]) (h' := h) 2 (fun n => rfl) ?_
  by_cases hc : 700 ≤ a2
  · rw [if_pos hc] at hw
    refine zT_st (pc' := 82) (L' := [some (.ref a0), some (.int a1), some (.int a2), j3]) (st' := []) (h' := h) 1 (fun n => if_pos hc) ?_
    subst hw
    exact zT_ret 2 rfl
  · rw [if_neg hc] at hw
    refine zT_st (pc' := 19) (L' := [some (.ref a0), some (.int a1), some (.int a2), j3]) (st' := []) (h' := h) 1 (fun n => if_neg hc) ?_
    refine zT_st (pc' := 22) (L' := [some (.ref a0), some (.int a1), some (.int a2), j3]) (st' := [.int 42, .ref a0]) (h' := h) 2 (fun n => rfl) ?_
    obtain ⟨hq, hw⟩ := hw
    obtain ⟨x1, h2, hx, hw⟩ := hw
    refine zT_call (pc' := 25) (rest := []) 1 (fun n => rfl) hq hx ?_
    show zT E (d + 1) m_Reader_readProduct 25 [some (.ref a0), some (.int a1), some (.int a2), j3] [.int x1] h2 r
    by_cases hc : x1 = 0
    · rw [if_pos hc] at hw
      refine zT_st (pc' := 28) (L' := [some (.ref a0), some (.int a1), some (.int a2), j3]) (st' := []) (h' := h2) 1 (fun n => if_pos hc) ?_
      refine zT_st (pc' := 31) (L' := [some (.ref a0), some (.int a1), some (.int a2), j3]) (st' := [.int 47, .ref a0]) (h' := h2) 2 (fun n => rfl) ?_
      obtain ⟨hq, hw⟩ := hw
      obtain ⟨x3, h4, hx, hw⟩ := hw
      refine zT_call (pc' := 34) (rest := []) 1 (fun n => rfl) hq hx ?_
      show zT E (d + 1) m_Reader_readProduct 34 [some (.ref a0), some (.int a1), some (.int a2), j3] [.int x3] h4 r
      by_cases hc : x3 = 0
      · rw [if_pos hc] at hw
        refine zT_st (pc' := 82) (L' := [some (.ref a0), some (.int a1), some (.int a2), j3]) (st' := []) (h' := h4) 1 (fun n => if_pos hc) ?_
        subst hw
        exact zT_ret 2 rfl
      · rw [if_neg hc] at hw
        refine zT_st (pc' := 37) (L' := [some (.ref a0), some (.int a1), some (.int a2), j3]) (st' := []) (h' := h4) 1 (fun n => if_neg hc) ?_
        refine zT_st (pc' := 40) (L' := [some (.ref a0), some (.int a1), some (.int a2), j3]) (st' := [.int 42, .ref a0]) (h' := h4) 2 (fun n => rfl) ?_
        obtain ⟨hq, hw⟩ := hw
        obtain ⟨x5, h6, hx, hw⟩ := hw
        refine zT_call (pc' := 43) (rest := []) 1 (fun n => rfl) hq hx ?_
        show zT E (d + 1) m_Reader_readProduct 43 [some (.ref a0), some (.int a1), some (.int a2), j3] [.int x5] h6 r
        by_cases hc : x5 = 0
        · rw [if_pos hc] at hw
          refine zT_st (pc' := 51) (L' := [some (.ref a0), some (.int a1), some (.int a2), j3]) (st' := []) (h' := h6) 1 (fun n => if_pos hc) ?_
          exact zT_st 1 (fun n => rfl) hw
        · rw [if_neg hc] at hw
          refine zT_st (pc' := 46) (L' := [some (.ref a0), some (.int a1), some (.int a2), j3]) (st' := []) (h' := h6) 1 (fun n => if_neg hc) ?_
          exact zT_st 2 (fun n => rfl) hw
    · rw [if_neg hc] at hw
      refine zT_st (pc' := 37) (L' := [some (.ref a0), some (.int a1), some (.int a2), j3]) (st' := []) (h' := h2) 1 (fun n => if_neg hc) ?_
      refine zT_st (pc' := 40) (L' := [some (.ref a0), some (.int a1), some (.int a2), j3]) (st' := [.int 42, .ref a0]) (h' := h2) 2 (fun n => rfl) ?_
      obtain ⟨hq, hw⟩ := hw
      obtain ⟨x7, h8, hx, hw⟩ := hw
      refine zT_call (pc' := 43) (rest := []) 1 (fun n => rfl) hq hx ?_
      show zT E (d + 1) m_Reader_readProduct 43 [some (.ref a0), some (.int a1), some (.int a2), j3] [.int x7] h8 r
      by_cases hc : x7 = 0
      · rw [if_pos hc] at hw
        refine zT_st (pc' := 51) (L' := [some (.ref a0), some (.int a1), some (.int a2), j3]) (st' := []) (h' := h8) 1 (fun n => if_pos hc) ?_
        exact zT_st 1 (fun n => rfl) hw
      · rw [if_neg hc] at hw
        refine zT_st (pc' := 46) (L' := [some (.ref a0), some (.int a1), some (.int a2), j3]) (st' := []) (h' := h8) 1 (fun n => if_neg hc) ?_
        exact zT_st 2 (fun n => rfl) hw
set_option maxRecDepth 4000 in
theorem s_Reader_readProduct_53 (E : zX) (d : Nat) (a0 : Nat) (a1 : Int32) (a2 : Int32) (j3 : Option Value) (s0 : Int32) (h : zH) (r : zO × zH)
    (hw : isO h a0 8 = true ∧ ∃ (h2 : zH), zT E d m_Reader_nextToken 0 [some (.ref a0)] [] h (.inl none, h2) ∧
    isO h2 a0 8 = true ∧ ∃ (x3 : Int32) (h4 : zH), zT E d m_Reader_readPart 0 [some (.ref a0), some (.int a1), none] [] h2 (.inl (some (.int x3)), h4) ∧
    if x3 = 0 then (
      r = (.inl (some (.int 0)), h4))
    else (
      ∃ o5 : Nat, fld h4 a0 8 12 = some (.ref o5) ∧
      isO h4 o5 9 = true ∧ ∃ (h7 : zH), zT E d m_Rule_add 0 [some (.ref o5), some (.int s0)] [] h4 (.inl none, h7) ∧
      zT E (d + 1) m_Reader_readProduct 12 [some (.ref a0), some (.int a1), some (.int (a2 + 1)), some (.int s0)] [] h7 r)) :
    zT E (d + 1) m_Reader_readProduct 53 [some (.ref a0), some (.int a1), some (.int a2), j3] [.int s0] h r := by
  refine zT_st (pc' := 55) (L' := [some (.ref a0), some (.int a1), some (.int a2), some (.int s0)]) (st' := [.ref a0]) (h' := h) 2 (fun n => rfl) ?_
  obtain ⟨hq, hw⟩ := hw
  obtain ⟨h2, hx, hw⟩ := hw
  refine zT_call (pc' := 58) (rest := []) 1 (fun n => rfl) hq hx ?_
  show zT E (d + 1) m_Reader_readProduct 58 [some (.ref a0), some (.int a1), some (.int a2), some (.int s0)] [] h2 r
  refine zT_st (pc' := 60) (L' := [some (.ref a0), some (.int a1), some (.int a2), some (.int s0)]) (st' := [.int a1, .ref a0]) (h' := h2) 2 (fun n => rfl) ?_
  obtain ⟨hq, hw⟩ := hw
  obtain ⟨x3, h4, hx, hw⟩ := hw
  refine zT_call (pc' := 63) (rest := []) 1 (fun n => rfl) hq hx ?_
  show zT E (d + 1) m_Reader_readProduct 63 [some (.ref a0), some (.int a1), some (.int a2), some (.int s0)] [.int x3] h4 r
  by_cases hc : x3 = 0
  · rw [if_pos hc] at hw
    refine zT_st (pc' := 66) (L' := [some (.ref a0), some (.int a1), some (.int a2), some (.int s0)]) (st' := []) (h' := h4) 1 (fun n => if_pos hc) ?_
    subst hw
    exact zT_ret 2 rfl
  · rw [if_neg hc] at hw
    refine zT_st (pc' := 68) (L' := [some (.ref a0), some (.int a1), some (.int a2), some (.int s0)]) (st' := []) (h' := h4) 1 (fun n => if_neg hc) ?_
    refine zT_st (pc' := 69) (L' := [some (.ref a0), some (.int a1), some (.int a2), some (.int s0)]) (st' := [.ref a0]) (h' := h4) 1 (fun n => rfl) ?_
    obtain ⟨o5, e, hw⟩ := hw
    refine zT_st (pc' := 72) (L' := [some (.ref a0), some (.int a1), some (.int a2), some (.int s0)]) (st' := [.ref o5]) (h' := h4) 1 (fun n => fld_eq (E := E) e _) ?_
    refine zT_st (pc' := 73) (L' := [some (.ref a0), some (.int a1), some (.int a2), some (.int s0)]) (st' := [.int s0, .ref o5]) (h' := h4) 1 (fun n => rfl) ?_
    obtain ⟨hq, hw⟩ := hw
    obtain ⟨h7, hx, hw⟩ := hw
    refine zT_call (pc' := 76) (rest := []) 1 (fun n => rfl) hq hx ?_
    show zT E (d + 1) m_Reader_readProduct 76 [some (.ref a0), some (.int a1), some (.int a2), some (.int s0)] [] h7 r
    exact zT_st 2 (fun n => rfl) hw
set_option maxRecDepth 4000 in
theorem s_Reader_readPart_0 (E : zX) (d : Nat) (a0 : Nat) (a1 : Int32) (h : zH) (r : zO × zH)
    (hw : ∃ x1 : Int32, fld h a0 8 8 = some (.int x1) ∧
    if x1 = 2 then (
      isO h a0 8 = true ∧ ∃ (x2 : Int32) (h3 : zH), zT E d m_Reader_readNumber 0 [some (.ref a0), some (.int 0), some (.int 9999)] [] h (.inl (some (.int x2)), h3) ∧
      if x2 = 0 then (
        r = (.inl (some (.int 0)), h3))
      else (
        ∃ o4 : Nat, fld h3 a0 8 12 = some (.ref o4) ∧
        ∃ x5 : Int32, fld h3 a0 8 11 = some (.int x5) ∧
        isO h3 o4 9 = true ∧ ∃ (h7 : zH), zT E d m_Rule_add 0 [some (.ref o4), some (.int x5)] [] h3 (.inl none, h7) ∧
        r = (.inl (some (.int 1)), h7)))
    else (
      ∃ x8 : Int32, fld h a0 8 8 = some (.int x8) ∧
      if x8 = 1 then (
        ∃ x9 : Int32, fld h a0 8 13 = some (.int x9) ∧
        if x9 = 0 then (
          isO h a0 8 = true ∧ ∃ (x10 : Int32) (h11 : zH), zT E d m_Reader_valueOfBall 0 [some (.ref a0)] [] h (.inl (some (.int x10)), h11) ∧
          zT E (d + 1) m_Reader_readPart 60 [some (.ref a0), some (.int a1), none] [.int x10] h11 r)
        else (
          isO h a0 8 = true ∧ ∃ (x12 : Int32) (h13 : zH), zT E d m_Reader_valueOfPerson 0 [some (.ref a0)] [] h (.inl (some (.int x12)), h13) ∧
          zT E (d + 1) m_Reader_readPart 60 [some (.ref a0), some (.int a1), none] [.int x12] h13 r))
      else (
        if 6 ≤ a1 then (
          isO h a0 8 = true ∧ ∃ (x14 : Int32) (h15 : zH), zT E d m_Reader_fail 0 [some (.ref a0), some (.int 1)] [] h (.inl (some (.int x14)), h15) ∧
          zfr (some .boolean) x14 = true ∧ r = (.inl (some (.int x14)), h15))
        else (
          isO h a0 8 = true ∧ ∃ (x16 : Int32) (h17 : zH), zT E d m_Reader_isSign 0 [some (.ref a0), some (.int 40)] [] h (.inl (some (.int x16)), h17) ∧
          if x16 = 0 then (
            isO h17 a0 8 = true ∧ ∃ (x18 : Int32) (h19 : zH), zT E d m_Reader_fail 0 [some (.ref a0), some (.int 1)] [] h17 (.inl (some (.int x18)), h19) ∧
            zfr (some .boolean) x18 = true ∧ r = (.inl (some (.int x18)), h19))
          else (
            isO h17 a0 8 = true ∧ ∃ (h21 : zH), zT E d m_Reader_nextToken 0 [some (.ref a0)] [] h17 (.inl none, h21) ∧
            isO h21 a0 8 = true ∧ ∃ (x22 : Int32) (h23 : zH), zT E d m_Reader_readExpr 0 [some (.ref a0), some (.int (a1 + 1)), none] [] h21 (.inl (some (.int x22)), h23) ∧
            if x22 = 0 then (
              r = (.inl (some (.int 0)), h23))
            else (
              isO h23 a0 8 = true ∧ ∃ (x24 : Int32) (h25 : zH), zT E d m_Reader_readSign 0 [some (.ref a0), some (.int 41)] [] h23 (.inl (some (.int x24)), h25) ∧
              if x24 = 0 then (
                r = (.inl (some (.int 0)), h25))
              else (
                r = (.inl (some (.int 1)), h25)))))))) :
    zT E (d + 1) m_Reader_readPart 0 [some (.ref a0), some (.int a1), none] [] h r := by
  refine zT_st (pc' := 1) (L' := [some (.ref a0), some (.int a1), none]) (st' := [.ref a0]) (h' := h) 1 (fun n => rfl) ?_
  obtain ⟨x1, e, hw⟩ := hw
  refine zT_st (pc' := 4) (L' := [some (.ref a0), some (.int a1), none]) (st' := [.int x1]) (h' := h) 1 (fun n => fld_eq (E := E) e _) ?_
  refine zT_st (pc' := 5) (L' := [some (.ref a0), some (.int a1), none]) (st' := [.int 2, .int x1]) (h' := h) 1 (fun n => rfl) ?_
  by_cases hc : x1 = 2
  · rw [if_pos hc] at hw
    refine zT_st (pc' := 8) (L' := [some (.ref a0), some (.int a1), none]) (st' := []) (h' := h) 1 (fun n => if_pos hc) ?_
    refine zT_st (pc' := 13) (L' := [some (.ref a0), some (.int a1), none]) (st' := [.int 9999, .int 0, .ref a0]) (h' := h) 3 (fun n => rfl) ?_
    obtain ⟨hq, hw⟩ := hw
    obtain ⟨x2, h3, hx, hw⟩ := hw
    refine zT_call (pc' := 16) (rest := []) 1 (fun n => rfl) hq hx ?_
    show zT E (d + 1) m_Reader_readPart 16 [some (.ref a0), some (.int a1), none] [.int x2] h3 r
    by_cases hc : x2 = 0
    · rw [if_pos hc] at hw
      refine zT_st (pc' := 19) (L' := [some (.ref a0), some (.int a1), none]) (st' := []) (h' := h3) 1 (fun n => if_pos hc) ?_
      subst hw
      exact zT_ret 2 rfl
    · rw [if_neg hc] at hw
      refine zT_st (pc' := 21) (L' := [some (.ref a0), some (.int a1), none]) (st' := []) (h' := h3) 1 (fun n => if_neg hc) ?_
      refine zT_st (pc' := 22) (L' := [some (.ref a0), some (.int a1), none]) (st' := [.ref a0]) (h' := h3) 1 (fun n => rfl) ?_
      obtain ⟨o4, e, hw⟩ := hw
      refine zT_st (pc' := 25) (L' := [some (.ref a0), some (.int a1), none]) (st' := [.ref o4]) (h' := h3) 1 (fun n => fld_eq (E := E) e _) ?_
      refine zT_st (pc' := 26) (L' := [some (.ref a0), some (.int a1), none]) (st' := [.ref a0, .ref o4]) (h' := h3) 1 (fun n => rfl) ?_
      obtain ⟨x5, e, hw⟩ := hw
      refine zT_st (pc' := 29) (L' := [some (.ref a0), some (.int a1), none]) (st' := [.int x5, .ref o4]) (h' := h3) 1 (fun n => fld_eq (E := E) e _) ?_
      obtain ⟨hq, hw⟩ := hw
      obtain ⟨h7, hx, hw⟩ := hw
      refine zT_call (pc' := 32) (rest := []) 1 (fun n => rfl) hq hx ?_
      show zT E (d + 1) m_Reader_readPart 32 [some (.ref a0), some (.int a1), none] [] h7 r
      subst hw
      exact zT_ret 2 rfl
  · rw [if_neg hc] at hw
    refine zT_st (pc' := 34) (L' := [some (.ref a0), some (.int a1), none]) (st' := []) (h' := h) 1 (fun n => if_neg hc) ?_
    refine zT_st (pc' := 35) (L' := [some (.ref a0), some (.int a1), none]) (st' := [.ref a0]) (h' := h) 1 (fun n => rfl) ?_
    obtain ⟨x8, e, hw⟩ := hw
    refine zT_st (pc' := 38) (L' := [some (.ref a0), some (.int a1), none]) (st' := [.int x8]) (h' := h) 1 (fun n => fld_eq (E := E) e _) ?_
    refine zT_st (pc' := 39) (L' := [some (.ref a0), some (.int a1), none]) (st' := [.int 1, .int x8]) (h' := h) 1 (fun n => rfl) ?_
    by_cases hc : x8 = 1
    · rw [if_pos hc] at hw
      refine zT_st (pc' := 42) (L' := [some (.ref a0), some (.int a1), none]) (st' := []) (h' := h) 1 (fun n => if_pos hc) ?_
      refine zT_st (pc' := 43) (L' := [some (.ref a0), some (.int a1), none]) (st' := [.ref a0]) (h' := h) 1 (fun n => rfl) ?_
      obtain ⟨x9, e, hw⟩ := hw
      refine zT_st (pc' := 46) (L' := [some (.ref a0), some (.int a1), none]) (st' := [.int x9]) (h' := h) 1 (fun n => fld_eq (E := E) e _) ?_
      by_cases hc : x9 = 0
      · rw [if_pos hc] at hw
        refine zT_st (pc' := 56) (L' := [some (.ref a0), some (.int a1), none]) (st' := []) (h' := h) 1 (fun n => if_pos hc) ?_
        refine zT_st (pc' := 57) (L' := [some (.ref a0), some (.int a1), none]) (st' := [.ref a0]) (h' := h) 1 (fun n => rfl) ?_
        obtain ⟨hq, hw⟩ := hw
        obtain ⟨x10, h11, hx, hw⟩ := hw
        refine zT_call (pc' := 60) (rest := []) 1 (fun n => rfl) hq hx ?_
        show zT E (d + 1) m_Reader_readPart 60 [some (.ref a0), some (.int a1), none] [.int x10] h11 r
        exact hw
      · rw [if_neg hc] at hw
        refine zT_st (pc' := 49) (L' := [some (.ref a0), some (.int a1), none]) (st' := []) (h' := h) 1 (fun n => if_neg hc) ?_
        refine zT_st (pc' := 50) (L' := [some (.ref a0), some (.int a1), none]) (st' := [.ref a0]) (h' := h) 1 (fun n => rfl) ?_
        obtain ⟨hq, hw⟩ := hw
        obtain ⟨x12, h13, hx, hw⟩ := hw
        refine zT_call (pc' := 53) (rest := []) 1 (fun n => rfl) hq hx ?_
        show zT E (d + 1) m_Reader_readPart 53 [some (.ref a0), some (.int a1), none] [.int x12] h13 r
        exact zT_st 1 (fun n => rfl) hw
    · rw [if_neg hc] at hw
      refine zT_st (pc' := 89) (L' := [some (.ref a0), some (.int a1), none]) (st' := []) (h' := h) 1 (fun n => if_neg hc) ?_
      refine zT_st (pc' := 92) (L' := [some (.ref a0), some (.int a1), none]) (st' := [.int 6, .int a1]) (h' := h) 2 (fun n => rfl) ?_
      by_cases hc : 6 ≤ a1
      · rw [if_pos hc] at hw
        refine zT_st (pc' := 104) (L' := [some (.ref a0), some (.int a1), none]) (st' := []) (h' := h) 1 (fun n => if_pos hc) ?_
        refine zT_st (pc' := 106) (L' := [some (.ref a0), some (.int a1), none]) (st' := [.int 1, .ref a0]) (h' := h) 2 (fun n => rfl) ?_
        obtain ⟨hq, hw⟩ := hw
        obtain ⟨x14, h15, hx, hw⟩ := hw
        refine zT_call (pc' := 109) (rest := []) 1 (fun n => rfl) hq hx ?_
        show zT E (d + 1) m_Reader_readPart 109 [some (.ref a0), some (.int a1), none] [.int x14] h15 r
        obtain ⟨hz, hw⟩ := hw
        subst hw
        refine zT_ret 1 ?_
        show (bif zfr _ _ then _ else none) = _
        rw [hz]
        rfl
      · rw [if_neg hc] at hw
        refine zT_st (pc' := 95) (L' := [some (.ref a0), some (.int a1), none]) (st' := []) (h' := h) 1 (fun n => if_neg hc) ?_
        refine zT_st (pc' := 98) (L' := [some (.ref a0), some (.int a1), none]) (st' := [.int 40, .ref a0]) (h' := h) 2 (fun n => rfl) ?_
        obtain ⟨hq, hw⟩ := hw
        obtain ⟨x16, h17, hx, hw⟩ := hw
        refine zT_call (pc' := 101) (rest := []) 1 (fun n => rfl) hq hx ?_
        show zT E (d + 1) m_Reader_readPart 101 [some (.ref a0), some (.int a1), none] [.int x16] h17 r
        by_cases hc : x16 = 0
        · rw [if_pos hc] at hw
          refine zT_st (pc' := 104) (L' := [some (.ref a0), some (.int a1), none]) (st' := []) (h' := h17) 1 (fun n => if_pos hc) ?_
          refine zT_st (pc' := 106) (L' := [some (.ref a0), some (.int a1), none]) (st' := [.int 1, .ref a0]) (h' := h17) 2 (fun n => rfl) ?_
          obtain ⟨hq, hw⟩ := hw
          obtain ⟨x18, h19, hx, hw⟩ := hw
          refine zT_call (pc' := 109) (rest := []) 1 (fun n => rfl) hq hx ?_
          show zT E (d + 1) m_Reader_readPart 109 [some (.ref a0), some (.int a1), none] [.int x18] h19 r
          obtain ⟨hz, hw⟩ := hw
          subst hw
          refine zT_ret 1 ?_
          show (bif zfr _ _ then _ else none) = _
          rw [hz]
          rfl
        · rw [if_neg hc] at hw
          refine zT_st (pc' := 110) (L' := [some (.ref a0), some (.int a1), none]) (st' := []) (h' := h17) 1 (fun n => if_neg hc) ?_
          refine zT_st (pc' := 111) (L' := [some (.ref a0), some (.int a1), none]) (st' := [.ref a0]) (h' := h17) 1 (fun n => rfl) ?_
          obtain ⟨hq, hw⟩ := hw
          obtain ⟨h21, hx, hw⟩ := hw
          refine zT_call (pc' := 114) (rest := []) 1 (fun n => rfl) hq hx ?_
          show zT E (d + 1) m_Reader_readPart 114 [some (.ref a0), some (.int a1), none] [] h21 r
          refine zT_st (pc' := 118) (L' := [some (.ref a0), some (.int a1), none]) (st' := [.int (a1 + 1), .ref a0]) (h' := h21) 4 (fun n => rfl) ?_
          obtain ⟨hq, hw⟩ := hw
          obtain ⟨x22, h23, hx, hw⟩ := hw
          refine zT_call (pc' := 121) (rest := []) 1 (fun n => rfl) hq hx ?_
          show zT E (d + 1) m_Reader_readPart 121 [some (.ref a0), some (.int a1), none] [.int x22] h23 r
          by_cases hc : x22 = 0
          · rw [if_pos hc] at hw
            refine zT_st (pc' := 137) (L' := [some (.ref a0), some (.int a1), none]) (st' := []) (h' := h23) 1 (fun n => if_pos hc) ?_
            subst hw
            exact zT_ret 2 rfl
          · rw [if_neg hc] at hw
            refine zT_st (pc' := 124) (L' := [some (.ref a0), some (.int a1), none]) (st' := []) (h' := h23) 1 (fun n => if_neg hc) ?_
            refine zT_st (pc' := 127) (L' := [some (.ref a0), some (.int a1), none]) (st' := [.int 41, .ref a0]) (h' := h23) 2 (fun n => rfl) ?_
            obtain ⟨hq, hw⟩ := hw
            obtain ⟨x24, h25, hx, hw⟩ := hw
            refine zT_call (pc' := 130) (rest := []) 1 (fun n => rfl) hq hx ?_
            show zT E (d + 1) m_Reader_readPart 130 [some (.ref a0), some (.int a1), none] [.int x24] h25 r
            by_cases hc : x24 = 0
            · rw [if_pos hc] at hw
              refine zT_st (pc' := 137) (L' := [some (.ref a0), some (.int a1), none]) (st' := []) (h' := h25) 1 (fun n => if_pos hc) ?_
              subst hw
              exact zT_ret 2 rfl
            · rw [if_neg hc] at hw
              refine zT_st (pc' := 133) (L' := [some (.ref a0), some (.int a1), none]) (st' := []) (h' := h25) 1 (fun n => if_neg hc) ?_
              subst hw
              exact zT_ret 3 rfl
set_option maxRecDepth 4000 in
theorem s_Reader_readPart_60 (E : zX) (d : Nat) (a0 : Nat) (j1 : Option Value) (j2 : Option Value) (s0 : Int32) (h : zH) (r : zO × zH)
    (hw : if s0 = (-1) then (
      isO h a0 8 = true ∧ ∃ (x1 : Int32) (h2 : zH), zT E d m_Reader_fail 0 [some (.ref a0), some (.int 3)] [] h (.inl (some (.int x1)), h2) ∧
      zfr (some .boolean) x1 = true ∧ r = (.inl (some (.int x1)), h2))
    else (
      ∃ o3 : Nat, fld h a0 8 12 = some (.ref o3) ∧
      isO h o3 9 = true ∧ ∃ (h5 : zH), zT E d m_Rule_add 0 [some (.ref o3), some (.int ((-20) - s0))] [] h (.inl none, h5) ∧
      isO h5 a0 8 = true ∧ ∃ (h7 : zH), zT E d m_Reader_nextToken 0 [some (.ref a0)] [] h5 (.inl none, h7) ∧
      r = (.inl (some (.int 1)), h7))) :
    zT E (d + 1) m_Reader_readPart 60 [some (.ref a0), j1, j2] [.int s0] h r := by
  refine zT_st (pc' := 63) (L' := [some (.ref a0), j1, some (.int s0)]) (st' := [.int (-1), .int s0]) (h' := h) 3 (fun n => rfl) ?_
  by_cases hc : s0 = (-1)
  · rw [if_pos hc] at hw
    refine zT_st (pc' := 66) (L' := [some (.ref a0), j1, some (.int s0)]) (st' := []) (h' := h) 1 (fun n => if_pos hc) ?_
    refine zT_st (pc' := 68) (L' := [some (.ref a0), j1, some (.int s0)]) (st' := [.int 3, .ref a0]) (h' := h) 2 (fun n => rfl) ?_
    obtain ⟨hq, hw⟩ := hw
    obtain ⟨x1, h2, hx, hw⟩ := hw
    refine zT_call (pc' := 71) (rest := []) 1 (fun n => rfl) hq hx ?_
    show zT E (d + 1) m_Reader_readPart 71 [some (.ref a0), j1, some (.int s0)] [.int x1] h2 r
    obtain ⟨hz, hw⟩ := hw
    subst hw
    refine zT_ret 1 ?_
    show (bif zfr _ _ then _ else none) = _
    rw [hz]
    rfl
  · rw [if_neg hc] at hw
    refine zT_st (pc' := 72) (L' := [some (.ref a0), j1, some (.int s0)]) (st' := []) (h' := h) 1 (fun n => if_neg hc) ?_
    refine zT_st (pc' := 73) (L' := [some (.ref a0), j1, some (.int s0)]) (st' := [.ref a0]) (h' := h) 1 (fun n => rfl) ?_
    obtain ⟨o3, e, hw⟩ := hw
    refine zT_st (pc' := 76) (L' := [some (.ref a0), j1, some (.int s0)]) (st' := [.ref o3]) (h' := h) 1 (fun n => fld_eq (E := E) e _) ?_
    refine zT_st (pc' := 80) (L' := [some (.ref a0), j1, some (.int s0)]) (st' := [.int ((-20) - s0), .ref o3]) (h' := h) 3 (fun n => rfl) ?_
    obtain ⟨hq, hw⟩ := hw
    obtain ⟨h5, hx, hw⟩ := hw
    refine zT_call (pc' := 83) (rest := []) 1 (fun n => rfl) hq hx ?_
    show zT E (d + 1) m_Reader_readPart 83 [some (.ref a0), j1, some (.int s0)] [] h5 r
    refine zT_st (pc' := 84) (L' := [some (.ref a0), j1, some (.int s0)]) (st' := [.ref a0]) (h' := h5) 1 (fun n => rfl) ?_
    obtain ⟨hq, hw⟩ := hw
    obtain ⟨h7, hx, hw⟩ := hw
    refine zT_call (pc' := 87) (rest := []) 1 (fun n => rfl) hq hx ?_
    show zT E (d + 1) m_Reader_readPart 87 [some (.ref a0), j1, some (.int s0)] [] h7 r
    subst hw
    exact zT_ret 2 rfl
set_option maxRecDepth 4000 in
theorem s_Reader_valueOfPerson_0 (E : zX) (d : Nat) (a0 : Nat) (h : zH) (r : zO × zH)
    (hw : isO h a0 8 = true ∧ ∃ (x1 : Int32) (h2 : zH), zT E d m_Reader_isWord 0 [some (.ref a0), some (.float 15), none] [] h (.inl (some (.int x1)), h2) ∧
    if x1 = 0 then (
      isO h2 a0 8 = true ∧ ∃ (x3 : Int32) (h4 : zH), zT E d m_Reader_isWord 0 [some (.ref a0), some (.float 17), none] [] h2 (.inl (some (.int x3)), h4) ∧
      if x3 = 0 then (
        isO h4 a0 8 = true ∧ ∃ (x5 : Int32) (h6 : zH), zT E d m_Reader_isWord 0 [some (.ref a0), some (.float 19), none] [] h4 (.inl (some (.int x5)), h6) ∧
        if x5 = 0 then (
          isO h6 a0 8 = true ∧ ∃ (x7 : Int32) (h8 : zH), zT E d m_Reader_isWord 0 [some (.ref a0), some (.float 21), none] [] h6 (.inl (some (.int x7)), h8) ∧
          if x7 = 0 then (
            isO h8 a0 8 = true ∧ ∃ (x9 : Int32) (h10 : zH), zT E d m_Reader_isWord 0 [some (.ref a0), some (.float 23), none] [] h8 (.inl (some (.int x9)), h10) ∧
            if x9 = 0 then (
              r = (.inl (some (.int (-1))), h10))
            else (
              r = (.inl (some (.int 4)), h10)))
          else (
            r = (.inl (some (.int 3)), h8)))
        else (
          r = (.inl (some (.int 2)), h6)))
      else (
        r = (.inl (some (.int 1)), h4)))
    else (
      r = (.inl (some (.int 0)), h2))) :
    zT E (d + 1) m_Reader_valueOfPerson 0 [some (.ref a0)] [] h r := by
  refine zT_st (pc' := 3) (L' := [some (.ref a0)]) (st' := [.float 15, .ref a0]) (h' := h) 2 (fun n => rfl) ?_
  obtain ⟨hq, hw⟩ := hw
  obtain ⟨x1, h2, hx, hw⟩ := hw
  refine zT_call (pc' := 6) (rest := []) 1 (fun n => rfl) hq hx ?_
  show zT E (d + 1) m_Reader_valueOfPerson 6 [some (.ref a0)] [.int x1] h2 r
  by_cases hc : x1 = 0
  · rw [if_pos hc] at hw
    refine zT_st (pc' := 11) (L' := [some (.ref a0)]) (st' := []) (h' := h2) 1 (fun n => if_pos hc) ?_
    refine zT_st (pc' := 14) (L' := [some (.ref a0)]) (st' := [.float 17, .ref a0]) (h' := h2) 2 (fun n => rfl) ?_
    obtain ⟨hq, hw⟩ := hw
    obtain ⟨x3, h4, hx, hw⟩ := hw
    refine zT_call (pc' := 17) (rest := []) 1 (fun n => rfl) hq hx ?_
    show zT E (d + 1) m_Reader_valueOfPerson 17 [some (.ref a0)] [.int x3] h4 r
    by_cases hc : x3 = 0
    · rw [if_pos hc] at hw
      refine zT_st (pc' := 22) (L' := [some (.ref a0)]) (st' := []) (h' := h4) 1 (fun n => if_pos hc) ?_
      refine zT_st (pc' := 25) (L' := [some (.ref a0)]) (st' := [.float 19, .ref a0]) (h' := h4) 2 (fun n => rfl) ?_
      obtain ⟨hq, hw⟩ := hw
      obtain ⟨x5, h6, hx, hw⟩ := hw
      refine zT_call (pc' := 28) (rest := []) 1 (fun n => rfl) hq hx ?_
      show zT E (d + 1) m_Reader_valueOfPerson 28 [some (.ref a0)] [.int x5] h6 r
      by_cases hc : x5 = 0
      · rw [if_pos hc] at hw
        refine zT_st (pc' := 33) (L' := [some (.ref a0)]) (st' := []) (h' := h6) 1 (fun n => if_pos hc) ?_
        refine zT_st (pc' := 36) (L' := [some (.ref a0)]) (st' := [.float 21, .ref a0]) (h' := h6) 2 (fun n => rfl) ?_
        obtain ⟨hq, hw⟩ := hw
        obtain ⟨x7, h8, hx, hw⟩ := hw
        refine zT_call (pc' := 39) (rest := []) 1 (fun n => rfl) hq hx ?_
        show zT E (d + 1) m_Reader_valueOfPerson 39 [some (.ref a0)] [.int x7] h8 r
        by_cases hc : x7 = 0
        · rw [if_pos hc] at hw
          refine zT_st (pc' := 44) (L' := [some (.ref a0)]) (st' := []) (h' := h8) 1 (fun n => if_pos hc) ?_
          refine zT_st (pc' := 47) (L' := [some (.ref a0)]) (st' := [.float 23, .ref a0]) (h' := h8) 2 (fun n => rfl) ?_
          obtain ⟨hq, hw⟩ := hw
          obtain ⟨x9, h10, hx, hw⟩ := hw
          refine zT_call (pc' := 50) (rest := []) 1 (fun n => rfl) hq hx ?_
          show zT E (d + 1) m_Reader_valueOfPerson 50 [some (.ref a0)] [.int x9] h10 r
          by_cases hc : x9 = 0
          · rw [if_pos hc] at hw
            refine zT_st (pc' := 57) (L' := [some (.ref a0)]) (st' := []) (h' := h10) 1 (fun n => if_pos hc) ?_
            subst hw
            exact zT_ret 2 rfl
          · rw [if_neg hc] at hw
            refine zT_st (pc' := 53) (L' := [some (.ref a0)]) (st' := []) (h' := h10) 1 (fun n => if_neg hc) ?_
            subst hw
            exact zT_ret 3 rfl
        · rw [if_neg hc] at hw
          refine zT_st (pc' := 42) (L' := [some (.ref a0)]) (st' := []) (h' := h8) 1 (fun n => if_neg hc) ?_
          subst hw
          exact zT_ret 2 rfl
      · rw [if_neg hc] at hw
        refine zT_st (pc' := 31) (L' := [some (.ref a0)]) (st' := []) (h' := h6) 1 (fun n => if_neg hc) ?_
        subst hw
        exact zT_ret 2 rfl
    · rw [if_neg hc] at hw
      refine zT_st (pc' := 20) (L' := [some (.ref a0)]) (st' := []) (h' := h4) 1 (fun n => if_neg hc) ?_
      subst hw
      exact zT_ret 2 rfl
  · rw [if_neg hc] at hw
    refine zT_st (pc' := 9) (L' := [some (.ref a0)]) (st' := []) (h' := h2) 1 (fun n => if_neg hc) ?_
    subst hw
    exact zT_ret 2 rfl
set_option maxRecDepth 4000 in
theorem s_Reader_valueOfBall_0 (E : zX) (d : Nat) (a0 : Nat) (h : zH) (r : zO × zH)
    (hw : isO h a0 8 = true ∧ ∃ (x1 : Int32) (h2 : zH), zT E d m_Reader_isWord 0 [some (.ref a0), some (.float 9), none] [] h (.inl (some (.int x1)), h2) ∧
    if x1 = 0 then (
      isO h2 a0 8 = true ∧ ∃ (x3 : Int32) (h4 : zH), zT E d m_Reader_isWord 0 [some (.ref a0), some (.float 25), none] [] h2 (.inl (some (.int x3)), h4) ∧
      if x3 = 0 then (
        isO h4 a0 8 = true ∧ ∃ (x5 : Int32) (h6 : zH), zT E d m_Reader_isWord 0 [some (.ref a0), some (.float 27), none] [] h4 (.inl (some (.int x5)), h6) ∧
        if x5 = 0 then (
          isO h6 a0 8 = true ∧ ∃ (x7 : Int32) (h8 : zH), zT E d m_Reader_isWord 0 [some (.ref a0), some (.float 29), none] [] h6 (.inl (some (.int x7)), h8) ∧
          if x7 = 0 then (
            isO h8 a0 8 = true ∧ ∃ (x9 : Int32) (h10 : zH), zT E d m_Reader_isWord 0 [some (.ref a0), some (.float 23), none] [] h8 (.inl (some (.int x9)), h10) ∧
            if x9 = 0 then (
              r = (.inl (some (.int (-1))), h10))
            else (
              r = (.inl (some (.int 4)), h10)))
          else (
            r = (.inl (some (.int 3)), h8)))
        else (
          r = (.inl (some (.int 2)), h6)))
      else (
        r = (.inl (some (.int 1)), h4)))
    else (
      r = (.inl (some (.int 0)), h2))) :
    zT E (d + 1) m_Reader_valueOfBall 0 [some (.ref a0)] [] h r := by
  refine zT_st (pc' := 3) (L' := [some (.ref a0)]) (st' := [.float 9, .ref a0]) (h' := h) 2 (fun n => rfl) ?_
  obtain ⟨hq, hw⟩ := hw
  obtain ⟨x1, h2, hx, hw⟩ := hw
  refine zT_call (pc' := 6) (rest := []) 1 (fun n => rfl) hq hx ?_
  show zT E (d + 1) m_Reader_valueOfBall 6 [some (.ref a0)] [.int x1] h2 r
  by_cases hc : x1 = 0
  · rw [if_pos hc] at hw
    refine zT_st (pc' := 11) (L' := [some (.ref a0)]) (st' := []) (h' := h2) 1 (fun n => if_pos hc) ?_
    refine zT_st (pc' := 14) (L' := [some (.ref a0)]) (st' := [.float 25, .ref a0]) (h' := h2) 2 (fun n => rfl) ?_
    obtain ⟨hq, hw⟩ := hw
    obtain ⟨x3, h4, hx, hw⟩ := hw
    refine zT_call (pc' := 17) (rest := []) 1 (fun n => rfl) hq hx ?_
    show zT E (d + 1) m_Reader_valueOfBall 17 [some (.ref a0)] [.int x3] h4 r
    by_cases hc : x3 = 0
    · rw [if_pos hc] at hw
      refine zT_st (pc' := 22) (L' := [some (.ref a0)]) (st' := []) (h' := h4) 1 (fun n => if_pos hc) ?_
      refine zT_st (pc' := 25) (L' := [some (.ref a0)]) (st' := [.float 27, .ref a0]) (h' := h4) 2 (fun n => rfl) ?_
      obtain ⟨hq, hw⟩ := hw
      obtain ⟨x5, h6, hx, hw⟩ := hw
      refine zT_call (pc' := 28) (rest := []) 1 (fun n => rfl) hq hx ?_
      show zT E (d + 1) m_Reader_valueOfBall 28 [some (.ref a0)] [.int x5] h6 r
      by_cases hc : x5 = 0
      · rw [if_pos hc] at hw
        refine zT_st (pc' := 33) (L' := [some (.ref a0)]) (st' := []) (h' := h6) 1 (fun n => if_pos hc) ?_
        refine zT_st (pc' := 36) (L' := [some (.ref a0)]) (st' := [.float 29, .ref a0]) (h' := h6) 2 (fun n => rfl) ?_
        obtain ⟨hq, hw⟩ := hw
        obtain ⟨x7, h8, hx, hw⟩ := hw
        refine zT_call (pc' := 39) (rest := []) 1 (fun n => rfl) hq hx ?_
        show zT E (d + 1) m_Reader_valueOfBall 39 [some (.ref a0)] [.int x7] h8 r
        by_cases hc : x7 = 0
        · rw [if_pos hc] at hw
          refine zT_st (pc' := 44) (L' := [some (.ref a0)]) (st' := []) (h' := h8) 1 (fun n => if_pos hc) ?_
          refine zT_st (pc' := 47) (L' := [some (.ref a0)]) (st' := [.float 23, .ref a0]) (h' := h8) 2 (fun n => rfl) ?_
          obtain ⟨hq, hw⟩ := hw
          obtain ⟨x9, h10, hx, hw⟩ := hw
          refine zT_call (pc' := 50) (rest := []) 1 (fun n => rfl) hq hx ?_
          show zT E (d + 1) m_Reader_valueOfBall 50 [some (.ref a0)] [.int x9] h10 r
          by_cases hc : x9 = 0
          · rw [if_pos hc] at hw
            refine zT_st (pc' := 57) (L' := [some (.ref a0)]) (st' := []) (h' := h10) 1 (fun n => if_pos hc) ?_
            subst hw
            exact zT_ret 2 rfl
          · rw [if_neg hc] at hw
            refine zT_st (pc' := 53) (L' := [some (.ref a0)]) (st' := []) (h' := h10) 1 (fun n => if_neg hc) ?_
            subst hw
            exact zT_ret 3 rfl
        · rw [if_neg hc] at hw
          refine zT_st (pc' := 42) (L' := [some (.ref a0)]) (st' := []) (h' := h8) 1 (fun n => if_neg hc) ?_
          subst hw
          exact zT_ret 2 rfl
      · rw [if_neg hc] at hw
        refine zT_st (pc' := 31) (L' := [some (.ref a0)]) (st' := []) (h' := h6) 1 (fun n => if_neg hc) ?_
        subst hw
        exact zT_ret 2 rfl
    · rw [if_neg hc] at hw
      refine zT_st (pc' := 20) (L' := [some (.ref a0)]) (st' := []) (h' := h4) 1 (fun n => if_neg hc) ?_
      subst hw
      exact zT_ret 2 rfl
  · rw [if_neg hc] at hw
    refine zT_st (pc' := 9) (L' := [some (.ref a0)]) (st' := []) (h' := h2) 1 (fun n => if_neg hc) ?_
    subst hw
    exact zT_ret 2 rfl
-- s_x_init_0: by hand
set_option maxRecDepth 4000 in
theorem s_x_feed_0 (E : zX) (d : Nat) (a0 : Nat) (a1 : Int32) (a2 : Int32) (a3 : Int32) (a4 : Int32) (a5 : Int32) (h : zH) (r : zO × zH)
    (hw : ∃ x1 : Int32, fld h a0 11 1 = some (.int x1) ∧
    if (x1 + 20) ≤ 700 then (
      isO h a0 11 = true ∧ ∃ (h3 : zH), zT E d m_x_append 0 [some (.ref a0), some (.int a1), none] [] h (.inl none, h3) ∧
      isO h3 a0 11 = true ∧ ∃ (h5 : zH), zT E d m_x_append 0 [some (.ref a0), some (.int a2), none] [] h3 (.inl none, h5) ∧
      isO h5 a0 11 = true ∧ ∃ (h7 : zH), zT E d m_x_append 0 [some (.ref a0), some (.int a3), none] [] h5 (.inl none, h7) ∧
      isO h7 a0 11 = true ∧ ∃ (h9 : zH), zT E d m_x_append 0 [some (.ref a0), some (.int a4), none] [] h7 (.inl none, h9) ∧
      isO h9 a0 11 = true ∧ ∃ (h11 : zH), zT E d m_x_append 0 [some (.ref a0), some (.int a5), none] [] h9 (.inl none, h11) ∧
      ∃ x12 : Int32, fld h11 a0 11 1 = some (.int x12) ∧
      r = (.inl (some (.int x12)), h11))
    else (
      r = (.inl (some (.int (-1))), h))) :
    zT E (d + 1) m_x_feed 0 [some (.ref a0), some (.int a1), some (.int a2), some (.int a3), some (.int a4), some (.int a5)] [] h r := by
  refine zT_st (pc' := 1) (L' := [some (.ref a0), some (.int a1), some (.int a2), some (.int a3), some (.int a4), some (.int a5)]) (st' := [.ref a0]) (h' := h) 1 (fun n => rfl) ?_
  obtain ⟨x1, e, hw⟩ := hw
  refine zT_st (pc' := 4) (L' := [some (.ref a0), some (.int a1), some (.int a2), some (.int a3), some (.int a4), some (.int a5)]) (st' := [.int x1]) (h' := h) 1 (fun n => fld_eq (E := E) e _) ?_
  refine zT_st (pc' := 10) (L' := [some (.ref a0), some (.int a1), some (.int a2), some (.int a3), some (.int a4), some (.int a5)]) (st' := [.int 700, .int (x1 + 20)]) (h' := h) 3 (fun n => rfl) ?_
  by_cases hc : (x1 + 20) ≤ 700
  · rw [if_pos hc] at hw
    refine zT_st (pc' := 15) (L' := [some (.ref a0), some (.int a1), some (.int a2), some (.int a3), some (.int a4), some (.int a5)]) (st' := []) (h' := h) 1 (fun n => if_pos hc) ?_
    refine zT_st (pc' := 17) (L' := [some (.ref a0), some (.int a1), some (.int a2), some (.int a3), some (.int a4), some (.int a5)]) (st' := [.int a1, .ref a0]) (h' := h) 2 (fun n => rfl) ?_
    obtain ⟨hq, hw⟩ := hw
    obtain ⟨h3, hx, hw⟩ := hw
    refine zT_call (pc' := 20) (rest := []) 1 (fun n => rfl) hq hx ?_
    show zT E (d + 1) m_x_feed 20 [some (.ref a0), some (.int a1), some (.int a2), some (.int a3), some (.int a4), some (.int a5)] [] h3 r
    refine zT_st (pc' := 22) (L' := [some (.ref a0), some (.int a1), some (.int a2), some (.int a3), some (.int a4), some (.int a5)]) (st' := [.int a2, .ref a0]) (h' := h3) 2 (fun n => rfl) ?_
    obtain ⟨hq, hw⟩ := hw
    obtain ⟨h5, hx, hw⟩ := hw
    refine zT_call (pc' := 25) (rest := []) 1 (fun n => rfl) hq hx ?_
    show zT E (d + 1) m_x_feed 25 [some (.ref a0), some (.int a1), some (.int a2), some (.int a3), some (.int a4), some (.int a5)] [] h5 r
    refine zT_st (pc' := 27) (L' := [some (.ref a0), some (.int a1), some (.int a2), some (.int a3), some (.int a4), some (.int a5)]) (st' := [.int a3, .ref a0]) (h' := h5) 2 (fun n => rfl) ?_
    obtain ⟨hq, hw⟩ := hw
    obtain ⟨h7, hx, hw⟩ := hw
    refine zT_call (pc' := 30) (rest := []) 1 (fun n => rfl) hq hx ?_
    show zT E (d + 1) m_x_feed 30 [some (.ref a0), some (.int a1), some (.int a2), some (.int a3), some (.int a4), some (.int a5)] [] h7 r
    refine zT_st (pc' := 33) (L' := [some (.ref a0), some (.int a1), some (.int a2), some (.int a3), some (.int a4), some (.int a5)]) (st' := [.int a4, .ref a0]) (h' := h7) 2 (fun n => rfl) ?_
    obtain ⟨hq, hw⟩ := hw
    obtain ⟨h9, hx, hw⟩ := hw
    refine zT_call (pc' := 36) (rest := []) 1 (fun n => rfl) hq hx ?_
    show zT E (d + 1) m_x_feed 36 [some (.ref a0), some (.int a1), some (.int a2), some (.int a3), some (.int a4), some (.int a5)] [] h9 r
    refine zT_st (pc' := 39) (L' := [some (.ref a0), some (.int a1), some (.int a2), some (.int a3), some (.int a4), some (.int a5)]) (st' := [.int a5, .ref a0]) (h' := h9) 2 (fun n => rfl) ?_
    obtain ⟨hq, hw⟩ := hw
    obtain ⟨h11, hx, hw⟩ := hw
    refine zT_call (pc' := 42) (rest := []) 1 (fun n => rfl) hq hx ?_
    show zT E (d + 1) m_x_feed 42 [some (.ref a0), some (.int a1), some (.int a2), some (.int a3), some (.int a4), some (.int a5)] [] h11 r
    refine zT_st (pc' := 43) (L' := [some (.ref a0), some (.int a1), some (.int a2), some (.int a3), some (.int a4), some (.int a5)]) (st' := [.ref a0]) (h' := h11) 1 (fun n => rfl) ?_
    obtain ⟨x12, e, hw⟩ := hw
    refine zT_st (pc' := 46) (L' := [some (.ref a0), some (.int a1), some (.int a2), some (.int a3), some (.int a4), some (.int a5)]) (st' := [.int x12]) (h' := h11) 1 (fun n => fld_eq (E := E) e _) ?_
    subst hw
    exact zT_ret 1 rfl
  · rw [if_neg hc] at hw
    refine zT_st (pc' := 13) (L' := [some (.ref a0), some (.int a1), some (.int a2), some (.int a3), some (.int a4), some (.int a5)]) (st' := []) (h' := h) 1 (fun n => if_neg hc) ?_
    subst hw
    exact zT_ret 2 rfl
set_option maxRecDepth 4000 in
theorem s_x_append_0 (E : zX) (d : Nat) (a0 : Nat) (a1 : Int32) (h : zH) (r : zO × zH)
    (hw : zT E d m_x_append 3 [some (.ref a0), some (.int a1), some (.int 24)] [] h r) :
    zT E d m_x_append 0 [some (.ref a0), some (.int a1), none] [] h r := by
  exact zT_st 2 (fun n => rfl) hw
set_option maxRecDepth 4000 in
theorem s_x_append_3 (E : zX) (d : Nat) (a0 : Nat) (a1 : Int32) (a2 : Int32) (h : zH) (r : zO × zH)
    (hw : if a2 < 0 then (
      r = (.inl (none), h))
    else (
      ∃ x1 : Int32, fld h a0 11 1 = some (.int x1) ∧
      if 700 ≤ x1 then (
        r = (.inl (none), h))
      else (
        ∃ o2 : Nat, fld h a0 11 0 = some (.ref o2) ∧
        ∃ x3 : Int32, fld h a0 11 1 = some (.int x3) ∧
        ∃ (n4 : Nat) (f5 : Nat → Int32), arr h o2 = some (n4, f5) ∧ ¬ (x3 < 0 ∨ n4 ≤ (x3).toNatClampNeg) ∧
        ∃ x6 : Int32, fld (setA h o2 n4 (upd f5 (x3).toNatClampNeg ((zushr a1 a2) &&& 255))) a0 11 1 = some (.int x6) ∧
        (∃ w, fld (setA h o2 n4 (upd f5 (x3).toNatClampNeg ((zushr a1 a2) &&& 255))) a0 11 1 = some w) ∧
        zT E d m_x_append 3 [some (.ref a0), some (.int a1), some (.int (a2 + (-8)))] [] (setF (setA h o2 n4 (upd f5 (x3).toNatClampNeg ((zushr a1 a2) &&& 255))) a0 1 (.int (x6 + 1))) r))) :
    zT E d m_x_append 3 [some (.ref a0), some (.int a1), some (.int a2)] [] h r := by
  refine zT_st (pc' := 4) (L' := [some (.ref a0), some (.int a1), some (.int a2)]) (st' := [.int a2]) (h' := h) 1 (fun n => rfl) ?_
  by_cases hc : a2 < 0
  · rw [if_pos hc] at hw
    refine zT_st (pc' := 49) (L' := [some (.ref a0), some (.int a1), some (.int a2)]) (st' := []) (h' := h) 1 (fun n => if_pos hc) ?_
    subst hw
    exact zT_ret 1 rfl
  · rw [if_neg hc] at hw
    refine zT_st (pc' := 7) (L' := [some (.ref a0), some (.int a1), some (.int a2)]) (st' := []) (h' := h) 1 (fun n => if_neg hc) ?_
    refine zT_st (pc' := 8) (L' := [some (.ref a0), some (.int a1), some (.int a2)]) (st' := [.ref a0]) (h' := h) 1 (fun n => rfl) ?_
    obtain ⟨x1, e, hw⟩ := hw
    refine zT_st (pc' := 11) (L' := [some (.ref a0), some (.int a1), some (.int a2)]) (st' := [.int x1]) (h' := h) 1 (fun n => fld_eq (E := E) e _) ?_
    refine zT_st (pc' := 14) (L' := [some (.ref a0), some (.int a1), some (.int a2)]) (st' := [.int 700, .int x1]) (h' := h) 1 (fun n => rfl) ?_
    by_cases hc : 700 ≤ x1
    · rw [if_pos hc] at hw
      refine zT_st (pc' := 49) (L' := [some (.ref a0), some (.int a1), some (.int a2)]) (st' := []) (h' := h) 1 (fun n => if_pos hc) ?_
      subst hw
      exact zT_ret 1 rfl
    · rw [if_neg hc] at hw
      refine zT_st (pc' := 17) (L' := [some (.ref a0), some (.int a1), some (.int a2)]) (st' := []) (h' := h) 1 (fun n => if_neg hc) ?_
      refine zT_st (pc' := 18) (L' := [some (.ref a0), some (.int a1), some (.int a2)]) (st' := [.ref a0]) (h' := h) 1 (fun n => rfl) ?_
      obtain ⟨o2, e, hw⟩ := hw
      refine zT_st (pc' := 21) (L' := [some (.ref a0), some (.int a1), some (.int a2)]) (st' := [.ref o2]) (h' := h) 1 (fun n => fld_eq (E := E) e _) ?_
      refine zT_st (pc' := 22) (L' := [some (.ref a0), some (.int a1), some (.int a2)]) (st' := [.ref a0, .ref o2]) (h' := h) 1 (fun n => rfl) ?_
      obtain ⟨x3, e, hw⟩ := hw
      refine zT_st (pc' := 25) (L' := [some (.ref a0), some (.int a1), some (.int a2)]) (st' := [.int x3, .ref o2]) (h' := h) 1 (fun n => fld_eq (E := E) e _) ?_
      refine zT_st (pc' := 32) (L' := [some (.ref a0), some (.int a1), some (.int a2)]) (st' := [.int ((zushr a1 a2) &&& 255), .int x3, .ref o2]) (h' := h) 5 (fun n => rfl) ?_
      obtain ⟨n4, f5, e, hi, hw⟩ := hw
      refine zT_st (pc' := 33) (L' := [some (.ref a0), some (.int a1), some (.int a2)]) (st' := []) (h' := (setA h o2 n4 (upd f5 (x3).toNatClampNeg ((zushr a1 a2) &&& 255)))) 1 (fun n => set_eq e hi _ _) ?_
      refine zT_st (pc' := 35) (L' := [some (.ref a0), some (.int a1), some (.int a2)]) (st' := [.ref a0, .ref a0]) (h' := (setA h o2 n4 (upd f5 (x3).toNatClampNeg ((zushr a1 a2) &&& 255)))) 2 (fun n => rfl) ?_
      obtain ⟨x6, e, hw⟩ := hw
      refine zT_st (pc' := 38) (L' := [some (.ref a0), some (.int a1), some (.int a2)]) (st' := [.int x6, .ref a0]) (h' := (setA h o2 n4 (upd f5 (x3).toNatClampNeg ((zushr a1 a2) &&& 255)))) 1 (fun n => fld_eq (E := E) e _) ?_
      refine zT_st (pc' := 40) (L' := [some (.ref a0), some (.int a1), some (.int a2)]) (st' := [.int (x6 + 1), .ref a0]) (h' := (setA h o2 n4 (upd f5 (x3).toNatClampNeg ((zushr a1 a2) &&& 255)))) 2 (fun n => rfl) ?_
      obtain ⟨⟨w, e⟩, hw⟩ := hw
      refine zT_st (pc' := 43) (L' := [some (.ref a0), some (.int a1), some (.int a2)]) (st' := []) (h' := (setF (setA h o2 n4 (upd f5 (x3).toNatClampNeg ((zushr a1 a2) &&& 255))) a0 1 (.int (x6 + 1)))) 1 (fun n => put_eq e rfl _ _) ?_
      exact zT_st 2 (fun n => rfl) hw
set_option maxRecDepth 4000 in
theorem s_x_fault_0 (E : zX) (d : Nat) (a0 : Nat) (h : zH) (r : zO × zH)
    (hw : ∃ x1 : Int32, fld h a0 11 2 = some (.int x1) ∧
    r = (.inl (some (.int x1)), h)) :
    zT E d m_x_fault 0 [some (.ref a0)] [] h r := by
  refine zT_st (pc' := 1) (L' := [some (.ref a0)]) (st' := [.ref a0]) (h' := h) 1 (fun n => rfl) ?_
  obtain ⟨x1, e, hw⟩ := hw
  refine zT_st (pc' := 4) (L' := [some (.ref a0)]) (st' := [.int x1]) (h' := h) 1 (fun n => fld_eq (E := E) e _) ?_
  subst hw
  exact zT_ret 1 rfl
set_option maxRecDepth 4000 in
theorem s_x_days_0 (E : zX) (d : Nat) (a0 : Nat) (a1 : Int32) (h : zH) (r : zO × zH)
    (hw : if a1 < 1 then (
      isO h a0 11 = true ∧ ∃ (x1 : Int32) (h2 : zH), zT E d m_x_refuse 0 [some (.ref a0), some (.int 1)] [] h (.inl (some (.int x1)), h2) ∧
      r = (.inl (some (.int x1)), h2))
    else (
      if 20 < a1 then (
        isO h a0 11 = true ∧ ∃ (x3 : Int32) (h4 : zH), zT E d m_x_refuse 0 [some (.ref a0), some (.int 1)] [] h (.inl (some (.int x3)), h4) ∧
        r = (.inl (some (.int x3)), h4))
      else (
        ∃ o5 : Nat, fld h a0 11 9 = some (.ref o5) ∧
        isO h o5 10 = true ∧ ∃ (x6 : Int32) (h7 : zH), zT E d m_Scene_day 0 [some (.ref o5)] [] h (.inl (some (.int x6)), h7) ∧
        if (x6 + a1) ≤ 9999 then (
          ∃ o8 : Nat, fld h7 a0 11 6 = some (.ref o8) ∧
          isO h7 o8 0 = true ∧ ∃ (h10 : zH), zT E d m_Book_keepAct 0 [some (.ref o8)] [] h7 (.inl none, h10) ∧
          zT E (d + 1) m_x_days 41 [some (.ref a0), some (.int a1), some (.int 0)] [] h10 r)
        else (
          isO h7 a0 11 = true ∧ ∃ (x11 : Int32) (h12 : zH), zT E d m_x_refuse 0 [some (.ref a0), some (.int 1)] [] h7 (.inl (some (.int x11)), h12) ∧
          r = (.inl (some (.int x11)), h12))))) :
    zT E (d + 1) m_x_days 0 [some (.ref a0), some (.int a1), none] [] h r := by
  refine zT_st (pc' := 2) (L' := [some (.ref a0), some (.int a1), none]) (st' := [.int 1, .int a1]) (h' := h) 2 (fun n => rfl) ?_
  by_cases hc : a1 < 1
  · rw [if_pos hc] at hw
    refine zT_st (pc' := 26) (L' := [some (.ref a0), some (.int a1), none]) (st' := []) (h' := h) 1 (fun n => if_pos hc) ?_
    refine zT_st (pc' := 28) (L' := [some (.ref a0), some (.int a1), none]) (st' := [.int 1, .ref a0]) (h' := h) 2 (fun n => rfl) ?_
    obtain ⟨hq, hw⟩ := hw
    obtain ⟨x1, h2, hx, hw⟩ := hw
    refine zT_call (pc' := 31) (rest := []) 1 (fun n => rfl) hq hx ?_
    show zT E (d + 1) m_x_days 31 [some (.ref a0), some (.int a1), none] [.int x1] h2 r
    subst hw
    exact zT_ret 1 rfl
  · rw [if_neg hc] at hw
    refine zT_st (pc' := 5) (L' := [some (.ref a0), some (.int a1), none]) (st' := []) (h' := h) 1 (fun n => if_neg hc) ?_
    refine zT_st (pc' := 8) (L' := [some (.ref a0), some (.int a1), none]) (st' := [.int 20, .int a1]) (h' := h) 2 (fun n => rfl) ?_
    by_cases hc : 20 < a1
    · rw [if_pos hc] at hw
      refine zT_st (pc' := 26) (L' := [some (.ref a0), some (.int a1), none]) (st' := []) (h' := h) 1 (fun n => if_pos hc) ?_
      refine zT_st (pc' := 28) (L' := [some (.ref a0), some (.int a1), none]) (st' := [.int 1, .ref a0]) (h' := h) 2 (fun n => rfl) ?_
      obtain ⟨hq, hw⟩ := hw
      obtain ⟨x3, h4, hx, hw⟩ := hw
      refine zT_call (pc' := 31) (rest := []) 1 (fun n => rfl) hq hx ?_
      show zT E (d + 1) m_x_days 31 [some (.ref a0), some (.int a1), none] [.int x3] h4 r
      subst hw
      exact zT_ret 1 rfl
    · rw [if_neg hc] at hw
      refine zT_st (pc' := 11) (L' := [some (.ref a0), some (.int a1), none]) (st' := []) (h' := h) 1 (fun n => if_neg hc) ?_
      refine zT_st (pc' := 12) (L' := [some (.ref a0), some (.int a1), none]) (st' := [.ref a0]) (h' := h) 1 (fun n => rfl) ?_
      obtain ⟨o5, e, hw⟩ := hw
      refine zT_st (pc' := 15) (L' := [some (.ref a0), some (.int a1), none]) (st' := [.ref o5]) (h' := h) 1 (fun n => fld_eq (E := E) e _) ?_
      obtain ⟨hq, hw⟩ := hw
      obtain ⟨x6, h7, hx, hw⟩ := hw
      refine zT_call (pc' := 18) (rest := []) 1 (fun n => rfl) hq hx ?_
      show zT E (d + 1) m_x_days 18 [some (.ref a0), some (.int a1), none] [.int x6] h7 r
      refine zT_st (pc' := 23) (L' := [some (.ref a0), some (.int a1), none]) (st' := [.int 9999, .int (x6 + a1)]) (h' := h7) 3 (fun n => rfl) ?_
      by_cases hc : (x6 + a1) ≤ 9999
      · rw [if_pos hc] at hw
        refine zT_st (pc' := 32) (L' := [some (.ref a0), some (.int a1), none]) (st' := []) (h' := h7) 1 (fun n => if_pos hc) ?_
        refine zT_st (pc' := 33) (L' := [some (.ref a0), some (.int a1), none]) (st' := [.ref a0]) (h' := h7) 1 (fun n => rfl) ?_
        obtain ⟨o8, e, hw⟩ := hw
        refine zT_st (pc' := 36) (L' := [some (.ref a0), some (.int a1), none]) (st' := [.ref o8]) (h' := h7) 1 (fun n => fld_eq (E := E) e _) ?_
        obtain ⟨hq, hw⟩ := hw
        obtain ⟨h10, hx, hw⟩ := hw
        refine zT_call (pc' := 39) (rest := []) 1 (fun n => rfl) hq hx ?_
        show zT E (d + 1) m_x_days 39 [some (.ref a0), some (.int a1), none] [] h10 r
        exact zT_st 2 (fun n => rfl) hw
      · rw [if_neg hc] at hw
        refine zT_st (pc' := 26) (L' := [some (.ref a0), some (.int a1), none]) (st' := []) (h' := h7) 1 (fun n => if_neg hc) ?_
        refine zT_st (pc' := 28) (L' := [some (.ref a0), some (.int a1), none]) (st' := [.int 1, .ref a0]) (h' := h7) 2 (fun n => rfl) ?_
        obtain ⟨hq, hw⟩ := hw
        obtain ⟨x11, h12, hx, hw⟩ := hw
        refine zT_call (pc' := 31) (rest := []) 1 (fun n => rfl) hq hx ?_
        show zT E (d + 1) m_x_days 31 [some (.ref a0), some (.int a1), none] [.int x11] h12 r
        subst hw
        exact zT_ret 1 rfl
set_option maxRecDepth 4000 in
theorem s_x_days_41 (E : zX) (d : Nat) (a0 : Nat) (a1 : Int32) (a2 : Int32) (h : zH) (r : zO × zH)
    (hw : if a1 ≤ a2 then (
      ∃ o1 : Nat, fld h a0 11 9 = some (.ref o1) ∧
      isO h o1 10 = true ∧ ∃ (x2 : Int32) (h3 : zH), zT E d m_Scene_day 0 [some (.ref o1)] [] h (.inl (some (.int x2)), h3) ∧
      r = (.inl (some (.int x2)), h3))
    else (
      ∃ o4 : Nat, fld h a0 11 10 = some (.ref o4) ∧
      ∃ o5 : Nat, fld h a0 11 9 = some (.ref o5) ∧
      isO h o4 2 = true ∧ ∃ (h7 : zH), zT E d m_Downs_passDay 0 [some (.ref o4), some (.ref o5), none] [] h (.inl none, h7) ∧
      zT E (d + 1) m_x_days 41 [some (.ref a0), some (.int a1), some (.int (a2 + 1))] [] h7 r)) :
    zT E (d + 1) m_x_days 41 [some (.ref a0), some (.int a1), some (.int a2)] [] h r := by
  refine zT_st (pc' := 43) (L' := [some (.ref a0), some (.int a1), some (.int a2)]) (st' := [.int a1, .int a2]) (h' := h) 2 (fun n => rfl) ?_
  by_cases hc : a1 ≤ a2
  · rw [if_pos hc] at hw
    refine zT_st (pc' := 63) (L' := [some (.ref a0), some (.int a1), some (.int a2)]) (st' := []) (h' := h) 1 (fun n => if_pos hc) ?_
    refine zT_st (pc' := 64) (L' := [some (.ref a0), some (.int a1), some (.int a2)]) (st' := [.ref a0]) (h' := h) 1 (fun n => rfl) ?_
    obtain ⟨o1, e, hw⟩ := hw
    refine zT_st (pc' := 67) (L' := [some (.ref a0), some (.int a1), some (.int a2)]) (st' := [.ref o1]) (h' := h) 1 (fun n => fld_eq (E := E) e _) ?_
    obtain ⟨hq, hw⟩ := hw
    obtain ⟨x2, h3, hx, hw⟩ := hw
    refine zT_call (pc' := 70) (rest := []) 1 (fun n => rfl) hq hx ?_
    show zT E (d + 1) m_x_days 70 [some (.ref a0), some (.int a1), some (.int a2)] [.int x2] h3 r
    subst hw
    exact zT_ret 1 rfl
  · rw [if_neg hc] at hw
    refine zT_st (pc' := 46) (L' := [some (.ref a0), some (.int a1), some (.int a2)]) (st' := []) (h' := h) 1 (fun n => if_neg hc) ?_
    refine zT_st (pc' := 47) (L' := [some (.ref a0), some (.int a1), some (.int a2)]) (st' := [.ref a0]) (h' := h) 1 (fun n => rfl) ?_
    obtain ⟨o4, e, hw⟩ := hw
    refine zT_st (pc' := 50) (L' := [some (.ref a0), some (.int a1), some (.int a2)]) (st' := [.ref o4]) (h' := h) 1 (fun n => fld_eq (E := E) e _) ?_
    refine zT_st (pc' := 51) (L' := [some (.ref a0), some (.int a1), some (.int a2)]) (st' := [.ref a0, .ref o4]) (h' := h) 1 (fun n => rfl) ?_
    obtain ⟨o5, e, hw⟩ := hw
    refine zT_st (pc' := 54) (L' := [some (.ref a0), some (.int a1), some (.int a2)]) (st' := [.ref o5, .ref o4]) (h' := h) 1 (fun n => fld_eq (E := E) e _) ?_
    obtain ⟨hq, hw⟩ := hw
    obtain ⟨h7, hx, hw⟩ := hw
    refine zT_call (pc' := 57) (rest := []) 1 (fun n => rfl) hq hx ?_
    show zT E (d + 1) m_x_days 57 [some (.ref a0), some (.int a1), some (.int a2)] [] h7 r
    exact zT_st 2 (fun n => rfl) hw
set_option maxRecDepth 4000 in
theorem s_x_refuse_0 (E : zX) (d : Nat) (a0 : Nat) (a1 : Int32) (h : zH) (r : zO × zH)
    (hw : ∃ o1 : Nat, fld h a0 11 3 = some (.ref o1) ∧
    ∃ (n2 : Nat) (f3 : Nat → Int32), arr h o1 = some (n2, f3) ∧ ¬ (a1 < 0 ∨ n2 ≤ (a1).toNatClampNeg) ∧
    ∃ (n4 : Nat) (f5 : Nat → Int32), arr h o1 = some (n4, f5) ∧ ¬ (a1 < 0 ∨ n4 ≤ (a1).toNatClampNeg) ∧
    r = (.inl (some (.int (-1))), (setA h o1 n4 (upd f5 (a1).toNatClampNeg ((f3 (a1).toNatClampNeg) + 1))))) :
    zT E d m_x_refuse 0 [some (.ref a0), some (.int a1)] [] h r := by
  refine zT_st (pc' := 1) (L' := [some (.ref a0), some (.int a1)]) (st' := [.ref a0]) (h' := h) 1 (fun n => rfl) ?_
  obtain ⟨o1, e, hw⟩ := hw
  refine zT_st (pc' := 4) (L' := [some (.ref a0), some (.int a1)]) (st' := [.ref o1]) (h' := h) 1 (fun n => fld_eq (E := E) e _) ?_
  refine zT_st (pc' := 6) (L' := [some (.ref a0), some (.int a1)]) (st' := [.int a1, .ref o1, .int a1, .ref o1]) (h' := h) 2 (fun n => rfl) ?_
  obtain ⟨n2, f3, e, hi, hw⟩ := hw
  refine zT_st (pc' := 7) (L' := [some (.ref a0), some (.int a1)]) (st' := [.int (f3 (a1).toNatClampNeg), .int a1, .ref o1]) (h' := h) 1 (fun n => arr_eq (E := E) e hi [.int a1, .ref o1] (fun st => zrun zP zCd E n d m_x_refuse 7 [some (.ref a0), some (.int a1)] st h)) ?_
  refine zT_st (pc' := 9) (L' := [some (.ref a0), some (.int a1)]) (st' := [.int ((f3 (a1).toNatClampNeg) + 1), .int a1, .ref o1]) (h' := h) 2 (fun n => rfl) ?_
  obtain ⟨n4, f5, e, hi, hw⟩ := hw
  refine zT_st (pc' := 10) (L' := [some (.ref a0), some (.int a1)]) (st' := []) (h' := (setA h o1 n4 (upd f5 (a1).toNatClampNeg ((f3 (a1).toNatClampNeg) + 1)))) 1 (fun n => set_eq e hi _ _) ?_
  subst hw
  exact zT_ret 2 rfl
set_option maxRecDepth 4000 in
theorem s_x_undo_0 (E : zX) (d : Nat) (a0 : Nat) (h : zH) (r : zO × zH)
    (hw : ∃ o1 : Nat, fld h a0 11 6 = some (.ref o1) ∧
    ∃ x2 : Int32, fld h o1 0 1 = some (.int x2) ∧
    if x2 = 0 then (
      r = (.inl (some (.int (-1))), h))
    else (
      ∃ o3 : Nat, fld h a0 11 6 = some (.ref o3) ∧
      isO h o3 0 = true ∧ ∃ (h5 : zH), zT E d m_Book_takeBackAct 0 [some (.ref o3)] [] h (.inl none, h5) ∧
      ∃ o6 : Nat, fld h5 a0 11 6 = some (.ref o6) ∧
      ∃ x7 : Int32, fld h5 o6 0 1 = some (.int x7) ∧
      r = (.inl (some (.int x7)), h5))) :
    zT E (d + 1) m_x_undo 0 [some (.ref a0)] [] h r := by
  refine zT_st (pc' := 1) (L' := [some (.ref a0)]) (st' := [.ref a0]) (h' := h) 1 (fun n => rfl) ?_
  obtain ⟨o1, e, hw⟩ := hw
  refine zT_st (pc' := 4) (L' := [some (.ref a0)]) (st' := [.ref o1]) (h' := h) 1 (fun n => fld_eq (E := E) e _) ?_
  obtain ⟨x2, e, hw⟩ := hw
  refine zT_st (pc' := 7) (L' := [some (.ref a0)]) (st' := [.int x2]) (h' := h) 1 (fun n => fld_eq (E := E) e _) ?_
  by_cases hc : x2 = 0
  · rw [if_pos hc] at hw
    refine zT_st (pc' := 10) (L' := [some (.ref a0)]) (st' := []) (h' := h) 1 (fun n => if_pos hc) ?_
    subst hw
    exact zT_ret 2 rfl
  · rw [if_neg hc] at hw
    refine zT_st (pc' := 12) (L' := [some (.ref a0)]) (st' := []) (h' := h) 1 (fun n => if_neg hc) ?_
    refine zT_st (pc' := 13) (L' := [some (.ref a0)]) (st' := [.ref a0]) (h' := h) 1 (fun n => rfl) ?_
    obtain ⟨o3, e, hw⟩ := hw
    refine zT_st (pc' := 16) (L' := [some (.ref a0)]) (st' := [.ref o3]) (h' := h) 1 (fun n => fld_eq (E := E) e _) ?_
    obtain ⟨hq, hw⟩ := hw
    obtain ⟨h5, hx, hw⟩ := hw
    refine zT_call (pc' := 19) (rest := []) 1 (fun n => rfl) hq hx ?_
    show zT E (d + 1) m_x_undo 19 [some (.ref a0)] [] h5 r
    refine zT_st (pc' := 20) (L' := [some (.ref a0)]) (st' := [.ref a0]) (h' := h5) 1 (fun n => rfl) ?_
    obtain ⟨o6, e, hw⟩ := hw
    refine zT_st (pc' := 23) (L' := [some (.ref a0)]) (st' := [.ref o6]) (h' := h5) 1 (fun n => fld_eq (E := E) e _) ?_
    obtain ⟨x7, e, hw⟩ := hw
    refine zT_st (pc' := 26) (L' := [some (.ref a0)]) (st' := [.int x7]) (h' := h5) 1 (fun n => fld_eq (E := E) e _) ?_
    subst hw
    exact zT_ret 1 rfl
set_option maxRecDepth 4000 in
theorem s_x_first_0 (E : zX) (d : Nat) (a0 : Nat) (h : zH) (r : zO × zH)
    (hw : ∃ o1 : Nat, fld h a0 11 11 = some (.ref o1) ∧
    isO h o1 3 = true ∧ ∃ (x2 : Int32) (h3 : zH), zT E d m_Forecast_firstToBurst 0 [some (.ref o1), none] [] h (.inl (some (.int x2)), h3) ∧
    r = (.inl (some (.int x2)), h3)) :
    zT E (d + 1) m_x_first 0 [some (.ref a0)] [] h r := by
  refine zT_st (pc' := 1) (L' := [some (.ref a0)]) (st' := [.ref a0]) (h' := h) 1 (fun n => rfl) ?_
  obtain ⟨o1, e, hw⟩ := hw
  refine zT_st (pc' := 4) (L' := [some (.ref a0)]) (st' := [.ref o1]) (h' := h) 1 (fun n => fld_eq (E := E) e _) ?_
  obtain ⟨hq, hw⟩ := hw
  obtain ⟨x2, h3, hx, hw⟩ := hw
  refine zT_call (pc' := 7) (rest := []) 1 (fun n => rfl) hq hx ?_
  show zT E (d + 1) m_x_first 7 [some (.ref a0)] [.int x2] h3 r
  subst hw
  exact zT_ret 1 rfl
set_option maxRecDepth 4000 in
theorem s_x_forget_0 (E : zX) (d : Nat) (a0 : Nat) (h : zH) (r : zO × zH)
    (hw : ∃ o1 : Nat, fld h a0 11 6 = some (.ref o1) ∧
    (∃ w, fld h o1 0 3 = some w) ∧
    r = (.inl (none), (setF h o1 3 (.int 0)))) :
    zT E d m_x_forget 0 [some (.ref a0)] [] h r := by
  refine zT_st (pc' := 1) (L' := [some (.ref a0)]) (st' := [.ref a0]) (h' := h) 1 (fun n => rfl) ?_
  obtain ⟨o1, e, hw⟩ := hw
  refine zT_st (pc' := 4) (L' := [some (.ref a0)]) (st' := [.ref o1]) (h' := h) 1 (fun n => fld_eq (E := E) e _) ?_
  refine zT_st (pc' := 5) (L' := [some (.ref a0)]) (st' := [.int 0, .ref o1]) (h' := h) 1 (fun n => rfl) ?_
  obtain ⟨⟨w, e⟩, hw⟩ := hw
  refine zT_st (pc' := 8) (L' := [some (.ref a0)]) (st' := []) (h' := (setF h o1 3 (.int 0))) 1 (fun n => put_eq e rfl _ _) ?_
  subst hw
  exact zT_ret 1 rfl
set_option maxRecDepth 4000 in
theorem s_x_image_0 (E : zX) (d : Nat) (a0 : Nat) (h : zH) (r : zO × zH)
    (hw : ∃ o1 : Nat, fld h a0 11 7 = some (.ref o1) ∧
    ∃ o2 : Nat, fld h a0 11 6 = some (.ref o2) ∧
    isO h o1 0 = true ∧ ∃ (h4 : zH), zT E d m_Book_copyFrom 0 [some (.ref o1), some (.ref o2)] [] h (.inl none, h4) ∧
    (∃ w, fld h4 a0 11 8 = some w) ∧
    r = (.inl (none), (setF h4 a0 8 (.int 1)))) :
    zT E (d + 1) m_x_image 0 [some (.ref a0)] [] h r := by
  refine zT_st (pc' := 1) (L' := [some (.ref a0)]) (st' := [.ref a0]) (h' := h) 1 (fun n => rfl) ?_
  obtain ⟨o1, e, hw⟩ := hw
  refine zT_st (pc' := 4) (L' := [some (.ref a0)]) (st' := [.ref o1]) (h' := h) 1 (fun n => fld_eq (E := E) e _) ?_
  refine zT_st (pc' := 5) (L' := [some (.ref a0)]) (st' := [.ref a0, .ref o1]) (h' := h) 1 (fun n => rfl) ?_
  obtain ⟨o2, e, hw⟩ := hw
  refine zT_st (pc' := 8) (L' := [some (.ref a0)]) (st' := [.ref o2, .ref o1]) (h' := h) 1 (fun n => fld_eq (E := E) e _) ?_
  obtain ⟨hq, hw⟩ := hw
  obtain ⟨h4, hx, hw⟩ := hw
  refine zT_call (pc' := 11) (rest := []) 1 (fun n => rfl) hq hx ?_
  show zT E (d + 1) m_x_image 11 [some (.ref a0)] [] h4 r
  refine zT_st (pc' := 13) (L' := [some (.ref a0)]) (st' := [.int 1, .ref a0]) (h' := h4) 2 (fun n => rfl) ?_
  obtain ⟨⟨w, e⟩, hw⟩ := hw
  refine zT_st (pc' := 16) (L' := [some (.ref a0)]) (st' := []) (h' := (setF h4 a0 8 (.int 1))) 1 (fun n => put_eq e rfl _ _) ?_
  subst hw
  exact zT_ret 1 rfl
set_option maxRecDepth 4000 in
theorem s_x_restore_0 (E : zX) (d : Nat) (a0 : Nat) (h : zH) (r : zO × zH)
    (hw : ∃ x1 : Int32, fld h a0 11 8 = some (.int x1) ∧
    if x1 = 0 then (
      r = (.inl (some (.int 0)), h))
    else (
      ∃ o2 : Nat, fld h a0 11 6 = some (.ref o2) ∧
      ∃ o3 : Nat, fld h a0 11 7 = some (.ref o3) ∧
      isO h o2 0 = true ∧ ∃ (h5 : zH), zT E d m_Book_copyFrom 0 [some (.ref o2), some (.ref o3)] [] h (.inl none, h5) ∧
      r = (.inl (some (.int 1)), h5))) :
    zT E (d + 1) m_x_restore 0 [some (.ref a0)] [] h r := by
  refine zT_st (pc' := 1) (L' := [some (.ref a0)]) (st' := [.ref a0]) (h' := h) 1 (fun n => rfl) ?_
  obtain ⟨x1, e, hw⟩ := hw
  refine zT_st (pc' := 4) (L' := [some (.ref a0)]) (st' := [.int x1]) (h' := h) 1 (fun n => fld_eq (E := E) e _) ?_
  by_cases hc : x1 = 0
  · rw [if_pos hc] at hw
    refine zT_st (pc' := 7) (L' := [some (.ref a0)]) (st' := []) (h' := h) 1 (fun n => if_pos hc) ?_
    subst hw
    exact zT_ret 2 rfl
  · rw [if_neg hc] at hw
    refine zT_st (pc' := 9) (L' := [some (.ref a0)]) (st' := []) (h' := h) 1 (fun n => if_neg hc) ?_
    refine zT_st (pc' := 10) (L' := [some (.ref a0)]) (st' := [.ref a0]) (h' := h) 1 (fun n => rfl) ?_
    obtain ⟨o2, e, hw⟩ := hw
    refine zT_st (pc' := 13) (L' := [some (.ref a0)]) (st' := [.ref o2]) (h' := h) 1 (fun n => fld_eq (E := E) e _) ?_
    refine zT_st (pc' := 14) (L' := [some (.ref a0)]) (st' := [.ref a0, .ref o2]) (h' := h) 1 (fun n => rfl) ?_
    obtain ⟨o3, e, hw⟩ := hw
    refine zT_st (pc' := 17) (L' := [some (.ref a0)]) (st' := [.ref o3, .ref o2]) (h' := h) 1 (fun n => fld_eq (E := E) e _) ?_
    obtain ⟨hq, hw⟩ := hw
    obtain ⟨h5, hx, hw⟩ := hw
    refine zT_call (pc' := 20) (rest := []) 1 (fun n => rfl) hq hx ?_
    show zT E (d + 1) m_x_restore 20 [some (.ref a0)] [] h5 r
    subst hw
    exact zT_ret 2 rfl
set_option maxRecDepth 4000 in
theorem s_x_county_0 (E : zX) (d : Nat) (a0 : Nat) (a1 : Int32) (h : zH) (r : zO × zH)
    (hw : if a1 < 0 then (
      r = (.inr 1, (h.1, h.2 + 1)))
    else (
      ∃ x1 : Int32, fld h a0 11 1 = some (.int x1) ∧
      if a1 ≤ x1 then (
        (∃ w, fld h a0 11 1 = some w) ∧
        ∃ o2 : Nat, fld (setF h a0 1 (.int 0)) a0 11 5 = some (.ref o2) ∧
        isO (setF h a0 1 (.int 0)) o2 8 = true ∧ ∃ (x3 : Int32) (h4 : zH), zT E (d + 7) m_Reader_readText 0 [some (.ref o2), some (.int a1), none] [] (setF h a0 1 (.int 0)) (.inl (some (.int x3)), h4) ∧
        if x3 = 0 then (
          (∃ w, fld h4 a0 11 2 = some w) ∧
          ∃ o5 : Nat, fld (setF h4 a0 2 (.int (-1))) a0 11 4 = some (.ref o5) ∧
          ∃ o6 : Nat, fld (setF h4 a0 2 (.int (-1))) a0 11 5 = some (.ref o6) ∧
          ∃ o7 : Nat, fld (setF h4 a0 2 (.int (-1))) o6 8 0 = some (.ref o7) ∧
          isO (setF h4 a0 2 (.int (-1))) o5 5 = true ∧ ∃ (h9 : zH), zT E (d + 7) m_Land_copyFrom 0 [some (.ref o5), some (.ref o7)] [] (setF h4 a0 2 (.int (-1))) (.inl none, h9) ∧
          ∃ o10 : Nat, fld h9 a0 11 6 = some (.ref o10) ∧
          ∃ o11 : Nat, fld h9 a0 11 5 = some (.ref o11) ∧
          ∃ o12 : Nat, fld h9 o11 8 1 = some (.ref o12) ∧
          isO h9 o10 0 = true ∧ ∃ (h14 : zH), zT E (d + 7) m_Book_begin 0 [some (.ref o10), some (.ref o12)] [] h9 (.inl none, h14) ∧
          (∃ w, fld h14 a0 11 8 = some w) ∧
          r = (.inl (some (.int 0)), (setF h14 a0 8 (.int 0))))
        else (
          ∃ o15 : Nat, fld h4 a0 11 3 = some (.ref o15) ∧
          ∃ (n16 : Nat) (f17 : Nat → Int32), arr h4 o15 = some (n16, f17) ∧ ¬ ((0 : Int32) < 0 ∨ n16 ≤ ((0 : Int32)).toNatClampNeg) ∧
          ∃ (n18 : Nat) (f19 : Nat → Int32), arr h4 o15 = some (n18, f19) ∧ ¬ ((0 : Int32) < 0 ∨ n18 ≤ ((0 : Int32)).toNatClampNeg) ∧
          ∃ o20 : Nat, fld (setA h4 o15 n18 (upd f19 ((0 : Int32)).toNatClampNeg ((f17 ((0 : Int32)).toNatClampNeg) + 1))) a0 11 5 = some (.ref o20) ∧
          ∃ x21 : Int32, fld (setA h4 o15 n18 (upd f19 ((0 : Int32)).toNatClampNeg ((f17 ((0 : Int32)).toNatClampNeg) + 1))) o20 8 2 = some (.int x21) ∧
          (∃ w, fld (setA h4 o15 n18 (upd f19 ((0 : Int32)).toNatClampNeg ((f17 ((0 : Int32)).toNatClampNeg) + 1))) a0 11 2 = some w) ∧
          r = (.inl (some (.int x3)), (setF (setA h4 o15 n18 (upd f19 ((0 : Int32)).toNatClampNeg ((f17 ((0 : Int32)).toNatClampNeg) + 1))) a0 2 (.int x21)))))
      else (
        r = (.inr 1, (h.1, h.2 + 1))))) :
    zT E (d + 8) m_x_county 0 [some (.ref a0), some (.int a1), none] [] h r := by
  refine zT_st (pc' := 1) (L' := [some (.ref a0), some (.int a1), none]) (st' := [.int a1]) (h' := h) 1 (fun n => rfl) ?_
  by_cases hc : a1 < 0
  · rw [if_pos hc] at hw
    refine zT_st (pc' := 12) (L' := [some (.ref a0), some (.int a1), none]) (st' := []) (h' := h) 1 (fun n => if_pos hc) ?_
    subst hw
    exact zT_ret 1 rfl
  · rw [if_neg hc] at hw
    refine zT_st (pc' := 4) (L' := [some (.ref a0), some (.int a1), none]) (st' := []) (h' := h) 1 (fun n => if_neg hc) ?_
    refine zT_st (pc' := 6) (L' := [some (.ref a0), some (.int a1), none]) (st' := [.ref a0, .int a1]) (h' := h) 2 (fun n => rfl) ?_
    obtain ⟨x1, e, hw⟩ := hw
    refine zT_st (pc' := 9) (L' := [some (.ref a0), some (.int a1), none]) (st' := [.int x1, .int a1]) (h' := h) 1 (fun n => fld_eq (E := E) e _) ?_
    by_cases hc : a1 ≤ x1
    · rw [if_pos hc] at hw
      refine zT_st (pc' := 22) (L' := [some (.ref a0), some (.int a1), none]) (st' := []) (h' := h) 1 (fun n => if_pos hc) ?_
      refine zT_st (pc' := 24) (L' := [some (.ref a0), some (.int a1), none]) (st' := [.int 0, .ref a0]) (h' := h) 2 (fun n => rfl) ?_
      obtain ⟨⟨w, e⟩, hw⟩ := hw
      refine zT_st (pc' := 27) (L' := [some (.ref a0), some (.int a1), none]) (st' := []) (h' := (setF h a0 1 (.int 0))) 1 (fun n => put_eq e rfl _ _) ?_
      refine zT_st (pc' := 28) (L' := [some (.ref a0), some (.int a1), none]) (st' := [.ref a0]) (h' := (setF h a0 1 (.int 0))) 1 (fun n => rfl) ?_
      obtain ⟨o2, e, hw⟩ := hw
      refine zT_st (pc' := 31) (L' := [some (.ref a0), some (.int a1), none]) (st' := [.ref o2]) (h' := (setF h a0 1 (.int 0))) 1 (fun n => fld_eq (E := E) e _) ?_
      refine zT_st (pc' := 32) (L' := [some (.ref a0), some (.int a1), none]) (st' := [.int a1, .ref o2]) (h' := (setF h a0 1 (.int 0))) 1 (fun n => rfl) ?_
      obtain ⟨hq, hw⟩ := hw
      obtain ⟨x3, h4, hx, hw⟩ := hw
      refine zT_call (pc' := 35) (rest := []) 1 (fun n => rfl) hq hx ?_
      show zT E (d + 8) m_x_county 35 [some (.ref a0), some (.int a1), none] [.int x3] h4 r
      refine zT_st (pc' := 37) (L' := [some (.ref a0), some (.int a1), some (.int x3)]) (st' := [.int x3]) (h' := h4) 2 (fun n => rfl) ?_
      by_cases hc : x3 = 0
      · rw [if_pos hc] at hw
        refine zT_st (pc' := 63) (L' := [some (.ref a0), some (.int a1), some (.int x3)]) (st' := []) (h' := h4) 1 (fun n => if_pos hc) ?_
        refine zT_st (pc' := 65) (L' := [some (.ref a0), some (.int a1), some (.int x3)]) (st' := [.int (-1), .ref a0]) (h' := h4) 2 (fun n => rfl) ?_
        obtain ⟨⟨w, e⟩, hw⟩ := hw
        refine zT_st (pc' := 68) (L' := [some (.ref a0), some (.int a1), some (.int x3)]) (st' := []) (h' := (setF h4 a0 2 (.int (-1)))) 1 (fun n => put_eq e rfl _ _) ?_
        refine zT_st (pc' := 69) (L' := [some (.ref a0), some (.int a1), some (.int x3)]) (st' := [.ref a0]) (h' := (setF h4 a0 2 (.int (-1)))) 1 (fun n => rfl) ?_
        obtain ⟨o5, e, hw⟩ := hw
        refine zT_st (pc' := 72) (L' := [some (.ref a0), some (.int a1), some (.int x3)]) (st' := [.ref o5]) (h' := (setF h4 a0 2 (.int (-1)))) 1 (fun n => fld_eq (E := E) e _) ?_
        refine zT_st (pc' := 73) (L' := [some (.ref a0), some (.int a1), some (.int x3)]) (st' := [.ref a0, .ref o5]) (h' := (setF h4 a0 2 (.int (-1)))) 1 (fun n => rfl) ?_
        obtain ⟨o6, e, hw⟩ := hw
        refine zT_st (pc' := 76) (L' := [some (.ref a0), some (.int a1), some (.int x3)]) (st' := [.ref o6, .ref o5]) (h' := (setF h4 a0 2 (.int (-1)))) 1 (fun n => fld_eq (E := E) e _) ?_
        obtain ⟨o7, e, hw⟩ := hw
        refine zT_st (pc' := 79) (L' := [some (.ref a0), some (.int a1), some (.int x3)]) (st' := [.ref o7, .ref o5]) (h' := (setF h4 a0 2 (.int (-1)))) 1 (fun n => fld_eq (E := E) e _) ?_
        obtain ⟨hq, hw⟩ := hw
        obtain ⟨h9, hx, hw⟩ := hw
        refine zT_call (pc' := 82) (rest := []) 1 (fun n => rfl) hq hx ?_
        show zT E (d + 8) m_x_county 82 [some (.ref a0), some (.int a1), some (.int x3)] [] h9 r
        refine zT_st (pc' := 83) (L' := [some (.ref a0), some (.int a1), some (.int x3)]) (st' := [.ref a0]) (h' := h9) 1 (fun n => rfl) ?_
        obtain ⟨o10, e, hw⟩ := hw
        refine zT_st (pc' := 86) (L' := [some (.ref a0), some (.int a1), some (.int x3)]) (st' := [.ref o10]) (h' := h9) 1 (fun n => fld_eq (E := E) e _) ?_
        refine zT_st (pc' := 87) (L' := [some (.ref a0), some (.int a1), some (.int x3)]) (st' := [.ref a0, .ref o10]) (h' := h9) 1 (fun n => rfl) ?_
        obtain ⟨o11, e, hw⟩ := hw
        refine zT_st (pc' := 90) (L' := [some (.ref a0), some (.int a1), some (.int x3)]) (st' := [.ref o11, .ref o10]) (h' := h9) 1 (fun n => fld_eq (E := E) e _) ?_
        obtain ⟨o12, e, hw⟩ := hw
        refine zT_st (pc' := 93) (L' := [some (.ref a0), some (.int a1), some (.int x3)]) (st' := [.ref o12, .ref o10]) (h' := h9) 1 (fun n => fld_eq (E := E) e _) ?_
        obtain ⟨hq, hw⟩ := hw
        obtain ⟨h14, hx, hw⟩ := hw
        refine zT_call (pc' := 96) (rest := []) 1 (fun n => rfl) hq hx ?_
        show zT E (d + 8) m_x_county 96 [some (.ref a0), some (.int a1), some (.int x3)] [] h14 r
        refine zT_st (pc' := 98) (L' := [some (.ref a0), some (.int a1), some (.int x3)]) (st' := [.int 0, .ref a0]) (h' := h14) 2 (fun n => rfl) ?_
        obtain ⟨⟨w, e⟩, hw⟩ := hw
        refine zT_st (pc' := 101) (L' := [some (.ref a0), some (.int a1), some (.int x3)]) (st' := []) (h' := (setF h14 a0 8 (.int 0))) 1 (fun n => put_eq e rfl _ _) ?_
        subst hw
        exact zT_ret 2 rfl
      · rw [if_neg hc] at hw
        refine zT_st (pc' := 40) (L' := [some (.ref a0), some (.int a1), some (.int x3)]) (st' := []) (h' := h4) 1 (fun n => if_neg hc) ?_
        refine zT_st (pc' := 41) (L' := [some (.ref a0), some (.int a1), some (.int x3)]) (st' := [.ref a0]) (h' := h4) 1 (fun n => rfl) ?_
        obtain ⟨o15, e, hw⟩ := hw
        refine zT_st (pc' := 44) (L' := [some (.ref a0), some (.int a1), some (.int x3)]) (st' := [.ref o15]) (h' := h4) 1 (fun n => fld_eq (E := E) e _) ?_
        refine zT_st (pc' := 46) (L' := [some (.ref a0), some (.int a1), some (.int x3)]) (st' := [.int 0, .ref o15, .int 0, .ref o15]) (h' := h4) 2 (fun n => rfl) ?_
        obtain ⟨n16, f17, e, hi, hw⟩ := hw
        refine zT_st (pc' := 47) (L' := [some (.ref a0), some (.int a1), some (.int x3)]) (st' := [.int (f17 ((0 : Int32)).toNatClampNeg), .int 0, .ref o15]) (h' := h4) 1 (fun n => arr_eq (E := E) e hi [.int 0, .ref o15] (fun st => zrun zP zCd E n (d + 8) m_x_county 47 [some (.ref a0), some (.int a1), some (.int x3)] st h4)) ?_
        refine zT_st (pc' := 49) (L' := [some (.ref a0), some (.int a1), some (.int x3)]) (st' := [.int ((f17 ((0 : Int32)).toNatClampNeg) + 1), .int 0, .ref o15]) (h' := h4) 2 (fun n => rfl) ?_
        obtain ⟨n18, f19, e, hi, hw⟩ := hw
        refine zT_st (pc' := 50) (L' := [some (.ref a0), some (.int a1), some (.int x3)]) (st' := []) (h' := (setA h4 o15 n18 (upd f19 ((0 : Int32)).toNatClampNeg ((f17 ((0 : Int32)).toNatClampNeg) + 1)))) 1 (fun n => set_eq e hi _ _) ?_
        refine zT_st (pc' := 52) (L' := [some (.ref a0), some (.int a1), some (.int x3)]) (st' := [.ref a0, .ref a0]) (h' := (setA h4 o15 n18 (upd f19 ((0 : Int32)).toNatClampNeg ((f17 ((0 : Int32)).toNatClampNeg) + 1)))) 2 (fun n => rfl) ?_
        obtain ⟨o20, e, hw⟩ := hw
        refine zT_st (pc' := 55) (L' := [some (.ref a0), some (.int a1), some (.int x3)]) (st' := [.ref o20, .ref a0]) (h' := (setA h4 o15 n18 (upd f19 ((0 : Int32)).toNatClampNeg ((f17 ((0 : Int32)).toNatClampNeg) + 1)))) 1 (fun n => fld_eq (E := E) e _) ?_
        obtain ⟨x21, e, hw⟩ := hw
        refine zT_st (pc' := 58) (L' := [some (.ref a0), some (.int a1), some (.int x3)]) (st' := [.int x21, .ref a0]) (h' := (setA h4 o15 n18 (upd f19 ((0 : Int32)).toNatClampNeg ((f17 ((0 : Int32)).toNatClampNeg) + 1)))) 1 (fun n => fld_eq (E := E) e _) ?_
        obtain ⟨⟨w, e⟩, hw⟩ := hw
        refine zT_st (pc' := 61) (L' := [some (.ref a0), some (.int a1), some (.int x3)]) (st' := []) (h' := (setF (setA h4 o15 n18 (upd f19 ((0 : Int32)).toNatClampNeg ((f17 ((0 : Int32)).toNatClampNeg) + 1))) a0 2 (.int x21))) 1 (fun n => put_eq e rfl _ _) ?_
        subst hw
        exact zT_ret 2 rfl
    · rw [if_neg hc] at hw
      refine zT_st (pc' := 12) (L' := [some (.ref a0), some (.int a1), none]) (st' := []) (h' := h) 1 (fun n => if_neg hc) ?_
      subst hw
      exact zT_ret 1 rfl
set_option maxRecDepth 4000 in
theorem s_x_count_0 (E : zX) (d : Nat) (a0 : Nat) (a1 : Int32) (h : zH) (r : zO × zH)
    (hw : if a1 = 0 then (
      ∃ o1 : Nat, fld h a0 11 4 = some (.ref o1) ∧
      ∃ x2 : Int32, fld h o1 5 3 = some (.int x2) ∧
      r = (.inl (some (.int x2)), h))
    else if a1 = 1 then (
      ∃ o3 : Nat, fld h a0 11 4 = some (.ref o3) ∧
      ∃ x4 : Int32, fld h o3 5 4 = some (.int x4) ∧
      r = (.inl (some (.int x4)), h))
    else if a1 = 2 then (
      ∃ o5 : Nat, fld h a0 11 4 = some (.ref o5) ∧
      ∃ x6 : Int32, fld h o5 5 0 = some (.int x6) ∧
      r = (.inl (some (.int x6)), h))
    else if a1 = 3 then (
      ∃ o7 : Nat, fld h a0 11 4 = some (.ref o7) ∧
      ∃ x8 : Int32, fld h o7 5 1 = some (.int x8) ∧
      r = (.inl (some (.int x8)), h))
    else if a1 = 4 then (
      ∃ o9 : Nat, fld h a0 11 9 = some (.ref o9) ∧
      isO h o9 10 = true ∧ ∃ (x10 : Int32) (h11 : zH), zT E (d + 7) m_Scene_day 0 [some (.ref o9)] [] h (.inl (some (.int x10)), h11) ∧
      r = (.inl (some (.int x10)), h11))
    else if a1 = 5 then (
      ∃ o12 : Nat, fld h a0 11 10 = some (.ref o12) ∧
      ∃ o13 : Nat, fld h a0 11 9 = some (.ref o13) ∧
      isO h o12 2 = true ∧ ∃ (x14 : Int32) (h15 : zH), zT E (d + 7) m_Downs_whites 0 [some (.ref o12), some (.ref o13), none, none] [] h (.inl (some (.int x14)), h15) ∧
      r = (.inl (some (.int x14)), h15))
    else if a1 = 6 then (
      ∃ o16 : Nat, fld h a0 11 9 = some (.ref o16) ∧
      isO h o16 10 = true ∧ ∃ (x17 : Int32) (h18 : zH), zT E (d + 7) m_Scene_guards 0 [some (.ref o16)] [] h (.inl (some (.int x17)), h18) ∧
      r = (.inl (some (.int x17)), h18))
    else if a1 = 7 then (
      ∃ o19 : Nat, fld h a0 11 10 = some (.ref o19) ∧
      ∃ o20 : Nat, fld h a0 11 9 = some (.ref o20) ∧
      isO h o19 2 = true ∧ ∃ (x21 : Int32) (h22 : zH), zT E (d + 7) m_Downs_heldByAll 0 [some (.ref o19), some (.ref o20), none, none] [] h (.inl (some (.int x21)), h22) ∧
      r = (.inl (some (.int x21)), h22))
    else if a1 = 8 then (
      ∃ o23 : Nat, fld h a0 11 10 = some (.ref o23) ∧
      ∃ o24 : Nat, fld h a0 11 9 = some (.ref o24) ∧
      isO h o23 2 = true ∧ ∃ (x25 : Int32) (h26 : zH), zT E (d + 7) m_Downs_temperOfAll 0 [some (.ref o23), some (.ref o24), none, none] [] h (.inl (some (.int x25)), h26) ∧
      r = (.inl (some (.int x25)), h26))
    else if a1 = 9 then (
      ∃ o27 : Nat, fld h a0 11 10 = some (.ref o27) ∧
      ∃ o28 : Nat, fld h a0 11 9 = some (.ref o28) ∧
      isO h o27 2 = true ∧ ∃ (x29 : Int32) (h30 : zH), zT E (d + 7) m_Downs_shoutedByAll 0 [some (.ref o27), some (.ref o28), none, none] [] h (.inl (some (.int x29)), h30) ∧
      r = (.inl (some (.int x29)), h30))
    else if a1 = 10 then (
      ∃ o31 : Nat, fld h a0 11 12 = some (.ref o31) ∧
      isO h o31 6 = true ∧ ∃ (x32 : Int32) (h33 : zH), zT E (d + 7) m_Plans_allAtOnce 0 [some (.ref o31), none, none, none] [] h (.inl (some (.int x32)), h33) ∧
      r = (.inl (some (.int x32)), h33))
    else if a1 = 11 then (
      ∃ o34 : Nat, fld h a0 11 6 = some (.ref o34) ∧
      ∃ x35 : Int32, fld h o34 0 1 = some (.int x35) ∧
      r = (.inl (some (.int x35)), h))
    else if a1 = 12 then (
      ∃ o36 : Nat, fld h a0 11 6 = some (.ref o36) ∧
      ∃ x37 : Int32, fld h o36 0 3 = some (.int x37) ∧
      r = (.inl (some (.int x37)), h))
    else if a1 = 13 then (
      ∃ x38 : Int32, fld h a0 11 1 = some (.int x38) ∧
      r = (.inl (some (.int x38)), h))
    else if a1 = 14 then (
      ∃ o39 : Nat, fld h a0 11 3 = some (.ref o39) ∧
      ∃ (n40 : Nat) (f41 : Nat → Int32), arr h o39 = some (n40, f41) ∧ ¬ ((0 : Int32) < 0 ∨ n40 ≤ ((0 : Int32)).toNatClampNeg) ∧
      r = (.inl (some (.int (f41 ((0 : Int32)).toNatClampNeg))), h))
    else if a1 = 15 then (
      ∃ o42 : Nat, fld h a0 11 3 = some (.ref o42) ∧
      ∃ (n43 : Nat) (f44 : Nat → Int32), arr h o42 = some (n43, f44) ∧ ¬ ((1 : Int32) < 0 ∨ n43 ≤ ((1 : Int32)).toNatClampNeg) ∧
      r = (.inl (some (.int (f44 ((1 : Int32)).toNatClampNeg))), h))
    else if a1 = 16 then (
      ∃ o45 : Nat, fld h a0 11 3 = some (.ref o45) ∧
      ∃ (n46 : Nat) (f47 : Nat → Int32), arr h o45 = some (n46, f47) ∧ ¬ ((2 : Int32) < 0 ∨ n46 ≤ ((2 : Int32)).toNatClampNeg) ∧
      r = (.inl (some (.int (f47 ((2 : Int32)).toNatClampNeg))), h))
    else (
      r = (.inr 0, (h.1, h.2 + 1)))) :
    zT E (d + 8) m_x_count 0 [some (.ref a0), some (.int a1)] [] h r := by
  refine zT_st (pc' := 1) (L' := [some (.ref a0), some (.int a1)]) (st' := [.int a1]) (h' := h) 1 (fun n => rfl) ?_
  by_cases c0 : a1 = 0
  · rw [if_pos c0] at hw
    refine zT_st (pc' := 84) (L' := [some (.ref a0), some (.int a1)]) (st' := []) (h' := h) 1 (fun n => zsw_in c0 rfl) ?_
    refine zT_st (pc' := 85) (L' := [some (.ref a0), some (.int a1)]) (st' := [.ref a0]) (h' := h) 1 (fun n => rfl) ?_
    obtain ⟨o1, e, hw⟩ := hw
    refine zT_st (pc' := 88) (L' := [some (.ref a0), some (.int a1)]) (st' := [.ref o1]) (h' := h) 1 (fun n => fld_eq (E := E) e _) ?_
    obtain ⟨x2, e, hw⟩ := hw
    refine zT_st (pc' := 91) (L' := [some (.ref a0), some (.int a1)]) (st' := [.int x2]) (h' := h) 1 (fun n => fld_eq (E := E) e _) ?_
    subst hw
    exact zT_ret 1 rfl
  rw [if_neg c0] at hw
  by_cases c1 : a1 = 1
  · rw [if_pos c1] at hw
    refine zT_st (pc' := 92) (L' := [some (.ref a0), some (.int a1)]) (st' := []) (h' := h) 1 (fun n => zsw_in c1 rfl) ?_
    refine zT_st (pc' := 93) (L' := [some (.ref a0), some (.int a1)]) (st' := [.ref a0]) (h' := h) 1 (fun n => rfl) ?_
    obtain ⟨o3, e, hw⟩ := hw
    refine zT_st (pc' := 96) (L' := [some (.ref a0), some (.int a1)]) (st' := [.ref o3]) (h' := h) 1 (fun n => fld_eq (E := E) e _) ?_
    obtain ⟨x4, e, hw⟩ := hw
    refine zT_st (pc' := 99) (L' := [some (.ref a0), some (.int a1)]) (st' := [.int x4]) (h' := h) 1 (fun n => fld_eq (E := E) e _) ?_
    subst hw
    exact zT_ret 1 rfl
  rw [if_neg c1] at hw
  by_cases c2 : a1 = 2
  · rw [if_pos c2] at hw
    refine zT_st (pc' := 100) (L' := [some (.ref a0), some (.int a1)]) (st' := []) (h' := h) 1 (fun n => zsw_in c2 rfl) ?_
    refine zT_st (pc' := 101) (L' := [some (.ref a0), some (.int a1)]) (st' := [.ref a0]) (h' := h) 1 (fun n => rfl) ?_
    obtain ⟨o5, e, hw⟩ := hw
    refine zT_st (pc' := 104) (L' := [some (.ref a0), some (.int a1)]) (st' := [.ref o5]) (h' := h) 1 (fun n => fld_eq (E := E) e _) ?_
    obtain ⟨x6, e, hw⟩ := hw
    refine zT_st (pc' := 107) (L' := [some (.ref a0), some (.int a1)]) (st' := [.int x6]) (h' := h) 1 (fun n => fld_eq (E := E) e _) ?_
    subst hw
    exact zT_ret 1 rfl
  rw [if_neg c2] at hw
  by_cases c3 : a1 = 3
  · rw [if_pos c3] at hw
    refine zT_st (pc' := 108) (L' := [some (.ref a0), some (.int a1)]) (st' := []) (h' := h) 1 (fun n => zsw_in c3 rfl) ?_
    refine zT_st (pc' := 109) (L' := [some (.ref a0), some (.int a1)]) (st' := [.ref a0]) (h' := h) 1 (fun n => rfl) ?_
    obtain ⟨o7, e, hw⟩ := hw
    refine zT_st (pc' := 112) (L' := [some (.ref a0), some (.int a1)]) (st' := [.ref o7]) (h' := h) 1 (fun n => fld_eq (E := E) e _) ?_
    obtain ⟨x8, e, hw⟩ := hw
    refine zT_st (pc' := 115) (L' := [some (.ref a0), some (.int a1)]) (st' := [.int x8]) (h' := h) 1 (fun n => fld_eq (E := E) e _) ?_
    subst hw
    exact zT_ret 1 rfl
  rw [if_neg c3] at hw
  by_cases c4 : a1 = 4
  · rw [if_pos c4] at hw
    refine zT_st (pc' := 116) (L' := [some (.ref a0), some (.int a1)]) (st' := []) (h' := h) 1 (fun n => zsw_in c4 rfl) ?_
    refine zT_st (pc' := 117) (L' := [some (.ref a0), some (.int a1)]) (st' := [.ref a0]) (h' := h) 1 (fun n => rfl) ?_
    obtain ⟨o9, e, hw⟩ := hw
    refine zT_st (pc' := 120) (L' := [some (.ref a0), some (.int a1)]) (st' := [.ref o9]) (h' := h) 1 (fun n => fld_eq (E := E) e _) ?_
    obtain ⟨hq, hw⟩ := hw
    obtain ⟨x10, h11, hx, hw⟩ := hw
    refine zT_call (pc' := 123) (rest := []) 1 (fun n => rfl) hq hx ?_
    show zT E (d + 8) m_x_count 123 [some (.ref a0), some (.int a1)] [.int x10] h11 r
    subst hw
    exact zT_ret 1 rfl
  rw [if_neg c4] at hw
  by_cases c5 : a1 = 5
  · rw [if_pos c5] at hw
    refine zT_st (pc' := 124) (L' := [some (.ref a0), some (.int a1)]) (st' := []) (h' := h) 1 (fun n => zsw_in c5 rfl) ?_
    refine zT_st (pc' := 125) (L' := [some (.ref a0), some (.int a1)]) (st' := [.ref a0]) (h' := h) 1 (fun n => rfl) ?_
    obtain ⟨o12, e, hw⟩ := hw
    refine zT_st (pc' := 128) (L' := [some (.ref a0), some (.int a1)]) (st' := [.ref o12]) (h' := h) 1 (fun n => fld_eq (E := E) e _) ?_
    refine zT_st (pc' := 129) (L' := [some (.ref a0), some (.int a1)]) (st' := [.ref a0, .ref o12]) (h' := h) 1 (fun n => rfl) ?_
    obtain ⟨o13, e, hw⟩ := hw
    refine zT_st (pc' := 132) (L' := [some (.ref a0), some (.int a1)]) (st' := [.ref o13, .ref o12]) (h' := h) 1 (fun n => fld_eq (E := E) e _) ?_
    obtain ⟨hq, hw⟩ := hw
    obtain ⟨x14, h15, hx, hw⟩ := hw
    refine zT_call (pc' := 135) (rest := []) 1 (fun n => rfl) hq hx ?_
    show zT E (d + 8) m_x_count 135 [some (.ref a0), some (.int a1)] [.int x14] h15 r
    subst hw
    exact zT_ret 1 rfl
  rw [if_neg c5] at hw
  by_cases c6 : a1 = 6
  · rw [if_pos c6] at hw
    refine zT_st (pc' := 136) (L' := [some (.ref a0), some (.int a1)]) (st' := []) (h' := h) 1 (fun n => zsw_in c6 rfl) ?_
    refine zT_st (pc' := 137) (L' := [some (.ref a0), some (.int a1)]) (st' := [.ref a0]) (h' := h) 1 (fun n => rfl) ?_
    obtain ⟨o16, e, hw⟩ := hw
    refine zT_st (pc' := 140) (L' := [some (.ref a0), some (.int a1)]) (st' := [.ref o16]) (h' := h) 1 (fun n => fld_eq (E := E) e _) ?_
    obtain ⟨hq, hw⟩ := hw
    obtain ⟨x17, h18, hx, hw⟩ := hw
    refine zT_call (pc' := 143) (rest := []) 1 (fun n => rfl) hq hx ?_
    show zT E (d + 8) m_x_count 143 [some (.ref a0), some (.int a1)] [.int x17] h18 r
    subst hw
    exact zT_ret 1 rfl
  rw [if_neg c6] at hw
  by_cases c7 : a1 = 7
  · rw [if_pos c7] at hw
    refine zT_st (pc' := 144) (L' := [some (.ref a0), some (.int a1)]) (st' := []) (h' := h) 1 (fun n => zsw_in c7 rfl) ?_
    refine zT_st (pc' := 145) (L' := [some (.ref a0), some (.int a1)]) (st' := [.ref a0]) (h' := h) 1 (fun n => rfl) ?_
    obtain ⟨o19, e, hw⟩ := hw
    refine zT_st (pc' := 148) (L' := [some (.ref a0), some (.int a1)]) (st' := [.ref o19]) (h' := h) 1 (fun n => fld_eq (E := E) e _) ?_
    refine zT_st (pc' := 149) (L' := [some (.ref a0), some (.int a1)]) (st' := [.ref a0, .ref o19]) (h' := h) 1 (fun n => rfl) ?_
    obtain ⟨o20, e, hw⟩ := hw
    refine zT_st (pc' := 152) (L' := [some (.ref a0), some (.int a1)]) (st' := [.ref o20, .ref o19]) (h' := h) 1 (fun n => fld_eq (E := E) e _) ?_
    obtain ⟨hq, hw⟩ := hw
    obtain ⟨x21, h22, hx, hw⟩ := hw
    refine zT_call (pc' := 155) (rest := []) 1 (fun n => rfl) hq hx ?_
    show zT E (d + 8) m_x_count 155 [some (.ref a0), some (.int a1)] [.int x21] h22 r
    subst hw
    exact zT_ret 1 rfl
  rw [if_neg c7] at hw
  by_cases c8 : a1 = 8
  · rw [if_pos c8] at hw
    refine zT_st (pc' := 156) (L' := [some (.ref a0), some (.int a1)]) (st' := []) (h' := h) 1 (fun n => zsw_in c8 rfl) ?_
    refine zT_st (pc' := 157) (L' := [some (.ref a0), some (.int a1)]) (st' := [.ref a0]) (h' := h) 1 (fun n => rfl) ?_
    obtain ⟨o23, e, hw⟩ := hw
    refine zT_st (pc' := 160) (L' := [some (.ref a0), some (.int a1)]) (st' := [.ref o23]) (h' := h) 1 (fun n => fld_eq (E := E) e _) ?_
    refine zT_st (pc' := 161) (L' := [some (.ref a0), some (.int a1)]) (st' := [.ref a0, .ref o23]) (h' := h) 1 (fun n => rfl) ?_
    obtain ⟨o24, e, hw⟩ := hw
    refine zT_st (pc' := 164) (L' := [some (.ref a0), some (.int a1)]) (st' := [.ref o24, .ref o23]) (h' := h) 1 (fun n => fld_eq (E := E) e _) ?_
    obtain ⟨hq, hw⟩ := hw
    obtain ⟨x25, h26, hx, hw⟩ := hw
    refine zT_call (pc' := 167) (rest := []) 1 (fun n => rfl) hq hx ?_
    show zT E (d + 8) m_x_count 167 [some (.ref a0), some (.int a1)] [.int x25] h26 r
    subst hw
    exact zT_ret 1 rfl
  rw [if_neg c8] at hw
  by_cases c9 : a1 = 9
  · rw [if_pos c9] at hw
    refine zT_st (pc' := 168) (L' := [some (.ref a0), some (.int a1)]) (st' := []) (h' := h) 1 (fun n => zsw_in c9 rfl) ?_
    refine zT_st (pc' := 169) (L' := [some (.ref a0), some (.int a1)]) (st' := [.ref a0]) (h' := h) 1 (fun n => rfl) ?_
    obtain ⟨o27, e, hw⟩ := hw
    refine zT_st (pc' := 172) (L' := [some (.ref a0), some (.int a1)]) (st' := [.ref o27]) (h' := h) 1 (fun n => fld_eq (E := E) e _) ?_
    refine zT_st (pc' := 173) (L' := [some (.ref a0), some (.int a1)]) (st' := [.ref a0, .ref o27]) (h' := h) 1 (fun n => rfl) ?_
    obtain ⟨o28, e, hw⟩ := hw
    refine zT_st (pc' := 176) (L' := [some (.ref a0), some (.int a1)]) (st' := [.ref o28, .ref o27]) (h' := h) 1 (fun n => fld_eq (E := E) e _) ?_
    obtain ⟨hq, hw⟩ := hw
    obtain ⟨x29, h30, hx, hw⟩ := hw
    refine zT_call (pc' := 179) (rest := []) 1 (fun n => rfl) hq hx ?_
    show zT E (d + 8) m_x_count 179 [some (.ref a0), some (.int a1)] [.int x29] h30 r
    subst hw
    exact zT_ret 1 rfl
  rw [if_neg c9] at hw
  by_cases c10 : a1 = 10
  · rw [if_pos c10] at hw
    refine zT_st (pc' := 180) (L' := [some (.ref a0), some (.int a1)]) (st' := []) (h' := h) 1 (fun n => zsw_in c10 rfl) ?_
    refine zT_st (pc' := 181) (L' := [some (.ref a0), some (.int a1)]) (st' := [.ref a0]) (h' := h) 1 (fun n => rfl) ?_
    obtain ⟨o31, e, hw⟩ := hw
    refine zT_st (pc' := 184) (L' := [some (.ref a0), some (.int a1)]) (st' := [.ref o31]) (h' := h) 1 (fun n => fld_eq (E := E) e _) ?_
    obtain ⟨hq, hw⟩ := hw
    obtain ⟨x32, h33, hx, hw⟩ := hw
    refine zT_call (pc' := 187) (rest := []) 1 (fun n => rfl) hq hx ?_
    show zT E (d + 8) m_x_count 187 [some (.ref a0), some (.int a1)] [.int x32] h33 r
    subst hw
    exact zT_ret 1 rfl
  rw [if_neg c10] at hw
  by_cases c11 : a1 = 11
  · rw [if_pos c11] at hw
    refine zT_st (pc' := 188) (L' := [some (.ref a0), some (.int a1)]) (st' := []) (h' := h) 1 (fun n => zsw_in c11 rfl) ?_
    refine zT_st (pc' := 189) (L' := [some (.ref a0), some (.int a1)]) (st' := [.ref a0]) (h' := h) 1 (fun n => rfl) ?_
    obtain ⟨o34, e, hw⟩ := hw
    refine zT_st (pc' := 192) (L' := [some (.ref a0), some (.int a1)]) (st' := [.ref o34]) (h' := h) 1 (fun n => fld_eq (E := E) e _) ?_
    obtain ⟨x35, e, hw⟩ := hw
    refine zT_st (pc' := 195) (L' := [some (.ref a0), some (.int a1)]) (st' := [.int x35]) (h' := h) 1 (fun n => fld_eq (E := E) e _) ?_
    subst hw
    exact zT_ret 1 rfl
  rw [if_neg c11] at hw
  by_cases c12 : a1 = 12
  · rw [if_pos c12] at hw
    refine zT_st (pc' := 196) (L' := [some (.ref a0), some (.int a1)]) (st' := []) (h' := h) 1 (fun n => zsw_in c12 rfl) ?_
    refine zT_st (pc' := 197) (L' := [some (.ref a0), some (.int a1)]) (st' := [.ref a0]) (h' := h) 1 (fun n => rfl) ?_
    obtain ⟨o36, e, hw⟩ := hw
    refine zT_st (pc' := 200) (L' := [some (.ref a0), some (.int a1)]) (st' := [.ref o36]) (h' := h) 1 (fun n => fld_eq (E := E) e _) ?_
    obtain ⟨x37, e, hw⟩ := hw
    refine zT_st (pc' := 203) (L' := [some (.ref a0), some (.int a1)]) (st' := [.int x37]) (h' := h) 1 (fun n => fld_eq (E := E) e _) ?_
    subst hw
    exact zT_ret 1 rfl
  rw [if_neg c12] at hw
  by_cases c13 : a1 = 13
  · rw [if_pos c13] at hw
    refine zT_st (pc' := 204) (L' := [some (.ref a0), some (.int a1)]) (st' := []) (h' := h) 1 (fun n => zsw_in c13 rfl) ?_
    refine zT_st (pc' := 205) (L' := [some (.ref a0), some (.int a1)]) (st' := [.ref a0]) (h' := h) 1 (fun n => rfl) ?_
    obtain ⟨x38, e, hw⟩ := hw
    refine zT_st (pc' := 208) (L' := [some (.ref a0), some (.int a1)]) (st' := [.int x38]) (h' := h) 1 (fun n => fld_eq (E := E) e _) ?_
    subst hw
    exact zT_ret 1 rfl
  rw [if_neg c13] at hw
  by_cases c14 : a1 = 14
  · rw [if_pos c14] at hw
    refine zT_st (pc' := 209) (L' := [some (.ref a0), some (.int a1)]) (st' := []) (h' := h) 1 (fun n => zsw_in c14 rfl) ?_
    refine zT_st (pc' := 210) (L' := [some (.ref a0), some (.int a1)]) (st' := [.ref a0]) (h' := h) 1 (fun n => rfl) ?_
    obtain ⟨o39, e, hw⟩ := hw
    refine zT_st (pc' := 213) (L' := [some (.ref a0), some (.int a1)]) (st' := [.ref o39]) (h' := h) 1 (fun n => fld_eq (E := E) e _) ?_
    refine zT_st (pc' := 214) (L' := [some (.ref a0), some (.int a1)]) (st' := [.int 0, .ref o39]) (h' := h) 1 (fun n => rfl) ?_
    obtain ⟨n40, f41, e, hi, hw⟩ := hw
    refine zT_st (pc' := 215) (L' := [some (.ref a0), some (.int a1)]) (st' := [.int (f41 ((0 : Int32)).toNatClampNeg)]) (h' := h) 1 (fun n => arr_eq (E := E) e hi [] (fun st => zrun zP zCd E n (d + 8) m_x_count 215 [some (.ref a0), some (.int a1)] st h)) ?_
    subst hw
    exact zT_ret 1 rfl
  rw [if_neg c14] at hw
  by_cases c15 : a1 = 15
  · rw [if_pos c15] at hw
    refine zT_st (pc' := 216) (L' := [some (.ref a0), some (.int a1)]) (st' := []) (h' := h) 1 (fun n => zsw_in c15 rfl) ?_
    refine zT_st (pc' := 217) (L' := [some (.ref a0), some (.int a1)]) (st' := [.ref a0]) (h' := h) 1 (fun n => rfl) ?_
    obtain ⟨o42, e, hw⟩ := hw
    refine zT_st (pc' := 220) (L' := [some (.ref a0), some (.int a1)]) (st' := [.ref o42]) (h' := h) 1 (fun n => fld_eq (E := E) e _) ?_
    refine zT_st (pc' := 221) (L' := [some (.ref a0), some (.int a1)]) (st' := [.int 1, .ref o42]) (h' := h) 1 (fun n => rfl) ?_
    obtain ⟨n43, f44, e, hi, hw⟩ := hw
    refine zT_st (pc' := 222) (L' := [some (.ref a0), some (.int a1)]) (st' := [.int (f44 ((1 : Int32)).toNatClampNeg)]) (h' := h) 1 (fun n => arr_eq (E := E) e hi [] (fun st => zrun zP zCd E n (d + 8) m_x_count 222 [some (.ref a0), some (.int a1)] st h)) ?_
    subst hw
    exact zT_ret 1 rfl
  rw [if_neg c15] at hw
  by_cases c16 : a1 = 16
  · rw [if_pos c16] at hw
    refine zT_st (pc' := 223) (L' := [some (.ref a0), some (.int a1)]) (st' := []) (h' := h) 1 (fun n => zsw_in c16 rfl) ?_
    refine zT_st (pc' := 224) (L' := [some (.ref a0), some (.int a1)]) (st' := [.ref a0]) (h' := h) 1 (fun n => rfl) ?_
    obtain ⟨o45, e, hw⟩ := hw
    refine zT_st (pc' := 227) (L' := [some (.ref a0), some (.int a1)]) (st' := [.ref o45]) (h' := h) 1 (fun n => fld_eq (E := E) e _) ?_
    refine zT_st (pc' := 228) (L' := [some (.ref a0), some (.int a1)]) (st' := [.int 2, .ref o45]) (h' := h) 1 (fun n => rfl) ?_
    obtain ⟨n46, f47, e, hi, hw⟩ := hw
    refine zT_st (pc' := 229) (L' := [some (.ref a0), some (.int a1)]) (st' := [.int (f47 ((2 : Int32)).toNatClampNeg)]) (h' := h) 1 (fun n => arr_eq (E := E) e hi [] (fun st => zrun zP zCd E n (d + 8) m_x_count 229 [some (.ref a0), some (.int a1)] st h)) ?_
    subst hw
    exact zT_ret 1 rfl
  rw [if_neg c16] at hw
  refine zT_st (pc' := 230) (L' := [some (.ref a0), some (.int a1)]) (st' := []) (h' := h) 1 (fun n => zsw_out (zout (n := 17) (by decide) (fun k hk => by rcases k with _ | _ | _ | _ | _ | _ | _ | _ | _ | _ | _ | _ | _ | _ | _ | _ | _ | k <;> first | assumption | omega)) rfl) ?_
  subst hw
  exact zT_ret 1 rfl
set_option maxRecDepth 4000 in
theorem s_x_person_0 (E : zX) (d : Nat) (a0 : Nat) (a1 : Int32) (a2 : Int32) (h : zH) (r : zO × zH)
    (hw : isO h a0 11 = true ∧ ((∃ (h2 : zH), zT E (d + 7) m_x_needPerson 0 [some (.ref a0), some (.int a1)] [] h (.inl none, h2) ∧
    if a2 = 0 then (
      ∃ o3 : Nat, fld h2 a0 11 4 = some (.ref o3) ∧
      ∃ o4 : Nat, fld h2 o3 5 5 = some (.ref o4) ∧
      ∃ (n5 : Nat) (f6 : Nat → Int32), arr h2 o4 = some (n5, f6) ∧ ¬ (a1 < 0 ∨ n5 ≤ (a1).toNatClampNeg) ∧
      r = (.inl (some (.int (f6 (a1).toNatClampNeg))), h2))
    else if a2 = 1 then (
      ∃ o7 : Nat, fld h2 a0 11 9 = some (.ref o7) ∧
      isO h2 o7 10 = true ∧ ∃ (x8 : Int32) (h9 : zH), zT E (d + 7) m_Scene_mildOf 0 [some (.ref o7), some (.int a1)] [] h2 (.inl (some (.int x8)), h9) ∧
      r = (.inl (some (.int x8)), h9))
    else if a2 = 2 then (
      ∃ o10 : Nat, fld h2 a0 11 9 = some (.ref o10) ∧
      isO h2 o10 10 = true ∧ ∃ (x11 : Int32) (h12 : zH), zT E (d + 7) m_Scene_temperOf 0 [some (.ref o10), some (.int a1)] [] h2 (.inl (some (.int x11)), h12) ∧
      r = (.inl (some (.int x11)), h12))
    else if a2 = 3 then (
      ∃ o13 : Nat, fld h2 a0 11 9 = some (.ref o13) ∧
      isO h2 o13 10 = true ∧ ∃ (x14 : Int32) (h15 : zH), zT E (d + 7) m_Scene_shoutedBy 0 [some (.ref o13), some (.int a1)] [] h2 (.inl (some (.int x14)), h15) ∧
      r = (.inl (some (.int x14)), h15))
    else if a2 = 4 then (
      ∃ o16 : Nat, fld h2 a0 11 9 = some (.ref o16) ∧
      isO h2 o16 10 = true ∧ ∃ (x17 : Int32) (h18 : zH), zT E (d + 7) m_Scene_heardBy 0 [some (.ref o16), some (.int a1)] [] h2 (.inl (some (.int x17)), h18) ∧
      r = (.inl (some (.int x17)), h18))
    else if a2 = 5 then (
      ∃ o19 : Nat, fld h2 a0 11 10 = some (.ref o19) ∧
      ∃ o20 : Nat, fld h2 a0 11 9 = some (.ref o20) ∧
      isO h2 o19 2 = true ∧ ∃ (x21 : Int32) (h22 : zH), zT E (d + 7) m_Downs_ownedBy 0 [some (.ref o19), some (.ref o20), some (.int a1), none, none] [] h2 (.inl (some (.int x21)), h22) ∧
      r = (.inl (some (.int x21)), h22))
    else if a2 = 6 then (
      ∃ o23 : Nat, fld h2 a0 11 10 = some (.ref o23) ∧
      ∃ o24 : Nat, fld h2 a0 11 9 = some (.ref o24) ∧
      isO h2 o23 2 = true ∧ ∃ (x25 : Int32) (h26 : zH), zT E (d + 7) m_Downs_nearestWhite 0 [some (.ref o23), some (.ref o24), some (.int a1), none, none, none, none] [] h2 (.inl (some (.int x25)), h26) ∧
      r = (.inl (some (.int x25)), h26))
    else (
      r = (.inr 0, (h2.1, h2.2 + 1)))) ∨
    ∃ (e : Nat) (g : zH), zT E (d + 7) m_x_needPerson 0 [some (.ref a0), some (.int a1)] [] h (.inr e, g) ∧ r = (.inr e, g))) :
    zT E (d + 8) m_x_person 0 [some (.ref a0), some (.int a1), some (.int a2)] [] h r := by
  refine zT_st (pc' := 2) (L' := [some (.ref a0), some (.int a1), some (.int a2)]) (st' := [.int a1, .ref a0]) (h' := h) 2 (fun n => rfl) ?_
  obtain ⟨hq, hw⟩ := hw
  rcases hw with hw | ⟨e, g, hx, hw⟩
  rotate_left
  · subst hw
    exact zT_callX 1 (fun n => rfl) hq hx
  obtain ⟨h2, hx, hw⟩ := hw
  refine zT_call (pc' := 5) (rest := []) 1 (fun n => rfl) hq hx ?_
  show zT E (d + 8) m_x_person 5 [some (.ref a0), some (.int a1), some (.int a2)] [] h2 r
  refine zT_st (pc' := 6) (L' := [some (.ref a0), some (.int a1), some (.int a2)]) (st' := [.int a2]) (h' := h2) 1 (fun n => rfl) ?_
  by_cases c0 : a2 = 0
  · rw [if_pos c0] at hw
    refine zT_st (pc' := 48) (L' := [some (.ref a0), some (.int a1), some (.int a2)]) (st' := []) (h' := h2) 1 (fun n => zsw_in c0 rfl) ?_
    refine zT_st (pc' := 49) (L' := [some (.ref a0), some (.int a1), some (.int a2)]) (st' := [.ref a0]) (h' := h2) 1 (fun n => rfl) ?_
    obtain ⟨o3, e, hw⟩ := hw
    refine zT_st (pc' := 52) (L' := [some (.ref a0), some (.int a1), some (.int a2)]) (st' := [.ref o3]) (h' := h2) 1 (fun n => fld_eq (E := E) e _) ?_
    obtain ⟨o4, e, hw⟩ := hw
    refine zT_st (pc' := 55) (L' := [some (.ref a0), some (.int a1), some (.int a2)]) (st' := [.ref o4]) (h' := h2) 1 (fun n => fld_eq (E := E) e _) ?_
    refine zT_st (pc' := 56) (L' := [some (.ref a0), some (.int a1), some (.int a2)]) (st' := [.int a1, .ref o4]) (h' := h2) 1 (fun n => rfl) ?_
    obtain ⟨n5, f6, e, hi, hw⟩ := hw
    refine zT_st (pc' := 57) (L' := [some (.ref a0), some (.int a1), some (.int a2)]) (st' := [.int (f6 (a1).toNatClampNeg)]) (h' := h2) 1 (fun n => arr_eq (E := E) e hi [] (fun st => zrun zP zCd E n (d + 8) m_x_person 57 [some (.ref a0), some (.int a1), some (.int a2)] st h2)) ?_
    subst hw
    exact zT_ret 1 rfl
  rw [if_neg c0] at hw
  by_cases c1 : a2 = 1
  · rw [if_pos c1] at hw
    refine zT_st (pc' := 58) (L' := [some (.ref a0), some (.int a1), some (.int a2)]) (st' := []) (h' := h2) 1 (fun n => zsw_in c1 rfl) ?_
    refine zT_st (pc' := 59) (L' := [some (.ref a0), some (.int a1), some (.int a2)]) (st' := [.ref a0]) (h' := h2) 1 (fun n => rfl) ?_
    obtain ⟨o7, e, hw⟩ := hw
    refine zT_st (pc' := 62) (L' := [some (.ref a0), some (.int a1), some (.int a2)]) (st' := [.ref o7]) (h' := h2) 1 (fun n => fld_eq (E := E) e _) ?_
    refine zT_st (pc' := 63) (L' := [some (.ref a0), some (.int a1), some (.int a2)]) (st' := [.int a1, .ref o7]) (h' := h2) 1 (fun n => rfl) ?_
    obtain ⟨hq, hw⟩ := hw
    obtain ⟨x8, h9, hx, hw⟩ := hw
    refine zT_call (pc' := 66) (rest := []) 1 (fun n => rfl) hq hx ?_
    show zT E (d + 8) m_x_person 66 [some (.ref a0), some (.int a1), some (.int a2)] [.int x8] h9 r
    subst hw
    exact zT_ret 1 rfl
  rw [if_neg c1] at hw
  by_cases c2 : a2 = 2
  · rw [if_pos c2] at hw
    refine zT_st (pc' := 67) (L' := [some (.ref a0), some (.int a1), some (.int a2)]) (st' := []) (h' := h2) 1 (fun n => zsw_in c2 rfl) ?_
    refine zT_st (pc' := 68) (L' := [some (.ref a0), some (.int a1), some (.int a2)]) (st' := [.ref a0]) (h' := h2) 1 (fun n => rfl) ?_
    obtain ⟨o10, e, hw⟩ := hw
    refine zT_st (pc' := 71) (L' := [some (.ref a0), some (.int a1), some (.int a2)]) (st' := [.ref o10]) (h' := h2) 1 (fun n => fld_eq (E := E) e _) ?_
    refine zT_st (pc' := 72) (L' := [some (.ref a0), some (.int a1), some (.int a2)]) (st' := [.int a1, .ref o10]) (h' := h2) 1 (fun n => rfl) ?_
    obtain ⟨hq, hw⟩ := hw
    obtain ⟨x11, h12, hx, hw⟩ := hw
    refine zT_call (pc' := 75) (rest := []) 1 (fun n => rfl) hq hx ?_
    show zT E (d + 8) m_x_person 75 [some (.ref a0), some (.int a1), some (.int a2)] [.int x11] h12 r
    subst hw
    exact zT_ret 1 rfl
  rw [if_neg c2] at hw
  by_cases c3 : a2 = 3
  · rw [if_pos c3] at hw
    refine zT_st (pc' := 76) (L' := [some (.ref a0), some (.int a1), some (.int a2)]) (st' := []) (h' := h2) 1 (fun n => zsw_in c3 rfl) ?_
    refine zT_st (pc' := 77) (L' := [some (.ref a0), some (.int a1), some (.int a2)]) (st' := [.ref a0]) (h' := h2) 1 (fun n => rfl) ?_
    obtain ⟨o13, e, hw⟩ := hw
    refine zT_st (pc' := 80) (L' := [some (.ref a0), some (.int a1), some (.int a2)]) (st' := [.ref o13]) (h' := h2) 1 (fun n => fld_eq (E := E) e _) ?_
    refine zT_st (pc' := 81) (L' := [some (.ref a0), some (.int a1), some (.int a2)]) (st' := [.int a1, .ref o13]) (h' := h2) 1 (fun n => rfl) ?_
    obtain ⟨hq, hw⟩ := hw
    obtain ⟨x14, h15, hx, hw⟩ := hw
    refine zT_call (pc' := 84) (rest := []) 1 (fun n => rfl) hq hx ?_
    show zT E (d + 8) m_x_person 84 [some (.ref a0), some (.int a1), some (.int a2)] [.int x14] h15 r
    subst hw
    exact zT_ret 1 rfl
  rw [if_neg c3] at hw
  by_cases c4 : a2 = 4
  · rw [if_pos c4] at hw
    refine zT_st (pc' := 85) (L' := [some (.ref a0), some (.int a1), some (.int a2)]) (st' := []) (h' := h2) 1 (fun n => zsw_in c4 rfl) ?_
    refine zT_st (pc' := 86) (L' := [some (.ref a0), some (.int a1), some (.int a2)]) (st' := [.ref a0]) (h' := h2) 1 (fun n => rfl) ?_
    obtain ⟨o16, e, hw⟩ := hw
    refine zT_st (pc' := 89) (L' := [some (.ref a0), some (.int a1), some (.int a2)]) (st' := [.ref o16]) (h' := h2) 1 (fun n => fld_eq (E := E) e _) ?_
    refine zT_st (pc' := 90) (L' := [some (.ref a0), some (.int a1), some (.int a2)]) (st' := [.int a1, .ref o16]) (h' := h2) 1 (fun n => rfl) ?_
    obtain ⟨hq, hw⟩ := hw
    obtain ⟨x17, h18, hx, hw⟩ := hw
    refine zT_call (pc' := 93) (rest := []) 1 (fun n => rfl) hq hx ?_
    show zT E (d + 8) m_x_person 93 [some (.ref a0), some (.int a1), some (.int a2)] [.int x17] h18 r
    subst hw
    exact zT_ret 1 rfl
  rw [if_neg c4] at hw
  by_cases c5 : a2 = 5
  · rw [if_pos c5] at hw
    refine zT_st (pc' := 94) (L' := [some (.ref a0), some (.int a1), some (.int a2)]) (st' := []) (h' := h2) 1 (fun n => zsw_in c5 rfl) ?_
    refine zT_st (pc' := 95) (L' := [some (.ref a0), some (.int a1), some (.int a2)]) (st' := [.ref a0]) (h' := h2) 1 (fun n => rfl) ?_
    obtain ⟨o19, e, hw⟩ := hw
    refine zT_st (pc' := 98) (L' := [some (.ref a0), some (.int a1), some (.int a2)]) (st' := [.ref o19]) (h' := h2) 1 (fun n => fld_eq (E := E) e _) ?_
    refine zT_st (pc' := 99) (L' := [some (.ref a0), some (.int a1), some (.int a2)]) (st' := [.ref a0, .ref o19]) (h' := h2) 1 (fun n => rfl) ?_
    obtain ⟨o20, e, hw⟩ := hw
    refine zT_st (pc' := 102) (L' := [some (.ref a0), some (.int a1), some (.int a2)]) (st' := [.ref o20, .ref o19]) (h' := h2) 1 (fun n => fld_eq (E := E) e _) ?_
    refine zT_st (pc' := 103) (L' := [some (.ref a0), some (.int a1), some (.int a2)]) (st' := [.int a1, .ref o20, .ref o19]) (h' := h2) 1 (fun n => rfl) ?_
    obtain ⟨hq, hw⟩ := hw
    obtain ⟨x21, h22, hx, hw⟩ := hw
    refine zT_call (pc' := 106) (rest := []) 1 (fun n => rfl) hq hx ?_
    show zT E (d + 8) m_x_person 106 [some (.ref a0), some (.int a1), some (.int a2)] [.int x21] h22 r
    subst hw
    exact zT_ret 1 rfl
  rw [if_neg c5] at hw
  by_cases c6 : a2 = 6
  · rw [if_pos c6] at hw
    refine zT_st (pc' := 107) (L' := [some (.ref a0), some (.int a1), some (.int a2)]) (st' := []) (h' := h2) 1 (fun n => zsw_in c6 rfl) ?_
    refine zT_st (pc' := 108) (L' := [some (.ref a0), some (.int a1), some (.int a2)]) (st' := [.ref a0]) (h' := h2) 1 (fun n => rfl) ?_
    obtain ⟨o23, e, hw⟩ := hw
    refine zT_st (pc' := 111) (L' := [some (.ref a0), some (.int a1), some (.int a2)]) (st' := [.ref o23]) (h' := h2) 1 (fun n => fld_eq (E := E) e _) ?_
    refine zT_st (pc' := 112) (L' := [some (.ref a0), some (.int a1), some (.int a2)]) (st' := [.ref a0, .ref o23]) (h' := h2) 1 (fun n => rfl) ?_
    obtain ⟨o24, e, hw⟩ := hw
    refine zT_st (pc' := 115) (L' := [some (.ref a0), some (.int a1), some (.int a2)]) (st' := [.ref o24, .ref o23]) (h' := h2) 1 (fun n => fld_eq (E := E) e _) ?_
    refine zT_st (pc' := 116) (L' := [some (.ref a0), some (.int a1), some (.int a2)]) (st' := [.int a1, .ref o24, .ref o23]) (h' := h2) 1 (fun n => rfl) ?_
    obtain ⟨hq, hw⟩ := hw
    obtain ⟨x25, h26, hx, hw⟩ := hw
    refine zT_call (pc' := 119) (rest := []) 1 (fun n => rfl) hq hx ?_
    show zT E (d + 8) m_x_person 119 [some (.ref a0), some (.int a1), some (.int a2)] [.int x25] h26 r
    subst hw
    exact zT_ret 1 rfl
  rw [if_neg c6] at hw
  refine zT_st (pc' := 120) (L' := [some (.ref a0), some (.int a1), some (.int a2)]) (st' := []) (h' := h2) 1 (fun n => zsw_out (zout (n := 7) (by decide) (fun k hk => by rcases k with _ | _ | _ | _ | _ | _ | _ | k <;> first | assumption | omega)) rfl) ?_
  subst hw
  exact zT_ret 1 rfl
set_option maxRecDepth 4000 in
theorem s_x_needPerson_0 (E : zX) (d : Nat) (a0 : Nat) (a1 : Int32) (h : zH) (r : zO × zH)
    (hw : if a1 < 0 then (
      r = (.inr 0, (h.1, h.2 + 1)))
    else (
      ∃ o1 : Nat, fld h a0 11 4 = some (.ref o1) ∧
      ∃ x2 : Int32, fld h o1 5 3 = some (.int x2) ∧
      if a1 < x2 then (
        r = (.inl (none), h))
      else (
        r = (.inr 0, (h.1, h.2 + 1))))) :
    zT E (d + 8) m_x_needPerson 0 [some (.ref a0), some (.int a1)] [] h r := by
  refine zT_st (pc' := 1) (L' := [some (.ref a0), some (.int a1)]) (st' := [.int a1]) (h' := h) 1 (fun n => rfl) ?_
  by_cases hc : a1 < 0
  · rw [if_pos hc] at hw
    refine zT_st (pc' := 15) (L' := [some (.ref a0), some (.int a1)]) (st' := []) (h' := h) 1 (fun n => if_pos hc) ?_
    subst hw
    exact zT_ret 1 rfl
  · rw [if_neg hc] at hw
    refine zT_st (pc' := 4) (L' := [some (.ref a0), some (.int a1)]) (st' := []) (h' := h) 1 (fun n => if_neg hc) ?_
    refine zT_st (pc' := 6) (L' := [some (.ref a0), some (.int a1)]) (st' := [.ref a0, .int a1]) (h' := h) 2 (fun n => rfl) ?_
    obtain ⟨o1, e, hw⟩ := hw
    refine zT_st (pc' := 9) (L' := [some (.ref a0), some (.int a1)]) (st' := [.ref o1, .int a1]) (h' := h) 1 (fun n => fld_eq (E := E) e _) ?_
    obtain ⟨x2, e, hw⟩ := hw
    refine zT_st (pc' := 12) (L' := [some (.ref a0), some (.int a1)]) (st' := [.int x2, .int a1]) (h' := h) 1 (fun n => fld_eq (E := E) e _) ?_
    by_cases hc : a1 < x2
    · rw [if_pos hc] at hw
      refine zT_st (pc' := 26) (L' := [some (.ref a0), some (.int a1)]) (st' := []) (h' := h) 1 (fun n => if_pos hc) ?_
      subst hw
      exact zT_ret 1 rfl
    · rw [if_neg hc] at hw
      refine zT_st (pc' := 15) (L' := [some (.ref a0), some (.int a1)]) (st' := []) (h' := h) 1 (fun n => if_neg hc) ?_
      subst hw
      exact zT_ret 1 rfl
set_option maxRecDepth 4000 in
theorem s_x_ball_0 (E : zX) (d : Nat) (a0 : Nat) (a1 : Int32) (a2 : Int32) (h : zH) (r : zO × zH)
    (hw : isO h a0 11 = true ∧ ((∃ (h2 : zH), zT E (d + 7) m_x_needBall 0 [some (.ref a0), some (.int a1)] [] h (.inl none, h2) ∧
    if a2 = 0 then (
      ∃ o3 : Nat, fld h2 a0 11 9 = some (.ref o3) ∧
      isO h2 o3 10 = true ∧ ∃ (x4 : Int32) (h5 : zH), zT E (d + 7) m_Scene_cellOf 0 [some (.ref o3), some (.int a1)] [] h2 (.inl (some (.int x4)), h5) ∧
      r = (.inl (some (.int x4)), h5))
    else if a2 = 1 then (
      ∃ o6 : Nat, fld h2 a0 11 4 = some (.ref o6) ∧
      ∃ o7 : Nat, fld h2 o6 5 6 = some (.ref o7) ∧
      ∃ (n8 : Nat) (f9 : Nat → Int32), arr h2 o7 = some (n8, f9) ∧ ¬ (a1 < 0 ∨ n8 ≤ (a1).toNatClampNeg) ∧
      r = (.inl (some (.int (f9 (a1).toNatClampNeg))), h2))
    else if a2 = 2 then (
      ∃ o10 : Nat, fld h2 a0 11 9 = some (.ref o10) ∧
      isO h2 o10 10 = true ∧ ∃ (x11 : Int32) (h12 : zH), zT E (d + 7) m_Scene_heldIn 0 [some (.ref o10), some (.int a1)] [] h2 (.inl (some (.int x11)), h12) ∧
      r = (.inl (some (.int x11)), h12))
    else if a2 = 3 then (
      ∃ o13 : Nat, fld h2 a0 11 9 = some (.ref o13) ∧
      isO h2 o13 10 = true ∧ ∃ (x14 : Int32) (h15 : zH), zT E (d + 7) m_Scene_ageOf 0 [some (.ref o13), some (.int a1)] [] h2 (.inl (some (.int x14)), h15) ∧
      r = (.inl (some (.int x14)), h15))
    else if a2 = 4 then (
      ∃ o16 : Nat, fld h2 a0 11 9 = some (.ref o16) ∧
      isO h2 o16 10 = true ∧ ∃ (x17 : Int32) (h18 : zH), zT E (d + 7) m_Scene_ownerOf 0 [some (.ref o16), some (.int a1)] [] h2 (.inl (some (.int x17)), h18) ∧
      r = (.inl (some (.int x17)), h18))
    else if a2 = 5 then (
      ∃ o19 : Nat, fld h2 a0 11 9 = some (.ref o19) ∧
      isO h2 o19 10 = true ∧ ∃ (x20 : Int32) (h21 : zH), zT E (d + 7) m_Scene_isGuarded 0 [some (.ref o19), some (.int a1)] [] h2 (.inl (some (.int x20)), h21) ∧
      if x20 = 0 then (
        r = (.inl (some (.int 0)), h21))
      else (
        r = (.inl (some (.int 1)), h21)))
    else if a2 = 6 then (
      ∃ o22 : Nat, fld h2 a0 11 10 = some (.ref o22) ∧
      ∃ o23 : Nat, fld h2 a0 11 9 = some (.ref o23) ∧
      isO h2 o22 2 = true ∧ ∃ (x24 : Int32) (h25 : zH), zT E (d + 7) m_Downs_setOffBy 0 [some (.ref o22), some (.ref o23), some (.int a1)] [] h2 (.inl (some (.int x24)), h25) ∧
      r = (.inl (some (.int x24)), h25))
    else if a2 = 7 then (
      ∃ o26 : Nat, fld h2 a0 11 10 = some (.ref o26) ∧
      ∃ o27 : Nat, fld h2 a0 11 9 = some (.ref o27) ∧
      ∃ o28 : Nat, fld h2 a0 11 10 = some (.ref o28) ∧
      ∃ o29 : Nat, fld h2 a0 11 9 = some (.ref o29) ∧
      isO h2 o28 2 = true ∧ ∃ (x30 : Int32) (h31 : zH), zT E (d + 7) m_Downs_setOffBy 0 [some (.ref o28), some (.ref o29), some (.int a1)] [] h2 (.inl (some (.int x30)), h31) ∧
      isO h31 o26 2 = true ∧ ∃ (x32 : Int32) (h33 : zH), zT E (d + 7) m_Downs_hearers 0 [some (.ref o26), some (.ref o27), some (.int x30), none, none] [] h31 (.inl (some (.int x32)), h33) ∧
      r = (.inl (some (.int x32)), h33))
    else (
      r = (.inr 0, (h2.1, h2.2 + 1)))) ∨
    ∃ (e : Nat) (g : zH), zT E (d + 7) m_x_needBall 0 [some (.ref a0), some (.int a1)] [] h (.inr e, g) ∧ r = (.inr e, g))) :
    zT E (d + 8) m_x_ball 0 [some (.ref a0), some (.int a1), some (.int a2)] [] h r := by
  refine zT_st (pc' := 2) (L' := [some (.ref a0), some (.int a1), some (.int a2)]) (st' := [.int a1, .ref a0]) (h' := h) 2 (fun n => rfl) ?_
  obtain ⟨hq, hw⟩ := hw
  rcases hw with hw | ⟨e, g, hx, hw⟩
  rotate_left
  · subst hw
    exact zT_callX 1 (fun n => rfl) hq hx
  obtain ⟨h2, hx, hw⟩ := hw
  refine zT_call (pc' := 5) (rest := []) 1 (fun n => rfl) hq hx ?_
  show zT E (d + 8) m_x_ball 5 [some (.ref a0), some (.int a1), some (.int a2)] [] h2 r
  refine zT_st (pc' := 6) (L' := [some (.ref a0), some (.int a1), some (.int a2)]) (st' := [.int a2]) (h' := h2) 1 (fun n => rfl) ?_
  by_cases c0 : a2 = 0
  · rw [if_pos c0] at hw
    refine zT_st (pc' := 52) (L' := [some (.ref a0), some (.int a1), some (.int a2)]) (st' := []) (h' := h2) 1 (fun n => zsw_in c0 rfl) ?_
    refine zT_st (pc' := 53) (L' := [some (.ref a0), some (.int a1), some (.int a2)]) (st' := [.ref a0]) (h' := h2) 1 (fun n => rfl) ?_
    obtain ⟨o3, e, hw⟩ := hw
    refine zT_st (pc' := 56) (L' := [some (.ref a0), some (.int a1), some (.int a2)]) (st' := [.ref o3]) (h' := h2) 1 (fun n => fld_eq (E := E) e _) ?_
    refine zT_st (pc' := 57) (L' := [some (.ref a0), some (.int a1), some (.int a2)]) (st' := [.int a1, .ref o3]) (h' := h2) 1 (fun n => rfl) ?_
    obtain ⟨hq, hw⟩ := hw
    obtain ⟨x4, h5, hx, hw⟩ := hw
    refine zT_call (pc' := 60) (rest := []) 1 (fun n => rfl) hq hx ?_
    show zT E (d + 8) m_x_ball 60 [some (.ref a0), some (.int a1), some (.int a2)] [.int x4] h5 r
    subst hw
    exact zT_ret 1 rfl
  rw [if_neg c0] at hw
  by_cases c1 : a2 = 1
  · rw [if_pos c1] at hw
    refine zT_st (pc' := 61) (L' := [some (.ref a0), some (.int a1), some (.int a2)]) (st' := []) (h' := h2) 1 (fun n => zsw_in c1 rfl) ?_
    refine zT_st (pc' := 62) (L' := [some (.ref a0), some (.int a1), some (.int a2)]) (st' := [.ref a0]) (h' := h2) 1 (fun n => rfl) ?_
    obtain ⟨o6, e, hw⟩ := hw
    refine zT_st (pc' := 65) (L' := [some (.ref a0), some (.int a1), some (.int a2)]) (st' := [.ref o6]) (h' := h2) 1 (fun n => fld_eq (E := E) e _) ?_
    obtain ⟨o7, e, hw⟩ := hw
    refine zT_st (pc' := 68) (L' := [some (.ref a0), some (.int a1), some (.int a2)]) (st' := [.ref o7]) (h' := h2) 1 (fun n => fld_eq (E := E) e _) ?_
    refine zT_st (pc' := 69) (L' := [some (.ref a0), some (.int a1), some (.int a2)]) (st' := [.int a1, .ref o7]) (h' := h2) 1 (fun n => rfl) ?_
    obtain ⟨n8, f9, e, hi, hw⟩ := hw
    refine zT_st (pc' := 70) (L' := [some (.ref a0), some (.int a1), some (.int a2)]) (st' := [.int (f9 (a1).toNatClampNeg)]) (h' := h2) 1 (fun n => arr_eq (E := E) e hi [] (fun st => zrun zP zCd E n (d + 8) m_x_ball 70 [some (.ref a0), some (.int a1), some (.int a2)] st h2)) ?_
    subst hw
    exact zT_ret 1 rfl
  rw [if_neg c1] at hw
  by_cases c2 : a2 = 2
  · rw [if_pos c2] at hw
    refine zT_st (pc' := 71) (L' := [some (.ref a0), some (.int a1), some (.int a2)]) (st' := []) (h' := h2) 1 (fun n => zsw_in c2 rfl) ?_
    refine zT_st (pc' := 72) (L' := [some (.ref a0), some (.int a1), some (.int a2)]) (st' := [.ref a0]) (h' := h2) 1 (fun n => rfl) ?_
    obtain ⟨o10, e, hw⟩ := hw
    refine zT_st (pc' := 75) (L' := [some (.ref a0), some (.int a1), some (.int a2)]) (st' := [.ref o10]) (h' := h2) 1 (fun n => fld_eq (E := E) e _) ?_
    refine zT_st (pc' := 76) (L' := [some (.ref a0), some (.int a1), some (.int a2)]) (st' := [.int a1, .ref o10]) (h' := h2) 1 (fun n => rfl) ?_
    obtain ⟨hq, hw⟩ := hw
    obtain ⟨x11, h12, hx, hw⟩ := hw
    refine zT_call (pc' := 79) (rest := []) 1 (fun n => rfl) hq hx ?_
    show zT E (d + 8) m_x_ball 79 [some (.ref a0), some (.int a1), some (.int a2)] [.int x11] h12 r
    subst hw
    exact zT_ret 1 rfl
  rw [if_neg c2] at hw
  by_cases c3 : a2 = 3
  · rw [if_pos c3] at hw
    refine zT_st (pc' := 80) (L' := [some (.ref a0), some (.int a1), some (.int a2)]) (st' := []) (h' := h2) 1 (fun n => zsw_in c3 rfl) ?_
    refine zT_st (pc' := 81) (L' := [some (.ref a0), some (.int a1), some (.int a2)]) (st' := [.ref a0]) (h' := h2) 1 (fun n => rfl) ?_
    obtain ⟨o13, e, hw⟩ := hw
    refine zT_st (pc' := 84) (L' := [some (.ref a0), some (.int a1), some (.int a2)]) (st' := [.ref o13]) (h' := h2) 1 (fun n => fld_eq (E := E) e _) ?_
    refine zT_st (pc' := 85) (L' := [some (.ref a0), some (.int a1), some (.int a2)]) (st' := [.int a1, .ref o13]) (h' := h2) 1 (fun n => rfl) ?_
    obtain ⟨hq, hw⟩ := hw
    obtain ⟨x14, h15, hx, hw⟩ := hw
    refine zT_call (pc' := 88) (rest := []) 1 (fun n => rfl) hq hx ?_
    show zT E (d + 8) m_x_ball 88 [some (.ref a0), some (.int a1), some (.int a2)] [.int x14] h15 r
    subst hw
    exact zT_ret 1 rfl
  rw [if_neg c3] at hw
  by_cases c4 : a2 = 4
  · rw [if_pos c4] at hw
    refine zT_st (pc' := 89) (L' := [some (.ref a0), some (.int a1), some (.int a2)]) (st' := []) (h' := h2) 1 (fun n => zsw_in c4 rfl) ?_
    refine zT_st (pc' := 90) (L' := [some (.ref a0), some (.int a1), some (.int a2)]) (st' := [.ref a0]) (h' := h2) 1 (fun n => rfl) ?_
    obtain ⟨o16, e, hw⟩ := hw
    refine zT_st (pc' := 93) (L' := [some (.ref a0), some (.int a1), some (.int a2)]) (st' := [.ref o16]) (h' := h2) 1 (fun n => fld_eq (E := E) e _) ?_
    refine zT_st (pc' := 94) (L' := [some (.ref a0), some (.int a1), some (.int a2)]) (st' := [.int a1, .ref o16]) (h' := h2) 1 (fun n => rfl) ?_
    obtain ⟨hq, hw⟩ := hw
    obtain ⟨x17, h18, hx, hw⟩ := hw
    refine zT_call (pc' := 97) (rest := []) 1 (fun n => rfl) hq hx ?_
    show zT E (d + 8) m_x_ball 97 [some (.ref a0), some (.int a1), some (.int a2)] [.int x17] h18 r
    subst hw
    exact zT_ret 1 rfl
  rw [if_neg c4] at hw
  by_cases c5 : a2 = 5
  · rw [if_pos c5] at hw
    refine zT_st (pc' := 98) (L' := [some (.ref a0), some (.int a1), some (.int a2)]) (st' := []) (h' := h2) 1 (fun n => zsw_in c5 rfl) ?_
    refine zT_st (pc' := 99) (L' := [some (.ref a0), some (.int a1), some (.int a2)]) (st' := [.ref a0]) (h' := h2) 1 (fun n => rfl) ?_
    obtain ⟨o19, e, hw⟩ := hw
    refine zT_st (pc' := 102) (L' := [some (.ref a0), some (.int a1), some (.int a2)]) (st' := [.ref o19]) (h' := h2) 1 (fun n => fld_eq (E := E) e _) ?_
    refine zT_st (pc' := 103) (L' := [some (.ref a0), some (.int a1), some (.int a2)]) (st' := [.int a1, .ref o19]) (h' := h2) 1 (fun n => rfl) ?_
    obtain ⟨hq, hw⟩ := hw
    obtain ⟨x20, h21, hx, hw⟩ := hw
    refine zT_call (pc' := 106) (rest := []) 1 (fun n => rfl) hq hx ?_
    show zT E (d + 8) m_x_ball 106 [some (.ref a0), some (.int a1), some (.int a2)] [.int x20] h21 r
    by_cases hc : x20 = 0
    · rw [if_pos hc] at hw
      refine zT_st (pc' := 113) (L' := [some (.ref a0), some (.int a1), some (.int a2)]) (st' := []) (h' := h21) 1 (fun n => if_pos hc) ?_
      subst hw
      exact zT_ret 2 rfl
    · rw [if_neg hc] at hw
      refine zT_st (pc' := 109) (L' := [some (.ref a0), some (.int a1), some (.int a2)]) (st' := []) (h' := h21) 1 (fun n => if_neg hc) ?_
      subst hw
      exact zT_ret 3 rfl
  rw [if_neg c5] at hw
  by_cases c6 : a2 = 6
  · rw [if_pos c6] at hw
    refine zT_st (pc' := 115) (L' := [some (.ref a0), some (.int a1), some (.int a2)]) (st' := []) (h' := h2) 1 (fun n => zsw_in c6 rfl) ?_
    refine zT_st (pc' := 116) (L' := [some (.ref a0), some (.int a1), some (.int a2)]) (st' := [.ref a0]) (h' := h2) 1 (fun n => rfl) ?_
    obtain ⟨o22, e, hw⟩ := hw
    refine zT_st (pc' := 119) (L' := [some (.ref a0), some (.int a1), some (.int a2)]) (st' := [.ref o22]) (h' := h2) 1 (fun n => fld_eq (E := E) e _) ?_
    refine zT_st (pc' := 120) (L' := [some (.ref a0), some (.int a1), some (.int a2)]) (st' := [.ref a0, .ref o22]) (h' := h2) 1 (fun n => rfl) ?_
    obtain ⟨o23, e, hw⟩ := hw
    refine zT_st (pc' := 123) (L' := [some (.ref a0), some (.int a1), some (.int a2)]) (st' := [.ref o23, .ref o22]) (h' := h2) 1 (fun n => fld_eq (E := E) e _) ?_
    refine zT_st (pc' := 124) (L' := [some (.ref a0), some (.int a1), some (.int a2)]) (st' := [.int a1, .ref o23, .ref o22]) (h' := h2) 1 (fun n => rfl) ?_
    obtain ⟨hq, hw⟩ := hw
    obtain ⟨x24, h25, hx, hw⟩ := hw
    refine zT_call (pc' := 127) (rest := []) 1 (fun n => rfl) hq hx ?_
    show zT E (d + 8) m_x_ball 127 [some (.ref a0), some (.int a1), some (.int a2)] [.int x24] h25 r
    subst hw
    exact zT_ret 1 rfl
  rw [if_neg c6] at hw
  by_cases c7 : a2 = 7
  · rw [if_pos c7] at hw
    refine zT_st (pc' := 128) (L' := [some (.ref a0), some (.int a1), some (.int a2)]) (st' := []) (h' := h2) 1 (fun n => zsw_in c7 rfl) ?_
    refine zT_st (pc' := 129) (L' := [some (.ref a0), some (.int a1), some (.int a2)]) (st' := [.ref a0]) (h' := h2) 1 (fun n => rfl) ?_
    obtain ⟨o26, e, hw⟩ := hw
    refine zT_st (pc' := 132) (L' := [some (.ref a0), some (.int a1), some (.int a2)]) (st' := [.ref o26]) (h' := h2) 1 (fun n => fld_eq (E := E) e _) ?_
    refine zT_st (pc' := 133) (L' := [some (.ref a0), some (.int a1), some (.int a2)]) (st' := [.ref a0, .ref o26]) (h' := h2) 1 (fun n => rfl) ?_
    obtain ⟨o27, e, hw⟩ := hw
    refine zT_st (pc' := 136) (L' := [some (.ref a0), some (.int a1), some (.int a2)]) (st' := [.ref o27, .ref o26]) (h' := h2) 1 (fun n => fld_eq (E := E) e _) ?_
    refine zT_st (pc' := 137) (L' := [some (.ref a0), some (.int a1), some (.int a2)]) (st' := [.ref a0, .ref o27, .ref o26]) (h' := h2) 1 (fun n => rfl) ?_
    obtain ⟨o28, e, hw⟩ := hw
    refine zT_st (pc' := 140) (L' := [some (.ref a0), some (.int a1), some (.int a2)]) (st' := [.ref o28, .ref o27, .ref o26]) (h' := h2) 1 (fun n => fld_eq (E := E) e _) ?_
    refine zT_st (pc' := 141) (L' := [some (.ref a0), some (.int a1), some (.int a2)]) (st' := [.ref a0, .ref o28, .ref o27, .ref o26]) (h' := h2) 1 (fun n => rfl) ?_
    obtain ⟨o29, e, hw⟩ := hw
    refine zT_st (pc' := 144) (L' := [some (.ref a0), some (.int a1), some (.int a2)]) (st' := [.ref o29, .ref o28, .ref o27, .ref o26]) (h' := h2) 1 (fun n => fld_eq (E := E) e _) ?_
    refine zT_st (pc' := 145) (L' := [some (.ref a0), some (.int a1), some (.int a2)]) (st' := [.int a1, .ref o29, .ref o28, .ref o27, .ref o26]) (h' := h2) 1 (fun n => rfl) ?_
    obtain ⟨hq, hw⟩ := hw
    obtain ⟨x30, h31, hx, hw⟩ := hw
    refine zT_call (pc' := 148) (rest := [.ref o27, .ref o26]) 1 (fun n => rfl) hq hx ?_
    show zT E (d + 8) m_x_ball 148 [some (.ref a0), some (.int a1), some (.int a2)] [.int x30, .ref o27, .ref o26] h31 r
    obtain ⟨hq, hw⟩ := hw
    obtain ⟨x32, h33, hx, hw⟩ := hw
    refine zT_call (pc' := 151) (rest := []) 1 (fun n => rfl) hq hx ?_
    show zT E (d + 8) m_x_ball 151 [some (.ref a0), some (.int a1), some (.int a2)] [.int x32] h33 r
    subst hw
    exact zT_ret 1 rfl
  rw [if_neg c7] at hw
  refine zT_st (pc' := 152) (L' := [some (.ref a0), some (.int a1), some (.int a2)]) (st' := []) (h' := h2) 1 (fun n => zsw_out (zout (n := 8) (by decide) (fun k hk => by rcases k with _ | _ | _ | _ | _ | _ | _ | _ | k <;> first | assumption | omega)) rfl) ?_
  subst hw
  exact zT_ret 1 rfl
set_option maxRecDepth 4000 in
theorem s_x_needBall_0 (E : zX) (d : Nat) (a0 : Nat) (a1 : Int32) (h : zH) (r : zO × zH)
    (hw : if a1 < 0 then (
      r = (.inr 0, (h.1, h.2 + 1)))
    else (
      ∃ o1 : Nat, fld h a0 11 4 = some (.ref o1) ∧
      ∃ x2 : Int32, fld h o1 5 4 = some (.int x2) ∧
      if a1 < x2 then (
        r = (.inl (none), h))
      else (
        r = (.inr 0, (h.1, h.2 + 1))))) :
    zT E (d + 8) m_x_needBall 0 [some (.ref a0), some (.int a1)] [] h r := by
  refine zT_st (pc' := 1) (L' := [some (.ref a0), some (.int a1)]) (st' := [.int a1]) (h' := h) 1 (fun n => rfl) ?_
  by_cases hc : a1 < 0
  · rw [if_pos hc] at hw
    refine zT_st (pc' := 15) (L' := [some (.ref a0), some (.int a1)]) (st' := []) (h' := h) 1 (fun n => if_pos hc) ?_
    subst hw
    exact zT_ret 1 rfl
  · rw [if_neg hc] at hw
    refine zT_st (pc' := 4) (L' := [some (.ref a0), some (.int a1)]) (st' := []) (h' := h) 1 (fun n => if_neg hc) ?_
    refine zT_st (pc' := 6) (L' := [some (.ref a0), some (.int a1)]) (st' := [.ref a0, .int a1]) (h' := h) 2 (fun n => rfl) ?_
    obtain ⟨o1, e, hw⟩ := hw
    refine zT_st (pc' := 9) (L' := [some (.ref a0), some (.int a1)]) (st' := [.ref o1, .int a1]) (h' := h) 1 (fun n => fld_eq (E := E) e _) ?_
    obtain ⟨x2, e, hw⟩ := hw
    refine zT_st (pc' := 12) (L' := [some (.ref a0), some (.int a1)]) (st' := [.int x2, .int a1]) (h' := h) 1 (fun n => fld_eq (E := E) e _) ?_
    by_cases hc : a1 < x2
    · rw [if_pos hc] at hw
      refine zT_st (pc' := 26) (L' := [some (.ref a0), some (.int a1)]) (st' := []) (h' := h) 1 (fun n => if_pos hc) ?_
      subst hw
      exact zT_ret 1 rfl
    · rw [if_neg hc] at hw
      refine zT_st (pc' := 15) (L' := [some (.ref a0), some (.int a1)]) (st' := []) (h' := h) 1 (fun n => if_neg hc) ?_
      subst hw
      exact zT_ret 1 rfl
set_option maxRecDepth 4000 in
theorem s_x_tread_0 (E : zX) (d : Nat) (a0 : Nat) (a1 : Int32) (h : zH) (r : zO × zH)
    (hw : isO h a0 11 = true ∧ ((∃ (h2 : zH), zT E d m_x_needBall 0 [some (.ref a0), some (.int a1)] [] h (.inl none, h2) ∧
    ∃ o3 : Nat, fld h2 a0 11 9 = some (.ref o3) ∧
    isO h2 o3 10 = true ∧ ∃ (x4 : Int32) (h5 : zH), zT E d m_Scene_isLoose 0 [some (.ref o3), some (.int a1)] [] h2 (.inl (some (.int x4)), h5) ∧
    if x4 = 0 then (
      isO h5 a0 11 = true ∧ ∃ (x6 : Int32) (h7 : zH), zT E d m_x_refuse 0 [some (.ref a0), some (.int 1)] [] h5 (.inl (some (.int x6)), h7) ∧
      r = (.inl (some (.int x6)), h7))
    else (
      ∃ o8 : Nat, fld h5 a0 11 6 = some (.ref o8) ∧
      isO h5 o8 0 = true ∧ ∃ (h10 : zH), zT E d m_Book_keepAct 0 [some (.ref o8)] [] h5 (.inl none, h10) ∧
      ∃ o11 : Nat, fld h10 a0 11 10 = some (.ref o11) ∧
      ∃ o12 : Nat, fld h10 a0 11 9 = some (.ref o12) ∧
      isO h10 o11 2 = true ∧ ∃ (x13 : Int32) (h14 : zH), zT E d m_Downs_burst 0 [some (.ref o11), some (.ref o12), some (.int (1 <<< (a1 &&& 31))), none, none] [] h10 (.inl (some (.int x13)), h14) ∧
      ∃ (x15 : Int32) (h16 : zH), zT E d m_Integer_bitCount 0 [some (.int x13)] [] h14 (.inl (some (.int x15)), h16) ∧
      r = (.inl (some (.int x15)), h16))) ∨
    ∃ (e : Nat) (g : zH), zT E d m_x_needBall 0 [some (.ref a0), some (.int a1)] [] h (.inr e, g) ∧ r = (.inr e, g))) :
    zT E (d + 1) m_x_tread 0 [some (.ref a0), some (.int a1)] [] h r := by
  refine zT_st (pc' := 2) (L' := [some (.ref a0), some (.int a1)]) (st' := [.int a1, .ref a0]) (h' := h) 2 (fun n => rfl) ?_
  obtain ⟨hq, hw⟩ := hw
  rcases hw with hw | ⟨e, g, hx, hw⟩
  rotate_left
  · subst hw
    exact zT_callX 1 (fun n => rfl) hq hx
  obtain ⟨h2, hx, hw⟩ := hw
  refine zT_call (pc' := 5) (rest := []) 1 (fun n => rfl) hq hx ?_
  show zT E (d + 1) m_x_tread 5 [some (.ref a0), some (.int a1)] [] h2 r
  refine zT_st (pc' := 6) (L' := [some (.ref a0), some (.int a1)]) (st' := [.ref a0]) (h' := h2) 1 (fun n => rfl) ?_
  obtain ⟨o3, e, hw⟩ := hw
  refine zT_st (pc' := 9) (L' := [some (.ref a0), some (.int a1)]) (st' := [.ref o3]) (h' := h2) 1 (fun n => fld_eq (E := E) e _) ?_
  refine zT_st (pc' := 10) (L' := [some (.ref a0), some (.int a1)]) (st' := [.int a1, .ref o3]) (h' := h2) 1 (fun n => rfl) ?_
  obtain ⟨hq, hw⟩ := hw
  obtain ⟨x4, h5, hx, hw⟩ := hw
  refine zT_call (pc' := 13) (rest := []) 1 (fun n => rfl) hq hx ?_
  show zT E (d + 1) m_x_tread 13 [some (.ref a0), some (.int a1)] [.int x4] h5 r
  by_cases hc : x4 = 0
  · rw [if_pos hc] at hw
    refine zT_st (pc' := 16) (L' := [some (.ref a0), some (.int a1)]) (st' := []) (h' := h5) 1 (fun n => if_pos hc) ?_
    refine zT_st (pc' := 18) (L' := [some (.ref a0), some (.int a1)]) (st' := [.int 1, .ref a0]) (h' := h5) 2 (fun n => rfl) ?_
    obtain ⟨hq, hw⟩ := hw
    obtain ⟨x6, h7, hx, hw⟩ := hw
    refine zT_call (pc' := 21) (rest := []) 1 (fun n => rfl) hq hx ?_
    show zT E (d + 1) m_x_tread 21 [some (.ref a0), some (.int a1)] [.int x6] h7 r
    subst hw
    exact zT_ret 1 rfl
  · rw [if_neg hc] at hw
    refine zT_st (pc' := 22) (L' := [some (.ref a0), some (.int a1)]) (st' := []) (h' := h5) 1 (fun n => if_neg hc) ?_
    refine zT_st (pc' := 23) (L' := [some (.ref a0), some (.int a1)]) (st' := [.ref a0]) (h' := h5) 1 (fun n => rfl) ?_
    obtain ⟨o8, e, hw⟩ := hw
    refine zT_st (pc' := 26) (L' := [some (.ref a0), some (.int a1)]) (st' := [.ref o8]) (h' := h5) 1 (fun n => fld_eq (E := E) e _) ?_
    obtain ⟨hq, hw⟩ := hw
    obtain ⟨h10, hx, hw⟩ := hw
    refine zT_call (pc' := 29) (rest := []) 1 (fun n => rfl) hq hx ?_
    show zT E (d + 1) m_x_tread 29 [some (.ref a0), some (.int a1)] [] h10 r
    refine zT_st (pc' := 30) (L' := [some (.ref a0), some (.int a1)]) (st' := [.ref a0]) (h' := h10) 1 (fun n => rfl) ?_
    obtain ⟨o11, e, hw⟩ := hw
    refine zT_st (pc' := 33) (L' := [some (.ref a0), some (.int a1)]) (st' := [.ref o11]) (h' := h10) 1 (fun n => fld_eq (E := E) e _) ?_
    refine zT_st (pc' := 34) (L' := [some (.ref a0), some (.int a1)]) (st' := [.ref a0, .ref o11]) (h' := h10) 1 (fun n => rfl) ?_
    obtain ⟨o12, e, hw⟩ := hw
    refine zT_st (pc' := 37) (L' := [some (.ref a0), some (.int a1)]) (st' := [.ref o12, .ref o11]) (h' := h10) 1 (fun n => fld_eq (E := E) e _) ?_
    refine zT_st (pc' := 40) (L' := [some (.ref a0), some (.int a1)]) (st' := [.int (1 <<< (a1 &&& 31)), .ref o12, .ref o11]) (h' := h10) 3 (fun n => rfl) ?_
    obtain ⟨hq, hw⟩ := hw
    obtain ⟨x13, h14, hx, hw⟩ := hw
    refine zT_call (pc' := 43) (rest := []) 1 (fun n => rfl) hq hx ?_
    show zT E (d + 1) m_x_tread 43 [some (.ref a0), some (.int a1)] [.int x13] h14 r
    obtain ⟨x15, h16, hx, hw⟩ := hw
    refine zT_call (pc' := 46) (rest := []) 1 (fun n => rfl) rfl hx ?_
    show zT E (d + 1) m_x_tread 46 [some (.ref a0), some (.int a1)] [.int x15] h16 r
    subst hw
    exact zT_ret 1 rfl
set_option maxRecDepth 4000 in
theorem s_x_carry_0 (E : zX) (d : Nat) (a0 : Nat) (a1 : Int32) (a2 : Int32) (h : zH) (r : zO × zH)
    (hw : isO h a0 11 = true ∧ ((∃ (h2 : zH), zT E d m_x_needBall 0 [some (.ref a0), some (.int a1)] [] h (.inl none, h2) ∧
    isO h2 a0 11 = true ∧ ((∃ (h4 : zH), zT E d m_x_needCell 0 [some (.ref a0), some (.int a2)] [] h2 (.inl none, h4) ∧
    ∃ o5 : Nat, fld h4 a0 11 9 = some (.ref o5) ∧
    isO h4 o5 10 = true ∧ ∃ (x6 : Int32) (h7 : zH), zT E d m_Scene_cellOf 0 [some (.ref o5), some (.int a1)] [] h4 (.inl (some (.int x6)), h7) ∧
    if x6 = a2 then (
      isO h7 a0 11 = true ∧ ∃ (x8 : Int32) (h9 : zH), zT E d m_x_refuse 0 [some (.ref a0), some (.int 1)] [] h7 (.inl (some (.int x8)), h9) ∧
      r = (.inl (some (.int x8)), h9))
    else (
      ∃ o10 : Nat, fld h7 a0 11 6 = some (.ref o10) ∧
      isO h7 o10 0 = true ∧ ∃ (h12 : zH), zT E d m_Book_keepAct 0 [some (.ref o10)] [] h7 (.inl none, h12) ∧
      ∃ o13 : Nat, fld h12 a0 11 9 = some (.ref o13) ∧
      isO h12 o13 10 = true ∧ ∃ (h15 : zH), zT E d m_Scene_setCell 0 [some (.ref o13), some (.int a1), some (.int a2)] [] h12 (.inl none, h15) ∧
      r = (.inl (some (.int x6)), h15))) ∨
    ∃ (e : Nat) (g : zH), zT E d m_x_needCell 0 [some (.ref a0), some (.int a2)] [] h2 (.inr e, g) ∧ r = (.inr e, g))) ∨
    ∃ (e : Nat) (g : zH), zT E d m_x_needBall 0 [some (.ref a0), some (.int a1)] [] h (.inr e, g) ∧ r = (.inr e, g))) :
    zT E (d + 1) m_x_carry 0 [some (.ref a0), some (.int a1), some (.int a2), none] [] h r := by
  refine zT_st (pc' := 2) (L' := [some (.ref a0), some (.int a1), some (.int a2), none]) (st' := [.int a1, .ref a0]) (h' := h) 2 (fun n => rfl) ?_
  obtain ⟨hq, hw⟩ := hw
  rcases hw with hw | ⟨e, g, hx, hw⟩
  rotate_left
  · subst hw
    exact zT_callX 1 (fun n => rfl) hq hx
  obtain ⟨h2, hx, hw⟩ := hw
  refine zT_call (pc' := 5) (rest := []) 1 (fun n => rfl) hq hx ?_
  show zT E (d + 1) m_x_carry 5 [some (.ref a0), some (.int a1), some (.int a2), none] [] h2 r
  refine zT_st (pc' := 7) (L' := [some (.ref a0), some (.int a1), some (.int a2), none]) (st' := [.int a2, .ref a0]) (h' := h2) 2 (fun n => rfl) ?_
  obtain ⟨hq, hw⟩ := hw
  rcases hw with hw | ⟨e, g, hx, hw⟩
  rotate_left
  · subst hw
    exact zT_callX 1 (fun n => rfl) hq hx
  obtain ⟨h4, hx, hw⟩ := hw
  refine zT_call (pc' := 10) (rest := []) 1 (fun n => rfl) hq hx ?_
  show zT E (d + 1) m_x_carry 10 [some (.ref a0), some (.int a1), some (.int a2), none] [] h4 r
  refine zT_st (pc' := 11) (L' := [some (.ref a0), some (.int a1), some (.int a2), none]) (st' := [.ref a0]) (h' := h4) 1 (fun n => rfl) ?_
  obtain ⟨o5, e, hw⟩ := hw
  refine zT_st (pc' := 14) (L' := [some (.ref a0), some (.int a1), some (.int a2), none]) (st' := [.ref o5]) (h' := h4) 1 (fun n => fld_eq (E := E) e _) ?_
  refine zT_st (pc' := 15) (L' := [some (.ref a0), some (.int a1), some (.int a2), none]) (st' := [.int a1, .ref o5]) (h' := h4) 1 (fun n => rfl) ?_
  obtain ⟨hq, hw⟩ := hw
  obtain ⟨x6, h7, hx, hw⟩ := hw
  refine zT_call (pc' := 18) (rest := []) 1 (fun n => rfl) hq hx ?_
  show zT E (d + 1) m_x_carry 18 [some (.ref a0), some (.int a1), some (.int a2), none] [.int x6] h7 r
  refine zT_st (pc' := 21) (L' := [some (.ref a0), some (.int a1), some (.int a2), some (.int x6)]) (st' := [.int a2, .int x6]) (h' := h7) 3 (fun n => rfl) ?_
  by_cases hc : x6 = a2
  · rw [if_pos hc] at hw
    refine zT_st (pc' := 24) (L' := [some (.ref a0), some (.int a1), some (.int a2), some (.int x6)]) (st' := []) (h' := h7) 1 (fun n => if_pos hc) ?_
    refine zT_st (pc' := 26) (L' := [some (.ref a0), some (.int a1), some (.int a2), some (.int x6)]) (st' := [.int 1, .ref a0]) (h' := h7) 2 (fun n => rfl) ?_
    obtain ⟨hq, hw⟩ := hw
    obtain ⟨x8, h9, hx, hw⟩ := hw
    refine zT_call (pc' := 29) (rest := []) 1 (fun n => rfl) hq hx ?_
    show zT E (d + 1) m_x_carry 29 [some (.ref a0), some (.int a1), some (.int a2), some (.int x6)] [.int x8] h9 r
    subst hw
    exact zT_ret 1 rfl
  · rw [if_neg hc] at hw
    refine zT_st (pc' := 30) (L' := [some (.ref a0), some (.int a1), some (.int a2), some (.int x6)]) (st' := []) (h' := h7) 1 (fun n => if_neg hc) ?_
    refine zT_st (pc' := 31) (L' := [some (.ref a0), some (.int a1), some (.int a2), some (.int x6)]) (st' := [.ref a0]) (h' := h7) 1 (fun n => rfl) ?_
    obtain ⟨o10, e, hw⟩ := hw
    refine zT_st (pc' := 34) (L' := [some (.ref a0), some (.int a1), some (.int a2), some (.int x6)]) (st' := [.ref o10]) (h' := h7) 1 (fun n => fld_eq (E := E) e _) ?_
    obtain ⟨hq, hw⟩ := hw
    obtain ⟨h12, hx, hw⟩ := hw
    refine zT_call (pc' := 37) (rest := []) 1 (fun n => rfl) hq hx ?_
    show zT E (d + 1) m_x_carry 37 [some (.ref a0), some (.int a1), some (.int a2), some (.int x6)] [] h12 r
    refine zT_st (pc' := 38) (L' := [some (.ref a0), some (.int a1), some (.int a2), some (.int x6)]) (st' := [.ref a0]) (h' := h12) 1 (fun n => rfl) ?_
    obtain ⟨o13, e, hw⟩ := hw
    refine zT_st (pc' := 41) (L' := [some (.ref a0), some (.int a1), some (.int a2), some (.int x6)]) (st' := [.ref o13]) (h' := h12) 1 (fun n => fld_eq (E := E) e _) ?_
    refine zT_st (pc' := 43) (L' := [some (.ref a0), some (.int a1), some (.int a2), some (.int x6)]) (st' := [.int a2, .int a1, .ref o13]) (h' := h12) 2 (fun n => rfl) ?_
    obtain ⟨hq, hw⟩ := hw
    obtain ⟨h15, hx, hw⟩ := hw
    refine zT_call (pc' := 46) (rest := []) 1 (fun n => rfl) hq hx ?_
    show zT E (d + 1) m_x_carry 46 [some (.ref a0), some (.int a1), some (.int a2), some (.int x6)] [] h15 r
    subst hw
    exact zT_ret 2 rfl
set_option maxRecDepth 4000 in
theorem s_x_needCell_0 (E : zX) (d : Nat) (a0 : Nat) (a1 : Int32) (h : zH) (r : zO × zH)
    (hw : if a1 < 0 then (
      r = (.inr 0, (h.1, h.2 + 1)))
    else (
      ∃ o1 : Nat, fld h a0 11 4 = some (.ref o1) ∧
      ∃ x2 : Int32, fld h o1 5 2 = some (.int x2) ∧
      if a1 < x2 then (
        r = (.inl (none), h))
      else (
        r = (.inr 0, (h.1, h.2 + 1))))) :
    zT E (d + 8) m_x_needCell 0 [some (.ref a0), some (.int a1)] [] h r := by
  refine zT_st (pc' := 1) (L' := [some (.ref a0), some (.int a1)]) (st' := [.int a1]) (h' := h) 1 (fun n => rfl) ?_
  by_cases hc : a1 < 0
  · rw [if_pos hc] at hw
    refine zT_st (pc' := 15) (L' := [some (.ref a0), some (.int a1)]) (st' := []) (h' := h) 1 (fun n => if_pos hc) ?_
    subst hw
    exact zT_ret 1 rfl
  · rw [if_neg hc] at hw
    refine zT_st (pc' := 4) (L' := [some (.ref a0), some (.int a1)]) (st' := []) (h' := h) 1 (fun n => if_neg hc) ?_
    refine zT_st (pc' := 6) (L' := [some (.ref a0), some (.int a1)]) (st' := [.ref a0, .int a1]) (h' := h) 2 (fun n => rfl) ?_
    obtain ⟨o1, e, hw⟩ := hw
    refine zT_st (pc' := 9) (L' := [some (.ref a0), some (.int a1)]) (st' := [.ref o1, .int a1]) (h' := h) 1 (fun n => fld_eq (E := E) e _) ?_
    obtain ⟨x2, e, hw⟩ := hw
    refine zT_st (pc' := 12) (L' := [some (.ref a0), some (.int a1)]) (st' := [.int x2, .int a1]) (h' := h) 1 (fun n => fld_eq (E := E) e _) ?_
    by_cases hc : a1 < x2
    · rw [if_pos hc] at hw
      refine zT_st (pc' := 26) (L' := [some (.ref a0), some (.int a1)]) (st' := []) (h' := h) 1 (fun n => if_pos hc) ?_
      subst hw
      exact zT_ret 1 rfl
    · rw [if_neg hc] at hw
      refine zT_st (pc' := 15) (L' := [some (.ref a0), some (.int a1)]) (st' := []) (h' := h) 1 (fun n => if_neg hc) ?_
      subst hw
      exact zT_ret 1 rfl
set_option maxRecDepth 4000 in
theorem s_x_guard_0 (E : zX) (d : Nat) (a0 : Nat) (a1 : Int32) (a2 : Int32) (h : zH) (r : zO × zH)
    (hw : isO h a0 11 = true ∧ ((∃ (h2 : zH), zT E d m_x_needBall 0 [some (.ref a0), some (.int a1)] [] h (.inl none, h2) ∧
    ∃ o3 : Nat, fld h2 a0 11 9 = some (.ref o3) ∧
    isO h2 o3 10 = true ∧ ∃ (x4 : Int32) (h5 : zH), zT E d m_Scene_isGuarded 0 [some (.ref o3), some (.int a1)] [] h2 (.inl (some (.int x4)), h5) ∧
    if x4 = a2 then (
      isO h5 a0 11 = true ∧ ∃ (x6 : Int32) (h7 : zH), zT E d m_x_refuse 0 [some (.ref a0), some (.int 1)] [] h5 (.inl (some (.int x6)), h7) ∧
      r = (.inl (some (.int 0)), h7))
    else (
      ∃ o8 : Nat, fld h5 a0 11 6 = some (.ref o8) ∧
      isO h5 o8 0 = true ∧ ∃ (h10 : zH), zT E d m_Book_keepAct 0 [some (.ref o8)] [] h5 (.inl none, h10) ∧
      ∃ o11 : Nat, fld h10 a0 11 9 = some (.ref o11) ∧
      ∃ o12 : Nat, fld h10 a0 11 9 = some (.ref o12) ∧
      isO h10 o12 10 = true ∧ ∃ (x13 : Int32) (h14 : zH), zT E d m_Scene_guards 0 [some (.ref o12)] [] h10 (.inl (some (.int x13)), h14) ∧
      isO h14 o11 10 = true ∧ ∃ (h16 : zH), zT E d m_Scene_setGuards 0 [some (.ref o11), some (.int (x13 ^^^ (1 <<< (a1 &&& 31))))] [] h14 (.inl none, h16) ∧
      r = (.inl (some (.int 1)), h16))) ∨
    ∃ (e : Nat) (g : zH), zT E d m_x_needBall 0 [some (.ref a0), some (.int a1)] [] h (.inr e, g) ∧ r = (.inr e, g))) :
    zT E (d + 1) m_x_guard 0 [some (.ref a0), some (.int a1), some (.int a2)] [] h r := by
  refine zT_st (pc' := 2) (L' := [some (.ref a0), some (.int a1), some (.int a2)]) (st' := [.int a1, .ref a0]) (h' := h) 2 (fun n => rfl) ?_
  obtain ⟨hq, hw⟩ := hw
  rcases hw with hw | ⟨e, g, hx, hw⟩
  rotate_left
  · subst hw
    exact zT_callX 1 (fun n => rfl) hq hx
  obtain ⟨h2, hx, hw⟩ := hw
  refine zT_call (pc' := 5) (rest := []) 1 (fun n => rfl) hq hx ?_
  show zT E (d + 1) m_x_guard 5 [some (.ref a0), some (.int a1), some (.int a2)] [] h2 r
  refine zT_st (pc' := 6) (L' := [some (.ref a0), some (.int a1), some (.int a2)]) (st' := [.ref a0]) (h' := h2) 1 (fun n => rfl) ?_
  obtain ⟨o3, e, hw⟩ := hw
  refine zT_st (pc' := 9) (L' := [some (.ref a0), some (.int a1), some (.int a2)]) (st' := [.ref o3]) (h' := h2) 1 (fun n => fld_eq (E := E) e _) ?_
  refine zT_st (pc' := 10) (L' := [some (.ref a0), some (.int a1), some (.int a2)]) (st' := [.int a1, .ref o3]) (h' := h2) 1 (fun n => rfl) ?_
  obtain ⟨hq, hw⟩ := hw
  obtain ⟨x4, h5, hx, hw⟩ := hw
  refine zT_call (pc' := 13) (rest := []) 1 (fun n => rfl) hq hx ?_
  show zT E (d + 1) m_x_guard 13 [some (.ref a0), some (.int a1), some (.int a2)] [.int x4] h5 r
  refine zT_st (pc' := 14) (L' := [some (.ref a0), some (.int a1), some (.int a2)]) (st' := [.int a2, .int x4]) (h' := h5) 1 (fun n => rfl) ?_
  by_cases hc : x4 = a2
  · rw [if_pos hc] at hw
    refine zT_st (pc' := 17) (L' := [some (.ref a0), some (.int a1), some (.int a2)]) (st' := []) (h' := h5) 1 (fun n => if_pos hc) ?_
    refine zT_st (pc' := 19) (L' := [some (.ref a0), some (.int a1), some (.int a2)]) (st' := [.int 1, .ref a0]) (h' := h5) 2 (fun n => rfl) ?_
    obtain ⟨hq, hw⟩ := hw
    obtain ⟨x6, h7, hx, hw⟩ := hw
    refine zT_call (pc' := 22) (rest := []) 1 (fun n => rfl) hq hx ?_
    show zT E (d + 1) m_x_guard 22 [some (.ref a0), some (.int a1), some (.int a2)] [.int x6] h7 r
    subst hw
    exact zT_ret 3 rfl
  · rw [if_neg hc] at hw
    refine zT_st (pc' := 25) (L' := [some (.ref a0), some (.int a1), some (.int a2)]) (st' := []) (h' := h5) 1 (fun n => if_neg hc) ?_
    refine zT_st (pc' := 26) (L' := [some (.ref a0), some (.int a1), some (.int a2)]) (st' := [.ref a0]) (h' := h5) 1 (fun n => rfl) ?_
    obtain ⟨o8, e, hw⟩ := hw
    refine zT_st (pc' := 29) (L' := [some (.ref a0), some (.int a1), some (.int a2)]) (st' := [.ref o8]) (h' := h5) 1 (fun n => fld_eq (E := E) e _) ?_
    obtain ⟨hq, hw⟩ := hw
    obtain ⟨h10, hx, hw⟩ := hw
    refine zT_call (pc' := 32) (rest := []) 1 (fun n => rfl) hq hx ?_
    show zT E (d + 1) m_x_guard 32 [some (.ref a0), some (.int a1), some (.int a2)] [] h10 r
    refine zT_st (pc' := 33) (L' := [some (.ref a0), some (.int a1), some (.int a2)]) (st' := [.ref a0]) (h' := h10) 1 (fun n => rfl) ?_
    obtain ⟨o11, e, hw⟩ := hw
    refine zT_st (pc' := 36) (L' := [some (.ref a0), some (.int a1), some (.int a2)]) (st' := [.ref o11]) (h' := h10) 1 (fun n => fld_eq (E := E) e _) ?_
    refine zT_st (pc' := 37) (L' := [some (.ref a0), some (.int a1), some (.int a2)]) (st' := [.ref a0, .ref o11]) (h' := h10) 1 (fun n => rfl) ?_
    obtain ⟨o12, e, hw⟩ := hw
    refine zT_st (pc' := 40) (L' := [some (.ref a0), some (.int a1), some (.int a2)]) (st' := [.ref o12, .ref o11]) (h' := h10) 1 (fun n => fld_eq (E := E) e _) ?_
    obtain ⟨hq, hw⟩ := hw
    obtain ⟨x13, h14, hx, hw⟩ := hw
    refine zT_call (pc' := 43) (rest := [.ref o11]) 1 (fun n => rfl) hq hx ?_
    show zT E (d + 1) m_x_guard 43 [some (.ref a0), some (.int a1), some (.int a2)] [.int x13, .ref o11] h14 r
    refine zT_st (pc' := 47) (L' := [some (.ref a0), some (.int a1), some (.int a2)]) (st' := [.int (x13 ^^^ (1 <<< (a1 &&& 31))), .ref o11]) (h' := h14) 4 (fun n => rfl) ?_
    obtain ⟨hq, hw⟩ := hw
    obtain ⟨h16, hx, hw⟩ := hw
    refine zT_call (pc' := 50) (rest := []) 1 (fun n => rfl) hq hx ?_
    show zT E (d + 1) m_x_guard 50 [some (.ref a0), some (.int a1), some (.int a2)] [] h16 r
    subst hw
    exact zT_ret 2 rfl
set_option maxRecDepth 4000 in
theorem s_x_soothe_0 (E : zX) (d : Nat) (a0 : Nat) (a1 : Int32) (a2 : Int32) (h : zH) (r : zO × zH)
    (hw : isO h a0 11 = true ∧ ((∃ (h2 : zH), zT E d m_x_needPerson 0 [some (.ref a0), some (.int a1)] [] h (.inl none, h2) ∧
    if a2 < 0 then (
      isO h2 a0 11 = true ∧ ∃ (x3 : Int32) (h4 : zH), zT E d m_x_refuse 0 [some (.ref a0), some (.int 1)] [] h2 (.inl (some (.int x3)), h4) ∧
      r = (.inl (some (.int x3)), h4))
    else (
      if a2 ≤ 99 then (
        ∃ o5 : Nat, fld h2 a0 11 6 = some (.ref o5) ∧
        isO h2 o5 0 = true ∧ ∃ (h7 : zH), zT E d m_Book_keepAct 0 [some (.ref o5)] [] h2 (.inl none, h7) ∧
        ∃ o8 : Nat, fld h7 a0 11 9 = some (.ref o8) ∧
        isO h7 o8 10 = true ∧ ∃ (x9 : Int32) (h10 : zH), zT E d m_Scene_temperOf 0 [some (.ref o8), some (.int a1)] [] h7 (.inl (some (.int x9)), h10) ∧
        ∃ o11 : Nat, fld h10 a0 11 9 = some (.ref o11) ∧
        isO h10 o11 10 = true ∧ ∃ (h13 : zH), zT E d m_Scene_setTemper 0 [some (.ref o11), some (.int a1), some (.int a2)] [] h10 (.inl none, h13) ∧
        r = (.inl (some (.int x9)), h13))
      else (
        isO h2 a0 11 = true ∧ ∃ (x14 : Int32) (h15 : zH), zT E d m_x_refuse 0 [some (.ref a0), some (.int 1)] [] h2 (.inl (some (.int x14)), h15) ∧
        r = (.inl (some (.int x14)), h15)))) ∨
    ∃ (e : Nat) (g : zH), zT E d m_x_needPerson 0 [some (.ref a0), some (.int a1)] [] h (.inr e, g) ∧ r = (.inr e, g))) :
    zT E (d + 1) m_x_soothe 0 [some (.ref a0), some (.int a1), some (.int a2), none] [] h r := by
  refine zT_st (pc' := 2) (L' := [some (.ref a0), some (.int a1), some (.int a2), none]) (st' := [.int a1, .ref a0]) (h' := h) 2 (fun n => rfl) ?_
  obtain ⟨hq, hw⟩ := hw
  rcases hw with hw | ⟨e, g, hx, hw⟩
  rotate_left
  · subst hw
    exact zT_callX 1 (fun n => rfl) hq hx
  obtain ⟨h2, hx, hw⟩ := hw
  refine zT_call (pc' := 5) (rest := []) 1 (fun n => rfl) hq hx ?_
  show zT E (d + 1) m_x_soothe 5 [some (.ref a0), some (.int a1), some (.int a2), none] [] h2 r
  refine zT_st (pc' := 6) (L' := [some (.ref a0), some (.int a1), some (.int a2), none]) (st' := [.int a2]) (h' := h2) 1 (fun n => rfl) ?_
  by_cases hc : a2 < 0
  · rw [if_pos hc] at hw
    refine zT_st (pc' := 15) (L' := [some (.ref a0), some (.int a1), some (.int a2), none]) (st' := []) (h' := h2) 1 (fun n => if_pos hc) ?_
    refine zT_st (pc' := 17) (L' := [some (.ref a0), some (.int a1), some (.int a2), none]) (st' := [.int 1, .ref a0]) (h' := h2) 2 (fun n => rfl) ?_
    obtain ⟨hq, hw⟩ := hw
    obtain ⟨x3, h4, hx, hw⟩ := hw
    refine zT_call (pc' := 20) (rest := []) 1 (fun n => rfl) hq hx ?_
    show zT E (d + 1) m_x_soothe 20 [some (.ref a0), some (.int a1), some (.int a2), none] [.int x3] h4 r
    subst hw
    exact zT_ret 1 rfl
  · rw [if_neg hc] at hw
    refine zT_st (pc' := 9) (L' := [some (.ref a0), some (.int a1), some (.int a2), none]) (st' := []) (h' := h2) 1 (fun n => if_neg hc) ?_
    refine zT_st (pc' := 12) (L' := [some (.ref a0), some (.int a1), some (.int a2), none]) (st' := [.int 99, .int a2]) (h' := h2) 2 (fun n => rfl) ?_
    by_cases hc : a2 ≤ 99
    · rw [if_pos hc] at hw
      refine zT_st (pc' := 21) (L' := [some (.ref a0), some (.int a1), some (.int a2), none]) (st' := []) (h' := h2) 1 (fun n => if_pos hc) ?_
      refine zT_st (pc' := 22) (L' := [some (.ref a0), some (.int a1), some (.int a2), none]) (st' := [.ref a0]) (h' := h2) 1 (fun n => rfl) ?_
      obtain ⟨o5, e, hw⟩ := hw
      refine zT_st (pc' := 25) (L' := [some (.ref a0), some (.int a1), some (.int a2), none]) (st' := [.ref o5]) (h' := h2) 1 (fun n => fld_eq (E := E) e _) ?_
      obtain ⟨hq, hw⟩ := hw
      obtain ⟨h7, hx, hw⟩ := hw
      refine zT_call (pc' := 28) (rest := []) 1 (fun n => rfl) hq hx ?_
      show zT E (d + 1) m_x_soothe 28 [some (.ref a0), some (.int a1), some (.int a2), none] [] h7 r
      refine zT_st (pc' := 29) (L' := [some (.ref a0), some (.int a1), some (.int a2), none]) (st' := [.ref a0]) (h' := h7) 1 (fun n => rfl) ?_
      obtain ⟨o8, e, hw⟩ := hw
      refine zT_st (pc' := 32) (L' := [some (.ref a0), some (.int a1), some (.int a2), none]) (st' := [.ref o8]) (h' := h7) 1 (fun n => fld_eq (E := E) e _) ?_
      refine zT_st (pc' := 33) (L' := [some (.ref a0), some (.int a1), some (.int a2), none]) (st' := [.int a1, .ref o8]) (h' := h7) 1 (fun n => rfl) ?_
      obtain ⟨hq, hw⟩ := hw
      obtain ⟨x9, h10, hx, hw⟩ := hw
      refine zT_call (pc' := 36) (rest := []) 1 (fun n => rfl) hq hx ?_
      show zT E (d + 1) m_x_soothe 36 [some (.ref a0), some (.int a1), some (.int a2), none] [.int x9] h10 r
      refine zT_st (pc' := 38) (L' := [some (.ref a0), some (.int a1), some (.int a2), some (.int x9)]) (st' := [.ref a0]) (h' := h10) 2 (fun n => rfl) ?_
      obtain ⟨o11, e, hw⟩ := hw
      refine zT_st (pc' := 41) (L' := [some (.ref a0), some (.int a1), some (.int a2), some (.int x9)]) (st' := [.ref o11]) (h' := h10) 1 (fun n => fld_eq (E := E) e _) ?_
      refine zT_st (pc' := 43) (L' := [some (.ref a0), some (.int a1), some (.int a2), some (.int x9)]) (st' := [.int a2, .int a1, .ref o11]) (h' := h10) 2 (fun n => rfl) ?_
      obtain ⟨hq, hw⟩ := hw
      obtain ⟨h13, hx, hw⟩ := hw
      refine zT_call (pc' := 46) (rest := []) 1 (fun n => rfl) hq hx ?_
      show zT E (d + 1) m_x_soothe 46 [some (.ref a0), some (.int a1), some (.int a2), some (.int x9)] [] h13 r
      subst hw
      exact zT_ret 2 rfl
    · rw [if_neg hc] at hw
      refine zT_st (pc' := 15) (L' := [some (.ref a0), some (.int a1), some (.int a2), none]) (st' := []) (h' := h2) 1 (fun n => if_neg hc) ?_
      refine zT_st (pc' := 17) (L' := [some (.ref a0), some (.int a1), some (.int a2), none]) (st' := [.int 1, .ref a0]) (h' := h2) 2 (fun n => rfl) ?_
      obtain ⟨hq, hw⟩ := hw
      obtain ⟨x14, h15, hx, hw⟩ := hw
      refine zT_call (pc' := 20) (rest := []) 1 (fun n => rfl) hq hx ?_
      show zT E (d + 1) m_x_soothe 20 [some (.ref a0), some (.int a1), some (.int a2), none] [.int x14] h15 r
      subst hw
      exact zT_ret 1 rfl
set_option maxRecDepth 4000 in
theorem s_x_then_0 (E : zX) (d : Nat) (a0 : Nat) (a1 : Int32) (a2 : Int32) (a3 : Int32) (h : zH) (r : zO × zH)
    (hw : isO h a0 11 = true ∧ ((∃ (h2 : zH), zT E d m_x_needBall 0 [some (.ref a0), some (.int a1)] [] h (.inl none, h2) ∧
    isO h2 a0 11 = true ∧ ((∃ (h4 : zH), zT E d m_x_needWhat 0 [some (.ref a0), some (.int a3), some (.int 2)] [] h2 (.inl none, h4) ∧
    isO h4 a0 11 = true ∧ ((∃ (h6 : zH), zT E d m_x_needDays 0 [some (.ref a0), some (.int a2), some (.int 0)] [] h4 (.inl none, h6) ∧
    ∃ o7 : Nat, fld h6 a0 11 11 = some (.ref o7) ∧
    isO h6 o7 3 = true ∧ ∃ (o8 : Nat) (h9 : zH), zT E d m_Forecast_behind 0 [some (.ref o7), some (.int a2), none] [] h6 (.inl (some (.ref o8)), h9) ∧
    if a3 = 0 then (
      isO h9 o8 10 = true ∧ ∃ (x10 : Int32) (h11 : zH), zT E d m_Scene_heldIn 0 [some (.ref o8), some (.int a1)] [] h9 (.inl (some (.int x10)), h11) ∧
      r = (.inl (some (.int x10)), h11))
    else (
      if a3 = 1 then (
        isO h9 o8 10 = true ∧ ∃ (x12 : Int32) (h13 : zH), zT E d m_Scene_ageOf 0 [some (.ref o8), some (.int a1)] [] h9 (.inl (some (.int x12)), h13) ∧
        r = (.inl (some (.int x12)), h13))
      else (
        isO h9 o8 10 = true ∧ ∃ (x14 : Int32) (h15 : zH), zT E d m_Scene_ownerOf 0 [some (.ref o8), some (.int a1)] [] h9 (.inl (some (.int x14)), h15) ∧
        r = (.inl (some (.int x14)), h15)))) ∨
    ∃ (e : Nat) (g : zH), zT E d m_x_needDays 0 [some (.ref a0), some (.int a2), some (.int 0)] [] h4 (.inr e, g) ∧ r = (.inr e, g))) ∨
    ∃ (e : Nat) (g : zH), zT E d m_x_needWhat 0 [some (.ref a0), some (.int a3), some (.int 2)] [] h2 (.inr e, g) ∧ r = (.inr e, g))) ∨
    ∃ (e : Nat) (g : zH), zT E d m_x_needBall 0 [some (.ref a0), some (.int a1)] [] h (.inr e, g) ∧ r = (.inr e, g))) :
    zT E (d + 1) m_x_then 0 [some (.ref a0), some (.int a1), some (.int a2), some (.int a3), none] [] h r := by
  refine zT_st (pc' := 2) (L' := [some (.ref a0), some (.int a1), some (.int a2), some (.int a3), none]) (st' := [.int a1, .ref a0]) (h' := h) 2 (fun n => rfl) ?_
  obtain ⟨hq, hw⟩ := hw
  rcases hw with hw | ⟨e, g, hx, hw⟩
  rotate_left
  · subst hw
    exact zT_callX 1 (fun n => rfl) hq hx
  obtain ⟨h2, hx, hw⟩ := hw
  refine zT_call (pc' := 5) (rest := []) 1 (fun n => rfl) hq hx ?_
  show zT E (d + 1) m_x_then 5 [some (.ref a0), some (.int a1), some (.int a2), some (.int a3), none] [] h2 r
  refine zT_st (pc' := 8) (L' := [some (.ref a0), some (.int a1), some (.int a2), some (.int a3), none]) (st' := [.int 2, .int a3, .ref a0]) (h' := h2) 3 (fun n => rfl) ?_
  obtain ⟨hq, hw⟩ := hw
  rcases hw with hw | ⟨e, g, hx, hw⟩
  rotate_left
  · subst hw
    exact zT_callX 1 (fun n => rfl) hq hx
  obtain ⟨h4, hx, hw⟩ := hw
  refine zT_call (pc' := 11) (rest := []) 1 (fun n => rfl) hq hx ?_
  show zT E (d + 1) m_x_then 11 [some (.ref a0), some (.int a1), some (.int a2), some (.int a3), none] [] h4 r
  refine zT_st (pc' := 14) (L' := [some (.ref a0), some (.int a1), some (.int a2), some (.int a3), none]) (st' := [.int 0, .int a2, .ref a0]) (h' := h4) 3 (fun n => rfl) ?_
  obtain ⟨hq, hw⟩ := hw
  rcases hw with hw | ⟨e, g, hx, hw⟩
  rotate_left
  · subst hw
    exact zT_callX 1 (fun n => rfl) hq hx
  obtain ⟨h6, hx, hw⟩ := hw
  refine zT_call (pc' := 17) (rest := []) 1 (fun n => rfl) hq hx ?_
  show zT E (d + 1) m_x_then 17 [some (.ref a0), some (.int a1), some (.int a2), some (.int a3), none] [] h6 r
  refine zT_st (pc' := 18) (L' := [some (.ref a0), some (.int a1), some (.int a2), some (.int a3), none]) (st' := [.ref a0]) (h' := h6) 1 (fun n => rfl) ?_
  obtain ⟨o7, e, hw⟩ := hw
  refine zT_st (pc' := 21) (L' := [some (.ref a0), some (.int a1), some (.int a2), some (.int a3), none]) (st' := [.ref o7]) (h' := h6) 1 (fun n => fld_eq (E := E) e _) ?_
  refine zT_st (pc' := 22) (L' := [some (.ref a0), some (.int a1), some (.int a2), some (.int a3), none]) (st' := [.int a2, .ref o7]) (h' := h6) 1 (fun n => rfl) ?_
  obtain ⟨hq, hw⟩ := hw
  obtain ⟨o8, h9, hx, hw⟩ := hw
  refine zT_call (pc' := 25) (rest := []) 1 (fun n => rfl) hq hx ?_
  show zT E (d + 1) m_x_then 25 [some (.ref a0), some (.int a1), some (.int a2), some (.int a3), none] [.ref o8] h9 r
  refine zT_st (pc' := 28) (L' := [some (.ref a0), some (.int a1), some (.int a2), some (.int a3), some (.ref o8)]) (st' := [.int a3]) (h' := h9) 2 (fun n => rfl) ?_
  by_cases hc : a3 = 0
  · rw [if_pos hc] at hw
    refine zT_st (pc' := 31) (L' := [some (.ref a0), some (.int a1), some (.int a2), some (.int a3), some (.ref o8)]) (st' := []) (h' := h9) 1 (fun n => if_pos hc) ?_
    refine zT_st (pc' := 34) (L' := [some (.ref a0), some (.int a1), some (.int a2), some (.int a3), some (.ref o8)]) (st' := [.int a1, .ref o8]) (h' := h9) 2 (fun n => rfl) ?_
    obtain ⟨hq, hw⟩ := hw
    obtain ⟨x10, h11, hx, hw⟩ := hw
    refine zT_call (pc' := 37) (rest := []) 1 (fun n => rfl) hq hx ?_
    show zT E (d + 1) m_x_then 37 [some (.ref a0), some (.int a1), some (.int a2), some (.int a3), some (.ref o8)] [.int x10] h11 r
    subst hw
    exact zT_ret 1 rfl
  · rw [if_neg hc] at hw
    refine zT_st (pc' := 38) (L' := [some (.ref a0), some (.int a1), some (.int a2), some (.int a3), some (.ref o8)]) (st' := []) (h' := h9) 1 (fun n => if_neg hc) ?_
    refine zT_st (pc' := 40) (L' := [some (.ref a0), some (.int a1), some (.int a2), some (.int a3), some (.ref o8)]) (st' := [.int 1, .int a3]) (h' := h9) 2 (fun n => rfl) ?_
    by_cases hc : a3 = 1
    · rw [if_pos hc] at hw
      refine zT_st (pc' := 43) (L' := [some (.ref a0), some (.int a1), some (.int a2), some (.int a3), some (.ref o8)]) (st' := []) (h' := h9) 1 (fun n => if_pos hc) ?_
      refine zT_st (pc' := 46) (L' := [some (.ref a0), some (.int a1), some (.int a2), some (.int a3), some (.ref o8)]) (st' := [.int a1, .ref o8]) (h' := h9) 2 (fun n => rfl) ?_
      obtain ⟨hq, hw⟩ := hw
      obtain ⟨x12, h13, hx, hw⟩ := hw
      refine zT_call (pc' := 49) (rest := []) 1 (fun n => rfl) hq hx ?_
      show zT E (d + 1) m_x_then 49 [some (.ref a0), some (.int a1), some (.int a2), some (.int a3), some (.ref o8)] [.int x12] h13 r
      subst hw
      exact zT_ret 2 rfl
    · rw [if_neg hc] at hw
      refine zT_st (pc' := 52) (L' := [some (.ref a0), some (.int a1), some (.int a2), some (.int a3), some (.ref o8)]) (st' := []) (h' := h9) 1 (fun n => if_neg hc) ?_
      refine zT_st (pc' := 55) (L' := [some (.ref a0), some (.int a1), some (.int a2), some (.int a3), some (.ref o8)]) (st' := [.int a1, .ref o8]) (h' := h9) 2 (fun n => rfl) ?_
      obtain ⟨hq, hw⟩ := hw
      obtain ⟨x14, h15, hx, hw⟩ := hw
      refine zT_call (pc' := 58) (rest := []) 1 (fun n => rfl) hq hx ?_
      show zT E (d + 1) m_x_then 58 [some (.ref a0), some (.int a1), some (.int a2), some (.int a3), some (.ref o8)] [.int x14] h15 r
      subst hw
      exact zT_ret 1 rfl
set_option maxRecDepth 4000 in
theorem s_x_needWhat_0 (E : zX) (d : Nat) (a0 : Nat) (a1 : Int32) (a2 : Int32) (h : zH) (r : zO × zH)
    (hw : if a1 < 0 then (
      r = (.inr 0, (h.1, h.2 + 1)))
    else (
      if a1 ≤ a2 then (
        r = (.inl (none), h))
      else (
        r = (.inr 0, (h.1, h.2 + 1))))) :
    zT E (d + 8) m_x_needWhat 0 [some (.ref a0), some (.int a1), some (.int a2)] [] h r := by
  refine zT_st (pc' := 1) (L' := [some (.ref a0), some (.int a1), some (.int a2)]) (st' := [.int a1]) (h' := h) 1 (fun n => rfl) ?_
  by_cases hc : a1 < 0
  · rw [if_pos hc] at hw
    refine zT_st (pc' := 9) (L' := [some (.ref a0), some (.int a1), some (.int a2)]) (st' := []) (h' := h) 1 (fun n => if_pos hc) ?_
    subst hw
    exact zT_ret 1 rfl
  · rw [if_neg hc] at hw
    refine zT_st (pc' := 4) (L' := [some (.ref a0), some (.int a1), some (.int a2)]) (st' := []) (h' := h) 1 (fun n => if_neg hc) ?_
    refine zT_st (pc' := 6) (L' := [some (.ref a0), some (.int a1), some (.int a2)]) (st' := [.int a2, .int a1]) (h' := h) 2 (fun n => rfl) ?_
    by_cases hc : a1 ≤ a2
    · rw [if_pos hc] at hw
      refine zT_st (pc' := 20) (L' := [some (.ref a0), some (.int a1), some (.int a2)]) (st' := []) (h' := h) 1 (fun n => if_pos hc) ?_
      subst hw
      exact zT_ret 1 rfl
    · rw [if_neg hc] at hw
      refine zT_st (pc' := 9) (L' := [some (.ref a0), some (.int a1), some (.int a2)]) (st' := []) (h' := h) 1 (fun n => if_neg hc) ?_
      subst hw
      exact zT_ret 1 rfl
set_option maxRecDepth 4000 in
theorem s_x_needDays_0 (E : zX) (d : Nat) (a0 : Nat) (a1 : Int32) (a2 : Int32) (h : zH) (r : zO × zH)
    (hw : if a1 < a2 then (
      r = (.inr 1, (h.1, h.2 + 1)))
    else (
      if a1 ≤ 60 then (
        r = (.inl (none), h))
      else (
        r = (.inr 1, (h.1, h.2 + 1))))) :
    zT E (d + 8) m_x_needDays 0 [some (.ref a0), some (.int a1), some (.int a2)] [] h r := by
  refine zT_st (pc' := 2) (L' := [some (.ref a0), some (.int a1), some (.int a2)]) (st' := [.int a2, .int a1]) (h' := h) 2 (fun n => rfl) ?_
  by_cases hc : a1 < a2
  · rw [if_pos hc] at hw
    refine zT_st (pc' := 11) (L' := [some (.ref a0), some (.int a1), some (.int a2)]) (st' := []) (h' := h) 1 (fun n => if_pos hc) ?_
    subst hw
    exact zT_ret 1 rfl
  · rw [if_neg hc] at hw
    refine zT_st (pc' := 5) (L' := [some (.ref a0), some (.int a1), some (.int a2)]) (st' := []) (h' := h) 1 (fun n => if_neg hc) ?_
    refine zT_st (pc' := 8) (L' := [some (.ref a0), some (.int a1), some (.int a2)]) (st' := [.int 60, .int a1]) (h' := h) 2 (fun n => rfl) ?_
    by_cases hc : a1 ≤ 60
    · rw [if_pos hc] at hw
      refine zT_st (pc' := 22) (L' := [some (.ref a0), some (.int a1), some (.int a2)]) (st' := []) (h' := h) 1 (fun n => if_pos hc) ?_
      subst hw
      exact zT_ret 1 rfl
    · rw [if_neg hc] at hw
      refine zT_st (pc' := 11) (L' := [some (.ref a0), some (.int a1), some (.int a2)]) (st' := []) (h' := h) 1 (fun n => if_neg hc) ?_
      subst hw
      exact zT_ret 1 rfl
set_option maxRecDepth 4000 in
theorem s_x_mood_0 (E : zX) (d : Nat) (a0 : Nat) (a1 : Int32) (a2 : Int32) (a3 : Int32) (h : zH) (r : zO × zH)
    (hw : isO h a0 11 = true ∧ ((∃ (h2 : zH), zT E d m_x_needPerson 0 [some (.ref a0), some (.int a1)] [] h (.inl none, h2) ∧
    isO h2 a0 11 = true ∧ ((∃ (h4 : zH), zT E d m_x_needWhat 0 [some (.ref a0), some (.int a3), some (.int 2)] [] h2 (.inl none, h4) ∧
    isO h4 a0 11 = true ∧ ((∃ (h6 : zH), zT E d m_x_needDays 0 [some (.ref a0), some (.int a2), some (.int 0)] [] h4 (.inl none, h6) ∧
    ∃ o7 : Nat, fld h6 a0 11 11 = some (.ref o7) ∧
    isO h6 o7 3 = true ∧ ∃ (o8 : Nat) (h9 : zH), zT E d m_Forecast_behind 0 [some (.ref o7), some (.int a2), none] [] h6 (.inl (some (.ref o8)), h9) ∧
    if a3 = 0 then (
      isO h9 o8 10 = true ∧ ∃ (x10 : Int32) (h11 : zH), zT E d m_Scene_temperOf 0 [some (.ref o8), some (.int a1)] [] h9 (.inl (some (.int x10)), h11) ∧
      r = (.inl (some (.int x10)), h11))
    else (
      if a3 = 1 then (
        isO h9 o8 10 = true ∧ ∃ (x12 : Int32) (h13 : zH), zT E d m_Scene_shoutedBy 0 [some (.ref o8), some (.int a1)] [] h9 (.inl (some (.int x12)), h13) ∧
        r = (.inl (some (.int x12)), h13))
      else (
        isO h9 o8 10 = true ∧ ∃ (x14 : Int32) (h15 : zH), zT E d m_Scene_heardBy 0 [some (.ref o8), some (.int a1)] [] h9 (.inl (some (.int x14)), h15) ∧
        r = (.inl (some (.int x14)), h15)))) ∨
    ∃ (e : Nat) (g : zH), zT E d m_x_needDays 0 [some (.ref a0), some (.int a2), some (.int 0)] [] h4 (.inr e, g) ∧ r = (.inr e, g))) ∨
    ∃ (e : Nat) (g : zH), zT E d m_x_needWhat 0 [some (.ref a0), some (.int a3), some (.int 2)] [] h2 (.inr e, g) ∧ r = (.inr e, g))) ∨
    ∃ (e : Nat) (g : zH), zT E d m_x_needPerson 0 [some (.ref a0), some (.int a1)] [] h (.inr e, g) ∧ r = (.inr e, g))) :
    zT E (d + 1) m_x_mood 0 [some (.ref a0), some (.int a1), some (.int a2), some (.int a3), none] [] h r := by
  refine zT_st (pc' := 2) (L' := [some (.ref a0), some (.int a1), some (.int a2), some (.int a3), none]) (st' := [.int a1, .ref a0]) (h' := h) 2 (fun n => rfl) ?_
  obtain ⟨hq, hw⟩ := hw
  rcases hw with hw | ⟨e, g, hx, hw⟩
  rotate_left
  · subst hw
    exact zT_callX 1 (fun n => rfl) hq hx
  obtain ⟨h2, hx, hw⟩ := hw
  refine zT_call (pc' := 5) (rest := []) 1 (fun n => rfl) hq hx ?_
  show zT E (d + 1) m_x_mood 5 [some (.ref a0), some (.int a1), some (.int a2), some (.int a3), none] [] h2 r
  refine zT_st (pc' := 8) (L' := [some (.ref a0), some (.int a1), some (.int a2), some (.int a3), none]) (st' := [.int 2, .int a3, .ref a0]) (h' := h2) 3 (fun n => rfl) ?_
  obtain ⟨hq, hw⟩ := hw
  rcases hw with hw | ⟨e, g, hx, hw⟩
  rotate_left
  · subst hw
    exact zT_callX 1 (fun n => rfl) hq hx
  obtain ⟨h4, hx, hw⟩ := hw
  refine zT_call (pc' := 11) (rest := []) 1 (fun n => rfl) hq hx ?_
  show zT E (d + 1) m_x_mood 11 [some (.ref a0), some (.int a1), some (.int a2), some (.int a3), none] [] h4 r
  refine zT_st (pc' := 14) (L' := [some (.ref a0), some (.int a1), some (.int a2), some (.int a3), none]) (st' := [.int 0, .int a2, .ref a0]) (h' := h4) 3 (fun n => rfl) ?_
  obtain ⟨hq, hw⟩ := hw
  rcases hw with hw | ⟨e, g, hx, hw⟩
  rotate_left
  · subst hw
    exact zT_callX 1 (fun n => rfl) hq hx
  obtain ⟨h6, hx, hw⟩ := hw
  refine zT_call (pc' := 17) (rest := []) 1 (fun n => rfl) hq hx ?_
  show zT E (d + 1) m_x_mood 17 [some (.ref a0), some (.int a1), some (.int a2), some (.int a3), none] [] h6 r
  refine zT_st (pc' := 18) (L' := [some (.ref a0), some (.int a1), some (.int a2), some (.int a3), none]) (st' := [.ref a0]) (h' := h6) 1 (fun n => rfl) ?_
  obtain ⟨o7, e, hw⟩ := hw
  refine zT_st (pc' := 21) (L' := [some (.ref a0), some (.int a1), some (.int a2), some (.int a3), none]) (st' := [.ref o7]) (h' := h6) 1 (fun n => fld_eq (E := E) e _) ?_
  refine zT_st (pc' := 22) (L' := [some (.ref a0), some (.int a1), some (.int a2), some (.int a3), none]) (st' := [.int a2, .ref o7]) (h' := h6) 1 (fun n => rfl) ?_
  obtain ⟨hq, hw⟩ := hw
  obtain ⟨o8, h9, hx, hw⟩ := hw
  refine zT_call (pc' := 25) (rest := []) 1 (fun n => rfl) hq hx ?_
  show zT E (d + 1) m_x_mood 25 [some (.ref a0), some (.int a1), some (.int a2), some (.int a3), none] [.ref o8] h9 r
  refine zT_st (pc' := 28) (L' := [some (.ref a0), some (.int a1), some (.int a2), some (.int a3), some (.ref o8)]) (st' := [.int a3]) (h' := h9) 2 (fun n => rfl) ?_
  by_cases hc : a3 = 0
  · rw [if_pos hc] at hw
    refine zT_st (pc' := 31) (L' := [some (.ref a0), some (.int a1), some (.int a2), some (.int a3), some (.ref o8)]) (st' := []) (h' := h9) 1 (fun n => if_pos hc) ?_
    refine zT_st (pc' := 34) (L' := [some (.ref a0), some (.int a1), some (.int a2), some (.int a3), some (.ref o8)]) (st' := [.int a1, .ref o8]) (h' := h9) 2 (fun n => rfl) ?_
    obtain ⟨hq, hw⟩ := hw
    obtain ⟨x10, h11, hx, hw⟩ := hw
    refine zT_call (pc' := 37) (rest := []) 1 (fun n => rfl) hq hx ?_
    show zT E (d + 1) m_x_mood 37 [some (.ref a0), some (.int a1), some (.int a2), some (.int a3), some (.ref o8)] [.int x10] h11 r
    subst hw
    exact zT_ret 1 rfl
  · rw [if_neg hc] at hw
    refine zT_st (pc' := 38) (L' := [some (.ref a0), some (.int a1), some (.int a2), some (.int a3), some (.ref o8)]) (st' := []) (h' := h9) 1 (fun n => if_neg hc) ?_
    refine zT_st (pc' := 40) (L' := [some (.ref a0), some (.int a1), some (.int a2), some (.int a3), some (.ref o8)]) (st' := [.int 1, .int a3]) (h' := h9) 2 (fun n => rfl) ?_
    by_cases hc : a3 = 1
    · rw [if_pos hc] at hw
      refine zT_st (pc' := 43) (L' := [some (.ref a0), some (.int a1), some (.int a2), some (.int a3), some (.ref o8)]) (st' := []) (h' := h9) 1 (fun n => if_pos hc) ?_
      refine zT_st (pc' := 46) (L' := [some (.ref a0), some (.int a1), some (.int a2), some (.int a3), some (.ref o8)]) (st' := [.int a1, .ref o8]) (h' := h9) 2 (fun n => rfl) ?_
      obtain ⟨hq, hw⟩ := hw
      obtain ⟨x12, h13, hx, hw⟩ := hw
      refine zT_call (pc' := 49) (rest := []) 1 (fun n => rfl) hq hx ?_
      show zT E (d + 1) m_x_mood 49 [some (.ref a0), some (.int a1), some (.int a2), some (.int a3), some (.ref o8)] [.int x12] h13 r
      subst hw
      exact zT_ret 2 rfl
    · rw [if_neg hc] at hw
      refine zT_st (pc' := 52) (L' := [some (.ref a0), some (.int a1), some (.int a2), some (.int a3), some (.ref o8)]) (st' := []) (h' := h9) 1 (fun n => if_neg hc) ?_
      refine zT_st (pc' := 55) (L' := [some (.ref a0), some (.int a1), some (.int a2), some (.int a3), some (.ref o8)]) (st' := [.int a1, .ref o8]) (h' := h9) 2 (fun n => rfl) ?_
      obtain ⟨hq, hw⟩ := hw
      obtain ⟨x14, h15, hx, hw⟩ := hw
      refine zT_call (pc' := 58) (rest := []) 1 (fun n => rfl) hq hx ?_
      show zT E (d + 1) m_x_mood 58 [some (.ref a0), some (.int a1), some (.int a2), some (.int a3), some (.ref o8)] [.int x14] h15 r
      subst hw
      exact zT_ret 1 rfl
set_option maxRecDepth 4000 in
theorem s_x_off_0 (E : zX) (d : Nat) (a0 : Nat) (a1 : Int32) (h : zH) (r : zO × zH)
    (hw : isO h a0 11 = true ∧ ((∃ (h2 : zH), zT E d m_x_needBall 0 [some (.ref a0), some (.int a1)] [] h (.inl none, h2) ∧
    ∃ o3 : Nat, fld h2 a0 11 11 = some (.ref o3) ∧
    isO h2 o3 3 = true ∧ ∃ (x4 : Int32) (h5 : zH), zT E d m_Forecast_firstDay 0 [some (.ref o3), some (.int 0), some (.int (1 <<< (a1 &&& 31))), none] [] h2 (.inl (some (.int x4)), h5) ∧
    r = (.inl (some (.int x4)), h5)) ∨
    ∃ (e : Nat) (g : zH), zT E d m_x_needBall 0 [some (.ref a0), some (.int a1)] [] h (.inr e, g) ∧ r = (.inr e, g))) :
    zT E (d + 1) m_x_off 0 [some (.ref a0), some (.int a1)] [] h r := by
  refine zT_st (pc' := 2) (L' := [some (.ref a0), some (.int a1)]) (st' := [.int a1, .ref a0]) (h' := h) 2 (fun n => rfl) ?_
  obtain ⟨hq, hw⟩ := hw
  rcases hw with hw | ⟨e, g, hx, hw⟩
  rotate_left
  · subst hw
    exact zT_callX 1 (fun n => rfl) hq hx
  obtain ⟨h2, hx, hw⟩ := hw
  refine zT_call (pc' := 5) (rest := []) 1 (fun n => rfl) hq hx ?_
  show zT E (d + 1) m_x_off 5 [some (.ref a0), some (.int a1)] [] h2 r
  refine zT_st (pc' := 6) (L' := [some (.ref a0), some (.int a1)]) (st' := [.ref a0]) (h' := h2) 1 (fun n => rfl) ?_
  obtain ⟨o3, e, hw⟩ := hw
  refine zT_st (pc' := 9) (L' := [some (.ref a0), some (.int a1)]) (st' := [.ref o3]) (h' := h2) 1 (fun n => fld_eq (E := E) e _) ?_
  refine zT_st (pc' := 13) (L' := [some (.ref a0), some (.int a1)]) (st' := [.int (1 <<< (a1 &&& 31)), .int 0, .ref o3]) (h' := h2) 4 (fun n => rfl) ?_
  obtain ⟨hq, hw⟩ := hw
  obtain ⟨x4, h5, hx, hw⟩ := hw
  refine zT_call (pc' := 16) (rest := []) 1 (fun n => rfl) hq hx ?_
  show zT E (d + 1) m_x_off 16 [some (.ref a0), some (.int a1)] [.int x4] h5 r
  subst hw
  exact zT_ret 1 rfl
set_option maxRecDepth 4000 in
theorem s_x_later_0 (E : zX) (d : Nat) (a0 : Nat) (a1 : Int32) (a2 : Int32) (h : zH) (r : zO × zH)
    (hw : isO h a0 11 = true ∧ ((∃ (h2 : zH), zT E d m_x_needWhat 0 [some (.ref a0), some (.int a2), some (.int 3)] [] h (.inl none, h2) ∧
    isO h2 a0 11 = true ∧ ((∃ (h4 : zH), zT E d m_x_needDays 0 [some (.ref a0), some (.int a1), some (.int 0)] [] h2 (.inl none, h4) ∧
    if a2 = 0 then (
      ∃ o5 : Nat, fld h4 a0 11 11 = some (.ref o5) ∧
      isO h4 o5 3 = true ∧ ∃ (x6 : Int32) (h7 : zH), zT E d m_Forecast_bursts 0 [some (.ref o5), some (.int a1), none, none] [] h4 (.inl (some (.int x6)), h7) ∧
      r = (.inl (some (.int x6)), h7))
    else (
      ∃ o8 : Nat, fld h4 a0 11 11 = some (.ref o8) ∧
      isO h4 o8 3 = true ∧ ∃ (o9 : Nat) (h10 : zH), zT E d m_Forecast_behind 0 [some (.ref o8), some (.int a1), none] [] h4 (.inl (some (.ref o9)), h10) ∧
      if a2 = 1 then (
        ∃ o11 : Nat, fld h10 a0 11 10 = some (.ref o11) ∧
        isO h10 o11 2 = true ∧ ∃ (x12 : Int32) (h13 : zH), zT E d m_Downs_heldByAll 0 [some (.ref o11), some (.ref o9), none, none] [] h10 (.inl (some (.int x12)), h13) ∧
        r = (.inl (some (.int x12)), h13))
      else (
        if a2 = 2 then (
          ∃ o14 : Nat, fld h10 a0 11 10 = some (.ref o14) ∧
          isO h10 o14 2 = true ∧ ∃ (x15 : Int32) (h16 : zH), zT E d m_Downs_whites 0 [some (.ref o14), some (.ref o9), none, none] [] h10 (.inl (some (.int x15)), h16) ∧
          r = (.inl (some (.int x15)), h16))
        else (
          ∃ o17 : Nat, fld h10 a0 11 10 = some (.ref o17) ∧
          isO h10 o17 2 = true ∧ ∃ (x18 : Int32) (h19 : zH), zT E d m_Downs_crossest 0 [some (.ref o17), some (.ref o9), none, none] [] h10 (.inl (some (.int x18)), h19) ∧
          r = (.inl (some (.int x18)), h19))))) ∨
    ∃ (e : Nat) (g : zH), zT E d m_x_needDays 0 [some (.ref a0), some (.int a1), some (.int 0)] [] h2 (.inr e, g) ∧ r = (.inr e, g))) ∨
    ∃ (e : Nat) (g : zH), zT E d m_x_needWhat 0 [some (.ref a0), some (.int a2), some (.int 3)] [] h (.inr e, g) ∧ r = (.inr e, g))) :
    zT E (d + 1) m_x_later 0 [some (.ref a0), some (.int a1), some (.int a2), none] [] h r := by
  refine zT_st (pc' := 3) (L' := [some (.ref a0), some (.int a1), some (.int a2), none]) (st' := [.int 3, .int a2, .ref a0]) (h' := h) 3 (fun n => rfl) ?_
  obtain ⟨hq, hw⟩ := hw
  rcases hw with hw | ⟨e, g, hx, hw⟩
  rotate_left
  · subst hw
    exact zT_callX 1 (fun n => rfl) hq hx
  obtain ⟨h2, hx, hw⟩ := hw
  refine zT_call (pc' := 6) (rest := []) 1 (fun n => rfl) hq hx ?_
  show zT E (d + 1) m_x_later 6 [some (.ref a0), some (.int a1), some (.int a2), none] [] h2 r
  refine zT_st (pc' := 9) (L' := [some (.ref a0), some (.int a1), some (.int a2), none]) (st' := [.int 0, .int a1, .ref a0]) (h' := h2) 3 (fun n => rfl) ?_
  obtain ⟨hq, hw⟩ := hw
  rcases hw with hw | ⟨e, g, hx, hw⟩
  rotate_left
  · subst hw
    exact zT_callX 1 (fun n => rfl) hq hx
  obtain ⟨h4, hx, hw⟩ := hw
  refine zT_call (pc' := 12) (rest := []) 1 (fun n => rfl) hq hx ?_
  show zT E (d + 1) m_x_later 12 [some (.ref a0), some (.int a1), some (.int a2), none] [] h4 r
  refine zT_st (pc' := 13) (L' := [some (.ref a0), some (.int a1), some (.int a2), none]) (st' := [.int a2]) (h' := h4) 1 (fun n => rfl) ?_
  by_cases hc : a2 = 0
  · rw [if_pos hc] at hw
    refine zT_st (pc' := 16) (L' := [some (.ref a0), some (.int a1), some (.int a2), none]) (st' := []) (h' := h4) 1 (fun n => if_pos hc) ?_
    refine zT_st (pc' := 17) (L' := [some (.ref a0), some (.int a1), some (.int a2), none]) (st' := [.ref a0]) (h' := h4) 1 (fun n => rfl) ?_
    obtain ⟨o5, e, hw⟩ := hw
    refine zT_st (pc' := 20) (L' := [some (.ref a0), some (.int a1), some (.int a2), none]) (st' := [.ref o5]) (h' := h4) 1 (fun n => fld_eq (E := E) e _) ?_
    refine zT_st (pc' := 21) (L' := [some (.ref a0), some (.int a1), some (.int a2), none]) (st' := [.int a1, .ref o5]) (h' := h4) 1 (fun n => rfl) ?_
    obtain ⟨hq, hw⟩ := hw
    obtain ⟨x6, h7, hx, hw⟩ := hw
    refine zT_call (pc' := 24) (rest := []) 1 (fun n => rfl) hq hx ?_
    show zT E (d + 1) m_x_later 24 [some (.ref a0), some (.int a1), some (.int a2), none] [.int x6] h7 r
    subst hw
    exact zT_ret 1 rfl
  · rw [if_neg hc] at hw
    refine zT_st (pc' := 25) (L' := [some (.ref a0), some (.int a1), some (.int a2), none]) (st' := []) (h' := h4) 1 (fun n => if_neg hc) ?_
    refine zT_st (pc' := 26) (L' := [some (.ref a0), some (.int a1), some (.int a2), none]) (st' := [.ref a0]) (h' := h4) 1 (fun n => rfl) ?_
    obtain ⟨o8, e, hw⟩ := hw
    refine zT_st (pc' := 29) (L' := [some (.ref a0), some (.int a1), some (.int a2), none]) (st' := [.ref o8]) (h' := h4) 1 (fun n => fld_eq (E := E) e _) ?_
    refine zT_st (pc' := 30) (L' := [some (.ref a0), some (.int a1), some (.int a2), none]) (st' := [.int a1, .ref o8]) (h' := h4) 1 (fun n => rfl) ?_
    obtain ⟨hq, hw⟩ := hw
    obtain ⟨o9, h10, hx, hw⟩ := hw
    refine zT_call (pc' := 33) (rest := []) 1 (fun n => rfl) hq hx ?_
    show zT E (d + 1) m_x_later 33 [some (.ref a0), some (.int a1), some (.int a2), none] [.ref o9] h10 r
    refine zT_st (pc' := 36) (L' := [some (.ref a0), some (.int a1), some (.int a2), some (.ref o9)]) (st' := [.int 1, .int a2]) (h' := h10) 3 (fun n => rfl) ?_
    by_cases hc : a2 = 1
    · rw [if_pos hc] at hw
      refine zT_st (pc' := 39) (L' := [some (.ref a0), some (.int a1), some (.int a2), some (.ref o9)]) (st' := []) (h' := h10) 1 (fun n => if_pos hc) ?_
      refine zT_st (pc' := 40) (L' := [some (.ref a0), some (.int a1), some (.int a2), some (.ref o9)]) (st' := [.ref a0]) (h' := h10) 1 (fun n => rfl) ?_
      obtain ⟨o11, e, hw⟩ := hw
      refine zT_st (pc' := 43) (L' := [some (.ref a0), some (.int a1), some (.int a2), some (.ref o9)]) (st' := [.ref o11]) (h' := h10) 1 (fun n => fld_eq (E := E) e _) ?_
      refine zT_st (pc' := 44) (L' := [some (.ref a0), some (.int a1), some (.int a2), some (.ref o9)]) (st' := [.ref o9, .ref o11]) (h' := h10) 1 (fun n => rfl) ?_
      obtain ⟨hq, hw⟩ := hw
      obtain ⟨x12, h13, hx, hw⟩ := hw
      refine zT_call (pc' := 47) (rest := []) 1 (fun n => rfl) hq hx ?_
      show zT E (d + 1) m_x_later 47 [some (.ref a0), some (.int a1), some (.int a2), some (.ref o9)] [.int x12] h13 r
      subst hw
      exact zT_ret 1 rfl
    · rw [if_neg hc] at hw
      refine zT_st (pc' := 48) (L' := [some (.ref a0), some (.int a1), some (.int a2), some (.ref o9)]) (st' := []) (h' := h10) 1 (fun n => if_neg hc) ?_
      refine zT_st (pc' := 50) (L' := [some (.ref a0), some (.int a1), some (.int a2), some (.ref o9)]) (st' := [.int 2, .int a2]) (h' := h10) 2 (fun n => rfl) ?_
      by_cases hc : a2 = 2
      · rw [if_pos hc] at hw
        refine zT_st (pc' := 53) (L' := [some (.ref a0), some (.int a1), some (.int a2), some (.ref o9)]) (st' := []) (h' := h10) 1 (fun n => if_pos hc) ?_
        refine zT_st (pc' := 54) (L' := [some (.ref a0), some (.int a1), some (.int a2), some (.ref o9)]) (st' := [.ref a0]) (h' := h10) 1 (fun n => rfl) ?_
        obtain ⟨o14, e, hw⟩ := hw
        refine zT_st (pc' := 57) (L' := [some (.ref a0), some (.int a1), some (.int a2), some (.ref o9)]) (st' := [.ref o14]) (h' := h10) 1 (fun n => fld_eq (E := E) e _) ?_
        refine zT_st (pc' := 58) (L' := [some (.ref a0), some (.int a1), some (.int a2), some (.ref o9)]) (st' := [.ref o9, .ref o14]) (h' := h10) 1 (fun n => rfl) ?_
        obtain ⟨hq, hw⟩ := hw
        obtain ⟨x15, h16, hx, hw⟩ := hw
        refine zT_call (pc' := 61) (rest := []) 1 (fun n => rfl) hq hx ?_
        show zT E (d + 1) m_x_later 61 [some (.ref a0), some (.int a1), some (.int a2), some (.ref o9)] [.int x15] h16 r
        subst hw
        exact zT_ret 2 rfl
      · rw [if_neg hc] at hw
        refine zT_st (pc' := 64) (L' := [some (.ref a0), some (.int a1), some (.int a2), some (.ref o9)]) (st' := []) (h' := h10) 1 (fun n => if_neg hc) ?_
        refine zT_st (pc' := 65) (L' := [some (.ref a0), some (.int a1), some (.int a2), some (.ref o9)]) (st' := [.ref a0]) (h' := h10) 1 (fun n => rfl) ?_
        obtain ⟨o17, e, hw⟩ := hw
        refine zT_st (pc' := 68) (L' := [some (.ref a0), some (.int a1), some (.int a2), some (.ref o9)]) (st' := [.ref o17]) (h' := h10) 1 (fun n => fld_eq (E := E) e _) ?_
        refine zT_st (pc' := 69) (L' := [some (.ref a0), some (.int a1), some (.int a2), some (.ref o9)]) (st' := [.ref o9, .ref o17]) (h' := h10) 1 (fun n => rfl) ?_
        obtain ⟨hq, hw⟩ := hw
        obtain ⟨x18, h19, hx, hw⟩ := hw
        refine zT_call (pc' := 72) (rest := []) 1 (fun n => rfl) hq hx ?_
        show zT E (d + 1) m_x_later 72 [some (.ref a0), some (.int a1), some (.int a2), some (.ref o9)] [.int x18] h19 r
        subst hw
        exact zT_ret 1 rfl
set_option maxRecDepth 4000 in
theorem s_x_toGuard_0 (E : zX) (d : Nat) (a0 : Nat) (a1 : Int32) (a2 : Int32) (h : zH) (r : zO × zH)
    (hw : isO h a0 11 = true ∧ ((∃ (h2 : zH), zT E d m_x_needBall 0 [some (.ref a0), some (.int a1)] [] h (.inl none, h2) ∧
    isO h2 a0 11 = true ∧ ((∃ (h4 : zH), zT E d m_x_needBall 0 [some (.ref a0), some (.int a2)] [] h2 (.inl none, h4) ∧
    if a1 = a2 then (
      r = (.inl (some (.int (-1))), h4))
    else (
      ∃ o5 : Nat, fld h4 a0 11 12 = some (.ref o5) ∧
      isO h4 o5 6 = true ∧ ∃ (x6 : Int32) (h7 : zH), zT E d m_Plans_guardsBetween 0 [some (.ref o5), some (.int a1), some (.int a2), none, none, none, none, none] [] h4 (.inl (some (.int x6)), h7) ∧
      r = (.inl (some (.int x6)), h7))) ∨
    ∃ (e : Nat) (g : zH), zT E d m_x_needBall 0 [some (.ref a0), some (.int a2)] [] h2 (.inr e, g) ∧ r = (.inr e, g))) ∨
    ∃ (e : Nat) (g : zH), zT E d m_x_needBall 0 [some (.ref a0), some (.int a1)] [] h (.inr e, g) ∧ r = (.inr e, g))) :
    zT E (d + 1) m_x_toGuard 0 [some (.ref a0), some (.int a1), some (.int a2)] [] h r := by
  refine zT_st (pc' := 2) (L' := [some (.ref a0), some (.int a1), some (.int a2)]) (st' := [.int a1, .ref a0]) (h' := h) 2 (fun n => rfl) ?_
  obtain ⟨hq, hw⟩ := hw
  rcases hw with hw | ⟨e, g, hx, hw⟩
  rotate_left
  · subst hw
    exact zT_callX 1 (fun n => rfl) hq hx
  obtain ⟨h2, hx, hw⟩ := hw
  refine zT_call (pc' := 5) (rest := []) 1 (fun n => rfl) hq hx ?_
  show zT E (d + 1) m_x_toGuard 5 [some (.ref a0), some (.int a1), some (.int a2)] [] h2 r
  refine zT_st (pc' := 7) (L' := [some (.ref a0), some (.int a1), some (.int a2)]) (st' := [.int a2, .ref a0]) (h' := h2) 2 (fun n => rfl) ?_
  obtain ⟨hq, hw⟩ := hw
  rcases hw with hw | ⟨e, g, hx, hw⟩
  rotate_left
  · subst hw
    exact zT_callX 1 (fun n => rfl) hq hx
  obtain ⟨h4, hx, hw⟩ := hw
  refine zT_call (pc' := 10) (rest := []) 1 (fun n => rfl) hq hx ?_
  show zT E (d + 1) m_x_toGuard 10 [some (.ref a0), some (.int a1), some (.int a2)] [] h4 r
  refine zT_st (pc' := 12) (L' := [some (.ref a0), some (.int a1), some (.int a2)]) (st' := [.int a2, .int a1]) (h' := h4) 2 (fun n => rfl) ?_
  by_cases hc : a1 = a2
  · rw [if_pos hc] at hw
    refine zT_st (pc' := 15) (L' := [some (.ref a0), some (.int a1), some (.int a2)]) (st' := []) (h' := h4) 1 (fun n => if_pos hc) ?_
    subst hw
    exact zT_ret 3 rfl
  · rw [if_neg hc] at hw
    refine zT_st (pc' := 19) (L' := [some (.ref a0), some (.int a1), some (.int a2)]) (st' := []) (h' := h4) 1 (fun n => if_neg hc) ?_
    refine zT_st (pc' := 20) (L' := [some (.ref a0), some (.int a1), some (.int a2)]) (st' := [.ref a0]) (h' := h4) 1 (fun n => rfl) ?_
    obtain ⟨o5, e, hw⟩ := hw
    refine zT_st (pc' := 23) (L' := [some (.ref a0), some (.int a1), some (.int a2)]) (st' := [.ref o5]) (h' := h4) 1 (fun n => fld_eq (E := E) e _) ?_
    refine zT_st (pc' := 25) (L' := [some (.ref a0), some (.int a1), some (.int a2)]) (st' := [.int a2, .int a1, .ref o5]) (h' := h4) 2 (fun n => rfl) ?_
    obtain ⟨hq, hw⟩ := hw
    obtain ⟨x6, h7, hx, hw⟩ := hw
    refine zT_call (pc' := 28) (rest := []) 1 (fun n => rfl) hq hx ?_
    show zT E (d + 1) m_x_toGuard 28 [some (.ref a0), some (.int a1), some (.int a2)] [.int x6] h7 r
    subst hw
    exact zT_ret 1 rfl
set_option maxRecDepth 4000 in
theorem s_x_fire_0 (E : zX) (d : Nat) (a0 : Nat) (a1 : Int32) (a2 : Int32) (h : zH) (r : zO × zH)
    (hw : isO h a0 11 = true ∧ ((∃ (h2 : zH), zT E d m_x_needBall 0 [some (.ref a0), some (.int a1)] [] h (.inl none, h2) ∧
    isO h2 a0 11 = true ∧ ((∃ (h4 : zH), zT E d m_x_needWhat 0 [some (.ref a0), some (.int a2), some (.int 1)] [] h2 (.inl none, h4) ∧
    ∃ o5 : Nat, fld h4 a0 11 12 = some (.ref o5) ∧
    isO h4 o5 6 = true ∧ ∃ (x6 : Int32) (h7 : zH), zT E d m_Plans_bestCellFor 0 [some (.ref o5), some (.int a1), none, none, none, none, none] [] h4 (.inl (some (.int x6)), h7) ∧
    if a2 = 0 then (
      r = (.inl (some (.int x6)), h7))
    else (
      ∃ o8 : Nat, fld h7 a0 11 12 = some (.ref o8) ∧
      isO h7 o8 6 = true ∧ ∃ (x9 : Int32) (h10 : zH), zT E d m_Plans_homesInReach 0 [some (.ref o8), some (.int a1), some (.int x6), none, none] [] h7 (.inl (some (.int x9)), h10) ∧
      r = (.inl (some (.int x9)), h10))) ∨
    ∃ (e : Nat) (g : zH), zT E d m_x_needWhat 0 [some (.ref a0), some (.int a2), some (.int 1)] [] h2 (.inr e, g) ∧ r = (.inr e, g))) ∨
    ∃ (e : Nat) (g : zH), zT E d m_x_needBall 0 [some (.ref a0), some (.int a1)] [] h (.inr e, g) ∧ r = (.inr e, g))) :
    zT E (d + 1) m_x_fire 0 [some (.ref a0), some (.int a1), some (.int a2), none] [] h r := by
  refine zT_st (pc' := 2) (L' := [some (.ref a0), some (.int a1), some (.int a2), none]) (st' := [.int a1, .ref a0]) (h' := h) 2 (fun n => rfl) ?_
  obtain ⟨hq, hw⟩ := hw
  rcases hw with hw | ⟨e, g, hx, hw⟩
  rotate_left
  · subst hw
    exact zT_callX 1 (fun n => rfl) hq hx
  obtain ⟨h2, hx, hw⟩ := hw
  refine zT_call (pc' := 5) (rest := []) 1 (fun n => rfl) hq hx ?_
  show zT E (d + 1) m_x_fire 5 [some (.ref a0), some (.int a1), some (.int a2), none] [] h2 r
  refine zT_st (pc' := 8) (L' := [some (.ref a0), some (.int a1), some (.int a2), none]) (st' := [.int 1, .int a2, .ref a0]) (h' := h2) 3 (fun n => rfl) ?_
  obtain ⟨hq, hw⟩ := hw
  rcases hw with hw | ⟨e, g, hx, hw⟩
  rotate_left
  · subst hw
    exact zT_callX 1 (fun n => rfl) hq hx
  obtain ⟨h4, hx, hw⟩ := hw
  refine zT_call (pc' := 11) (rest := []) 1 (fun n => rfl) hq hx ?_
  show zT E (d + 1) m_x_fire 11 [some (.ref a0), some (.int a1), some (.int a2), none] [] h4 r
  refine zT_st (pc' := 12) (L' := [some (.ref a0), some (.int a1), some (.int a2), none]) (st' := [.ref a0]) (h' := h4) 1 (fun n => rfl) ?_
  obtain ⟨o5, e, hw⟩ := hw
  refine zT_st (pc' := 15) (L' := [some (.ref a0), some (.int a1), some (.int a2), none]) (st' := [.ref o5]) (h' := h4) 1 (fun n => fld_eq (E := E) e _) ?_
  refine zT_st (pc' := 16) (L' := [some (.ref a0), some (.int a1), some (.int a2), none]) (st' := [.int a1, .ref o5]) (h' := h4) 1 (fun n => rfl) ?_
  obtain ⟨hq, hw⟩ := hw
  obtain ⟨x6, h7, hx, hw⟩ := hw
  refine zT_call (pc' := 19) (rest := []) 1 (fun n => rfl) hq hx ?_
  show zT E (d + 1) m_x_fire 19 [some (.ref a0), some (.int a1), some (.int a2), none] [.int x6] h7 r
  refine zT_st (pc' := 21) (L' := [some (.ref a0), some (.int a1), some (.int a2), some (.int x6)]) (st' := [.int a2]) (h' := h7) 2 (fun n => rfl) ?_
  by_cases hc : a2 = 0
  · rw [if_pos hc] at hw
    refine zT_st (pc' := 24) (L' := [some (.ref a0), some (.int a1), some (.int a2), some (.int x6)]) (st' := []) (h' := h7) 1 (fun n => if_pos hc) ?_
    subst hw
    exact zT_ret 3 rfl
  · rw [if_neg hc] at hw
    refine zT_st (pc' := 28) (L' := [some (.ref a0), some (.int a1), some (.int a2), some (.int x6)]) (st' := []) (h' := h7) 1 (fun n => if_neg hc) ?_
    refine zT_st (pc' := 29) (L' := [some (.ref a0), some (.int a1), some (.int a2), some (.int x6)]) (st' := [.ref a0]) (h' := h7) 1 (fun n => rfl) ?_
    obtain ⟨o8, e, hw⟩ := hw
    refine zT_st (pc' := 32) (L' := [some (.ref a0), some (.int a1), some (.int a2), some (.int x6)]) (st' := [.ref o8]) (h' := h7) 1 (fun n => fld_eq (E := E) e _) ?_
    refine zT_st (pc' := 34) (L' := [some (.ref a0), some (.int a1), some (.int a2), some (.int x6)]) (st' := [.int x6, .int a1, .ref o8]) (h' := h7) 2 (fun n => rfl) ?_
    obtain ⟨hq, hw⟩ := hw
    obtain ⟨x9, h10, hx, hw⟩ := hw
    refine zT_call (pc' := 37) (rest := []) 1 (fun n => rfl) hq hx ?_
    show zT E (d + 1) m_x_fire 37 [some (.ref a0), some (.int a1), some (.int a2), some (.int x6)] [.int x9] h10 r
    subst hw
    exact zT_ret 1 rfl
set_option maxRecDepth 4000 in
theorem s_x_pram_0 (E : zX) (d : Nat) (a0 : Nat) (a1 : Int32) (a2 : Int32) (a3 : Int32) (h : zH) (r : zO × zH)
    (hw : isO h a0 11 = true ∧ ((∃ (h2 : zH), zT E d m_x_needCell 0 [some (.ref a0), some (.int a1)] [] h (.inl none, h2) ∧
    isO h2 a0 11 = true ∧ ((∃ (h4 : zH), zT E d m_x_needCell 0 [some (.ref a0), some (.int a2)] [] h2 (.inl none, h4) ∧
    isO h4 a0 11 = true ∧ ((∃ (h6 : zH), zT E d m_x_needWhat 0 [some (.ref a0), some (.int a3), some (.int 1)] [] h4 (.inl none, h6) ∧
    if a3 = 0 then (
      ∃ o7 : Nat, fld h6 a0 11 12 = some (.ref o7) ∧
      isO h6 o7 6 = true ∧ ∃ (x8 : Int32) (h9 : zH), zT E d m_Plans_stepsBetween 0 [some (.ref o7), some (.int a1), some (.int a2)] [] h6 (.inl (some (.int x8)), h9) ∧
      r = (.inl (some (.int x8)), h9))
    else (
      ∃ o10 : Nat, fld h6 a0 11 12 = some (.ref o10) ∧
      isO h6 o10 6 = true ∧ ∃ (x11 : Int32) (h12 : zH), zT E d m_Plans_firstStep 0 [some (.ref o10), some (.int a1), some (.int a2), none, none] [] h6 (.inl (some (.int x11)), h12) ∧
      r = (.inl (some (.int x11)), h12))) ∨
    ∃ (e : Nat) (g : zH), zT E d m_x_needWhat 0 [some (.ref a0), some (.int a3), some (.int 1)] [] h4 (.inr e, g) ∧ r = (.inr e, g))) ∨
    ∃ (e : Nat) (g : zH), zT E d m_x_needCell 0 [some (.ref a0), some (.int a2)] [] h2 (.inr e, g) ∧ r = (.inr e, g))) ∨
    ∃ (e : Nat) (g : zH), zT E d m_x_needCell 0 [some (.ref a0), some (.int a1)] [] h (.inr e, g) ∧ r = (.inr e, g))) :
    zT E (d + 1) m_x_pram 0 [some (.ref a0), some (.int a1), some (.int a2), some (.int a3)] [] h r := by
  refine zT_st (pc' := 2) (L' := [some (.ref a0), some (.int a1), some (.int a2), some (.int a3)]) (st' := [.int a1, .ref a0]) (h' := h) 2 (fun n => rfl) ?_
  obtain ⟨hq, hw⟩ := hw
  rcases hw with hw | ⟨e, g, hx, hw⟩
  rotate_left
  · subst hw
    exact zT_callX 1 (fun n => rfl) hq hx
  obtain ⟨h2, hx, hw⟩ := hw
  refine zT_call (pc' := 5) (rest := []) 1 (fun n => rfl) hq hx ?_
  show zT E (d + 1) m_x_pram 5 [some (.ref a0), some (.int a1), some (.int a2), some (.int a3)] [] h2 r
  refine zT_st (pc' := 7) (L' := [some (.ref a0), some (.int a1), some (.int a2), some (.int a3)]) (st' := [.int a2, .ref a0]) (h' := h2) 2 (fun n => rfl) ?_
  obtain ⟨hq, hw⟩ := hw
  rcases hw with hw | ⟨e, g, hx, hw⟩
  rotate_left
  · subst hw
    exact zT_callX 1 (fun n => rfl) hq hx
  obtain ⟨h4, hx, hw⟩ := hw
  refine zT_call (pc' := 10) (rest := []) 1 (fun n => rfl) hq hx ?_
  show zT E (d + 1) m_x_pram 10 [some (.ref a0), some (.int a1), some (.int a2), some (.int a3)] [] h4 r
  refine zT_st (pc' := 13) (L' := [some (.ref a0), some (.int a1), some (.int a2), some (.int a3)]) (st' := [.int 1, .int a3, .ref a0]) (h' := h4) 3 (fun n => rfl) ?_
  obtain ⟨hq, hw⟩ := hw
  rcases hw with hw | ⟨e, g, hx, hw⟩
  rotate_left
  · subst hw
    exact zT_callX 1 (fun n => rfl) hq hx
  obtain ⟨h6, hx, hw⟩ := hw
  refine zT_call (pc' := 16) (rest := []) 1 (fun n => rfl) hq hx ?_
  show zT E (d + 1) m_x_pram 16 [some (.ref a0), some (.int a1), some (.int a2), some (.int a3)] [] h6 r
  refine zT_st (pc' := 17) (L' := [some (.ref a0), some (.int a1), some (.int a2), some (.int a3)]) (st' := [.int a3]) (h' := h6) 1 (fun n => rfl) ?_
  by_cases hc : a3 = 0
  · rw [if_pos hc] at hw
    refine zT_st (pc' := 20) (L' := [some (.ref a0), some (.int a1), some (.int a2), some (.int a3)]) (st' := []) (h' := h6) 1 (fun n => if_pos hc) ?_
    refine zT_st (pc' := 21) (L' := [some (.ref a0), some (.int a1), some (.int a2), some (.int a3)]) (st' := [.ref a0]) (h' := h6) 1 (fun n => rfl) ?_
    obtain ⟨o7, e, hw⟩ := hw
    refine zT_st (pc' := 24) (L' := [some (.ref a0), some (.int a1), some (.int a2), some (.int a3)]) (st' := [.ref o7]) (h' := h6) 1 (fun n => fld_eq (E := E) e _) ?_
    refine zT_st (pc' := 26) (L' := [some (.ref a0), some (.int a1), some (.int a2), some (.int a3)]) (st' := [.int a2, .int a1, .ref o7]) (h' := h6) 2 (fun n => rfl) ?_
    obtain ⟨hq, hw⟩ := hw
    obtain ⟨x8, h9, hx, hw⟩ := hw
    refine zT_call (pc' := 29) (rest := []) 1 (fun n => rfl) hq hx ?_
    show zT E (d + 1) m_x_pram 29 [some (.ref a0), some (.int a1), some (.int a2), some (.int a3)] [.int x8] h9 r
    subst hw
    exact zT_ret 2 rfl
  · rw [if_neg hc] at hw
    refine zT_st (pc' := 32) (L' := [some (.ref a0), some (.int a1), some (.int a2), some (.int a3)]) (st' := []) (h' := h6) 1 (fun n => if_neg hc) ?_
    refine zT_st (pc' := 33) (L' := [some (.ref a0), some (.int a1), some (.int a2), some (.int a3)]) (st' := [.ref a0]) (h' := h6) 1 (fun n => rfl) ?_
    obtain ⟨o10, e, hw⟩ := hw
    refine zT_st (pc' := 36) (L' := [some (.ref a0), some (.int a1), some (.int a2), some (.int a3)]) (st' := [.ref o10]) (h' := h6) 1 (fun n => fld_eq (E := E) e _) ?_
    refine zT_st (pc' := 38) (L' := [some (.ref a0), some (.int a1), some (.int a2), some (.int a3)]) (st' := [.int a2, .int a1, .ref o10]) (h' := h6) 2 (fun n => rfl) ?_
    obtain ⟨hq, hw⟩ := hw
    obtain ⟨x11, h12, hx, hw⟩ := hw
    refine zT_call (pc' := 41) (rest := []) 1 (fun n => rfl) hq hx ?_
    show zT E (d + 1) m_x_pram 41 [some (.ref a0), some (.int a1), some (.int a2), some (.int a3)] [.int x11] h12 r
    subst hw
    exact zT_ret 1 rfl
set_option maxRecDepth 4000 in
theorem s_x_putBy_0 (E : zX) (d : Nat) (a0 : Nat) (a1 : Int32) (h : zH) (r : zO × zH)
    (hw : isO h a0 11 = true ∧ ((∃ (h2 : zH), zT E d m_x_needWhat 0 [some (.ref a0), some (.int a1), some (.int 1)] [] h (.inl none, h2) ∧
    ∃ o3 : Nat, fld h2 a0 11 13 = some (.ref o3) ∧
    isO h2 o3 7 = true ∧ ∃ (h5 : zH), zT E d m_PutBy_choose 0 [some (.ref o3), none, none, none, none, none] [] h2 (.inl none, h5) ∧
    if a1 = 0 then (
      ∃ o6 : Nat, fld h5 a0 11 13 = some (.ref o6) ∧
      ∃ x7 : Int32, fld h5 o6 7 0 = some (.int x7) ∧
      r = (.inl (some (.int x7)), h5))
    else (
      ∃ o8 : Nat, fld h5 a0 11 13 = some (.ref o8) ∧
      ∃ x9 : Int32, fld h5 o8 7 1 = some (.int x9) ∧
      r = (.inl (some (.int x9)), h5))) ∨
    ∃ (e : Nat) (g : zH), zT E d m_x_needWhat 0 [some (.ref a0), some (.int a1), some (.int 1)] [] h (.inr e, g) ∧ r = (.inr e, g))) :
    zT E (d + 1) m_x_putBy 0 [some (.ref a0), some (.int a1)] [] h r := by
  refine zT_st (pc' := 3) (L' := [some (.ref a0), some (.int a1)]) (st' := [.int 1, .int a1, .ref a0]) (h' := h) 3 (fun n => rfl) ?_
  obtain ⟨hq, hw⟩ := hw
  rcases hw with hw | ⟨e, g, hx, hw⟩
  rotate_left
  · subst hw
    exact zT_callX 1 (fun n => rfl) hq hx
  obtain ⟨h2, hx, hw⟩ := hw
  refine zT_call (pc' := 6) (rest := []) 1 (fun n => rfl) hq hx ?_
  show zT E (d + 1) m_x_putBy 6 [some (.ref a0), some (.int a1)] [] h2 r
  refine zT_st (pc' := 7) (L' := [some (.ref a0), some (.int a1)]) (st' := [.ref a0]) (h' := h2) 1 (fun n => rfl) ?_
  obtain ⟨o3, e, hw⟩ := hw
  refine zT_st (pc' := 10) (L' := [some (.ref a0), some (.int a1)]) (st' := [.ref o3]) (h' := h2) 1 (fun n => fld_eq (E := E) e _) ?_
  obtain ⟨hq, hw⟩ := hw
  obtain ⟨h5, hx, hw⟩ := hw
  refine zT_call (pc' := 13) (rest := []) 1 (fun n => rfl) hq hx ?_
  show zT E (d + 1) m_x_putBy 13 [some (.ref a0), some (.int a1)] [] h5 r
  refine zT_st (pc' := 14) (L' := [some (.ref a0), some (.int a1)]) (st' := [.int a1]) (h' := h5) 1 (fun n => rfl) ?_
  by_cases hc : a1 = 0
  · rw [if_pos hc] at hw
    refine zT_st (pc' := 17) (L' := [some (.ref a0), some (.int a1)]) (st' := []) (h' := h5) 1 (fun n => if_pos hc) ?_
    refine zT_st (pc' := 18) (L' := [some (.ref a0), some (.int a1)]) (st' := [.ref a0]) (h' := h5) 1 (fun n => rfl) ?_
    obtain ⟨o6, e, hw⟩ := hw
    refine zT_st (pc' := 21) (L' := [some (.ref a0), some (.int a1)]) (st' := [.ref o6]) (h' := h5) 1 (fun n => fld_eq (E := E) e _) ?_
    obtain ⟨x7, e, hw⟩ := hw
    refine zT_st (pc' := 24) (L' := [some (.ref a0), some (.int a1)]) (st' := [.int x7]) (h' := h5) 1 (fun n => fld_eq (E := E) e _) ?_
    subst hw
    exact zT_ret 2 rfl
  · rw [if_neg hc] at hw
    refine zT_st (pc' := 27) (L' := [some (.ref a0), some (.int a1)]) (st' := []) (h' := h5) 1 (fun n => if_neg hc) ?_
    refine zT_st (pc' := 28) (L' := [some (.ref a0), some (.int a1)]) (st' := [.ref a0]) (h' := h5) 1 (fun n => rfl) ?_
    obtain ⟨o8, e, hw⟩ := hw
    refine zT_st (pc' := 31) (L' := [some (.ref a0), some (.int a1)]) (st' := [.ref o8]) (h' := h5) 1 (fun n => fld_eq (E := E) e _) ?_
    obtain ⟨x9, e, hw⟩ := hw
    refine zT_st (pc' := 34) (L' := [some (.ref a0), some (.int a1)]) (st' := [.int x9]) (h' := h5) 1 (fun n => fld_eq (E := E) e _) ?_
    subst hw
    exact zT_ret 1 rfl
set_option maxRecDepth 4000 in
theorem s_x_put_0 (E : zX) (d : Nat) (a0 : Nat) (a1 : Int32) (h : zH) (r : zO × zH)
    (hw : isO h a0 11 = true ∧ ((∃ (h2 : zH), zT E d m_x_needPerson 0 [some (.ref a0), some (.int a1)] [] h (.inl none, h2) ∧
    ∃ o3 : Nat, fld h2 a0 11 13 = some (.ref o3) ∧
    isO h2 o3 7 = true ∧ ∃ (h5 : zH), zT E d m_PutBy_choose 0 [some (.ref o3), none, none, none, none, none] [] h2 (.inl none, h5) ∧
    ∃ o6 : Nat, fld h5 a0 11 13 = some (.ref o6) ∧
    ∃ o7 : Nat, fld h5 o6 7 2 = some (.ref o7) ∧
    ∃ (n8 : Nat) (f9 : Nat → Int32), arr h5 o7 = some (n8, f9) ∧ ¬ (a1 < 0 ∨ n8 ≤ (a1).toNatClampNeg) ∧
    r = (.inl (some (.int (f9 (a1).toNatClampNeg))), h5)) ∨
    ∃ (e : Nat) (g : zH), zT E d m_x_needPerson 0 [some (.ref a0), some (.int a1)] [] h (.inr e, g) ∧ r = (.inr e, g))) :
    zT E (d + 1) m_x_put 0 [some (.ref a0), some (.int a1)] [] h r := by
  refine zT_st (pc' := 2) (L' := [some (.ref a0), some (.int a1)]) (st' := [.int a1, .ref a0]) (h' := h) 2 (fun n => rfl) ?_
  obtain ⟨hq, hw⟩ := hw
  rcases hw with hw | ⟨e, g, hx, hw⟩
  rotate_left
  · subst hw
    exact zT_callX 1 (fun n => rfl) hq hx
  obtain ⟨h2, hx, hw⟩ := hw
  refine zT_call (pc' := 5) (rest := []) 1 (fun n => rfl) hq hx ?_
  show zT E (d + 1) m_x_put 5 [some (.ref a0), some (.int a1)] [] h2 r
  refine zT_st (pc' := 6) (L' := [some (.ref a0), some (.int a1)]) (st' := [.ref a0]) (h' := h2) 1 (fun n => rfl) ?_
  obtain ⟨o3, e, hw⟩ := hw
  refine zT_st (pc' := 9) (L' := [some (.ref a0), some (.int a1)]) (st' := [.ref o3]) (h' := h2) 1 (fun n => fld_eq (E := E) e _) ?_
  obtain ⟨hq, hw⟩ := hw
  obtain ⟨h5, hx, hw⟩ := hw
  refine zT_call (pc' := 12) (rest := []) 1 (fun n => rfl) hq hx ?_
  show zT E (d + 1) m_x_put 12 [some (.ref a0), some (.int a1)] [] h5 r
  refine zT_st (pc' := 13) (L' := [some (.ref a0), some (.int a1)]) (st' := [.ref a0]) (h' := h5) 1 (fun n => rfl) ?_
  obtain ⟨o6, e, hw⟩ := hw
  refine zT_st (pc' := 16) (L' := [some (.ref a0), some (.int a1)]) (st' := [.ref o6]) (h' := h5) 1 (fun n => fld_eq (E := E) e _) ?_
  obtain ⟨o7, e, hw⟩ := hw
  refine zT_st (pc' := 19) (L' := [some (.ref a0), some (.int a1)]) (st' := [.ref o7]) (h' := h5) 1 (fun n => fld_eq (E := E) e _) ?_
  refine zT_st (pc' := 20) (L' := [some (.ref a0), some (.int a1)]) (st' := [.int a1, .ref o7]) (h' := h5) 1 (fun n => rfl) ?_
  obtain ⟨n8, f9, e, hi, hw⟩ := hw
  refine zT_st (pc' := 21) (L' := [some (.ref a0), some (.int a1)]) (st' := [.int (f9 (a1).toNatClampNeg)]) (h' := h5) 1 (fun n => arr_eq (E := E) e hi [] (fun st => zrun zP zCd E n (d + 1) m_x_put 21 [some (.ref a0), some (.int a1)] st h5)) ?_
  subst hw
  exact zT_ret 1 rfl
set_option maxRecDepth 4000 in
theorem s_x_see_0 (E : zX) (d : Nat) (a0 : Nat) (a1 : Int32) (a2 : Int32) (a3 : Int32) (h : zH) (r : zO × zH)
    (hw : isO h a0 11 = true ∧ ((∃ (h2 : zH), zT E d m_x_needBall 0 [some (.ref a0), some (.int a1)] [] h (.inl none, h2) ∧
    if a2 < 0 then (
      isO h2 a0 11 = true ∧ ∃ (x3 : Int32) (h4 : zH), zT E d m_x_refuse 0 [some (.ref a0), some (.int 2)] [] h2 (.inl (some (.int x3)), h4) ∧
      r = (.inl (some (.int x3)), h4))
    else (
      if 20 < a2 then (
        isO h2 a0 11 = true ∧ ∃ (x5 : Int32) (h6 : zH), zT E d m_x_refuse 0 [some (.ref a0), some (.int 2)] [] h2 (.inl (some (.int x5)), h6) ∧
        r = (.inl (some (.int x5)), h6))
      else (
        ∃ o7 : Nat, fld h2 a0 11 6 = some (.ref o7) ∧
        ∃ x8 : Int32, fld h2 o7 0 3 = some (.int x8) ∧
        if x8 < 8 then (
          ∃ o9 : Nat, fld h2 a0 11 6 = some (.ref o9) ∧
          isO h2 o9 0 = true ∧ ∃ (h11 : zH), zT E d m_Book_addSight 0 [some (.ref o9), some (.int a1), some (.int a2), some (.int a3)] [] h2 (.inl none, h11) ∧
          ∃ o12 : Nat, fld h11 a0 11 6 = some (.ref o12) ∧
          ∃ x13 : Int32, fld h11 o12 0 3 = some (.int x13) ∧
          r = (.inl (some (.int x13)), h11))
        else (
          isO h2 a0 11 = true ∧ ∃ (x14 : Int32) (h15 : zH), zT E d m_x_refuse 0 [some (.ref a0), some (.int 2)] [] h2 (.inl (some (.int x14)), h15) ∧
          r = (.inl (some (.int x14)), h15))))) ∨
    ∃ (e : Nat) (g : zH), zT E d m_x_needBall 0 [some (.ref a0), some (.int a1)] [] h (.inr e, g) ∧ r = (.inr e, g))) :
    zT E (d + 1) m_x_see 0 [some (.ref a0), some (.int a1), some (.int a2), some (.int a3)] [] h r := by
  refine zT_st (pc' := 2) (L' := [some (.ref a0), some (.int a1), some (.int a2), some (.int a3)]) (st' := [.int a1, .ref a0]) (h' := h) 2 (fun n => rfl) ?_
  obtain ⟨hq, hw⟩ := hw
  rcases hw with hw | ⟨e, g, hx, hw⟩
  rotate_left
  · subst hw
    exact zT_callX 1 (fun n => rfl) hq hx
  obtain ⟨h2, hx, hw⟩ := hw
  refine zT_call (pc' := 5) (rest := []) 1 (fun n => rfl) hq hx ?_
  show zT E (d + 1) m_x_see 5 [some (.ref a0), some (.int a1), some (.int a2), some (.int a3)] [] h2 r
  refine zT_st (pc' := 6) (L' := [some (.ref a0), some (.int a1), some (.int a2), some (.int a3)]) (st' := [.int a2]) (h' := h2) 1 (fun n => rfl) ?_
  by_cases hc : a2 < 0
  · rw [if_pos hc] at hw
    refine zT_st (pc' := 27) (L' := [some (.ref a0), some (.int a1), some (.int a2), some (.int a3)]) (st' := []) (h' := h2) 1 (fun n => if_pos hc) ?_
    refine zT_st (pc' := 29) (L' := [some (.ref a0), some (.int a1), some (.int a2), some (.int a3)]) (st' := [.int 2, .ref a0]) (h' := h2) 2 (fun n => rfl) ?_
    obtain ⟨hq, hw⟩ := hw
    obtain ⟨x3, h4, hx, hw⟩ := hw
    refine zT_call (pc' := 32) (rest := []) 1 (fun n => rfl) hq hx ?_
    show zT E (d + 1) m_x_see 32 [some (.ref a0), some (.int a1), some (.int a2), some (.int a3)] [.int x3] h4 r
    subst hw
    exact zT_ret 1 rfl
  · rw [if_neg hc] at hw
    refine zT_st (pc' := 9) (L' := [some (.ref a0), some (.int a1), some (.int a2), some (.int a3)]) (st' := []) (h' := h2) 1 (fun n => if_neg hc) ?_
    refine zT_st (pc' := 12) (L' := [some (.ref a0), some (.int a1), some (.int a2), some (.int a3)]) (st' := [.int 20, .int a2]) (h' := h2) 2 (fun n => rfl) ?_
    by_cases hc : 20 < a2
    · rw [if_pos hc] at hw
      refine zT_st (pc' := 27) (L' := [some (.ref a0), some (.int a1), some (.int a2), some (.int a3)]) (st' := []) (h' := h2) 1 (fun n => if_pos hc) ?_
      refine zT_st (pc' := 29) (L' := [some (.ref a0), some (.int a1), some (.int a2), some (.int a3)]) (st' := [.int 2, .ref a0]) (h' := h2) 2 (fun n => rfl) ?_
      obtain ⟨hq, hw⟩ := hw
      obtain ⟨x5, h6, hx, hw⟩ := hw
      refine zT_call (pc' := 32) (rest := []) 1 (fun n => rfl) hq hx ?_
      show zT E (d + 1) m_x_see 32 [some (.ref a0), some (.int a1), some (.int a2), some (.int a3)] [.int x5] h6 r
      subst hw
      exact zT_ret 1 rfl
    · rw [if_neg hc] at hw
      refine zT_st (pc' := 15) (L' := [some (.ref a0), some (.int a1), some (.int a2), some (.int a3)]) (st' := []) (h' := h2) 1 (fun n => if_neg hc) ?_
      refine zT_st (pc' := 16) (L' := [some (.ref a0), some (.int a1), some (.int a2), some (.int a3)]) (st' := [.ref a0]) (h' := h2) 1 (fun n => rfl) ?_
      obtain ⟨o7, e, hw⟩ := hw
      refine zT_st (pc' := 19) (L' := [some (.ref a0), some (.int a1), some (.int a2), some (.int a3)]) (st' := [.ref o7]) (h' := h2) 1 (fun n => fld_eq (E := E) e _) ?_
      obtain ⟨x8, e, hw⟩ := hw
      refine zT_st (pc' := 22) (L' := [some (.ref a0), some (.int a1), some (.int a2), some (.int a3)]) (st' := [.int x8]) (h' := h2) 1 (fun n => fld_eq (E := E) e _) ?_
      refine zT_st (pc' := 24) (L' := [some (.ref a0), some (.int a1), some (.int a2), some (.int a3)]) (st' := [.int 8, .int x8]) (h' := h2) 1 (fun n => rfl) ?_
      by_cases hc : x8 < 8
      · rw [if_pos hc] at hw
        refine zT_st (pc' := 33) (L' := [some (.ref a0), some (.int a1), some (.int a2), some (.int a3)]) (st' := []) (h' := h2) 1 (fun n => if_pos hc) ?_
        refine zT_st (pc' := 34) (L' := [some (.ref a0), some (.int a1), some (.int a2), some (.int a3)]) (st' := [.ref a0]) (h' := h2) 1 (fun n => rfl) ?_
        obtain ⟨o9, e, hw⟩ := hw
        refine zT_st (pc' := 37) (L' := [some (.ref a0), some (.int a1), some (.int a2), some (.int a3)]) (st' := [.ref o9]) (h' := h2) 1 (fun n => fld_eq (E := E) e _) ?_
        refine zT_st (pc' := 40) (L' := [some (.ref a0), some (.int a1), some (.int a2), some (.int a3)]) (st' := [.int a3, .int a2, .int a1, .ref o9]) (h' := h2) 3 (fun n => rfl) ?_
        obtain ⟨hq, hw⟩ := hw
        obtain ⟨h11, hx, hw⟩ := hw
        refine zT_call (pc' := 43) (rest := []) 1 (fun n => rfl) hq hx ?_
        show zT E (d + 1) m_x_see 43 [some (.ref a0), some (.int a1), some (.int a2), some (.int a3)] [] h11 r
        refine zT_st (pc' := 44) (L' := [some (.ref a0), some (.int a1), some (.int a2), some (.int a3)]) (st' := [.ref a0]) (h' := h11) 1 (fun n => rfl) ?_
        obtain ⟨o12, e, hw⟩ := hw
        refine zT_st (pc' := 47) (L' := [some (.ref a0), some (.int a1), some (.int a2), some (.int a3)]) (st' := [.ref o12]) (h' := h11) 1 (fun n => fld_eq (E := E) e _) ?_
        obtain ⟨x13, e, hw⟩ := hw
        refine zT_st (pc' := 50) (L' := [some (.ref a0), some (.int a1), some (.int a2), some (.int a3)]) (st' := [.int x13]) (h' := h11) 1 (fun n => fld_eq (E := E) e _) ?_
        subst hw
        exact zT_ret 1 rfl
      · rw [if_neg hc] at hw
        refine zT_st (pc' := 27) (L' := [some (.ref a0), some (.int a1), some (.int a2), some (.int a3)]) (st' := []) (h' := h2) 1 (fun n => if_neg hc) ?_
        refine zT_st (pc' := 29) (L' := [some (.ref a0), some (.int a1), some (.int a2), some (.int a3)]) (st' := [.int 2, .ref a0]) (h' := h2) 2 (fun n => rfl) ?_
        obtain ⟨hq, hw⟩ := hw
        obtain ⟨x14, h15, hx, hw⟩ := hw
        refine zT_call (pc' := 32) (rest := []) 1 (fun n => rfl) hq hx ?_
        show zT E (d + 1) m_x_see 32 [some (.ref a0), some (.int a1), some (.int a2), some (.int a3)] [.int x14] h15 r
        subst hw
        exact zT_ret 1 rfl
set_option maxRecDepth 4000 in
theorem s_x_milder_0 (E : zX) (d : Nat) (a0 : Nat) (a1 : Int32) (h : zH) (r : zO × zH)
    (hw : isO h a0 11 = true ∧ ((∃ (h2 : zH), zT E d m_x_needWhat 0 [some (.ref a0), some (.int a1), some (.int 2)] [] h (.inl none, h2) ∧
    if a1 = 2 then (
      ∃ o3 : Nat, fld h2 a0 11 14 = some (.ref o3) ∧
      isO h2 o3 4 = true ∧ ∃ (x4 : Int32) (h5 : zH), zT E d m_Guess_isSoAnyway 0 [some (.ref o3)] [] h2 (.inl (some (.int x4)), h5) ∧
      if x4 = 0 then (
        r = (.inl (some (.int 0)), h5))
      else (
        r = (.inl (some (.int 1)), h5)))
    else (
      ∃ o6 : Nat, fld h2 a0 11 14 = some (.ref o6) ∧
      isO h2 o6 4 = true ∧ ∃ (h8 : zH), zT E d m_Guess_search 0 [some (.ref o6), some (.int 0), none, none, none, none] [] h2 (.inl none, h8) ∧
      if a1 = 0 then (
        ∃ o9 : Nat, fld h8 a0 11 14 = some (.ref o9) ∧
        ∃ x10 : Int32, fld h8 o9 4 0 = some (.int x10) ∧
        r = (.inl (some (.int x10)), h8))
      else (
        ∃ o11 : Nat, fld h8 a0 11 14 = some (.ref o11) ∧
        ∃ x12 : Int32, fld h8 o11 4 1 = some (.int x12) ∧
        r = (.inl (some (.int x12)), h8)))) ∨
    ∃ (e : Nat) (g : zH), zT E d m_x_needWhat 0 [some (.ref a0), some (.int a1), some (.int 2)] [] h (.inr e, g) ∧ r = (.inr e, g))) :
    zT E (d + 1) m_x_milder 0 [some (.ref a0), some (.int a1)] [] h r := by
  refine zT_st (pc' := 3) (L' := [some (.ref a0), some (.int a1)]) (st' := [.int 2, .int a1, .ref a0]) (h' := h) 3 (fun n => rfl) ?_
  obtain ⟨hq, hw⟩ := hw
  rcases hw with hw | ⟨e, g, hx, hw⟩
  rotate_left
  · subst hw
    exact zT_callX 1 (fun n => rfl) hq hx
  obtain ⟨h2, hx, hw⟩ := hw
  refine zT_call (pc' := 6) (rest := []) 1 (fun n => rfl) hq hx ?_
  show zT E (d + 1) m_x_milder 6 [some (.ref a0), some (.int a1)] [] h2 r
  refine zT_st (pc' := 8) (L' := [some (.ref a0), some (.int a1)]) (st' := [.int 2, .int a1]) (h' := h2) 2 (fun n => rfl) ?_
  by_cases hc : a1 = 2
  · rw [if_pos hc] at hw
    refine zT_st (pc' := 11) (L' := [some (.ref a0), some (.int a1)]) (st' := []) (h' := h2) 1 (fun n => if_pos hc) ?_
    refine zT_st (pc' := 12) (L' := [some (.ref a0), some (.int a1)]) (st' := [.ref a0]) (h' := h2) 1 (fun n => rfl) ?_
    obtain ⟨o3, e, hw⟩ := hw
    refine zT_st (pc' := 15) (L' := [some (.ref a0), some (.int a1)]) (st' := [.ref o3]) (h' := h2) 1 (fun n => fld_eq (E := E) e _) ?_
    obtain ⟨hq, hw⟩ := hw
    obtain ⟨x4, h5, hx, hw⟩ := hw
    refine zT_call (pc' := 18) (rest := []) 1 (fun n => rfl) hq hx ?_
    show zT E (d + 1) m_x_milder 18 [some (.ref a0), some (.int a1)] [.int x4] h5 r
    by_cases hc : x4 = 0
    · rw [if_pos hc] at hw
      refine zT_st (pc' := 25) (L' := [some (.ref a0), some (.int a1)]) (st' := []) (h' := h5) 1 (fun n => if_pos hc) ?_
      subst hw
      exact zT_ret 2 rfl
    · rw [if_neg hc] at hw
      refine zT_st (pc' := 21) (L' := [some (.ref a0), some (.int a1)]) (st' := []) (h' := h5) 1 (fun n => if_neg hc) ?_
      subst hw
      exact zT_ret 3 rfl
  · rw [if_neg hc] at hw
    refine zT_st (pc' := 27) (L' := [some (.ref a0), some (.int a1)]) (st' := []) (h' := h2) 1 (fun n => if_neg hc) ?_
    refine zT_st (pc' := 28) (L' := [some (.ref a0), some (.int a1)]) (st' := [.ref a0]) (h' := h2) 1 (fun n => rfl) ?_
    obtain ⟨o6, e, hw⟩ := hw
    refine zT_st (pc' := 31) (L' := [some (.ref a0), some (.int a1)]) (st' := [.ref o6]) (h' := h2) 1 (fun n => fld_eq (E := E) e _) ?_
    refine zT_st (pc' := 32) (L' := [some (.ref a0), some (.int a1)]) (st' := [.int 0, .ref o6]) (h' := h2) 1 (fun n => rfl) ?_
    obtain ⟨hq, hw⟩ := hw
    obtain ⟨h8, hx, hw⟩ := hw
    refine zT_call (pc' := 35) (rest := []) 1 (fun n => rfl) hq hx ?_
    show zT E (d + 1) m_x_milder 35 [some (.ref a0), some (.int a1)] [] h8 r
    refine zT_st (pc' := 36) (L' := [some (.ref a0), some (.int a1)]) (st' := [.int a1]) (h' := h8) 1 (fun n => rfl) ?_
    by_cases hc : a1 = 0
    · rw [if_pos hc] at hw
      refine zT_st (pc' := 39) (L' := [some (.ref a0), some (.int a1)]) (st' := []) (h' := h8) 1 (fun n => if_pos hc) ?_
      refine zT_st (pc' := 40) (L' := [some (.ref a0), some (.int a1)]) (st' := [.ref a0]) (h' := h8) 1 (fun n => rfl) ?_
      obtain ⟨o9, e, hw⟩ := hw
      refine zT_st (pc' := 43) (L' := [some (.ref a0), some (.int a1)]) (st' := [.ref o9]) (h' := h8) 1 (fun n => fld_eq (E := E) e _) ?_
      obtain ⟨x10, e, hw⟩ := hw
      refine zT_st (pc' := 46) (L' := [some (.ref a0), some (.int a1)]) (st' := [.int x10]) (h' := h8) 1 (fun n => fld_eq (E := E) e _) ?_
      subst hw
      exact zT_ret 2 rfl
    · rw [if_neg hc] at hw
      refine zT_st (pc' := 49) (L' := [some (.ref a0), some (.int a1)]) (st' := []) (h' := h8) 1 (fun n => if_neg hc) ?_
      refine zT_st (pc' := 50) (L' := [some (.ref a0), some (.int a1)]) (st' := [.ref a0]) (h' := h8) 1 (fun n => rfl) ?_
      obtain ⟨o11, e, hw⟩ := hw
      refine zT_st (pc' := 53) (L' := [some (.ref a0), some (.int a1)]) (st' := [.ref o11]) (h' := h8) 1 (fun n => fld_eq (E := E) e _) ?_
      obtain ⟨x12, e, hw⟩ := hw
      refine zT_st (pc' := 56) (L' := [some (.ref a0), some (.int a1)]) (st' := [.int x12]) (h' := h8) 1 (fun n => fld_eq (E := E) e _) ?_
      subst hw
      exact zT_ret 1 rfl
set_option maxRecDepth 4000 in
theorem s_x_look_0 (E : zX) (d : Nat) (a0 : Nat) (a1 : Int32) (h : zH) (r : zO × zH)
    (hw : isO h a0 11 = true ∧ ((∃ (h2 : zH), zT E d m_x_needWhat 0 [some (.ref a0), some (.int a1), some (.int 1)] [] h (.inl none, h2) ∧
    ∃ o3 : Nat, fld h2 a0 11 14 = some (.ref o3) ∧
    isO h2 o3 4 = true ∧ ∃ (h5 : zH), zT E d m_Guess_search 0 [some (.ref o3), some (.int 8), none, none, none, none] [] h2 (.inl none, h5) ∧
    ∃ o6 : Nat, fld h5 a0 11 14 = some (.ref o6) ∧
    isO h5 o6 4 = true ∧ ∃ (x7 : Int32) (h8 : zH), zT E d m_Guess_mostUnlike 0 [some (.ref o6), none, none] [] h5 (.inl (some (.int x7)), h8) ∧
    if a1 = 0 then (
      r = (.inl (some (.int x7)), h8))
    else (
      if x7 = (-1) then (
        r = (.inl (some (.int 0)), h8))
      else (
        ∃ o9 : Nat, fld h8 a0 11 14 = some (.ref o9) ∧
        isO h8 o9 4 = true ∧ ∃ (x10 : Int32) (h11 : zH), zT E d m_Guess_unlikeIn 0 [some (.ref o9), some (.int x7), none, none] [] h8 (.inl (some (.int x10)), h11) ∧
        r = (.inl (some (.int x10)), h11)))) ∨
    ∃ (e : Nat) (g : zH), zT E d m_x_needWhat 0 [some (.ref a0), some (.int a1), some (.int 1)] [] h (.inr e, g) ∧ r = (.inr e, g))) :
    zT E (d + 1) m_x_look 0 [some (.ref a0), some (.int a1), none] [] h r := by
  refine zT_st (pc' := 3) (L' := [some (.ref a0), some (.int a1), none]) (st' := [.int 1, .int a1, .ref a0]) (h' := h) 3 (fun n => rfl) ?_
  obtain ⟨hq, hw⟩ := hw
  rcases hw with hw | ⟨e, g, hx, hw⟩
  rotate_left
  · subst hw
    exact zT_callX 1 (fun n => rfl) hq hx
  obtain ⟨h2, hx, hw⟩ := hw
  refine zT_call (pc' := 6) (rest := []) 1 (fun n => rfl) hq hx ?_
  show zT E (d + 1) m_x_look 6 [some (.ref a0), some (.int a1), none] [] h2 r
  refine zT_st (pc' := 7) (L' := [some (.ref a0), some (.int a1), none]) (st' := [.ref a0]) (h' := h2) 1 (fun n => rfl) ?_
  obtain ⟨o3, e, hw⟩ := hw
  refine zT_st (pc' := 10) (L' := [some (.ref a0), some (.int a1), none]) (st' := [.ref o3]) (h' := h2) 1 (fun n => fld_eq (E := E) e _) ?_
  refine zT_st (pc' := 12) (L' := [some (.ref a0), some (.int a1), none]) (st' := [.int 8, .ref o3]) (h' := h2) 1 (fun n => rfl) ?_
  obtain ⟨hq, hw⟩ := hw
  obtain ⟨h5, hx, hw⟩ := hw
  refine zT_call (pc' := 15) (rest := []) 1 (fun n => rfl) hq hx ?_
  show zT E (d + 1) m_x_look 15 [some (.ref a0), some (.int a1), none] [] h5 r
  refine zT_st (pc' := 16) (L' := [some (.ref a0), some (.int a1), none]) (st' := [.ref a0]) (h' := h5) 1 (fun n => rfl) ?_
  obtain ⟨o6, e, hw⟩ := hw
  refine zT_st (pc' := 19) (L' := [some (.ref a0), some (.int a1), none]) (st' := [.ref o6]) (h' := h5) 1 (fun n => fld_eq (E := E) e _) ?_
  obtain ⟨hq, hw⟩ := hw
  obtain ⟨x7, h8, hx, hw⟩ := hw
  refine zT_call (pc' := 22) (rest := []) 1 (fun n => rfl) hq hx ?_
  show zT E (d + 1) m_x_look 22 [some (.ref a0), some (.int a1), none] [.int x7] h8 r
  refine zT_st (pc' := 24) (L' := [some (.ref a0), some (.int a1), some (.int x7)]) (st' := [.int a1]) (h' := h8) 2 (fun n => rfl) ?_
  by_cases hc : a1 = 0
  · rw [if_pos hc] at hw
    refine zT_st (pc' := 27) (L' := [some (.ref a0), some (.int a1), some (.int x7)]) (st' := []) (h' := h8) 1 (fun n => if_pos hc) ?_
    subst hw
    exact zT_ret 2 rfl
  · rw [if_neg hc] at hw
    refine zT_st (pc' := 29) (L' := [some (.ref a0), some (.int a1), some (.int x7)]) (st' := []) (h' := h8) 1 (fun n => if_neg hc) ?_
    refine zT_st (pc' := 31) (L' := [some (.ref a0), some (.int a1), some (.int x7)]) (st' := [.int (-1), .int x7]) (h' := h8) 2 (fun n => rfl) ?_
    by_cases hc : x7 = (-1)
    · rw [if_pos hc] at hw
      refine zT_st (pc' := 34) (L' := [some (.ref a0), some (.int a1), some (.int x7)]) (st' := []) (h' := h8) 1 (fun n => if_pos hc) ?_
      subst hw
      exact zT_ret 3 rfl
    · rw [if_neg hc] at hw
      refine zT_st (pc' := 38) (L' := [some (.ref a0), some (.int a1), some (.int x7)]) (st' := []) (h' := h8) 1 (fun n => if_neg hc) ?_
      refine zT_st (pc' := 39) (L' := [some (.ref a0), some (.int a1), some (.int x7)]) (st' := [.ref a0]) (h' := h8) 1 (fun n => rfl) ?_
      obtain ⟨o9, e, hw⟩ := hw
      refine zT_st (pc' := 42) (L' := [some (.ref a0), some (.int a1), some (.int x7)]) (st' := [.ref o9]) (h' := h8) 1 (fun n => fld_eq (E := E) e _) ?_
      refine zT_st (pc' := 43) (L' := [some (.ref a0), some (.int a1), some (.int x7)]) (st' := [.int x7, .ref o9]) (h' := h8) 1 (fun n => rfl) ?_
      obtain ⟨hq, hw⟩ := hw
      obtain ⟨x10, h11, hx, hw⟩ := hw
      refine zT_call (pc' := 46) (rest := []) 1 (fun n => rfl) hq hx ?_
      show zT E (d + 1) m_x_look 46 [some (.ref a0), some (.int a1), some (.int x7)] [.int x10] h11 r
      subst hw
      exact zT_ret 1 rfl
set_option maxRecDepth 4000 in
theorem s_x_boys_0 (E : zX) (d : Nat) (a0 : Nat) (a1 : Int32) (a2 : Int32) (a3 : Int32) (h : zH) (r : zO × zH)
    (hw : isO h a0 11 = true ∧ ((∃ (h2 : zH), zT E (d + 7) m_x_needBall 0 [some (.ref a0), some (.int a1)] [] h (.inl none, h2) ∧
    if a2 < 1 then (
      r = (.inr 1, (h2.1, h2.2 + 1)))
    else (
      if 5 < a2 then (
        r = (.inr 1, (h2.1, h2.2 + 1)))
      else (
        if a3 < 0 then (
          r = (.inr 1, (h2.1, h2.2 + 1)))
        else (
          if a3 ≤ 10 then (
            ∃ o3 : Nat, fld h2 a0 11 15 = some (.ref o3) ∧
            isO h2 o3 1 = true ∧ ∃ (x4 : Int32) (h5 : zH), zT E (d + 7) m_Chance_whiteByBoys 0 [some (.ref o3), some (.int a1), some (.int a2), some (.int a3), none, none, none, none, none, none] [] h2 (.inl (some (.int x4)), h5) ∧
            r = (.inl (some (.int x4)), h5))
          else (
            r = (.inr 1, (h2.1, h2.2 + 1))))))) ∨
    ∃ (e : Nat) (g : zH), zT E (d + 7) m_x_needBall 0 [some (.ref a0), some (.int a1)] [] h (.inr e, g) ∧ r = (.inr e, g))) :
    zT E (d + 8) m_x_boys 0 [some (.ref a0), some (.int a1), some (.int a2), some (.int a3)] [] h r := by
  refine zT_st (pc' := 2) (L' := [some (.ref a0), some (.int a1), some (.int a2), some (.int a3)]) (st' := [.int a1, .ref a0]) (h' := h) 2 (fun n => rfl) ?_
  obtain ⟨hq, hw⟩ := hw
  rcases hw with hw | ⟨e, g, hx, hw⟩
  rotate_left
  · subst hw
    exact zT_callX 1 (fun n => rfl) hq hx
  obtain ⟨h2, hx, hw⟩ := hw
  refine zT_call (pc' := 5) (rest := []) 1 (fun n => rfl) hq hx ?_
  show zT E (d + 8) m_x_boys 5 [some (.ref a0), some (.int a1), some (.int a2), some (.int a3)] [] h2 r
  refine zT_st (pc' := 7) (L' := [some (.ref a0), some (.int a1), some (.int a2), some (.int a3)]) (st' := [.int 1, .int a2]) (h' := h2) 2 (fun n => rfl) ?_
  by_cases hc : a2 < 1
  · rw [if_pos hc] at hw
    refine zT_st (pc' := 25) (L' := [some (.ref a0), some (.int a1), some (.int a2), some (.int a3)]) (st' := []) (h' := h2) 1 (fun n => if_pos hc) ?_
    subst hw
    exact zT_ret 1 rfl
  · rw [if_neg hc] at hw
    refine zT_st (pc' := 10) (L' := [some (.ref a0), some (.int a1), some (.int a2), some (.int a3)]) (st' := []) (h' := h2) 1 (fun n => if_neg hc) ?_
    refine zT_st (pc' := 12) (L' := [some (.ref a0), some (.int a1), some (.int a2), some (.int a3)]) (st' := [.int 5, .int a2]) (h' := h2) 2 (fun n => rfl) ?_
    by_cases hc : 5 < a2
    · rw [if_pos hc] at hw
      refine zT_st (pc' := 25) (L' := [some (.ref a0), some (.int a1), some (.int a2), some (.int a3)]) (st' := []) (h' := h2) 1 (fun n => if_pos hc) ?_
      subst hw
      exact zT_ret 1 rfl
    · rw [if_neg hc] at hw
      refine zT_st (pc' := 15) (L' := [some (.ref a0), some (.int a1), some (.int a2), some (.int a3)]) (st' := []) (h' := h2) 1 (fun n => if_neg hc) ?_
      refine zT_st (pc' := 16) (L' := [some (.ref a0), some (.int a1), some (.int a2), some (.int a3)]) (st' := [.int a3]) (h' := h2) 1 (fun n => rfl) ?_
      by_cases hc : a3 < 0
      · rw [if_pos hc] at hw
        refine zT_st (pc' := 25) (L' := [some (.ref a0), some (.int a1), some (.int a2), some (.int a3)]) (st' := []) (h' := h2) 1 (fun n => if_pos hc) ?_
        subst hw
        exact zT_ret 1 rfl
      · rw [if_neg hc] at hw
        refine zT_st (pc' := 19) (L' := [some (.ref a0), some (.int a1), some (.int a2), some (.int a3)]) (st' := []) (h' := h2) 1 (fun n => if_neg hc) ?_
        refine zT_st (pc' := 22) (L' := [some (.ref a0), some (.int a1), some (.int a2), some (.int a3)]) (st' := [.int 10, .int a3]) (h' := h2) 2 (fun n => rfl) ?_
        by_cases hc : a3 ≤ 10
        · rw [if_pos hc] at hw
          refine zT_st (pc' := 36) (L' := [some (.ref a0), some (.int a1), some (.int a2), some (.int a3)]) (st' := []) (h' := h2) 1 (fun n => if_pos hc) ?_
          refine zT_st (pc' := 37) (L' := [some (.ref a0), some (.int a1), some (.int a2), some (.int a3)]) (st' := [.ref a0]) (h' := h2) 1 (fun n => rfl) ?_
          obtain ⟨o3, e, hw⟩ := hw
          refine zT_st (pc' := 40) (L' := [some (.ref a0), some (.int a1), some (.int a2), some (.int a3)]) (st' := [.ref o3]) (h' := h2) 1 (fun n => fld_eq (E := E) e _) ?_
          refine zT_st (pc' := 43) (L' := [some (.ref a0), some (.int a1), some (.int a2), some (.int a3)]) (st' := [.int a3, .int a2, .int a1, .ref o3]) (h' := h2) 3 (fun n => rfl) ?_
          obtain ⟨hq, hw⟩ := hw
          obtain ⟨x4, h5, hx, hw⟩ := hw
          refine zT_call (pc' := 46) (rest := []) 1 (fun n => rfl) hq hx ?_
          show zT E (d + 8) m_x_boys 46 [some (.ref a0), some (.int a1), some (.int a2), some (.int a3)] [.int x4] h5 r
          subst hw
          exact zT_ret 1 rfl
        · rw [if_neg hc] at hw
          refine zT_st (pc' := 25) (L' := [some (.ref a0), some (.int a1), some (.int a2), some (.int a3)]) (st' := []) (h' := h2) 1 (fun n => if_neg hc) ?_
          subst hw
          exact zT_ret 1 rfl
set_option maxRecDepth 4000 in
theorem s_x_game_0 (E : zX) (d : Nat) (a0 : Nat) (a1 : Int32) (a2 : Int32) (a3 : Int32) (h : zH) (r : zO × zH)
    (hw : isO h a0 11 = true ∧ ((∃ (h2 : zH), zT E (d + 7) m_x_needPerson 0 [some (.ref a0), some (.int a1)] [] h (.inl none, h2) ∧
    isO h2 a0 11 = true ∧ ((∃ (h4 : zH), zT E (d + 7) m_x_needPerson 0 [some (.ref a0), some (.int a2)] [] h2 (.inl none, h4) ∧
    isO h4 a0 11 = true ∧ ((∃ (h6 : zH), zT E (d + 7) m_x_needWhat 0 [some (.ref a0), some (.int a3), some (.int 1)] [] h4 (.inl none, h6) ∧
    if a1 = a2 then (
      r = (.inr 1, (h6.1, h6.2 + 1)))
    else (
      ∃ o7 : Nat, fld h6 a0 11 9 = some (.ref o7) ∧
      isO h6 o7 10 = true ∧ ∃ (x8 : Int32) (h9 : zH), zT E (d + 7) m_Scene_temperOf 0 [some (.ref o7), some (.int a1)] [] h6 (.inl (some (.int x8)), h9) ∧
      if x8 = 0 then (
        r = (.inl (some (.int (-1))), h9))
      else (
        ∃ o10 : Nat, fld h9 a0 11 9 = some (.ref o10) ∧
        isO h9 o10 10 = true ∧ ∃ (x11 : Int32) (h12 : zH), zT E (d + 7) m_Scene_temperOf 0 [some (.ref o10), some (.int a2)] [] h9 (.inl (some (.int x11)), h12) ∧
        if x11 = 0 then (
          r = (.inl (some (.int (-1))), h12))
        else (
          ∃ o13 : Nat, fld h12 a0 11 15 = some (.ref o13) ∧
          isO h12 o13 1 = true ∧ ∃ (h15 : zH), zT E (d + 7) m_Chance_play 0 [some (.ref o13), some (.int a1), some (.int a2), none, none, none, none] [] h12 (.inl none, h15) ∧
          if a3 = 0 then (
            ∃ o16 : Nat, fld h15 a0 11 15 = some (.ref o16) ∧
            isO h15 o16 1 = true ∧ ∃ (x17 : Int32) (h18 : zH), zT E (d + 7) m_Chance_resting 0 [some (.ref o16), none, none] [] h15 (.inl (some (.int x17)), h18) ∧
            r = (.inl (some (.int x17)), h18))
          else (
            ∃ o19 : Nat, fld h15 a0 11 15 = some (.ref o19) ∧
            isO h15 o19 1 = true ∧ ∃ (x20 : Int32) (h21 : zH), zT E (d + 7) m_Chance_firstResting 0 [some (.ref o19), none] [] h15 (.inl (some (.int x20)), h21) ∧
            r = (.inl (some (.int x20)), h21)))))) ∨
    ∃ (e : Nat) (g : zH), zT E (d + 7) m_x_needWhat 0 [some (.ref a0), some (.int a3), some (.int 1)] [] h4 (.inr e, g) ∧ r = (.inr e, g))) ∨
    ∃ (e : Nat) (g : zH), zT E (d + 7) m_x_needPerson 0 [some (.ref a0), some (.int a2)] [] h2 (.inr e, g) ∧ r = (.inr e, g))) ∨
    ∃ (e : Nat) (g : zH), zT E (d + 7) m_x_needPerson 0 [some (.ref a0), some (.int a1)] [] h (.inr e, g) ∧ r = (.inr e, g))) :
    zT E (d + 8) m_x_game 0 [some (.ref a0), some (.int a1), some (.int a2), some (.int a3)] [] h r := by
  refine zT_st (pc' := 2) (L' := [some (.ref a0), some (.int a1), some (.int a2), some (.int a3)]) (st' := [.int a1, .ref a0]) (h' := h) 2 (fun n => rfl) ?_
  obtain ⟨hq, hw⟩ := hw
  rcases hw with hw | ⟨e, g, hx, hw⟩
  rotate_left
  · subst hw
    exact zT_callX 1 (fun n => rfl) hq hx
  obtain ⟨h2, hx, hw⟩ := hw
  refine zT_call (pc' := 5) (rest := []) 1 (fun n => rfl) hq hx ?_
  show zT E (d + 8) m_x_game 5 [some (.ref a0), some (.int a1), some (.int a2), some (.int a3)] [] h2 r
  refine zT_st (pc' := 7) (L' := [some (.ref a0), some (.int a1), some (.int a2), some (.int a3)]) (st' := [.int a2, .ref a0]) (h' := h2) 2 (fun n => rfl) ?_
  obtain ⟨hq, hw⟩ := hw
  rcases hw with hw | ⟨e, g, hx, hw⟩
  rotate_left
  · subst hw
    exact zT_callX 1 (fun n => rfl) hq hx
  obtain ⟨h4, hx, hw⟩ := hw
  refine zT_call (pc' := 10) (rest := []) 1 (fun n => rfl) hq hx ?_
  show zT E (d + 8) m_x_game 10 [some (.ref a0), some (.int a1), some (.int a2), some (.int a3)] [] h4 r
  refine zT_st (pc' := 13) (L' := [some (.ref a0), some (.int a1), some (.int a2), some (.int a3)]) (st' := [.int 1, .int a3, .ref a0]) (h' := h4) 3 (fun n => rfl) ?_
  obtain ⟨hq, hw⟩ := hw
  rcases hw with hw | ⟨e, g, hx, hw⟩
  rotate_left
  · subst hw
    exact zT_callX 1 (fun n => rfl) hq hx
  obtain ⟨h6, hx, hw⟩ := hw
  refine zT_call (pc' := 16) (rest := []) 1 (fun n => rfl) hq hx ?_
  show zT E (d + 8) m_x_game 16 [some (.ref a0), some (.int a1), some (.int a2), some (.int a3)] [] h6 r
  refine zT_st (pc' := 18) (L' := [some (.ref a0), some (.int a1), some (.int a2), some (.int a3)]) (st' := [.int a2, .int a1]) (h' := h6) 2 (fun n => rfl) ?_
  by_cases hc : a1 = a2
  · rw [if_pos hc] at hw
    refine zT_st (pc' := 21) (L' := [some (.ref a0), some (.int a1), some (.int a2), some (.int a3)]) (st' := []) (h' := h6) 1 (fun n => if_pos hc) ?_
    subst hw
    exact zT_ret 1 rfl
  · rw [if_neg hc] at hw
    refine zT_st (pc' := 32) (L' := [some (.ref a0), some (.int a1), some (.int a2), some (.int a3)]) (st' := []) (h' := h6) 1 (fun n => if_neg hc) ?_
    refine zT_st (pc' := 33) (L' := [some (.ref a0), some (.int a1), some (.int a2), some (.int a3)]) (st' := [.ref a0]) (h' := h6) 1 (fun n => rfl) ?_
    obtain ⟨o7, e, hw⟩ := hw
    refine zT_st (pc' := 36) (L' := [some (.ref a0), some (.int a1), some (.int a2), some (.int a3)]) (st' := [.ref o7]) (h' := h6) 1 (fun n => fld_eq (E := E) e _) ?_
    refine zT_st (pc' := 37) (L' := [some (.ref a0), some (.int a1), some (.int a2), some (.int a3)]) (st' := [.int a1, .ref o7]) (h' := h6) 1 (fun n => rfl) ?_
    obtain ⟨hq, hw⟩ := hw
    obtain ⟨x8, h9, hx, hw⟩ := hw
    refine zT_call (pc' := 40) (rest := []) 1 (fun n => rfl) hq hx ?_
    show zT E (d + 8) m_x_game 40 [some (.ref a0), some (.int a1), some (.int a2), some (.int a3)] [.int x8] h9 r
    by_cases hc : x8 = 0
    · rw [if_pos hc] at hw
      refine zT_st (pc' := 54) (L' := [some (.ref a0), some (.int a1), some (.int a2), some (.int a3)]) (st' := []) (h' := h9) 1 (fun n => if_pos hc) ?_
      subst hw
      exact zT_ret 2 rfl
    · rw [if_neg hc] at hw
      refine zT_st (pc' := 43) (L' := [some (.ref a0), some (.int a1), some (.int a2), some (.int a3)]) (st' := []) (h' := h9) 1 (fun n => if_neg hc) ?_
      refine zT_st (pc' := 44) (L' := [some (.ref a0), some (.int a1), some (.int a2), some (.int a3)]) (st' := [.ref a0]) (h' := h9) 1 (fun n => rfl) ?_
      obtain ⟨o10, e, hw⟩ := hw
      refine zT_st (pc' := 47) (L' := [some (.ref a0), some (.int a1), some (.int a2), some (.int a3)]) (st' := [.ref o10]) (h' := h9) 1 (fun n => fld_eq (E := E) e _) ?_
      refine zT_st (pc' := 48) (L' := [some (.ref a0), some (.int a1), some (.int a2), some (.int a3)]) (st' := [.int a2, .ref o10]) (h' := h9) 1 (fun n => rfl) ?_
      obtain ⟨hq, hw⟩ := hw
      obtain ⟨x11, h12, hx, hw⟩ := hw
      refine zT_call (pc' := 51) (rest := []) 1 (fun n => rfl) hq hx ?_
      show zT E (d + 8) m_x_game 51 [some (.ref a0), some (.int a1), some (.int a2), some (.int a3)] [.int x11] h12 r
      by_cases hc : x11 = 0
      · rw [if_pos hc] at hw
        refine zT_st (pc' := 54) (L' := [some (.ref a0), some (.int a1), some (.int a2), some (.int a3)]) (st' := []) (h' := h12) 1 (fun n => if_pos hc) ?_
        subst hw
        exact zT_ret 2 rfl
      · rw [if_neg hc] at hw
        refine zT_st (pc' := 56) (L' := [some (.ref a0), some (.int a1), some (.int a2), some (.int a3)]) (st' := []) (h' := h12) 1 (fun n => if_neg hc) ?_
        refine zT_st (pc' := 57) (L' := [some (.ref a0), some (.int a1), some (.int a2), some (.int a3)]) (st' := [.ref a0]) (h' := h12) 1 (fun n => rfl) ?_
        obtain ⟨o13, e, hw⟩ := hw
        refine zT_st (pc' := 60) (L' := [some (.ref a0), some (.int a1), some (.int a2), some (.int a3)]) (st' := [.ref o13]) (h' := h12) 1 (fun n => fld_eq (E := E) e _) ?_
        refine zT_st (pc' := 62) (L' := [some (.ref a0), some (.int a1), some (.int a2), some (.int a3)]) (st' := [.int a2, .int a1, .ref o13]) (h' := h12) 2 (fun n => rfl) ?_
        obtain ⟨hq, hw⟩ := hw
        obtain ⟨h15, hx, hw⟩ := hw
        refine zT_call (pc' := 65) (rest := []) 1 (fun n => rfl) hq hx ?_
        show zT E (d + 8) m_x_game 65 [some (.ref a0), some (.int a1), some (.int a2), some (.int a3)] [] h15 r
        refine zT_st (pc' := 66) (L' := [some (.ref a0), some (.int a1), some (.int a2), some (.int a3)]) (st' := [.int a3]) (h' := h15) 1 (fun n => rfl) ?_
        by_cases hc : a3 = 0
        · rw [if_pos hc] at hw
          refine zT_st (pc' := 69) (L' := [some (.ref a0), some (.int a1), some (.int a2), some (.int a3)]) (st' := []) (h' := h15) 1 (fun n => if_pos hc) ?_
          refine zT_st (pc' := 70) (L' := [some (.ref a0), some (.int a1), some (.int a2), some (.int a3)]) (st' := [.ref a0]) (h' := h15) 1 (fun n => rfl) ?_
          obtain ⟨o16, e, hw⟩ := hw
          refine zT_st (pc' := 73) (L' := [some (.ref a0), some (.int a1), some (.int a2), some (.int a3)]) (st' := [.ref o16]) (h' := h15) 1 (fun n => fld_eq (E := E) e _) ?_
          obtain ⟨hq, hw⟩ := hw
          obtain ⟨x17, h18, hx, hw⟩ := hw
          refine zT_call (pc' := 76) (rest := []) 1 (fun n => rfl) hq hx ?_
          show zT E (d + 8) m_x_game 76 [some (.ref a0), some (.int a1), some (.int a2), some (.int a3)] [.int x17] h18 r
          subst hw
          exact zT_ret 2 rfl
        · rw [if_neg hc] at hw
          refine zT_st (pc' := 79) (L' := [some (.ref a0), some (.int a1), some (.int a2), some (.int a3)]) (st' := []) (h' := h15) 1 (fun n => if_neg hc) ?_
          refine zT_st (pc' := 80) (L' := [some (.ref a0), some (.int a1), some (.int a2), some (.int a3)]) (st' := [.ref a0]) (h' := h15) 1 (fun n => rfl) ?_
          obtain ⟨o19, e, hw⟩ := hw
          refine zT_st (pc' := 83) (L' := [some (.ref a0), some (.int a1), some (.int a2), some (.int a3)]) (st' := [.ref o19]) (h' := h15) 1 (fun n => fld_eq (E := E) e _) ?_
          obtain ⟨hq, hw⟩ := hw
          obtain ⟨x20, h21, hx, hw⟩ := hw
          refine zT_call (pc' := 86) (rest := []) 1 (fun n => rfl) hq hx ?_
          show zT E (d + 8) m_x_game 86 [some (.ref a0), some (.int a1), some (.int a2), some (.int a3)] [.int x20] h21 r
          subst hw
          exact zT_ret 1 rfl
set_option maxRecDepth 4000 in
theorem s_x_years_0 (E : zX) (d : Nat) (a0 : Nat) (a1 : Int32) (a2 : Int32) (a3 : Int32) (h : zH) (r : zO × zH)
    (hw : isO h a0 11 = true ∧ ((∃ (h2 : zH), zT E d m_x_needWhat 0 [some (.ref a0), some (.int a3), some (.int 2)] [] h (.inl none, h2) ∧
    isO h2 a0 11 = true ∧ ((∃ (h4 : zH), zT E d m_x_needDays 0 [some (.ref a0), some (.int a2), some (.int 0)] [] h2 (.inl none, h4) ∧
    ∃ o5 : Nat, fld h4 a0 11 15 = some (.ref o5) ∧
    isO h4 o5 1 = true ∧ ∃ (h7 : zH), zT E d m_Chance_live 0 [some (.ref o5), some (.int a1), some (.int a2), none, none, none] [] h4 (.inl none, h7) ∧
    if a3 = 0 then (
      ∃ o8 : Nat, fld h7 a0 11 15 = some (.ref o8) ∧
      ∃ x9 : Int32, fld h7 o8 1 0 = some (.int x9) ∧
      r = (.inl (some (.int x9)), h7))
    else (
      if a3 = 1 then (
        ∃ o10 : Nat, fld h7 a0 11 15 = some (.ref o10) ∧
        ∃ x11 : Int32, fld h7 o10 1 1 = some (.int x11) ∧
        r = (.inl (some (.int x11)), h7))
      else (
        ∃ o12 : Nat, fld h7 a0 11 15 = some (.ref o12) ∧
        ∃ x13 : Int32, fld h7 o12 1 2 = some (.int x13) ∧
        r = (.inl (some (.int x13)), h7)))) ∨
    ∃ (e : Nat) (g : zH), zT E d m_x_needDays 0 [some (.ref a0), some (.int a2), some (.int 0)] [] h2 (.inr e, g) ∧ r = (.inr e, g))) ∨
    ∃ (e : Nat) (g : zH), zT E d m_x_needWhat 0 [some (.ref a0), some (.int a3), some (.int 2)] [] h (.inr e, g) ∧ r = (.inr e, g))) :
    zT E (d + 1) m_x_years 0 [some (.ref a0), some (.int a1), some (.int a2), some (.int a3)] [] h r := by
  refine zT_st (pc' := 3) (L' := [some (.ref a0), some (.int a1), some (.int a2), some (.int a3)]) (st' := [.int 2, .int a3, .ref a0]) (h' := h) 3 (fun n => rfl) ?_
  obtain ⟨hq, hw⟩ := hw
  rcases hw with hw | ⟨e, g, hx, hw⟩
  rotate_left
  · subst hw
    exact zT_callX 1 (fun n => rfl) hq hx
  obtain ⟨h2, hx, hw⟩ := hw
  refine zT_call (pc' := 6) (rest := []) 1 (fun n => rfl) hq hx ?_
  show zT E (d + 1) m_x_years 6 [some (.ref a0), some (.int a1), some (.int a2), some (.int a3)] [] h2 r
  refine zT_st (pc' := 9) (L' := [some (.ref a0), some (.int a1), some (.int a2), some (.int a3)]) (st' := [.int 0, .int a2, .ref a0]) (h' := h2) 3 (fun n => rfl) ?_
  obtain ⟨hq, hw⟩ := hw
  rcases hw with hw | ⟨e, g, hx, hw⟩
  rotate_left
  · subst hw
    exact zT_callX 1 (fun n => rfl) hq hx
  obtain ⟨h4, hx, hw⟩ := hw
  refine zT_call (pc' := 12) (rest := []) 1 (fun n => rfl) hq hx ?_
  show zT E (d + 1) m_x_years 12 [some (.ref a0), some (.int a1), some (.int a2), some (.int a3)] [] h4 r
  refine zT_st (pc' := 13) (L' := [some (.ref a0), some (.int a1), some (.int a2), some (.int a3)]) (st' := [.ref a0]) (h' := h4) 1 (fun n => rfl) ?_
  obtain ⟨o5, e, hw⟩ := hw
  refine zT_st (pc' := 16) (L' := [some (.ref a0), some (.int a1), some (.int a2), some (.int a3)]) (st' := [.ref o5]) (h' := h4) 1 (fun n => fld_eq (E := E) e _) ?_
  refine zT_st (pc' := 18) (L' := [some (.ref a0), some (.int a1), some (.int a2), some (.int a3)]) (st' := [.int a2, .int a1, .ref o5]) (h' := h4) 2 (fun n => rfl) ?_
  obtain ⟨hq, hw⟩ := hw
  obtain ⟨h7, hx, hw⟩ := hw
  refine zT_call (pc' := 21) (rest := []) 1 (fun n => rfl) hq hx ?_
  show zT E (d + 1) m_x_years 21 [some (.ref a0), some (.int a1), some (.int a2), some (.int a3)] [] h7 r
  refine zT_st (pc' := 22) (L' := [some (.ref a0), some (.int a1), some (.int a2), some (.int a3)]) (st' := [.int a3]) (h' := h7) 1 (fun n => rfl) ?_
  by_cases hc : a3 = 0
  · rw [if_pos hc] at hw
    refine zT_st (pc' := 25) (L' := [some (.ref a0), some (.int a1), some (.int a2), some (.int a3)]) (st' := []) (h' := h7) 1 (fun n => if_pos hc) ?_
    refine zT_st (pc' := 26) (L' := [some (.ref a0), some (.int a1), some (.int a2), some (.int a3)]) (st' := [.ref a0]) (h' := h7) 1 (fun n => rfl) ?_
    obtain ⟨o8, e, hw⟩ := hw
    refine zT_st (pc' := 29) (L' := [some (.ref a0), some (.int a1), some (.int a2), some (.int a3)]) (st' := [.ref o8]) (h' := h7) 1 (fun n => fld_eq (E := E) e _) ?_
    obtain ⟨x9, e, hw⟩ := hw
    refine zT_st (pc' := 32) (L' := [some (.ref a0), some (.int a1), some (.int a2), some (.int a3)]) (st' := [.int x9]) (h' := h7) 1 (fun n => fld_eq (E := E) e _) ?_
    subst hw
    exact zT_ret 1 rfl
  · rw [if_neg hc] at hw
    refine zT_st (pc' := 33) (L' := [some (.ref a0), some (.int a1), some (.int a2), some (.int a3)]) (st' := []) (h' := h7) 1 (fun n => if_neg hc) ?_
    refine zT_st (pc' := 35) (L' := [some (.ref a0), some (.int a1), some (.int a2), some (.int a3)]) (st' := [.int 1, .int a3]) (h' := h7) 2 (fun n => rfl) ?_
    by_cases hc : a3 = 1
    · rw [if_pos hc] at hw
      refine zT_st (pc' := 38) (L' := [some (.ref a0), some (.int a1), some (.int a2), some (.int a3)]) (st' := []) (h' := h7) 1 (fun n => if_pos hc) ?_
      refine zT_st (pc' := 39) (L' := [some (.ref a0), some (.int a1), some (.int a2), some (.int a3)]) (st' := [.ref a0]) (h' := h7) 1 (fun n => rfl) ?_
      obtain ⟨o10, e, hw⟩ := hw
      refine zT_st (pc' := 42) (L' := [some (.ref a0), some (.int a1), some (.int a2), some (.int a3)]) (st' := [.ref o10]) (h' := h7) 1 (fun n => fld_eq (E := E) e _) ?_
      obtain ⟨x11, e, hw⟩ := hw
      refine zT_st (pc' := 45) (L' := [some (.ref a0), some (.int a1), some (.int a2), some (.int a3)]) (st' := [.int x11]) (h' := h7) 1 (fun n => fld_eq (E := E) e _) ?_
      subst hw
      exact zT_ret 2 rfl
    · rw [if_neg hc] at hw
      refine zT_st (pc' := 48) (L' := [some (.ref a0), some (.int a1), some (.int a2), some (.int a3)]) (st' := []) (h' := h7) 1 (fun n => if_neg hc) ?_
      refine zT_st (pc' := 49) (L' := [some (.ref a0), some (.int a1), some (.int a2), some (.int a3)]) (st' := [.ref a0]) (h' := h7) 1 (fun n => rfl) ?_
      obtain ⟨o12, e, hw⟩ := hw
      refine zT_st (pc' := 52) (L' := [some (.ref a0), some (.int a1), some (.int a2), some (.int a3)]) (st' := [.ref o12]) (h' := h7) 1 (fun n => fld_eq (E := E) e _) ?_
      obtain ⟨x13, e, hw⟩ := hw
      refine zT_st (pc' := 55) (L' := [some (.ref a0), some (.int a1), some (.int a2), some (.int a3)]) (st' := [.int x13]) (h' := h7) 1 (fun n => fld_eq (E := E) e _) ?_
      subst hw
      exact zT_ret 1 rfl
set_option maxRecDepth 4000 in
theorem s_x_cell_0 (E : zX) (d : Nat) (a0 : Nat) (a1 : Int32) (a2 : Int32) (h : zH) (r : zO × zH)
    (hw : isO h a0 11 = true ∧ ((∃ (h2 : zH), zT E d m_x_needCell 0 [some (.ref a0), some (.int a1)] [] h (.inl none, h2) ∧
    isO h2 a0 11 = true ∧ ((∃ (h4 : zH), zT E d m_x_needWhat 0 [some (.ref a0), some (.int a2), some (.int 1)] [] h2 (.inl none, h4) ∧
    if a2 = 0 then (
      ∃ o5 : Nat, fld h4 a0 11 10 = some (.ref o5) ∧
      ∃ o6 : Nat, fld h4 a0 11 9 = some (.ref o6) ∧
      isO h4 o5 2 = true ∧ ∃ (x7 : Int32) (h8 : zH), zT E d m_Downs_over 0 [some (.ref o5), some (.ref o6), some (.int a1), none, none] [] h4 (.inl (some (.int x7)), h8) ∧
      r = (.inl (some (.int x7)), h8))
    else (
      ∃ o9 : Nat, fld h4 a0 11 10 = some (.ref o9) ∧
      ∃ o10 : Nat, fld h4 a0 11 9 = some (.ref o10) ∧
      isO h4 o9 2 = true ∧ ∃ (x11 : Int32) (h12 : zH), zT E d m_Downs_nearestBall 0 [some (.ref o9), some (.ref o10), some (.int a1), none, none] [] h4 (.inl (some (.int x11)), h12) ∧
      r = (.inl (some (.int x11)), h12))) ∨
    ∃ (e : Nat) (g : zH), zT E d m_x_needWhat 0 [some (.ref a0), some (.int a2), some (.int 1)] [] h2 (.inr e, g) ∧ r = (.inr e, g))) ∨
    ∃ (e : Nat) (g : zH), zT E d m_x_needCell 0 [some (.ref a0), some (.int a1)] [] h (.inr e, g) ∧ r = (.inr e, g))) :
    zT E (d + 1) m_x_cell 0 [some (.ref a0), some (.int a1), some (.int a2)] [] h r := by
  refine zT_st (pc' := 2) (L' := [some (.ref a0), some (.int a1), some (.int a2)]) (st' := [.int a1, .ref a0]) (h' := h) 2 (fun n => rfl) ?_
  obtain ⟨hq, hw⟩ := hw
  rcases hw with hw | ⟨e, g, hx, hw⟩
  rotate_left
  · subst hw
    exact zT_callX 1 (fun n => rfl) hq hx
  obtain ⟨h2, hx, hw⟩ := hw
  refine zT_call (pc' := 5) (rest := []) 1 (fun n => rfl) hq hx ?_
  show zT E (d + 1) m_x_cell 5 [some (.ref a0), some (.int a1), some (.int a2)] [] h2 r
  refine zT_st (pc' := 8) (L' := [some (.ref a0), some (.int a1), some (.int a2)]) (st' := [.int 1, .int a2, .ref a0]) (h' := h2) 3 (fun n => rfl) ?_
  obtain ⟨hq, hw⟩ := hw
  rcases hw with hw | ⟨e, g, hx, hw⟩
  rotate_left
  · subst hw
    exact zT_callX 1 (fun n => rfl) hq hx
  obtain ⟨h4, hx, hw⟩ := hw
  refine zT_call (pc' := 11) (rest := []) 1 (fun n => rfl) hq hx ?_
  show zT E (d + 1) m_x_cell 11 [some (.ref a0), some (.int a1), some (.int a2)] [] h4 r
  refine zT_st (pc' := 12) (L' := [some (.ref a0), some (.int a1), some (.int a2)]) (st' := [.int a2]) (h' := h4) 1 (fun n => rfl) ?_
  by_cases hc : a2 = 0
  · rw [if_pos hc] at hw
    refine zT_st (pc' := 15) (L' := [some (.ref a0), some (.int a1), some (.int a2)]) (st' := []) (h' := h4) 1 (fun n => if_pos hc) ?_
    refine zT_st (pc' := 16) (L' := [some (.ref a0), some (.int a1), some (.int a2)]) (st' := [.ref a0]) (h' := h4) 1 (fun n => rfl) ?_
    obtain ⟨o5, e, hw⟩ := hw
    refine zT_st (pc' := 19) (L' := [some (.ref a0), some (.int a1), some (.int a2)]) (st' := [.ref o5]) (h' := h4) 1 (fun n => fld_eq (E := E) e _) ?_
    refine zT_st (pc' := 20) (L' := [some (.ref a0), some (.int a1), some (.int a2)]) (st' := [.ref a0, .ref o5]) (h' := h4) 1 (fun n => rfl) ?_
    obtain ⟨o6, e, hw⟩ := hw
    refine zT_st (pc' := 23) (L' := [some (.ref a0), some (.int a1), some (.int a2)]) (st' := [.ref o6, .ref o5]) (h' := h4) 1 (fun n => fld_eq (E := E) e _) ?_
    refine zT_st (pc' := 24) (L' := [some (.ref a0), some (.int a1), some (.int a2)]) (st' := [.int a1, .ref o6, .ref o5]) (h' := h4) 1 (fun n => rfl) ?_
    obtain ⟨hq, hw⟩ := hw
    obtain ⟨x7, h8, hx, hw⟩ := hw
    refine zT_call (pc' := 27) (rest := []) 1 (fun n => rfl) hq hx ?_
    show zT E (d + 1) m_x_cell 27 [some (.ref a0), some (.int a1), some (.int a2)] [.int x7] h8 r
    subst hw
    exact zT_ret 2 rfl
  · rw [if_neg hc] at hw
    refine zT_st (pc' := 30) (L' := [some (.ref a0), some (.int a1), some (.int a2)]) (st' := []) (h' := h4) 1 (fun n => if_neg hc) ?_
    refine zT_st (pc' := 31) (L' := [some (.ref a0), some (.int a1), some (.int a2)]) (st' := [.ref a0]) (h' := h4) 1 (fun n => rfl) ?_
    obtain ⟨o9, e, hw⟩ := hw
    refine zT_st (pc' := 34) (L' := [some (.ref a0), some (.int a1), some (.int a2)]) (st' := [.ref o9]) (h' := h4) 1 (fun n => fld_eq (E := E) e _) ?_
    refine zT_st (pc' := 35) (L' := [some (.ref a0), some (.int a1), some (.int a2)]) (st' := [.ref a0, .ref o9]) (h' := h4) 1 (fun n => rfl) ?_
    obtain ⟨o10, e, hw⟩ := hw
    refine zT_st (pc' := 38) (L' := [some (.ref a0), some (.int a1), some (.int a2)]) (st' := [.ref o10, .ref o9]) (h' := h4) 1 (fun n => fld_eq (E := E) e _) ?_
    refine zT_st (pc' := 39) (L' := [some (.ref a0), some (.int a1), some (.int a2)]) (st' := [.int a1, .ref o10, .ref o9]) (h' := h4) 1 (fun n => rfl) ?_
    obtain ⟨hq, hw⟩ := hw
    obtain ⟨x11, h12, hx, hw⟩ := hw
    refine zT_call (pc' := 42) (rest := []) 1 (fun n => rfl) hq hx ?_
    show zT E (d + 1) m_x_cell 42 [some (.ref a0), some (.int a1), some (.int a2)] [.int x11] h12 r
    subst hw
    exact zT_ret 1 rfl
set_option maxRecDepth 4000 in
theorem s_x_when_0 (E : zX) (d : Nat) (a0 : Nat) (a1 : Int32) (a2 : Int32) (h : zH) (r : zO × zH)
    (hw : isO h a0 11 = true ∧ ((∃ (h2 : zH), zT E d m_x_needPerson 0 [some (.ref a0), some (.int a1)] [] h (.inl none, h2) ∧
    isO h2 a0 11 = true ∧ ((∃ (h4 : zH), zT E d m_x_needWhat 0 [some (.ref a0), some (.int a2), some (.int 1)] [] h2 (.inl none, h4) ∧
    ∃ o5 : Nat, fld h4 a0 11 11 = some (.ref o5) ∧
    if a2 = 0 then (
      isO h4 o5 3 = true ∧ ∃ (x6 : Int32) (h7 : zH), zT E d m_Forecast_firstDay 0 [some (.ref o5), some (.int 1), some (.int (1 <<< (a1 &&& 31))), none] [] h4 (.inl (some (.int x6)), h7) ∧
      r = (.inl (some (.int x6)), h7))
    else (
      isO h4 o5 3 = true ∧ ∃ (x8 : Int32) (h9 : zH), zT E d m_Forecast_firstDay 0 [some (.ref o5), some (.int 2), some (.int (1 <<< (a1 &&& 31))), none] [] h4 (.inl (some (.int x8)), h9) ∧
      r = (.inl (some (.int x8)), h9))) ∨
    ∃ (e : Nat) (g : zH), zT E d m_x_needWhat 0 [some (.ref a0), some (.int a2), some (.int 1)] [] h2 (.inr e, g) ∧ r = (.inr e, g))) ∨
    ∃ (e : Nat) (g : zH), zT E d m_x_needPerson 0 [some (.ref a0), some (.int a1)] [] h (.inr e, g) ∧ r = (.inr e, g))) :
    zT E (d + 1) m_x_when 0 [some (.ref a0), some (.int a1), some (.int a2)] [] h r := by
  refine zT_st (pc' := 2) (L' := [some (.ref a0), some (.int a1), some (.int a2)]) (st' := [.int a1, .ref a0]) (h' := h) 2 (fun n => rfl) ?_
  obtain ⟨hq, hw⟩ := hw
  rcases hw with hw | ⟨e, g, hx, hw⟩
  rotate_left
  · subst hw
    exact zT_callX 1 (fun n => rfl) hq hx
  obtain ⟨h2, hx, hw⟩ := hw
  refine zT_call (pc' := 5) (rest := []) 1 (fun n => rfl) hq hx ?_
  show zT E (d + 1) m_x_when 5 [some (.ref a0), some (.int a1), some (.int a2)] [] h2 r
  refine zT_st (pc' := 8) (L' := [some (.ref a0), some (.int a1), some (.int a2)]) (st' := [.int 1, .int a2, .ref a0]) (h' := h2) 3 (fun n => rfl) ?_
  obtain ⟨hq, hw⟩ := hw
  rcases hw with hw | ⟨e, g, hx, hw⟩
  rotate_left
  · subst hw
    exact zT_callX 1 (fun n => rfl) hq hx
  obtain ⟨h4, hx, hw⟩ := hw
  refine zT_call (pc' := 11) (rest := []) 1 (fun n => rfl) hq hx ?_
  show zT E (d + 1) m_x_when 11 [some (.ref a0), some (.int a1), some (.int a2)] [] h4 r
  refine zT_st (pc' := 12) (L' := [some (.ref a0), some (.int a1), some (.int a2)]) (st' := [.ref a0]) (h' := h4) 1 (fun n => rfl) ?_
  obtain ⟨o5, e, hw⟩ := hw
  refine zT_st (pc' := 15) (L' := [some (.ref a0), some (.int a1), some (.int a2)]) (st' := [.ref o5]) (h' := h4) 1 (fun n => fld_eq (E := E) e _) ?_
  refine zT_st (pc' := 16) (L' := [some (.ref a0), some (.int a1), some (.int a2)]) (st' := [.int a2, .ref o5]) (h' := h4) 1 (fun n => rfl) ?_
  by_cases hc : a2 = 0
  · rw [if_pos hc] at hw
    refine zT_st (pc' := 19) (L' := [some (.ref a0), some (.int a1), some (.int a2)]) (st' := [.ref o5]) (h' := h4) 1 (fun n => if_pos hc) ?_
    refine zT_st (pc' := 27) (L' := [some (.ref a0), some (.int a1), some (.int a2)]) (st' := [.int (1 <<< (a1 &&& 31)), .int 1, .ref o5]) (h' := h4) 5 (fun n => rfl) ?_
    obtain ⟨hq, hw⟩ := hw
    obtain ⟨x6, h7, hx, hw⟩ := hw
    refine zT_call (pc' := 30) (rest := []) 1 (fun n => rfl) hq hx ?_
    show zT E (d + 1) m_x_when 30 [some (.ref a0), some (.int a1), some (.int a2)] [.int x6] h7 r
    subst hw
    exact zT_ret 1 rfl
  · rw [if_neg hc] at hw
    refine zT_st (pc' := 23) (L' := [some (.ref a0), some (.int a1), some (.int a2)]) (st' := [.ref o5]) (h' := h4) 1 (fun n => if_neg hc) ?_
    refine zT_st (pc' := 27) (L' := [some (.ref a0), some (.int a1), some (.int a2)]) (st' := [.int (1 <<< (a1 &&& 31)), .int 2, .ref o5]) (h' := h4) 4 (fun n => rfl) ?_
    obtain ⟨hq, hw⟩ := hw
    obtain ⟨x8, h9, hx, hw⟩ := hw
    refine zT_call (pc' := 30) (rest := []) 1 (fun n => rfl) hq hx ?_
    show zT E (d + 1) m_x_when 30 [some (.ref a0), some (.int a1), some (.int a2)] [.int x8] h9 r
    subst hw
    exact zT_ret 1 rfl
set_option maxRecDepth 4000 in
theorem s_x_ahead_0 (E : zX) (d : Nat) (a0 : Nat) (a1 : Int32) (a2 : Int32) (h : zH) (r : zO × zH)
    (hw : isO h a0 11 = true ∧ ((∃ (h2 : zH), zT E d m_x_needWhat 0 [some (.ref a0), some (.int a2), some (.int 1)] [] h (.inl none, h2) ∧
    if a2 = 0 then (
      zT E (d + 1) m_x_ahead 17 [some (.ref a0), some (.int a1), some (.int a2)] [.int 1, .int a1, .ref a0] h2 r)
    else (
      zT E (d + 1) m_x_ahead 17 [some (.ref a0), some (.int a1), some (.int a2)] [.int 0, .int a1, .ref a0] h2 r)) ∨
    ∃ (e : Nat) (g : zH), zT E d m_x_needWhat 0 [some (.ref a0), some (.int a2), some (.int 1)] [] h (.inr e, g) ∧ r = (.inr e, g))) :
    zT E (d + 1) m_x_ahead 0 [some (.ref a0), some (.int a1), some (.int a2)] [] h r := by
  refine zT_st (pc' := 3) (L' := [some (.ref a0), some (.int a1), some (.int a2)]) (st' := [.int 1, .int a2, .ref a0]) (h' := h) 3 (fun n => rfl) ?_
  obtain ⟨hq, hw⟩ := hw
  rcases hw with hw | ⟨e, g, hx, hw⟩
  rotate_left
  · subst hw
    exact zT_callX 1 (fun n => rfl) hq hx
  obtain ⟨h2, hx, hw⟩ := hw
  refine zT_call (pc' := 6) (rest := []) 1 (fun n => rfl) hq hx ?_
  show zT E (d + 1) m_x_ahead 6 [some (.ref a0), some (.int a1), some (.int a2)] [] h2 r
  refine zT_st (pc' := 9) (L' := [some (.ref a0), some (.int a1), some (.int a2)]) (st' := [.int a2, .int a1, .ref a0]) (h' := h2) 3 (fun n => rfl) ?_
  by_cases hc : a2 = 0
  · rw [if_pos hc] at hw
    refine zT_st (pc' := 12) (L' := [some (.ref a0), some (.int a1), some (.int a2)]) (st' := [.int a1, .ref a0]) (h' := h2) 1 (fun n => if_pos hc) ?_
    exact zT_st 2 (fun n => rfl) hw
  · rw [if_neg hc] at hw
    refine zT_st (pc' := 16) (L' := [some (.ref a0), some (.int a1), some (.int a2)]) (st' := [.int a1, .ref a0]) (h' := h2) 1 (fun n => if_neg hc) ?_
    exact zT_st 1 (fun n => rfl) hw
set_option maxRecDepth 4000 in
theorem s_x_ahead_17 (E : zX) (d : Nat) (a0 : Nat) (a1 : Int32) (a2 : Int32) (s0 : Nat) (s1 : Int32) (s2 : Int32) (h : zH) (r : zO × zH)
    (hw : isO h s0 11 = true ∧ ((∃ (h2 : zH), zT E d m_x_needDays 0 [some (.ref s0), some (.int s1), some (.int s2)] [] h (.inl none, h2) ∧
    if a2 = 0 then (
      ∃ o3 : Nat, fld h2 a0 11 11 = some (.ref o3) ∧
      isO h2 o3 3 = true ∧ ∃ (x4 : Int32) (h5 : zH), zT E d m_Forecast_calmDays 0 [some (.ref o3), some (.int a1), none, none] [] h2 (.inl (some (.int x4)), h5) ∧
      r = (.inl (some (.int x4)), h5))
    else (
      ∃ o6 : Nat, fld h2 a0 11 10 = some (.ref o6) ∧
      ∃ o7 : Nat, fld h2 a0 11 11 = some (.ref o7) ∧
      isO h2 o7 3 = true ∧ ∃ (o8 : Nat) (h9 : zH), zT E d m_Forecast_behind 0 [some (.ref o7), some (.int a1), none] [] h2 (.inl (some (.ref o8)), h9) ∧
      isO h9 o6 2 = true ∧ ∃ (x10 : Int32) (h11 : zH), zT E d m_Downs_fullest 0 [some (.ref o6), some (.ref o8), some (.int 0), none, none] [] h9 (.inl (some (.int x10)), h11) ∧
      r = (.inl (some (.int x10)), h11))) ∨
    ∃ (e : Nat) (g : zH), zT E d m_x_needDays 0 [some (.ref s0), some (.int s1), some (.int s2)] [] h (.inr e, g) ∧ r = (.inr e, g))) :
    zT E (d + 1) m_x_ahead 17 [some (.ref a0), some (.int a1), some (.int a2)] [.int s2, .int s1, .ref s0] h r := by
  obtain ⟨hq, hw⟩ := hw
  rcases hw with hw | ⟨e, g, hx, hw⟩
  rotate_left
  · subst hw
    exact zT_callX 1 (fun n => rfl) hq hx
  obtain ⟨h2, hx, hw⟩ := hw
  refine zT_call (pc' := 20) (rest := []) 1 (fun n => rfl) hq hx ?_
  show zT E (d + 1) m_x_ahead 20 [some (.ref a0), some (.int a1), some (.int a2)] [] h2 r
  refine zT_st (pc' := 21) (L' := [some (.ref a0), some (.int a1), some (.int a2)]) (st' := [.int a2]) (h' := h2) 1 (fun n => rfl) ?_
  by_cases hc : a2 = 0
  · rw [if_pos hc] at hw
    refine zT_st (pc' := 24) (L' := [some (.ref a0), some (.int a1), some (.int a2)]) (st' := []) (h' := h2) 1 (fun n => if_pos hc) ?_
    refine zT_st (pc' := 25) (L' := [some (.ref a0), some (.int a1), some (.int a2)]) (st' := [.ref a0]) (h' := h2) 1 (fun n => rfl) ?_
    obtain ⟨o3, e, hw⟩ := hw
    refine zT_st (pc' := 28) (L' := [some (.ref a0), some (.int a1), some (.int a2)]) (st' := [.ref o3]) (h' := h2) 1 (fun n => fld_eq (E := E) e _) ?_
    refine zT_st (pc' := 29) (L' := [some (.ref a0), some (.int a1), some (.int a2)]) (st' := [.int a1, .ref o3]) (h' := h2) 1 (fun n => rfl) ?_
    obtain ⟨hq, hw⟩ := hw
    obtain ⟨x4, h5, hx, hw⟩ := hw
    refine zT_call (pc' := 32) (rest := []) 1 (fun n => rfl) hq hx ?_
    show zT E (d + 1) m_x_ahead 32 [some (.ref a0), some (.int a1), some (.int a2)] [.int x4] h5 r
    subst hw
    exact zT_ret 2 rfl
  · rw [if_neg hc] at hw
    refine zT_st (pc' := 35) (L' := [some (.ref a0), some (.int a1), some (.int a2)]) (st' := []) (h' := h2) 1 (fun n => if_neg hc) ?_
    refine zT_st (pc' := 36) (L' := [some (.ref a0), some (.int a1), some (.int a2)]) (st' := [.ref a0]) (h' := h2) 1 (fun n => rfl) ?_
    obtain ⟨o6, e, hw⟩ := hw
    refine zT_st (pc' := 39) (L' := [some (.ref a0), some (.int a1), some (.int a2)]) (st' := [.ref o6]) (h' := h2) 1 (fun n => fld_eq (E := E) e _) ?_
    refine zT_st (pc' := 40) (L' := [some (.ref a0), some (.int a1), some (.int a2)]) (st' := [.ref a0, .ref o6]) (h' := h2) 1 (fun n => rfl) ?_
    obtain ⟨o7, e, hw⟩ := hw
    refine zT_st (pc' := 43) (L' := [some (.ref a0), some (.int a1), some (.int a2)]) (st' := [.ref o7, .ref o6]) (h' := h2) 1 (fun n => fld_eq (E := E) e _) ?_
    refine zT_st (pc' := 44) (L' := [some (.ref a0), some (.int a1), some (.int a2)]) (st' := [.int a1, .ref o7, .ref o6]) (h' := h2) 1 (fun n => rfl) ?_
    obtain ⟨hq, hw⟩ := hw
    obtain ⟨o8, h9, hx, hw⟩ := hw
    refine zT_call (pc' := 47) (rest := [.ref o6]) 1 (fun n => rfl) hq hx ?_
    show zT E (d + 1) m_x_ahead 47 [some (.ref a0), some (.int a1), some (.int a2)] [.ref o8, .ref o6] h9 r
    refine zT_st (pc' := 48) (L' := [some (.ref a0), some (.int a1), some (.int a2)]) (st' := [.int 0, .ref o8, .ref o6]) (h' := h9) 1 (fun n => rfl) ?_
    obtain ⟨hq, hw⟩ := hw
    obtain ⟨x10, h11, hx, hw⟩ := hw
    refine zT_call (pc' := 51) (rest := []) 1 (fun n => rfl) hq hx ?_
    show zT E (d + 1) m_x_ahead 51 [some (.ref a0), some (.int a1), some (.int a2)] [.int x10] h11 r
    subst hw
    exact zT_ret 1 rfl
set_option maxRecDepth 4000 in
theorem s_x_stays_0 (E : zX) (d : Nat) (a0 : Nat) (a1 : Int32) (a2 : Int32) (h : zH) (r : zO × zH)
    (hw : isO h a0 11 = true ∧ ((∃ (h2 : zH), zT E d m_x_needPerson 0 [some (.ref a0), some (.int a1)] [] h (.inl none, h2) ∧
    isO h2 a0 11 = true ∧ ((∃ (h4 : zH), zT E d m_x_needDays 0 [some (.ref a0), some (.int a2), some (.int 1)] [] h2 (.inl none, h4) ∧
    ∃ o5 : Nat, fld h4 a0 11 11 = some (.ref o5) ∧
    isO h4 o5 3 = true ∧ ∃ (x6 : Int32) (h7 : zH), zT E d m_Forecast_outstayed 0 [some (.ref o5), some (.int a1), some (.int a2), none, none] [] h4 (.inl (some (.int x6)), h7) ∧
    r = (.inl (some (.int x6)), h7)) ∨
    ∃ (e : Nat) (g : zH), zT E d m_x_needDays 0 [some (.ref a0), some (.int a2), some (.int 1)] [] h2 (.inr e, g) ∧ r = (.inr e, g))) ∨
    ∃ (e : Nat) (g : zH), zT E d m_x_needPerson 0 [some (.ref a0), some (.int a1)] [] h (.inr e, g) ∧ r = (.inr e, g))) :
    zT E (d + 1) m_x_stays 0 [some (.ref a0), some (.int a1), some (.int a2)] [] h r := by
  refine zT_st (pc' := 2) (L' := [some (.ref a0), some (.int a1), some (.int a2)]) (st' := [.int a1, .ref a0]) (h' := h) 2 (fun n => rfl) ?_
  obtain ⟨hq, hw⟩ := hw
  rcases hw with hw | ⟨e, g, hx, hw⟩
  rotate_left
  · subst hw
    exact zT_callX 1 (fun n => rfl) hq hx
  obtain ⟨h2, hx, hw⟩ := hw
  refine zT_call (pc' := 5) (rest := []) 1 (fun n => rfl) hq hx ?_
  show zT E (d + 1) m_x_stays 5 [some (.ref a0), some (.int a1), some (.int a2)] [] h2 r
  refine zT_st (pc' := 8) (L' := [some (.ref a0), some (.int a1), some (.int a2)]) (st' := [.int 1, .int a2, .ref a0]) (h' := h2) 3 (fun n => rfl) ?_
  obtain ⟨hq, hw⟩ := hw
  rcases hw with hw | ⟨e, g, hx, hw⟩
  rotate_left
  · subst hw
    exact zT_callX 1 (fun n => rfl) hq hx
  obtain ⟨h4, hx, hw⟩ := hw
  refine zT_call (pc' := 11) (rest := []) 1 (fun n => rfl) hq hx ?_
  show zT E (d + 1) m_x_stays 11 [some (.ref a0), some (.int a1), some (.int a2)] [] h4 r
  refine zT_st (pc' := 12) (L' := [some (.ref a0), some (.int a1), some (.int a2)]) (st' := [.ref a0]) (h' := h4) 1 (fun n => rfl) ?_
  obtain ⟨o5, e, hw⟩ := hw
  refine zT_st (pc' := 15) (L' := [some (.ref a0), some (.int a1), some (.int a2)]) (st' := [.ref o5]) (h' := h4) 1 (fun n => fld_eq (E := E) e _) ?_
  refine zT_st (pc' := 17) (L' := [some (.ref a0), some (.int a1), some (.int a2)]) (st' := [.int a2, .int a1, .ref o5]) (h' := h4) 2 (fun n => rfl) ?_
  obtain ⟨hq, hw⟩ := hw
  obtain ⟨x6, h7, hx, hw⟩ := hw
  refine zT_call (pc' := 20) (rest := []) 1 (fun n => rfl) hq hx ?_
  show zT E (d + 1) m_x_stays 20 [some (.ref a0), some (.int a1), some (.int a2)] [.int x6] h7 r
  subst hw
  exact zT_ret 1 rfl
