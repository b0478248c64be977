-- s_m_init_0: by hand
set_option maxRecDepth 4000 in
theorem s_m_feed_0 (E : zX) (d : Nat) (a0 : Nat) (a1 : Int32) (a2 : Int32) (a3 : Int32) (a4 : Int32) (a5 : Int32) (h : zH) (r : zO × zH)
    (hw : (∃ w, fld h a0 12 0 = some w) ∧
    ∃ x1 : Int32, fld (setF h a0 0 (.int 0)) a0 12 11 = some (.int x1) ∧
    if (x1 + 20) ≤ 700 then (
      isO (setF h a0 0 (.int 0)) a0 12 = true ∧ ∃ (h3 : zH), zT E d m_m_lays 0 [some (.ref a0), some (.int a1), none] [] (setF h a0 0 (.int 0)) (.inl none, h3) ∧
      isO h3 a0 12 = true ∧ ∃ (h5 : zH), zT E d m_m_lays 0 [some (.ref a0), some (.int a2), none] [] h3 (.inl none, h5) ∧
      isO h5 a0 12 = true ∧ ∃ (h7 : zH), zT E d m_m_lays 0 [some (.ref a0), some (.int a3), none] [] h5 (.inl none, h7) ∧
      isO h7 a0 12 = true ∧ ∃ (h9 : zH), zT E d m_m_lays 0 [some (.ref a0), some (.int a4), none] [] h7 (.inl none, h9) ∧
      isO h9 a0 12 = true ∧ ∃ (h11 : zH), zT E d m_m_lays 0 [some (.ref a0), some (.int a5), none] [] h9 (.inl none, h11) ∧
      ∃ x12 : Int32, fld h11 a0 12 11 = some (.int x12) ∧
      r = (.inl (some (.int x12)), h11))
    else (
      r = (.inl (some (.int (-1))), (setF h a0 0 (.int 0))))) :
    zT E (d + 1) m_m_feed 0 [some (.ref a0), some (.int a1), some (.int a2), some (.int a3), some (.int a4), some (.int a5)] [] h r := by
  refine zT_st (pc' := 2) (L' := [some (.ref a0), some (.int a1), some (.int a2), some (.int a3), some (.int a4), some (.int a5)]) (st' := [.int 0, .ref a0]) (h' := h) 2 (fun n => rfl) ?_
  obtain ⟨⟨w, e⟩, hw⟩ := hw
  refine zT_st (pc' := 5) (L' := [some (.ref a0), some (.int a1), some (.int a2), some (.int a3), some (.int a4), some (.int a5)]) (st' := []) (h' := (setF h a0 0 (.int 0))) 1 (fun n => put_eq e rfl _ _) ?_
  refine zT_st (pc' := 6) (L' := [some (.ref a0), some (.int a1), some (.int a2), some (.int a3), some (.int a4), some (.int a5)]) (st' := [.ref a0]) (h' := (setF h a0 0 (.int 0))) 1 (fun n => rfl) ?_
  obtain ⟨x1, e, hw⟩ := hw
  refine zT_st (pc' := 9) (L' := [some (.ref a0), some (.int a1), some (.int a2), some (.int a3), some (.int a4), some (.int a5)]) (st' := [.int x1]) (h' := (setF h a0 0 (.int 0))) 1 (fun n => fld_eq (E := E) e _) ?_
  refine zT_st (pc' := 15) (L' := [some (.ref a0), some (.int a1), some (.int a2), some (.int a3), some (.int a4), some (.int a5)]) (st' := [.int 700, .int (x1 + 20)]) (h' := (setF h a0 0 (.int 0))) 3 (fun n => rfl) ?_
  by_cases hc : (x1 + 20) ≤ 700
  · rw [if_pos hc] at hw
    refine zT_st (pc' := 20) (L' := [some (.ref a0), some (.int a1), some (.int a2), some (.int a3), some (.int a4), some (.int a5)]) (st' := []) (h' := (setF h a0 0 (.int 0))) 1 (fun n => if_pos hc) ?_
    refine zT_st (pc' := 22) (L' := [some (.ref a0), some (.int a1), some (.int a2), some (.int a3), some (.int a4), some (.int a5)]) (st' := [.int a1, .ref a0]) (h' := (setF h a0 0 (.int 0))) 2 (fun n => rfl) ?_
    obtain ⟨hq, hw⟩ := hw
    obtain ⟨h3, hx, hw⟩ := hw
    refine zT_call (pc' := 25) (rest := []) 1 (fun n => rfl) hq hx ?_
    show zT E (d + 1) m_m_feed 25 [some (.ref a0), some (.int a1), some (.int a2), some (.int a3), some (.int a4), some (.int a5)] [] h3 r
    refine zT_st (pc' := 27) (L' := [some (.ref a0), some (.int a1), some (.int a2), some (.int a3), some (.int a4), some (.int a5)]) (st' := [.int a2, .ref a0]) (h' := h3) 2 (fun n => rfl) ?_
    obtain ⟨hq, hw⟩ := hw
    obtain ⟨h5, hx, hw⟩ := hw
    refine zT_call (pc' := 30) (rest := []) 1 (fun n => rfl) hq hx ?_
    show zT E (d + 1) m_m_feed 30 [some (.ref a0), some (.int a1), some (.int a2), some (.int a3), some (.int a4), some (.int a5)] [] h5 r
    refine zT_st (pc' := 32) (L' := [some (.ref a0), some (.int a1), some (.int a2), some (.int a3), some (.int a4), some (.int a5)]) (st' := [.int a3, .ref a0]) (h' := h5) 2 (fun n => rfl) ?_
    obtain ⟨hq, hw⟩ := hw
    obtain ⟨h7, hx, hw⟩ := hw
    refine zT_call (pc' := 35) (rest := []) 1 (fun n => rfl) hq hx ?_
    show zT E (d + 1) m_m_feed 35 [some (.ref a0), some (.int a1), some (.int a2), some (.int a3), some (.int a4), some (.int a5)] [] h7 r
    refine zT_st (pc' := 38) (L' := [some (.ref a0), some (.int a1), some (.int a2), some (.int a3), some (.int a4), some (.int a5)]) (st' := [.int a4, .ref a0]) (h' := h7) 2 (fun n => rfl) ?_
    obtain ⟨hq, hw⟩ := hw
    obtain ⟨h9, hx, hw⟩ := hw
    refine zT_call (pc' := 41) (rest := []) 1 (fun n => rfl) hq hx ?_
    show zT E (d + 1) m_m_feed 41 [some (.ref a0), some (.int a1), some (.int a2), some (.int a3), some (.int a4), some (.int a5)] [] h9 r
    refine zT_st (pc' := 44) (L' := [some (.ref a0), some (.int a1), some (.int a2), some (.int a3), some (.int a4), some (.int a5)]) (st' := [.int a5, .ref a0]) (h' := h9) 2 (fun n => rfl) ?_
    obtain ⟨hq, hw⟩ := hw
    obtain ⟨h11, hx, hw⟩ := hw
    refine zT_call (pc' := 47) (rest := []) 1 (fun n => rfl) hq hx ?_
    show zT E (d + 1) m_m_feed 47 [some (.ref a0), some (.int a1), some (.int a2), some (.int a3), some (.int a4), some (.int a5)] [] h11 r
    refine zT_st (pc' := 48) (L' := [some (.ref a0), some (.int a1), some (.int a2), some (.int a3), some (.int a4), some (.int a5)]) (st' := [.ref a0]) (h' := h11) 1 (fun n => rfl) ?_
    obtain ⟨x12, e, hw⟩ := hw
    refine zT_st (pc' := 51) (L' := [some (.ref a0), some (.int a1), some (.int a2), some (.int a3), some (.int a4), some (.int a5)]) (st' := [.int x12]) (h' := h11) 1 (fun n => fld_eq (E := E) e _) ?_
    subst hw
    exact zT_ret 1 rfl
  · rw [if_neg hc] at hw
    refine zT_st (pc' := 18) (L' := [some (.ref a0), some (.int a1), some (.int a2), some (.int a3), some (.int a4), some (.int a5)]) (st' := []) (h' := (setF h a0 0 (.int 0))) 1 (fun n => if_neg hc) ?_
    subst hw
    exact zT_ret 2 rfl
set_option maxRecDepth 4000 in
theorem s_m_lays_0 (E : zX) (d : Nat) (a0 : Nat) (a1 : Int32) (h : zH) (r : zO × zH)
    (hw : zT E d m_m_lays 3 [some (.ref a0), some (.int a1), some (.int 24)] [] h r) :
    zT E d m_m_lays 0 [some (.ref a0), some (.int a1), none] [] h r := by
  exact zT_st 2 (fun n => rfl) hw
set_option maxRecDepth 4000 in
theorem s_m_lays_3 (E : zX) (d : Nat) (a0 : Nat) (a1 : Int32) (a2 : Int32) (h : zH) (r : zO × zH)
    (hw : if a2 < 0 then (
      r = (.inl (none), h))
    else (
      ∃ o1 : Nat, fld h a0 12 10 = some (.ref o1) ∧
      ∃ x2 : Int32, fld h a0 12 11 = some (.int x2) ∧
      ∃ (n3 : Nat) (f4 : Nat → Int32), arr h o1 = some (n3, f4) ∧ ¬ (x2 < 0 ∨ n3 ≤ (x2).toNatClampNeg) ∧
      ∃ x5 : Int32, fld (setA h o1 n3 (upd f4 (x2).toNatClampNeg ((a1 >>> (a2 &&& 31)) &&& 255))) a0 12 11 = some (.int x5) ∧
      (∃ w, fld (setA h o1 n3 (upd f4 (x2).toNatClampNeg ((a1 >>> (a2 &&& 31)) &&& 255))) a0 12 11 = some w) ∧
      zT E d m_m_lays 3 [some (.ref a0), some (.int a1), some (.int (a2 + (-8)))] [] (setF (setA h o1 n3 (upd f4 (x2).toNatClampNeg ((a1 >>> (a2 &&& 31)) &&& 255))) a0 11 (.int (x5 + 1))) r)) :
    zT E d m_m_lays 3 [some (.ref a0), some (.int a1), some (.int a2)] [] h r := by
  refine zT_st (pc' := 4) (L' := [some (.ref a0), some (.int a1), some (.int a2)]) (st' := [.int a2]) (h' := h) 1 (fun n => rfl) ?_
  by_cases hc : a2 < 0
  · rw [if_pos hc] at hw
    refine zT_st (pc' := 39) (L' := [some (.ref a0), some (.int a1), some (.int a2)]) (st' := []) (h' := h) 1 (fun n => if_pos hc) ?_
    subst hw
    exact zT_ret 1 rfl
  · rw [if_neg hc] at hw
    refine zT_st (pc' := 7) (L' := [some (.ref a0), some (.int a1), some (.int a2)]) (st' := []) (h' := h) 1 (fun n => if_neg hc) ?_
    refine zT_st (pc' := 8) (L' := [some (.ref a0), some (.int a1), some (.int a2)]) (st' := [.ref a0]) (h' := h) 1 (fun n => rfl) ?_
    obtain ⟨o1, e, hw⟩ := hw
    refine zT_st (pc' := 11) (L' := [some (.ref a0), some (.int a1), some (.int a2)]) (st' := [.ref o1]) (h' := h) 1 (fun n => fld_eq (E := E) e _) ?_
    refine zT_st (pc' := 12) (L' := [some (.ref a0), some (.int a1), some (.int a2)]) (st' := [.ref a0, .ref o1]) (h' := h) 1 (fun n => rfl) ?_
    obtain ⟨x2, e, hw⟩ := hw
    refine zT_st (pc' := 15) (L' := [some (.ref a0), some (.int a1), some (.int a2)]) (st' := [.int x2, .ref o1]) (h' := h) 1 (fun n => fld_eq (E := E) e _) ?_
    refine zT_st (pc' := 22) (L' := [some (.ref a0), some (.int a1), some (.int a2)]) (st' := [.int ((a1 >>> (a2 &&& 31)) &&& 255), .int x2, .ref o1]) (h' := h) 5 (fun n => rfl) ?_
    obtain ⟨n3, f4, e, hi, hw⟩ := hw
    refine zT_st (pc' := 23) (L' := [some (.ref a0), some (.int a1), some (.int a2)]) (st' := []) (h' := (setA h o1 n3 (upd f4 (x2).toNatClampNeg ((a1 >>> (a2 &&& 31)) &&& 255)))) 1 (fun n => set_eq e hi _ _) ?_
    refine zT_st (pc' := 25) (L' := [some (.ref a0), some (.int a1), some (.int a2)]) (st' := [.ref a0, .ref a0]) (h' := (setA h o1 n3 (upd f4 (x2).toNatClampNeg ((a1 >>> (a2 &&& 31)) &&& 255)))) 2 (fun n => rfl) ?_
    obtain ⟨x5, e, hw⟩ := hw
    refine zT_st (pc' := 28) (L' := [some (.ref a0), some (.int a1), some (.int a2)]) (st' := [.int x5, .ref a0]) (h' := (setA h o1 n3 (upd f4 (x2).toNatClampNeg ((a1 >>> (a2 &&& 31)) &&& 255)))) 1 (fun n => fld_eq (E := E) e _) ?_
    refine zT_st (pc' := 30) (L' := [some (.ref a0), some (.int a1), some (.int a2)]) (st' := [.int (x5 + 1), .ref a0]) (h' := (setA h o1 n3 (upd f4 (x2).toNatClampNeg ((a1 >>> (a2 &&& 31)) &&& 255)))) 2 (fun n => rfl) ?_
    obtain ⟨⟨w, e⟩, hw⟩ := hw
    refine zT_st (pc' := 33) (L' := [some (.ref a0), some (.int a1), some (.int a2)]) (st' := []) (h' := (setF (setA h o1 n3 (upd f4 (x2).toNatClampNeg ((a1 >>> (a2 &&& 31)) &&& 255))) a0 11 (.int (x5 + 1)))) 1 (fun n => put_eq e rfl _ _) ?_
    exact zT_st 2 (fun n => rfl) hw
set_option maxRecDepth 4000 in
theorem s_m_county_0 (E : zX) (d : Nat) (a0 : Nat) (a1 : Int32) (h : zH) (r : zO × zH)
    (hw : (∃ w, fld h a0 12 0 = some w) ∧
    if a1 < 0 then (
      zT E (d + 1) m_m_county 23 [some (.ref a0), some (.int a1), none] [.int 0, .ref a0] (setF h a0 0 (.int 0)) r)
    else (
      ∃ x1 : Int32, fld (setF h a0 0 (.int 0)) a0 12 11 = some (.int x1) ∧
      if x1 < a1 then (
        zT E (d + 1) m_m_county 23 [some (.ref a0), some (.int a1), none] [.int 0, .ref a0] (setF h a0 0 (.int 0)) r)
      else (
        zT E (d + 1) m_m_county 23 [some (.ref a0), some (.int a1), none] [.int 1, .ref a0] (setF h a0 0 (.int 0)) r))) :
    zT E (d + 1) m_m_county 0 [some (.ref a0), some (.int a1), none] [] h r := by
  refine zT_st (pc' := 2) (L' := [some (.ref a0), some (.int a1), none]) (st' := [.int 0, .ref a0]) (h' := h) 2 (fun n => rfl) ?_
  obtain ⟨⟨w, e⟩, hw⟩ := hw
  refine zT_st (pc' := 5) (L' := [some (.ref a0), some (.int a1), none]) (st' := []) (h' := (setF h a0 0 (.int 0))) 1 (fun n => put_eq e rfl _ _) ?_
  refine zT_st (pc' := 7) (L' := [some (.ref a0), some (.int a1), none]) (st' := [.int a1, .ref a0]) (h' := (setF h a0 0 (.int 0))) 2 (fun n => rfl) ?_
  by_cases hc : a1 < 0
  · rw [if_pos hc] at hw
    refine zT_st (pc' := 22) (L' := [some (.ref a0), some (.int a1), none]) (st' := [.ref a0]) (h' := (setF h a0 0 (.int 0))) 1 (fun n => if_pos hc) ?_
    exact zT_st 1 (fun n => rfl) hw
  · rw [if_neg hc] at hw
    refine zT_st (pc' := 10) (L' := [some (.ref a0), some (.int a1), none]) (st' := [.ref a0]) (h' := (setF h a0 0 (.int 0))) 1 (fun n => if_neg hc) ?_
    refine zT_st (pc' := 12) (L' := [some (.ref a0), some (.int a1), none]) (st' := [.ref a0, .int a1, .ref a0]) (h' := (setF h a0 0 (.int 0))) 2 (fun n => rfl) ?_
    obtain ⟨x1, e, hw⟩ := hw
    refine zT_st (pc' := 15) (L' := [some (.ref a0), some (.int a1), none]) (st' := [.int x1, .int a1, .ref a0]) (h' := (setF h a0 0 (.int 0))) 1 (fun n => fld_eq (E := E) e _) ?_
    by_cases hc : x1 < a1
    · rw [if_pos hc] at hw
      refine zT_st (pc' := 22) (L' := [some (.ref a0), some (.int a1), none]) (st' := [.ref a0]) (h' := (setF h a0 0 (.int 0))) 1 (fun n => if_pos hc) ?_
      exact zT_st 1 (fun n => rfl) hw
    · rw [if_neg hc] at hw
      refine zT_st (pc' := 18) (L' := [some (.ref a0), some (.int a1), none]) (st' := [.ref a0]) (h' := (setF h a0 0 (.int 0))) 1 (fun n => if_neg hc) ?_
      exact zT_st 2 (fun n => rfl) hw
set_option maxRecDepth 4000 in
theorem s_m_county_23 (E : zX) (d : Nat) (a0 : Nat) (a1 : Int32) (j2 : Option Value) (s0 : Nat) (s1 : Int32) (h : zH) (r : zO × zH)
    (hw : isO h s0 12 = true ∧ ∃ (x1 : Int32) (h2 : zH), zT E d m_m_right 0 [some (.ref s0), some (.int s1), some (.int 1)] [] h (.inl (some (.int x1)), h2) ∧
    if x1 = 0 then (
      r = (.inl (some (.int 0)), h2))
    else (
      (∃ w, fld h2 a0 12 11 = some w) ∧
      (∃ w, fld (setF h2 a0 11 (.int 0)) a0 12 13 = some w) ∧
      (∃ w, fld (setF (setF h2 a0 11 (.int 0)) a0 13 (.int (-1))) a0 12 12 = some w) ∧
      (∃ w, fld (setF (setF (setF h2 a0 11 (.int 0)) a0 13 (.int (-1))) a0 12 (.int 0)) a0 12 15 = some w) ∧
      (∃ w, fld (setF (setF (setF (setF h2 a0 11 (.int 0)) a0 13 (.int (-1))) a0 12 (.int 0)) a0 15 (.int a1)) a0 12 16 = some w) ∧
      (∃ w, fld (setF (setF (setF (setF (setF h2 a0 11 (.int 0)) a0 13 (.int (-1))) a0 12 (.int 0)) a0 15 (.int a1)) a0 16 (.int 0)) a0 12 23 = some w) ∧
      (∃ w, fld (setF (setF (setF (setF (setF (setF h2 a0 11 (.int 0)) a0 13 (.int (-1))) a0 12 (.int 0)) a0 15 (.int a1)) a0 16 (.int 0)) a0 23 (.int 4)) a0 12 24 = some w) ∧
      (∃ w, fld (setF (setF (setF (setF (setF (setF (setF h2 a0 11 (.int 0)) a0 13 (.int (-1))) a0 12 (.int 0)) a0 15 (.int a1)) a0 16 (.int 0)) a0 23 (.int 4)) a0 24 (.int 4)) a0 12 25 = some w) ∧
      (∃ w, fld (setF (setF (setF (setF (setF (setF (setF (setF h2 a0 11 (.int 0)) a0 13 (.int (-1))) a0 12 (.int 0)) a0 15 (.int a1)) a0 16 (.int 0)) a0 23 (.int 4)) a0 24 (.int 4)) a0 25 (.int 0)) a0 12 26 = some w) ∧
      (∃ w, fld (setF (setF (setF (setF (setF (setF (setF (setF (setF h2 a0 11 (.int 0)) a0 13 (.int (-1))) a0 12 (.int 0)) a0 15 (.int a1)) a0 16 (.int 0)) a0 23 (.int 4)) a0 24 (.int 4)) a0 25 (.int 0)) a0 26 (.int 0)) a0 12 27 = some w) ∧
      (∃ w, fld (setF (setF (setF (setF (setF (setF (setF (setF (setF (setF h2 a0 11 (.int 0)) a0 13 (.int (-1))) a0 12 (.int 0)) a0 15 (.int a1)) a0 16 (.int 0)) a0 23 (.int 4)) a0 24 (.int 4)) a0 25 (.int 0)) a0 26 (.int 0)) a0 27 (.int (-1))) a0 12 28 = some w) ∧
      zT E (d + 1) m_m_county 89 [some (.ref a0), some (.int a1), some (.int 0)] [] (setF (setF (setF (setF (setF (setF (setF (setF (setF (setF (setF h2 a0 11 (.int 0)) a0 13 (.int (-1))) a0 12 (.int 0)) a0 15 (.int a1)) a0 16 (.int 0)) a0 23 (.int 4)) a0 24 (.int 4)) a0 25 (.int 0)) a0 26 (.int 0)) a0 27 (.int (-1))) a0 28 (.int (-1))) r)) :
    zT E (d + 1) m_m_county 23 [some (.ref a0), some (.int a1), j2] [.int s1, .ref s0] h r := by
  refine zT_st (pc' := 24) (L' := [some (.ref a0), some (.int a1), j2]) (st' := [.int 1, .int s1, .ref s0]) (h' := h) 1 (fun n => rfl) ?_
  obtain ⟨hq, hw⟩ := hw
  obtain ⟨x1, h2, hx, hw⟩ := hw
  refine zT_call (pc' := 27) (rest := []) 1 (fun n => rfl) hq hx ?_
  show zT E (d + 1) m_m_county 27 [some (.ref a0), some (.int a1), j2] [.int x1] h2 r
  by_cases hc : x1 = 0
  · rw [if_pos hc] at hw
    refine zT_st (pc' := 30) (L' := [some (.ref a0), some (.int a1), j2]) (st' := []) (h' := h2) 1 (fun n => if_pos hc) ?_
    subst hw
    exact zT_ret 2 rfl
  · rw [if_neg hc] at hw
    refine zT_st (pc' := 32) (L' := [some (.ref a0), some (.int a1), j2]) (st' := []) (h' := h2) 1 (fun n => if_neg hc) ?_
    refine zT_st (pc' := 34) (L' := [some (.ref a0), some (.int a1), j2]) (st' := [.int 0, .ref a0]) (h' := h2) 2 (fun n => rfl) ?_
    obtain ⟨⟨w, e⟩, hw⟩ := hw
    refine zT_st (pc' := 37) (L' := [some (.ref a0), some (.int a1), j2]) (st' := []) (h' := (setF h2 a0 11 (.int 0))) 1 (fun n => put_eq e rfl _ _) ?_
    refine zT_st (pc' := 39) (L' := [some (.ref a0), some (.int a1), j2]) (st' := [.int (-1), .ref a0]) (h' := (setF h2 a0 11 (.int 0))) 2 (fun n => rfl) ?_
    obtain ⟨⟨w, e⟩, hw⟩ := hw
    refine zT_st (pc' := 42) (L' := [some (.ref a0), some (.int a1), j2]) (st' := []) (h' := (setF (setF h2 a0 11 (.int 0)) a0 13 (.int (-1)))) 1 (fun n => put_eq e rfl _ _) ?_
    refine zT_st (pc' := 44) (L' := [some (.ref a0), some (.int a1), j2]) (st' := [.int 0, .ref a0]) (h' := (setF (setF h2 a0 11 (.int 0)) a0 13 (.int (-1)))) 2 (fun n => rfl) ?_
    obtain ⟨⟨w, e⟩, hw⟩ := hw
    refine zT_st (pc' := 47) (L' := [some (.ref a0), some (.int a1), j2]) (st' := []) (h' := (setF (setF (setF h2 a0 11 (.int 0)) a0 13 (.int (-1))) a0 12 (.int 0))) 1 (fun n => put_eq e rfl _ _) ?_
    refine zT_st (pc' := 49) (L' := [some (.ref a0), some (.int a1), j2]) (st' := [.int a1, .ref a0]) (h' := (setF (setF (setF h2 a0 11 (.int 0)) a0 13 (.int (-1))) a0 12 (.int 0))) 2 (fun n => rfl) ?_
    obtain ⟨⟨w, e⟩, hw⟩ := hw
    refine zT_st (pc' := 52) (L' := [some (.ref a0), some (.int a1), j2]) (st' := []) (h' := (setF (setF (setF (setF h2 a0 11 (.int 0)) a0 13 (.int (-1))) a0 12 (.int 0)) a0 15 (.int a1))) 1 (fun n => put_eq e rfl _ _) ?_
    refine zT_st (pc' := 54) (L' := [some (.ref a0), some (.int a1), j2]) (st' := [.int 0, .ref a0]) (h' := (setF (setF (setF (setF h2 a0 11 (.int 0)) a0 13 (.int (-1))) a0 12 (.int 0)) a0 15 (.int a1))) 2 (fun n => rfl) ?_
    obtain ⟨⟨w, e⟩, hw⟩ := hw
    refine zT_st (pc' := 57) (L' := [some (.ref a0), some (.int a1), j2]) (st' := []) (h' := (setF (setF (setF (setF (setF h2 a0 11 (.int 0)) a0 13 (.int (-1))) a0 12 (.int 0)) a0 15 (.int a1)) a0 16 (.int 0))) 1 (fun n => put_eq e rfl _ _) ?_
    refine zT_st (pc' := 59) (L' := [some (.ref a0), some (.int a1), j2]) (st' := [.int 4, .ref a0]) (h' := (setF (setF (setF (setF (setF h2 a0 11 (.int 0)) a0 13 (.int (-1))) a0 12 (.int 0)) a0 15 (.int a1)) a0 16 (.int 0))) 2 (fun n => rfl) ?_
    obtain ⟨⟨w, e⟩, hw⟩ := hw
    refine zT_st (pc' := 62) (L' := [some (.ref a0), some (.int a1), j2]) (st' := []) (h' := (setF (setF (setF (setF (setF (setF h2 a0 11 (.int 0)) a0 13 (.int (-1))) a0 12 (.int 0)) a0 15 (.int a1)) a0 16 (.int 0)) a0 23 (.int 4))) 1 (fun n => put_eq e rfl _ _) ?_
    refine zT_st (pc' := 64) (L' := [some (.ref a0), some (.int a1), j2]) (st' := [.int 4, .ref a0]) (h' := (setF (setF (setF (setF (setF (setF h2 a0 11 (.int 0)) a0 13 (.int (-1))) a0 12 (.int 0)) a0 15 (.int a1)) a0 16 (.int 0)) a0 23 (.int 4))) 2 (fun n => rfl) ?_
    obtain ⟨⟨w, e⟩, hw⟩ := hw
    refine zT_st (pc' := 67) (L' := [some (.ref a0), some (.int a1), j2]) (st' := []) (h' := (setF (setF (setF (setF (setF (setF (setF h2 a0 11 (.int 0)) a0 13 (.int (-1))) a0 12 (.int 0)) a0 15 (.int a1)) a0 16 (.int 0)) a0 23 (.int 4)) a0 24 (.int 4))) 1 (fun n => put_eq e rfl _ _) ?_
    refine zT_st (pc' := 69) (L' := [some (.ref a0), some (.int a1), j2]) (st' := [.int 0, .ref a0]) (h' := (setF (setF (setF (setF (setF (setF (setF h2 a0 11 (.int 0)) a0 13 (.int (-1))) a0 12 (.int 0)) a0 15 (.int a1)) a0 16 (.int 0)) a0 23 (.int 4)) a0 24 (.int 4))) 2 (fun n => rfl) ?_
    obtain ⟨⟨w, e⟩, hw⟩ := hw
    refine zT_st (pc' := 72) (L' := [some (.ref a0), some (.int a1), j2]) (st' := []) (h' := (setF (setF (setF (setF (setF (setF (setF (setF h2 a0 11 (.int 0)) a0 13 (.int (-1))) a0 12 (.int 0)) a0 15 (.int a1)) a0 16 (.int 0)) a0 23 (.int 4)) a0 24 (.int 4)) a0 25 (.int 0))) 1 (fun n => put_eq e rfl _ _) ?_
    refine zT_st (pc' := 74) (L' := [some (.ref a0), some (.int a1), j2]) (st' := [.int 0, .ref a0]) (h' := (setF (setF (setF (setF (setF (setF (setF (setF h2 a0 11 (.int 0)) a0 13 (.int (-1))) a0 12 (.int 0)) a0 15 (.int a1)) a0 16 (.int 0)) a0 23 (.int 4)) a0 24 (.int 4)) a0 25 (.int 0))) 2 (fun n => rfl) ?_
    obtain ⟨⟨w, e⟩, hw⟩ := hw
    refine zT_st (pc' := 77) (L' := [some (.ref a0), some (.int a1), j2]) (st' := []) (h' := (setF (setF (setF (setF (setF (setF (setF (setF (setF h2 a0 11 (.int 0)) a0 13 (.int (-1))) a0 12 (.int 0)) a0 15 (.int a1)) a0 16 (.int 0)) a0 23 (.int 4)) a0 24 (.int 4)) a0 25 (.int 0)) a0 26 (.int 0))) 1 (fun n => put_eq e rfl _ _) ?_
    refine zT_st (pc' := 79) (L' := [some (.ref a0), some (.int a1), j2]) (st' := [.int (-1), .ref a0]) (h' := (setF (setF (setF (setF (setF (setF (setF (setF (setF h2 a0 11 (.int 0)) a0 13 (.int (-1))) a0 12 (.int 0)) a0 15 (.int a1)) a0 16 (.int 0)) a0 23 (.int 4)) a0 24 (.int 4)) a0 25 (.int 0)) a0 26 (.int 0))) 2 (fun n => rfl) ?_
    obtain ⟨⟨w, e⟩, hw⟩ := hw
    refine zT_st (pc' := 82) (L' := [some (.ref a0), some (.int a1), j2]) (st' := []) (h' := (setF (setF (setF (setF (setF (setF (setF (setF (setF (setF h2 a0 11 (.int 0)) a0 13 (.int (-1))) a0 12 (.int 0)) a0 15 (.int a1)) a0 16 (.int 0)) a0 23 (.int 4)) a0 24 (.int 4)) a0 25 (.int 0)) a0 26 (.int 0)) a0 27 (.int (-1)))) 1 (fun n => put_eq e rfl _ _) ?_
    refine zT_st (pc' := 84) (L' := [some (.ref a0), some (.int a1), j2]) (st' := [.int (-1), .ref a0]) (h' := (setF (setF (setF (setF (setF (setF (setF (setF (setF (setF h2 a0 11 (.int 0)) a0 13 (.int (-1))) a0 12 (.int 0)) a0 15 (.int a1)) a0 16 (.int 0)) a0 23 (.int 4)) a0 24 (.int 4)) a0 25 (.int 0)) a0 26 (.int 0)) a0 27 (.int (-1)))) 2 (fun n => rfl) ?_
    obtain ⟨⟨w, e⟩, hw⟩ := hw
    refine zT_st (pc' := 87) (L' := [some (.ref a0), some (.int a1), j2]) (st' := []) (h' := (setF (setF (setF (setF (setF (setF (setF (setF (setF (setF (setF h2 a0 11 (.int 0)) a0 13 (.int (-1))) a0 12 (.int 0)) a0 15 (.int a1)) a0 16 (.int 0)) a0 23 (.int 4)) a0 24 (.int 4)) a0 25 (.int 0)) a0 26 (.int 0)) a0 27 (.int (-1))) a0 28 (.int (-1)))) 1 (fun n => put_eq e rfl _ _) ?_
    exact zT_st 2 (fun n => rfl) hw
set_option maxRecDepth 4000 in
theorem s_m_county_89 (E : zX) (d : Nat) (a0 : Nat) (j1 : Option Value) (a2 : Int32) (h : zH) (r : zO × zH)
    (hw : if 79 ≤ a2 then (
      (∃ w, fld h a0 12 29 = some w) ∧
      isO (setF h a0 29 (.int 0)) a0 12 = true ∧ ∃ (h2 : zH), zT E d m_m_goes 0 [some (.ref a0), none] [] (setF h a0 29 (.int 0)) (.inl none, h2) ∧
      isO h2 a0 12 = true ∧ ∃ (x3 : Int32) (h4 : zH), zT E d m_m_knownWord 0 [some (.ref a0), none] [] h2 (.inl (some (.int x3)), h4) ∧
      if x3 = 9 then (
        isO h4 a0 12 = true ∧ ∃ (h6 : zH), zT E d m_m_goes 0 [some (.ref a0), none] [] h4 (.inl none, h6) ∧
        isO h6 a0 12 = true ∧ ∃ (x7 : Int32) (h8 : zH), zT E d m_m_number 0 [some (.ref a0), some (.int 1), some (.int 6), none] [] h6 (.inl (some (.int x7)), h8) ∧
        (∃ w, fld h8 a0 12 23 = some w) ∧
        isO (setF h8 a0 23 (.int x7)) a0 12 = true ∧ ∃ (x9 : Int32) (h10 : zH), zT E d m_m_number 0 [some (.ref a0), some (.int 1), some (.int 6), none] [] (setF h8 a0 23 (.int x7)) (.inl (some (.int x9)), h10) ∧
        (∃ w, fld h10 a0 12 24 = some w) ∧
        isO (setF h10 a0 24 (.int x9)) a0 12 = true ∧ ∃ (x11 : Int32) (h12 : zH), zT E d m_m_isSign 0 [some (.ref a0), some (.int 59)] [] (setF h10 a0 24 (.int x9)) (.inl (some (.int x11)), h12) ∧
        isO h12 a0 12 = true ∧ ∃ (h14 : zH), zT E d m_m_need 0 [some (.ref a0), some (.int x11)] [] h12 (.inl none, h14) ∧
        zT E (d + 1) m_m_county 162 [some (.ref a0), j1, some (.int a2)] [] h14 r)
      else (
        zT E (d + 1) m_m_county 162 [some (.ref a0), j1, some (.int a2)] [] h4 r))
    else (
      ∃ o15 : Nat, fld h a0 12 36 = some (.ref o15) ∧
      ∃ (n16 : Nat) (f17 : Nat → Int32), arr h o15 = some (n16, f17) ∧ ¬ (a2 < 0 ∨ n16 ≤ (a2).toNatClampNeg) ∧
      zT E (d + 1) m_m_county 89 [some (.ref a0), j1, some (.int (a2 + 1))] [] (setA h o15 n16 (upd f17 (a2).toNatClampNeg 0)) r)) :
    zT E (d + 1) m_m_county 89 [some (.ref a0), j1, some (.int a2)] [] h r := by
  refine zT_st (pc' := 92) (L' := [some (.ref a0), j1, some (.int a2)]) (st' := [.int 79, .int a2]) (h' := h) 2 (fun n => rfl) ?_
  by_cases hc : 79 ≤ a2
  · rw [if_pos hc] at hw
    refine zT_st (pc' := 108) (L' := [some (.ref a0), j1, some (.int a2)]) (st' := []) (h' := h) 1 (fun n => if_pos hc) ?_
    refine zT_st (pc' := 110) (L' := [some (.ref a0), j1, some (.int a2)]) (st' := [.int 0, .ref a0]) (h' := h) 2 (fun n => rfl) ?_
    obtain ⟨⟨w, e⟩, hw⟩ := hw
    refine zT_st (pc' := 113) (L' := [some (.ref a0), j1, some (.int a2)]) (st' := []) (h' := (setF h a0 29 (.int 0))) 1 (fun n => put_eq e rfl _ _) ?_
    refine zT_st (pc' := 114) (L' := [some (.ref a0), j1, some (.int a2)]) (st' := [.ref a0]) (h' := (setF h a0 29 (.int 0))) 1 (fun n => rfl) ?_
    obtain ⟨hq, hw⟩ := hw
    obtain ⟨h2, hx, hw⟩ := hw
    refine zT_call (pc' := 117) (rest := []) 1 (fun n => rfl) hq hx ?_
    show zT E (d + 1) m_m_county 117 [some (.ref a0), j1, some (.int a2)] [] h2 r
    refine zT_st (pc' := 118) (L' := [some (.ref a0), j1, some (.int a2)]) (st' := [.ref a0]) (h' := h2) 1 (fun n => rfl) ?_
    obtain ⟨hq, hw⟩ := hw
    obtain ⟨x3, h4, hx, hw⟩ := hw
    refine zT_call (pc' := 121) (rest := []) 1 (fun n => rfl) hq hx ?_
    show zT E (d + 1) m_m_county 121 [some (.ref a0), j1, some (.int a2)] [.int x3] h4 r
    refine zT_st (pc' := 123) (L' := [some (.ref a0), j1, some (.int a2)]) (st' := [.int 9, .int x3]) (h' := h4) 1 (fun n => rfl) ?_
    by_cases hc : x3 = 9
    · rw [if_pos hc] at hw
      refine zT_st (pc' := 126) (L' := [some (.ref a0), j1, some (.int a2)]) (st' := []) (h' := h4) 1 (fun n => if_pos hc) ?_
      refine zT_st (pc' := 127) (L' := [some (.ref a0), j1, some (.int a2)]) (st' := [.ref a0]) (h' := h4) 1 (fun n => rfl) ?_
      obtain ⟨hq, hw⟩ := hw
      obtain ⟨h6, hx, hw⟩ := hw
      refine zT_call (pc' := 130) (rest := []) 1 (fun n => rfl) hq hx ?_
      show zT E (d + 1) m_m_county 130 [some (.ref a0), j1, some (.int a2)] [] h6 r
      refine zT_st (pc' := 135) (L' := [some (.ref a0), j1, some (.int a2)]) (st' := [.int 6, .int 1, .ref a0, .ref a0]) (h' := h6) 4 (fun n => rfl) ?_
      obtain ⟨hq, hw⟩ := hw
      obtain ⟨x7, h8, hx, hw⟩ := hw
      refine zT_call (pc' := 138) (rest := [.ref a0]) 1 (fun n => rfl) hq hx ?_
      show zT E (d + 1) m_m_county 138 [some (.ref a0), j1, some (.int a2)] [.int x7, .ref a0] h8 r
      obtain ⟨⟨w, e⟩, hw⟩ := hw
      refine zT_st (pc' := 141) (L' := [some (.ref a0), j1, some (.int a2)]) (st' := []) (h' := (setF h8 a0 23 (.int x7))) 1 (fun n => put_eq e rfl _ _) ?_
      refine zT_st (pc' := 146) (L' := [some (.ref a0), j1, some (.int a2)]) (st' := [.int 6, .int 1, .ref a0, .ref a0]) (h' := (setF h8 a0 23 (.int x7))) 4 (fun n => rfl) ?_
      obtain ⟨hq, hw⟩ := hw
      obtain ⟨x9, h10, hx, hw⟩ := hw
      refine zT_call (pc' := 149) (rest := [.ref a0]) 1 (fun n => rfl) hq hx ?_
      show zT E (d + 1) m_m_county 149 [some (.ref a0), j1, some (.int a2)] [.int x9, .ref a0] h10 r
      obtain ⟨⟨w, e⟩, hw⟩ := hw
      refine zT_st (pc' := 152) (L' := [some (.ref a0), j1, some (.int a2)]) (st' := []) (h' := (setF h10 a0 24 (.int x9))) 1 (fun n => put_eq e rfl _ _) ?_
      refine zT_st (pc' := 156) (L' := [some (.ref a0), j1, some (.int a2)]) (st' := [.int 59, .ref a0, .ref a0]) (h' := (setF h10 a0 24 (.int x9))) 3 (fun n => rfl) ?_
      obtain ⟨hq, hw⟩ := hw
      obtain ⟨x11, h12, hx, hw⟩ := hw
      refine zT_call (pc' := 159) (rest := [.ref a0]) 1 (fun n => rfl) hq hx ?_
      show zT E (d + 1) m_m_county 159 [some (.ref a0), j1, some (.int a2)] [.int x11, .ref a0] h12 r
      obtain ⟨hq, hw⟩ := hw
      obtain ⟨h14, hx, hw⟩ := hw
      refine zT_call (pc' := 162) (rest := []) 1 (fun n => rfl) hq hx ?_
      show zT E (d + 1) m_m_county 162 [some (.ref a0), j1, some (.int a2)] [] h14 r
      exact hw
    · rw [if_neg hc] at hw
      refine zT_st (pc' := 162) (L' := [some (.ref a0), j1, some (.int a2)]) (st' := []) (h' := h4) 1 (fun n => if_neg hc) ?_
      exact hw
  · rw [if_neg hc] at hw
    refine zT_st (pc' := 95) (L' := [some (.ref a0), j1, some (.int a2)]) (st' := []) (h' := h) 1 (fun n => if_neg hc) ?_
    refine zT_st (pc' := 96) (L' := [some (.ref a0), j1, some (.int a2)]) (st' := [.ref a0]) (h' := h) 1 (fun n => rfl) ?_
    obtain ⟨o15, e, hw⟩ := hw
    refine zT_st (pc' := 99) (L' := [some (.ref a0), j1, some (.int a2)]) (st' := [.ref o15]) (h' := h) 1 (fun n => fld_eq (E := E) e _) ?_
    refine zT_st (pc' := 101) (L' := [some (.ref a0), j1, some (.int a2)]) (st' := [.int 0, .int a2, .ref o15]) (h' := h) 2 (fun n => rfl) ?_
    obtain ⟨n16, f17, e, hi, hw⟩ := hw
    refine zT_st (pc' := 102) (L' := [some (.ref a0), j1, some (.int a2)]) (st' := []) (h' := (setA h o15 n16 (upd f17 (a2).toNatClampNeg 0))) 1 (fun n => set_eq e hi _ _) ?_
    exact zT_st 2 (fun n => rfl) hw
set_option maxRecDepth 4000 in
theorem s_m_county_162 (E : zX) (d : Nat) (a0 : Nat) (j1 : Option Value) (j2 : Option Value) (h : zH) (r : zO × zH)
    (hw : isO h a0 12 = true ∧ ∃ (x1 : Int32) (h2 : zH), zT E d m_m_isGood 0 [some (.ref a0)] [] h (.inl (some (.int x1)), h2) ∧
    if x1 = 0 then (
      zT E (d + 1) m_m_county 183 [some (.ref a0), j1, j2] [] h2 r)
    else (
      ∃ x3 : Int32, fld h2 a0 12 17 = some (.int x3) ∧
      if x3 = 0 then (
        zT E (d + 1) m_m_county 183 [some (.ref a0), j1, j2] [] h2 r)
      else (
        isO h2 a0 12 = true ∧ ∃ (h5 : zH), zT E d m_m_line 0 [some (.ref a0), none] [] h2 (.inl none, h5) ∧
        zT E (d + 1) m_m_county 162 [some (.ref a0), j1, j2] [] h5 r))) :
    zT E (d + 1) m_m_county 162 [some (.ref a0), j1, j2] [] h r := by
  refine zT_st (pc' := 163) (L' := [some (.ref a0), j1, j2]) (st' := [.ref a0]) (h' := h) 1 (fun n => rfl) ?_
  obtain ⟨hq, hw⟩ := hw
  obtain ⟨x1, h2, hx, hw⟩ := hw
  refine zT_call (pc' := 166) (rest := []) 1 (fun n => rfl) hq hx ?_
  show zT E (d + 1) m_m_county 166 [some (.ref a0), j1, j2] [.int x1] h2 r
  by_cases hc : x1 = 0
  · rw [if_pos hc] at hw
    refine zT_st (pc' := 183) (L' := [some (.ref a0), j1, j2]) (st' := []) (h' := h2) 1 (fun n => if_pos hc) ?_
    exact hw
  · rw [if_neg hc] at hw
    refine zT_st (pc' := 169) (L' := [some (.ref a0), j1, j2]) (st' := []) (h' := h2) 1 (fun n => if_neg hc) ?_
    refine zT_st (pc' := 170) (L' := [some (.ref a0), j1, j2]) (st' := [.ref a0]) (h' := h2) 1 (fun n => rfl) ?_
    obtain ⟨x3, e, hw⟩ := hw
    refine zT_st (pc' := 173) (L' := [some (.ref a0), j1, j2]) (st' := [.int x3]) (h' := h2) 1 (fun n => fld_eq (E := E) e _) ?_
    by_cases hc : x3 = 0
    · rw [if_pos hc] at hw
      refine zT_st (pc' := 183) (L' := [some (.ref a0), j1, j2]) (st' := []) (h' := h2) 1 (fun n => if_pos hc) ?_
      exact hw
    · rw [if_neg hc] at hw
      refine zT_st (pc' := 176) (L' := [some (.ref a0), j1, j2]) (st' := []) (h' := h2) 1 (fun n => if_neg hc) ?_
      refine zT_st (pc' := 177) (L' := [some (.ref a0), j1, j2]) (st' := [.ref a0]) (h' := h2) 1 (fun n => rfl) ?_
      obtain ⟨hq, hw⟩ := hw
      obtain ⟨h5, hx, hw⟩ := hw
      refine zT_call (pc' := 180) (rest := []) 1 (fun n => rfl) hq hx ?_
      show zT E (d + 1) m_m_county 180 [some (.ref a0), j1, j2] [] h5 r
      exact zT_st 1 (fun n => rfl) hw
set_option maxRecDepth 4000 in
theorem s_m_county_183 (E : zX) (d : Nat) (a0 : Nat) (j1 : Option Value) (j2 : Option Value) (h : zH) (r : zO × zH)
    (hw : isO h a0 12 = true ∧ ∃ (x1 : Int32) (h2 : zH), zT E d m_m_isGood 0 [some (.ref a0)] [] h (.inl (some (.int x1)), h2) ∧
    if x1 = 0 then (
      ∃ o3 : Nat, fld h2 a0 12 14 = some (.ref o3) ∧
      ∃ (n4 : Nat) (f5 : Nat → Int32), arr h2 o3 = some (n4, f5) ∧ ¬ ((0 : Int32) < 0 ∨ n4 ≤ ((0 : Int32)).toNatClampNeg) ∧
      ∃ (n6 : Nat) (f7 : Nat → Int32), arr h2 o3 = some (n6, f7) ∧ ¬ ((0 : Int32) < 0 ∨ n6 ≤ ((0 : Int32)).toNatClampNeg) ∧
      ∃ x8 : Int32, fld (setA h2 o3 n6 (upd f7 ((0 : Int32)).toNatClampNeg ((f5 ((0 : Int32)).toNatClampNeg) + 1))) a0 12 12 = some (.int x8) ∧
      r = (.inl (some (.int x8)), (setA h2 o3 n6 (upd f7 ((0 : Int32)).toNatClampNeg ((f5 ((0 : Int32)).toNatClampNeg) + 1)))))
    else (
      ∃ x9 : Int32, fld h2 a0 12 23 = some (.int x9) ∧
      (∃ w, fld h2 a0 12 1 = some w) ∧
      ∃ x10 : Int32, fld (setF h2 a0 1 (.int x9)) a0 12 24 = some (.int x10) ∧
      (∃ w, fld (setF h2 a0 1 (.int x9)) a0 12 2 = some w) ∧
      ∃ x11 : Int32, fld (setF (setF h2 a0 1 (.int x9)) a0 2 (.int x10)) a0 12 25 = some (.int x11) ∧
      (∃ w, fld (setF (setF h2 a0 1 (.int x9)) a0 2 (.int x10)) a0 12 3 = some w) ∧
      ∃ x12 : Int32, fld (setF (setF (setF h2 a0 1 (.int x9)) a0 2 (.int x10)) a0 3 (.int x11)) a0 12 26 = some (.int x12) ∧
      (∃ w, fld (setF (setF (setF h2 a0 1 (.int x9)) a0 2 (.int x10)) a0 3 (.int x11)) a0 12 4 = some w) ∧
      ∃ x13 : Int32, fld (setF (setF (setF (setF h2 a0 1 (.int x9)) a0 2 (.int x10)) a0 3 (.int x11)) a0 4 (.int x12)) a0 12 27 = some (.int x13) ∧
      (∃ w, fld (setF (setF (setF (setF h2 a0 1 (.int x9)) a0 2 (.int x10)) a0 3 (.int x11)) a0 4 (.int x12)) a0 12 5 = some w) ∧
      ∃ x14 : Int32, fld (setF (setF (setF (setF (setF h2 a0 1 (.int x9)) a0 2 (.int x10)) a0 3 (.int x11)) a0 4 (.int x12)) a0 5 (.int x13)) a0 12 28 = some (.int x14) ∧
      (∃ w, fld (setF (setF (setF (setF (setF h2 a0 1 (.int x9)) a0 2 (.int x10)) a0 3 (.int x11)) a0 4 (.int x12)) a0 5 (.int x13)) a0 12 6 = some w) ∧
      ∃ o15 : Nat, fld (setF (setF (setF (setF (setF (setF h2 a0 1 (.int x9)) a0 2 (.int x10)) a0 3 (.int x11)) a0 4 (.int x12)) a0 5 (.int x13)) a0 6 (.int x14)) a0 12 34 = some (.ref o15) ∧
      ∃ o16 : Nat, fld (setF (setF (setF (setF (setF (setF h2 a0 1 (.int x9)) a0 2 (.int x10)) a0 3 (.int x11)) a0 4 (.int x12)) a0 5 (.int x13)) a0 6 (.int x14)) a0 12 7 = some (.ref o16) ∧
      isO (setF (setF (setF (setF (setF (setF h2 a0 1 (.int x9)) a0 2 (.int x10)) a0 3 (.int x11)) a0 4 (.int x12)) a0 5 (.int x13)) a0 6 (.int x14)) a0 12 = true ∧ ∃ (h18 : zH), zT E d m_m_copies 0 [some (.ref a0), some (.ref o15), some (.ref o16), none] [] (setF (setF (setF (setF (setF (setF h2 a0 1 (.int x9)) a0 2 (.int x10)) a0 3 (.int x11)) a0 4 (.int x12)) a0 5 (.int x13)) a0 6 (.int x14)) (.inl none, h18) ∧
      ∃ o19 : Nat, fld h18 a0 12 35 = some (.ref o19) ∧
      ∃ o20 : Nat, fld h18 a0 12 8 = some (.ref o20) ∧
      isO h18 a0 12 = true ∧ ∃ (h22 : zH), zT E d m_m_copies 0 [some (.ref a0), some (.ref o19), some (.ref o20), none] [] h18 (.inl none, h22) ∧
      ∃ o23 : Nat, fld h22 a0 12 37 = some (.ref o23) ∧
      ∃ o24 : Nat, fld h22 a0 12 9 = some (.ref o24) ∧
      isO h22 a0 12 = true ∧ ∃ (h26 : zH), zT E d m_m_copies 0 [some (.ref a0), some (.ref o23), some (.ref o24), none] [] h22 (.inl none, h26) ∧
      zT E (d + 1) m_m_county 291 [some (.ref a0), j1, some (.int 0)] [] h26 r)) :
    zT E (d + 1) m_m_county 183 [some (.ref a0), j1, j2] [] h r := by
  refine zT_st (pc' := 184) (L' := [some (.ref a0), j1, j2]) (st' := [.ref a0]) (h' := h) 1 (fun n => rfl) ?_
  obtain ⟨hq, hw⟩ := hw
  obtain ⟨x1, h2, hx, hw⟩ := hw
  refine zT_call (pc' := 187) (rest := []) 1 (fun n => rfl) hq hx ?_
  show zT E (d + 1) m_m_county 187 [some (.ref a0), j1, j2] [.int x1] h2 r
  by_cases hc : x1 = 0
  · rw [if_pos hc] at hw
    refine zT_st (pc' := 190) (L' := [some (.ref a0), j1, j2]) (st' := []) (h' := h2) 1 (fun n => if_pos hc) ?_
    refine zT_st (pc' := 191) (L' := [some (.ref a0), j1, j2]) (st' := [.ref a0]) (h' := h2) 1 (fun n => rfl) ?_
    obtain ⟨o3, e, hw⟩ := hw
    refine zT_st (pc' := 194) (L' := [some (.ref a0), j1, j2]) (st' := [.ref o3]) (h' := h2) 1 (fun n => fld_eq (E := E) e _) ?_
    refine zT_st (pc' := 196) (L' := [some (.ref a0), j1, j2]) (st' := [.int 0, .ref o3, .int 0, .ref o3]) (h' := h2) 2 (fun n => rfl) ?_
    obtain ⟨n4, f5, e, hi, hw⟩ := hw
    refine zT_st (pc' := 197) (L' := [some (.ref a0), j1, j2]) (st' := [.int (f5 ((0 : Int32)).toNatClampNeg), .int 0, .ref o3]) (h' := h2) 1 (fun n => arr_eq (E := E) e hi [.int 0, .ref o3] (fun st => zrun zP zCd E n (d + 1) m_m_county 197 [some (.ref a0), j1, j2] st h2)) ?_
    refine zT_st (pc' := 199) (L' := [some (.ref a0), j1, j2]) (st' := [.int ((f5 ((0 : Int32)).toNatClampNeg) + 1), .int 0, .ref o3]) (h' := h2) 2 (fun n => rfl) ?_
    obtain ⟨n6, f7, e, hi, hw⟩ := hw
    refine zT_st (pc' := 200) (L' := [some (.ref a0), j1, j2]) (st' := []) (h' := (setA h2 o3 n6 (upd f7 ((0 : Int32)).toNatClampNeg ((f5 ((0 : Int32)).toNatClampNeg) + 1)))) 1 (fun n => set_eq e hi _ _) ?_
    refine zT_st (pc' := 201) (L' := [some (.ref a0), j1, j2]) (st' := [.ref a0]) (h' := (setA h2 o3 n6 (upd f7 ((0 : Int32)).toNatClampNeg ((f5 ((0 : Int32)).toNatClampNeg) + 1)))) 1 (fun n => rfl) ?_
    obtain ⟨x8, e, hw⟩ := hw
    refine zT_st (pc' := 204) (L' := [some (.ref a0), j1, j2]) (st' := [.int x8]) (h' := (setA h2 o3 n6 (upd f7 ((0 : Int32)).toNatClampNeg ((f5 ((0 : Int32)).toNatClampNeg) + 1)))) 1 (fun n => fld_eq (E := E) e _) ?_
    subst hw
    exact zT_ret 1 rfl
  · rw [if_neg hc] at hw
    refine zT_st (pc' := 205) (L' := [some (.ref a0), j1, j2]) (st' := []) (h' := h2) 1 (fun n => if_neg hc) ?_
    refine zT_st (pc' := 207) (L' := [some (.ref a0), j1, j2]) (st' := [.ref a0, .ref a0]) (h' := h2) 2 (fun n => rfl) ?_
    obtain ⟨x9, e, hw⟩ := hw
    refine zT_st (pc' := 210) (L' := [some (.ref a0), j1, j2]) (st' := [.int x9, .ref a0]) (h' := h2) 1 (fun n => fld_eq (E := E) e _) ?_
    obtain ⟨⟨w, e⟩, hw⟩ := hw
    refine zT_st (pc' := 213) (L' := [some (.ref a0), j1, j2]) (st' := []) (h' := (setF h2 a0 1 (.int x9))) 1 (fun n => put_eq e rfl _ _) ?_
    refine zT_st (pc' := 215) (L' := [some (.ref a0), j1, j2]) (st' := [.ref a0, .ref a0]) (h' := (setF h2 a0 1 (.int x9))) 2 (fun n => rfl) ?_
    obtain ⟨x10, e, hw⟩ := hw
    refine zT_st (pc' := 218) (L' := [some (.ref a0), j1, j2]) (st' := [.int x10, .ref a0]) (h' := (setF h2 a0 1 (.int x9))) 1 (fun n => fld_eq (E := E) e _) ?_
    obtain ⟨⟨w, e⟩, hw⟩ := hw
    refine zT_st (pc' := 221) (L' := [some (.ref a0), j1, j2]) (st' := []) (h' := (setF (setF h2 a0 1 (.int x9)) a0 2 (.int x10))) 1 (fun n => put_eq e rfl _ _) ?_
    refine zT_st (pc' := 223) (L' := [some (.ref a0), j1, j2]) (st' := [.ref a0, .ref a0]) (h' := (setF (setF h2 a0 1 (.int x9)) a0 2 (.int x10))) 2 (fun n => rfl) ?_
    obtain ⟨x11, e, hw⟩ := hw
    refine zT_st (pc' := 226) (L' := [some (.ref a0), j1, j2]) (st' := [.int x11, .ref a0]) (h' := (setF (setF h2 a0 1 (.int x9)) a0 2 (.int x10))) 1 (fun n => fld_eq (E := E) e _) ?_
    obtain ⟨⟨w, e⟩, hw⟩ := hw
    refine zT_st (pc' := 229) (L' := [some (.ref a0), j1, j2]) (st' := []) (h' := (setF (setF (setF h2 a0 1 (.int x9)) a0 2 (.int x10)) a0 3 (.int x11))) 1 (fun n => put_eq e rfl _ _) ?_
    refine zT_st (pc' := 231) (L' := [some (.ref a0), j1, j2]) (st' := [.ref a0, .ref a0]) (h' := (setF (setF (setF h2 a0 1 (.int x9)) a0 2 (.int x10)) a0 3 (.int x11))) 2 (fun n => rfl) ?_
    obtain ⟨x12, e, hw⟩ := hw
    refine zT_st (pc' := 234) (L' := [some (.ref a0), j1, j2]) (st' := [.int x12, .ref a0]) (h' := (setF (setF (setF h2 a0 1 (.int x9)) a0 2 (.int x10)) a0 3 (.int x11))) 1 (fun n => fld_eq (E := E) e _) ?_
    obtain ⟨⟨w, e⟩, hw⟩ := hw
    refine zT_st (pc' := 237) (L' := [some (.ref a0), j1, j2]) (st' := []) (h' := (setF (setF (setF (setF h2 a0 1 (.int x9)) a0 2 (.int x10)) a0 3 (.int x11)) a0 4 (.int x12))) 1 (fun n => put_eq e rfl _ _) ?_
    refine zT_st (pc' := 239) (L' := [some (.ref a0), j1, j2]) (st' := [.ref a0, .ref a0]) (h' := (setF (setF (setF (setF h2 a0 1 (.int x9)) a0 2 (.int x10)) a0 3 (.int x11)) a0 4 (.int x12))) 2 (fun n => rfl) ?_
    obtain ⟨x13, e, hw⟩ := hw
    refine zT_st (pc' := 242) (L' := [some (.ref a0), j1, j2]) (st' := [.int x13, .ref a0]) (h' := (setF (setF (setF (setF h2 a0 1 (.int x9)) a0 2 (.int x10)) a0 3 (.int x11)) a0 4 (.int x12))) 1 (fun n => fld_eq (E := E) e _) ?_
    obtain ⟨⟨w, e⟩, hw⟩ := hw
    refine zT_st (pc' := 245) (L' := [some (.ref a0), j1, j2]) (st' := []) (h' := (setF (setF (setF (setF (setF h2 a0 1 (.int x9)) a0 2 (.int x10)) a0 3 (.int x11)) a0 4 (.int x12)) a0 5 (.int x13))) 1 (fun n => put_eq e rfl _ _) ?_
    refine zT_st (pc' := 247) (L' := [some (.ref a0), j1, j2]) (st' := [.ref a0, .ref a0]) (h' := (setF (setF (setF (setF (setF h2 a0 1 (.int x9)) a0 2 (.int x10)) a0 3 (.int x11)) a0 4 (.int x12)) a0 5 (.int x13))) 2 (fun n => rfl) ?_
    obtain ⟨x14, e, hw⟩ := hw
    refine zT_st (pc' := 250) (L' := [some (.ref a0), j1, j2]) (st' := [.int x14, .ref a0]) (h' := (setF (setF (setF (setF (setF h2 a0 1 (.int x9)) a0 2 (.int x10)) a0 3 (.int x11)) a0 4 (.int x12)) a0 5 (.int x13))) 1 (fun n => fld_eq (E := E) e _) ?_
    obtain ⟨⟨w, e⟩, hw⟩ := hw
    refine zT_st (pc' := 253) (L' := [some (.ref a0), j1, j2]) (st' := []) (h' := (setF (setF (setF (setF (setF (setF h2 a0 1 (.int x9)) a0 2 (.int x10)) a0 3 (.int x11)) a0 4 (.int x12)) a0 5 (.int x13)) a0 6 (.int x14))) 1 (fun n => put_eq e rfl _ _) ?_
    refine zT_st (pc' := 255) (L' := [some (.ref a0), j1, j2]) (st' := [.ref a0, .ref a0]) (h' := (setF (setF (setF (setF (setF (setF h2 a0 1 (.int x9)) a0 2 (.int x10)) a0 3 (.int x11)) a0 4 (.int x12)) a0 5 (.int x13)) a0 6 (.int x14))) 2 (fun n => rfl) ?_
    obtain ⟨o15, e, hw⟩ := hw
    refine zT_st (pc' := 258) (L' := [some (.ref a0), j1, j2]) (st' := [.ref o15, .ref a0]) (h' := (setF (setF (setF (setF (setF (setF h2 a0 1 (.int x9)) a0 2 (.int x10)) a0 3 (.int x11)) a0 4 (.int x12)) a0 5 (.int x13)) a0 6 (.int x14))) 1 (fun n => fld_eq (E := E) e _) ?_
    refine zT_st (pc' := 259) (L' := [some (.ref a0), j1, j2]) (st' := [.ref a0, .ref o15, .ref a0]) (h' := (setF (setF (setF (setF (setF (setF h2 a0 1 (.int x9)) a0 2 (.int x10)) a0 3 (.int x11)) a0 4 (.int x12)) a0 5 (.int x13)) a0 6 (.int x14))) 1 (fun n => rfl) ?_
    obtain ⟨o16, e, hw⟩ := hw
    refine zT_st (pc' := 262) (L' := [some (.ref a0), j1, j2]) (st' := [.ref o16, .ref o15, .ref a0]) (h' := (setF (setF (setF (setF (setF (setF h2 a0 1 (.int x9)) a0 2 (.int x10)) a0 3 (.int x11)) a0 4 (.int x12)) a0 5 (.int x13)) a0 6 (.int x14))) 1 (fun n => fld_eq (E := E) e _) ?_
    obtain ⟨hq, hw⟩ := hw
    obtain ⟨h18, hx, hw⟩ := hw
    refine zT_call (pc' := 265) (rest := []) 1 (fun n => rfl) hq hx ?_
    show zT E (d + 1) m_m_county 265 [some (.ref a0), j1, j2] [] h18 r
    refine zT_st (pc' := 267) (L' := [some (.ref a0), j1, j2]) (st' := [.ref a0, .ref a0]) (h' := h18) 2 (fun n => rfl) ?_
    obtain ⟨o19, e, hw⟩ := hw
    refine zT_st (pc' := 270) (L' := [some (.ref a0), j1, j2]) (st' := [.ref o19, .ref a0]) (h' := h18) 1 (fun n => fld_eq (E := E) e _) ?_
    refine zT_st (pc' := 271) (L' := [some (.ref a0), j1, j2]) (st' := [.ref a0, .ref o19, .ref a0]) (h' := h18) 1 (fun n => rfl) ?_
    obtain ⟨o20, e, hw⟩ := hw
    refine zT_st (pc' := 274) (L' := [some (.ref a0), j1, j2]) (st' := [.ref o20, .ref o19, .ref a0]) (h' := h18) 1 (fun n => fld_eq (E := E) e _) ?_
    obtain ⟨hq, hw⟩ := hw
    obtain ⟨h22, hx, hw⟩ := hw
    refine zT_call (pc' := 277) (rest := []) 1 (fun n => rfl) hq hx ?_
    show zT E (d + 1) m_m_county 277 [some (.ref a0), j1, j2] [] h22 r
    refine zT_st (pc' := 279) (L' := [some (.ref a0), j1, j2]) (st' := [.ref a0, .ref a0]) (h' := h22) 2 (fun n => rfl) ?_
    obtain ⟨o23, e, hw⟩ := hw
    refine zT_st (pc' := 282) (L' := [some (.ref a0), j1, j2]) (st' := [.ref o23, .ref a0]) (h' := h22) 1 (fun n => fld_eq (E := E) e _) ?_
    refine zT_st (pc' := 283) (L' := [some (.ref a0), j1, j2]) (st' := [.ref a0, .ref o23, .ref a0]) (h' := h22) 1 (fun n => rfl) ?_
    obtain ⟨o24, e, hw⟩ := hw
    refine zT_st (pc' := 286) (L' := [some (.ref a0), j1, j2]) (st' := [.ref o24, .ref o23, .ref a0]) (h' := h22) 1 (fun n => fld_eq (E := E) e _) ?_
    obtain ⟨hq, hw⟩ := hw
    obtain ⟨h26, hx, hw⟩ := hw
    refine zT_call (pc' := 289) (rest := []) 1 (fun n => rfl) hq hx ?_
    show zT E (d + 1) m_m_county 289 [some (.ref a0), j1, j2] [] h26 r
    exact zT_st 2 (fun n => rfl) hw
set_option maxRecDepth 4000 in
theorem s_m_county_291 (E : zX) (d : Nat) (a0 : Nat) (j1 : Option Value) (a2 : Int32) (h : zH) (r : zO × zH)
    (hw : if 79 ≤ a2 then (
      (∃ w, fld h a0 12 42 = some w) ∧
      (∃ w, fld (setF h a0 42 (.int 0)) a0 12 53 = some w) ∧
      (∃ w, fld (setF (setF h a0 42 (.int 0)) a0 53 (.int 0)) a0 12 58 = some w) ∧
      r = (.inl (some (.int 0)), (setF (setF (setF h a0 42 (.int 0)) a0 53 (.int 0)) a0 58 (.int 0))))
    else (
      ∃ o1 : Nat, fld h a0 12 40 = some (.ref o1) ∧
      ∃ o2 : Nat, fld h a0 12 36 = some (.ref o2) ∧
      ∃ (n3 : Nat) (f4 : Nat → Int32), arr h o2 = some (n3, f4) ∧ ¬ (a2 < 0 ∨ n3 ≤ (a2).toNatClampNeg) ∧
      ∃ (n5 : Nat) (f6 : Nat → Int32), arr h o1 = some (n5, f6) ∧ ¬ (a2 < 0 ∨ n5 ≤ (a2).toNatClampNeg) ∧
      zT E (d + 1) m_m_county 291 [some (.ref a0), j1, some (.int (a2 + 1))] [] (setA h o1 n5 (upd f6 (a2).toNatClampNeg (f4 (a2).toNatClampNeg))) r)) :
    zT E (d + 1) m_m_county 291 [some (.ref a0), j1, some (.int a2)] [] h r := by
  refine zT_st (pc' := 294) (L' := [some (.ref a0), j1, some (.int a2)]) (st' := [.int 79, .int a2]) (h' := h) 2 (fun n => rfl) ?_
  by_cases hc : 79 ≤ a2
  · rw [if_pos hc] at hw
    refine zT_st (pc' := 315) (L' := [some (.ref a0), j1, some (.int a2)]) (st' := []) (h' := h) 1 (fun n => if_pos hc) ?_
    refine zT_st (pc' := 317) (L' := [some (.ref a0), j1, some (.int a2)]) (st' := [.int 0, .ref a0]) (h' := h) 2 (fun n => rfl) ?_
    obtain ⟨⟨w, e⟩, hw⟩ := hw
    refine zT_st (pc' := 320) (L' := [some (.ref a0), j1, some (.int a2)]) (st' := []) (h' := (setF h a0 42 (.int 0))) 1 (fun n => put_eq e rfl _ _) ?_
    refine zT_st (pc' := 322) (L' := [some (.ref a0), j1, some (.int a2)]) (st' := [.int 0, .ref a0]) (h' := (setF h a0 42 (.int 0))) 2 (fun n => rfl) ?_
    obtain ⟨⟨w, e⟩, hw⟩ := hw
    refine zT_st (pc' := 325) (L' := [some (.ref a0), j1, some (.int a2)]) (st' := []) (h' := (setF (setF h a0 42 (.int 0)) a0 53 (.int 0))) 1 (fun n => put_eq e rfl _ _) ?_
    refine zT_st (pc' := 327) (L' := [some (.ref a0), j1, some (.int a2)]) (st' := [.int 0, .ref a0]) (h' := (setF (setF h a0 42 (.int 0)) a0 53 (.int 0))) 2 (fun n => rfl) ?_
    obtain ⟨⟨w, e⟩, hw⟩ := hw
    refine zT_st (pc' := 330) (L' := [some (.ref a0), j1, some (.int a2)]) (st' := []) (h' := (setF (setF (setF h a0 42 (.int 0)) a0 53 (.int 0)) a0 58 (.int 0))) 1 (fun n => put_eq e rfl _ _) ?_
    subst hw
    exact zT_ret 2 rfl
  · rw [if_neg hc] at hw
    refine zT_st (pc' := 297) (L' := [some (.ref a0), j1, some (.int a2)]) (st' := []) (h' := h) 1 (fun n => if_neg hc) ?_
    refine zT_st (pc' := 298) (L' := [some (.ref a0), j1, some (.int a2)]) (st' := [.ref a0]) (h' := h) 1 (fun n => rfl) ?_
    obtain ⟨o1, e, hw⟩ := hw
    refine zT_st (pc' := 301) (L' := [some (.ref a0), j1, some (.int a2)]) (st' := [.ref o1]) (h' := h) 1 (fun n => fld_eq (E := E) e _) ?_
    refine zT_st (pc' := 303) (L' := [some (.ref a0), j1, some (.int a2)]) (st' := [.ref a0, .int a2, .ref o1]) (h' := h) 2 (fun n => rfl) ?_
    obtain ⟨o2, e, hw⟩ := hw
    refine zT_st (pc' := 306) (L' := [some (.ref a0), j1, some (.int a2)]) (st' := [.ref o2, .int a2, .ref o1]) (h' := h) 1 (fun n => fld_eq (E := E) e _) ?_
    refine zT_st (pc' := 307) (L' := [some (.ref a0), j1, some (.int a2)]) (st' := [.int a2, .ref o2, .int a2, .ref o1]) (h' := h) 1 (fun n => rfl) ?_
    obtain ⟨n3, f4, e, hi, hw⟩ := hw
    refine zT_st (pc' := 308) (L' := [some (.ref a0), j1, some (.int a2)]) (st' := [.int (f4 (a2).toNatClampNeg), .int a2, .ref o1]) (h' := h) 1 (fun n => arr_eq (E := E) e hi [.int a2, .ref o1] (fun st => zrun zP zCd E n (d + 1) m_m_county 308 [some (.ref a0), j1, some (.int a2)] st h)) ?_
    obtain ⟨n5, f6, e, hi, hw⟩ := hw
    refine zT_st (pc' := 309) (L' := [some (.ref a0), j1, some (.int a2)]) (st' := []) (h' := (setA h o1 n5 (upd f6 (a2).toNatClampNeg (f4 (a2).toNatClampNeg)))) 1 (fun n => set_eq e hi _ _) ?_
    exact zT_st 2 (fun n => rfl) hw
set_option maxRecDepth 4000 in
theorem s_m_goes_0 (E : zX) (d : Nat) (a0 : Nat) (h : zH) (r : zO × zH)
    (hw : ∃ x1 : Int32, fld h a0 12 16 = some (.int x1) ∧
    ∃ x2 : Int32, fld h a0 12 15 = some (.int x2) ∧
    if x2 ≤ x1 then (
      zT E (d + 1) m_m_goes 50 [some (.ref a0), none] [] h r)
    else (
      ∃ x3 : Int32, fld h a0 12 16 = some (.int x3) ∧
      isO h a0 12 = true ∧ ∃ (x4 : Int32) (h5 : zH), zT E d m_m_byteAt 0 [some (.ref a0), some (.int x3)] [] h (.inl (some (.int x4)), h5) ∧
      if x4 = 32 then (
        ∃ x6 : Int32, fld h5 a0 12 16 = some (.int x6) ∧
        (∃ w, fld h5 a0 12 16 = some w) ∧
        zT E (d + 1) m_m_goes 0 [some (.ref a0), none] [] (setF h5 a0 16 (.int (x6 + 1))) r)
      else (
        ∃ x7 : Int32, fld h5 a0 12 16 = some (.int x7) ∧
        isO h5 a0 12 = true ∧ ∃ (x8 : Int32) (h9 : zH), zT E d m_m_byteAt 0 [some (.ref a0), some (.int x7)] [] h5 (.inl (some (.int x8)), h9) ∧
        if x8 = 10 then (
          ∃ x10 : Int32, fld h9 a0 12 16 = some (.int x10) ∧
          (∃ w, fld h9 a0 12 16 = some w) ∧
          zT E (d + 1) m_m_goes 0 [some (.ref a0), none] [] (setF h9 a0 16 (.int (x10 + 1))) r)
        else (
          zT E (d + 1) m_m_goes 50 [some (.ref a0), none] [] h9 r)))) :
    zT E (d + 1) m_m_goes 0 [some (.ref a0), none] [] h r := by
  refine zT_st (pc' := 1) (L' := [some (.ref a0), none]) (st' := [.ref a0]) (h' := h) 1 (fun n => rfl) ?_
  obtain ⟨x1, e, hw⟩ := hw
  refine zT_st (pc' := 4) (L' := [some (.ref a0), none]) (st' := [.int x1]) (h' := h) 1 (fun n => fld_eq (E := E) e _) ?_
  refine zT_st (pc' := 5) (L' := [some (.ref a0), none]) (st' := [.ref a0, .int x1]) (h' := h) 1 (fun n => rfl) ?_
  obtain ⟨x2, e, hw⟩ := hw
  refine zT_st (pc' := 8) (L' := [some (.ref a0), none]) (st' := [.int x2, .int x1]) (h' := h) 1 (fun n => fld_eq (E := E) e _) ?_
  by_cases hc : x2 ≤ x1
  · rw [if_pos hc] at hw
    refine zT_st (pc' := 50) (L' := [some (.ref a0), none]) (st' := []) (h' := h) 1 (fun n => if_pos hc) ?_
    exact hw
  · rw [if_neg hc] at hw
    refine zT_st (pc' := 11) (L' := [some (.ref a0), none]) (st' := []) (h' := h) 1 (fun n => if_neg hc) ?_
    refine zT_st (pc' := 13) (L' := [some (.ref a0), none]) (st' := [.ref a0, .ref a0]) (h' := h) 2 (fun n => rfl) ?_
    obtain ⟨x3, e, hw⟩ := hw
    refine zT_st (pc' := 16) (L' := [some (.ref a0), none]) (st' := [.int x3, .ref a0]) (h' := h) 1 (fun n => fld_eq (E := E) e _) ?_
    obtain ⟨hq, hw⟩ := hw
    obtain ⟨x4, h5, hx, hw⟩ := hw
    refine zT_call (pc' := 19) (rest := []) 1 (fun n => rfl) hq hx ?_
    show zT E (d + 1) m_m_goes 19 [some (.ref a0), none] [.int x4] h5 r
    refine zT_st (pc' := 21) (L' := [some (.ref a0), none]) (st' := [.int 32, .int x4]) (h' := h5) 1 (fun n => rfl) ?_
    by_cases hc : x4 = 32
    · rw [if_pos hc] at hw
      refine zT_st (pc' := 37) (L' := [some (.ref a0), none]) (st' := []) (h' := h5) 1 (fun n => if_pos hc) ?_
      refine zT_st (pc' := 39) (L' := [some (.ref a0), none]) (st' := [.ref a0, .ref a0]) (h' := h5) 2 (fun n => rfl) ?_
      obtain ⟨x6, e, hw⟩ := hw
      refine zT_st (pc' := 42) (L' := [some (.ref a0), none]) (st' := [.int x6, .ref a0]) (h' := h5) 1 (fun n => fld_eq (E := E) e _) ?_
      refine zT_st (pc' := 44) (L' := [some (.ref a0), none]) (st' := [.int (x6 + 1), .ref a0]) (h' := h5) 2 (fun n => rfl) ?_
      obtain ⟨⟨w, e⟩, hw⟩ := hw
      refine zT_st (pc' := 47) (L' := [some (.ref a0), none]) (st' := []) (h' := (setF h5 a0 16 (.int (x6 + 1)))) 1 (fun n => put_eq e rfl _ _) ?_
      exact zT_st 1 (fun n => rfl) hw
    · rw [if_neg hc] at hw
      refine zT_st (pc' := 24) (L' := [some (.ref a0), none]) (st' := []) (h' := h5) 1 (fun n => if_neg hc) ?_
      refine zT_st (pc' := 26) (L' := [some (.ref a0), none]) (st' := [.ref a0, .ref a0]) (h' := h5) 2 (fun n => rfl) ?_
      obtain ⟨x7, e, hw⟩ := hw
      refine zT_st (pc' := 29) (L' := [some (.ref a0), none]) (st' := [.int x7, .ref a0]) (h' := h5) 1 (fun n => fld_eq (E := E) e _) ?_
      obtain ⟨hq, hw⟩ := hw
      obtain ⟨x8, h9, hx, hw⟩ := hw
      refine zT_call (pc' := 32) (rest := []) 1 (fun n => rfl) hq hx ?_
      show zT E (d + 1) m_m_goes 32 [some (.ref a0), none] [.int x8] h9 r
      refine zT_st (pc' := 34) (L' := [some (.ref a0), none]) (st' := [.int 10, .int x8]) (h' := h9) 1 (fun n => rfl) ?_
      by_cases hc : x8 = 10
      · rw [if_pos hc] at hw
        refine zT_st (pc' := 37) (L' := [some (.ref a0), none]) (st' := []) (h' := h9) 1 (fun n => if_pos hc) ?_
        refine zT_st (pc' := 39) (L' := [some (.ref a0), none]) (st' := [.ref a0, .ref a0]) (h' := h9) 2 (fun n => rfl) ?_
        obtain ⟨x10, e, hw⟩ := hw
        refine zT_st (pc' := 42) (L' := [some (.ref a0), none]) (st' := [.int x10, .ref a0]) (h' := h9) 1 (fun n => fld_eq (E := E) e _) ?_
        refine zT_st (pc' := 44) (L' := [some (.ref a0), none]) (st' := [.int (x10 + 1), .ref a0]) (h' := h9) 2 (fun n => rfl) ?_
        obtain ⟨⟨w, e⟩, hw⟩ := hw
        refine zT_st (pc' := 47) (L' := [some (.ref a0), none]) (st' := []) (h' := (setF h9 a0 16 (.int (x10 + 1)))) 1 (fun n => put_eq e rfl _ _) ?_
        exact zT_st 1 (fun n => rfl) hw
      · rw [if_neg hc] at hw
        refine zT_st (pc' := 50) (L' := [some (.ref a0), none]) (st' := []) (h' := h9) 1 (fun n => if_neg hc) ?_
        exact hw
set_option maxRecDepth 4000 in
theorem s_m_goes_50 (E : zX) (d : Nat) (a0 : Nat) (j1 : Option Value) (h : zH) (r : zO × zH)
    (hw : ∃ x1 : Int32, fld h a0 12 16 = some (.int x1) ∧
    (∃ w, fld h a0 12 18 = some w) ∧
    (∃ w, fld (setF h a0 18 (.int x1)) a0 12 22 = some w) ∧
    (∃ w, fld (setF (setF h a0 18 (.int x1)) a0 22 (.long 0)) a0 12 20 = some w) ∧
    ∃ x2 : Int32, fld (setF (setF (setF h a0 18 (.int x1)) a0 22 (.long 0)) a0 20 (.int 0)) a0 12 16 = some (.int x2) ∧
    isO (setF (setF (setF h a0 18 (.int x1)) a0 22 (.long 0)) a0 20 (.int 0)) a0 12 = true ∧ ∃ (x3 : Int32) (h4 : zH), zT E d m_m_byteAt 0 [some (.ref a0), some (.int x2)] [] (setF (setF (setF h a0 18 (.int x1)) a0 22 (.long 0)) a0 20 (.int 0)) (.inl (some (.int x3)), h4) ∧
    (∃ w, fld h4 a0 12 21 = some w) ∧
    ∃ x5 : Int32, fld (setF h4 a0 21 (.int x3)) a0 12 16 = some (.int x5) ∧
    ∃ x6 : Int32, fld (setF h4 a0 21 (.int x3)) a0 12 15 = some (.int x6) ∧
    if x5 < x6 then (
      ∃ (x7 : Int32) (h8 : zH), zT E d m_m_isLetter 0 [some (.int x3)] [] (setF h4 a0 21 (.int x3)) (.inl (some (.int x7)), h8) ∧
      if x7 = 0 then (
        ∃ (x9 : Int32) (h10 : zH), zT E d m_m_isDigit 0 [some (.int x3)] [] h8 (.inl (some (.int x9)), h10) ∧
        if x9 = 0 then (
          ∃ x11 : Int32, fld h10 a0 12 16 = some (.int x11) ∧
          (∃ w, fld h10 a0 12 16 = some w) ∧
          if x3 = 59 then (
            zT E (d + 1) m_m_goes 323 [some (.ref a0), some (.int x3)] [.ref a0] (setF h10 a0 16 (.int (x11 + 1))) r)
          else (
            if x3 = 40 then (
              zT E (d + 1) m_m_goes 323 [some (.ref a0), some (.int x3)] [.ref a0] (setF h10 a0 16 (.int (x11 + 1))) r)
            else (
              if x3 = 41 then (
                zT E (d + 1) m_m_goes 323 [some (.ref a0), some (.int x3)] [.ref a0] (setF h10 a0 16 (.int (x11 + 1))) r)
              else (
                if x3 = 43 then (
                  zT E (d + 1) m_m_goes 323 [some (.ref a0), some (.int x3)] [.ref a0] (setF h10 a0 16 (.int (x11 + 1))) r)
                else (
                  if x3 = 45 then (
                    zT E (d + 1) m_m_goes 323 [some (.ref a0), some (.int x3)] [.ref a0] (setF h10 a0 16 (.int (x11 + 1))) r)
                  else (
                    if x3 = 42 then (
                      zT E (d + 1) m_m_goes 323 [some (.ref a0), some (.int x3)] [.ref a0] (setF h10 a0 16 (.int (x11 + 1))) r)
                    else (
                      if x3 = 47 then (
                        zT E (d + 1) m_m_goes 323 [some (.ref a0), some (.int x3)] [.ref a0] (setF h10 a0 16 (.int (x11 + 1))) r)
                      else (
                        if x3 = 60 then (
                          zT E (d + 1) m_m_goes 323 [some (.ref a0), some (.int x3)] [.ref a0] (setF h10 a0 16 (.int (x11 + 1))) r)
                        else (
                          if x3 = 61 then (
                            zT E (d + 1) m_m_goes 323 [some (.ref a0), some (.int x3)] [.ref a0] (setF h10 a0 16 (.int (x11 + 1))) r)
                          else (
                            (∃ w, fld (setF h10 a0 16 (.int (x11 + 1))) a0 12 17 = some w) ∧
                            ∃ x12 : Int32, fld (setF (setF h10 a0 16 (.int (x11 + 1))) a0 17 (.int 4)) a0 12 16 = some (.int x12) ∧
                            ∃ x13 : Int32, fld (setF (setF h10 a0 16 (.int (x11 + 1))) a0 17 (.int 4)) a0 12 18 = some (.int x13) ∧
                            (∃ w, fld (setF (setF h10 a0 16 (.int (x11 + 1))) a0 17 (.int 4)) a0 12 19 = some w) ∧
                            r = (.inl (none), (setF (setF (setF h10 a0 16 (.int (x11 + 1))) a0 17 (.int 4)) a0 19 (.int (x12 - x13))))))))))))))
        else (
          zT E (d + 1) m_m_goes 187 [some (.ref a0), some (.int x3)] [] h10 r))
      else (
        zT E (d + 1) m_m_goes 108 [some (.ref a0), some (.int x3)] [] h8 r))
    else (
      (∃ w, fld (setF h4 a0 21 (.int x3)) a0 12 17 = some w) ∧
      ∃ x14 : Int32, fld (setF (setF h4 a0 21 (.int x3)) a0 17 (.int 0)) a0 12 16 = some (.int x14) ∧
      ∃ x15 : Int32, fld (setF (setF h4 a0 21 (.int x3)) a0 17 (.int 0)) a0 12 18 = some (.int x15) ∧
      (∃ w, fld (setF (setF h4 a0 21 (.int x3)) a0 17 (.int 0)) a0 12 19 = some w) ∧
      r = (.inl (none), (setF (setF (setF h4 a0 21 (.int x3)) a0 17 (.int 0)) a0 19 (.int (x14 - x15)))))) :
    zT E (d + 1) m_m_goes 50 [some (.ref a0), j1] [] h r := by
  refine zT_st (pc' := 52) (L' := [some (.ref a0), j1]) (st' := [.ref a0, .ref a0]) (h' := h) 2 (fun n => rfl) ?_
  obtain ⟨x1, e, hw⟩ := hw
  refine zT_st (pc' := 55) (L' := [some (.ref a0), j1]) (st' := [.int x1, .ref a0]) (h' := h) 1 (fun n => fld_eq (E := E) e _) ?_
  obtain ⟨⟨w, e⟩, hw⟩ := hw
  refine zT_st (pc' := 58) (L' := [some (.ref a0), j1]) (st' := []) (h' := (setF h a0 18 (.int x1))) 1 (fun n => put_eq e rfl _ _) ?_
  refine zT_st (pc' := 60) (L' := [some (.ref a0), j1]) (st' := [.long 0, .ref a0]) (h' := (setF h a0 18 (.int x1))) 2 (fun n => rfl) ?_
  obtain ⟨⟨w, e⟩, hw⟩ := hw
  refine zT_st (pc' := 63) (L' := [some (.ref a0), j1]) (st' := []) (h' := (setF (setF h a0 18 (.int x1)) a0 22 (.long 0))) 1 (fun n => put_eq e rfl _ _) ?_
  refine zT_st (pc' := 65) (L' := [some (.ref a0), j1]) (st' := [.int 0, .ref a0]) (h' := (setF (setF h a0 18 (.int x1)) a0 22 (.long 0))) 2 (fun n => rfl) ?_
  obtain ⟨⟨w, e⟩, hw⟩ := hw
  refine zT_st (pc' := 68) (L' := [some (.ref a0), j1]) (st' := []) (h' := (setF (setF (setF h a0 18 (.int x1)) a0 22 (.long 0)) a0 20 (.int 0))) 1 (fun n => put_eq e rfl _ _) ?_
  refine zT_st (pc' := 70) (L' := [some (.ref a0), j1]) (st' := [.ref a0, .ref a0]) (h' := (setF (setF (setF h a0 18 (.int x1)) a0 22 (.long 0)) a0 20 (.int 0))) 2 (fun n => rfl) ?_
  obtain ⟨x2, e, hw⟩ := hw
  refine zT_st (pc' := 73) (L' := [some (.ref a0), j1]) (st' := [.int x2, .ref a0]) (h' := (setF (setF (setF h a0 18 (.int x1)) a0 22 (.long 0)) a0 20 (.int 0))) 1 (fun n => fld_eq (E := E) e _) ?_
  obtain ⟨hq, hw⟩ := hw
  obtain ⟨x3, h4, hx, hw⟩ := hw
  refine zT_call (pc' := 76) (rest := []) 1 (fun n => rfl) hq hx ?_
  show zT E (d + 1) m_m_goes 76 [some (.ref a0), j1] [.int x3] h4 r
  refine zT_st (pc' := 79) (L' := [some (.ref a0), some (.int x3)]) (st' := [.int x3, .ref a0]) (h' := h4) 3 (fun n => rfl) ?_
  obtain ⟨⟨w, e⟩, hw⟩ := hw
  refine zT_st (pc' := 82) (L' := [some (.ref a0), some (.int x3)]) (st' := []) (h' := (setF h4 a0 21 (.int x3))) 1 (fun n => put_eq e rfl _ _) ?_
  refine zT_st (pc' := 83) (L' := [some (.ref a0), some (.int x3)]) (st' := [.ref a0]) (h' := (setF h4 a0 21 (.int x3))) 1 (fun n => rfl) ?_
  obtain ⟨x5, e, hw⟩ := hw
  refine zT_st (pc' := 86) (L' := [some (.ref a0), some (.int x3)]) (st' := [.int x5]) (h' := (setF h4 a0 21 (.int x3))) 1 (fun n => fld_eq (E := E) e _) ?_
  refine zT_st (pc' := 87) (L' := [some (.ref a0), some (.int x3)]) (st' := [.ref a0, .int x5]) (h' := (setF h4 a0 21 (.int x3))) 1 (fun n => rfl) ?_
  obtain ⟨x6, e, hw⟩ := hw
  refine zT_st (pc' := 90) (L' := [some (.ref a0), some (.int x3)]) (st' := [.int x6, .int x5]) (h' := (setF h4 a0 21 (.int x3))) 1 (fun n => fld_eq (E := E) e _) ?_
  by_cases hc : x5 < x6
  · rw [if_pos hc] at hw
    refine zT_st (pc' := 101) (L' := [some (.ref a0), some (.int x3)]) (st' := []) (h' := (setF h4 a0 21 (.int x3))) 1 (fun n => if_pos hc) ?_
    refine zT_st (pc' := 102) (L' := [some (.ref a0), some (.int x3)]) (st' := [.int x3]) (h' := (setF h4 a0 21 (.int x3))) 1 (fun n => rfl) ?_
    obtain ⟨x7, h8, hx, hw⟩ := hw
    refine zT_call (pc' := 105) (rest := []) 1 (fun n => rfl) rfl hx ?_
    show zT E (d + 1) m_m_goes 105 [some (.ref a0), some (.int x3)] [.int x7] h8 r
    by_cases hc : x7 = 0
    · rw [if_pos hc] at hw
      refine zT_st (pc' := 180) (L' := [some (.ref a0), some (.int x3)]) (st' := []) (h' := h8) 1 (fun n => if_pos hc) ?_
      refine zT_st (pc' := 181) (L' := [some (.ref a0), some (.int x3)]) (st' := [.int x3]) (h' := h8) 1 (fun n => rfl) ?_
      obtain ⟨x9, h10, hx, hw⟩ := hw
      refine zT_call (pc' := 184) (rest := []) 1 (fun n => rfl) rfl hx ?_
      show zT E (d + 1) m_m_goes 184 [some (.ref a0), some (.int x3)] [.int x9] h10 r
      by_cases hc : x9 = 0
      · rw [if_pos hc] at hw
        refine zT_st (pc' := 258) (L' := [some (.ref a0), some (.int x3)]) (st' := []) (h' := h10) 1 (fun n => if_pos hc) ?_
        refine zT_st (pc' := 260) (L' := [some (.ref a0), some (.int x3)]) (st' := [.ref a0, .ref a0]) (h' := h10) 2 (fun n => rfl) ?_
        obtain ⟨x11, e, hw⟩ := hw
        refine zT_st (pc' := 263) (L' := [some (.ref a0), some (.int x3)]) (st' := [.int x11, .ref a0]) (h' := h10) 1 (fun n => fld_eq (E := E) e _) ?_
        refine zT_st (pc' := 265) (L' := [some (.ref a0), some (.int x3)]) (st' := [.int (x11 + 1), .ref a0]) (h' := h10) 2 (fun n => rfl) ?_
        obtain ⟨⟨w, e⟩, hw⟩ := hw
        refine zT_st (pc' := 268) (L' := [some (.ref a0), some (.int x3)]) (st' := []) (h' := (setF h10 a0 16 (.int (x11 + 1)))) 1 (fun n => put_eq e rfl _ _) ?_
        refine zT_st (pc' := 272) (L' := [some (.ref a0), some (.int x3)]) (st' := [.int 59, .int x3, .ref a0]) (h' := (setF h10 a0 16 (.int (x11 + 1)))) 3 (fun n => rfl) ?_
        by_cases hc : x3 = 59
        · rw [if_pos hc] at hw
          refine zT_st (pc' := 323) (L' := [some (.ref a0), some (.int x3)]) (st' := [.ref a0]) (h' := (setF h10 a0 16 (.int (x11 + 1)))) 1 (fun n => if_pos hc) ?_
          exact hw
        · rw [if_neg hc] at hw
          refine zT_st (pc' := 275) (L' := [some (.ref a0), some (.int x3)]) (st' := [.ref a0]) (h' := (setF h10 a0 16 (.int (x11 + 1)))) 1 (fun n => if_neg hc) ?_
          refine zT_st (pc' := 278) (L' := [some (.ref a0), some (.int x3)]) (st' := [.int 40, .int x3, .ref a0]) (h' := (setF h10 a0 16 (.int (x11 + 1)))) 2 (fun n => rfl) ?_
          by_cases hc : x3 = 40
          · rw [if_pos hc] at hw
            refine zT_st (pc' := 323) (L' := [some (.ref a0), some (.int x3)]) (st' := [.ref a0]) (h' := (setF h10 a0 16 (.int (x11 + 1)))) 1 (fun n => if_pos hc) ?_
            exact hw
          · rw [if_neg hc] at hw
            refine zT_st (pc' := 281) (L' := [some (.ref a0), some (.int x3)]) (st' := [.ref a0]) (h' := (setF h10 a0 16 (.int (x11 + 1)))) 1 (fun n => if_neg hc) ?_
            refine zT_st (pc' := 284) (L' := [some (.ref a0), some (.int x3)]) (st' := [.int 41, .int x3, .ref a0]) (h' := (setF h10 a0 16 (.int (x11 + 1)))) 2 (fun n => rfl) ?_
            by_cases hc : x3 = 41
            · rw [if_pos hc] at hw
              refine zT_st (pc' := 323) (L' := [some (.ref a0), some (.int x3)]) (st' := [.ref a0]) (h' := (setF h10 a0 16 (.int (x11 + 1)))) 1 (fun n => if_pos hc) ?_
              exact hw
            · rw [if_neg hc] at hw
              refine zT_st (pc' := 287) (L' := [some (.ref a0), some (.int x3)]) (st' := [.ref a0]) (h' := (setF h10 a0 16 (.int (x11 + 1)))) 1 (fun n => if_neg hc) ?_
              refine zT_st (pc' := 290) (L' := [some (.ref a0), some (.int x3)]) (st' := [.int 43, .int x3, .ref a0]) (h' := (setF h10 a0 16 (.int (x11 + 1)))) 2 (fun n => rfl) ?_
              by_cases hc : x3 = 43
              · rw [if_pos hc] at hw
                refine zT_st (pc' := 323) (L' := [some (.ref a0), some (.int x3)]) (st' := [.ref a0]) (h' := (setF h10 a0 16 (.int (x11 + 1)))) 1 (fun n => if_pos hc) ?_
                exact hw
              · rw [if_neg hc] at hw
                refine zT_st (pc' := 293) (L' := [some (.ref a0), some (.int x3)]) (st' := [.ref a0]) (h' := (setF h10 a0 16 (.int (x11 + 1)))) 1 (fun n => if_neg hc) ?_
                refine zT_st (pc' := 296) (L' := [some (.ref a0), some (.int x3)]) (st' := [.int 45, .int x3, .ref a0]) (h' := (setF h10 a0 16 (.int (x11 + 1)))) 2 (fun n => rfl) ?_
                by_cases hc : x3 = 45
                · rw [if_pos hc] at hw
                  refine zT_st (pc' := 323) (L' := [some (.ref a0), some (.int x3)]) (st' := [.ref a0]) (h' := (setF h10 a0 16 (.int (x11 + 1)))) 1 (fun n => if_pos hc) ?_
                  exact hw
                · rw [if_neg hc] at hw
                  refine zT_st (pc' := 299) (L' := [some (.ref a0), some (.int x3)]) (st' := [.ref a0]) (h' := (setF h10 a0 16 (.int (x11 + 1)))) 1 (fun n => if_neg hc) ?_
                  refine zT_st (pc' := 302) (L' := [some (.ref a0), some (.int x3)]) (st' := [.int 42, .int x3, .ref a0]) (h' := (setF h10 a0 16 (.int (x11 + 1)))) 2 (fun n => rfl) ?_
                  by_cases hc : x3 = 42
                  · rw [if_pos hc] at hw
                    refine zT_st (pc' := 323) (L' := [some (.ref a0), some (.int x3)]) (st' := [.ref a0]) (h' := (setF h10 a0 16 (.int (x11 + 1)))) 1 (fun n => if_pos hc) ?_
                    exact hw
                  · rw [if_neg hc] at hw
                    refine zT_st (pc' := 305) (L' := [some (.ref a0), some (.int x3)]) (st' := [.ref a0]) (h' := (setF h10 a0 16 (.int (x11 + 1)))) 1 (fun n => if_neg hc) ?_
                    refine zT_st (pc' := 308) (L' := [some (.ref a0), some (.int x3)]) (st' := [.int 47, .int x3, .ref a0]) (h' := (setF h10 a0 16 (.int (x11 + 1)))) 2 (fun n => rfl) ?_
                    by_cases hc : x3 = 47
                    · rw [if_pos hc] at hw
                      refine zT_st (pc' := 323) (L' := [some (.ref a0), some (.int x3)]) (st' := [.ref a0]) (h' := (setF h10 a0 16 (.int (x11 + 1)))) 1 (fun n => if_pos hc) ?_
                      exact hw
                    · rw [if_neg hc] at hw
                      refine zT_st (pc' := 311) (L' := [some (.ref a0), some (.int x3)]) (st' := [.ref a0]) (h' := (setF h10 a0 16 (.int (x11 + 1)))) 1 (fun n => if_neg hc) ?_
                      refine zT_st (pc' := 314) (L' := [some (.ref a0), some (.int x3)]) (st' := [.int 60, .int x3, .ref a0]) (h' := (setF h10 a0 16 (.int (x11 + 1)))) 2 (fun n => rfl) ?_
                      by_cases hc : x3 = 60
                      · rw [if_pos hc] at hw
                        refine zT_st (pc' := 323) (L' := [some (.ref a0), some (.int x3)]) (st' := [.ref a0]) (h' := (setF h10 a0 16 (.int (x11 + 1)))) 1 (fun n => if_pos hc) ?_
                        exact hw
                      · rw [if_neg hc] at hw
                        refine zT_st (pc' := 317) (L' := [some (.ref a0), some (.int x3)]) (st' := [.ref a0]) (h' := (setF h10 a0 16 (.int (x11 + 1)))) 1 (fun n => if_neg hc) ?_
                        refine zT_st (pc' := 320) (L' := [some (.ref a0), some (.int x3)]) (st' := [.int 61, .int x3, .ref a0]) (h' := (setF h10 a0 16 (.int (x11 + 1)))) 2 (fun n => rfl) ?_
                        by_cases hc : x3 = 61
                        · rw [if_pos hc] at hw
                          refine zT_st (pc' := 323) (L' := [some (.ref a0), some (.int x3)]) (st' := [.ref a0]) (h' := (setF h10 a0 16 (.int (x11 + 1)))) 1 (fun n => if_pos hc) ?_
                          exact hw
                        · rw [if_neg hc] at hw
                          refine zT_st (pc' := 327) (L' := [some (.ref a0), some (.int x3)]) (st' := [.ref a0]) (h' := (setF h10 a0 16 (.int (x11 + 1)))) 1 (fun n => if_neg hc) ?_
                          refine zT_st (pc' := 328) (L' := [some (.ref a0), some (.int x3)]) (st' := [.int 4, .ref a0]) (h' := (setF h10 a0 16 (.int (x11 + 1)))) 1 (fun n => rfl) ?_
                          obtain ⟨⟨w, e⟩, hw⟩ := hw
                          refine zT_st (pc' := 331) (L' := [some (.ref a0), some (.int x3)]) (st' := []) (h' := (setF (setF h10 a0 16 (.int (x11 + 1))) a0 17 (.int 4))) 1 (fun n => put_eq e rfl _ _) ?_
                          refine zT_st (pc' := 333) (L' := [some (.ref a0), some (.int x3)]) (st' := [.ref a0, .ref a0]) (h' := (setF (setF h10 a0 16 (.int (x11 + 1))) a0 17 (.int 4))) 2 (fun n => rfl) ?_
                          obtain ⟨x12, e, hw⟩ := hw
                          refine zT_st (pc' := 336) (L' := [some (.ref a0), some (.int x3)]) (st' := [.int x12, .ref a0]) (h' := (setF (setF h10 a0 16 (.int (x11 + 1))) a0 17 (.int 4))) 1 (fun n => fld_eq (E := E) e _) ?_
                          refine zT_st (pc' := 337) (L' := [some (.ref a0), some (.int x3)]) (st' := [.ref a0, .int x12, .ref a0]) (h' := (setF (setF h10 a0 16 (.int (x11 + 1))) a0 17 (.int 4))) 1 (fun n => rfl) ?_
                          obtain ⟨x13, e, hw⟩ := hw
                          refine zT_st (pc' := 340) (L' := [some (.ref a0), some (.int x3)]) (st' := [.int x13, .int x12, .ref a0]) (h' := (setF (setF h10 a0 16 (.int (x11 + 1))) a0 17 (.int 4))) 1 (fun n => fld_eq (E := E) e _) ?_
                          refine zT_st (pc' := 341) (L' := [some (.ref a0), some (.int x3)]) (st' := [.int (x12 - x13), .ref a0]) (h' := (setF (setF h10 a0 16 (.int (x11 + 1))) a0 17 (.int 4))) 1 (fun n => rfl) ?_
                          obtain ⟨⟨w, e⟩, hw⟩ := hw
                          refine zT_st (pc' := 344) (L' := [some (.ref a0), some (.int x3)]) (st' := []) (h' := (setF (setF (setF h10 a0 16 (.int (x11 + 1))) a0 17 (.int 4)) a0 19 (.int (x12 - x13)))) 1 (fun n => put_eq e rfl _ _) ?_
                          subst hw
                          exact zT_ret 1 rfl
      · rw [if_neg hc] at hw
        refine zT_st (pc' := 187) (L' := [some (.ref a0), some (.int x3)]) (st' := []) (h' := h10) 1 (fun n => if_neg hc) ?_
        exact hw
    · rw [if_neg hc] at hw
      refine zT_st (pc' := 108) (L' := [some (.ref a0), some (.int x3)]) (st' := []) (h' := h8) 1 (fun n => if_neg hc) ?_
      exact hw
  · rw [if_neg hc] at hw
    refine zT_st (pc' := 93) (L' := [some (.ref a0), some (.int x3)]) (st' := []) (h' := (setF h4 a0 21 (.int x3))) 1 (fun n => if_neg hc) ?_
    refine zT_st (pc' := 95) (L' := [some (.ref a0), some (.int x3)]) (st' := [.int 0, .ref a0]) (h' := (setF h4 a0 21 (.int x3))) 2 (fun n => rfl) ?_
    obtain ⟨⟨w, e⟩, hw⟩ := hw
    refine zT_st (pc' := 98) (L' := [some (.ref a0), some (.int x3)]) (st' := []) (h' := (setF (setF h4 a0 21 (.int x3)) a0 17 (.int 0))) 1 (fun n => put_eq e rfl _ _) ?_
    refine zT_st (pc' := 333) (L' := [some (.ref a0), some (.int x3)]) (st' := [.ref a0, .ref a0]) (h' := (setF (setF h4 a0 21 (.int x3)) a0 17 (.int 0))) 3 (fun n => rfl) ?_
    obtain ⟨x14, e, hw⟩ := hw
    refine zT_st (pc' := 336) (L' := [some (.ref a0), some (.int x3)]) (st' := [.int x14, .ref a0]) (h' := (setF (setF h4 a0 21 (.int x3)) a0 17 (.int 0))) 1 (fun n => fld_eq (E := E) e _) ?_
    refine zT_st (pc' := 337) (L' := [some (.ref a0), some (.int x3)]) (st' := [.ref a0, .int x14, .ref a0]) (h' := (setF (setF h4 a0 21 (.int x3)) a0 17 (.int 0))) 1 (fun n => rfl) ?_
    obtain ⟨x15, e, hw⟩ := hw
    refine zT_st (pc' := 340) (L' := [some (.ref a0), some (.int x3)]) (st' := [.int x15, .int x14, .ref a0]) (h' := (setF (setF h4 a0 21 (.int x3)) a0 17 (.int 0))) 1 (fun n => fld_eq (E := E) e _) ?_
    refine zT_st (pc' := 341) (L' := [some (.ref a0), some (.int x3)]) (st' := [.int (x14 - x15), .ref a0]) (h' := (setF (setF h4 a0 21 (.int x3)) a0 17 (.int 0))) 1 (fun n => rfl) ?_
    obtain ⟨⟨w, e⟩, hw⟩ := hw
    refine zT_st (pc' := 344) (L' := [some (.ref a0), some (.int x3)]) (st' := []) (h' := (setF (setF (setF h4 a0 21 (.int x3)) a0 17 (.int 0)) a0 19 (.int (x14 - x15)))) 1 (fun n => put_eq e rfl _ _) ?_
    subst hw
    exact zT_ret 1 rfl
set_option maxRecDepth 4000 in
theorem s_m_goes_108 (E : zX) (d : Nat) (a0 : Nat) (j1 : Option Value) (h : zH) (r : zO × zH)
    (hw : ∃ x1 : Int32, fld h a0 12 16 = some (.int x1) ∧
    isO h a0 12 = true ∧ ∃ (x2 : Int32) (h3 : zH), zT E d m_m_byteAt 0 [some (.ref a0), some (.int x1)] [] h (.inl (some (.int x2)), h3) ∧
    ∃ (x4 : Int32) (h5 : zH), zT E d m_m_isLetter 0 [some (.int x2)] [] h3 (.inl (some (.int x4)), h5) ∧
    if x4 = 0 then (
      (∃ w, fld h5 a0 12 17 = some w) ∧
      ∃ x6 : Int32, fld (setF h5 a0 17 (.int 1)) a0 12 16 = some (.int x6) ∧
      ∃ x7 : Int32, fld (setF h5 a0 17 (.int 1)) a0 12 18 = some (.int x7) ∧
      (∃ w, fld (setF h5 a0 17 (.int 1)) a0 12 19 = some w) ∧
      r = (.inl (none), (setF (setF h5 a0 17 (.int 1)) a0 19 (.int (x6 - x7)))))
    else (
      ∃ x8 : Int32, fld h5 a0 12 16 = some (.int x8) ∧
      ∃ x9 : Int32, fld h5 a0 12 18 = some (.int x9) ∧
      if 6 ≤ (x8 - x9) then (
        ∃ x10 : Int32, fld h5 a0 12 16 = some (.int x10) ∧
        (∃ w, fld h5 a0 12 16 = some w) ∧
        zT E (d + 1) m_m_goes 108 [some (.ref a0), j1] [] (setF h5 a0 16 (.int (x10 + 1))) r)
      else (
        ∃ l11 : Int64, fld h5 a0 12 22 = some (.long l11) ∧
        ∃ x12 : Int32, fld h5 a0 12 16 = some (.int x12) ∧
        isO h5 a0 12 = true ∧ ∃ (x13 : Int32) (h14 : zH), zT E d m_m_byteAt 0 [some (.ref a0), some (.int x12)] [] h5 (.inl (some (.int x13)), h14) ∧
        (∃ w, fld h14 a0 12 22 = some w) ∧
        ∃ x15 : Int32, fld (setF h14 a0 22 (.long ((l11 <<< (Int32.toInt64 5 &&& 63)) ||| (Int32.toInt64 (x13 - 96))))) a0 12 16 = some (.int x15) ∧
        (∃ w, fld (setF h14 a0 22 (.long ((l11 <<< (Int32.toInt64 5 &&& 63)) ||| (Int32.toInt64 (x13 - 96))))) a0 12 16 = some w) ∧
        zT E (d + 1) m_m_goes 108 [some (.ref a0), j1] [] (setF (setF h14 a0 22 (.long ((l11 <<< (Int32.toInt64 5 &&& 63)) ||| (Int32.toInt64 (x13 - 96))))) a0 16 (.int (x15 + 1))) r))) :
    zT E (d + 1) m_m_goes 108 [some (.ref a0), j1] [] h r := by
  refine zT_st (pc' := 110) (L' := [some (.ref a0), j1]) (st' := [.ref a0, .ref a0]) (h' := h) 2 (fun n => rfl) ?_
  obtain ⟨x1, e, hw⟩ := hw
  refine zT_st (pc' := 113) (L' := [some (.ref a0), j1]) (st' := [.int x1, .ref a0]) (h' := h) 1 (fun n => fld_eq (E := E) e _) ?_
  obtain ⟨hq, hw⟩ := hw
  obtain ⟨x2, h3, hx, hw⟩ := hw
  refine zT_call (pc' := 116) (rest := []) 1 (fun n => rfl) hq hx ?_
  show zT E (d + 1) m_m_goes 116 [some (.ref a0), j1] [.int x2] h3 r
  obtain ⟨x4, h5, hx, hw⟩ := hw
  refine zT_call (pc' := 119) (rest := []) 1 (fun n => rfl) rfl hx ?_
  show zT E (d + 1) m_m_goes 119 [some (.ref a0), j1] [.int x4] h5 r
  by_cases hc : x4 = 0
  · rw [if_pos hc] at hw
    refine zT_st (pc' := 172) (L' := [some (.ref a0), j1]) (st' := []) (h' := h5) 1 (fun n => if_pos hc) ?_
    refine zT_st (pc' := 174) (L' := [some (.ref a0), j1]) (st' := [.int 1, .ref a0]) (h' := h5) 2 (fun n => rfl) ?_
    obtain ⟨⟨w, e⟩, hw⟩ := hw
    refine zT_st (pc' := 177) (L' := [some (.ref a0), j1]) (st' := []) (h' := (setF h5 a0 17 (.int 1))) 1 (fun n => put_eq e rfl _ _) ?_
    refine zT_st (pc' := 333) (L' := [some (.ref a0), j1]) (st' := [.ref a0, .ref a0]) (h' := (setF h5 a0 17 (.int 1))) 3 (fun n => rfl) ?_
    obtain ⟨x6, e, hw⟩ := hw
    refine zT_st (pc' := 336) (L' := [some (.ref a0), j1]) (st' := [.int x6, .ref a0]) (h' := (setF h5 a0 17 (.int 1))) 1 (fun n => fld_eq (E := E) e _) ?_
    refine zT_st (pc' := 337) (L' := [some (.ref a0), j1]) (st' := [.ref a0, .int x6, .ref a0]) (h' := (setF h5 a0 17 (.int 1))) 1 (fun n => rfl) ?_
    obtain ⟨x7, e, hw⟩ := hw
    refine zT_st (pc' := 340) (L' := [some (.ref a0), j1]) (st' := [.int x7, .int x6, .ref a0]) (h' := (setF h5 a0 17 (.int 1))) 1 (fun n => fld_eq (E := E) e _) ?_
    refine zT_st (pc' := 341) (L' := [some (.ref a0), j1]) (st' := [.int (x6 - x7), .ref a0]) (h' := (setF h5 a0 17 (.int 1))) 1 (fun n => rfl) ?_
    obtain ⟨⟨w, e⟩, hw⟩ := hw
    refine zT_st (pc' := 344) (L' := [some (.ref a0), j1]) (st' := []) (h' := (setF (setF h5 a0 17 (.int 1)) a0 19 (.int (x6 - x7)))) 1 (fun n => put_eq e rfl _ _) ?_
    subst hw
    exact zT_ret 1 rfl
  · rw [if_neg hc] at hw
    refine zT_st (pc' := 122) (L' := [some (.ref a0), j1]) (st' := []) (h' := h5) 1 (fun n => if_neg hc) ?_
    refine zT_st (pc' := 123) (L' := [some (.ref a0), j1]) (st' := [.ref a0]) (h' := h5) 1 (fun n => rfl) ?_
    obtain ⟨x8, e, hw⟩ := hw
    refine zT_st (pc' := 126) (L' := [some (.ref a0), j1]) (st' := [.int x8]) (h' := h5) 1 (fun n => fld_eq (E := E) e _) ?_
    refine zT_st (pc' := 127) (L' := [some (.ref a0), j1]) (st' := [.ref a0, .int x8]) (h' := h5) 1 (fun n => rfl) ?_
    obtain ⟨x9, e, hw⟩ := hw
    refine zT_st (pc' := 130) (L' := [some (.ref a0), j1]) (st' := [.int x9, .int x8]) (h' := h5) 1 (fun n => fld_eq (E := E) e _) ?_
    refine zT_st (pc' := 133) (L' := [some (.ref a0), j1]) (st' := [.int 6, .int (x8 - x9)]) (h' := h5) 2 (fun n => rfl) ?_
    by_cases hc : 6 ≤ (x8 - x9)
    · rw [if_pos hc] at hw
      refine zT_st (pc' := 159) (L' := [some (.ref a0), j1]) (st' := []) (h' := h5) 1 (fun n => if_pos hc) ?_
      refine zT_st (pc' := 161) (L' := [some (.ref a0), j1]) (st' := [.ref a0, .ref a0]) (h' := h5) 2 (fun n => rfl) ?_
      obtain ⟨x10, e, hw⟩ := hw
      refine zT_st (pc' := 164) (L' := [some (.ref a0), j1]) (st' := [.int x10, .ref a0]) (h' := h5) 1 (fun n => fld_eq (E := E) e _) ?_
      refine zT_st (pc' := 166) (L' := [some (.ref a0), j1]) (st' := [.int (x10 + 1), .ref a0]) (h' := h5) 2 (fun n => rfl) ?_
      obtain ⟨⟨w, e⟩, hw⟩ := hw
      refine zT_st (pc' := 169) (L' := [some (.ref a0), j1]) (st' := []) (h' := (setF h5 a0 16 (.int (x10 + 1)))) 1 (fun n => put_eq e rfl _ _) ?_
      exact zT_st 1 (fun n => rfl) hw
    · rw [if_neg hc] at hw
      refine zT_st (pc' := 136) (L' := [some (.ref a0), j1]) (st' := []) (h' := h5) 1 (fun n => if_neg hc) ?_
      refine zT_st (pc' := 138) (L' := [some (.ref a0), j1]) (st' := [.ref a0, .ref a0]) (h' := h5) 2 (fun n => rfl) ?_
      obtain ⟨l11, e, hw⟩ := hw
      refine zT_st (pc' := 141) (L' := [some (.ref a0), j1]) (st' := [.long l11, .ref a0]) (h' := h5) 1 (fun n => fld_eq (E := E) e _) ?_
      refine zT_st (pc' := 145) (L' := [some (.ref a0), j1]) (st' := [.ref a0, .ref a0, .long (l11 <<< (Int32.toInt64 5 &&& 63)), .ref a0]) (h' := h5) 4 (fun n => rfl) ?_
      obtain ⟨x12, e, hw⟩ := hw
      refine zT_st (pc' := 148) (L' := [some (.ref a0), j1]) (st' := [.int x12, .ref a0, .long (l11 <<< (Int32.toInt64 5 &&& 63)), .ref a0]) (h' := h5) 1 (fun n => fld_eq (E := E) e _) ?_
      obtain ⟨hq, hw⟩ := hw
      obtain ⟨x13, h14, hx, hw⟩ := hw
      refine zT_call (pc' := 151) (rest := [.long (l11 <<< (Int32.toInt64 5 &&& 63)), .ref a0]) 1 (fun n => rfl) hq hx ?_
      show zT E (d + 1) m_m_goes 151 [some (.ref a0), j1] [.int x13, .long (l11 <<< (Int32.toInt64 5 &&& 63)), .ref a0] h14 r
      refine zT_st (pc' := 156) (L' := [some (.ref a0), j1]) (st' := [.long ((l11 <<< (Int32.toInt64 5 &&& 63)) ||| (Int32.toInt64 (x13 - 96))), .ref a0]) (h' := h14) 4 (fun n => rfl) ?_
      obtain ⟨⟨w, e⟩, hw⟩ := hw
      refine zT_st (pc' := 159) (L' := [some (.ref a0), j1]) (st' := []) (h' := (setF h14 a0 22 (.long ((l11 <<< (Int32.toInt64 5 &&& 63)) ||| (Int32.toInt64 (x13 - 96)))))) 1 (fun n => put_eq e rfl _ _) ?_
      refine zT_st (pc' := 161) (L' := [some (.ref a0), j1]) (st' := [.ref a0, .ref a0]) (h' := (setF h14 a0 22 (.long ((l11 <<< (Int32.toInt64 5 &&& 63)) ||| (Int32.toInt64 (x13 - 96)))))) 2 (fun n => rfl) ?_
      obtain ⟨x15, e, hw⟩ := hw
      refine zT_st (pc' := 164) (L' := [some (.ref a0), j1]) (st' := [.int x15, .ref a0]) (h' := (setF h14 a0 22 (.long ((l11 <<< (Int32.toInt64 5 &&& 63)) ||| (Int32.toInt64 (x13 - 96)))))) 1 (fun n => fld_eq (E := E) e _) ?_
      refine zT_st (pc' := 166) (L' := [some (.ref a0), j1]) (st' := [.int (x15 + 1), .ref a0]) (h' := (setF h14 a0 22 (.long ((l11 <<< (Int32.toInt64 5 &&& 63)) ||| (Int32.toInt64 (x13 - 96)))))) 2 (fun n => rfl) ?_
      obtain ⟨⟨w, e⟩, hw⟩ := hw
      refine zT_st (pc' := 169) (L' := [some (.ref a0), j1]) (st' := []) (h' := (setF (setF h14 a0 22 (.long ((l11 <<< (Int32.toInt64 5 &&& 63)) ||| (Int32.toInt64 (x13 - 96))))) a0 16 (.int (x15 + 1)))) 1 (fun n => put_eq e rfl _ _) ?_
      exact zT_st 1 (fun n => rfl) hw
set_option maxRecDepth 4000 in
theorem s_m_goes_187 (E : zX) (d : Nat) (a0 : Nat) (j1 : Option Value) (h : zH) (r : zO × zH)
    (hw : ∃ x1 : Int32, fld h a0 12 16 = some (.int x1) ∧
    isO h a0 12 = true ∧ ∃ (x2 : Int32) (h3 : zH), zT E d m_m_byteAt 0 [some (.ref a0), some (.int x1)] [] h (.inl (some (.int x2)), h3) ∧
    ∃ (x4 : Int32) (h5 : zH), zT E d m_m_isDigit 0 [some (.int x2)] [] h3 (.inl (some (.int x4)), h5) ∧
    if x4 = 0 then (
      (∃ w, fld h5 a0 12 17 = some w) ∧
      ∃ x6 : Int32, fld (setF h5 a0 17 (.int 2)) a0 12 16 = some (.int x6) ∧
      ∃ x7 : Int32, fld (setF h5 a0 17 (.int 2)) a0 12 18 = some (.int x7) ∧
      (∃ w, fld (setF h5 a0 17 (.int 2)) a0 12 19 = some w) ∧
      r = (.inl (none), (setF (setF h5 a0 17 (.int 2)) a0 19 (.int (x6 - x7)))))
    else (
      ∃ x8 : Int32, fld h5 a0 12 16 = some (.int x8) ∧
      ∃ x9 : Int32, fld h5 a0 12 18 = some (.int x9) ∧
      if 4 ≤ (x8 - x9) then (
        ∃ x10 : Int32, fld h5 a0 12 16 = some (.int x10) ∧
        (∃ w, fld h5 a0 12 16 = some w) ∧
        zT E (d + 1) m_m_goes 187 [some (.ref a0), j1] [] (setF h5 a0 16 (.int (x10 + 1))) r)
      else (
        ∃ x11 : Int32, fld h5 a0 12 20 = some (.int x11) ∧
        ∃ x12 : Int32, fld h5 a0 12 16 = some (.int x12) ∧
        isO h5 a0 12 = true ∧ ∃ (x13 : Int32) (h14 : zH), zT E d m_m_byteAt 0 [some (.ref a0), some (.int x12)] [] h5 (.inl (some (.int x13)), h14) ∧
        (∃ w, fld h14 a0 12 20 = some w) ∧
        ∃ x15 : Int32, fld (setF h14 a0 20 (.int (((10 * x11) + x13) - 48))) a0 12 16 = some (.int x15) ∧
        (∃ w, fld (setF h14 a0 20 (.int (((10 * x11) + x13) - 48))) a0 12 16 = some w) ∧
        zT E (d + 1) m_m_goes 187 [some (.ref a0), j1] [] (setF (setF h14 a0 20 (.int (((10 * x11) + x13) - 48))) a0 16 (.int (x15 + 1))) r))) :
    zT E (d + 1) m_m_goes 187 [some (.ref a0), j1] [] h r := by
  refine zT_st (pc' := 189) (L' := [some (.ref a0), j1]) (st' := [.ref a0, .ref a0]) (h' := h) 2 (fun n => rfl) ?_
  obtain ⟨x1, e, hw⟩ := hw
  refine zT_st (pc' := 192) (L' := [some (.ref a0), j1]) (st' := [.int x1, .ref a0]) (h' := h) 1 (fun n => fld_eq (E := E) e _) ?_
  obtain ⟨hq, hw⟩ := hw
  obtain ⟨x2, h3, hx, hw⟩ := hw
  refine zT_call (pc' := 195) (rest := []) 1 (fun n => rfl) hq hx ?_
  show zT E (d + 1) m_m_goes 195 [some (.ref a0), j1] [.int x2] h3 r
  obtain ⟨x4, h5, hx, hw⟩ := hw
  refine zT_call (pc' := 198) (rest := []) 1 (fun n => rfl) rfl hx ?_
  show zT E (d + 1) m_m_goes 198 [some (.ref a0), j1] [.int x4] h5 r
  by_cases hc : x4 = 0
  · rw [if_pos hc] at hw
    refine zT_st (pc' := 250) (L' := [some (.ref a0), j1]) (st' := []) (h' := h5) 1 (fun n => if_pos hc) ?_
    refine zT_st (pc' := 252) (L' := [some (.ref a0), j1]) (st' := [.int 2, .ref a0]) (h' := h5) 2 (fun n => rfl) ?_
    obtain ⟨⟨w, e⟩, hw⟩ := hw
    refine zT_st (pc' := 255) (L' := [some (.ref a0), j1]) (st' := []) (h' := (setF h5 a0 17 (.int 2))) 1 (fun n => put_eq e rfl _ _) ?_
    refine zT_st (pc' := 333) (L' := [some (.ref a0), j1]) (st' := [.ref a0, .ref a0]) (h' := (setF h5 a0 17 (.int 2))) 3 (fun n => rfl) ?_
    obtain ⟨x6, e, hw⟩ := hw
    refine zT_st (pc' := 336) (L' := [some (.ref a0), j1]) (st' := [.int x6, .ref a0]) (h' := (setF h5 a0 17 (.int 2))) 1 (fun n => fld_eq (E := E) e _) ?_
    refine zT_st (pc' := 337) (L' := [some (.ref a0), j1]) (st' := [.ref a0, .int x6, .ref a0]) (h' := (setF h5 a0 17 (.int 2))) 1 (fun n => rfl) ?_
    obtain ⟨x7, e, hw⟩ := hw
    refine zT_st (pc' := 340) (L' := [some (.ref a0), j1]) (st' := [.int x7, .int x6, .ref a0]) (h' := (setF h5 a0 17 (.int 2))) 1 (fun n => fld_eq (E := E) e _) ?_
    refine zT_st (pc' := 341) (L' := [some (.ref a0), j1]) (st' := [.int (x6 - x7), .ref a0]) (h' := (setF h5 a0 17 (.int 2))) 1 (fun n => rfl) ?_
    obtain ⟨⟨w, e⟩, hw⟩ := hw
    refine zT_st (pc' := 344) (L' := [some (.ref a0), j1]) (st' := []) (h' := (setF (setF h5 a0 17 (.int 2)) a0 19 (.int (x6 - x7)))) 1 (fun n => put_eq e rfl _ _) ?_
    subst hw
    exact zT_ret 1 rfl
  · rw [if_neg hc] at hw
    refine zT_st (pc' := 201) (L' := [some (.ref a0), j1]) (st' := []) (h' := h5) 1 (fun n => if_neg hc) ?_
    refine zT_st (pc' := 202) (L' := [some (.ref a0), j1]) (st' := [.ref a0]) (h' := h5) 1 (fun n => rfl) ?_
    obtain ⟨x8, e, hw⟩ := hw
    refine zT_st (pc' := 205) (L' := [some (.ref a0), j1]) (st' := [.int x8]) (h' := h5) 1 (fun n => fld_eq (E := E) e _) ?_
    refine zT_st (pc' := 206) (L' := [some (.ref a0), j1]) (st' := [.ref a0, .int x8]) (h' := h5) 1 (fun n => rfl) ?_
    obtain ⟨x9, e, hw⟩ := hw
    refine zT_st (pc' := 209) (L' := [some (.ref a0), j1]) (st' := [.int x9, .int x8]) (h' := h5) 1 (fun n => fld_eq (E := E) e _) ?_
    refine zT_st (pc' := 211) (L' := [some (.ref a0), j1]) (st' := [.int 4, .int (x8 - x9)]) (h' := h5) 2 (fun n => rfl) ?_
    by_cases hc : 4 ≤ (x8 - x9)
    · rw [if_pos hc] at hw
      refine zT_st (pc' := 237) (L' := [some (.ref a0), j1]) (st' := []) (h' := h5) 1 (fun n => if_pos hc) ?_
      refine zT_st (pc' := 239) (L' := [some (.ref a0), j1]) (st' := [.ref a0, .ref a0]) (h' := h5) 2 (fun n => rfl) ?_
      obtain ⟨x10, e, hw⟩ := hw
      refine zT_st (pc' := 242) (L' := [some (.ref a0), j1]) (st' := [.int x10, .ref a0]) (h' := h5) 1 (fun n => fld_eq (E := E) e _) ?_
      refine zT_st (pc' := 244) (L' := [some (.ref a0), j1]) (st' := [.int (x10 + 1), .ref a0]) (h' := h5) 2 (fun n => rfl) ?_
      obtain ⟨⟨w, e⟩, hw⟩ := hw
      refine zT_st (pc' := 247) (L' := [some (.ref a0), j1]) (st' := []) (h' := (setF h5 a0 16 (.int (x10 + 1)))) 1 (fun n => put_eq e rfl _ _) ?_
      exact zT_st 1 (fun n => rfl) hw
    · rw [if_neg hc] at hw
      refine zT_st (pc' := 214) (L' := [some (.ref a0), j1]) (st' := []) (h' := h5) 1 (fun n => if_neg hc) ?_
      refine zT_st (pc' := 218) (L' := [some (.ref a0), j1]) (st' := [.ref a0, .int 10, .ref a0]) (h' := h5) 3 (fun n => rfl) ?_
      obtain ⟨x11, e, hw⟩ := hw
      refine zT_st (pc' := 221) (L' := [some (.ref a0), j1]) (st' := [.int x11, .int 10, .ref a0]) (h' := h5) 1 (fun n => fld_eq (E := E) e _) ?_
      refine zT_st (pc' := 224) (L' := [some (.ref a0), j1]) (st' := [.ref a0, .ref a0, .int (10 * x11), .ref a0]) (h' := h5) 3 (fun n => rfl) ?_
      obtain ⟨x12, e, hw⟩ := hw
      refine zT_st (pc' := 227) (L' := [some (.ref a0), j1]) (st' := [.int x12, .ref a0, .int (10 * x11), .ref a0]) (h' := h5) 1 (fun n => fld_eq (E := E) e _) ?_
      obtain ⟨hq, hw⟩ := hw
      obtain ⟨x13, h14, hx, hw⟩ := hw
      refine zT_call (pc' := 230) (rest := [.int (10 * x11), .ref a0]) 1 (fun n => rfl) hq hx ?_
      show zT E (d + 1) m_m_goes 230 [some (.ref a0), j1] [.int x13, .int (10 * x11), .ref a0] h14 r
      refine zT_st (pc' := 234) (L' := [some (.ref a0), j1]) (st' := [.int (((10 * x11) + x13) - 48), .ref a0]) (h' := h14) 3 (fun n => rfl) ?_
      obtain ⟨⟨w, e⟩, hw⟩ := hw
      refine zT_st (pc' := 237) (L' := [some (.ref a0), j1]) (st' := []) (h' := (setF h14 a0 20 (.int (((10 * x11) + x13) - 48)))) 1 (fun n => put_eq e rfl _ _) ?_
      refine zT_st (pc' := 239) (L' := [some (.ref a0), j1]) (st' := [.ref a0, .ref a0]) (h' := (setF h14 a0 20 (.int (((10 * x11) + x13) - 48)))) 2 (fun n => rfl) ?_
      obtain ⟨x15, e, hw⟩ := hw
      refine zT_st (pc' := 242) (L' := [some (.ref a0), j1]) (st' := [.int x15, .ref a0]) (h' := (setF h14 a0 20 (.int (((10 * x11) + x13) - 48)))) 1 (fun n => fld_eq (E := E) e _) ?_
      refine zT_st (pc' := 244) (L' := [some (.ref a0), j1]) (st' := [.int (x15 + 1), .ref a0]) (h' := (setF h14 a0 20 (.int (((10 * x11) + x13) - 48)))) 2 (fun n => rfl) ?_
      obtain ⟨⟨w, e⟩, hw⟩ := hw
      refine zT_st (pc' := 247) (L' := [some (.ref a0), j1]) (st' := []) (h' := (setF (setF h14 a0 20 (.int (((10 * x11) + x13) - 48))) a0 16 (.int (x15 + 1)))) 1 (fun n => put_eq e rfl _ _) ?_
      exact zT_st 1 (fun n => rfl) hw
set_option maxRecDepth 4000 in
theorem s_m_goes_323 (E : zX) (d : Nat) (a0 : Nat) (j1 : Option Value) (s0 : Nat) (h : zH) (r : zO × zH)
    (hw : (∃ w, fld h s0 12 17 = some w) ∧
    ∃ x1 : Int32, fld (setF h s0 17 (.int 3)) a0 12 16 = some (.int x1) ∧
    ∃ x2 : Int32, fld (setF h s0 17 (.int 3)) a0 12 18 = some (.int x2) ∧
    (∃ w, fld (setF h s0 17 (.int 3)) a0 12 19 = some w) ∧
    r = (.inl (none), (setF (setF h s0 17 (.int 3)) a0 19 (.int (x1 - x2))))) :
    zT E (d + 1) m_m_goes 323 [some (.ref a0), j1] [.ref s0] h r := by
  refine zT_st (pc' := 328) (L' := [some (.ref a0), j1]) (st' := [.int 3, .ref s0]) (h' := h) 2 (fun n => rfl) ?_
  obtain ⟨⟨w, e⟩, hw⟩ := hw
  refine zT_st (pc' := 331) (L' := [some (.ref a0), j1]) (st' := []) (h' := (setF h s0 17 (.int 3))) 1 (fun n => put_eq e rfl _ _) ?_
  refine zT_st (pc' := 333) (L' := [some (.ref a0), j1]) (st' := [.ref a0, .ref a0]) (h' := (setF h s0 17 (.int 3))) 2 (fun n => rfl) ?_
  obtain ⟨x1, e, hw⟩ := hw
  refine zT_st (pc' := 336) (L' := [some (.ref a0), j1]) (st' := [.int x1, .ref a0]) (h' := (setF h s0 17 (.int 3))) 1 (fun n => fld_eq (E := E) e _) ?_
  refine zT_st (pc' := 337) (L' := [some (.ref a0), j1]) (st' := [.ref a0, .int x1, .ref a0]) (h' := (setF h s0 17 (.int 3))) 1 (fun n => rfl) ?_
  obtain ⟨x2, e, hw⟩ := hw
  refine zT_st (pc' := 340) (L' := [some (.ref a0), j1]) (st' := [.int x2, .int x1, .ref a0]) (h' := (setF h s0 17 (.int 3))) 1 (fun n => fld_eq (E := E) e _) ?_
  refine zT_st (pc' := 341) (L' := [some (.ref a0), j1]) (st' := [.int (x1 - x2), .ref a0]) (h' := (setF h s0 17 (.int 3))) 1 (fun n => rfl) ?_
  obtain ⟨⟨w, e⟩, hw⟩ := hw
  refine zT_st (pc' := 344) (L' := [some (.ref a0), j1]) (st' := []) (h' := (setF (setF h s0 17 (.int 3)) a0 19 (.int (x1 - x2)))) 1 (fun n => put_eq e rfl _ _) ?_
  subst hw
  exact zT_ret 1 rfl
set_option maxRecDepth 4000 in
theorem s_m_byteAt_0 (E : zX) (d : Nat) (a0 : Nat) (a1 : Int32) (h : zH) (r : zO × zH)
    (hw : ∃ x1 : Int32, fld h a0 12 15 = some (.int x1) ∧
    if x1 ≤ a1 then (
      r = (.inl (some (.int 0)), h))
    else (
      ∃ o2 : Nat, fld h a0 12 10 = some (.ref o2) ∧
      ∃ (n3 : Nat) (f4 : Nat → Int32), arr h o2 = some (n3, f4) ∧ ¬ (a1 < 0 ∨ n3 ≤ (a1).toNatClampNeg) ∧
      r = (.inl (some (.int (f4 (a1).toNatClampNeg))), h))) :
    zT E d m_m_byteAt 0 [some (.ref a0), some (.int a1)] [] h r := by
  refine zT_st (pc' := 2) (L' := [some (.ref a0), some (.int a1)]) (st' := [.ref a0, .int a1]) (h' := h) 2 (fun n => rfl) ?_
  obtain ⟨x1, e, hw⟩ := hw
  refine zT_st (pc' := 5) (L' := [some (.ref a0), some (.int a1)]) (st' := [.int x1, .int a1]) (h' := h) 1 (fun n => fld_eq (E := E) e _) ?_
  by_cases hc : x1 ≤ a1
  · rw [if_pos hc] at hw
    refine zT_st (pc' := 17) (L' := [some (.ref a0), some (.int a1)]) (st' := []) (h' := h) 1 (fun n => if_pos hc) ?_
    subst hw
    exact zT_ret 2 rfl
  · rw [if_neg hc] at hw
    refine zT_st (pc' := 8) (L' := [some (.ref a0), some (.int a1)]) (st' := []) (h' := h) 1 (fun n => if_neg hc) ?_
    refine zT_st (pc' := 9) (L' := [some (.ref a0), some (.int a1)]) (st' := [.ref a0]) (h' := h) 1 (fun n => rfl) ?_
    obtain ⟨o2, e, hw⟩ := hw
    refine zT_st (pc' := 12) (L' := [some (.ref a0), some (.int a1)]) (st' := [.ref o2]) (h' := h) 1 (fun n => fld_eq (E := E) e _) ?_
    refine zT_st (pc' := 13) (L' := [some (.ref a0), some (.int a1)]) (st' := [.int a1, .ref o2]) (h' := h) 1 (fun n => rfl) ?_
    obtain ⟨n3, f4, e, hi, hw⟩ := hw
    refine zT_st (pc' := 14) (L' := [some (.ref a0), some (.int a1)]) (st' := [.int (f4 (a1).toNatClampNeg)]) (h' := h) 1 (fun n => arr_eq (E := E) e hi [] (fun st => zrun zP zCd E n d m_m_byteAt 14 [some (.ref a0), some (.int a1)] st h)) ?_
    subst hw
    exact zT_ret 2 rfl
set_option maxRecDepth 4000 in
theorem s_m_isLetter_0 (E : zX) (d : Nat) (a0 : Int32) (h : zH) (r : zO × zH)
    (hw : if a0 < 97 then (
      r = (.inl (some (.int 0)), h))
    else (
      if 122 < a0 then (
        r = (.inl (some (.int 0)), h))
      else (
        r = (.inl (some (.int 1)), h)))) :
    zT E d m_m_isLetter 0 [some (.int a0)] [] h r := by
  refine zT_st (pc' := 3) (L' := [some (.int a0)]) (st' := [.int 97, .int a0]) (h' := h) 2 (fun n => rfl) ?_
  by_cases hc : a0 < 97
  · rw [if_pos hc] at hw
    refine zT_st (pc' := 16) (L' := [some (.int a0)]) (st' := []) (h' := h) 1 (fun n => if_pos hc) ?_
    subst hw
    exact zT_ret 2 rfl
  · rw [if_neg hc] at hw
    refine zT_st (pc' := 6) (L' := [some (.int a0)]) (st' := []) (h' := h) 1 (fun n => if_neg hc) ?_
    refine zT_st (pc' := 9) (L' := [some (.int a0)]) (st' := [.int 122, .int a0]) (h' := h) 2 (fun n => rfl) ?_
    by_cases hc : 122 < a0
    · rw [if_pos hc] at hw
      refine zT_st (pc' := 16) (L' := [some (.int a0)]) (st' := []) (h' := h) 1 (fun n => if_pos hc) ?_
      subst hw
      exact zT_ret 2 rfl
    · rw [if_neg hc] at hw
      refine zT_st (pc' := 12) (L' := [some (.int a0)]) (st' := []) (h' := h) 1 (fun n => if_neg hc) ?_
      subst hw
      exact zT_ret 3 rfl
set_option maxRecDepth 4000 in
theorem s_m_isDigit_0 (E : zX) (d : Nat) (a0 : Int32) (h : zH) (r : zO × zH)
    (hw : if a0 < 48 then (
      r = (.inl (some (.int 0)), h))
    else (
      if 57 < a0 then (
        r = (.inl (some (.int 0)), h))
      else (
        r = (.inl (some (.int 1)), h)))) :
    zT E d m_m_isDigit 0 [some (.int a0)] [] h r := by
  refine zT_st (pc' := 3) (L' := [some (.int a0)]) (st' := [.int 48, .int a0]) (h' := h) 2 (fun n => rfl) ?_
  by_cases hc : a0 < 48
  · rw [if_pos hc] at hw
    refine zT_st (pc' := 16) (L' := [some (.int a0)]) (st' := []) (h' := h) 1 (fun n => if_pos hc) ?_
    subst hw
    exact zT_ret 2 rfl
  · rw [if_neg hc] at hw
    refine zT_st (pc' := 6) (L' := [some (.int a0)]) (st' := []) (h' := h) 1 (fun n => if_neg hc) ?_
    refine zT_st (pc' := 9) (L' := [some (.int a0)]) (st' := [.int 57, .int a0]) (h' := h) 2 (fun n => rfl) ?_
    by_cases hc : 57 < a0
    · rw [if_pos hc] at hw
      refine zT_st (pc' := 16) (L' := [some (.int a0)]) (st' := []) (h' := h) 1 (fun n => if_pos hc) ?_
      subst hw
      exact zT_ret 2 rfl
    · rw [if_neg hc] at hw
      refine zT_st (pc' := 12) (L' := [some (.int a0)]) (st' := []) (h' := h) 1 (fun n => if_neg hc) ?_
      subst hw
      exact zT_ret 3 rfl
set_option maxRecDepth 4000 in
theorem s_m_knownWord_0 (E : zX) (d : Nat) (a0 : Nat) (h : zH) (r : zO × zH)
    (hw : ∃ x1 : Int32, fld h a0 12 17 = some (.int x1) ∧
    if x1 = 1 then (
      ∃ x2 : Int32, fld h a0 12 19 = some (.int x2) ∧
      if x2 ≤ 6 then (
        zT E (d + 1) m_m_knownWord 21 [some (.ref a0), some (.int 0)] [] h r)
      else (
        r = (.inl (some (.int (-1))), h)))
    else (
      r = (.inl (some (.int (-1))), h))) :
    zT E (d + 1) m_m_knownWord 0 [some (.ref a0), none] [] h r := by
  refine zT_st (pc' := 1) (L' := [some (.ref a0), none]) (st' := [.ref a0]) (h' := h) 1 (fun n => rfl) ?_
  obtain ⟨x1, e, hw⟩ := hw
  refine zT_st (pc' := 4) (L' := [some (.ref a0), none]) (st' := [.int x1]) (h' := h) 1 (fun n => fld_eq (E := E) e _) ?_
  refine zT_st (pc' := 5) (L' := [some (.ref a0), none]) (st' := [.int 1, .int x1]) (h' := h) 1 (fun n => rfl) ?_
  by_cases hc : x1 = 1
  · rw [if_pos hc] at hw
    refine zT_st (pc' := 8) (L' := [some (.ref a0), none]) (st' := []) (h' := h) 1 (fun n => if_pos hc) ?_
    refine zT_st (pc' := 9) (L' := [some (.ref a0), none]) (st' := [.ref a0]) (h' := h) 1 (fun n => rfl) ?_
    obtain ⟨x2, e, hw⟩ := hw
    refine zT_st (pc' := 12) (L' := [some (.ref a0), none]) (st' := [.int x2]) (h' := h) 1 (fun n => fld_eq (E := E) e _) ?_
    refine zT_st (pc' := 14) (L' := [some (.ref a0), none]) (st' := [.int 6, .int x2]) (h' := h) 1 (fun n => rfl) ?_
    by_cases hc : x2 ≤ 6
    · rw [if_pos hc] at hw
      refine zT_st (pc' := 19) (L' := [some (.ref a0), none]) (st' := []) (h' := h) 1 (fun n => if_pos hc) ?_
      exact zT_st 2 (fun n => rfl) hw
    · rw [if_neg hc] at hw
      refine zT_st (pc' := 17) (L' := [some (.ref a0), none]) (st' := []) (h' := h) 1 (fun n => if_neg hc) ?_
      subst hw
      exact zT_ret 2 rfl
  · rw [if_neg hc] at hw
    refine zT_st (pc' := 17) (L' := [some (.ref a0), none]) (st' := []) (h' := h) 1 (fun n => if_neg hc) ?_
    subst hw
    exact zT_ret 2 rfl
set_option maxRecDepth 4000 in
theorem s_m_knownWord_21 (E : zX) (d : Nat) (a0 : Nat) (a1 : Int32) (h : zH) (r : zO × zH)
    (hw : if 17 ≤ a1 then (
      r = (.inl (some (.int (-1))), h))
    else (
      ∃ (l1 : Int64) (h2 : zH), zT E d m_m_letters 0 [some (.int a1)] [] h (.inl (some (.long l1)), h2) ∧
      ∃ l3 : Int64, fld h2 a0 12 22 = some (.long l3) ∧
      if (lg_cmp l1 l3) = 0 then (
        r = (.inl (some (.int a1)), h2))
      else (
        zT E (d + 1) m_m_knownWord 21 [some (.ref a0), some (.int (a1 + 1))] [] h2 r))) :
    zT E (d + 1) m_m_knownWord 21 [some (.ref a0), some (.int a1)] [] h r := by
  refine zT_st (pc' := 24) (L' := [some (.ref a0), some (.int a1)]) (st' := [.int 17, .int a1]) (h' := h) 2 (fun n => rfl) ?_
  by_cases hc : 17 ≤ a1
  · rw [if_pos hc] at hw
    refine zT_st (pc' := 47) (L' := [some (.ref a0), some (.int a1)]) (st' := []) (h' := h) 1 (fun n => if_pos hc) ?_
    subst hw
    exact zT_ret 2 rfl
  · rw [if_neg hc] at hw
    refine zT_st (pc' := 27) (L' := [some (.ref a0), some (.int a1)]) (st' := []) (h' := h) 1 (fun n => if_neg hc) ?_
    refine zT_st (pc' := 28) (L' := [some (.ref a0), some (.int a1)]) (st' := [.int a1]) (h' := h) 1 (fun n => rfl) ?_
    obtain ⟨l1, h2, hx, hw⟩ := hw
    refine zT_call (pc' := 31) (rest := []) 1 (fun n => rfl) rfl hx ?_
    show zT E (d + 1) m_m_knownWord 31 [some (.ref a0), some (.int a1)] [.long l1] h2 r
    refine zT_st (pc' := 32) (L' := [some (.ref a0), some (.int a1)]) (st' := [.ref a0, .long l1]) (h' := h2) 1 (fun n => rfl) ?_
    obtain ⟨l3, e, hw⟩ := hw
    refine zT_st (pc' := 35) (L' := [some (.ref a0), some (.int a1)]) (st' := [.long l3, .long l1]) (h' := h2) 1 (fun n => fld_eq (E := E) e _) ?_
    refine zT_st (pc' := 36) (L' := [some (.ref a0), some (.int a1)]) (st' := [.int (lg_cmp l1 l3)]) (h' := h2) 1 (fun n => rfl) ?_
    by_cases hc : (lg_cmp l1 l3) = 0
    · rw [if_pos hc] at hw
      refine zT_st (pc' := 39) (L' := [some (.ref a0), some (.int a1)]) (st' := []) (h' := h2) 1 (fun n => if_pos hc) ?_
      subst hw
      exact zT_ret 2 rfl
    · rw [if_neg hc] at hw
      refine zT_st (pc' := 41) (L' := [some (.ref a0), some (.int a1)]) (st' := []) (h' := h2) 1 (fun n => if_neg hc) ?_
      exact zT_st 2 (fun n => rfl) hw
set_option maxRecDepth 4000 in
theorem s_m_letters_0 (E : zX) (d : Nat) (a0 : Int32) (h : zH) (r : zO × zH)
    (hw : if a0 = 0 then (
      ∃ (l1 : Int64) (h2 : zH), zT E d m_m_spelled 0 [some (.int 109), some (.int 105), some (.int 108), some (.int 100), some (.int 0), some (.int 0), none, none] [] h (.inl (some (.long l1)), h2) ∧
      r = (.inl (some (.long l1)), h2))
    else if a0 = 1 then (
      ∃ (l3 : Int64) (h4 : zH), zT E d m_m_spelled 0 [some (.int 116), some (.int 101), some (.int 109), some (.int 112), some (.int 101), some (.int 114), none, none] [] h (.inl (some (.long l3)), h4) ∧
      r = (.inl (some (.long l3)), h4))
    else if a0 = 2 then (
      ∃ (l5 : Int64) (h6 : zH), zT E d m_m_spelled 0 [some (.int 115), some (.int 104), some (.int 111), some (.int 117), some (.int 116), some (.int 115), none, none] [] h (.inl (some (.long l5)), h6) ∧
      r = (.inl (some (.long l5)), h6))
    else if a0 = 3 then (
      ∃ (l7 : Int64) (h8 : zH), zT E d m_m_spelled 0 [some (.int 104), some (.int 101), some (.int 97), some (.int 114), some (.int 100), some (.int 0), none, none] [] h (.inl (some (.long l7)), h8) ∧
      r = (.inl (some (.long l7)), h8))
    else if a0 = 4 then (
      ∃ (l9 : Int64) (h10 : zH), zT E d m_m_spelled 0 [some (.int 100), some (.int 97), some (.int 121), some (.int 0), some (.int 0), some (.int 0), none, none] [] h (.inl (some (.long l9)), h10) ∧
      r = (.inl (some (.long l9)), h10))
    else if a0 = 5 then (
      ∃ (l11 : Int64) (h12 : zH), zT E d m_m_spelled 0 [some (.int 104), some (.int 111), some (.int 108), some (.int 100), some (.int 115), some (.int 0), none, none] [] h (.inl (some (.long l11)), h12) ∧
      r = (.inl (some (.long l11)), h12))
    else if a0 = 6 then (
      ∃ (l13 : Int64) (h14 : zH), zT E d m_m_spelled 0 [some (.int 115), some (.int 105), some (.int 122), some (.int 101), some (.int 0), some (.int 0), none, none] [] h (.inl (some (.long l13)), h14) ∧
      r = (.inl (some (.long l13)), h14))
    else if a0 = 7 then (
      ∃ (l15 : Int64) (h16 : zH), zT E d m_m_spelled 0 [some (.int 97), some (.int 103), some (.int 101), some (.int 0), some (.int 0), some (.int 0), none, none] [] h (.inl (some (.long l15)), h16) ∧
      r = (.inl (some (.long l15)), h16))
    else if a0 = 8 then (
      ∃ (l17 : Int64) (h18 : zH), zT E d m_m_spelled 0 [some (.int 110), some (.int 101), some (.int 97), some (.int 114), some (.int 0), some (.int 0), none, none] [] h (.inl (some (.long l17)), h18) ∧
      r = (.inl (some (.long l17)), h18))
    else if a0 = 9 then (
      ∃ (l19 : Int64) (h20 : zH), zT E d m_m_spelled 0 [some (.int 100), some (.int 111), some (.int 119), some (.int 110), some (.int 115), some (.int 0), none, none] [] h (.inl (some (.long l19)), h20) ∧
      r = (.inl (some (.long l19)), h20))
    else if a0 = 10 then (
      ∃ (l21 : Int64) (h22 : zH), zT E d m_m_spelled 0 [some (.int 112), some (.int 101), some (.int 114), some (.int 115), some (.int 111), some (.int 110), none, none] [] h (.inl (some (.long l21)), h22) ∧
      r = (.inl (some (.long l21)), h22))
    else if a0 = 11 then (
      ∃ (l23 : Int64) (h24 : zH), zT E d m_m_spelled 0 [some (.int 98), some (.int 97), some (.int 108), some (.int 108), some (.int 0), some (.int 0), none, none] [] h (.inl (some (.long l23)), h24) ∧
      r = (.inl (some (.long l23)), h24))
    else if a0 = 12 then (
      ∃ (l25 : Int64) (h26 : zH), zT E d m_m_spelled 0 [some (.int 114), some (.int 105), some (.int 115), some (.int 101), some (.int 115), some (.int 0), none, none] [] h (.inl (some (.long l25)), h26) ∧
      r = (.inl (some (.long l25)), h26))
    else if a0 = 13 then (
      ∃ (l27 : Int64) (h28 : zH), zT E d m_m_spelled 0 [some (.int 98), some (.int 117), some (.int 114), some (.int 115), some (.int 116), some (.int 115), none, none] [] h (.inl (some (.long l27)), h28) ∧
      r = (.inl (some (.long l27)), h28))
    else if a0 = 14 then (
      ∃ (l29 : Int64) (h30 : zH), zT E d m_m_spelled 0 [some (.int 97), some (.int 110), some (.int 100), some (.int 0), some (.int 0), some (.int 0), none, none] [] h (.inl (some (.long l29)), h30) ∧
      r = (.inl (some (.long l29)), h30))
    else if a0 = 15 then (
      ∃ (l31 : Int64) (h32 : zH), zT E d m_m_spelled 0 [some (.int 111), some (.int 114), some (.int 0), some (.int 0), some (.int 0), some (.int 0), none, none] [] h (.inl (some (.long l31)), h32) ∧
      r = (.inl (some (.long l31)), h32))
    else (
      ∃ (l33 : Int64) (h34 : zH), zT E d m_m_spelled 0 [some (.int 110), some (.int 111), some (.int 116), some (.int 0), some (.int 0), some (.int 0), none, none] [] h (.inl (some (.long l33)), h34) ∧
      r = (.inl (some (.long l33)), h34))) :
    zT E (d + 1) m_m_letters 0 [some (.int a0)] [] h r := by
  refine zT_st (pc' := 1) (L' := [some (.int a0)]) (st' := [.int a0]) (h' := h) 1 (fun n => rfl) ?_
  by_cases c0 : a0 = 0
  · rw [if_pos c0] at hw
    refine zT_st (pc' := 80) (L' := [some (.int a0)]) (st' := []) (h' := h) 1 (fun n => zsw_in c0 rfl) ?_
    refine zT_st (pc' := 90) (L' := [some (.int a0)]) (st' := [.int 0, .int 0, .int 100, .int 108, .int 105, .int 109]) (h' := h) 6 (fun n => rfl) ?_
    obtain ⟨l1, h2, hx, hw⟩ := hw
    refine zT_call (pc' := 93) (rest := []) 1 (fun n => rfl) rfl hx ?_
    show zT E (d + 1) m_m_letters 93 [some (.int a0)] [.long l1] h2 r
    subst hw
    exact zT_ret 1 rfl
  rw [if_neg c0] at hw
  by_cases c1 : a0 = 1
  · rw [if_pos c1] at hw
    refine zT_st (pc' := 94) (L' := [some (.int a0)]) (st' := []) (h' := h) 1 (fun n => zsw_in c1 rfl) ?_
    refine zT_st (pc' := 106) (L' := [some (.int a0)]) (st' := [.int 114, .int 101, .int 112, .int 109, .int 101, .int 116]) (h' := h) 6 (fun n => rfl) ?_
    obtain ⟨l3, h4, hx, hw⟩ := hw
    refine zT_call (pc' := 109) (rest := []) 1 (fun n => rfl) rfl hx ?_
    show zT E (d + 1) m_m_letters 109 [some (.int a0)] [.long l3] h4 r
    subst hw
    exact zT_ret 1 rfl
  rw [if_neg c1] at hw
  by_cases c2 : a0 = 2
  · rw [if_pos c2] at hw
    refine zT_st (pc' := 110) (L' := [some (.int a0)]) (st' := []) (h' := h) 1 (fun n => zsw_in c2 rfl) ?_
    refine zT_st (pc' := 122) (L' := [some (.int a0)]) (st' := [.int 115, .int 116, .int 117, .int 111, .int 104, .int 115]) (h' := h) 6 (fun n => rfl) ?_
    obtain ⟨l5, h6, hx, hw⟩ := hw
    refine zT_call (pc' := 125) (rest := []) 1 (fun n => rfl) rfl hx ?_
    show zT E (d + 1) m_m_letters 125 [some (.int a0)] [.long l5] h6 r
    subst hw
    exact zT_ret 1 rfl
  rw [if_neg c2] at hw
  by_cases c3 : a0 = 3
  · rw [if_pos c3] at hw
    refine zT_st (pc' := 126) (L' := [some (.int a0)]) (st' := []) (h' := h) 1 (fun n => zsw_in c3 rfl) ?_
    refine zT_st (pc' := 137) (L' := [some (.int a0)]) (st' := [.int 0, .int 100, .int 114, .int 97, .int 101, .int 104]) (h' := h) 6 (fun n => rfl) ?_
    obtain ⟨l7, h8, hx, hw⟩ := hw
    refine zT_call (pc' := 140) (rest := []) 1 (fun n => rfl) rfl hx ?_
    show zT E (d + 1) m_m_letters 140 [some (.int a0)] [.long l7] h8 r
    subst hw
    exact zT_ret 1 rfl
  rw [if_neg c3] at hw
  by_cases c4 : a0 = 4
  · rw [if_pos c4] at hw
    refine zT_st (pc' := 141) (L' := [some (.int a0)]) (st' := []) (h' := h) 1 (fun n => zsw_in c4 rfl) ?_
    refine zT_st (pc' := 150) (L' := [some (.int a0)]) (st' := [.int 0, .int 0, .int 0, .int 121, .int 97, .int 100]) (h' := h) 6 (fun n => rfl) ?_
    obtain ⟨l9, h10, hx, hw⟩ := hw
    refine zT_call (pc' := 153) (rest := []) 1 (fun n => rfl) rfl hx ?_
    show zT E (d + 1) m_m_letters 153 [some (.int a0)] [.long l9] h10 r
    subst hw
    exact zT_ret 1 rfl
  rw [if_neg c4] at hw
  by_cases c5 : a0 = 5
  · rw [if_pos c5] at hw
    refine zT_st (pc' := 154) (L' := [some (.int a0)]) (st' := []) (h' := h) 1 (fun n => zsw_in c5 rfl) ?_
    refine zT_st (pc' := 165) (L' := [some (.int a0)]) (st' := [.int 0, .int 115, .int 100, .int 108, .int 111, .int 104]) (h' := h) 6 (fun n => rfl) ?_
    obtain ⟨l11, h12, hx, hw⟩ := hw
    refine zT_call (pc' := 168) (rest := []) 1 (fun n => rfl) rfl hx ?_
    show zT E (d + 1) m_m_letters 168 [some (.int a0)] [.long l11] h12 r
    subst hw
    exact zT_ret 1 rfl
  rw [if_neg c5] at hw
  by_cases c6 : a0 = 6
  · rw [if_pos c6] at hw
    refine zT_st (pc' := 169) (L' := [some (.int a0)]) (st' := []) (h' := h) 1 (fun n => zsw_in c6 rfl) ?_
    refine zT_st (pc' := 179) (L' := [some (.int a0)]) (st' := [.int 0, .int 0, .int 101, .int 122, .int 105, .int 115]) (h' := h) 6 (fun n => rfl) ?_
    obtain ⟨l13, h14, hx, hw⟩ := hw
    refine zT_call (pc' := 182) (rest := []) 1 (fun n => rfl) rfl hx ?_
    show zT E (d + 1) m_m_letters 182 [some (.int a0)] [.long l13] h14 r
    subst hw
    exact zT_ret 1 rfl
  rw [if_neg c6] at hw
  by_cases c7 : a0 = 7
  · rw [if_pos c7] at hw
    refine zT_st (pc' := 183) (L' := [some (.int a0)]) (st' := []) (h' := h) 1 (fun n => zsw_in c7 rfl) ?_
    refine zT_st (pc' := 192) (L' := [some (.int a0)]) (st' := [.int 0, .int 0, .int 0, .int 101, .int 103, .int 97]) (h' := h) 6 (fun n => rfl) ?_
    obtain ⟨l15, h16, hx, hw⟩ := hw
    refine zT_call (pc' := 195) (rest := []) 1 (fun n => rfl) rfl hx ?_
    show zT E (d + 1) m_m_letters 195 [some (.int a0)] [.long l15] h16 r
    subst hw
    exact zT_ret 1 rfl
  rw [if_neg c7] at hw
  by_cases c8 : a0 = 8
  · rw [if_pos c8] at hw
    refine zT_st (pc' := 196) (L' := [some (.int a0)]) (st' := []) (h' := h) 1 (fun n => zsw_in c8 rfl) ?_
    refine zT_st (pc' := 206) (L' := [some (.int a0)]) (st' := [.int 0, .int 0, .int 114, .int 97, .int 101, .int 110]) (h' := h) 6 (fun n => rfl) ?_
    obtain ⟨l17, h18, hx, hw⟩ := hw
    refine zT_call (pc' := 209) (rest := []) 1 (fun n => rfl) rfl hx ?_
    show zT E (d + 1) m_m_letters 209 [some (.int a0)] [.long l17] h18 r
    subst hw
    exact zT_ret 1 rfl
  rw [if_neg c8] at hw
  by_cases c9 : a0 = 9
  · rw [if_pos c9] at hw
    refine zT_st (pc' := 210) (L' := [some (.int a0)]) (st' := []) (h' := h) 1 (fun n => zsw_in c9 rfl) ?_
    refine zT_st (pc' := 221) (L' := [some (.int a0)]) (st' := [.int 0, .int 115, .int 110, .int 119, .int 111, .int 100]) (h' := h) 6 (fun n => rfl) ?_
    obtain ⟨l19, h20, hx, hw⟩ := hw
    refine zT_call (pc' := 224) (rest := []) 1 (fun n => rfl) rfl hx ?_
    show zT E (d + 1) m_m_letters 224 [some (.int a0)] [.long l19] h20 r
    subst hw
    exact zT_ret 1 rfl
  rw [if_neg c9] at hw
  by_cases c10 : a0 = 10
  · rw [if_pos c10] at hw
    refine zT_st (pc' := 225) (L' := [some (.int a0)]) (st' := []) (h' := h) 1 (fun n => zsw_in c10 rfl) ?_
    refine zT_st (pc' := 237) (L' := [some (.int a0)]) (st' := [.int 110, .int 111, .int 115, .int 114, .int 101, .int 112]) (h' := h) 6 (fun n => rfl) ?_
    obtain ⟨l21, h22, hx, hw⟩ := hw
    refine zT_call (pc' := 240) (rest := []) 1 (fun n => rfl) rfl hx ?_
    show zT E (d + 1) m_m_letters 240 [some (.int a0)] [.long l21] h22 r
    subst hw
    exact zT_ret 1 rfl
  rw [if_neg c10] at hw
  by_cases c11 : a0 = 11
  · rw [if_pos c11] at hw
    refine zT_st (pc' := 241) (L' := [some (.int a0)]) (st' := []) (h' := h) 1 (fun n => zsw_in c11 rfl) ?_
    refine zT_st (pc' := 251) (L' := [some (.int a0)]) (st' := [.int 0, .int 0, .int 108, .int 108, .int 97, .int 98]) (h' := h) 6 (fun n => rfl) ?_
    obtain ⟨l23, h24, hx, hw⟩ := hw
    refine zT_call (pc' := 254) (rest := []) 1 (fun n => rfl) rfl hx ?_
    show zT E (d + 1) m_m_letters 254 [some (.int a0)] [.long l23] h24 r
    subst hw
    exact zT_ret 1 rfl
  rw [if_neg c11] at hw
  by_cases c12 : a0 = 12
  · rw [if_pos c12] at hw
    refine zT_st (pc' := 255) (L' := [some (.int a0)]) (st' := []) (h' := h) 1 (fun n => zsw_in c12 rfl) ?_
    refine zT_st (pc' := 266) (L' := [some (.int a0)]) (st' := [.int 0, .int 115, .int 101, .int 115, .int 105, .int 114]) (h' := h) 6 (fun n => rfl) ?_
    obtain ⟨l25, h26, hx, hw⟩ := hw
    refine zT_call (pc' := 269) (rest := []) 1 (fun n => rfl) rfl hx ?_
    show zT E (d + 1) m_m_letters 269 [some (.int a0)] [.long l25] h26 r
    subst hw
    exact zT_ret 1 rfl
  rw [if_neg c12] at hw
  by_cases c13 : a0 = 13
  · rw [if_pos c13] at hw
    refine zT_st (pc' := 270) (L' := [some (.int a0)]) (st' := []) (h' := h) 1 (fun n => zsw_in c13 rfl) ?_
    refine zT_st (pc' := 282) (L' := [some (.int a0)]) (st' := [.int 115, .int 116, .int 115, .int 114, .int 117, .int 98]) (h' := h) 6 (fun n => rfl) ?_
    obtain ⟨l27, h28, hx, hw⟩ := hw
    refine zT_call (pc' := 285) (rest := []) 1 (fun n => rfl) rfl hx ?_
    show zT E (d + 1) m_m_letters 285 [some (.int a0)] [.long l27] h28 r
    subst hw
    exact zT_ret 1 rfl
  rw [if_neg c13] at hw
  by_cases c14 : a0 = 14
  · rw [if_pos c14] at hw
    refine zT_st (pc' := 286) (L' := [some (.int a0)]) (st' := []) (h' := h) 1 (fun n => zsw_in c14 rfl) ?_
    refine zT_st (pc' := 295) (L' := [some (.int a0)]) (st' := [.int 0, .int 0, .int 0, .int 100, .int 110, .int 97]) (h' := h) 6 (fun n => rfl) ?_
    obtain ⟨l29, h30, hx, hw⟩ := hw
    refine zT_call (pc' := 298) (rest := []) 1 (fun n => rfl) rfl hx ?_
    show zT E (d + 1) m_m_letters 298 [some (.int a0)] [.long l29] h30 r
    subst hw
    exact zT_ret 1 rfl
  rw [if_neg c14] at hw
  by_cases c15 : a0 = 15
  · rw [if_pos c15] at hw
    refine zT_st (pc' := 299) (L' := [some (.int a0)]) (st' := []) (h' := h) 1 (fun n => zsw_in c15 rfl) ?_
    refine zT_st (pc' := 307) (L' := [some (.int a0)]) (st' := [.int 0, .int 0, .int 0, .int 0, .int 114, .int 111]) (h' := h) 6 (fun n => rfl) ?_
    obtain ⟨l31, h32, hx, hw⟩ := hw
    refine zT_call (pc' := 310) (rest := []) 1 (fun n => rfl) rfl hx ?_
    show zT E (d + 1) m_m_letters 310 [some (.int a0)] [.long l31] h32 r
    subst hw
    exact zT_ret 1 rfl
  rw [if_neg c15] at hw
  refine zT_st (pc' := 311) (L' := [some (.int a0)]) (st' := []) (h' := h) 1 (fun n => zsw_out (zout (n := 16) (by decide) (fun k hk => by rcases k with _ | _ | _ | _ | _ | _ | _ | _ | _ | _ | _ | _ | _ | _ | _ | _ | k <;> first | assumption | omega)) rfl) ?_
  refine zT_st (pc' := 320) (L' := [some (.int a0)]) (st' := [.int 0, .int 0, .int 0, .int 116, .int 111, .int 110]) (h' := h) 6 (fun n => rfl) ?_
  obtain ⟨l33, h34, hx, hw⟩ := hw
  refine zT_call (pc' := 323) (rest := []) 1 (fun n => rfl) rfl hx ?_
  show zT E (d + 1) m_m_letters 323 [some (.int a0)] [.long l33] h34 r
  subst hw
  exact zT_ret 1 rfl
set_option maxRecDepth 4000 in
theorem s_m_isGood_0 (E : zX) (d : Nat) (a0 : Nat) (h : zH) (r : zO × zH)
    (hw : ∃ x1 : Int32, fld h a0 12 12 = some (.int x1) ∧
    if x1 = 0 then (
      r = (.inl (some (.int 1)), h))
    else (
      r = (.inl (some (.int 0)), h))) :
    zT E d m_m_isGood 0 [some (.ref a0)] [] h r := by
  refine zT_st (pc' := 1) (L' := [some (.ref a0)]) (st' := [.ref a0]) (h' := h) 1 (fun n => rfl) ?_
  obtain ⟨x1, e, hw⟩ := hw
  refine zT_st (pc' := 4) (L' := [some (.ref a0)]) (st' := [.int x1]) (h' := h) 1 (fun n => fld_eq (E := E) e _) ?_
  by_cases hc : x1 = 0
  · rw [if_pos hc] at hw
    refine zT_st (pc' := 7) (L' := [some (.ref a0)]) (st' := []) (h' := h) 1 (fun n => if_pos hc) ?_
    subst hw
    exact zT_ret 3 rfl
  · rw [if_neg hc] at hw
    refine zT_st (pc' := 11) (L' := [some (.ref a0)]) (st' := []) (h' := h) 1 (fun n => if_neg hc) ?_
    subst hw
    exact zT_ret 2 rfl
set_option maxRecDepth 4000 in
theorem s_m_isSign_0 (E : zX) (d : Nat) (a0 : Nat) (a1 : Int32) (h : zH) (r : zO × zH)
    (hw : ∃ x1 : Int32, fld h a0 12 17 = some (.int x1) ∧
    if x1 = 3 then (
      ∃ x2 : Int32, fld h a0 12 21 = some (.int x2) ∧
      if x2 = a1 then (
        r = (.inl (some (.int 1)), h))
      else (
        r = (.inl (some (.int 0)), h)))
    else (
      r = (.inl (some (.int 0)), h))) :
    zT E d m_m_isSign 0 [some (.ref a0), some (.int a1)] [] h r := by
  refine zT_st (pc' := 1) (L' := [some (.ref a0), some (.int a1)]) (st' := [.ref a0]) (h' := h) 1 (fun n => rfl) ?_
  obtain ⟨x1, e, hw⟩ := hw
  refine zT_st (pc' := 4) (L' := [some (.ref a0), some (.int a1)]) (st' := [.int x1]) (h' := h) 1 (fun n => fld_eq (E := E) e _) ?_
  refine zT_st (pc' := 5) (L' := [some (.ref a0), some (.int a1)]) (st' := [.int 3, .int x1]) (h' := h) 1 (fun n => rfl) ?_
  by_cases hc : x1 = 3
  · rw [if_pos hc] at hw
    refine zT_st (pc' := 8) (L' := [some (.ref a0), some (.int a1)]) (st' := []) (h' := h) 1 (fun n => if_pos hc) ?_
    refine zT_st (pc' := 9) (L' := [some (.ref a0), some (.int a1)]) (st' := [.ref a0]) (h' := h) 1 (fun n => rfl) ?_
    obtain ⟨x2, e, hw⟩ := hw
    refine zT_st (pc' := 12) (L' := [some (.ref a0), some (.int a1)]) (st' := [.int x2]) (h' := h) 1 (fun n => fld_eq (E := E) e _) ?_
    refine zT_st (pc' := 13) (L' := [some (.ref a0), some (.int a1)]) (st' := [.int a1, .int x2]) (h' := h) 1 (fun n => rfl) ?_
    by_cases hc : x2 = a1
    · rw [if_pos hc] at hw
      refine zT_st (pc' := 16) (L' := [some (.ref a0), some (.int a1)]) (st' := []) (h' := h) 1 (fun n => if_pos hc) ?_
      subst hw
      exact zT_ret 3 rfl
    · rw [if_neg hc] at hw
      refine zT_st (pc' := 20) (L' := [some (.ref a0), some (.int a1)]) (st' := []) (h' := h) 1 (fun n => if_neg hc) ?_
      subst hw
      exact zT_ret 2 rfl
  · rw [if_neg hc] at hw
    refine zT_st (pc' := 20) (L' := [some (.ref a0), some (.int a1)]) (st' := []) (h' := h) 1 (fun n => if_neg hc) ?_
    subst hw
    exact zT_ret 2 rfl
set_option maxRecDepth 4000 in
theorem s_m_line_0 (E : zX) (d : Nat) (a0 : Nat) (h : zH) (r : zO × zH)
    (hw : isO h a0 12 = true ∧ ∃ (x1 : Int32) (h2 : zH), zT E d m_m_knownWord 0 [some (.ref a0), none] [] h (.inl (some (.int x1)), h2) ∧
    if x1 = 10 then (
      ∃ x3 : Int32, fld h2 a0 12 25 = some (.int x3) ∧
      if x3 = 7 then (
        zT E (d + 1) m_m_line 26 [some (.ref a0), some (.int x1)] [.int 1, .ref a0] h2 r)
      else (
        zT E (d + 1) m_m_line 26 [some (.ref a0), some (.int x1)] [.int 0, .ref a0] h2 r))
    else (
      if x1 = 11 then (
        ∃ x4 : Int32, fld h2 a0 12 26 = some (.int x4) ∧
        if x4 = 10 then (
          zT E (d + 1) m_m_line 61 [some (.ref a0), some (.int x1)] [.int 1, .ref a0] h2 r)
        else (
          zT E (d + 1) m_m_line 61 [some (.ref a0), some (.int x1)] [.int 0, .ref a0] h2 r))
      else (
        if x1 = 12 then (
          ∃ x5 : Int32, fld h2 a0 12 27 = some (.int x5) ∧
          if x5 = (-1) then (
            zT E (d + 1) m_m_line 96 [some (.ref a0), some (.int x1)] [.int 0, .int 0, .ref a0] h2 r)
          else (
            zT E (d + 1) m_m_line 96 [some (.ref a0), some (.int x1)] [.int 1, .int 0, .ref a0] h2 r))
        else (
          if x1 = 13 then (
            ∃ x6 : Int32, fld h2 a0 12 28 = some (.int x6) ∧
            if x6 = (-1) then (
              zT E (d + 1) m_m_line 140 [some (.ref a0), some (.int x1)] [.int 0, .int 0, .ref a0] h2 r)
            else (
              zT E (d + 1) m_m_line 140 [some (.ref a0), some (.int x1)] [.int 1, .int 0, .ref a0] h2 r))
          else (
            isO h2 a0 12 = true ∧ ∃ (h8 : zH), zT E d m_m_wrong 0 [some (.ref a0), some (.int 1)] [] h2 (.inl none, h8) ∧
            isO h8 a0 12 = true ∧ ∃ (x9 : Int32) (h10 : zH), zT E d m_m_isSign 0 [some (.ref a0), some (.int 59)] [] h8 (.inl (some (.int x9)), h10) ∧
            isO h10 a0 12 = true ∧ ∃ (h12 : zH), zT E d m_m_need 0 [some (.ref a0), some (.int x9)] [] h10 (.inl none, h12) ∧
            r = (.inl (none), h12)))))) :
    zT E (d + 1) m_m_line 0 [some (.ref a0), none] [] h r := by
  refine zT_st (pc' := 1) (L' := [some (.ref a0), none]) (st' := [.ref a0]) (h' := h) 1 (fun n => rfl) ?_
  obtain ⟨hq, hw⟩ := hw
  obtain ⟨x1, h2, hx, hw⟩ := hw
  refine zT_call (pc' := 4) (rest := []) 1 (fun n => rfl) hq hx ?_
  show zT E (d + 1) m_m_line 4 [some (.ref a0), none] [.int x1] h2 r
  refine zT_st (pc' := 8) (L' := [some (.ref a0), some (.int x1)]) (st' := [.int 10, .int x1]) (h' := h2) 3 (fun n => rfl) ?_
  by_cases hc : x1 = 10
  · rw [if_pos hc] at hw
    refine zT_st (pc' := 11) (L' := [some (.ref a0), some (.int x1)]) (st' := []) (h' := h2) 1 (fun n => if_pos hc) ?_
    refine zT_st (pc' := 13) (L' := [some (.ref a0), some (.int x1)]) (st' := [.ref a0, .ref a0]) (h' := h2) 2 (fun n => rfl) ?_
    obtain ⟨x3, e, hw⟩ := hw
    refine zT_st (pc' := 16) (L' := [some (.ref a0), some (.int x1)]) (st' := [.int x3, .ref a0]) (h' := h2) 1 (fun n => fld_eq (E := E) e _) ?_
    refine zT_st (pc' := 18) (L' := [some (.ref a0), some (.int x1)]) (st' := [.int 7, .int x3, .ref a0]) (h' := h2) 1 (fun n => rfl) ?_
    by_cases hc : x3 = 7
    · rw [if_pos hc] at hw
      refine zT_st (pc' := 21) (L' := [some (.ref a0), some (.int x1)]) (st' := [.ref a0]) (h' := h2) 1 (fun n => if_pos hc) ?_
      exact zT_st 2 (fun n => rfl) hw
    · rw [if_neg hc] at hw
      refine zT_st (pc' := 25) (L' := [some (.ref a0), some (.int x1)]) (st' := [.ref a0]) (h' := h2) 1 (fun n => if_neg hc) ?_
      exact zT_st 1 (fun n => rfl) hw
  · rw [if_neg hc] at hw
    refine zT_st (pc' := 40) (L' := [some (.ref a0), some (.int x1)]) (st' := []) (h' := h2) 1 (fun n => if_neg hc) ?_
    refine zT_st (pc' := 43) (L' := [some (.ref a0), some (.int x1)]) (st' := [.int 11, .int x1]) (h' := h2) 2 (fun n => rfl) ?_
    by_cases hc : x1 = 11
    · rw [if_pos hc] at hw
      refine zT_st (pc' := 46) (L' := [some (.ref a0), some (.int x1)]) (st' := []) (h' := h2) 1 (fun n => if_pos hc) ?_
      refine zT_st (pc' := 48) (L' := [some (.ref a0), some (.int x1)]) (st' := [.ref a0, .ref a0]) (h' := h2) 2 (fun n => rfl) ?_
      obtain ⟨x4, e, hw⟩ := hw
      refine zT_st (pc' := 51) (L' := [some (.ref a0), some (.int x1)]) (st' := [.int x4, .ref a0]) (h' := h2) 1 (fun n => fld_eq (E := E) e _) ?_
      refine zT_st (pc' := 53) (L' := [some (.ref a0), some (.int x1)]) (st' := [.int 10, .int x4, .ref a0]) (h' := h2) 1 (fun n => rfl) ?_
      by_cases hc : x4 = 10
      · rw [if_pos hc] at hw
        refine zT_st (pc' := 56) (L' := [some (.ref a0), some (.int x1)]) (st' := [.ref a0]) (h' := h2) 1 (fun n => if_pos hc) ?_
        exact zT_st 2 (fun n => rfl) hw
      · rw [if_neg hc] at hw
        refine zT_st (pc' := 60) (L' := [some (.ref a0), some (.int x1)]) (st' := [.ref a0]) (h' := h2) 1 (fun n => if_neg hc) ?_
        exact zT_st 1 (fun n => rfl) hw
    · rw [if_neg hc] at hw
      refine zT_st (pc' := 75) (L' := [some (.ref a0), some (.int x1)]) (st' := []) (h' := h2) 1 (fun n => if_neg hc) ?_
      refine zT_st (pc' := 78) (L' := [some (.ref a0), some (.int x1)]) (st' := [.int 12, .int x1]) (h' := h2) 2 (fun n => rfl) ?_
      by_cases hc : x1 = 12
      · rw [if_pos hc] at hw
        refine zT_st (pc' := 81) (L' := [some (.ref a0), some (.int x1)]) (st' := []) (h' := h2) 1 (fun n => if_pos hc) ?_
        refine zT_st (pc' := 84) (L' := [some (.ref a0), some (.int x1)]) (st' := [.ref a0, .int 0, .ref a0]) (h' := h2) 3 (fun n => rfl) ?_
        obtain ⟨x5, e, hw⟩ := hw
        refine zT_st (pc' := 87) (L' := [some (.ref a0), some (.int x1)]) (st' := [.int x5, .int 0, .ref a0]) (h' := h2) 1 (fun n => fld_eq (E := E) e _) ?_
        refine zT_st (pc' := 88) (L' := [some (.ref a0), some (.int x1)]) (st' := [.int (-1), .int x5, .int 0, .ref a0]) (h' := h2) 1 (fun n => rfl) ?_
        by_cases hc : x5 = (-1)
        · rw [if_pos hc] at hw
          refine zT_st (pc' := 95) (L' := [some (.ref a0), some (.int x1)]) (st' := [.int 0, .ref a0]) (h' := h2) 1 (fun n => if_pos hc) ?_
          exact zT_st 1 (fun n => rfl) hw
        · rw [if_neg hc] at hw
          refine zT_st (pc' := 91) (L' := [some (.ref a0), some (.int x1)]) (st' := [.int 0, .ref a0]) (h' := h2) 1 (fun n => if_neg hc) ?_
          exact zT_st 2 (fun n => rfl) hw
      · rw [if_neg hc] at hw
        refine zT_st (pc' := 119) (L' := [some (.ref a0), some (.int x1)]) (st' := []) (h' := h2) 1 (fun n => if_neg hc) ?_
        refine zT_st (pc' := 122) (L' := [some (.ref a0), some (.int x1)]) (st' := [.int 13, .int x1]) (h' := h2) 2 (fun n => rfl) ?_
        by_cases hc : x1 = 13
        · rw [if_pos hc] at hw
          refine zT_st (pc' := 125) (L' := [some (.ref a0), some (.int x1)]) (st' := []) (h' := h2) 1 (fun n => if_pos hc) ?_
          refine zT_st (pc' := 128) (L' := [some (.ref a0), some (.int x1)]) (st' := [.ref a0, .int 0, .ref a0]) (h' := h2) 3 (fun n => rfl) ?_
          obtain ⟨x6, e, hw⟩ := hw
          refine zT_st (pc' := 131) (L' := [some (.ref a0), some (.int x1)]) (st' := [.int x6, .int 0, .ref a0]) (h' := h2) 1 (fun n => fld_eq (E := E) e _) ?_
          refine zT_st (pc' := 132) (L' := [some (.ref a0), some (.int x1)]) (st' := [.int (-1), .int x6, .int 0, .ref a0]) (h' := h2) 1 (fun n => rfl) ?_
          by_cases hc : x6 = (-1)
          · rw [if_pos hc] at hw
            refine zT_st (pc' := 139) (L' := [some (.ref a0), some (.int x1)]) (st' := [.int 0, .ref a0]) (h' := h2) 1 (fun n => if_pos hc) ?_
            exact zT_st 1 (fun n => rfl) hw
          · rw [if_neg hc] at hw
            refine zT_st (pc' := 135) (L' := [some (.ref a0), some (.int x1)]) (st' := [.int 0, .ref a0]) (h' := h2) 1 (fun n => if_neg hc) ?_
            exact zT_st 2 (fun n => rfl) hw
        · rw [if_neg hc] at hw
          refine zT_st (pc' := 164) (L' := [some (.ref a0), some (.int x1)]) (st' := []) (h' := h2) 1 (fun n => if_neg hc) ?_
          refine zT_st (pc' := 166) (L' := [some (.ref a0), some (.int x1)]) (st' := [.int 1, .ref a0]) (h' := h2) 2 (fun n => rfl) ?_
          obtain ⟨hq, hw⟩ := hw
          obtain ⟨h8, hx, hw⟩ := hw
          refine zT_call (pc' := 169) (rest := []) 1 (fun n => rfl) hq hx ?_
          show zT E (d + 1) m_m_line 169 [some (.ref a0), some (.int x1)] [] h8 r
          refine zT_st (pc' := 173) (L' := [some (.ref a0), some (.int x1)]) (st' := [.int 59, .ref a0, .ref a0]) (h' := h8) 3 (fun n => rfl) ?_
          obtain ⟨hq, hw⟩ := hw
          obtain ⟨x9, h10, hx, hw⟩ := hw
          refine zT_call (pc' := 176) (rest := [.ref a0]) 1 (fun n => rfl) hq hx ?_
          show zT E (d + 1) m_m_line 176 [some (.ref a0), some (.int x1)] [.int x9, .ref a0] h10 r
          obtain ⟨hq, hw⟩ := hw
          obtain ⟨h12, hx, hw⟩ := hw
          refine zT_call (pc' := 179) (rest := []) 1 (fun n => rfl) hq hx ?_
          show zT E (d + 1) m_m_line 179 [some (.ref a0), some (.int x1)] [] h12 r
          subst hw
          exact zT_ret 1 rfl
set_option maxRecDepth 4000 in
theorem s_m_line_26 (E : zX) (d : Nat) (a0 : Nat) (j1 : Option Value) (s0 : Nat) (s1 : Int32) (h : zH) (r : zO × zH)
    (hw : isO h s0 12 = true ∧ ∃ (x1 : Int32) (h2 : zH), zT E d m_m_begins 0 [some (.ref s0), some (.int s1), some (.int 0)] [] h (.inl (some (.int x1)), h2) ∧
    if x1 = 0 then (
      isO h2 a0 12 = true ∧ ∃ (x3 : Int32) (h4 : zH), zT E d m_m_isSign 0 [some (.ref a0), some (.int 59)] [] h2 (.inl (some (.int x3)), h4) ∧
      isO h4 a0 12 = true ∧ ∃ (h6 : zH), zT E d m_m_need 0 [some (.ref a0), some (.int x3)] [] h4 (.inl none, h6) ∧
      r = (.inl (none), h6))
    else (
      isO h2 a0 12 = true ∧ ∃ (h8 : zH), zT E d m_m_readsPerson 0 [some (.ref a0), none] [] h2 (.inl none, h8) ∧
      isO h8 a0 12 = true ∧ ∃ (x9 : Int32) (h10 : zH), zT E d m_m_isSign 0 [some (.ref a0), some (.int 59)] [] h8 (.inl (some (.int x9)), h10) ∧
      isO h10 a0 12 = true ∧ ∃ (h12 : zH), zT E d m_m_need 0 [some (.ref a0), some (.int x9)] [] h10 (.inl none, h12) ∧
      r = (.inl (none), h12))) :
    zT E (d + 1) m_m_line 26 [some (.ref a0), j1] [.int s1, .ref s0] h r := by
  refine zT_st (pc' := 27) (L' := [some (.ref a0), j1]) (st' := [.int 0, .int s1, .ref s0]) (h' := h) 1 (fun n => rfl) ?_
  obtain ⟨hq, hw⟩ := hw
  obtain ⟨x1, h2, hx, hw⟩ := hw
  refine zT_call (pc' := 30) (rest := []) 1 (fun n => rfl) hq hx ?_
  show zT E (d + 1) m_m_line 30 [some (.ref a0), j1] [.int x1] h2 r
  by_cases hc : x1 = 0
  · rw [if_pos hc] at hw
    refine zT_st (pc' := 169) (L' := [some (.ref a0), j1]) (st' := []) (h' := h2) 1 (fun n => if_pos hc) ?_
    refine zT_st (pc' := 173) (L' := [some (.ref a0), j1]) (st' := [.int 59, .ref a0, .ref a0]) (h' := h2) 3 (fun n => rfl) ?_
    obtain ⟨hq, hw⟩ := hw
    obtain ⟨x3, h4, hx, hw⟩ := hw
    refine zT_call (pc' := 176) (rest := [.ref a0]) 1 (fun n => rfl) hq hx ?_
    show zT E (d + 1) m_m_line 176 [some (.ref a0), j1] [.int x3, .ref a0] h4 r
    obtain ⟨hq, hw⟩ := hw
    obtain ⟨h6, hx, hw⟩ := hw
    refine zT_call (pc' := 179) (rest := []) 1 (fun n => rfl) hq hx ?_
    show zT E (d + 1) m_m_line 179 [some (.ref a0), j1] [] h6 r
    subst hw
    exact zT_ret 1 rfl
  · rw [if_neg hc] at hw
    refine zT_st (pc' := 33) (L' := [some (.ref a0), j1]) (st' := []) (h' := h2) 1 (fun n => if_neg hc) ?_
    refine zT_st (pc' := 34) (L' := [some (.ref a0), j1]) (st' := [.ref a0]) (h' := h2) 1 (fun n => rfl) ?_
    obtain ⟨hq, hw⟩ := hw
    obtain ⟨h8, hx, hw⟩ := hw
    refine zT_call (pc' := 37) (rest := []) 1 (fun n => rfl) hq hx ?_
    show zT E (d + 1) m_m_line 37 [some (.ref a0), j1] [] h8 r
    refine zT_st (pc' := 173) (L' := [some (.ref a0), j1]) (st' := [.int 59, .ref a0, .ref a0]) (h' := h8) 4 (fun n => rfl) ?_
    obtain ⟨hq, hw⟩ := hw
    obtain ⟨x9, h10, hx, hw⟩ := hw
    refine zT_call (pc' := 176) (rest := [.ref a0]) 1 (fun n => rfl) hq hx ?_
    show zT E (d + 1) m_m_line 176 [some (.ref a0), j1] [.int x9, .ref a0] h10 r
    obtain ⟨hq, hw⟩ := hw
    obtain ⟨h12, hx, hw⟩ := hw
    refine zT_call (pc' := 179) (rest := []) 1 (fun n => rfl) hq hx ?_
    show zT E (d + 1) m_m_line 179 [some (.ref a0), j1] [] h12 r
    subst hw
    exact zT_ret 1 rfl
set_option maxRecDepth 4000 in
theorem s_m_line_61 (E : zX) (d : Nat) (a0 : Nat) (j1 : Option Value) (s0 : Nat) (s1 : Int32) (h : zH) (r : zO × zH)
    (hw : isO h s0 12 = true ∧ ∃ (x1 : Int32) (h2 : zH), zT E d m_m_begins 0 [some (.ref s0), some (.int s1), some (.int 0)] [] h (.inl (some (.int x1)), h2) ∧
    if x1 = 0 then (
      isO h2 a0 12 = true ∧ ∃ (x3 : Int32) (h4 : zH), zT E d m_m_isSign 0 [some (.ref a0), some (.int 59)] [] h2 (.inl (some (.int x3)), h4) ∧
      isO h4 a0 12 = true ∧ ∃ (h6 : zH), zT E d m_m_need 0 [some (.ref a0), some (.int x3)] [] h4 (.inl none, h6) ∧
      r = (.inl (none), h6))
    else (
      isO h2 a0 12 = true ∧ ∃ (h8 : zH), zT E d m_m_readsBall 0 [some (.ref a0), none] [] h2 (.inl none, h8) ∧
      isO h8 a0 12 = true ∧ ∃ (x9 : Int32) (h10 : zH), zT E d m_m_isSign 0 [some (.ref a0), some (.int 59)] [] h8 (.inl (some (.int x9)), h10) ∧
      isO h10 a0 12 = true ∧ ∃ (h12 : zH), zT E d m_m_need 0 [some (.ref a0), some (.int x9)] [] h10 (.inl none, h12) ∧
      r = (.inl (none), h12))) :
    zT E (d + 1) m_m_line 61 [some (.ref a0), j1] [.int s1, .ref s0] h r := by
  refine zT_st (pc' := 62) (L' := [some (.ref a0), j1]) (st' := [.int 0, .int s1, .ref s0]) (h' := h) 1 (fun n => rfl) ?_
  obtain ⟨hq, hw⟩ := hw
  obtain ⟨x1, h2, hx, hw⟩ := hw
  refine zT_call (pc' := 65) (rest := []) 1 (fun n => rfl) hq hx ?_
  show zT E (d + 1) m_m_line 65 [some (.ref a0), j1] [.int x1] h2 r
  by_cases hc : x1 = 0
  · rw [if_pos hc] at hw
    refine zT_st (pc' := 169) (L' := [some (.ref a0), j1]) (st' := []) (h' := h2) 1 (fun n => if_pos hc) ?_
    refine zT_st (pc' := 173) (L' := [some (.ref a0), j1]) (st' := [.int 59, .ref a0, .ref a0]) (h' := h2) 3 (fun n => rfl) ?_
    obtain ⟨hq, hw⟩ := hw
    obtain ⟨x3, h4, hx, hw⟩ := hw
    refine zT_call (pc' := 176) (rest := [.ref a0]) 1 (fun n => rfl) hq hx ?_
    show zT E (d + 1) m_m_line 176 [some (.ref a0), j1] [.int x3, .ref a0] h4 r
    obtain ⟨hq, hw⟩ := hw
    obtain ⟨h6, hx, hw⟩ := hw
    refine zT_call (pc' := 179) (rest := []) 1 (fun n => rfl) hq hx ?_
    show zT E (d + 1) m_m_line 179 [some (.ref a0), j1] [] h6 r
    subst hw
    exact zT_ret 1 rfl
  · rw [if_neg hc] at hw
    refine zT_st (pc' := 68) (L' := [some (.ref a0), j1]) (st' := []) (h' := h2) 1 (fun n => if_neg hc) ?_
    refine zT_st (pc' := 69) (L' := [some (.ref a0), j1]) (st' := [.ref a0]) (h' := h2) 1 (fun n => rfl) ?_
    obtain ⟨hq, hw⟩ := hw
    obtain ⟨h8, hx, hw⟩ := hw
    refine zT_call (pc' := 72) (rest := []) 1 (fun n => rfl) hq hx ?_
    show zT E (d + 1) m_m_line 72 [some (.ref a0), j1] [] h8 r
    refine zT_st (pc' := 173) (L' := [some (.ref a0), j1]) (st' := [.int 59, .ref a0, .ref a0]) (h' := h8) 4 (fun n => rfl) ?_
    obtain ⟨hq, hw⟩ := hw
    obtain ⟨x9, h10, hx, hw⟩ := hw
    refine zT_call (pc' := 176) (rest := [.ref a0]) 1 (fun n => rfl) hq hx ?_
    show zT E (d + 1) m_m_line 176 [some (.ref a0), j1] [.int x9, .ref a0] h10 r
    obtain ⟨hq, hw⟩ := hw
    obtain ⟨h12, hx, hw⟩ := hw
    refine zT_call (pc' := 179) (rest := []) 1 (fun n => rfl) hq hx ?_
    show zT E (d + 1) m_m_line 179 [some (.ref a0), j1] [] h12 r
    subst hw
    exact zT_ret 1 rfl
set_option maxRecDepth 4000 in
theorem s_m_line_96 (E : zX) (d : Nat) (a0 : Nat) (j1 : Option Value) (s0 : Nat) (s1 : Int32) (s2 : Int32) (h : zH) (r : zO × zH)
    (hw : isO h s0 12 = true ∧ ∃ (x1 : Int32) (h2 : zH), zT E d m_m_begins 0 [some (.ref s0), some (.int s1), some (.int s2)] [] h (.inl (some (.int x1)), h2) ∧
    if x1 = 0 then (
      isO h2 a0 12 = true ∧ ∃ (x3 : Int32) (h4 : zH), zT E d m_m_isSign 0 [some (.ref a0), some (.int 59)] [] h2 (.inl (some (.int x3)), h4) ∧
      isO h4 a0 12 = true ∧ ∃ (h6 : zH), zT E d m_m_need 0 [some (.ref a0), some (.int x3)] [] h4 (.inl none, h6) ∧
      r = (.inl (none), h6))
    else (
      ∃ x7 : Int32, fld h2 a0 12 29 = some (.int x7) ∧
      (∃ w, fld h2 a0 12 27 = some w) ∧
      isO (setF h2 a0 27 (.int x7)) a0 12 = true ∧ ∃ (h9 : zH), zT E d m_m_expression 0 [some (.ref a0), some (.int 0), some (.int 4), none, none] [] (setF h2 a0 27 (.int x7)) (.inl none, h9) ∧
      isO h9 a0 12 = true ∧ ∃ (x10 : Int32) (h11 : zH), zT E d m_m_isSign 0 [some (.ref a0), some (.int 59)] [] h9 (.inl (some (.int x10)), h11) ∧
      isO h11 a0 12 = true ∧ ∃ (h13 : zH), zT E d m_m_need 0 [some (.ref a0), some (.int x10)] [] h11 (.inl none, h13) ∧
      r = (.inl (none), h13))) :
    zT E (d + 1) m_m_line 96 [some (.ref a0), j1] [.int s2, .int s1, .ref s0] h r := by
  obtain ⟨hq, hw⟩ := hw
  obtain ⟨x1, h2, hx, hw⟩ := hw
  refine zT_call (pc' := 99) (rest := []) 1 (fun n => rfl) hq hx ?_
  show zT E (d + 1) m_m_line 99 [some (.ref a0), j1] [.int x1] h2 r
  by_cases hc : x1 = 0
  · rw [if_pos hc] at hw
    refine zT_st (pc' := 169) (L' := [some (.ref a0), j1]) (st' := []) (h' := h2) 1 (fun n => if_pos hc) ?_
    refine zT_st (pc' := 173) (L' := [some (.ref a0), j1]) (st' := [.int 59, .ref a0, .ref a0]) (h' := h2) 3 (fun n => rfl) ?_
    obtain ⟨hq, hw⟩ := hw
    obtain ⟨x3, h4, hx, hw⟩ := hw
    refine zT_call (pc' := 176) (rest := [.ref a0]) 1 (fun n => rfl) hq hx ?_
    show zT E (d + 1) m_m_line 176 [some (.ref a0), j1] [.int x3, .ref a0] h4 r
    obtain ⟨hq, hw⟩ := hw
    obtain ⟨h6, hx, hw⟩ := hw
    refine zT_call (pc' := 179) (rest := []) 1 (fun n => rfl) hq hx ?_
    show zT E (d + 1) m_m_line 179 [some (.ref a0), j1] [] h6 r
    subst hw
    exact zT_ret 1 rfl
  · rw [if_neg hc] at hw
    refine zT_st (pc' := 102) (L' := [some (.ref a0), j1]) (st' := []) (h' := h2) 1 (fun n => if_neg hc) ?_
    refine zT_st (pc' := 104) (L' := [some (.ref a0), j1]) (st' := [.ref a0, .ref a0]) (h' := h2) 2 (fun n => rfl) ?_
    obtain ⟨x7, e, hw⟩ := hw
    refine zT_st (pc' := 107) (L' := [some (.ref a0), j1]) (st' := [.int x7, .ref a0]) (h' := h2) 1 (fun n => fld_eq (E := E) e _) ?_
    obtain ⟨⟨w, e⟩, hw⟩ := hw
    refine zT_st (pc' := 110) (L' := [some (.ref a0), j1]) (st' := []) (h' := (setF h2 a0 27 (.int x7))) 1 (fun n => put_eq e rfl _ _) ?_
    refine zT_st (pc' := 113) (L' := [some (.ref a0), j1]) (st' := [.int 4, .int 0, .ref a0]) (h' := (setF h2 a0 27 (.int x7))) 3 (fun n => rfl) ?_
    obtain ⟨hq, hw⟩ := hw
    obtain ⟨h9, hx, hw⟩ := hw
    refine zT_call (pc' := 116) (rest := []) 1 (fun n => rfl) hq hx ?_
    show zT E (d + 1) m_m_line 116 [some (.ref a0), j1] [] h9 r
    refine zT_st (pc' := 173) (L' := [some (.ref a0), j1]) (st' := [.int 59, .ref a0, .ref a0]) (h' := h9) 4 (fun n => rfl) ?_
    obtain ⟨hq, hw⟩ := hw
    obtain ⟨x10, h11, hx, hw⟩ := hw
    refine zT_call (pc' := 176) (rest := [.ref a0]) 1 (fun n => rfl) hq hx ?_
    show zT E (d + 1) m_m_line 176 [some (.ref a0), j1] [.int x10, .ref a0] h11 r
    obtain ⟨hq, hw⟩ := hw
    obtain ⟨h13, hx, hw⟩ := hw
    refine zT_call (pc' := 179) (rest := []) 1 (fun n => rfl) hq hx ?_
    show zT E (d + 1) m_m_line 179 [some (.ref a0), j1] [] h13 r
    subst hw
    exact zT_ret 1 rfl
set_option maxRecDepth 4000 in
theorem s_m_line_140 (E : zX) (d : Nat) (a0 : Nat) (j1 : Option Value) (s0 : Nat) (s1 : Int32) (s2 : Int32) (h : zH) (r : zO × zH)
    (hw : isO h s0 12 = true ∧ ∃ (x1 : Int32) (h2 : zH), zT E d m_m_begins 0 [some (.ref s0), some (.int s1), some (.int s2)] [] h (.inl (some (.int x1)), h2) ∧
    if x1 = 0 then (
      isO h2 a0 12 = true ∧ ∃ (x3 : Int32) (h4 : zH), zT E d m_m_isSign 0 [some (.ref a0), some (.int 59)] [] h2 (.inl (some (.int x3)), h4) ∧
      isO h4 a0 12 = true ∧ ∃ (h6 : zH), zT E d m_m_need 0 [some (.ref a0), some (.int x3)] [] h4 (.inl none, h6) ∧
      r = (.inl (none), h6))
    else (
      ∃ x7 : Int32, fld h2 a0 12 29 = some (.int x7) ∧
      (∃ w, fld h2 a0 12 28 = some w) ∧
      isO (setF h2 a0 28 (.int x7)) a0 12 = true ∧ ∃ (h9 : zH), zT E d m_m_expression 0 [some (.ref a0), some (.int 4), some (.int 8), none, none] [] (setF h2 a0 28 (.int x7)) (.inl none, h9) ∧
      isO h9 a0 12 = true ∧ ∃ (x10 : Int32) (h11 : zH), zT E d m_m_isSign 0 [some (.ref a0), some (.int 59)] [] h9 (.inl (some (.int x10)), h11) ∧
      isO h11 a0 12 = true ∧ ∃ (h13 : zH), zT E d m_m_need 0 [some (.ref a0), some (.int x10)] [] h11 (.inl none, h13) ∧
      r = (.inl (none), h13))) :
    zT E (d + 1) m_m_line 140 [some (.ref a0), j1] [.int s2, .int s1, .ref s0] h r := by
  obtain ⟨hq, hw⟩ := hw
  obtain ⟨x1, h2, hx, hw⟩ := hw
  refine zT_call (pc' := 143) (rest := []) 1 (fun n => rfl) hq hx ?_
  show zT E (d + 1) m_m_line 143 [some (.ref a0), j1] [.int x1] h2 r
  by_cases hc : x1 = 0
  · rw [if_pos hc] at hw
    refine zT_st (pc' := 169) (L' := [some (.ref a0), j1]) (st' := []) (h' := h2) 1 (fun n => if_pos hc) ?_
    refine zT_st (pc' := 173) (L' := [some (.ref a0), j1]) (st' := [.int 59, .ref a0, .ref a0]) (h' := h2) 3 (fun n => rfl) ?_
    obtain ⟨hq, hw⟩ := hw
    obtain ⟨x3, h4, hx, hw⟩ := hw
    refine zT_call (pc' := 176) (rest := [.ref a0]) 1 (fun n => rfl) hq hx ?_
    show zT E (d + 1) m_m_line 176 [some (.ref a0), j1] [.int x3, .ref a0] h4 r
    obtain ⟨hq, hw⟩ := hw
    obtain ⟨h6, hx, hw⟩ := hw
    refine zT_call (pc' := 179) (rest := []) 1 (fun n => rfl) hq hx ?_
    show zT E (d + 1) m_m_line 179 [some (.ref a0), j1] [] h6 r
    subst hw
    exact zT_ret 1 rfl
  · rw [if_neg hc] at hw
    refine zT_st (pc' := 146) (L' := [some (.ref a0), j1]) (st' := []) (h' := h2) 1 (fun n => if_neg hc) ?_
    refine zT_st (pc' := 148) (L' := [some (.ref a0), j1]) (st' := [.ref a0, .ref a0]) (h' := h2) 2 (fun n => rfl) ?_
    obtain ⟨x7, e, hw⟩ := hw
    refine zT_st (pc' := 151) (L' := [some (.ref a0), j1]) (st' := [.int x7, .ref a0]) (h' := h2) 1 (fun n => fld_eq (E := E) e _) ?_
    obtain ⟨⟨w, e⟩, hw⟩ := hw
    refine zT_st (pc' := 154) (L' := [some (.ref a0), j1]) (st' := []) (h' := (setF h2 a0 28 (.int x7))) 1 (fun n => put_eq e rfl _ _) ?_
    refine zT_st (pc' := 158) (L' := [some (.ref a0), j1]) (st' := [.int 8, .int 4, .ref a0]) (h' := (setF h2 a0 28 (.int x7))) 3 (fun n => rfl) ?_
    obtain ⟨hq, hw⟩ := hw
    obtain ⟨h9, hx, hw⟩ := hw
    refine zT_call (pc' := 161) (rest := []) 1 (fun n => rfl) hq hx ?_
    show zT E (d + 1) m_m_line 161 [some (.ref a0), j1] [] h9 r
    refine zT_st (pc' := 173) (L' := [some (.ref a0), j1]) (st' := [.int 59, .ref a0, .ref a0]) (h' := h9) 4 (fun n => rfl) ?_
    obtain ⟨hq, hw⟩ := hw
    obtain ⟨x10, h11, hx, hw⟩ := hw
    refine zT_call (pc' := 176) (rest := [.ref a0]) 1 (fun n => rfl) hq hx ?_
    show zT E (d + 1) m_m_line 176 [some (.ref a0), j1] [.int x10, .ref a0] h11 r
    obtain ⟨hq, hw⟩ := hw
    obtain ⟨h13, hx, hw⟩ := hw
    refine zT_call (pc' := 179) (rest := []) 1 (fun n => rfl) hq hx ?_
    show zT E (d + 1) m_m_line 179 [some (.ref a0), j1] [] h13 r
    subst hw
    exact zT_ret 1 rfl
set_option maxRecDepth 4000 in
theorem s_m_begins_0 (E : zX) (d : Nat) (a0 : Nat) (a1 : Int32) (a2 : Int32) (h : zH) (r : zO × zH)
    (hw : if a1 = 0 then (
      zT E (d + 1) m_m_begins 9 [some (.ref a0), some (.int a1), some (.int a2)] [] h r)
    else (
      isO h a0 12 = true ∧ ∃ (h2 : zH), zT E d m_m_wrong 0 [some (.ref a0), some (.int 2)] [] h (.inl none, h2) ∧
      zT E (d + 1) m_m_begins 9 [some (.ref a0), some (.int a1), some (.int a2)] [] h2 r)) :
    zT E (d + 1) m_m_begins 0 [some (.ref a0), some (.int a1), some (.int a2)] [] h r := by
  refine zT_st (pc' := 1) (L' := [some (.ref a0), some (.int a1), some (.int a2)]) (st' := [.int a1]) (h' := h) 1 (fun n => rfl) ?_
  by_cases hc : a1 = 0
  · rw [if_pos hc] at hw
    refine zT_st (pc' := 9) (L' := [some (.ref a0), some (.int a1), some (.int a2)]) (st' := []) (h' := h) 1 (fun n => if_pos hc) ?_
    exact hw
  · rw [if_neg hc] at hw
    refine zT_st (pc' := 4) (L' := [some (.ref a0), some (.int a1), some (.int a2)]) (st' := []) (h' := h) 1 (fun n => if_neg hc) ?_
    refine zT_st (pc' := 6) (L' := [some (.ref a0), some (.int a1), some (.int a2)]) (st' := [.int 2, .ref a0]) (h' := h) 2 (fun n => rfl) ?_
    obtain ⟨hq, hw⟩ := hw
    obtain ⟨h2, hx, hw⟩ := hw
    refine zT_call (pc' := 9) (rest := []) 1 (fun n => rfl) hq hx ?_
    show zT E (d + 1) m_m_begins 9 [some (.ref a0), some (.int a1), some (.int a2)] [] h2 r
    exact hw
set_option maxRecDepth 4000 in
theorem s_m_begins_9 (E : zX) (d : Nat) (a0 : Nat) (j1 : Option Value) (a2 : Int32) (h : zH) (r : zO × zH)
    (hw : if a2 = 0 then (
      isO h a0 12 = true ∧ ∃ (x1 : Int32) (h2 : zH), zT E d m_m_isGood 0 [some (.ref a0)] [] h (.inl (some (.int x1)), h2) ∧
      if x1 = 0 then (
        r = (.inl (some (.int 0)), h2))
      else (
        isO h2 a0 12 = true ∧ ∃ (h4 : zH), zT E d m_m_goes 0 [some (.ref a0), none] [] h2 (.inl none, h4) ∧
        r = (.inl (some (.int 1)), h4)))
    else (
      isO h a0 12 = true ∧ ∃ (h6 : zH), zT E d m_m_wrong 0 [some (.ref a0), some (.int 5)] [] h (.inl none, h6) ∧
      isO h6 a0 12 = true ∧ ∃ (x7 : Int32) (h8 : zH), zT E d m_m_isGood 0 [some (.ref a0)] [] h6 (.inl (some (.int x7)), h8) ∧
      if x7 = 0 then (
        r = (.inl (some (.int 0)), h8))
      else (
        isO h8 a0 12 = true ∧ ∃ (h10 : zH), zT E d m_m_goes 0 [some (.ref a0), none] [] h8 (.inl none, h10) ∧
        r = (.inl (some (.int 1)), h10)))) :
    zT E (d + 1) m_m_begins 9 [some (.ref a0), j1, some (.int a2)] [] h r := by
  refine zT_st (pc' := 10) (L' := [some (.ref a0), j1, some (.int a2)]) (st' := [.int a2]) (h' := h) 1 (fun n => rfl) ?_
  by_cases hc : a2 = 0
  · rw [if_pos hc] at hw
    refine zT_st (pc' := 18) (L' := [some (.ref a0), j1, some (.int a2)]) (st' := []) (h' := h) 1 (fun n => if_pos hc) ?_
    refine zT_st (pc' := 19) (L' := [some (.ref a0), j1, some (.int a2)]) (st' := [.ref a0]) (h' := h) 1 (fun n => rfl) ?_
    obtain ⟨hq, hw⟩ := hw
    obtain ⟨x1, h2, hx, hw⟩ := hw
    refine zT_call (pc' := 22) (rest := []) 1 (fun n => rfl) hq hx ?_
    show zT E (d + 1) m_m_begins 22 [some (.ref a0), j1, some (.int a2)] [.int x1] h2 r
    by_cases hc : x1 = 0
    · rw [if_pos hc] at hw
      refine zT_st (pc' := 25) (L' := [some (.ref a0), j1, some (.int a2)]) (st' := []) (h' := h2) 1 (fun n => if_pos hc) ?_
      subst hw
      exact zT_ret 2 rfl
    · rw [if_neg hc] at hw
      refine zT_st (pc' := 27) (L' := [some (.ref a0), j1, some (.int a2)]) (st' := []) (h' := h2) 1 (fun n => if_neg hc) ?_
      refine zT_st (pc' := 28) (L' := [some (.ref a0), j1, some (.int a2)]) (st' := [.ref a0]) (h' := h2) 1 (fun n => rfl) ?_
      obtain ⟨hq, hw⟩ := hw
      obtain ⟨h4, hx, hw⟩ := hw
      refine zT_call (pc' := 31) (rest := []) 1 (fun n => rfl) hq hx ?_
      show zT E (d + 1) m_m_begins 31 [some (.ref a0), j1, some (.int a2)] [] h4 r
      subst hw
      exact zT_ret 2 rfl
  · rw [if_neg hc] at hw
    refine zT_st (pc' := 13) (L' := [some (.ref a0), j1, some (.int a2)]) (st' := []) (h' := h) 1 (fun n => if_neg hc) ?_
    refine zT_st (pc' := 15) (L' := [some (.ref a0), j1, some (.int a2)]) (st' := [.int 5, .ref a0]) (h' := h) 2 (fun n => rfl) ?_
    obtain ⟨hq, hw⟩ := hw
    obtain ⟨h6, hx, hw⟩ := hw
    refine zT_call (pc' := 18) (rest := []) 1 (fun n => rfl) hq hx ?_
    show zT E (d + 1) m_m_begins 18 [some (.ref a0), j1, some (.int a2)] [] h6 r
    refine zT_st (pc' := 19) (L' := [some (.ref a0), j1, some (.int a2)]) (st' := [.ref a0]) (h' := h6) 1 (fun n => rfl) ?_
    obtain ⟨hq, hw⟩ := hw
    obtain ⟨x7, h8, hx, hw⟩ := hw
    refine zT_call (pc' := 22) (rest := []) 1 (fun n => rfl) hq hx ?_
    show zT E (d + 1) m_m_begins 22 [some (.ref a0), j1, some (.int a2)] [.int x7] h8 r
    by_cases hc : x7 = 0
    · rw [if_pos hc] at hw
      refine zT_st (pc' := 25) (L' := [some (.ref a0), j1, some (.int a2)]) (st' := []) (h' := h8) 1 (fun n => if_pos hc) ?_
      subst hw
      exact zT_ret 2 rfl
    · rw [if_neg hc] at hw
      refine zT_st (pc' := 27) (L' := [some (.ref a0), j1, some (.int a2)]) (st' := []) (h' := h8) 1 (fun n => if_neg hc) ?_
      refine zT_st (pc' := 28) (L' := [some (.ref a0), j1, some (.int a2)]) (st' := [.ref a0]) (h' := h8) 1 (fun n => rfl) ?_
      obtain ⟨hq, hw⟩ := hw
      obtain ⟨h10, hx, hw⟩ := hw
      refine zT_call (pc' := 31) (rest := []) 1 (fun n => rfl) hq hx ?_
      show zT E (d + 1) m_m_begins 31 [some (.ref a0), j1, some (.int a2)] [] h10 r
      subst hw
      exact zT_ret 2 rfl
set_option maxRecDepth 4000 in
theorem s_m_cellHere_0 (E : zX) (d : Nat) (a0 : Nat) (h : zH) (r : zO × zH)
    (hw : isO h a0 12 = true ∧ ∃ (x1 : Int32) (h2 : zH), zT E d m_m_isGood 0 [some (.ref a0)] [] h (.inl (some (.int x1)), h2) ∧
    if x1 = 0 then (
      r = (.inl (some (.int 0)), h2))
    else (
      ∃ x3 : Int32, fld h2 a0 12 17 = some (.int x3) ∧
      if x3 = 2 then (
        ∃ x4 : Int32, fld h2 a0 12 19 = some (.int x4) ∧
        if x4 ≤ 4 then (
          ∃ x5 : Int32, fld h2 a0 12 20 = some (.int x5) ∧
          ∃ x6 : Int32, fld h2 a0 12 23 = some (.int x6) ∧
          ∃ x7 : Int32, fld h2 a0 12 24 = some (.int x7) ∧
          if x5 < (x6 * x7) then (
            zT E (d + 1) m_m_cellHere 62 [some (.ref a0), none] [] h2 r)
          else (
            isO h2 a0 12 = true ∧ ∃ (h9 : zH), zT E d m_m_wrong 0 [some (.ref a0), some (.int 3)] [] h2 (.inl none, h9) ∧
            zT E (d + 1) m_m_cellHere 62 [some (.ref a0), none] [] h9 r))
        else (
          isO h2 a0 12 = true ∧ ∃ (h11 : zH), zT E d m_m_wrong 0 [some (.ref a0), some (.int 2)] [] h2 (.inl none, h11) ∧
          zT E (d + 1) m_m_cellHere 62 [some (.ref a0), none] [] h11 r))
      else (
        isO h2 a0 12 = true ∧ ∃ (h13 : zH), zT E d m_m_wrong 0 [some (.ref a0), some (.int 1)] [] h2 (.inl none, h13) ∧
        zT E (d + 1) m_m_cellHere 62 [some (.ref a0), none] [] h13 r))) :
    zT E (d + 1) m_m_cellHere 0 [some (.ref a0), none] [] h r := by
  refine zT_st (pc' := 1) (L' := [some (.ref a0), none]) (st' := [.ref a0]) (h' := h) 1 (fun n => rfl) ?_
  obtain ⟨hq, hw⟩ := hw
  obtain ⟨x1, h2, hx, hw⟩ := hw
  refine zT_call (pc' := 4) (rest := []) 1 (fun n => rfl) hq hx ?_
  show zT E (d + 1) m_m_cellHere 4 [some (.ref a0), none] [.int x1] h2 r
  by_cases hc : x1 = 0
  · rw [if_pos hc] at hw
    refine zT_st (pc' := 7) (L' := [some (.ref a0), none]) (st' := []) (h' := h2) 1 (fun n => if_pos hc) ?_
    subst hw
    exact zT_ret 2 rfl
  · rw [if_neg hc] at hw
    refine zT_st (pc' := 9) (L' := [some (.ref a0), none]) (st' := []) (h' := h2) 1 (fun n => if_neg hc) ?_
    refine zT_st (pc' := 10) (L' := [some (.ref a0), none]) (st' := [.ref a0]) (h' := h2) 1 (fun n => rfl) ?_
    obtain ⟨x3, e, hw⟩ := hw
    refine zT_st (pc' := 13) (L' := [some (.ref a0), none]) (st' := [.int x3]) (h' := h2) 1 (fun n => fld_eq (E := E) e _) ?_
    refine zT_st (pc' := 14) (L' := [some (.ref a0), none]) (st' := [.int 2, .int x3]) (h' := h2) 1 (fun n => rfl) ?_
    by_cases hc : x3 = 2
    · rw [if_pos hc] at hw
      refine zT_st (pc' := 25) (L' := [some (.ref a0), none]) (st' := []) (h' := h2) 1 (fun n => if_pos hc) ?_
      refine zT_st (pc' := 26) (L' := [some (.ref a0), none]) (st' := [.ref a0]) (h' := h2) 1 (fun n => rfl) ?_
      obtain ⟨x4, e, hw⟩ := hw
      refine zT_st (pc' := 29) (L' := [some (.ref a0), none]) (st' := [.int x4]) (h' := h2) 1 (fun n => fld_eq (E := E) e _) ?_
      refine zT_st (pc' := 30) (L' := [some (.ref a0), none]) (st' := [.int 4, .int x4]) (h' := h2) 1 (fun n => rfl) ?_
      by_cases hc : x4 ≤ 4
      · rw [if_pos hc] at hw
        refine zT_st (pc' := 41) (L' := [some (.ref a0), none]) (st' := []) (h' := h2) 1 (fun n => if_pos hc) ?_
        refine zT_st (pc' := 42) (L' := [some (.ref a0), none]) (st' := [.ref a0]) (h' := h2) 1 (fun n => rfl) ?_
        obtain ⟨x5, e, hw⟩ := hw
        refine zT_st (pc' := 45) (L' := [some (.ref a0), none]) (st' := [.int x5]) (h' := h2) 1 (fun n => fld_eq (E := E) e _) ?_
        refine zT_st (pc' := 46) (L' := [some (.ref a0), none]) (st' := [.ref a0, .int x5]) (h' := h2) 1 (fun n => rfl) ?_
        obtain ⟨x6, e, hw⟩ := hw
        refine zT_st (pc' := 49) (L' := [some (.ref a0), none]) (st' := [.int x6, .int x5]) (h' := h2) 1 (fun n => fld_eq (E := E) e _) ?_
        refine zT_st (pc' := 50) (L' := [some (.ref a0), none]) (st' := [.ref a0, .int x6, .int x5]) (h' := h2) 1 (fun n => rfl) ?_
        obtain ⟨x7, e, hw⟩ := hw
        refine zT_st (pc' := 53) (L' := [some (.ref a0), none]) (st' := [.int x7, .int x6, .int x5]) (h' := h2) 1 (fun n => fld_eq (E := E) e _) ?_
        refine zT_st (pc' := 54) (L' := [some (.ref a0), none]) (st' := [.int (x6 * x7), .int x5]) (h' := h2) 1 (fun n => rfl) ?_
        by_cases hc : x5 < (x6 * x7)
        · rw [if_pos hc] at hw
          refine zT_st (pc' := 62) (L' := [some (.ref a0), none]) (st' := []) (h' := h2) 1 (fun n => if_pos hc) ?_
          exact hw
        · rw [if_neg hc] at hw
          refine zT_st (pc' := 57) (L' := [some (.ref a0), none]) (st' := []) (h' := h2) 1 (fun n => if_neg hc) ?_
          refine zT_st (pc' := 59) (L' := [some (.ref a0), none]) (st' := [.int 3, .ref a0]) (h' := h2) 2 (fun n => rfl) ?_
          obtain ⟨hq, hw⟩ := hw
          obtain ⟨h9, hx, hw⟩ := hw
          refine zT_call (pc' := 62) (rest := []) 1 (fun n => rfl) hq hx ?_
          show zT E (d + 1) m_m_cellHere 62 [some (.ref a0), none] [] h9 r
          exact hw
      · rw [if_neg hc] at hw
        refine zT_st (pc' := 33) (L' := [some (.ref a0), none]) (st' := []) (h' := h2) 1 (fun n => if_neg hc) ?_
        refine zT_st (pc' := 35) (L' := [some (.ref a0), none]) (st' := [.int 2, .ref a0]) (h' := h2) 2 (fun n => rfl) ?_
        obtain ⟨hq, hw⟩ := hw
        obtain ⟨h11, hx, hw⟩ := hw
        refine zT_call (pc' := 38) (rest := []) 1 (fun n => rfl) hq hx ?_
        show zT E (d + 1) m_m_cellHere 38 [some (.ref a0), none] [] h11 r
        exact zT_st 1 (fun n => rfl) hw
    · rw [if_neg hc] at hw
      refine zT_st (pc' := 17) (L' := [some (.ref a0), none]) (st' := []) (h' := h2) 1 (fun n => if_neg hc) ?_
      refine zT_st (pc' := 19) (L' := [some (.ref a0), none]) (st' := [.int 1, .ref a0]) (h' := h2) 2 (fun n => rfl) ?_
      obtain ⟨hq, hw⟩ := hw
      obtain ⟨h13, hx, hw⟩ := hw
      refine zT_call (pc' := 22) (rest := []) 1 (fun n => rfl) hq hx ?_
      show zT E (d + 1) m_m_cellHere 22 [some (.ref a0), none] [] h13 r
      exact zT_st 1 (fun n => rfl) hw
set_option maxRecDepth 4000 in
theorem s_m_cellHere_62 (E : zX) (d : Nat) (a0 : Nat) (j1 : Option Value) (h : zH) (r : zO × zH)
    (hw : ∃ x1 : Int32, fld h a0 12 20 = some (.int x1) ∧
    isO h a0 12 = true ∧ ∃ (x2 : Int32) (h3 : zH), zT E d m_m_isGood 0 [some (.ref a0)] [] h (.inl (some (.int x2)), h3) ∧
    if x2 = 0 then (
      r = (.inl (some (.int x1)), h3))
    else (
      isO h3 a0 12 = true ∧ ∃ (h5 : zH), zT E d m_m_goes 0 [some (.ref a0), none] [] h3 (.inl none, h5) ∧
      r = (.inl (some (.int x1)), h5))) :
    zT E (d + 1) m_m_cellHere 62 [some (.ref a0), j1] [] h r := by
  refine zT_st (pc' := 63) (L' := [some (.ref a0), j1]) (st' := [.ref a0]) (h' := h) 1 (fun n => rfl) ?_
  obtain ⟨x1, e, hw⟩ := hw
  refine zT_st (pc' := 66) (L' := [some (.ref a0), j1]) (st' := [.int x1]) (h' := h) 1 (fun n => fld_eq (E := E) e _) ?_
  refine zT_st (pc' := 68) (L' := [some (.ref a0), some (.int x1)]) (st' := [.ref a0]) (h' := h) 2 (fun n => rfl) ?_
  obtain ⟨hq, hw⟩ := hw
  obtain ⟨x2, h3, hx, hw⟩ := hw
  refine zT_call (pc' := 71) (rest := []) 1 (fun n => rfl) hq hx ?_
  show zT E (d + 1) m_m_cellHere 71 [some (.ref a0), some (.int x1)] [.int x2] h3 r
  by_cases hc : x2 = 0
  · rw [if_pos hc] at hw
    refine zT_st (pc' := 78) (L' := [some (.ref a0), some (.int x1)]) (st' := []) (h' := h3) 1 (fun n => if_pos hc) ?_
    subst hw
    exact zT_ret 2 rfl
  · rw [if_neg hc] at hw
    refine zT_st (pc' := 74) (L' := [some (.ref a0), some (.int x1)]) (st' := []) (h' := h3) 1 (fun n => if_neg hc) ?_
    refine zT_st (pc' := 75) (L' := [some (.ref a0), some (.int x1)]) (st' := [.ref a0]) (h' := h3) 1 (fun n => rfl) ?_
    obtain ⟨hq, hw⟩ := hw
    obtain ⟨h5, hx, hw⟩ := hw
    refine zT_call (pc' := 78) (rest := []) 1 (fun n => rfl) hq hx ?_
    show zT E (d + 1) m_m_cellHere 78 [some (.ref a0), some (.int x1)] [] h5 r
    subst hw
    exact zT_ret 2 rfl
set_option maxRecDepth 4000 in
theorem s_m_expression_0 (E : zX) (d : Nat) (a0 : Nat) (a1 : Int32) (a2 : Int32) (h : zH) (r : zO × zH)
    (hw : isO h a0 12 = true ∧ ∃ (x1 : Int32) (h2 : zH), zT E d m_m_isGood 0 [some (.ref a0)] [] h (.inl (some (.int x1)), h2) ∧
    if x1 = 0 then (
      r = (.inl (none), h2))
    else (
      (∃ w, fld h2 a0 12 30 = some w) ∧
      (∃ w, fld (setF h2 a0 30 (.int a1)) a0 12 31 = some w) ∧
      (∃ w, fld (setF (setF h2 a0 30 (.int a1)) a0 31 (.int a2)) a0 12 32 = some w) ∧
      (∃ w, fld (setF (setF (setF h2 a0 30 (.int a1)) a0 31 (.int a2)) a0 32 (.int 0)) a0 12 33 = some w) ∧
      isO (setF (setF (setF (setF h2 a0 30 (.int a1)) a0 31 (.int a2)) a0 32 (.int 0)) a0 33 (.int 0)) a0 12 = true ∧ ∃ (h4 : zH), zT E d m_m_deeper 0 [some (.ref a0)] [] (setF (setF (setF (setF h2 a0 30 (.int a1)) a0 31 (.int a2)) a0 32 (.int 0)) a0 33 (.int 0)) (.inl none, h4) ∧
      isO h4 a0 12 = true ∧ ∃ (h6 : zH), zT E d m_m_operand 0 [some (.ref a0), some (.int 1), none, none, none] [] h4 (.inl none, h6) ∧
      zT E (d + 1) m_m_expression 39 [some (.ref a0), some (.int a1), some (.int a2), some (.int 1), none] [] h6 r)) :
    zT E (d + 1) m_m_expression 0 [some (.ref a0), some (.int a1), some (.int a2), none, none] [] h r := by
  refine zT_st (pc' := 1) (L' := [some (.ref a0), some (.int a1), some (.int a2), none, none]) (st' := [.ref a0]) (h' := h) 1 (fun n => rfl) ?_
  obtain ⟨hq, hw⟩ := hw
  obtain ⟨x1, h2, hx, hw⟩ := hw
  refine zT_call (pc' := 4) (rest := []) 1 (fun n => rfl) hq hx ?_
  show zT E (d + 1) m_m_expression 4 [some (.ref a0), some (.int a1), some (.int a2), none, none] [.int x1] h2 r
  by_cases hc : x1 = 0
  · rw [if_pos hc] at hw
    refine zT_st (pc' := 7) (L' := [some (.ref a0), some (.int a1), some (.int a2), none, none]) (st' := []) (h' := h2) 1 (fun n => if_pos hc) ?_
    subst hw
    exact zT_ret 1 rfl
  · rw [if_neg hc] at hw
    refine zT_st (pc' := 8) (L' := [some (.ref a0), some (.int a1), some (.int a2), none, none]) (st' := []) (h' := h2) 1 (fun n => if_neg hc) ?_
    refine zT_st (pc' := 10) (L' := [some (.ref a0), some (.int a1), some (.int a2), none, none]) (st' := [.int a1, .ref a0]) (h' := h2) 2 (fun n => rfl) ?_
    obtain ⟨⟨w, e⟩, hw⟩ := hw
    refine zT_st (pc' := 13) (L' := [some (.ref a0), some (.int a1), some (.int a2), none, none]) (st' := []) (h' := (setF h2 a0 30 (.int a1))) 1 (fun n => put_eq e rfl _ _) ?_
    refine zT_st (pc' := 15) (L' := [some (.ref a0), some (.int a1), some (.int a2), none, none]) (st' := [.int a2, .ref a0]) (h' := (setF h2 a0 30 (.int a1))) 2 (fun n => rfl) ?_
    obtain ⟨⟨w, e⟩, hw⟩ := hw
    refine zT_st (pc' := 18) (L' := [some (.ref a0), some (.int a1), some (.int a2), none, none]) (st' := []) (h' := (setF (setF h2 a0 30 (.int a1)) a0 31 (.int a2))) 1 (fun n => put_eq e rfl _ _) ?_
    refine zT_st (pc' := 20) (L' := [some (.ref a0), some (.int a1), some (.int a2), none, none]) (st' := [.int 0, .ref a0]) (h' := (setF (setF h2 a0 30 (.int a1)) a0 31 (.int a2))) 2 (fun n => rfl) ?_
    obtain ⟨⟨w, e⟩, hw⟩ := hw
    refine zT_st (pc' := 23) (L' := [some (.ref a0), some (.int a1), some (.int a2), none, none]) (st' := []) (h' := (setF (setF (setF h2 a0 30 (.int a1)) a0 31 (.int a2)) a0 32 (.int 0))) 1 (fun n => put_eq e rfl _ _) ?_
    refine zT_st (pc' := 25) (L' := [some (.ref a0), some (.int a1), some (.int a2), none, none]) (st' := [.int 0, .ref a0]) (h' := (setF (setF (setF h2 a0 30 (.int a1)) a0 31 (.int a2)) a0 32 (.int 0))) 2 (fun n => rfl) ?_
    obtain ⟨⟨w, e⟩, hw⟩ := hw
    refine zT_st (pc' := 28) (L' := [some (.ref a0), some (.int a1), some (.int a2), none, none]) (st' := []) (h' := (setF (setF (setF (setF h2 a0 30 (.int a1)) a0 31 (.int a2)) a0 32 (.int 0)) a0 33 (.int 0))) 1 (fun n => put_eq e rfl _ _) ?_
    refine zT_st (pc' := 29) (L' := [some (.ref a0), some (.int a1), some (.int a2), none, none]) (st' := [.ref a0]) (h' := (setF (setF (setF (setF h2 a0 30 (.int a1)) a0 31 (.int a2)) a0 32 (.int 0)) a0 33 (.int 0))) 1 (fun n => rfl) ?_
    obtain ⟨hq, hw⟩ := hw
    obtain ⟨h4, hx, hw⟩ := hw
    refine zT_call (pc' := 32) (rest := []) 1 (fun n => rfl) hq hx ?_
    show zT E (d + 1) m_m_expression 32 [some (.ref a0), some (.int a1), some (.int a2), none, none] [] h4 r
    refine zT_st (pc' := 34) (L' := [some (.ref a0), some (.int a1), some (.int a2), none, none]) (st' := [.int 1, .ref a0]) (h' := h4) 2 (fun n => rfl) ?_
    obtain ⟨hq, hw⟩ := hw
    obtain ⟨h6, hx, hw⟩ := hw
    refine zT_call (pc' := 37) (rest := []) 1 (fun n => rfl) hq hx ?_
    show zT E (d + 1) m_m_expression 37 [some (.ref a0), some (.int a1), some (.int a2), none, none] [] h6 r
    exact zT_st 2 (fun n => rfl) hw
set_option maxRecDepth 4000 in
theorem s_m_expression_39 (E : zX) (d : Nat) (a0 : Nat) (j1 : Option Value) (j2 : Option Value) (a3 : Int32) (j4 : Option Value) (h : zH) (r : zO × zH)
    (hw : if a3 = 0 then (
      zT E (d + 1) m_m_expression 340 [some (.ref a0), j1, j2, some (.int a3), j4] [] h r)
    else (
      isO h a0 12 = true ∧ ∃ (x1 : Int32) (h2 : zH), zT E d m_m_isGood 0 [some (.ref a0)] [] h (.inl (some (.int x1)), h2) ∧
      if x1 = 0 then (
        zT E (d + 1) m_m_expression 340 [some (.ref a0), j1, j2, some (.int a3), j4] [] h2 r)
      else (
        isO h2 a0 12 = true ∧ ∃ (x3 : Int32) (h4 : zH), zT E d m_m_knownWord 0 [some (.ref a0), none] [] h2 (.inl (some (.int x3)), h4) ∧
        if x3 = 14 then (
          zT E (d + 1) m_m_expression 70 [some (.ref a0), j1, j2, some (.int a3), some (.int x3)] [] h4 r)
        else (
          if x3 = 15 then (
            zT E (d + 1) m_m_expression 70 [some (.ref a0), j1, j2, some (.int a3), some (.int x3)] [] h4 r)
          else (
            isO h4 a0 12 = true ∧ ∃ (x5 : Int32) (h6 : zH), zT E d m_m_isSign 0 [some (.ref a0), some (.int 60)] [] h4 (.inl (some (.int x5)), h6) ∧
            if x5 = 0 then (
              isO h6 a0 12 = true ∧ ∃ (x7 : Int32) (h8 : zH), zT E d m_m_isSign 0 [some (.ref a0), some (.int 61)] [] h6 (.inl (some (.int x7)), h8) ∧
              if x7 = 0 then (
                zT E (d + 1) m_m_expression 201 [some (.ref a0), j1, j2, some (.int a3), some (.int x3)] [] h8 r)
              else (
                zT E (d + 1) m_m_expression 142 [some (.ref a0), j1, j2, some (.int a3), some (.int x3)] [] h8 r))
            else (
              zT E (d + 1) m_m_expression 142 [some (.ref a0), j1, j2, some (.int a3), some (.int x3)] [] h6 r)))))) :
    zT E (d + 1) m_m_expression 39 [some (.ref a0), j1, j2, some (.int a3), j4] [] h r := by
  refine zT_st (pc' := 40) (L' := [some (.ref a0), j1, j2, some (.int a3), j4]) (st' := [.int a3]) (h' := h) 1 (fun n => rfl) ?_
  by_cases hc : a3 = 0
  · rw [if_pos hc] at hw
    refine zT_st (pc' := 340) (L' := [some (.ref a0), j1, j2, some (.int a3), j4]) (st' := []) (h' := h) 1 (fun n => if_pos hc) ?_
    exact hw
  · rw [if_neg hc] at hw
    refine zT_st (pc' := 43) (L' := [some (.ref a0), j1, j2, some (.int a3), j4]) (st' := []) (h' := h) 1 (fun n => if_neg hc) ?_
    refine zT_st (pc' := 44) (L' := [some (.ref a0), j1, j2, some (.int a3), j4]) (st' := [.ref a0]) (h' := h) 1 (fun n => rfl) ?_
    obtain ⟨hq, hw⟩ := hw
    obtain ⟨x1, h2, hx, hw⟩ := hw
    refine zT_call (pc' := 47) (rest := []) 1 (fun n => rfl) hq hx ?_
    show zT E (d + 1) m_m_expression 47 [some (.ref a0), j1, j2, some (.int a3), j4] [.int x1] h2 r
    by_cases hc : x1 = 0
    · rw [if_pos hc] at hw
      refine zT_st (pc' := 340) (L' := [some (.ref a0), j1, j2, some (.int a3), j4]) (st' := []) (h' := h2) 1 (fun n => if_pos hc) ?_
      exact hw
    · rw [if_neg hc] at hw
      refine zT_st (pc' := 50) (L' := [some (.ref a0), j1, j2, some (.int a3), j4]) (st' := []) (h' := h2) 1 (fun n => if_neg hc) ?_
      refine zT_st (pc' := 51) (L' := [some (.ref a0), j1, j2, some (.int a3), j4]) (st' := [.ref a0]) (h' := h2) 1 (fun n => rfl) ?_
      obtain ⟨hq, hw⟩ := hw
      obtain ⟨x3, h4, hx, hw⟩ := hw
      refine zT_call (pc' := 54) (rest := []) 1 (fun n => rfl) hq hx ?_
      show zT E (d + 1) m_m_expression 54 [some (.ref a0), j1, j2, some (.int a3), j4] [.int x3] h4 r
      refine zT_st (pc' := 60) (L' := [some (.ref a0), j1, j2, some (.int a3), some (.int x3)]) (st' := [.int 14, .int x3]) (h' := h4) 3 (fun n => rfl) ?_
      by_cases hc : x3 = 14
      · rw [if_pos hc] at hw
        refine zT_st (pc' := 70) (L' := [some (.ref a0), j1, j2, some (.int a3), some (.int x3)]) (st' := []) (h' := h4) 1 (fun n => if_pos hc) ?_
        exact hw
      · rw [if_neg hc] at hw
        refine zT_st (pc' := 63) (L' := [some (.ref a0), j1, j2, some (.int a3), some (.int x3)]) (st' := []) (h' := h4) 1 (fun n => if_neg hc) ?_
        refine zT_st (pc' := 67) (L' := [some (.ref a0), j1, j2, some (.int a3), some (.int x3)]) (st' := [.int 15, .int x3]) (h' := h4) 2 (fun n => rfl) ?_
        by_cases hc : x3 = 15
        · rw [if_pos hc] at hw
          refine zT_st (pc' := 70) (L' := [some (.ref a0), j1, j2, some (.int a3), some (.int x3)]) (st' := []) (h' := h4) 1 (fun n => if_pos hc) ?_
          exact hw
        · rw [if_neg hc] at hw
          refine zT_st (pc' := 124) (L' := [some (.ref a0), j1, j2, some (.int a3), some (.int x3)]) (st' := []) (h' := h4) 1 (fun n => if_neg hc) ?_
          refine zT_st (pc' := 127) (L' := [some (.ref a0), j1, j2, some (.int a3), some (.int x3)]) (st' := [.int 60, .ref a0]) (h' := h4) 2 (fun n => rfl) ?_
          obtain ⟨hq, hw⟩ := hw
          obtain ⟨x5, h6, hx, hw⟩ := hw
          refine zT_call (pc' := 130) (rest := []) 1 (fun n => rfl) hq hx ?_
          show zT E (d + 1) m_m_expression 130 [some (.ref a0), j1, j2, some (.int a3), some (.int x3)] [.int x5] h6 r
          by_cases hc : x5 = 0
          · rw [if_pos hc] at hw
            refine zT_st (pc' := 133) (L' := [some (.ref a0), j1, j2, some (.int a3), some (.int x3)]) (st' := []) (h' := h6) 1 (fun n => if_pos hc) ?_
            refine zT_st (pc' := 136) (L' := [some (.ref a0), j1, j2, some (.int a3), some (.int x3)]) (st' := [.int 61, .ref a0]) (h' := h6) 2 (fun n => rfl) ?_
            obtain ⟨hq, hw⟩ := hw
            obtain ⟨x7, h8, hx, hw⟩ := hw
            refine zT_call (pc' := 139) (rest := []) 1 (fun n => rfl) hq hx ?_
            show zT E (d + 1) m_m_expression 139 [some (.ref a0), j1, j2, some (.int a3), some (.int x3)] [.int x7] h8 r
            by_cases hc : x7 = 0
            · rw [if_pos hc] at hw
              refine zT_st (pc' := 201) (L' := [some (.ref a0), j1, j2, some (.int a3), some (.int x3)]) (st' := []) (h' := h8) 1 (fun n => if_pos hc) ?_
              exact hw
            · rw [if_neg hc] at hw
              refine zT_st (pc' := 142) (L' := [some (.ref a0), j1, j2, some (.int a3), some (.int x3)]) (st' := []) (h' := h8) 1 (fun n => if_neg hc) ?_
              exact hw
          · rw [if_neg hc] at hw
            refine zT_st (pc' := 142) (L' := [some (.ref a0), j1, j2, some (.int a3), some (.int x3)]) (st' := []) (h' := h6) 1 (fun n => if_neg hc) ?_
            exact hw
set_option maxRecDepth 4000 in
theorem s_m_expression_70 (E : zX) (d : Nat) (a0 : Nat) (j1 : Option Value) (j2 : Option Value) (a3 : Int32) (a4 : Int32) (h : zH) (r : zO × zH)
    (hw : if a4 = 14 then (
      isO h a0 12 = true ∧ ∃ (h2 : zH), zT E d m_m_drops 0 [some (.ref a0), some (.int 2)] [] h (.inl none, h2) ∧
      if a4 = 14 then (
        zT E (d + 1) m_m_expression 99 [some (.ref a0), j1, j2, some (.int a3), some (.int a4)] [.int 4, .ref a0] h2 r)
      else (
        zT E (d + 1) m_m_expression 99 [some (.ref a0), j1, j2, some (.int a3), some (.int a4)] [.int 5, .ref a0] h2 r))
    else (
      isO h a0 12 = true ∧ ∃ (h4 : zH), zT E d m_m_drops 0 [some (.ref a0), some (.int 1)] [] h (.inl none, h4) ∧
      if a4 = 14 then (
        zT E (d + 1) m_m_expression 99 [some (.ref a0), j1, j2, some (.int a3), some (.int a4)] [.int 4, .ref a0] h4 r)
      else (
        zT E (d + 1) m_m_expression 99 [some (.ref a0), j1, j2, some (.int a3), some (.int a4)] [.int 5, .ref a0] h4 r))) :
    zT E (d + 1) m_m_expression 70 [some (.ref a0), j1, j2, some (.int a3), some (.int a4)] [] h r := by
  refine zT_st (pc' := 75) (L' := [some (.ref a0), j1, j2, some (.int a3), some (.int a4)]) (st' := [.int 14, .int a4, .ref a0]) (h' := h) 3 (fun n => rfl) ?_
  by_cases hc : a4 = 14
  · rw [if_pos hc] at hw
    refine zT_st (pc' := 78) (L' := [some (.ref a0), j1, j2, some (.int a3), some (.int a4)]) (st' := [.ref a0]) (h' := h) 1 (fun n => if_pos hc) ?_
    refine zT_st (pc' := 83) (L' := [some (.ref a0), j1, j2, some (.int a3), some (.int a4)]) (st' := [.int 2, .ref a0]) (h' := h) 2 (fun n => rfl) ?_
    obtain ⟨hq, hw⟩ := hw
    obtain ⟨h2, hx, hw⟩ := hw
    refine zT_call (pc' := 86) (rest := []) 1 (fun n => rfl) hq hx ?_
    show zT E (d + 1) m_m_expression 86 [some (.ref a0), j1, j2, some (.int a3), some (.int a4)] [] h2 r
    refine zT_st (pc' := 91) (L' := [some (.ref a0), j1, j2, some (.int a3), some (.int a4)]) (st' := [.int 14, .int a4, .ref a0]) (h' := h2) 3 (fun n => rfl) ?_
    by_cases hc : a4 = 14
    · rw [if_pos hc] at hw
      refine zT_st (pc' := 94) (L' := [some (.ref a0), j1, j2, some (.int a3), some (.int a4)]) (st' := [.ref a0]) (h' := h2) 1 (fun n => if_pos hc) ?_
      exact zT_st 2 (fun n => rfl) hw
    · rw [if_neg hc] at hw
      refine zT_st (pc' := 98) (L' := [some (.ref a0), j1, j2, some (.int a3), some (.int a4)]) (st' := [.ref a0]) (h' := h2) 1 (fun n => if_neg hc) ?_
      exact zT_st 1 (fun n => rfl) hw
  · rw [if_neg hc] at hw
    refine zT_st (pc' := 82) (L' := [some (.ref a0), j1, j2, some (.int a3), some (.int a4)]) (st' := [.ref a0]) (h' := h) 1 (fun n => if_neg hc) ?_
    refine zT_st (pc' := 83) (L' := [some (.ref a0), j1, j2, some (.int a3), some (.int a4)]) (st' := [.int 1, .ref a0]) (h' := h) 1 (fun n => rfl) ?_
    obtain ⟨hq, hw⟩ := hw
    obtain ⟨h4, hx, hw⟩ := hw
    refine zT_call (pc' := 86) (rest := []) 1 (fun n => rfl) hq hx ?_
    show zT E (d + 1) m_m_expression 86 [some (.ref a0), j1, j2, some (.int a3), some (.int a4)] [] h4 r
    refine zT_st (pc' := 91) (L' := [some (.ref a0), j1, j2, some (.int a3), some (.int a4)]) (st' := [.int 14, .int a4, .ref a0]) (h' := h4) 3 (fun n => rfl) ?_
    by_cases hc : a4 = 14
    · rw [if_pos hc] at hw
      refine zT_st (pc' := 94) (L' := [some (.ref a0), j1, j2, some (.int a3), some (.int a4)]) (st' := [.ref a0]) (h' := h4) 1 (fun n => if_pos hc) ?_
      exact zT_st 2 (fun n => rfl) hw
    · rw [if_neg hc] at hw
      refine zT_st (pc' := 98) (L' := [some (.ref a0), j1, j2, some (.int a3), some (.int a4)]) (st' := [.ref a0]) (h' := h4) 1 (fun n => if_neg hc) ?_
      exact zT_st 1 (fun n => rfl) hw
set_option maxRecDepth 4000 in
theorem s_m_expression_99 (E : zX) (d : Nat) (a0 : Nat) (j1 : Option Value) (j2 : Option Value) (a3 : Int32) (j4 : Option Value) (s0 : Nat) (s1 : Int32) (h : zH) (r : zO × zH)
    (hw : isO h s0 12 = true ∧ ∃ (h2 : zH), zT E d m_m_waitsFor 0 [some (.ref s0), some (.int s1)] [] h (.inl none, h2) ∧
    ∃ o3 : Nat, fld h2 a0 12 39 = some (.ref o3) ∧
    ∃ x4 : Int32, fld h2 a0 12 33 = some (.int x4) ∧
    ∃ (n5 : Nat) (f6 : Nat → Int32), arZ h2 o3 = some (n5, f6) ∧ ¬ (x4 < 0 ∨ n5 ≤ (x4).toNatClampNeg) ∧ ((0 : Int32) == 0 || (0 : Int32) == 1) = true ∧
    isO (setZ h2 o3 n5 (upd f6 (x4).toNatClampNeg 0)) a0 12 = true ∧ ∃ (h8 : zH), zT E d m_m_goes 0 [some (.ref a0), none] [] (setZ h2 o3 n5 (upd f6 (x4).toNatClampNeg 0)) (.inl none, h8) ∧
    isO h8 a0 12 = true ∧ ∃ (h10 : zH), zT E d m_m_operand 0 [some (.ref a0), some (.int 1), none, none, none] [] h8 (.inl none, h10) ∧
    zT E (d + 1) m_m_expression 39 [some (.ref a0), j1, j2, some (.int a3), j4] [] h10 r) :
    zT E (d + 1) m_m_expression 99 [some (.ref a0), j1, j2, some (.int a3), j4] [.int s1, .ref s0] h r := by
  obtain ⟨hq, hw⟩ := hw
  obtain ⟨h2, hx, hw⟩ := hw
  refine zT_call (pc' := 102) (rest := []) 1 (fun n => rfl) hq hx ?_
  show zT E (d + 1) m_m_expression 102 [some (.ref a0), j1, j2, some (.int a3), j4] [] h2 r
  refine zT_st (pc' := 103) (L' := [some (.ref a0), j1, j2, some (.int a3), j4]) (st' := [.ref a0]) (h' := h2) 1 (fun n => rfl) ?_
  obtain ⟨o3, e, hw⟩ := hw
  refine zT_st (pc' := 106) (L' := [some (.ref a0), j1, j2, some (.int a3), j4]) (st' := [.ref o3]) (h' := h2) 1 (fun n => fld_eq (E := E) e _) ?_
  refine zT_st (pc' := 107) (L' := [some (.ref a0), j1, j2, some (.int a3), j4]) (st' := [.ref a0, .ref o3]) (h' := h2) 1 (fun n => rfl) ?_
  obtain ⟨x4, e, hw⟩ := hw
  refine zT_st (pc' := 110) (L' := [some (.ref a0), j1, j2, some (.int a3), j4]) (st' := [.int x4, .ref o3]) (h' := h2) 1 (fun n => fld_eq (E := E) e _) ?_
  refine zT_st (pc' := 111) (L' := [some (.ref a0), j1, j2, some (.int a3), j4]) (st' := [.int 0, .int x4, .ref o3]) (h' := h2) 1 (fun n => rfl) ?_
  obtain ⟨n5, f6, e, hi, hz, hw⟩ := hw
  refine zT_st (pc' := 112) (L' := [some (.ref a0), j1, j2, some (.int a3), j4]) (st' := []) (h' := (setZ h2 o3 n5 (upd f6 (x4).toNatClampNeg 0))) 1 (fun n => seZ_eq e hi hz _ _) ?_
  refine zT_st (pc' := 113) (L' := [some (.ref a0), j1, j2, some (.int a3), j4]) (st' := [.ref a0]) (h' := (setZ h2 o3 n5 (upd f6 (x4).toNatClampNeg 0))) 1 (fun n => rfl) ?_
  obtain ⟨hq, hw⟩ := hw
  obtain ⟨h8, hx, hw⟩ := hw
  refine zT_call (pc' := 116) (rest := []) 1 (fun n => rfl) hq hx ?_
  show zT E (d + 1) m_m_expression 116 [some (.ref a0), j1, j2, some (.int a3), j4] [] h8 r
  refine zT_st (pc' := 118) (L' := [some (.ref a0), j1, j2, some (.int a3), j4]) (st' := [.int 1, .ref a0]) (h' := h8) 2 (fun n => rfl) ?_
  obtain ⟨hq, hw⟩ := hw
  obtain ⟨h10, hx, hw⟩ := hw
  refine zT_call (pc' := 121) (rest := []) 1 (fun n => rfl) hq hx ?_
  show zT E (d + 1) m_m_expression 121 [some (.ref a0), j1, j2, some (.int a3), j4] [] h10 r
  exact zT_st 2 (fun n => rfl) hw
set_option maxRecDepth 4000 in
theorem s_m_expression_142 (E : zX) (d : Nat) (a0 : Nat) (j1 : Option Value) (j2 : Option Value) (a3 : Int32) (j4 : Option Value) (h : zH) (r : zO × zH)
    (hw : ∃ o1 : Nat, fld h a0 12 39 = some (.ref o1) ∧
    ∃ x2 : Int32, fld h a0 12 33 = some (.int x2) ∧
    ∃ (n3 : Nat) (f4 : Nat → Int32), arZ h o1 = some (n3, f4) ∧ ¬ (x2 < 0 ∨ n3 ≤ (x2).toNatClampNeg) ∧
    if (f4 (x2).toNatClampNeg) = 0 then (
      isO h a0 12 = true ∧ ∃ (h6 : zH), zT E d m_m_drops 0 [some (.ref a0), some (.int 4)] [] h (.inl none, h6) ∧
      isO h6 a0 12 = true ∧ ∃ (x7 : Int32) (h8 : zH), zT E d m_m_isSign 0 [some (.ref a0), some (.int 60)] [] h6 (.inl (some (.int x7)), h8) ∧
      if x7 = 0 then (
        zT E (d + 1) m_m_expression 176 [some (.ref a0), j1, j2, some (.int a3), j4] [.int 7, .ref a0] h8 r)
      else (
        zT E (d + 1) m_m_expression 176 [some (.ref a0), j1, j2, some (.int a3), j4] [.int 6, .ref a0] h8 r))
    else (
      zT E (d + 1) m_m_expression 201 [some (.ref a0), j1, j2, some (.int a3), j4] [] h r)) :
    zT E (d + 1) m_m_expression 142 [some (.ref a0), j1, j2, some (.int a3), j4] [] h r := by
  refine zT_st (pc' := 143) (L' := [some (.ref a0), j1, j2, some (.int a3), j4]) (st' := [.ref a0]) (h' := h) 1 (fun n => rfl) ?_
  obtain ⟨o1, e, hw⟩ := hw
  refine zT_st (pc' := 146) (L' := [some (.ref a0), j1, j2, some (.int a3), j4]) (st' := [.ref o1]) (h' := h) 1 (fun n => fld_eq (E := E) e _) ?_
  refine zT_st (pc' := 147) (L' := [some (.ref a0), j1, j2, some (.int a3), j4]) (st' := [.ref a0, .ref o1]) (h' := h) 1 (fun n => rfl) ?_
  obtain ⟨x2, e, hw⟩ := hw
  refine zT_st (pc' := 150) (L' := [some (.ref a0), j1, j2, some (.int a3), j4]) (st' := [.int x2, .ref o1]) (h' := h) 1 (fun n => fld_eq (E := E) e _) ?_
  obtain ⟨n3, f4, e, hi, hw⟩ := hw
  refine zT_st (pc' := 151) (L' := [some (.ref a0), j1, j2, some (.int a3), j4]) (st' := [.int (f4 (x2).toNatClampNeg)]) (h' := h) 1 (fun n => arZ_eq (E := E) e hi [] (fun st => zrun zP zCd E n (d + 1) m_m_expression 151 [some (.ref a0), j1, j2, some (.int a3), j4] st h)) ?_
  by_cases hc : (f4 (x2).toNatClampNeg) = 0
  · rw [if_pos hc] at hw
    refine zT_st (pc' := 154) (L' := [some (.ref a0), j1, j2, some (.int a3), j4]) (st' := []) (h' := h) 1 (fun n => if_pos hc) ?_
    refine zT_st (pc' := 156) (L' := [some (.ref a0), j1, j2, some (.int a3), j4]) (st' := [.int 4, .ref a0]) (h' := h) 2 (fun n => rfl) ?_
    obtain ⟨hq, hw⟩ := hw
    obtain ⟨h6, hx, hw⟩ := hw
    refine zT_call (pc' := 159) (rest := []) 1 (fun n => rfl) hq hx ?_
    show zT E (d + 1) m_m_expression 159 [some (.ref a0), j1, j2, some (.int a3), j4] [] h6 r
    refine zT_st (pc' := 163) (L' := [some (.ref a0), j1, j2, some (.int a3), j4]) (st' := [.int 60, .ref a0, .ref a0]) (h' := h6) 3 (fun n => rfl) ?_
    obtain ⟨hq, hw⟩ := hw
    obtain ⟨x7, h8, hx, hw⟩ := hw
    refine zT_call (pc' := 166) (rest := [.ref a0]) 1 (fun n => rfl) hq hx ?_
    show zT E (d + 1) m_m_expression 166 [some (.ref a0), j1, j2, some (.int a3), j4] [.int x7, .ref a0] h8 r
    by_cases hc : x7 = 0
    · rw [if_pos hc] at hw
      refine zT_st (pc' := 174) (L' := [some (.ref a0), j1, j2, some (.int a3), j4]) (st' := [.ref a0]) (h' := h8) 1 (fun n => if_pos hc) ?_
      exact zT_st 1 (fun n => rfl) hw
    · rw [if_neg hc] at hw
      refine zT_st (pc' := 169) (L' := [some (.ref a0), j1, j2, some (.int a3), j4]) (st' := [.ref a0]) (h' := h8) 1 (fun n => if_neg hc) ?_
      exact zT_st 2 (fun n => rfl) hw
  · rw [if_neg hc] at hw
    refine zT_st (pc' := 201) (L' := [some (.ref a0), j1, j2, some (.int a3), j4]) (st' := []) (h' := h) 1 (fun n => if_neg hc) ?_
    exact hw
set_option maxRecDepth 4000 in
theorem s_m_expression_176 (E : zX) (d : Nat) (a0 : Nat) (j1 : Option Value) (j2 : Option Value) (a3 : Int32) (j4 : Option Value) (s0 : Nat) (s1 : Int32) (h : zH) (r : zO × zH)
    (hw : isO h s0 12 = true ∧ ∃ (h2 : zH), zT E d m_m_waitsFor 0 [some (.ref s0), some (.int s1)] [] h (.inl none, h2) ∧
    ∃ o3 : Nat, fld h2 a0 12 39 = some (.ref o3) ∧
    ∃ x4 : Int32, fld h2 a0 12 33 = some (.int x4) ∧
    ∃ (n5 : Nat) (f6 : Nat → Int32), arZ h2 o3 = some (n5, f6) ∧ ¬ (x4 < 0 ∨ n5 ≤ (x4).toNatClampNeg) ∧ ((1 : Int32) == 0 || (1 : Int32) == 1) = true ∧
    isO (setZ h2 o3 n5 (upd f6 (x4).toNatClampNeg 1)) a0 12 = true ∧ ∃ (h8 : zH), zT E d m_m_goes 0 [some (.ref a0), none] [] (setZ h2 o3 n5 (upd f6 (x4).toNatClampNeg 1)) (.inl none, h8) ∧
    isO h8 a0 12 = true ∧ ∃ (h10 : zH), zT E d m_m_operand 0 [some (.ref a0), some (.int 0), none, none, none] [] h8 (.inl none, h10) ∧
    zT E (d + 1) m_m_expression 39 [some (.ref a0), j1, j2, some (.int a3), j4] [] h10 r) :
    zT E (d + 1) m_m_expression 176 [some (.ref a0), j1, j2, some (.int a3), j4] [.int s1, .ref s0] h r := by
  obtain ⟨hq, hw⟩ := hw
  obtain ⟨h2, hx, hw⟩ := hw
  refine zT_call (pc' := 179) (rest := []) 1 (fun n => rfl) hq hx ?_
  show zT E (d + 1) m_m_expression 179 [some (.ref a0), j1, j2, some (.int a3), j4] [] h2 r
  refine zT_st (pc' := 180) (L' := [some (.ref a0), j1, j2, some (.int a3), j4]) (st' := [.ref a0]) (h' := h2) 1 (fun n => rfl) ?_
  obtain ⟨o3, e, hw⟩ := hw
  refine zT_st (pc' := 183) (L' := [some (.ref a0), j1, j2, some (.int a3), j4]) (st' := [.ref o3]) (h' := h2) 1 (fun n => fld_eq (E := E) e _) ?_
  refine zT_st (pc' := 184) (L' := [some (.ref a0), j1, j2, some (.int a3), j4]) (st' := [.ref a0, .ref o3]) (h' := h2) 1 (fun n => rfl) ?_
  obtain ⟨x4, e, hw⟩ := hw
  refine zT_st (pc' := 187) (L' := [some (.ref a0), j1, j2, some (.int a3), j4]) (st' := [.int x4, .ref o3]) (h' := h2) 1 (fun n => fld_eq (E := E) e _) ?_
  refine zT_st (pc' := 188) (L' := [some (.ref a0), j1, j2, some (.int a3), j4]) (st' := [.int 1, .int x4, .ref o3]) (h' := h2) 1 (fun n => rfl) ?_
  obtain ⟨n5, f6, e, hi, hz, hw⟩ := hw
  refine zT_st (pc' := 189) (L' := [some (.ref a0), j1, j2, some (.int a3), j4]) (st' := []) (h' := (setZ h2 o3 n5 (upd f6 (x4).toNatClampNeg 1))) 1 (fun n => seZ_eq e hi hz _ _) ?_
  refine zT_st (pc' := 190) (L' := [some (.ref a0), j1, j2, some (.int a3), j4]) (st' := [.ref a0]) (h' := (setZ h2 o3 n5 (upd f6 (x4).toNatClampNeg 1))) 1 (fun n => rfl) ?_
  obtain ⟨hq, hw⟩ := hw
  obtain ⟨h8, hx, hw⟩ := hw
  refine zT_call (pc' := 193) (rest := []) 1 (fun n => rfl) hq hx ?_
  show zT E (d + 1) m_m_expression 193 [some (.ref a0), j1, j2, some (.int a3), j4] [] h8 r
  refine zT_st (pc' := 195) (L' := [some (.ref a0), j1, j2, some (.int a3), j4]) (st' := [.int 0, .ref a0]) (h' := h8) 2 (fun n => rfl) ?_
  obtain ⟨hq, hw⟩ := hw
  obtain ⟨h10, hx, hw⟩ := hw
  refine zT_call (pc' := 198) (rest := []) 1 (fun n => rfl) hq hx ?_
  show zT E (d + 1) m_m_expression 198 [some (.ref a0), j1, j2, some (.int a3), j4] [] h10 r
  exact zT_st 2 (fun n => rfl) hw
set_option maxRecDepth 4000 in
theorem s_m_expression_201 (E : zX) (d : Nat) (a0 : Nat) (j1 : Option Value) (j2 : Option Value) (a3 : Int32) (j4 : Option Value) (h : zH) (r : zO × zH)
    (hw : isO h a0 12 = true ∧ ∃ (x1 : Int32) (h2 : zH), zT E d m_m_isSign 0 [some (.ref a0), some (.int 43)] [] h (.inl (some (.int x1)), h2) ∧
    if x1 = 0 then (
      isO h2 a0 12 = true ∧ ∃ (x3 : Int32) (h4 : zH), zT E d m_m_isSign 0 [some (.ref a0), some (.int 45)] [] h2 (.inl (some (.int x3)), h4) ∧
      if x3 = 0 then (
        isO h4 a0 12 = true ∧ ∃ (x5 : Int32) (h6 : zH), zT E d m_m_isSign 0 [some (.ref a0), some (.int 42)] [] h4 (.inl (some (.int x5)), h6) ∧
        if x5 = 0 then (
          isO h6 a0 12 = true ∧ ∃ (x7 : Int32) (h8 : zH), zT E d m_m_isSign 0 [some (.ref a0), some (.int 47)] [] h6 (.inl (some (.int x7)), h8) ∧
          if x7 = 0 then (
            isO h8 a0 12 = true ∧ ∃ (x9 : Int32) (h10 : zH), zT E d m_m_isSign 0 [some (.ref a0), some (.int 41)] [] h8 (.inl (some (.int x9)), h10) ∧
            if x9 = 0 then (
              zT E (d + 1) m_m_expression 39 [some (.ref a0), j1, j2, some (.int 0), j4] [] h10 r)
            else (
              isO h10 a0 12 = true ∧ ∃ (x11 : Int32) (h12 : zH), zT E d m_m_isOpened 0 [some (.ref a0), none] [] h10 (.inl (some (.int x11)), h12) ∧
              if x11 = 0 then (
                zT E (d + 1) m_m_expression 39 [some (.ref a0), j1, j2, some (.int 0), j4] [] h12 r)
              else (
                isO h12 a0 12 = true ∧ ∃ (h14 : zH), zT E d m_m_closes 0 [some (.ref a0)] [] h12 (.inl none, h14) ∧
                zT E (d + 1) m_m_expression 39 [some (.ref a0), j1, j2, some (.int a3), j4] [] h14 r)))
          else (
            zT E (d + 1) m_m_expression 274 [some (.ref a0), j1, j2, some (.int a3), j4] [] h8 r))
        else (
          zT E (d + 1) m_m_expression 274 [some (.ref a0), j1, j2, some (.int a3), j4] [] h6 r))
      else (
        zT E (d + 1) m_m_expression 219 [some (.ref a0), j1, j2, some (.int a3), j4] [] h4 r))
    else (
      zT E (d + 1) m_m_expression 219 [some (.ref a0), j1, j2, some (.int a3), j4] [] h2 r)) :
    zT E (d + 1) m_m_expression 201 [some (.ref a0), j1, j2, some (.int a3), j4] [] h r := by
  refine zT_st (pc' := 204) (L' := [some (.ref a0), j1, j2, some (.int a3), j4]) (st' := [.int 43, .ref a0]) (h' := h) 2 (fun n => rfl) ?_
  obtain ⟨hq, hw⟩ := hw
  obtain ⟨x1, h2, hx, hw⟩ := hw
  refine zT_call (pc' := 207) (rest := []) 1 (fun n => rfl) hq hx ?_
  show zT E (d + 1) m_m_expression 207 [some (.ref a0), j1, j2, some (.int a3), j4] [.int x1] h2 r
  by_cases hc : x1 = 0
  · rw [if_pos hc] at hw
    refine zT_st (pc' := 210) (L' := [some (.ref a0), j1, j2, some (.int a3), j4]) (st' := []) (h' := h2) 1 (fun n => if_pos hc) ?_
    refine zT_st (pc' := 213) (L' := [some (.ref a0), j1, j2, some (.int a3), j4]) (st' := [.int 45, .ref a0]) (h' := h2) 2 (fun n => rfl) ?_
    obtain ⟨hq, hw⟩ := hw
    obtain ⟨x3, h4, hx, hw⟩ := hw
    refine zT_call (pc' := 216) (rest := []) 1 (fun n => rfl) hq hx ?_
    show zT E (d + 1) m_m_expression 216 [some (.ref a0), j1, j2, some (.int a3), j4] [.int x3] h4 r
    by_cases hc : x3 = 0
    · rw [if_pos hc] at hw
      refine zT_st (pc' := 256) (L' := [some (.ref a0), j1, j2, some (.int a3), j4]) (st' := []) (h' := h4) 1 (fun n => if_pos hc) ?_
      refine zT_st (pc' := 259) (L' := [some (.ref a0), j1, j2, some (.int a3), j4]) (st' := [.int 42, .ref a0]) (h' := h4) 2 (fun n => rfl) ?_
      obtain ⟨hq, hw⟩ := hw
      obtain ⟨x5, h6, hx, hw⟩ := hw
      refine zT_call (pc' := 262) (rest := []) 1 (fun n => rfl) hq hx ?_
      show zT E (d + 1) m_m_expression 262 [some (.ref a0), j1, j2, some (.int a3), j4] [.int x5] h6 r
      by_cases hc : x5 = 0
      · rw [if_pos hc] at hw
        refine zT_st (pc' := 265) (L' := [some (.ref a0), j1, j2, some (.int a3), j4]) (st' := []) (h' := h6) 1 (fun n => if_pos hc) ?_
        refine zT_st (pc' := 268) (L' := [some (.ref a0), j1, j2, some (.int a3), j4]) (st' := [.int 47, .ref a0]) (h' := h6) 2 (fun n => rfl) ?_
        obtain ⟨hq, hw⟩ := hw
        obtain ⟨x7, h8, hx, hw⟩ := hw
        refine zT_call (pc' := 271) (rest := []) 1 (fun n => rfl) hq hx ?_
        show zT E (d + 1) m_m_expression 271 [some (.ref a0), j1, j2, some (.int a3), j4] [.int x7] h8 r
        by_cases hc : x7 = 0
        · rw [if_pos hc] at hw
          refine zT_st (pc' := 312) (L' := [some (.ref a0), j1, j2, some (.int a3), j4]) (st' := []) (h' := h8) 1 (fun n => if_pos hc) ?_
          refine zT_st (pc' := 315) (L' := [some (.ref a0), j1, j2, some (.int a3), j4]) (st' := [.int 41, .ref a0]) (h' := h8) 2 (fun n => rfl) ?_
          obtain ⟨hq, hw⟩ := hw
          obtain ⟨x9, h10, hx, hw⟩ := hw
          refine zT_call (pc' := 318) (rest := []) 1 (fun n => rfl) hq hx ?_
          show zT E (d + 1) m_m_expression 318 [some (.ref a0), j1, j2, some (.int a3), j4] [.int x9] h10 r
          by_cases hc : x9 = 0
          · rw [if_pos hc] at hw
            refine zT_st (pc' := 335) (L' := [some (.ref a0), j1, j2, some (.int a3), j4]) (st' := []) (h' := h10) 1 (fun n => if_pos hc) ?_
            exact zT_st 3 (fun n => rfl) hw
          · rw [if_neg hc] at hw
            refine zT_st (pc' := 321) (L' := [some (.ref a0), j1, j2, some (.int a3), j4]) (st' := []) (h' := h10) 1 (fun n => if_neg hc) ?_
            refine zT_st (pc' := 322) (L' := [some (.ref a0), j1, j2, some (.int a3), j4]) (st' := [.ref a0]) (h' := h10) 1 (fun n => rfl) ?_
            obtain ⟨hq, hw⟩ := hw
            obtain ⟨x11, h12, hx, hw⟩ := hw
            refine zT_call (pc' := 325) (rest := []) 1 (fun n => rfl) hq hx ?_
            show zT E (d + 1) m_m_expression 325 [some (.ref a0), j1, j2, some (.int a3), j4] [.int x11] h12 r
            by_cases hc : x11 = 0
            · rw [if_pos hc] at hw
              refine zT_st (pc' := 335) (L' := [some (.ref a0), j1, j2, some (.int a3), j4]) (st' := []) (h' := h12) 1 (fun n => if_pos hc) ?_
              exact zT_st 3 (fun n => rfl) hw
            · rw [if_neg hc] at hw
              refine zT_st (pc' := 328) (L' := [some (.ref a0), j1, j2, some (.int a3), j4]) (st' := []) (h' := h12) 1 (fun n => if_neg hc) ?_
              refine zT_st (pc' := 329) (L' := [some (.ref a0), j1, j2, some (.int a3), j4]) (st' := [.ref a0]) (h' := h12) 1 (fun n => rfl) ?_
              obtain ⟨hq, hw⟩ := hw
              obtain ⟨h14, hx, hw⟩ := hw
              refine zT_call (pc' := 332) (rest := []) 1 (fun n => rfl) hq hx ?_
              show zT E (d + 1) m_m_expression 332 [some (.ref a0), j1, j2, some (.int a3), j4] [] h14 r
              exact zT_st 2 (fun n => rfl) hw
        · rw [if_neg hc] at hw
          refine zT_st (pc' := 274) (L' := [some (.ref a0), j1, j2, some (.int a3), j4]) (st' := []) (h' := h8) 1 (fun n => if_neg hc) ?_
          exact hw
      · rw [if_neg hc] at hw
        refine zT_st (pc' := 274) (L' := [some (.ref a0), j1, j2, some (.int a3), j4]) (st' := []) (h' := h6) 1 (fun n => if_neg hc) ?_
        exact hw
    · rw [if_neg hc] at hw
      refine zT_st (pc' := 219) (L' := [some (.ref a0), j1, j2, some (.int a3), j4]) (st' := []) (h' := h4) 1 (fun n => if_neg hc) ?_
      exact hw
  · rw [if_neg hc] at hw
    refine zT_st (pc' := 219) (L' := [some (.ref a0), j1, j2, some (.int a3), j4]) (st' := []) (h' := h2) 1 (fun n => if_neg hc) ?_
    exact hw
set_option maxRecDepth 4000 in
theorem s_m_expression_219 (E : zX) (d : Nat) (a0 : Nat) (j1 : Option Value) (j2 : Option Value) (a3 : Int32) (j4 : Option Value) (h : zH) (r : zO × zH)
    (hw : isO h a0 12 = true ∧ ∃ (h2 : zH), zT E d m_m_drops 0 [some (.ref a0), some (.int 5)] [] h (.inl none, h2) ∧
    isO h2 a0 12 = true ∧ ∃ (x3 : Int32) (h4 : zH), zT E d m_m_isSign 0 [some (.ref a0), some (.int 43)] [] h2 (.inl (some (.int x3)), h4) ∧
    if x3 = 0 then (
      isO h4 a0 12 = true ∧ ∃ (h6 : zH), zT E d m_m_waitsFor 0 [some (.ref a0), some (.int 9)] [] h4 (.inl none, h6) ∧
      isO h6 a0 12 = true ∧ ∃ (h8 : zH), zT E d m_m_goes 0 [some (.ref a0), none] [] h6 (.inl none, h8) ∧
      isO h8 a0 12 = true ∧ ∃ (h10 : zH), zT E d m_m_operand 0 [some (.ref a0), some (.int 0), none, none, none] [] h8 (.inl none, h10) ∧
      zT E (d + 1) m_m_expression 39 [some (.ref a0), j1, j2, some (.int a3), j4] [] h10 r)
    else (
      isO h4 a0 12 = true ∧ ∃ (h12 : zH), zT E d m_m_waitsFor 0 [some (.ref a0), some (.int 8)] [] h4 (.inl none, h12) ∧
      isO h12 a0 12 = true ∧ ∃ (h14 : zH), zT E d m_m_goes 0 [some (.ref a0), none] [] h12 (.inl none, h14) ∧
      isO h14 a0 12 = true ∧ ∃ (h16 : zH), zT E d m_m_operand 0 [some (.ref a0), some (.int 0), none, none, none] [] h14 (.inl none, h16) ∧
      zT E (d + 1) m_m_expression 39 [some (.ref a0), j1, j2, some (.int a3), j4] [] h16 r)) :
    zT E (d + 1) m_m_expression 219 [some (.ref a0), j1, j2, some (.int a3), j4] [] h r := by
  refine zT_st (pc' := 221) (L' := [some (.ref a0), j1, j2, some (.int a3), j4]) (st' := [.int 5, .ref a0]) (h' := h) 2 (fun n => rfl) ?_
  obtain ⟨hq, hw⟩ := hw
  obtain ⟨h2, hx, hw⟩ := hw
  refine zT_call (pc' := 224) (rest := []) 1 (fun n => rfl) hq hx ?_
  show zT E (d + 1) m_m_expression 224 [some (.ref a0), j1, j2, some (.int a3), j4] [] h2 r
  refine zT_st (pc' := 228) (L' := [some (.ref a0), j1, j2, some (.int a3), j4]) (st' := [.int 43, .ref a0, .ref a0]) (h' := h2) 3 (fun n => rfl) ?_
  obtain ⟨hq, hw⟩ := hw
  obtain ⟨x3, h4, hx, hw⟩ := hw
  refine zT_call (pc' := 231) (rest := [.ref a0]) 1 (fun n => rfl) hq hx ?_
  show zT E (d + 1) m_m_expression 231 [some (.ref a0), j1, j2, some (.int a3), j4] [.int x3, .ref a0] h4 r
  by_cases hc : x3 = 0
  · rw [if_pos hc] at hw
    refine zT_st (pc' := 239) (L' := [some (.ref a0), j1, j2, some (.int a3), j4]) (st' := [.ref a0]) (h' := h4) 1 (fun n => if_pos hc) ?_
    refine zT_st (pc' := 241) (L' := [some (.ref a0), j1, j2, some (.int a3), j4]) (st' := [.int 9, .ref a0]) (h' := h4) 1 (fun n => rfl) ?_
    obtain ⟨hq, hw⟩ := hw
    obtain ⟨h6, hx, hw⟩ := hw
    refine zT_call (pc' := 244) (rest := []) 1 (fun n => rfl) hq hx ?_
    show zT E (d + 1) m_m_expression 244 [some (.ref a0), j1, j2, some (.int a3), j4] [] h6 r
    refine zT_st (pc' := 245) (L' := [some (.ref a0), j1, j2, some (.int a3), j4]) (st' := [.ref a0]) (h' := h6) 1 (fun n => rfl) ?_
    obtain ⟨hq, hw⟩ := hw
    obtain ⟨h8, hx, hw⟩ := hw
    refine zT_call (pc' := 248) (rest := []) 1 (fun n => rfl) hq hx ?_
    show zT E (d + 1) m_m_expression 248 [some (.ref a0), j1, j2, some (.int a3), j4] [] h8 r
    refine zT_st (pc' := 250) (L' := [some (.ref a0), j1, j2, some (.int a3), j4]) (st' := [.int 0, .ref a0]) (h' := h8) 2 (fun n => rfl) ?_
    obtain ⟨hq, hw⟩ := hw
    obtain ⟨h10, hx, hw⟩ := hw
    refine zT_call (pc' := 253) (rest := []) 1 (fun n => rfl) hq hx ?_
    show zT E (d + 1) m_m_expression 253 [some (.ref a0), j1, j2, some (.int a3), j4] [] h10 r
    exact zT_st 2 (fun n => rfl) hw
  · rw [if_neg hc] at hw
    refine zT_st (pc' := 234) (L' := [some (.ref a0), j1, j2, some (.int a3), j4]) (st' := [.ref a0]) (h' := h4) 1 (fun n => if_neg hc) ?_
    refine zT_st (pc' := 241) (L' := [some (.ref a0), j1, j2, some (.int a3), j4]) (st' := [.int 8, .ref a0]) (h' := h4) 2 (fun n => rfl) ?_
    obtain ⟨hq, hw⟩ := hw
    obtain ⟨h12, hx, hw⟩ := hw
    refine zT_call (pc' := 244) (rest := []) 1 (fun n => rfl) hq hx ?_
    show zT E (d + 1) m_m_expression 244 [some (.ref a0), j1, j2, some (.int a3), j4] [] h12 r
    refine zT_st (pc' := 245) (L' := [some (.ref a0), j1, j2, some (.int a3), j4]) (st' := [.ref a0]) (h' := h12) 1 (fun n => rfl) ?_
    obtain ⟨hq, hw⟩ := hw
    obtain ⟨h14, hx, hw⟩ := hw
    refine zT_call (pc' := 248) (rest := []) 1 (fun n => rfl) hq hx ?_
    show zT E (d + 1) m_m_expression 248 [some (.ref a0), j1, j2, some (.int a3), j4] [] h14 r
    refine zT_st (pc' := 250) (L' := [some (.ref a0), j1, j2, some (.int a3), j4]) (st' := [.int 0, .ref a0]) (h' := h14) 2 (fun n => rfl) ?_
    obtain ⟨hq, hw⟩ := hw
    obtain ⟨h16, hx, hw⟩ := hw
    refine zT_call (pc' := 253) (rest := []) 1 (fun n => rfl) hq hx ?_
    show zT E (d + 1) m_m_expression 253 [some (.ref a0), j1, j2, some (.int a3), j4] [] h16 r
    exact zT_st 2 (fun n => rfl) hw
set_option maxRecDepth 4000 in
theorem s_m_expression_274 (E : zX) (d : Nat) (a0 : Nat) (j1 : Option Value) (j2 : Option Value) (a3 : Int32) (j4 : Option Value) (h : zH) (r : zO × zH)
    (hw : isO h a0 12 = true ∧ ∃ (h2 : zH), zT E d m_m_drops 0 [some (.ref a0), some (.int 6)] [] h (.inl none, h2) ∧
    isO h2 a0 12 = true ∧ ∃ (x3 : Int32) (h4 : zH), zT E d m_m_isSign 0 [some (.ref a0), some (.int 42)] [] h2 (.inl (some (.int x3)), h4) ∧
    if x3 = 0 then (
      isO h4 a0 12 = true ∧ ∃ (h6 : zH), zT E d m_m_waitsFor 0 [some (.ref a0), some (.int 11)] [] h4 (.inl none, h6) ∧
      isO h6 a0 12 = true ∧ ∃ (h8 : zH), zT E d m_m_goes 0 [some (.ref a0), none] [] h6 (.inl none, h8) ∧
      isO h8 a0 12 = true ∧ ∃ (h10 : zH), zT E d m_m_operand 0 [some (.ref a0), some (.int 0), none, none, none] [] h8 (.inl none, h10) ∧
      zT E (d + 1) m_m_expression 39 [some (.ref a0), j1, j2, some (.int a3), j4] [] h10 r)
    else (
      isO h4 a0 12 = true ∧ ∃ (h12 : zH), zT E d m_m_waitsFor 0 [some (.ref a0), some (.int 10)] [] h4 (.inl none, h12) ∧
      isO h12 a0 12 = true ∧ ∃ (h14 : zH), zT E d m_m_goes 0 [some (.ref a0), none] [] h12 (.inl none, h14) ∧
      isO h14 a0 12 = true ∧ ∃ (h16 : zH), zT E d m_m_operand 0 [some (.ref a0), some (.int 0), none, none, none] [] h14 (.inl none, h16) ∧
      zT E (d + 1) m_m_expression 39 [some (.ref a0), j1, j2, some (.int a3), j4] [] h16 r)) :
    zT E (d + 1) m_m_expression 274 [some (.ref a0), j1, j2, some (.int a3), j4] [] h r := by
  refine zT_st (pc' := 277) (L' := [some (.ref a0), j1, j2, some (.int a3), j4]) (st' := [.int 6, .ref a0]) (h' := h) 2 (fun n => rfl) ?_
  obtain ⟨hq, hw⟩ := hw
  obtain ⟨h2, hx, hw⟩ := hw
  refine zT_call (pc' := 280) (rest := []) 1 (fun n => rfl) hq hx ?_
  show zT E (d + 1) m_m_expression 280 [some (.ref a0), j1, j2, some (.int a3), j4] [] h2 r
  refine zT_st (pc' := 284) (L' := [some (.ref a0), j1, j2, some (.int a3), j4]) (st' := [.int 42, .ref a0, .ref a0]) (h' := h2) 3 (fun n => rfl) ?_
  obtain ⟨hq, hw⟩ := hw
  obtain ⟨x3, h4, hx, hw⟩ := hw
  refine zT_call (pc' := 287) (rest := [.ref a0]) 1 (fun n => rfl) hq hx ?_
  show zT E (d + 1) m_m_expression 287 [some (.ref a0), j1, j2, some (.int a3), j4] [.int x3, .ref a0] h4 r
  by_cases hc : x3 = 0
  · rw [if_pos hc] at hw
    refine zT_st (pc' := 295) (L' := [some (.ref a0), j1, j2, some (.int a3), j4]) (st' := [.ref a0]) (h' := h4) 1 (fun n => if_pos hc) ?_
    refine zT_st (pc' := 297) (L' := [some (.ref a0), j1, j2, some (.int a3), j4]) (st' := [.int 11, .ref a0]) (h' := h4) 1 (fun n => rfl) ?_
    obtain ⟨hq, hw⟩ := hw
    obtain ⟨h6, hx, hw⟩ := hw
    refine zT_call (pc' := 300) (rest := []) 1 (fun n => rfl) hq hx ?_
    show zT E (d + 1) m_m_expression 300 [some (.ref a0), j1, j2, some (.int a3), j4] [] h6 r
    refine zT_st (pc' := 301) (L' := [some (.ref a0), j1, j2, some (.int a3), j4]) (st' := [.ref a0]) (h' := h6) 1 (fun n => rfl) ?_
    obtain ⟨hq, hw⟩ := hw
    obtain ⟨h8, hx, hw⟩ := hw
    refine zT_call (pc' := 304) (rest := []) 1 (fun n => rfl) hq hx ?_
    show zT E (d + 1) m_m_expression 304 [some (.ref a0), j1, j2, some (.int a3), j4] [] h8 r
    refine zT_st (pc' := 306) (L' := [some (.ref a0), j1, j2, some (.int a3), j4]) (st' := [.int 0, .ref a0]) (h' := h8) 2 (fun n => rfl) ?_
    obtain ⟨hq, hw⟩ := hw
    obtain ⟨h10, hx, hw⟩ := hw
    refine zT_call (pc' := 309) (rest := []) 1 (fun n => rfl) hq hx ?_
    show zT E (d + 1) m_m_expression 309 [some (.ref a0), j1, j2, some (.int a3), j4] [] h10 r
    exact zT_st 2 (fun n => rfl) hw
  · rw [if_neg hc] at hw
    refine zT_st (pc' := 290) (L' := [some (.ref a0), j1, j2, some (.int a3), j4]) (st' := [.ref a0]) (h' := h4) 1 (fun n => if_neg hc) ?_
    refine zT_st (pc' := 297) (L' := [some (.ref a0), j1, j2, some (.int a3), j4]) (st' := [.int 10, .ref a0]) (h' := h4) 2 (fun n => rfl) ?_
    obtain ⟨hq, hw⟩ := hw
    obtain ⟨h12, hx, hw⟩ := hw
    refine zT_call (pc' := 300) (rest := []) 1 (fun n => rfl) hq hx ?_
    show zT E (d + 1) m_m_expression 300 [some (.ref a0), j1, j2, some (.int a3), j4] [] h12 r
    refine zT_st (pc' := 301) (L' := [some (.ref a0), j1, j2, some (.int a3), j4]) (st' := [.ref a0]) (h' := h12) 1 (fun n => rfl) ?_
    obtain ⟨hq, hw⟩ := hw
    obtain ⟨h14, hx, hw⟩ := hw
    refine zT_call (pc' := 304) (rest := []) 1 (fun n => rfl) hq hx ?_
    show zT E (d + 1) m_m_expression 304 [some (.ref a0), j1, j2, some (.int a3), j4] [] h14 r
    refine zT_st (pc' := 306) (L' := [some (.ref a0), j1, j2, some (.int a3), j4]) (st' := [.int 0, .ref a0]) (h' := h14) 2 (fun n => rfl) ?_
    obtain ⟨hq, hw⟩ := hw
    obtain ⟨h16, hx, hw⟩ := hw
    refine zT_call (pc' := 309) (rest := []) 1 (fun n => rfl) hq hx ?_
    show zT E (d + 1) m_m_expression 309 [some (.ref a0), j1, j2, some (.int a3), j4] [] h16 r
    exact zT_st 2 (fun n => rfl) hw
set_option maxRecDepth 4000 in
theorem s_m_expression_340 (E : zX) (d : Nat) (a0 : Nat) (j1 : Option Value) (j2 : Option Value) (j3 : Option Value) (j4 : Option Value) (h : zH) (r : zO × zH)
    (hw : isO h a0 12 = true ∧ ∃ (x1 : Int32) (h2 : zH), zT E d m_m_isGood 0 [some (.ref a0)] [] h (.inl (some (.int x1)), h2) ∧
    if x1 = 0 then (
      isO h2 a0 12 = true ∧ ∃ (h4 : zH), zT E d m_m_drops 0 [some (.ref a0), some (.int 0)] [] h2 (.inl none, h4) ∧
      isO h4 a0 12 = true ∧ ∃ (h6 : zH), zT E d m_m_puts 0 [some (.ref a0), some (.int 0)] [] h4 (.inl none, h6) ∧
      r = (.inl (none), h6))
    else (
      ∃ x7 : Int32, fld h2 a0 12 33 = some (.int x7) ∧
      if x7 ≤ 1 then (
        isO h2 a0 12 = true ∧ ∃ (h9 : zH), zT E d m_m_drops 0 [some (.ref a0), some (.int 0)] [] h2 (.inl none, h9) ∧
        isO h9 a0 12 = true ∧ ∃ (h11 : zH), zT E d m_m_puts 0 [some (.ref a0), some (.int 0)] [] h9 (.inl none, h11) ∧
        r = (.inl (none), h11))
      else (
        isO h2 a0 12 = true ∧ ∃ (h13 : zH), zT E d m_m_wrong 0 [some (.ref a0), some (.int 1)] [] h2 (.inl none, h13) ∧
        isO h13 a0 12 = true ∧ ∃ (h15 : zH), zT E d m_m_drops 0 [some (.ref a0), some (.int 0)] [] h13 (.inl none, h15) ∧
        isO h15 a0 12 = true ∧ ∃ (h17 : zH), zT E d m_m_puts 0 [some (.ref a0), some (.int 0)] [] h15 (.inl none, h17) ∧
        r = (.inl (none), h17)))) :
    zT E (d + 1) m_m_expression 340 [some (.ref a0), j1, j2, j3, j4] [] h r := by
  refine zT_st (pc' := 341) (L' := [some (.ref a0), j1, j2, j3, j4]) (st' := [.ref a0]) (h' := h) 1 (fun n => rfl) ?_
  obtain ⟨hq, hw⟩ := hw
  obtain ⟨x1, h2, hx, hw⟩ := hw
  refine zT_call (pc' := 344) (rest := []) 1 (fun n => rfl) hq hx ?_
  show zT E (d + 1) m_m_expression 344 [some (.ref a0), j1, j2, j3, j4] [.int x1] h2 r
  by_cases hc : x1 = 0
  · rw [if_pos hc] at hw
    refine zT_st (pc' := 360) (L' := [some (.ref a0), j1, j2, j3, j4]) (st' := []) (h' := h2) 1 (fun n => if_pos hc) ?_
    refine zT_st (pc' := 362) (L' := [some (.ref a0), j1, j2, j3, j4]) (st' := [.int 0, .ref a0]) (h' := h2) 2 (fun n => rfl) ?_
    obtain ⟨hq, hw⟩ := hw
    obtain ⟨h4, hx, hw⟩ := hw
    refine zT_call (pc' := 365) (rest := []) 1 (fun n => rfl) hq hx ?_
    show zT E (d + 1) m_m_expression 365 [some (.ref a0), j1, j2, j3, j4] [] h4 r
    refine zT_st (pc' := 367) (L' := [some (.ref a0), j1, j2, j3, j4]) (st' := [.int 0, .ref a0]) (h' := h4) 2 (fun n => rfl) ?_
    obtain ⟨hq, hw⟩ := hw
    obtain ⟨h6, hx, hw⟩ := hw
    refine zT_call (pc' := 370) (rest := []) 1 (fun n => rfl) hq hx ?_
    show zT E (d + 1) m_m_expression 370 [some (.ref a0), j1, j2, j3, j4] [] h6 r
    subst hw
    exact zT_ret 1 rfl
  · rw [if_neg hc] at hw
    refine zT_st (pc' := 347) (L' := [some (.ref a0), j1, j2, j3, j4]) (st' := []) (h' := h2) 1 (fun n => if_neg hc) ?_
    refine zT_st (pc' := 348) (L' := [some (.ref a0), j1, j2, j3, j4]) (st' := [.ref a0]) (h' := h2) 1 (fun n => rfl) ?_
    obtain ⟨x7, e, hw⟩ := hw
    refine zT_st (pc' := 351) (L' := [some (.ref a0), j1, j2, j3, j4]) (st' := [.int x7]) (h' := h2) 1 (fun n => fld_eq (E := E) e _) ?_
    refine zT_st (pc' := 352) (L' := [some (.ref a0), j1, j2, j3, j4]) (st' := [.int 1, .int x7]) (h' := h2) 1 (fun n => rfl) ?_
    by_cases hc : x7 ≤ 1
    · rw [if_pos hc] at hw
      refine zT_st (pc' := 360) (L' := [some (.ref a0), j1, j2, j3, j4]) (st' := []) (h' := h2) 1 (fun n => if_pos hc) ?_
      refine zT_st (pc' := 362) (L' := [some (.ref a0), j1, j2, j3, j4]) (st' := [.int 0, .ref a0]) (h' := h2) 2 (fun n => rfl) ?_
      obtain ⟨hq, hw⟩ := hw
      obtain ⟨h9, hx, hw⟩ := hw
      refine zT_call (pc' := 365) (rest := []) 1 (fun n => rfl) hq hx ?_
      show zT E (d + 1) m_m_expression 365 [some (.ref a0), j1, j2, j3, j4] [] h9 r
      refine zT_st (pc' := 367) (L' := [some (.ref a0), j1, j2, j3, j4]) (st' := [.int 0, .ref a0]) (h' := h9) 2 (fun n => rfl) ?_
      obtain ⟨hq, hw⟩ := hw
      obtain ⟨h11, hx, hw⟩ := hw
      refine zT_call (pc' := 370) (rest := []) 1 (fun n => rfl) hq hx ?_
      show zT E (d + 1) m_m_expression 370 [some (.ref a0), j1, j2, j3, j4] [] h11 r
      subst hw
      exact zT_ret 1 rfl
    · rw [if_neg hc] at hw
      refine zT_st (pc' := 355) (L' := [some (.ref a0), j1, j2, j3, j4]) (st' := []) (h' := h2) 1 (fun n => if_neg hc) ?_
      refine zT_st (pc' := 357) (L' := [some (.ref a0), j1, j2, j3, j4]) (st' := [.int 1, .ref a0]) (h' := h2) 2 (fun n => rfl) ?_
      obtain ⟨hq, hw⟩ := hw
      obtain ⟨h13, hx, hw⟩ := hw
      refine zT_call (pc' := 360) (rest := []) 1 (fun n => rfl) hq hx ?_
      show zT E (d + 1) m_m_expression 360 [some (.ref a0), j1, j2, j3, j4] [] h13 r
      refine zT_st (pc' := 362) (L' := [some (.ref a0), j1, j2, j3, j4]) (st' := [.int 0, .ref a0]) (h' := h13) 2 (fun n => rfl) ?_
      obtain ⟨hq, hw⟩ := hw
      obtain ⟨h15, hx, hw⟩ := hw
      refine zT_call (pc' := 365) (rest := []) 1 (fun n => rfl) hq hx ?_
      show zT E (d + 1) m_m_expression 365 [some (.ref a0), j1, j2, j3, j4] [] h15 r
      refine zT_st (pc' := 367) (L' := [some (.ref a0), j1, j2, j3, j4]) (st' := [.int 0, .ref a0]) (h' := h15) 2 (fun n => rfl) ?_
      obtain ⟨hq, hw⟩ := hw
      obtain ⟨h17, hx, hw⟩ := hw
      refine zT_call (pc' := 370) (rest := []) 1 (fun n => rfl) hq hx ?_
      show zT E (d + 1) m_m_expression 370 [some (.ref a0), j1, j2, j3, j4] [] h17 r
      subst hw
      exact zT_ret 1 rfl
set_option maxRecDepth 4000 in
theorem s_m_deeper_0 (E : zX) (d : Nat) (a0 : Nat) (h : zH) (r : zO × zH)
    (hw : ∃ x1 : Int32, fld h a0 12 33 = some (.int x1) ∧
    if 6 ≤ x1 then (
      ∃ x2 : Int32, fld h a0 12 17 = some (.int x2) ∧
      if x2 = 2 then (
        isO h a0 12 = true ∧ ∃ (h4 : zH), zT E d m_m_wrong 0 [some (.ref a0), some (.int 2)] [] h (.inl none, h4) ∧
        r = (.inl (none), h4))
      else (
        ∃ x5 : Int32, fld h a0 12 17 = some (.int x5) ∧
        if x5 = 1 then (
          isO h a0 12 = true ∧ ∃ (h7 : zH), zT E d m_m_wrong 0 [some (.ref a0), some (.int 2)] [] h (.inl none, h7) ∧
          r = (.inl (none), h7))
        else (
          isO h a0 12 = true ∧ ∃ (x8 : Int32) (h9 : zH), zT E d m_m_isSign 0 [some (.ref a0), some (.int 40)] [] h (.inl (some (.int x8)), h9) ∧
          if x8 = 0 then (
            isO h9 a0 12 = true ∧ ∃ (h11 : zH), zT E d m_m_wrong 0 [some (.ref a0), some (.int 1)] [] h9 (.inl none, h11) ∧
            r = (.inl (none), h11))
          else (
            isO h9 a0 12 = true ∧ ∃ (h13 : zH), zT E d m_m_wrong 0 [some (.ref a0), some (.int 2)] [] h9 (.inl none, h13) ∧
            r = (.inl (none), h13)))))
    else (
      ∃ x14 : Int32, fld h a0 12 33 = some (.int x14) ∧
      (∃ w, fld h a0 12 33 = some w) ∧
      ∃ o15 : Nat, fld (setF h a0 33 (.int (x14 + 1))) a0 12 39 = some (.ref o15) ∧
      ∃ x16 : Int32, fld (setF h a0 33 (.int (x14 + 1))) a0 12 33 = some (.int x16) ∧
      ∃ (n17 : Nat) (f18 : Nat → Int32), arZ (setF h a0 33 (.int (x14 + 1))) o15 = some (n17, f18) ∧ ¬ (x16 < 0 ∨ n17 ≤ (x16).toNatClampNeg) ∧ ((0 : Int32) == 0 || (0 : Int32) == 1) = true ∧
      r = (.inl (none), (setZ (setF h a0 33 (.int (x14 + 1))) o15 n17 (upd f18 (x16).toNatClampNeg 0))))) :
    zT E (d + 1) m_m_deeper 0 [some (.ref a0)] [] h r := by
  refine zT_st (pc' := 1) (L' := [some (.ref a0)]) (st' := [.ref a0]) (h' := h) 1 (fun n => rfl) ?_
  obtain ⟨x1, e, hw⟩ := hw
  refine zT_st (pc' := 4) (L' := [some (.ref a0)]) (st' := [.int x1]) (h' := h) 1 (fun n => fld_eq (E := E) e _) ?_
  refine zT_st (pc' := 6) (L' := [some (.ref a0)]) (st' := [.int 6, .int x1]) (h' := h) 1 (fun n => rfl) ?_
  by_cases hc : 6 ≤ x1
  · rw [if_pos hc] at hw
    refine zT_st (pc' := 30) (L' := [some (.ref a0)]) (st' := []) (h' := h) 1 (fun n => if_pos hc) ?_
    refine zT_st (pc' := 32) (L' := [some (.ref a0)]) (st' := [.ref a0, .ref a0]) (h' := h) 2 (fun n => rfl) ?_
    obtain ⟨x2, e, hw⟩ := hw
    refine zT_st (pc' := 35) (L' := [some (.ref a0)]) (st' := [.int x2, .ref a0]) (h' := h) 1 (fun n => fld_eq (E := E) e _) ?_
    refine zT_st (pc' := 36) (L' := [some (.ref a0)]) (st' := [.int 2, .int x2, .ref a0]) (h' := h) 1 (fun n => rfl) ?_
    by_cases hc : x2 = 2
    · rw [if_pos hc] at hw
      refine zT_st (pc' := 56) (L' := [some (.ref a0)]) (st' := [.ref a0]) (h' := h) 1 (fun n => if_pos hc) ?_
      refine zT_st (pc' := 61) (L' := [some (.ref a0)]) (st' := [.int 2, .ref a0]) (h' := h) 2 (fun n => rfl) ?_
      obtain ⟨hq, hw⟩ := hw
      obtain ⟨h4, hx, hw⟩ := hw
      refine zT_call (pc' := 64) (rest := []) 1 (fun n => rfl) hq hx ?_
      show zT E (d + 1) m_m_deeper 64 [some (.ref a0)] [] h4 r
      subst hw
      exact zT_ret 1 rfl
    · rw [if_neg hc] at hw
      refine zT_st (pc' := 39) (L' := [some (.ref a0)]) (st' := [.ref a0]) (h' := h) 1 (fun n => if_neg hc) ?_
      refine zT_st (pc' := 40) (L' := [some (.ref a0)]) (st' := [.ref a0, .ref a0]) (h' := h) 1 (fun n => rfl) ?_
      obtain ⟨x5, e, hw⟩ := hw
      refine zT_st (pc' := 43) (L' := [some (.ref a0)]) (st' := [.int x5, .ref a0]) (h' := h) 1 (fun n => fld_eq (E := E) e _) ?_
      refine zT_st (pc' := 44) (L' := [some (.ref a0)]) (st' := [.int 1, .int x5, .ref a0]) (h' := h) 1 (fun n => rfl) ?_
      by_cases hc : x5 = 1
      · rw [if_pos hc] at hw
        refine zT_st (pc' := 56) (L' := [some (.ref a0)]) (st' := [.ref a0]) (h' := h) 1 (fun n => if_pos hc) ?_
        refine zT_st (pc' := 61) (L' := [some (.ref a0)]) (st' := [.int 2, .ref a0]) (h' := h) 2 (fun n => rfl) ?_
        obtain ⟨hq, hw⟩ := hw
        obtain ⟨h7, hx, hw⟩ := hw
        refine zT_call (pc' := 64) (rest := []) 1 (fun n => rfl) hq hx ?_
        show zT E (d + 1) m_m_deeper 64 [some (.ref a0)] [] h7 r
        subst hw
        exact zT_ret 1 rfl
      · rw [if_neg hc] at hw
        refine zT_st (pc' := 47) (L' := [some (.ref a0)]) (st' := [.ref a0]) (h' := h) 1 (fun n => if_neg hc) ?_
        refine zT_st (pc' := 50) (L' := [some (.ref a0)]) (st' := [.int 40, .ref a0, .ref a0]) (h' := h) 2 (fun n => rfl) ?_
        obtain ⟨hq, hw⟩ := hw
        obtain ⟨x8, h9, hx, hw⟩ := hw
        refine zT_call (pc' := 53) (rest := [.ref a0]) 1 (fun n => rfl) hq hx ?_
        show zT E (d + 1) m_m_deeper 53 [some (.ref a0)] [.int x8, .ref a0] h9 r
        by_cases hc : x8 = 0
        · rw [if_pos hc] at hw
          refine zT_st (pc' := 60) (L' := [some (.ref a0)]) (st' := [.ref a0]) (h' := h9) 1 (fun n => if_pos hc) ?_
          refine zT_st (pc' := 61) (L' := [some (.ref a0)]) (st' := [.int 1, .ref a0]) (h' := h9) 1 (fun n => rfl) ?_
          obtain ⟨hq, hw⟩ := hw
          obtain ⟨h11, hx, hw⟩ := hw
          refine zT_call (pc' := 64) (rest := []) 1 (fun n => rfl) hq hx ?_
          show zT E (d + 1) m_m_deeper 64 [some (.ref a0)] [] h11 r
          subst hw
          exact zT_ret 1 rfl
        · rw [if_neg hc] at hw
          refine zT_st (pc' := 56) (L' := [some (.ref a0)]) (st' := [.ref a0]) (h' := h9) 1 (fun n => if_neg hc) ?_
          refine zT_st (pc' := 61) (L' := [some (.ref a0)]) (st' := [.int 2, .ref a0]) (h' := h9) 2 (fun n => rfl) ?_
          obtain ⟨hq, hw⟩ := hw
          obtain ⟨h13, hx, hw⟩ := hw
          refine zT_call (pc' := 64) (rest := []) 1 (fun n => rfl) hq hx ?_
          show zT E (d + 1) m_m_deeper 64 [some (.ref a0)] [] h13 r
          subst hw
          exact zT_ret 1 rfl
  · rw [if_neg hc] at hw
    refine zT_st (pc' := 9) (L' := [some (.ref a0)]) (st' := []) (h' := h) 1 (fun n => if_neg hc) ?_
    refine zT_st (pc' := 11) (L' := [some (.ref a0)]) (st' := [.ref a0, .ref a0]) (h' := h) 2 (fun n => rfl) ?_
    obtain ⟨x14, e, hw⟩ := hw
    refine zT_st (pc' := 14) (L' := [some (.ref a0)]) (st' := [.int x14, .ref a0]) (h' := h) 1 (fun n => fld_eq (E := E) e _) ?_
    refine zT_st (pc' := 16) (L' := [some (.ref a0)]) (st' := [.int (x14 + 1), .ref a0]) (h' := h) 2 (fun n => rfl) ?_
    obtain ⟨⟨w, e⟩, hw⟩ := hw
    refine zT_st (pc' := 19) (L' := [some (.ref a0)]) (st' := []) (h' := (setF h a0 33 (.int (x14 + 1)))) 1 (fun n => put_eq e rfl _ _) ?_
    refine zT_st (pc' := 20) (L' := [some (.ref a0)]) (st' := [.ref a0]) (h' := (setF h a0 33 (.int (x14 + 1)))) 1 (fun n => rfl) ?_
    obtain ⟨o15, e, hw⟩ := hw
    refine zT_st (pc' := 23) (L' := [some (.ref a0)]) (st' := [.ref o15]) (h' := (setF h a0 33 (.int (x14 + 1)))) 1 (fun n => fld_eq (E := E) e _) ?_
    refine zT_st (pc' := 24) (L' := [some (.ref a0)]) (st' := [.ref a0, .ref o15]) (h' := (setF h a0 33 (.int (x14 + 1)))) 1 (fun n => rfl) ?_
    obtain ⟨x16, e, hw⟩ := hw
    refine zT_st (pc' := 27) (L' := [some (.ref a0)]) (st' := [.int x16, .ref o15]) (h' := (setF h a0 33 (.int (x14 + 1)))) 1 (fun n => fld_eq (E := E) e _) ?_
    refine zT_st (pc' := 28) (L' := [some (.ref a0)]) (st' := [.int 0, .int x16, .ref o15]) (h' := (setF h a0 33 (.int (x14 + 1)))) 1 (fun n => rfl) ?_
    obtain ⟨n17, f18, e, hi, hz, hw⟩ := hw
    refine zT_st (pc' := 29) (L' := [some (.ref a0)]) (st' := []) (h' := (setZ (setF h a0 33 (.int (x14 + 1))) o15 n17 (upd f18 (x16).toNatClampNeg 0))) 1 (fun n => seZ_eq e hi hz _ _) ?_
    subst hw
    exact zT_ret 1 rfl
set_option maxRecDepth 4000 in
theorem s_m_drops_0 (E : zX) (d : Nat) (a0 : Nat) (a1 : Int32) (h : zH) (r : zO × zH)
    (hw : ∃ x1 : Int32, fld h a0 12 32 = some (.int x1) ∧
    if x1 ≤ 0 then (
      r = (.inl (none), h))
    else (
      ∃ o2 : Nat, fld h a0 12 38 = some (.ref o2) ∧
      ∃ x3 : Int32, fld h a0 12 32 = some (.int x3) ∧
      ∃ (n4 : Nat) (f5 : Nat → Int32), arr h o2 = some (n4, f5) ∧ ¬ ((x3 - 1) < 0 ∨ n4 ≤ ((x3 - 1)).toNatClampNeg) ∧
      ∃ (x6 : Int32) (h7 : zH), zT E d m_m_isOpen 0 [some (.int (f5 ((x3 - 1)).toNatClampNeg))] [] h (.inl (some (.int x6)), h7) ∧
      if x6 = 0 then (
        ∃ o8 : Nat, fld h7 a0 12 38 = some (.ref o8) ∧
        ∃ x9 : Int32, fld h7 a0 12 32 = some (.int x9) ∧
        ∃ (n10 : Nat) (f11 : Nat → Int32), arr h7 o8 = some (n10, f11) ∧ ¬ ((x9 - 1) < 0 ∨ n10 ≤ ((x9 - 1)).toNatClampNeg) ∧
        ∃ (x12 : Int32) (h13 : zH), zT E d m_m_strength 0 [some (.int (f11 ((x9 - 1)).toNatClampNeg))] [] h7 (.inl (some (.int x12)), h13) ∧
        if x12 < a1 then (
          r = (.inl (none), h13))
        else (
          ∃ x14 : Int32, fld h13 a0 12 32 = some (.int x14) ∧
          (∃ w, fld h13 a0 12 32 = some w) ∧
          ∃ o15 : Nat, fld (setF h13 a0 32 (.int (x14 - 1))) a0 12 38 = some (.ref o15) ∧
          ∃ x16 : Int32, fld (setF h13 a0 32 (.int (x14 - 1))) a0 12 32 = some (.int x16) ∧
          ∃ (n17 : Nat) (f18 : Nat → Int32), arr (setF h13 a0 32 (.int (x14 - 1))) o15 = some (n17, f18) ∧ ¬ (x16 < 0 ∨ n17 ≤ (x16).toNatClampNeg) ∧
          isO (setF h13 a0 32 (.int (x14 - 1))) a0 12 = true ∧ ∃ (h20 : zH), zT E d m_m_puts 0 [some (.ref a0), some (.int (f18 (x16).toNatClampNeg))] [] (setF h13 a0 32 (.int (x14 - 1))) (.inl none, h20) ∧
          zT E (d + 1) m_m_drops 0 [some (.ref a0), some (.int a1)] [] h20 r))
      else (
        r = (.inl (none), h7)))) :
    zT E (d + 1) m_m_drops 0 [some (.ref a0), some (.int a1)] [] h r := by
  refine zT_st (pc' := 1) (L' := [some (.ref a0), some (.int a1)]) (st' := [.ref a0]) (h' := h) 1 (fun n => rfl) ?_
  obtain ⟨x1, e, hw⟩ := hw
  refine zT_st (pc' := 4) (L' := [some (.ref a0), some (.int a1)]) (st' := [.int x1]) (h' := h) 1 (fun n => fld_eq (E := E) e _) ?_
  by_cases hc : x1 ≤ 0
  · rw [if_pos hc] at hw
    refine zT_st (pc' := 68) (L' := [some (.ref a0), some (.int a1)]) (st' := []) (h' := h) 1 (fun n => if_pos hc) ?_
    subst hw
    exact zT_ret 1 rfl
  · rw [if_neg hc] at hw
    refine zT_st (pc' := 7) (L' := [some (.ref a0), some (.int a1)]) (st' := []) (h' := h) 1 (fun n => if_neg hc) ?_
    refine zT_st (pc' := 8) (L' := [some (.ref a0), some (.int a1)]) (st' := [.ref a0]) (h' := h) 1 (fun n => rfl) ?_
    obtain ⟨o2, e, hw⟩ := hw
    refine zT_st (pc' := 11) (L' := [some (.ref a0), some (.int a1)]) (st' := [.ref o2]) (h' := h) 1 (fun n => fld_eq (E := E) e _) ?_
    refine zT_st (pc' := 12) (L' := [some (.ref a0), some (.int a1)]) (st' := [.ref a0, .ref o2]) (h' := h) 1 (fun n => rfl) ?_
    obtain ⟨x3, e, hw⟩ := hw
    refine zT_st (pc' := 15) (L' := [some (.ref a0), some (.int a1)]) (st' := [.int x3, .ref o2]) (h' := h) 1 (fun n => fld_eq (E := E) e _) ?_
    refine zT_st (pc' := 17) (L' := [some (.ref a0), some (.int a1)]) (st' := [.int (x3 - 1), .ref o2]) (h' := h) 2 (fun n => rfl) ?_
    obtain ⟨n4, f5, e, hi, hw⟩ := hw
    refine zT_st (pc' := 18) (L' := [some (.ref a0), some (.int a1)]) (st' := [.int (f5 ((x3 - 1)).toNatClampNeg)]) (h' := h) 1 (fun n => arr_eq (E := E) e hi [] (fun st => zrun zP zCd E n (d + 1) m_m_drops 18 [some (.ref a0), some (.int a1)] st h)) ?_
    obtain ⟨x6, h7, hx, hw⟩ := hw
    refine zT_call (pc' := 21) (rest := []) 1 (fun n => rfl) rfl hx ?_
    show zT E (d + 1) m_m_drops 21 [some (.ref a0), some (.int a1)] [.int x6] h7 r
    by_cases hc : x6 = 0
    · rw [if_pos hc] at hw
      refine zT_st (pc' := 24) (L' := [some (.ref a0), some (.int a1)]) (st' := []) (h' := h7) 1 (fun n => if_pos hc) ?_
      refine zT_st (pc' := 25) (L' := [some (.ref a0), some (.int a1)]) (st' := [.ref a0]) (h' := h7) 1 (fun n => rfl) ?_
      obtain ⟨o8, e, hw⟩ := hw
      refine zT_st (pc' := 28) (L' := [some (.ref a0), some (.int a1)]) (st' := [.ref o8]) (h' := h7) 1 (fun n => fld_eq (E := E) e _) ?_
      refine zT_st (pc' := 29) (L' := [some (.ref a0), some (.int a1)]) (st' := [.ref a0, .ref o8]) (h' := h7) 1 (fun n => rfl) ?_
      obtain ⟨x9, e, hw⟩ := hw
      refine zT_st (pc' := 32) (L' := [some (.ref a0), some (.int a1)]) (st' := [.int x9, .ref o8]) (h' := h7) 1 (fun n => fld_eq (E := E) e _) ?_
      refine zT_st (pc' := 34) (L' := [some (.ref a0), some (.int a1)]) (st' := [.int (x9 - 1), .ref o8]) (h' := h7) 2 (fun n => rfl) ?_
      obtain ⟨n10, f11, e, hi, hw⟩ := hw
      refine zT_st (pc' := 35) (L' := [some (.ref a0), some (.int a1)]) (st' := [.int (f11 ((x9 - 1)).toNatClampNeg)]) (h' := h7) 1 (fun n => arr_eq (E := E) e hi [] (fun st => zrun zP zCd E n (d + 1) m_m_drops 35 [some (.ref a0), some (.int a1)] st h7)) ?_
      obtain ⟨x12, h13, hx, hw⟩ := hw
      refine zT_call (pc' := 38) (rest := []) 1 (fun n => rfl) rfl hx ?_
      show zT E (d + 1) m_m_drops 38 [some (.ref a0), some (.int a1)] [.int x12] h13 r
      refine zT_st (pc' := 39) (L' := [some (.ref a0), some (.int a1)]) (st' := [.int a1, .int x12]) (h' := h13) 1 (fun n => rfl) ?_
      by_cases hc : x12 < a1
      · rw [if_pos hc] at hw
        refine zT_st (pc' := 68) (L' := [some (.ref a0), some (.int a1)]) (st' := []) (h' := h13) 1 (fun n => if_pos hc) ?_
        subst hw
        exact zT_ret 1 rfl
      · rw [if_neg hc] at hw
        refine zT_st (pc' := 42) (L' := [some (.ref a0), some (.int a1)]) (st' := []) (h' := h13) 1 (fun n => if_neg hc) ?_
        refine zT_st (pc' := 44) (L' := [some (.ref a0), some (.int a1)]) (st' := [.ref a0, .ref a0]) (h' := h13) 2 (fun n => rfl) ?_
        obtain ⟨x14, e, hw⟩ := hw
        refine zT_st (pc' := 47) (L' := [some (.ref a0), some (.int a1)]) (st' := [.int x14, .ref a0]) (h' := h13) 1 (fun n => fld_eq (E := E) e _) ?_
        refine zT_st (pc' := 49) (L' := [some (.ref a0), some (.int a1)]) (st' := [.int (x14 - 1), .ref a0]) (h' := h13) 2 (fun n => rfl) ?_
        obtain ⟨⟨w, e⟩, hw⟩ := hw
        refine zT_st (pc' := 52) (L' := [some (.ref a0), some (.int a1)]) (st' := []) (h' := (setF h13 a0 32 (.int (x14 - 1)))) 1 (fun n => put_eq e rfl _ _) ?_
        refine zT_st (pc' := 54) (L' := [some (.ref a0), some (.int a1)]) (st' := [.ref a0, .ref a0]) (h' := (setF h13 a0 32 (.int (x14 - 1)))) 2 (fun n => rfl) ?_
        obtain ⟨o15, e, hw⟩ := hw
        refine zT_st (pc' := 57) (L' := [some (.ref a0), some (.int a1)]) (st' := [.ref o15, .ref a0]) (h' := (setF h13 a0 32 (.int (x14 - 1)))) 1 (fun n => fld_eq (E := E) e _) ?_
        refine zT_st (pc' := 58) (L' := [some (.ref a0), some (.int a1)]) (st' := [.ref a0, .ref o15, .ref a0]) (h' := (setF h13 a0 32 (.int (x14 - 1)))) 1 (fun n => rfl) ?_
        obtain ⟨x16, e, hw⟩ := hw
        refine zT_st (pc' := 61) (L' := [some (.ref a0), some (.int a1)]) (st' := [.int x16, .ref o15, .ref a0]) (h' := (setF h13 a0 32 (.int (x14 - 1)))) 1 (fun n => fld_eq (E := E) e _) ?_
        obtain ⟨n17, f18, e, hi, hw⟩ := hw
        refine zT_st (pc' := 62) (L' := [some (.ref a0), some (.int a1)]) (st' := [.int (f18 (x16).toNatClampNeg), .ref a0]) (h' := (setF h13 a0 32 (.int (x14 - 1)))) 1 (fun n => arr_eq (E := E) e hi [.ref a0] (fun st => zrun zP zCd E n (d + 1) m_m_drops 62 [some (.ref a0), some (.int a1)] st (setF h13 a0 32 (.int (x14 - 1))))) ?_
        obtain ⟨hq, hw⟩ := hw
        obtain ⟨h20, hx, hw⟩ := hw
        refine zT_call (pc' := 65) (rest := []) 1 (fun n => rfl) hq hx ?_
        show zT E (d + 1) m_m_drops 65 [some (.ref a0), some (.int a1)] [] h20 r
        exact zT_st 1 (fun n => rfl) hw
    · rw [if_neg hc] at hw
      refine zT_st (pc' := 68) (L' := [some (.ref a0), some (.int a1)]) (st' := []) (h' := h7) 1 (fun n => if_neg hc) ?_
      subst hw
      exact zT_ret 1 rfl
set_option maxRecDepth 4000 in
theorem s_m_isOpen_0 (E : zX) (d : Nat) (a0 : Int32) (h : zH) (r : zO × zH)
    (hw : if a0 < 14 then (
      r = (.inl (some (.int 0)), h))
    else (
      r = (.inl (some (.int 1)), h))) :
    zT E d m_m_isOpen 0 [some (.int a0)] [] h r := by
  refine zT_st (pc' := 3) (L' := [some (.int a0)]) (st' := [.int 14, .int a0]) (h' := h) 2 (fun n => rfl) ?_
  by_cases hc : a0 < 14
  · rw [if_pos hc] at hw
    refine zT_st (pc' := 10) (L' := [some (.int a0)]) (st' := []) (h' := h) 1 (fun n => if_pos hc) ?_
    subst hw
    exact zT_ret 2 rfl
  · rw [if_neg hc] at hw
    refine zT_st (pc' := 6) (L' := [some (.int a0)]) (st' := []) (h' := h) 1 (fun n => if_neg hc) ?_
    subst hw
    exact zT_ret 3 rfl
set_option maxRecDepth 4000 in
theorem s_m_isOpened_0 (E : zX) (d : Nat) (a0 : Nat) (h : zH) (r : zO × zH)
    (hw : ∃ x1 : Int32, fld h a0 12 32 = some (.int x1) ∧
    zT E (d + 1) m_m_isOpened 7 [some (.ref a0), some (.int (x1 - 1))] [] h r) :
    zT E (d + 1) m_m_isOpened 0 [some (.ref a0), none] [] h r := by
  refine zT_st (pc' := 1) (L' := [some (.ref a0), none]) (st' := [.ref a0]) (h' := h) 1 (fun n => rfl) ?_
  obtain ⟨x1, e, hw⟩ := hw
  refine zT_st (pc' := 4) (L' := [some (.ref a0), none]) (st' := [.int x1]) (h' := h) 1 (fun n => fld_eq (E := E) e _) ?_
  exact zT_st 3 (fun n => rfl) hw
set_option maxRecDepth 4000 in
theorem s_m_isOpened_7 (E : zX) (d : Nat) (a0 : Nat) (a1 : Int32) (h : zH) (r : zO × zH)
    (hw : if a1 < 0 then (
      if a1 < 0 then (
        r = (.inl (some (.int 0)), h))
      else (
        r = (.inl (some (.int 1)), h)))
    else (
      ∃ o1 : Nat, fld h a0 12 38 = some (.ref o1) ∧
      ∃ (n2 : Nat) (f3 : Nat → Int32), arr h o1 = some (n2, f3) ∧ ¬ (a1 < 0 ∨ n2 ≤ (a1).toNatClampNeg) ∧
      ∃ (x4 : Int32) (h5 : zH), zT E d m_m_isOpen 0 [some (.int (f3 (a1).toNatClampNeg))] [] h (.inl (some (.int x4)), h5) ∧
      if x4 = 0 then (
        zT E (d + 1) m_m_isOpened 7 [some (.ref a0), some (.int (a1 + (-1)))] [] h5 r)
      else (
        if a1 < 0 then (
          r = (.inl (some (.int 0)), h5))
        else (
          r = (.inl (some (.int 1)), h5))))) :
    zT E (d + 1) m_m_isOpened 7 [some (.ref a0), some (.int a1)] [] h r := by
  refine zT_st (pc' := 8) (L' := [some (.ref a0), some (.int a1)]) (st' := [.int a1]) (h' := h) 1 (fun n => rfl) ?_
  by_cases hc : a1 < 0
  · rw [if_pos hc] at hw
    refine zT_st (pc' := 29) (L' := [some (.ref a0), some (.int a1)]) (st' := []) (h' := h) 1 (fun n => if_pos hc) ?_
    refine zT_st (pc' := 30) (L' := [some (.ref a0), some (.int a1)]) (st' := [.int a1]) (h' := h) 1 (fun n => rfl) ?_
    by_cases hc : a1 < 0
    · rw [if_pos hc] at hw
      refine zT_st (pc' := 37) (L' := [some (.ref a0), some (.int a1)]) (st' := []) (h' := h) 1 (fun n => if_pos hc) ?_
      subst hw
      exact zT_ret 2 rfl
    · rw [if_neg hc] at hw
      refine zT_st (pc' := 33) (L' := [some (.ref a0), some (.int a1)]) (st' := []) (h' := h) 1 (fun n => if_neg hc) ?_
      subst hw
      exact zT_ret 3 rfl
  · rw [if_neg hc] at hw
    refine zT_st (pc' := 11) (L' := [some (.ref a0), some (.int a1)]) (st' := []) (h' := h) 1 (fun n => if_neg hc) ?_
    refine zT_st (pc' := 12) (L' := [some (.ref a0), some (.int a1)]) (st' := [.ref a0]) (h' := h) 1 (fun n => rfl) ?_
    obtain ⟨o1, e, hw⟩ := hw
    refine zT_st (pc' := 15) (L' := [some (.ref a0), some (.int a1)]) (st' := [.ref o1]) (h' := h) 1 (fun n => fld_eq (E := E) e _) ?_
    refine zT_st (pc' := 16) (L' := [some (.ref a0), some (.int a1)]) (st' := [.int a1, .ref o1]) (h' := h) 1 (fun n => rfl) ?_
    obtain ⟨n2, f3, e, hi, hw⟩ := hw
    refine zT_st (pc' := 17) (L' := [some (.ref a0), some (.int a1)]) (st' := [.int (f3 (a1).toNatClampNeg)]) (h' := h) 1 (fun n => arr_eq (E := E) e hi [] (fun st => zrun zP zCd E n (d + 1) m_m_isOpened 17 [some (.ref a0), some (.int a1)] st h)) ?_
    obtain ⟨x4, h5, hx, hw⟩ := hw
    refine zT_call (pc' := 20) (rest := []) 1 (fun n => rfl) rfl hx ?_
    show zT E (d + 1) m_m_isOpened 20 [some (.ref a0), some (.int a1)] [.int x4] h5 r
    by_cases hc : x4 = 0
    · rw [if_pos hc] at hw
      refine zT_st (pc' := 23) (L' := [some (.ref a0), some (.int a1)]) (st' := []) (h' := h5) 1 (fun n => if_pos hc) ?_
      exact zT_st 2 (fun n => rfl) hw
    · rw [if_neg hc] at hw
      refine zT_st (pc' := 29) (L' := [some (.ref a0), some (.int a1)]) (st' := []) (h' := h5) 1 (fun n => if_neg hc) ?_
      refine zT_st (pc' := 30) (L' := [some (.ref a0), some (.int a1)]) (st' := [.int a1]) (h' := h5) 1 (fun n => rfl) ?_
      by_cases hc : a1 < 0
      · rw [if_pos hc] at hw
        refine zT_st (pc' := 37) (L' := [some (.ref a0), some (.int a1)]) (st' := []) (h' := h5) 1 (fun n => if_pos hc) ?_
        subst hw
        exact zT_ret 2 rfl
      · rw [if_neg hc] at hw
        refine zT_st (pc' := 33) (L' := [some (.ref a0), some (.int a1)]) (st' := []) (h' := h5) 1 (fun n => if_neg hc) ?_
        subst hw
        exact zT_ret 3 rfl
set_option maxRecDepth 4000 in
theorem s_m_closes_0 (E : zX) (d : Nat) (a0 : Nat) (h : zH) (r : zO × zH)
    (hw : isO h a0 12 = true ∧ ∃ (h2 : zH), zT E d m_m_drops 0 [some (.ref a0), some (.int 0)] [] h (.inl none, h2) ∧
    ∃ x3 : Int32, fld h2 a0 12 32 = some (.int x3) ∧
    (∃ w, fld h2 a0 12 32 = some w) ∧
    ∃ x4 : Int32, fld (setF h2 a0 32 (.int (x3 - 1))) a0 12 33 = some (.int x4) ∧
    (∃ w, fld (setF h2 a0 32 (.int (x3 - 1))) a0 12 33 = some w) ∧
    isO (setF (setF h2 a0 32 (.int (x3 - 1))) a0 33 (.int (x4 - 1))) a0 12 = true ∧ ∃ (h6 : zH), zT E d m_m_goes 0 [some (.ref a0), none] [] (setF (setF h2 a0 32 (.int (x3 - 1))) a0 33 (.int (x4 - 1))) (.inl none, h6) ∧
    r = (.inl (none), h6)) :
    zT E (d + 1) m_m_closes 0 [some (.ref a0)] [] h r := by
  refine zT_st (pc' := 2) (L' := [some (.ref a0)]) (st' := [.int 0, .ref a0]) (h' := h) 2 (fun n => rfl) ?_
  obtain ⟨hq, hw⟩ := hw
  obtain ⟨h2, hx, hw⟩ := hw
  refine zT_call (pc' := 5) (rest := []) 1 (fun n => rfl) hq hx ?_
  show zT E (d + 1) m_m_closes 5 [some (.ref a0)] [] h2 r
  refine zT_st (pc' := 7) (L' := [some (.ref a0)]) (st' := [.ref a0, .ref a0]) (h' := h2) 2 (fun n => rfl) ?_
  obtain ⟨x3, e, hw⟩ := hw
  refine zT_st (pc' := 10) (L' := [some (.ref a0)]) (st' := [.int x3, .ref a0]) (h' := h2) 1 (fun n => fld_eq (E := E) e _) ?_
  refine zT_st (pc' := 12) (L' := [some (.ref a0)]) (st' := [.int (x3 - 1), .ref a0]) (h' := h2) 2 (fun n => rfl) ?_
  obtain ⟨⟨w, e⟩, hw⟩ := hw
  refine zT_st (pc' := 15) (L' := [some (.ref a0)]) (st' := []) (h' := (setF h2 a0 32 (.int (x3 - 1)))) 1 (fun n => put_eq e rfl _ _) ?_
  refine zT_st (pc' := 17) (L' := [some (.ref a0)]) (st' := [.ref a0, .ref a0]) (h' := (setF h2 a0 32 (.int (x3 - 1)))) 2 (fun n => rfl) ?_
  obtain ⟨x4, e, hw⟩ := hw
  refine zT_st (pc' := 20) (L' := [some (.ref a0)]) (st' := [.int x4, .ref a0]) (h' := (setF h2 a0 32 (.int (x3 - 1)))) 1 (fun n => fld_eq (E := E) e _) ?_
  refine zT_st (pc' := 22) (L' := [some (.ref a0)]) (st' := [.int (x4 - 1), .ref a0]) (h' := (setF h2 a0 32 (.int (x3 - 1)))) 2 (fun n => rfl) ?_
  obtain ⟨⟨w, e⟩, hw⟩ := hw
  refine zT_st (pc' := 25) (L' := [some (.ref a0)]) (st' := []) (h' := (setF (setF h2 a0 32 (.int (x3 - 1))) a0 33 (.int (x4 - 1)))) 1 (fun n => put_eq e rfl _ _) ?_
  refine zT_st (pc' := 26) (L' := [some (.ref a0)]) (st' := [.ref a0]) (h' := (setF (setF h2 a0 32 (.int (x3 - 1))) a0 33 (.int (x4 - 1)))) 1 (fun n => rfl) ?_
  obtain ⟨hq, hw⟩ := hw
  obtain ⟨h6, hx, hw⟩ := hw
  refine zT_call (pc' := 29) (rest := []) 1 (fun n => rfl) hq hx ?_
  show zT E (d + 1) m_m_closes 29 [some (.ref a0)] [] h6 r
  subst hw
  exact zT_ret 1 rfl
set_option maxRecDepth 4000 in
theorem s_m_copies_0 (E : zX) (d : Nat) (a0 : Nat) (a1 : Nat) (a2 : Nat) (h : zH) (r : zO × zH)
    (hw : zT E d m_m_copies 2 [some (.ref a0), some (.ref a1), some (.ref a2), some (.int 0)] [] h r) :
    zT E d m_m_copies 0 [some (.ref a0), some (.ref a1), some (.ref a2), none] [] h r := by
  exact zT_st 2 (fun n => rfl) hw
set_option maxRecDepth 4000 in
theorem s_m_copies_2 (E : zX) (d : Nat) (j0 : Option Value) (a1 : Nat) (a2 : Nat) (a3 : Int32) (h : zH) (r : zO × zH)
    (hw : ∃ (n1 : Nat) (f2 : Nat → Int32), arr h a1 = some (n1, f2) ∧
    if (Int32.ofNat n1) ≤ a3 then (
      r = (.inl (none), h))
    else (
      ∃ (n3 : Nat) (f4 : Nat → Int32), arr h a1 = some (n3, f4) ∧ ¬ (a3 < 0 ∨ n3 ≤ (a3).toNatClampNeg) ∧
      ∃ (n5 : Nat) (f6 : Nat → Int32), arr h a2 = some (n5, f6) ∧ ¬ (a3 < 0 ∨ n5 ≤ (a3).toNatClampNeg) ∧
      zT E d m_m_copies 2 [j0, some (.ref a1), some (.ref a2), some (.int (a3 + 1))] [] (setA h a2 n5 (upd f6 (a3).toNatClampNeg (f4 (a3).toNatClampNeg))) r)) :
    zT E d m_m_copies 2 [j0, some (.ref a1), some (.ref a2), some (.int a3)] [] h r := by
  refine zT_st (pc' := 4) (L' := [j0, some (.ref a1), some (.ref a2), some (.int a3)]) (st' := [.ref a1, .int a3]) (h' := h) 2 (fun n => rfl) ?_
  obtain ⟨n1, f2, e, hw⟩ := hw
  refine zT_st (pc' := 5) (L' := [j0, some (.ref a1), some (.ref a2), some (.int a3)]) (st' := [.int (Int32.ofNat n1), .int a3]) (h' := h) 1 (fun n => len_eq (E := E) e [.int a3] (fun st => zrun zP zCd E n d m_m_copies 5 [j0, some (.ref a1), some (.ref a2), some (.int a3)] st h)) ?_
  by_cases hc : (Int32.ofNat n1) ≤ a3
  · rw [if_pos hc] at hw
    refine zT_st (pc' := 20) (L' := [j0, some (.ref a1), some (.ref a2), some (.int a3)]) (st' := []) (h' := h) 1 (fun n => if_pos hc) ?_
    subst hw
    exact zT_ret 1 rfl
  · rw [if_neg hc] at hw
    refine zT_st (pc' := 8) (L' := [j0, some (.ref a1), some (.ref a2), some (.int a3)]) (st' := []) (h' := h) 1 (fun n => if_neg hc) ?_
    refine zT_st (pc' := 12) (L' := [j0, some (.ref a1), some (.ref a2), some (.int a3)]) (st' := [.int a3, .ref a1, .int a3, .ref a2]) (h' := h) 4 (fun n => rfl) ?_
    obtain ⟨n3, f4, e, hi, hw⟩ := hw
    refine zT_st (pc' := 13) (L' := [j0, some (.ref a1), some (.ref a2), some (.int a3)]) (st' := [.int (f4 (a3).toNatClampNeg), .int a3, .ref a2]) (h' := h) 1 (fun n => arr_eq (E := E) e hi [.int a3, .ref a2] (fun st => zrun zP zCd E n d m_m_copies 13 [j0, some (.ref a1), some (.ref a2), some (.int a3)] st h)) ?_
    obtain ⟨n5, f6, e, hi, hw⟩ := hw
    refine zT_st (pc' := 14) (L' := [j0, some (.ref a1), some (.ref a2), some (.int a3)]) (st' := []) (h' := (setA h a2 n5 (upd f6 (a3).toNatClampNeg (f4 (a3).toNatClampNeg)))) 1 (fun n => set_eq e hi _ _) ?_
    exact zT_st 2 (fun n => rfl) hw
set_option maxRecDepth 4000 in
theorem s_m_fault_0 (E : zX) (d : Nat) (a0 : Nat) (h : zH) (r : zO × zH)
    (hw : (∃ w, fld h a0 12 0 = some w) ∧
    ∃ x1 : Int32, fld (setF h a0 0 (.int 0)) a0 12 13 = some (.int x1) ∧
    r = (.inl (some (.int x1)), (setF h a0 0 (.int 0)))) :
    zT E d m_m_fault 0 [some (.ref a0)] [] h r := by
  refine zT_st (pc' := 2) (L' := [some (.ref a0)]) (st' := [.int 0, .ref a0]) (h' := h) 2 (fun n => rfl) ?_
  obtain ⟨⟨w, e⟩, hw⟩ := hw
  refine zT_st (pc' := 5) (L' := [some (.ref a0)]) (st' := []) (h' := (setF h a0 0 (.int 0))) 1 (fun n => put_eq e rfl _ _) ?_
  refine zT_st (pc' := 6) (L' := [some (.ref a0)]) (st' := [.ref a0]) (h' := (setF h a0 0 (.int 0))) 1 (fun n => rfl) ?_
  obtain ⟨x1, e, hw⟩ := hw
  refine zT_st (pc' := 9) (L' := [some (.ref a0)]) (st' := [.int x1]) (h' := (setF h a0 0 (.int 0))) 1 (fun n => fld_eq (E := E) e _) ?_
  subst hw
  exact zT_ret 1 rfl
set_option maxRecDepth 4000 in
theorem s_m_count_0 (E : zX) (d : Nat) (a0 : Nat) (a1 : Int32) (h : zH) (r : zO × zH)
    (hw : (∃ w, fld h a0 12 0 = some w) ∧
    ∃ (x1 : Int32) (h2 : zH), zT E d m_m_within 0 [some (.int a1), some (.int 0), some (.int 16)] [] (setF h a0 0 (.int 0)) (.inl (some (.int x1)), h2) ∧
    isO h2 a0 12 = true ∧ ∃ (x3 : Int32) (h4 : zH), zT E d m_m_right 0 [some (.ref a0), some (.int x1), some (.int 1)] [] h2 (.inl (some (.int x3)), h4) ∧
    if x3 = 0 then (
      r = (.inl (some (.int 0)), h4))
    else (
      if a1 = 0 then (
        ∃ x5 : Int32, fld h4 a0 12 3 = some (.int x5) ∧
        r = (.inl (some (.int x5)), h4))
      else if a1 = 1 then (
        ∃ x6 : Int32, fld h4 a0 12 4 = some (.int x6) ∧
        r = (.inl (some (.int x6)), h4))
      else if a1 = 2 then (
        ∃ x7 : Int32, fld h4 a0 12 1 = some (.int x7) ∧
        r = (.inl (some (.int x7)), h4))
      else if a1 = 3 then (
        ∃ x8 : Int32, fld h4 a0 12 2 = some (.int x8) ∧
        r = (.inl (some (.int x8)), h4))
      else if a1 = 4 then (
        ∃ o9 : Nat, fld h4 a0 12 40 = some (.ref o9) ∧
        ∃ (n10 : Nat) (f11 : Nat → Int32), arr h4 o9 = some (n10, f11) ∧ ¬ ((0 : Int32) < 0 ∨ n10 ≤ ((0 : Int32)).toNatClampNeg) ∧
        r = (.inl (some (.int (f11 ((0 : Int32)).toNatClampNeg))), h4))
      else if a1 = 5 then (
        ∃ x12 : Int32, fld h4 a0 12 4 = some (.int x12) ∧
        isO h4 a0 12 = true ∧ ∃ (x13 : Int32) (h14 : zH), zT E d m_m_heldOnes 0 [some (.ref a0), some (.int 0), none, none] [] h4 (.inl (some (.int x13)), h14) ∧
        r = (.inl (some (.int (((1 <<< (x12 &&& 31)) - 1) &&& (x13 ^^^ (-1))))), h14))
      else if a1 = 6 then (
        isO h4 a0 12 = true ∧ ∃ (x15 : Int32) (h16 : zH), zT E d m_m_guardedOnes 0 [some (.ref a0), some (.int 0), none, none] [] h4 (.inl (some (.int x15)), h16) ∧
        r = (.inl (some (.int x15)), h16))
      else if a1 = 7 then (
        ∃ x17 : Int32, fld h4 a0 12 4 = some (.int x17) ∧
        isO h4 a0 12 = true ∧ ∃ (x18 : Int32) (h19 : zH), zT E d m_m_sumOf 0 [some (.ref a0), some (.int 0), some (.int 39), some (.int x17), none, none] [] h4 (.inl (some (.int x18)), h19) ∧
        r = (.inl (some (.int x18)), h19))
      else if a1 = 8 then (
        ∃ x20 : Int32, fld h4 a0 12 3 = some (.int x20) ∧
        isO h4 a0 12 = true ∧ ∃ (x21 : Int32) (h22 : zH), zT E d m_m_sumOf 0 [some (.ref a0), some (.int 0), some (.int 1), some (.int x20), none, none] [] h4 (.inl (some (.int x21)), h22) ∧
        r = (.inl (some (.int x21)), h22))
      else if a1 = 9 then (
        ∃ x23 : Int32, fld h4 a0 12 3 = some (.int x23) ∧
        isO h4 a0 12 = true ∧ ∃ (x24 : Int32) (h25 : zH), zT E d m_m_sumOf 0 [some (.ref a0), some (.int 0), some (.int 8), some (.int x23), none, none] [] h4 (.inl (some (.int x24)), h25) ∧
        r = (.inl (some (.int x24)), h25))
      else if a1 = 10 then (
        isO h4 a0 12 = true ∧ ∃ (x26 : Int32) (h27 : zH), zT E d m_m_allAtOnce 0 [some (.ref a0), none, none, none] [] h4 (.inl (some (.int x26)), h27) ∧
        r = (.inl (some (.int x26)), h27))
      else if a1 = 11 then (
        ∃ x28 : Int32, fld h4 a0 12 42 = some (.int x28) ∧
        r = (.inl (some (.int x28)), h4))
      else if a1 = 12 then (
        ∃ x29 : Int32, fld h4 a0 12 53 = some (.int x29) ∧
        r = (.inl (some (.int x29)), h4))
      else if a1 = 13 then (
        ∃ x30 : Int32, fld h4 a0 12 11 = some (.int x30) ∧
        r = (.inl (some (.int x30)), h4))
      else (
        ∃ o31 : Nat, fld h4 a0 12 14 = some (.ref o31) ∧
        ∃ (n32 : Nat) (f33 : Nat → Int32), arr h4 o31 = some (n32, f33) ∧ ¬ ((a1 - 14) < 0 ∨ n32 ≤ ((a1 - 14)).toNatClampNeg) ∧
        r = (.inl (some (.int (f33 ((a1 - 14)).toNatClampNeg))), h4)))) :
    zT E (d + 1) m_m_count 0 [some (.ref a0), some (.int a1)] [] h r := by
  refine zT_st (pc' := 2) (L' := [some (.ref a0), some (.int a1)]) (st' := [.int 0, .ref a0]) (h' := h) 2 (fun n => rfl) ?_
  obtain ⟨⟨w, e⟩, hw⟩ := hw
  refine zT_st (pc' := 5) (L' := [some (.ref a0), some (.int a1)]) (st' := []) (h' := (setF h a0 0 (.int 0))) 1 (fun n => put_eq e rfl _ _) ?_
  refine zT_st (pc' := 10) (L' := [some (.ref a0), some (.int a1)]) (st' := [.int 16, .int 0, .int a1, .ref a0]) (h' := (setF h a0 0 (.int 0))) 4 (fun n => rfl) ?_
  obtain ⟨x1, h2, hx, hw⟩ := hw
  refine zT_call (pc' := 13) (rest := [.ref a0]) 1 (fun n => rfl) rfl hx ?_
  show zT E (d + 1) m_m_count 13 [some (.ref a0), some (.int a1)] [.int x1, .ref a0] h2 r
  refine zT_st (pc' := 14) (L' := [some (.ref a0), some (.int a1)]) (st' := [.int 1, .int x1, .ref a0]) (h' := h2) 1 (fun n => rfl) ?_
  obtain ⟨hq, hw⟩ := hw
  obtain ⟨x3, h4, hx, hw⟩ := hw
  refine zT_call (pc' := 17) (rest := []) 1 (fun n => rfl) hq hx ?_
  show zT E (d + 1) m_m_count 17 [some (.ref a0), some (.int a1)] [.int x3] h4 r
  by_cases hc : x3 = 0
  · rw [if_pos hc] at hw
    refine zT_st (pc' := 20) (L' := [some (.ref a0), some (.int a1)]) (st' := []) (h' := h4) 1 (fun n => if_pos hc) ?_
    subst hw
    exact zT_ret 2 rfl
  · rw [if_neg hc] at hw
    refine zT_st (pc' := 22) (L' := [some (.ref a0), some (.int a1)]) (st' := []) (h' := h4) 1 (fun n => if_neg hc) ?_
    refine zT_st (pc' := 23) (L' := [some (.ref a0), some (.int a1)]) (st' := [.int a1]) (h' := h4) 1 (fun n => rfl) ?_
    by_cases c0 : a1 = 0
    · rw [if_pos c0] at hw
      refine zT_st (pc' := 92) (L' := [some (.ref a0), some (.int a1)]) (st' := []) (h' := h4) 1 (fun n => zsw_in c0 rfl) ?_
      refine zT_st (pc' := 93) (L' := [some (.ref a0), some (.int a1)]) (st' := [.ref a0]) (h' := h4) 1 (fun n => rfl) ?_
      obtain ⟨x5, e, hw⟩ := hw
      refine zT_st (pc' := 96) (L' := [some (.ref a0), some (.int a1)]) (st' := [.int x5]) (h' := h4) 1 (fun n => fld_eq (E := E) e _) ?_
      subst hw
      exact zT_ret 1 rfl
    rw [if_neg c0] at hw
    by_cases c1 : a1 = 1
    · rw [if_pos c1] at hw
      refine zT_st (pc' := 97) (L' := [some (.ref a0), some (.int a1)]) (st' := []) (h' := h4) 1 (fun n => zsw_in c1 rfl) ?_
      refine zT_st (pc' := 98) (L' := [some (.ref a0), some (.int a1)]) (st' := [.ref a0]) (h' := h4) 1 (fun n => rfl) ?_
      obtain ⟨x6, e, hw⟩ := hw
      refine zT_st (pc' := 101) (L' := [some (.ref a0), some (.int a1)]) (st' := [.int x6]) (h' := h4) 1 (fun n => fld_eq (E := E) e _) ?_
      subst hw
      exact zT_ret 1 rfl
    rw [if_neg c1] at hw
    by_cases c2 : a1 = 2
    · rw [if_pos c2] at hw
      refine zT_st (pc' := 102) (L' := [some (.ref a0), some (.int a1)]) (st' := []) (h' := h4) 1 (fun n => zsw_in c2 rfl) ?_
      refine zT_st (pc' := 103) (L' := [some (.ref a0), some (.int a1)]) (st' := [.ref a0]) (h' := h4) 1 (fun n => rfl) ?_
      obtain ⟨x7, e, hw⟩ := hw
      refine zT_st (pc' := 106) (L' := [some (.ref a0), some (.int a1)]) (st' := [.int x7]) (h' := h4) 1 (fun n => fld_eq (E := E) e _) ?_
      subst hw
      exact zT_ret 1 rfl
    rw [if_neg c2] at hw
    by_cases c3 : a1 = 3
    · rw [if_pos c3] at hw
      refine zT_st (pc' := 107) (L' := [some (.ref a0), some (.int a1)]) (st' := []) (h' := h4) 1 (fun n => zsw_in c3 rfl) ?_
      refine zT_st (pc' := 108) (L' := [some (.ref a0), some (.int a1)]) (st' := [.ref a0]) (h' := h4) 1 (fun n => rfl) ?_
      obtain ⟨x8, e, hw⟩ := hw
      refine zT_st (pc' := 111) (L' := [some (.ref a0), some (.int a1)]) (st' := [.int x8]) (h' := h4) 1 (fun n => fld_eq (E := E) e _) ?_
      subst hw
      exact zT_ret 1 rfl
    rw [if_neg c3] at hw
    by_cases c4 : a1 = 4
    · rw [if_pos c4] at hw
      refine zT_st (pc' := 112) (L' := [some (.ref a0), some (.int a1)]) (st' := []) (h' := h4) 1 (fun n => zsw_in c4 rfl) ?_
      refine zT_st (pc' := 113) (L' := [some (.ref a0), some (.int a1)]) (st' := [.ref a0]) (h' := h4) 1 (fun n => rfl) ?_
      obtain ⟨o9, e, hw⟩ := hw
      refine zT_st (pc' := 116) (L' := [some (.ref a0), some (.int a1)]) (st' := [.ref o9]) (h' := h4) 1 (fun n => fld_eq (E := E) e _) ?_
      refine zT_st (pc' := 117) (L' := [some (.ref a0), some (.int a1)]) (st' := [.int 0, .ref o9]) (h' := h4) 1 (fun n => rfl) ?_
      obtain ⟨n10, f11, e, hi, hw⟩ := hw
      refine zT_st (pc' := 118) (L' := [some (.ref a0), some (.int a1)]) (st' := [.int (f11 ((0 : Int32)).toNatClampNeg)]) (h' := h4) 1 (fun n => arr_eq (E := E) e hi [] (fun st => zrun zP zCd E n (d + 1) m_m_count 118 [some (.ref a0), some (.int a1)] st h4)) ?_
      subst hw
      exact zT_ret 1 rfl
    rw [if_neg c4] at hw
    by_cases c5 : a1 = 5
    · rw [if_pos c5] at hw
      refine zT_st (pc' := 119) (L' := [some (.ref a0), some (.int a1)]) (st' := []) (h' := h4) 1 (fun n => zsw_in c5 rfl) ?_
      refine zT_st (pc' := 121) (L' := [some (.ref a0), some (.int a1)]) (st' := [.ref a0, .int 1]) (h' := h4) 2 (fun n => rfl) ?_
      obtain ⟨x12, e, hw⟩ := hw
      refine zT_st (pc' := 124) (L' := [some (.ref a0), some (.int a1)]) (st' := [.int x12, .int 1]) (h' := h4) 1 (fun n => fld_eq (E := E) e _) ?_
      refine zT_st (pc' := 129) (L' := [some (.ref a0), some (.int a1)]) (st' := [.int 0, .ref a0, .int ((1 <<< (x12 &&& 31)) - 1)]) (h' := h4) 5 (fun n => rfl) ?_
      obtain ⟨hq, hw⟩ := hw
      obtain ⟨x13, h14, hx, hw⟩ := hw
      refine zT_call (pc' := 132) (rest := [.int ((1 <<< (x12 &&& 31)) - 1)]) 1 (fun n => rfl) hq hx ?_
      show zT E (d + 1) m_m_count 132 [some (.ref a0), some (.int a1)] [.int x13, .int ((1 <<< (x12 &&& 31)) - 1)] h14 r
      subst hw
      exact zT_ret 4 rfl
    rw [if_neg c5] at hw
    by_cases c6 : a1 = 6
    · rw [if_pos c6] at hw
      refine zT_st (pc' := 136) (L' := [some (.ref a0), some (.int a1)]) (st' := []) (h' := h4) 1 (fun n => zsw_in c6 rfl) ?_
      refine zT_st (pc' := 138) (L' := [some (.ref a0), some (.int a1)]) (st' := [.int 0, .ref a0]) (h' := h4) 2 (fun n => rfl) ?_
      obtain ⟨hq, hw⟩ := hw
      obtain ⟨x15, h16, hx, hw⟩ := hw
      refine zT_call (pc' := 141) (rest := []) 1 (fun n => rfl) hq hx ?_
      show zT E (d + 1) m_m_count 141 [some (.ref a0), some (.int a1)] [.int x15] h16 r
      subst hw
      exact zT_ret 1 rfl
    rw [if_neg c6] at hw
    by_cases c7 : a1 = 7
    · rw [if_pos c7] at hw
      refine zT_st (pc' := 142) (L' := [some (.ref a0), some (.int a1)]) (st' := []) (h' := h4) 1 (fun n => zsw_in c7 rfl) ?_
      refine zT_st (pc' := 147) (L' := [some (.ref a0), some (.int a1)]) (st' := [.ref a0, .int 39, .int 0, .ref a0]) (h' := h4) 4 (fun n => rfl) ?_
      obtain ⟨x17, e, hw⟩ := hw
      refine zT_st (pc' := 150) (L' := [some (.ref a0), some (.int a1)]) (st' := [.int x17, .int 39, .int 0, .ref a0]) (h' := h4) 1 (fun n => fld_eq (E := E) e _) ?_
      obtain ⟨hq, hw⟩ := hw
      obtain ⟨x18, h19, hx, hw⟩ := hw
      refine zT_call (pc' := 153) (rest := []) 1 (fun n => rfl) hq hx ?_
      show zT E (d + 1) m_m_count 153 [some (.ref a0), some (.int a1)] [.int x18] h19 r
      subst hw
      exact zT_ret 1 rfl
    rw [if_neg c7] at hw
    by_cases c8 : a1 = 8
    · rw [if_pos c8] at hw
      refine zT_st (pc' := 154) (L' := [some (.ref a0), some (.int a1)]) (st' := []) (h' := h4) 1 (fun n => zsw_in c8 rfl) ?_
      refine zT_st (pc' := 158) (L' := [some (.ref a0), some (.int a1)]) (st' := [.ref a0, .int 1, .int 0, .ref a0]) (h' := h4) 4 (fun n => rfl) ?_
      obtain ⟨x20, e, hw⟩ := hw
      refine zT_st (pc' := 161) (L' := [some (.ref a0), some (.int a1)]) (st' := [.int x20, .int 1, .int 0, .ref a0]) (h' := h4) 1 (fun n => fld_eq (E := E) e _) ?_
      obtain ⟨hq, hw⟩ := hw
      obtain ⟨x21, h22, hx, hw⟩ := hw
      refine zT_call (pc' := 164) (rest := []) 1 (fun n => rfl) hq hx ?_
      show zT E (d + 1) m_m_count 164 [some (.ref a0), some (.int a1)] [.int x21] h22 r
      subst hw
      exact zT_ret 1 rfl
    rw [if_neg c8] at hw
    by_cases c9 : a1 = 9
    · rw [if_pos c9] at hw
      refine zT_st (pc' := 165) (L' := [some (.ref a0), some (.int a1)]) (st' := []) (h' := h4) 1 (fun n => zsw_in c9 rfl) ?_
      refine zT_st (pc' := 170) (L' := [some (.ref a0), some (.int a1)]) (st' := [.ref a0, .int 8, .int 0, .ref a0]) (h' := h4) 4 (fun n => rfl) ?_
      obtain ⟨x23, e, hw⟩ := hw
      refine zT_st (pc' := 173) (L' := [some (.ref a0), some (.int a1)]) (st' := [.int x23, .int 8, .int 0, .ref a0]) (h' := h4) 1 (fun n => fld_eq (E := E) e _) ?_
      obtain ⟨hq, hw⟩ := hw
      obtain ⟨x24, h25, hx, hw⟩ := hw
      refine zT_call (pc' := 176) (rest := []) 1 (fun n => rfl) hq hx ?_
      show zT E (d + 1) m_m_count 176 [some (.ref a0), some (.int a1)] [.int x24] h25 r
      subst hw
      exact zT_ret 1 rfl
    rw [if_neg c9] at hw
    by_cases c10 : a1 = 10
    · rw [if_pos c10] at hw
      refine zT_st (pc' := 177) (L' := [some (.ref a0), some (.int a1)]) (st' := []) (h' := h4) 1 (fun n => zsw_in c10 rfl) ?_
      refine zT_st (pc' := 178) (L' := [some (.ref a0), some (.int a1)]) (st' := [.ref a0]) (h' := h4) 1 (fun n => rfl) ?_
      obtain ⟨hq, hw⟩ := hw
      obtain ⟨x26, h27, hx, hw⟩ := hw
      refine zT_call (pc' := 181) (rest := []) 1 (fun n => rfl) hq hx ?_
      show zT E (d + 1) m_m_count 181 [some (.ref a0), some (.int a1)] [.int x26] h27 r
      subst hw
      exact zT_ret 1 rfl
    rw [if_neg c10] at hw
    by_cases c11 : a1 = 11
    · rw [if_pos c11] at hw
      refine zT_st (pc' := 182) (L' := [some (.ref a0), some (.int a1)]) (st' := []) (h' := h4) 1 (fun n => zsw_in c11 rfl) ?_
      refine zT_st (pc' := 183) (L' := [some (.ref a0), some (.int a1)]) (st' := [.ref a0]) (h' := h4) 1 (fun n => rfl) ?_
      obtain ⟨x28, e, hw⟩ := hw
      refine zT_st (pc' := 186) (L' := [some (.ref a0), some (.int a1)]) (st' := [.int x28]) (h' := h4) 1 (fun n => fld_eq (E := E) e _) ?_
      subst hw
      exact zT_ret 1 rfl
    rw [if_neg c11] at hw
    by_cases c12 : a1 = 12
    · rw [if_pos c12] at hw
      refine zT_st (pc' := 187) (L' := [some (.ref a0), some (.int a1)]) (st' := []) (h' := h4) 1 (fun n => zsw_in c12 rfl) ?_
      refine zT_st (pc' := 188) (L' := [some (.ref a0), some (.int a1)]) (st' := [.ref a0]) (h' := h4) 1 (fun n => rfl) ?_
      obtain ⟨x29, e, hw⟩ := hw
      refine zT_st (pc' := 191) (L' := [some (.ref a0), some (.int a1)]) (st' := [.int x29]) (h' := h4) 1 (fun n => fld_eq (E := E) e _) ?_
      subst hw
      exact zT_ret 1 rfl
    rw [if_neg c12] at hw
    by_cases c13 : a1 = 13
    · rw [if_pos c13] at hw
      refine zT_st (pc' := 192) (L' := [some (.ref a0), some (.int a1)]) (st' := []) (h' := h4) 1 (fun n => zsw_in c13 rfl) ?_
      refine zT_st (pc' := 193) (L' := [some (.ref a0), some (.int a1)]) (st' := [.ref a0]) (h' := h4) 1 (fun n => rfl) ?_
      obtain ⟨x30, e, hw⟩ := hw
      refine zT_st (pc' := 196) (L' := [some (.ref a0), some (.int a1)]) (st' := [.int x30]) (h' := h4) 1 (fun n => fld_eq (E := E) e _) ?_
      subst hw
      exact zT_ret 1 rfl
    rw [if_neg c13] at hw
    refine zT_st (pc' := 197) (L' := [some (.ref a0), some (.int a1)]) (st' := []) (h' := h4) 1 (fun n => zsw_out (zout (n := 14) (by decide) (fun k hk => by rcases k with _ | _ | _ | _ | _ | _ | _ | _ | _ | _ | _ | _ | _ | _ | k <;> first | assumption | omega)) rfl) ?_
    refine zT_st (pc' := 198) (L' := [some (.ref a0), some (.int a1)]) (st' := [.ref a0]) (h' := h4) 1 (fun n => rfl) ?_
    obtain ⟨o31, e, hw⟩ := hw
    refine zT_st (pc' := 201) (L' := [some (.ref a0), some (.int a1)]) (st' := [.ref o31]) (h' := h4) 1 (fun n => fld_eq (E := E) e _) ?_
    refine zT_st (pc' := 205) (L' := [some (.ref a0), some (.int a1)]) (st' := [.int (a1 - 14), .ref o31]) (h' := h4) 3 (fun n => rfl) ?_
    obtain ⟨n32, f33, e, hi, hw⟩ := hw
    refine zT_st (pc' := 206) (L' := [some (.ref a0), some (.int a1)]) (st' := [.int (f33 ((a1 - 14)).toNatClampNeg)]) (h' := h4) 1 (fun n => arr_eq (E := E) e hi [] (fun st => zrun zP zCd E n (d + 1) m_m_count 206 [some (.ref a0), some (.int a1)] st h4)) ?_
    subst hw
    exact zT_ret 1 rfl
set_option maxRecDepth 4000 in
theorem s_m_heldOnes_0 (E : zX) (d : Nat) (a0 : Nat) (a1 : Int32) (h : zH) (r : zO × zH)
    (hw : zT E (d + 1) m_m_heldOnes 4 [some (.ref a0), some (.int a1), some (.int 0), some (.int 0)] [] h r) :
    zT E (d + 1) m_m_heldOnes 0 [some (.ref a0), some (.int a1), none, none] [] h r := by
  exact zT_st 4 (fun n => rfl) hw
set_option maxRecDepth 4000 in
theorem s_m_heldOnes_4 (E : zX) (d : Nat) (a0 : Nat) (a1 : Int32) (a2 : Int32) (a3 : Int32) (h : zH) (r : zO × zH)
    (hw : ∃ x1 : Int32, fld h a0 12 4 = some (.int x1) ∧
    if x1 ≤ a3 then (
      r = (.inl (some (.int a2)), h))
    else (
      isO h a0 12 = true ∧ ∃ (x2 : Int32) (h3 : zH), zT E d m_m_isWhite 0 [some (.ref a0), some (.int a1), some (.int a3)] [] h (.inl (some (.int x2)), h3) ∧
      if x2 = 0 then (
        zT E (d + 1) m_m_heldOnes 4 [some (.ref a0), some (.int a1), some (.int (a2 ||| (1 <<< (a3 &&& 31)))), some (.int (a3 + 1))] [] h3 r)
      else (
        zT E (d + 1) m_m_heldOnes 4 [some (.ref a0), some (.int a1), some (.int (a2 ||| 0)), some (.int (a3 + 1))] [] h3 r))) :
    zT E (d + 1) m_m_heldOnes 4 [some (.ref a0), some (.int a1), some (.int a2), some (.int a3)] [] h r := by
  refine zT_st (pc' := 6) (L' := [some (.ref a0), some (.int a1), some (.int a2), some (.int a3)]) (st' := [.ref a0, .int a3]) (h' := h) 2 (fun n => rfl) ?_
  obtain ⟨x1, e, hw⟩ := hw
  refine zT_st (pc' := 9) (L' := [some (.ref a0), some (.int a1), some (.int a2), some (.int a3)]) (st' := [.int x1, .int a3]) (h' := h) 1 (fun n => fld_eq (E := E) e _) ?_
  by_cases hc : x1 ≤ a3
  · rw [if_pos hc] at hw
    refine zT_st (pc' := 37) (L' := [some (.ref a0), some (.int a1), some (.int a2), some (.int a3)]) (st' := []) (h' := h) 1 (fun n => if_pos hc) ?_
    subst hw
    exact zT_ret 2 rfl
  · rw [if_neg hc] at hw
    refine zT_st (pc' := 12) (L' := [some (.ref a0), some (.int a1), some (.int a2), some (.int a3)]) (st' := []) (h' := h) 1 (fun n => if_neg hc) ?_
    refine zT_st (pc' := 16) (L' := [some (.ref a0), some (.int a1), some (.int a2), some (.int a3)]) (st' := [.int a3, .int a1, .ref a0, .int a2]) (h' := h) 4 (fun n => rfl) ?_
    obtain ⟨hq, hw⟩ := hw
    obtain ⟨x2, h3, hx, hw⟩ := hw
    refine zT_call (pc' := 19) (rest := [.int a2]) 1 (fun n => rfl) hq hx ?_
    show zT E (d + 1) m_m_heldOnes 19 [some (.ref a0), some (.int a1), some (.int a2), some (.int a3)] [.int x2, .int a2] h3 r
    by_cases hc : x2 = 0
    · rw [if_pos hc] at hw
      refine zT_st (pc' := 26) (L' := [some (.ref a0), some (.int a1), some (.int a2), some (.int a3)]) (st' := [.int a2]) (h' := h3) 1 (fun n => if_pos hc) ?_
      exact zT_st 7 (fun n => rfl) hw
    · rw [if_neg hc] at hw
      refine zT_st (pc' := 22) (L' := [some (.ref a0), some (.int a1), some (.int a2), some (.int a3)]) (st' := [.int a2]) (h' := h3) 1 (fun n => if_neg hc) ?_
      exact zT_st 6 (fun n => rfl) hw
set_option maxRecDepth 4000 in
theorem s_m_isWhite_0 (E : zX) (d : Nat) (a0 : Nat) (a1 : Int32) (a2 : Int32) (h : zH) (r : zO × zH)
    (hw : ∃ o1 : Nat, fld h a0 12 40 = some (.ref o1) ∧
    ∃ (n2 : Nat) (f3 : Nat → Int32), arr h o1 = some (n2, f3) ∧ ¬ (((a1 + 39) + a2) < 0 ∨ n2 ≤ (((a1 + 39) + a2)).toNatClampNeg) ∧
    if (f3 (((a1 + 39) + a2)).toNatClampNeg) = 0 then (
      r = (.inl (some (.int 1)), h))
    else (
      r = (.inl (some (.int 0)), h))) :
    zT E d m_m_isWhite 0 [some (.ref a0), some (.int a1), some (.int a2)] [] h r := by
  refine zT_st (pc' := 1) (L' := [some (.ref a0), some (.int a1), some (.int a2)]) (st' := [.ref a0]) (h' := h) 1 (fun n => rfl) ?_
  obtain ⟨o1, e, hw⟩ := hw
  refine zT_st (pc' := 4) (L' := [some (.ref a0), some (.int a1), some (.int a2)]) (st' := [.ref o1]) (h' := h) 1 (fun n => fld_eq (E := E) e _) ?_
  refine zT_st (pc' := 10) (L' := [some (.ref a0), some (.int a1), some (.int a2)]) (st' := [.int ((a1 + 39) + a2), .ref o1]) (h' := h) 5 (fun n => rfl) ?_
  obtain ⟨n2, f3, e, hi, hw⟩ := hw
  refine zT_st (pc' := 11) (L' := [some (.ref a0), some (.int a1), some (.int a2)]) (st' := [.int (f3 (((a1 + 39) + a2)).toNatClampNeg)]) (h' := h) 1 (fun n => arr_eq (E := E) e hi [] (fun st => zrun zP zCd E n d m_m_isWhite 11 [some (.ref a0), some (.int a1), some (.int a2)] st h)) ?_
  by_cases hc : (f3 (((a1 + 39) + a2)).toNatClampNeg) = 0
  · rw [if_pos hc] at hw
    refine zT_st (pc' := 14) (L' := [some (.ref a0), some (.int a1), some (.int a2)]) (st' := []) (h' := h) 1 (fun n => if_pos hc) ?_
    subst hw
    exact zT_ret 3 rfl
  · rw [if_neg hc] at hw
    refine zT_st (pc' := 18) (L' := [some (.ref a0), some (.int a1), some (.int a2)]) (st' := []) (h' := h) 1 (fun n => if_neg hc) ?_
    subst hw
    exact zT_ret 2 rfl
set_option maxRecDepth 4000 in
theorem s_m_guardedOnes_0 (E : zX) (d : Nat) (a0 : Nat) (a1 : Int32) (h : zH) (r : zO × zH)
    (hw : zT E d m_m_guardedOnes 4 [some (.ref a0), some (.int a1), some (.int 0), some (.int 0)] [] h r) :
    zT E d m_m_guardedOnes 0 [some (.ref a0), some (.int a1), none, none] [] h r := by
  exact zT_st 4 (fun n => rfl) hw
set_option maxRecDepth 4000 in
theorem s_m_guardedOnes_4 (E : zX) (d : Nat) (a0 : Nat) (a1 : Int32) (a2 : Int32) (a3 : Int32) (h : zH) (r : zO × zH)
    (hw : ∃ x1 : Int32, fld h a0 12 4 = some (.int x1) ∧
    if x1 ≤ a3 then (
      r = (.inl (some (.int a2)), h))
    else (
      ∃ o2 : Nat, fld h a0 12 40 = some (.ref o2) ∧
      ∃ (n3 : Nat) (f4 : Nat → Int32), arr h o2 = some (n3, f4) ∧ ¬ (((a1 + 69) + a3) < 0 ∨ n3 ≤ (((a1 + 69) + a3)).toNatClampNeg) ∧
      zT E d m_m_guardedOnes 4 [some (.ref a0), some (.int a1), some (.int (a2 ||| ((f4 (((a1 + 69) + a3)).toNatClampNeg) <<< (a3 &&& 31)))), some (.int (a3 + 1))] [] h r)) :
    zT E d m_m_guardedOnes 4 [some (.ref a0), some (.int a1), some (.int a2), some (.int a3)] [] h r := by
  refine zT_st (pc' := 6) (L' := [some (.ref a0), some (.int a1), some (.int a2), some (.int a3)]) (st' := [.ref a0, .int a3]) (h' := h) 2 (fun n => rfl) ?_
  obtain ⟨x1, e, hw⟩ := hw
  refine zT_st (pc' := 9) (L' := [some (.ref a0), some (.int a1), some (.int a2), some (.int a3)]) (st' := [.int x1, .int a3]) (h' := h) 1 (fun n => fld_eq (E := E) e _) ?_
  by_cases hc : x1 ≤ a3
  · rw [if_pos hc] at hw
    refine zT_st (pc' := 34) (L' := [some (.ref a0), some (.int a1), some (.int a2), some (.int a3)]) (st' := []) (h' := h) 1 (fun n => if_pos hc) ?_
    subst hw
    exact zT_ret 2 rfl
  · rw [if_neg hc] at hw
    refine zT_st (pc' := 12) (L' := [some (.ref a0), some (.int a1), some (.int a2), some (.int a3)]) (st' := []) (h' := h) 1 (fun n => if_neg hc) ?_
    refine zT_st (pc' := 14) (L' := [some (.ref a0), some (.int a1), some (.int a2), some (.int a3)]) (st' := [.ref a0, .int a2]) (h' := h) 2 (fun n => rfl) ?_
    obtain ⟨o2, e, hw⟩ := hw
    refine zT_st (pc' := 17) (L' := [some (.ref a0), some (.int a1), some (.int a2), some (.int a3)]) (st' := [.ref o2, .int a2]) (h' := h) 1 (fun n => fld_eq (E := E) e _) ?_
    refine zT_st (pc' := 23) (L' := [some (.ref a0), some (.int a1), some (.int a2), some (.int a3)]) (st' := [.int ((a1 + 69) + a3), .ref o2, .int a2]) (h' := h) 5 (fun n => rfl) ?_
    obtain ⟨n3, f4, e, hi, hw⟩ := hw
    refine zT_st (pc' := 24) (L' := [some (.ref a0), some (.int a1), some (.int a2), some (.int a3)]) (st' := [.int (f4 (((a1 + 69) + a3)).toNatClampNeg), .int a2]) (h' := h) 1 (fun n => arr_eq (E := E) e hi [.int a2] (fun st => zrun zP zCd E n d m_m_guardedOnes 24 [some (.ref a0), some (.int a1), some (.int a2), some (.int a3)] st h)) ?_
    exact zT_st 6 (fun n => rfl) hw
set_option maxRecDepth 4000 in
theorem s_m_allAtOnce_0 (E : zX) (d : Nat) (a0 : Nat) (h : zH) (r : zO × zH)
    (hw : isO h a0 12 = true ∧ ∃ (x1 : Int32) (h2 : zH), zT E d m_m_free 0 [some (.ref a0), some (.int 0)] [] h (.inl (some (.int x1)), h2) ∧
    zT E (d + 1) m_m_allAtOnce 10 [some (.ref a0), some (.int x1), some (.int (-1)), some (.int 0)] [] h2 r) :
    zT E (d + 1) m_m_allAtOnce 0 [some (.ref a0), none, none, none] [] h r := by
  refine zT_st (pc' := 2) (L' := [some (.ref a0), none, none, none]) (st' := [.int 0, .ref a0]) (h' := h) 2 (fun n => rfl) ?_
  obtain ⟨hq, hw⟩ := hw
  obtain ⟨x1, h2, hx, hw⟩ := hw
  refine zT_call (pc' := 5) (rest := []) 1 (fun n => rfl) hq hx ?_
  show zT E (d + 1) m_m_allAtOnce 5 [some (.ref a0), none, none, none] [.int x1] h2 r
  exact zT_st 5 (fun n => rfl) hw
set_option maxRecDepth 4000 in
theorem s_m_allAtOnce_10 (E : zX) (d : Nat) (a0 : Nat) (a1 : Int32) (a2 : Int32) (a3 : Int32) (h : zH) (r : zO × zH)
    (hw : ∃ x1 : Int32, fld h a0 12 4 = some (.int x1) ∧
    if (1 <<< (x1 &&& 31)) ≤ a3 then (
      r = (.inl (some (.int a2)), h))
    else (
      if (a3 &&& (a1 ^^^ (-1))) = 0 then (
        if a2 = (-1) then (
          zT E (d + 1) m_m_allAtOnce 44 [some (.ref a0), some (.int a1), some (.int a2), some (.int a3)] [] h r)
        else (
          ∃ (x2 : Int32) (h3 : zH), zT E d m_m_bits 0 [some (.int a3), none, none] [] h (.inl (some (.int x2)), h3) ∧
          ∃ (x4 : Int32) (h5 : zH), zT E d m_m_bits 0 [some (.int a2), none, none] [] h3 (.inl (some (.int x4)), h5) ∧
          if x4 ≤ x2 then (
            zT E (d + 1) m_m_allAtOnce 10 [some (.ref a0), some (.int a1), some (.int a2), some (.int (a3 + 1))] [] h5 r)
          else (
            zT E (d + 1) m_m_allAtOnce 44 [some (.ref a0), some (.int a1), some (.int a2), some (.int a3)] [] h5 r)))
      else (
        zT E (d + 1) m_m_allAtOnce 10 [some (.ref a0), some (.int a1), some (.int a2), some (.int (a3 + 1))] [] h r))) :
    zT E (d + 1) m_m_allAtOnce 10 [some (.ref a0), some (.int a1), some (.int a2), some (.int a3)] [] h r := by
  refine zT_st (pc' := 13) (L' := [some (.ref a0), some (.int a1), some (.int a2), some (.int a3)]) (st' := [.ref a0, .int 1, .int a3]) (h' := h) 3 (fun n => rfl) ?_
  obtain ⟨x1, e, hw⟩ := hw
  refine zT_st (pc' := 16) (L' := [some (.ref a0), some (.int a1), some (.int a2), some (.int a3)]) (st' := [.int x1, .int 1, .int a3]) (h' := h) 1 (fun n => fld_eq (E := E) e _) ?_
  refine zT_st (pc' := 17) (L' := [some (.ref a0), some (.int a1), some (.int a2), some (.int a3)]) (st' := [.int (1 <<< (x1 &&& 31)), .int a3]) (h' := h) 1 (fun n => rfl) ?_
  by_cases hc : (1 <<< (x1 &&& 31)) ≤ a3
  · rw [if_pos hc] at hw
    refine zT_st (pc' := 63) (L' := [some (.ref a0), some (.int a1), some (.int a2), some (.int a3)]) (st' := []) (h' := h) 1 (fun n => if_pos hc) ?_
    subst hw
    exact zT_ret 2 rfl
  · rw [if_neg hc] at hw
    refine zT_st (pc' := 20) (L' := [some (.ref a0), some (.int a1), some (.int a2), some (.int a3)]) (st' := []) (h' := h) 1 (fun n => if_neg hc) ?_
    refine zT_st (pc' := 25) (L' := [some (.ref a0), some (.int a1), some (.int a2), some (.int a3)]) (st' := [.int (a3 &&& (a1 ^^^ (-1)))]) (h' := h) 5 (fun n => rfl) ?_
    by_cases hc : (a3 &&& (a1 ^^^ (-1))) = 0
    · rw [if_pos hc] at hw
      refine zT_st (pc' := 28) (L' := [some (.ref a0), some (.int a1), some (.int a2), some (.int a3)]) (st' := []) (h' := h) 1 (fun n => if_pos hc) ?_
      refine zT_st (pc' := 30) (L' := [some (.ref a0), some (.int a1), some (.int a2), some (.int a3)]) (st' := [.int (-1), .int a2]) (h' := h) 2 (fun n => rfl) ?_
      by_cases hc : a2 = (-1)
      · rw [if_pos hc] at hw
        refine zT_st (pc' := 44) (L' := [some (.ref a0), some (.int a1), some (.int a2), some (.int a3)]) (st' := []) (h' := h) 1 (fun n => if_pos hc) ?_
        exact hw
      · rw [if_neg hc] at hw
        refine zT_st (pc' := 33) (L' := [some (.ref a0), some (.int a1), some (.int a2), some (.int a3)]) (st' := []) (h' := h) 1 (fun n => if_neg hc) ?_
        refine zT_st (pc' := 34) (L' := [some (.ref a0), some (.int a1), some (.int a2), some (.int a3)]) (st' := [.int a3]) (h' := h) 1 (fun n => rfl) ?_
        obtain ⟨x2, h3, hx, hw⟩ := hw
        refine zT_call (pc' := 37) (rest := []) 1 (fun n => rfl) rfl hx ?_
        show zT E (d + 1) m_m_allAtOnce 37 [some (.ref a0), some (.int a1), some (.int a2), some (.int a3)] [.int x2] h3 r
        refine zT_st (pc' := 38) (L' := [some (.ref a0), some (.int a1), some (.int a2), some (.int a3)]) (st' := [.int a2, .int x2]) (h' := h3) 1 (fun n => rfl) ?_
        obtain ⟨x4, h5, hx, hw⟩ := hw
        refine zT_call (pc' := 41) (rest := [.int x2]) 1 (fun n => rfl) rfl hx ?_
        show zT E (d + 1) m_m_allAtOnce 41 [some (.ref a0), some (.int a1), some (.int a2), some (.int a3)] [.int x4, .int x2] h5 r
        by_cases hc : x4 ≤ x2
        · rw [if_pos hc] at hw
          refine zT_st (pc' := 57) (L' := [some (.ref a0), some (.int a1), some (.int a2), some (.int a3)]) (st' := []) (h' := h5) 1 (fun n => if_pos hc) ?_
          exact zT_st 2 (fun n => rfl) hw
        · rw [if_neg hc] at hw
          refine zT_st (pc' := 44) (L' := [some (.ref a0), some (.int a1), some (.int a2), some (.int a3)]) (st' := []) (h' := h5) 1 (fun n => if_neg hc) ?_
          exact hw
    · rw [if_neg hc] at hw
      refine zT_st (pc' := 57) (L' := [some (.ref a0), some (.int a1), some (.int a2), some (.int a3)]) (st' := []) (h' := h) 1 (fun n => if_neg hc) ?_
      exact zT_st 2 (fun n => rfl) hw
set_option maxRecDepth 4000 in
theorem s_m_allAtOnce_44 (E : zX) (d : Nat) (a0 : Nat) (a1 : Int32) (a2 : Int32) (a3 : Int32) (h : zH) (r : zO × zH)
    (hw : isO h a0 12 = true ∧ ∃ (x1 : Int32) (h2 : zH), zT E d m_m_setOff 0 [some (.ref a0), some (.int 0), some (.int a3), some (.int a1), none, none, none, none] [] h (.inl (some (.int x1)), h2) ∧
    if x1 = a1 then (
      zT E (d + 1) m_m_allAtOnce 10 [some (.ref a0), some (.int a1), some (.int a3), some (.int (a3 + 1))] [] h2 r)
    else (
      zT E (d + 1) m_m_allAtOnce 10 [some (.ref a0), some (.int a1), some (.int a2), some (.int (a3 + 1))] [] h2 r)) :
    zT E (d + 1) m_m_allAtOnce 44 [some (.ref a0), some (.int a1), some (.int a2), some (.int a3)] [] h r := by
  refine zT_st (pc' := 48) (L' := [some (.ref a0), some (.int a1), some (.int a2), some (.int a3)]) (st' := [.int a1, .int a3, .int 0, .ref a0]) (h' := h) 4 (fun n => rfl) ?_
  obtain ⟨hq, hw⟩ := hw
  obtain ⟨x1, h2, hx, hw⟩ := hw
  refine zT_call (pc' := 51) (rest := []) 1 (fun n => rfl) hq hx ?_
  show zT E (d + 1) m_m_allAtOnce 51 [some (.ref a0), some (.int a1), some (.int a2), some (.int a3)] [.int x1] h2 r
  refine zT_st (pc' := 52) (L' := [some (.ref a0), some (.int a1), some (.int a2), some (.int a3)]) (st' := [.int a1, .int x1]) (h' := h2) 1 (fun n => rfl) ?_
  by_cases hc : x1 = a1
  · rw [if_pos hc] at hw
    refine zT_st (pc' := 55) (L' := [some (.ref a0), some (.int a1), some (.int a2), some (.int a3)]) (st' := []) (h' := h2) 1 (fun n => if_pos hc) ?_
    exact zT_st 4 (fun n => rfl) hw
  · rw [if_neg hc] at hw
    refine zT_st (pc' := 57) (L' := [some (.ref a0), some (.int a1), some (.int a2), some (.int a3)]) (st' := []) (h' := h2) 1 (fun n => if_neg hc) ?_
    exact zT_st 2 (fun n => rfl) hw
set_option maxRecDepth 4000 in
theorem s_m_free_0 (E : zX) (d : Nat) (a0 : Nat) (a1 : Int32) (h : zH) (r : zO × zH)
    (hw : isO h a0 12 = true ∧ ∃ (x1 : Int32) (h2 : zH), zT E d m_m_heldOnes 0 [some (.ref a0), some (.int a1), none, none] [] h (.inl (some (.int x1)), h2) ∧
    isO h2 a0 12 = true ∧ ∃ (x3 : Int32) (h4 : zH), zT E d m_m_guardedOnes 0 [some (.ref a0), some (.int a1), none, none] [] h2 (.inl (some (.int x3)), h4) ∧
    r = (.inl (some (.int (x1 &&& (x3 ^^^ (-1))))), h4)) :
    zT E (d + 1) m_m_free 0 [some (.ref a0), some (.int a1)] [] h r := by
  refine zT_st (pc' := 2) (L' := [some (.ref a0), some (.int a1)]) (st' := [.int a1, .ref a0]) (h' := h) 2 (fun n => rfl) ?_
  obtain ⟨hq, hw⟩ := hw
  obtain ⟨x1, h2, hx, hw⟩ := hw
  refine zT_call (pc' := 5) (rest := []) 1 (fun n => rfl) hq hx ?_
  show zT E (d + 1) m_m_free 5 [some (.ref a0), some (.int a1)] [.int x1] h2 r
  refine zT_st (pc' := 7) (L' := [some (.ref a0), some (.int a1)]) (st' := [.int a1, .ref a0, .int x1]) (h' := h2) 2 (fun n => rfl) ?_
  obtain ⟨hq, hw⟩ := hw
  obtain ⟨x3, h4, hx, hw⟩ := hw
  refine zT_call (pc' := 10) (rest := [.int x1]) 1 (fun n => rfl) hq hx ?_
  show zT E (d + 1) m_m_free 10 [some (.ref a0), some (.int a1)] [.int x3, .int x1] h4 r
  subst hw
  exact zT_ret 4 rfl
set_option maxRecDepth 4000 in
theorem s_m_bits_0 (E : zX) (d : Nat) (a0 : Int32) (h : zH) (r : zO × zH)
    (hw : zT E d m_m_bits 4 [some (.int a0), some (.int 0), some (.int 0)] [] h r) :
    zT E d m_m_bits 0 [some (.int a0), none, none] [] h r := by
  exact zT_st 4 (fun n => rfl) hw
set_option maxRecDepth 4000 in
theorem s_m_bits_4 (E : zX) (d : Nat) (a0 : Int32) (a1 : Int32) (a2 : Int32) (h : zH) (r : zO × zH)
    (hw : if 10 ≤ a2 then (
      r = (.inl (some (.int a1)), h))
    else (
      zT E d m_m_bits 4 [some (.int a0), some (.int (a1 + ((a0 >>> (a2 &&& 31)) &&& 1))), some (.int (a2 + 1))] [] h r)) :
    zT E d m_m_bits 4 [some (.int a0), some (.int a1), some (.int a2)] [] h r := by
  refine zT_st (pc' := 7) (L' := [some (.int a0), some (.int a1), some (.int a2)]) (st' := [.int 10, .int a2]) (h' := h) 2 (fun n => rfl) ?_
  by_cases hc : 10 ≤ a2
  · rw [if_pos hc] at hw
    refine zT_st (pc' := 24) (L' := [some (.int a0), some (.int a1), some (.int a2)]) (st' := []) (h' := h) 1 (fun n => if_pos hc) ?_
    subst hw
    exact zT_ret 2 rfl
  · rw [if_neg hc] at hw
    refine zT_st (pc' := 10) (L' := [some (.int a0), some (.int a1), some (.int a2)]) (st' := []) (h' := h) 1 (fun n => if_neg hc) ?_
    exact zT_st 10 (fun n => rfl) hw
set_option maxRecDepth 4000 in
theorem s_m_isIn_0 (E : zX) (d : Nat) (a0 : Nat) (a1 : Int32) (a2 : Int32) (a3 : Int32) (h : zH) (r : zO × zH)
    (hw : ∃ o1 : Nat, fld h a0 12 40 = some (.ref o1) ∧
    ∃ (n2 : Nat) (f3 : Nat → Int32), arr h o1 = some (n2, f3) ∧ ¬ (((a1 + 29) + a2) < 0 ∨ n2 ≤ (((a1 + 29) + a2)).toNatClampNeg) ∧
    isO h a0 12 = true ∧ ∃ (x4 : Int32) (h5 : zH), zT E d m_m_farOf 0 [some (.ref a0), some (.int (f3 (((a1 + 29) + a2)).toNatClampNeg)), some (.int a3)] [] h (.inl (some (.int x4)), h5) ∧
    ∃ o6 : Nat, fld h5 a0 12 40 = some (.ref o6) ∧
    ∃ (n7 : Nat) (f8 : Nat → Int32), arr h5 o6 = some (n7, f8) ∧ ¬ (((a1 + 39) + a2) < 0 ∨ n7 ≤ (((a1 + 39) + a2)).toNatClampNeg) ∧
    if ((f8 (((a1 + 39) + a2)).toNatClampNeg) / 10) < x4 then (
      r = (.inl (some (.int 0)), h5))
    else (
      r = (.inl (some (.int 1)), h5))) :
    zT E (d + 1) m_m_isIn 0 [some (.ref a0), some (.int a1), some (.int a2), some (.int a3)] [] h r := by
  refine zT_st (pc' := 2) (L' := [some (.ref a0), some (.int a1), some (.int a2), some (.int a3)]) (st' := [.ref a0, .ref a0]) (h' := h) 2 (fun n => rfl) ?_
  obtain ⟨o1, e, hw⟩ := hw
  refine zT_st (pc' := 5) (L' := [some (.ref a0), some (.int a1), some (.int a2), some (.int a3)]) (st' := [.ref o1, .ref a0]) (h' := h) 1 (fun n => fld_eq (E := E) e _) ?_
  refine zT_st (pc' := 11) (L' := [some (.ref a0), some (.int a1), some (.int a2), some (.int a3)]) (st' := [.int ((a1 + 29) + a2), .ref o1, .ref a0]) (h' := h) 5 (fun n => rfl) ?_
  obtain ⟨n2, f3, e, hi, hw⟩ := hw
  refine zT_st (pc' := 12) (L' := [some (.ref a0), some (.int a1), some (.int a2), some (.int a3)]) (st' := [.int (f3 (((a1 + 29) + a2)).toNatClampNeg), .ref a0]) (h' := h) 1 (fun n => arr_eq (E := E) e hi [.ref a0] (fun st => zrun zP zCd E n (d + 1) m_m_isIn 12 [some (.ref a0), some (.int a1), some (.int a2), some (.int a3)] st h)) ?_
  refine zT_st (pc' := 13) (L' := [some (.ref a0), some (.int a1), some (.int a2), some (.int a3)]) (st' := [.int a3, .int (f3 (((a1 + 29) + a2)).toNatClampNeg), .ref a0]) (h' := h) 1 (fun n => rfl) ?_
  obtain ⟨hq, hw⟩ := hw
  obtain ⟨x4, h5, hx, hw⟩ := hw
  refine zT_call (pc' := 16) (rest := []) 1 (fun n => rfl) hq hx ?_
  show zT E (d + 1) m_m_isIn 16 [some (.ref a0), some (.int a1), some (.int a2), some (.int a3)] [.int x4] h5 r
  refine zT_st (pc' := 17) (L' := [some (.ref a0), some (.int a1), some (.int a2), some (.int a3)]) (st' := [.ref a0, .int x4]) (h' := h5) 1 (fun n => rfl) ?_
  obtain ⟨o6, e, hw⟩ := hw
  refine zT_st (pc' := 20) (L' := [some (.ref a0), some (.int a1), some (.int a2), some (.int a3)]) (st' := [.ref o6, .int x4]) (h' := h5) 1 (fun n => fld_eq (E := E) e _) ?_
  refine zT_st (pc' := 26) (L' := [some (.ref a0), some (.int a1), some (.int a2), some (.int a3)]) (st' := [.int ((a1 + 39) + a2), .ref o6, .int x4]) (h' := h5) 5 (fun n => rfl) ?_
  obtain ⟨n7, f8, e, hi, hw⟩ := hw
  refine zT_st (pc' := 27) (L' := [some (.ref a0), some (.int a1), some (.int a2), some (.int a3)]) (st' := [.int (f8 (((a1 + 39) + a2)).toNatClampNeg), .int x4]) (h' := h5) 1 (fun n => arr_eq (E := E) e hi [.int x4] (fun st => zrun zP zCd E n (d + 1) m_m_isIn 27 [some (.ref a0), some (.int a1), some (.int a2), some (.int a3)] st h5)) ?_
  refine zT_st (pc' := 29) (L' := [some (.ref a0), some (.int a1), some (.int a2), some (.int a3)]) (st' := [.int 10, .int (f8 (((a1 + 39) + a2)).toNatClampNeg), .int x4]) (h' := h5) 1 (fun n => rfl) ?_
  refine zT_st (pc' := 30) (L' := [some (.ref a0), some (.int a1), some (.int a2), some (.int a3)]) (st' := [.int ((f8 (((a1 + 39) + a2)).toNatClampNeg) / 10), .int x4]) (h' := h5) 1 (fun n => rfl) ?_
  by_cases hc : ((f8 (((a1 + 39) + a2)).toNatClampNeg) / 10) < x4
  · rw [if_pos hc] at hw
    refine zT_st (pc' := 37) (L' := [some (.ref a0), some (.int a1), some (.int a2), some (.int a3)]) (st' := []) (h' := h5) 1 (fun n => if_pos hc) ?_
    subst hw
    exact zT_ret 2 rfl
  · rw [if_neg hc] at hw
    refine zT_st (pc' := 33) (L' := [some (.ref a0), some (.int a1), some (.int a2), some (.int a3)]) (st' := []) (h' := h5) 1 (fun n => if_neg hc) ?_
    subst hw
    exact zT_ret 3 rfl
set_option maxRecDepth 4000 in
theorem s_m_farOf_0 (E : zX) (d : Nat) (a0 : Nat) (a1 : Int32) (a2 : Int32) (h : zH) (r : zO × zH)
    (hw : ∃ x1 : Int32, fld h a0 12 1 = some (.int x1) ∧
    ¬ x1 = 0 ∧
    ∃ x2 : Int32, fld h a0 12 1 = some (.int x2) ∧
    ¬ x2 = 0 ∧
    ∃ (x3 : Int32) (h4 : zH), zT E d m_m_apart 0 [some (.int (zrem a1 x1)), some (.int (zrem a2 x2))] [] h (.inl (some (.int x3)), h4) ∧
    ∃ x5 : Int32, fld h4 a0 12 1 = some (.int x5) ∧
    ¬ x5 = 0 ∧
    ∃ x6 : Int32, fld h4 a0 12 1 = some (.int x6) ∧
    ¬ x6 = 0 ∧
    ∃ (x7 : Int32) (h8 : zH), zT E d m_m_apart 0 [some (.int (a1 / x5)), some (.int (a2 / x6))] [] h4 (.inl (some (.int x7)), h8) ∧
    r = (.inl (some (.int (x3 + x7))), h8)) :
    zT E (d + 1) m_m_farOf 0 [some (.ref a0), some (.int a1), some (.int a2)] [] h r := by
  refine zT_st (pc' := 2) (L' := [some (.ref a0), some (.int a1), some (.int a2)]) (st' := [.ref a0, .int a1]) (h' := h) 2 (fun n => rfl) ?_
  obtain ⟨x1, e, hw⟩ := hw
  refine zT_st (pc' := 5) (L' := [some (.ref a0), some (.int a1), some (.int a2)]) (st' := [.int x1, .int a1]) (h' := h) 1 (fun n => fld_eq (E := E) e _) ?_
  obtain ⟨hz, hw⟩ := hw
  refine zT_st (pc' := 6) (L' := [some (.ref a0), some (.int a1), some (.int a2)]) (st' := [.int (zrem a1 x1)]) (h' := h) 1 (fun n => if_neg hz) ?_
  refine zT_st (pc' := 8) (L' := [some (.ref a0), some (.int a1), some (.int a2)]) (st' := [.ref a0, .int a2, .int (zrem a1 x1)]) (h' := h) 2 (fun n => rfl) ?_
  obtain ⟨x2, e, hw⟩ := hw
  refine zT_st (pc' := 11) (L' := [some (.ref a0), some (.int a1), some (.int a2)]) (st' := [.int x2, .int a2, .int (zrem a1 x1)]) (h' := h) 1 (fun n => fld_eq (E := E) e _) ?_
  obtain ⟨hz, hw⟩ := hw
  refine zT_st (pc' := 12) (L' := [some (.ref a0), some (.int a1), some (.int a2)]) (st' := [.int (zrem a2 x2), .int (zrem a1 x1)]) (h' := h) 1 (fun n => if_neg hz) ?_
  obtain ⟨x3, h4, hx, hw⟩ := hw
  refine zT_call (pc' := 15) (rest := []) 1 (fun n => rfl) rfl hx ?_
  show zT E (d + 1) m_m_farOf 15 [some (.ref a0), some (.int a1), some (.int a2)] [.int x3] h4 r
  refine zT_st (pc' := 17) (L' := [some (.ref a0), some (.int a1), some (.int a2)]) (st' := [.ref a0, .int a1, .int x3]) (h' := h4) 2 (fun n => rfl) ?_
  obtain ⟨x5, e, hw⟩ := hw
  refine zT_st (pc' := 20) (L' := [some (.ref a0), some (.int a1), some (.int a2)]) (st' := [.int x5, .int a1, .int x3]) (h' := h4) 1 (fun n => fld_eq (E := E) e _) ?_
  obtain ⟨hz, hw⟩ := hw
  refine zT_st (pc' := 21) (L' := [some (.ref a0), some (.int a1), some (.int a2)]) (st' := [.int (a1 / x5), .int x3]) (h' := h4) 1 (fun n => if_neg hz) ?_
  refine zT_st (pc' := 23) (L' := [some (.ref a0), some (.int a1), some (.int a2)]) (st' := [.ref a0, .int a2, .int (a1 / x5), .int x3]) (h' := h4) 2 (fun n => rfl) ?_
  obtain ⟨x6, e, hw⟩ := hw
  refine zT_st (pc' := 26) (L' := [some (.ref a0), some (.int a1), some (.int a2)]) (st' := [.int x6, .int a2, .int (a1 / x5), .int x3]) (h' := h4) 1 (fun n => fld_eq (E := E) e _) ?_
  obtain ⟨hz, hw⟩ := hw
  refine zT_st (pc' := 27) (L' := [some (.ref a0), some (.int a1), some (.int a2)]) (st' := [.int (a2 / x6), .int (a1 / x5), .int x3]) (h' := h4) 1 (fun n => if_neg hz) ?_
  obtain ⟨x7, h8, hx, hw⟩ := hw
  refine zT_call (pc' := 30) (rest := [.int x3]) 1 (fun n => rfl) rfl hx ?_
  show zT E (d + 1) m_m_farOf 30 [some (.ref a0), some (.int a1), some (.int a2)] [.int x7, .int x3] h8 r
  subst hw
  exact zT_ret 2 rfl
set_option maxRecDepth 4000 in
theorem s_m_apart_0 (E : zX) (d : Nat) (a0 : Int32) (a1 : Int32) (h : zH) (r : zO × zH)
    (hw : if a1 ≤ a0 then (
      r = (.inl (some (.int (a0 - a1))), h))
    else (
      r = (.inl (some (.int (a1 - a0))), h))) :
    zT E d m_m_apart 0 [some (.int a0), some (.int a1)] [] h r := by
  refine zT_st (pc' := 2) (L' := [some (.int a0), some (.int a1)]) (st' := [.int a1, .int a0]) (h' := h) 2 (fun n => rfl) ?_
  by_cases hc : a1 ≤ a0
  · rw [if_pos hc] at hw
    refine zT_st (pc' := 11) (L' := [some (.int a0), some (.int a1)]) (st' := []) (h' := h) 1 (fun n => if_pos hc) ?_
    subst hw
    exact zT_ret 4 rfl
  · rw [if_neg hc] at hw
    refine zT_st (pc' := 5) (L' := [some (.int a0), some (.int a1)]) (st' := []) (h' := h) 1 (fun n => if_neg hc) ?_
    subst hw
    exact zT_ret 5 rfl
set_option maxRecDepth 4000 in
theorem s_m_isPerson_0 (E : zX) (d : Nat) (a0 : Nat) (a1 : Int32) (h : zH) (r : zO × zH)
    (hw : if a1 < 0 then (
      isO h a0 12 = true ∧ ∃ (x1 : Int32) (h2 : zH), zT E d m_m_right 0 [some (.ref a0), some (.int 0), some (.int 1)] [] h (.inl (some (.int x1)), h2) ∧
      zfr (some .boolean) x1 = true ∧ r = (.inl (some (.int x1)), h2))
    else (
      ∃ x3 : Int32, fld h a0 12 3 = some (.int x3) ∧
      if x3 ≤ a1 then (
        isO h a0 12 = true ∧ ∃ (x4 : Int32) (h5 : zH), zT E d m_m_right 0 [some (.ref a0), some (.int 0), some (.int 1)] [] h (.inl (some (.int x4)), h5) ∧
        zfr (some .boolean) x4 = true ∧ r = (.inl (some (.int x4)), h5))
      else (
        isO h a0 12 = true ∧ ∃ (x6 : Int32) (h7 : zH), zT E d m_m_right 0 [some (.ref a0), some (.int 1), some (.int 1)] [] h (.inl (some (.int x6)), h7) ∧
        zfr (some .boolean) x6 = true ∧ r = (.inl (some (.int x6)), h7)))) :
    zT E (d + 1) m_m_isPerson 0 [some (.ref a0), some (.int a1)] [] h r := by
  refine zT_st (pc' := 2) (L' := [some (.ref a0), some (.int a1)]) (st' := [.int a1, .ref a0]) (h' := h) 2 (fun n => rfl) ?_
  by_cases hc : a1 < 0
  · rw [if_pos hc] at hw
    refine zT_st (pc' := 17) (L' := [some (.ref a0), some (.int a1)]) (st' := [.ref a0]) (h' := h) 1 (fun n => if_pos hc) ?_
    refine zT_st (pc' := 19) (L' := [some (.ref a0), some (.int a1)]) (st' := [.int 1, .int 0, .ref a0]) (h' := h) 2 (fun n => rfl) ?_
    obtain ⟨hq, hw⟩ := hw
    obtain ⟨x1, h2, hx, hw⟩ := hw
    refine zT_call (pc' := 22) (rest := []) 1 (fun n => rfl) hq hx ?_
    show zT E (d + 1) m_m_isPerson 22 [some (.ref a0), some (.int a1)] [.int x1] h2 r
    obtain ⟨hz, hw⟩ := hw
    subst hw
    refine zT_ret 1 ?_
    show (bif zfr _ _ then _ else none) = _
    rw [hz]
    rfl
  · rw [if_neg hc] at hw
    refine zT_st (pc' := 5) (L' := [some (.ref a0), some (.int a1)]) (st' := [.ref a0]) (h' := h) 1 (fun n => if_neg hc) ?_
    refine zT_st (pc' := 7) (L' := [some (.ref a0), some (.int a1)]) (st' := [.ref a0, .int a1, .ref a0]) (h' := h) 2 (fun n => rfl) ?_
    obtain ⟨x3, e, hw⟩ := hw
    refine zT_st (pc' := 10) (L' := [some (.ref a0), some (.int a1)]) (st' := [.int x3, .int a1, .ref a0]) (h' := h) 1 (fun n => fld_eq (E := E) e _) ?_
    by_cases hc : x3 ≤ a1
    · rw [if_pos hc] at hw
      refine zT_st (pc' := 17) (L' := [some (.ref a0), some (.int a1)]) (st' := [.ref a0]) (h' := h) 1 (fun n => if_pos hc) ?_
      refine zT_st (pc' := 19) (L' := [some (.ref a0), some (.int a1)]) (st' := [.int 1, .int 0, .ref a0]) (h' := h) 2 (fun n => rfl) ?_
      obtain ⟨hq, hw⟩ := hw
      obtain ⟨x4, h5, hx, hw⟩ := hw
      refine zT_call (pc' := 22) (rest := []) 1 (fun n => rfl) hq hx ?_
      show zT E (d + 1) m_m_isPerson 22 [some (.ref a0), some (.int a1)] [.int x4] h5 r
      obtain ⟨hz, hw⟩ := hw
      subst hw
      refine zT_ret 1 ?_
      show (bif zfr _ _ then _ else none) = _
      rw [hz]
      rfl
    · rw [if_neg hc] at hw
      refine zT_st (pc' := 13) (L' := [some (.ref a0), some (.int a1)]) (st' := [.ref a0]) (h' := h) 1 (fun n => if_neg hc) ?_
      refine zT_st (pc' := 19) (L' := [some (.ref a0), some (.int a1)]) (st' := [.int 1, .int 1, .ref a0]) (h' := h) 3 (fun n => rfl) ?_
      obtain ⟨hq, hw⟩ := hw
      obtain ⟨x6, h7, hx, hw⟩ := hw
      refine zT_call (pc' := 22) (rest := []) 1 (fun n => rfl) hq hx ?_
      show zT E (d + 1) m_m_isPerson 22 [some (.ref a0), some (.int a1)] [.int x6] h7 r
      obtain ⟨hz, hw⟩ := hw
      subst hw
      refine zT_ret 1 ?_
      show (bif zfr _ _ then _ else none) = _
      rw [hz]
      rfl
set_option maxRecDepth 4000 in
theorem s_m_isWhat_0 (E : zX) (d : Nat) (a0 : Nat) (a1 : Int32) (a2 : Int32) (h : zH) (r : zO × zH)
    (hw : ∃ (x1 : Int32) (h2 : zH), zT E d m_m_within 0 [some (.int a1), some (.int 0), some (.int a2)] [] h (.inl (some (.int x1)), h2) ∧
    isO h2 a0 12 = true ∧ ∃ (x3 : Int32) (h4 : zH), zT E d m_m_right 0 [some (.ref a0), some (.int x1), some (.int 1)] [] h2 (.inl (some (.int x3)), h4) ∧
    zfr (some .boolean) x3 = true ∧ r = (.inl (some (.int x3)), h4)) :
    zT E (d + 1) m_m_isWhat 0 [some (.ref a0), some (.int a1), some (.int a2)] [] h r := by
  refine zT_st (pc' := 4) (L' := [some (.ref a0), some (.int a1), some (.int a2)]) (st' := [.int a2, .int 0, .int a1, .ref a0]) (h' := h) 4 (fun n => rfl) ?_
  obtain ⟨x1, h2, hx, hw⟩ := hw
  refine zT_call (pc' := 7) (rest := [.ref a0]) 1 (fun n => rfl) rfl hx ?_
  show zT E (d + 1) m_m_isWhat 7 [some (.ref a0), some (.int a1), some (.int a2)] [.int x1, .ref a0] h2 r
  refine zT_st (pc' := 8) (L' := [some (.ref a0), some (.int a1), some (.int a2)]) (st' := [.int 1, .int x1, .ref a0]) (h' := h2) 1 (fun n => rfl) ?_
  obtain ⟨hq, hw⟩ := hw
  obtain ⟨x3, h4, hx, hw⟩ := hw
  refine zT_call (pc' := 11) (rest := []) 1 (fun n => rfl) hq hx ?_
  show zT E (d + 1) m_m_isWhat 11 [some (.ref a0), some (.int a1), some (.int a2)] [.int x3] h4 r
  obtain ⟨hz, hw⟩ := hw
  subst hw
  refine zT_ret 1 ?_
  show (bif zfr _ _ then _ else none) = _
  rw [hz]
  rfl
set_option maxRecDepth 4000 in
theorem s_m_ballFor_0 (E : zX) (d : Nat) (a0 : Nat) (a1 : Int32) (a2 : Int32) (h : zH) (r : zO × zH)
    (hw : zT E (d + 1) m_m_ballFor 5 [some (.ref a0), some (.int a1), some (.int a2), some (.int (-1)), some (.int 0)] [] h r) :
    zT E (d + 1) m_m_ballFor 0 [some (.ref a0), some (.int a1), some (.int a2), none, none] [] h r := by
  exact zT_st 4 (fun n => rfl) hw
set_option maxRecDepth 4000 in
theorem s_m_ballFor_5 (E : zX) (d : Nat) (a0 : Nat) (a1 : Int32) (a2 : Int32) (a3 : Int32) (a4 : Int32) (h : zH) (r : zO × zH)
    (hw : ∃ x1 : Int32, fld h a0 12 4 = some (.int x1) ∧
    if x1 ≤ a4 then (
      r = (.inl (some (.int a3)), h))
    else (
      isO h a0 12 = true ∧ ∃ (x2 : Int32) (h3 : zH), zT E d m_m_isWhite 0 [some (.ref a0), some (.int a1), some (.int a4)] [] h (.inl (some (.int x2)), h3) ∧
      if x2 = 0 then (
        zT E (d + 1) m_m_ballFor 5 [some (.ref a0), some (.int a1), some (.int a2), some (.int a3), some (.int (a4 + 1))] [] h3 r)
      else (
        ∃ o4 : Nat, fld h3 a0 12 8 = some (.ref o4) ∧
        ∃ (n5 : Nat) (f6 : Nat → Int32), arr h3 o4 = some (n5, f6) ∧ ¬ (a4 < 0 ∨ n5 ≤ (a4).toNatClampNeg) ∧
        ∃ o7 : Nat, fld h3 a0 12 40 = some (.ref o7) ∧
        ∃ (n8 : Nat) (f9 : Nat → Int32), arr h3 o7 = some (n8, f9) ∧ ¬ (((a1 + 1) + a2) < 0 ∨ n8 ≤ (((a1 + 1) + a2)).toNatClampNeg) ∧
        if (f9 (((a1 + 1) + a2)).toNatClampNeg) ≤ (f6 (a4).toNatClampNeg) then (
          if a3 = (-1) then (
            zT E (d + 1) m_m_ballFor 5 [some (.ref a0), some (.int a1), some (.int a2), some (.int a4), some (.int (a4 + 1))] [] h3 r)
          else (
            ∃ o10 : Nat, fld h3 a0 12 40 = some (.ref o10) ∧
            ∃ (n11 : Nat) (f12 : Nat → Int32), arr h3 o10 = some (n11, f12) ∧ ¬ (((a1 + 29) + a4) < 0 ∨ n11 ≤ (((a1 + 29) + a4)).toNatClampNeg) ∧
            ∃ o13 : Nat, fld h3 a0 12 7 = some (.ref o13) ∧
            ∃ (n14 : Nat) (f15 : Nat → Int32), arr h3 o13 = some (n14, f15) ∧ ¬ (a2 < 0 ∨ n14 ≤ (a2).toNatClampNeg) ∧
            isO h3 a0 12 = true ∧ ∃ (x16 : Int32) (h17 : zH), zT E d m_m_farOf 0 [some (.ref a0), some (.int (f12 (((a1 + 29) + a4)).toNatClampNeg)), some (.int (f15 (a2).toNatClampNeg))] [] h3 (.inl (some (.int x16)), h17) ∧
            ∃ o18 : Nat, fld h17 a0 12 40 = some (.ref o18) ∧
            ∃ (n19 : Nat) (f20 : Nat → Int32), arr h17 o18 = some (n19, f20) ∧ ¬ (((a1 + 29) + a3) < 0 ∨ n19 ≤ (((a1 + 29) + a3)).toNatClampNeg) ∧
            ∃ o21 : Nat, fld h17 a0 12 7 = some (.ref o21) ∧
            ∃ (n22 : Nat) (f23 : Nat → Int32), arr h17 o21 = some (n22, f23) ∧ ¬ (a2 < 0 ∨ n22 ≤ (a2).toNatClampNeg) ∧
            isO h17 a0 12 = true ∧ ∃ (x24 : Int32) (h25 : zH), zT E d m_m_farOf 0 [some (.ref a0), some (.int (f20 (((a1 + 29) + a3)).toNatClampNeg)), some (.int (f23 (a2).toNatClampNeg))] [] h17 (.inl (some (.int x24)), h25) ∧
            if x24 ≤ x16 then (
              zT E (d + 1) m_m_ballFor 5 [some (.ref a0), some (.int a1), some (.int a2), some (.int a3), some (.int (a4 + 1))] [] h25 r)
            else (
              zT E (d + 1) m_m_ballFor 5 [some (.ref a0), some (.int a1), some (.int a2), some (.int a4), some (.int (a4 + 1))] [] h25 r)))
        else (
          zT E (d + 1) m_m_ballFor 5 [some (.ref a0), some (.int a1), some (.int a2), some (.int a3), some (.int (a4 + 1))] [] h3 r)))) :
    zT E (d + 1) m_m_ballFor 5 [some (.ref a0), some (.int a1), some (.int a2), some (.int a3), some (.int a4)] [] h r := by
  refine zT_st (pc' := 8) (L' := [some (.ref a0), some (.int a1), some (.int a2), some (.int a3), some (.int a4)]) (st' := [.ref a0, .int a4]) (h' := h) 2 (fun n => rfl) ?_
  obtain ⟨x1, e, hw⟩ := hw
  refine zT_st (pc' := 11) (L' := [some (.ref a0), some (.int a1), some (.int a2), some (.int a3), some (.int a4)]) (st' := [.int x1, .int a4]) (h' := h) 1 (fun n => fld_eq (E := E) e _) ?_
  by_cases hc : x1 ≤ a4
  · rw [if_pos hc] at hw
    refine zT_st (pc' := 107) (L' := [some (.ref a0), some (.int a1), some (.int a2), some (.int a3), some (.int a4)]) (st' := []) (h' := h) 1 (fun n => if_pos hc) ?_
    subst hw
    exact zT_ret 2 rfl
  · rw [if_neg hc] at hw
    refine zT_st (pc' := 14) (L' := [some (.ref a0), some (.int a1), some (.int a2), some (.int a3), some (.int a4)]) (st' := []) (h' := h) 1 (fun n => if_neg hc) ?_
    refine zT_st (pc' := 18) (L' := [some (.ref a0), some (.int a1), some (.int a2), some (.int a3), some (.int a4)]) (st' := [.int a4, .int a1, .ref a0]) (h' := h) 3 (fun n => rfl) ?_
    obtain ⟨hq, hw⟩ := hw
    obtain ⟨x2, h3, hx, hw⟩ := hw
    refine zT_call (pc' := 21) (rest := []) 1 (fun n => rfl) hq hx ?_
    show zT E (d + 1) m_m_ballFor 21 [some (.ref a0), some (.int a1), some (.int a2), some (.int a3), some (.int a4)] [.int x2] h3 r
    by_cases hc : x2 = 0
    · rw [if_pos hc] at hw
      refine zT_st (pc' := 101) (L' := [some (.ref a0), some (.int a1), some (.int a2), some (.int a3), some (.int a4)]) (st' := []) (h' := h3) 1 (fun n => if_pos hc) ?_
      exact zT_st 2 (fun n => rfl) hw
    · rw [if_neg hc] at hw
      refine zT_st (pc' := 24) (L' := [some (.ref a0), some (.int a1), some (.int a2), some (.int a3), some (.int a4)]) (st' := []) (h' := h3) 1 (fun n => if_neg hc) ?_
      refine zT_st (pc' := 25) (L' := [some (.ref a0), some (.int a1), some (.int a2), some (.int a3), some (.int a4)]) (st' := [.ref a0]) (h' := h3) 1 (fun n => rfl) ?_
      obtain ⟨o4, e, hw⟩ := hw
      refine zT_st (pc' := 28) (L' := [some (.ref a0), some (.int a1), some (.int a2), some (.int a3), some (.int a4)]) (st' := [.ref o4]) (h' := h3) 1 (fun n => fld_eq (E := E) e _) ?_
      refine zT_st (pc' := 30) (L' := [some (.ref a0), some (.int a1), some (.int a2), some (.int a3), some (.int a4)]) (st' := [.int a4, .ref o4]) (h' := h3) 1 (fun n => rfl) ?_
      obtain ⟨n5, f6, e, hi, hw⟩ := hw
      refine zT_st (pc' := 31) (L' := [some (.ref a0), some (.int a1), some (.int a2), some (.int a3), some (.int a4)]) (st' := [.int (f6 (a4).toNatClampNeg)]) (h' := h3) 1 (fun n => arr_eq (E := E) e hi [] (fun st => zrun zP zCd E n (d + 1) m_m_ballFor 31 [some (.ref a0), some (.int a1), some (.int a2), some (.int a3), some (.int a4)] st h3)) ?_
      refine zT_st (pc' := 32) (L' := [some (.ref a0), some (.int a1), some (.int a2), some (.int a3), some (.int a4)]) (st' := [.ref a0, .int (f6 (a4).toNatClampNeg)]) (h' := h3) 1 (fun n => rfl) ?_
      obtain ⟨o7, e, hw⟩ := hw
      refine zT_st (pc' := 35) (L' := [some (.ref a0), some (.int a1), some (.int a2), some (.int a3), some (.int a4)]) (st' := [.ref o7, .int (f6 (a4).toNatClampNeg)]) (h' := h3) 1 (fun n => fld_eq (E := E) e _) ?_
      refine zT_st (pc' := 40) (L' := [some (.ref a0), some (.int a1), some (.int a2), some (.int a3), some (.int a4)]) (st' := [.int ((a1 + 1) + a2), .ref o7, .int (f6 (a4).toNatClampNeg)]) (h' := h3) 5 (fun n => rfl) ?_
      obtain ⟨n8, f9, e, hi, hw⟩ := hw
      refine zT_st (pc' := 41) (L' := [some (.ref a0), some (.int a1), some (.int a2), some (.int a3), some (.int a4)]) (st' := [.int (f9 (((a1 + 1) + a2)).toNatClampNeg), .int (f6 (a4).toNatClampNeg)]) (h' := h3) 1 (fun n => arr_eq (E := E) e hi [.int (f6 (a4).toNatClampNeg)] (fun st => zrun zP zCd E n (d + 1) m_m_ballFor 41 [some (.ref a0), some (.int a1), some (.int a2), some (.int a3), some (.int a4)] st h3)) ?_
      by_cases hc : (f9 (((a1 + 1) + a2)).toNatClampNeg) ≤ (f6 (a4).toNatClampNeg)
      · rw [if_pos hc] at hw
        refine zT_st (pc' := 47) (L' := [some (.ref a0), some (.int a1), some (.int a2), some (.int a3), some (.int a4)]) (st' := []) (h' := h3) 1 (fun n => if_pos hc) ?_
        refine zT_st (pc' := 49) (L' := [some (.ref a0), some (.int a1), some (.int a2), some (.int a3), some (.int a4)]) (st' := [.int (-1), .int a3]) (h' := h3) 2 (fun n => rfl) ?_
        by_cases hc : a3 = (-1)
        · rw [if_pos hc] at hw
          refine zT_st (pc' := 98) (L' := [some (.ref a0), some (.int a1), some (.int a2), some (.int a3), some (.int a4)]) (st' := []) (h' := h3) 1 (fun n => if_pos hc) ?_
          exact zT_st 4 (fun n => rfl) hw
        · rw [if_neg hc] at hw
          refine zT_st (pc' := 52) (L' := [some (.ref a0), some (.int a1), some (.int a2), some (.int a3), some (.int a4)]) (st' := []) (h' := h3) 1 (fun n => if_neg hc) ?_
          refine zT_st (pc' := 54) (L' := [some (.ref a0), some (.int a1), some (.int a2), some (.int a3), some (.int a4)]) (st' := [.ref a0, .ref a0]) (h' := h3) 2 (fun n => rfl) ?_
          obtain ⟨o10, e, hw⟩ := hw
          refine zT_st (pc' := 57) (L' := [some (.ref a0), some (.int a1), some (.int a2), some (.int a3), some (.int a4)]) (st' := [.ref o10, .ref a0]) (h' := h3) 1 (fun n => fld_eq (E := E) e _) ?_
          refine zT_st (pc' := 64) (L' := [some (.ref a0), some (.int a1), some (.int a2), some (.int a3), some (.int a4)]) (st' := [.int ((a1 + 29) + a4), .ref o10, .ref a0]) (h' := h3) 5 (fun n => rfl) ?_
          obtain ⟨n11, f12, e, hi, hw⟩ := hw
          refine zT_st (pc' := 65) (L' := [some (.ref a0), some (.int a1), some (.int a2), some (.int a3), some (.int a4)]) (st' := [.int (f12 (((a1 + 29) + a4)).toNatClampNeg), .ref a0]) (h' := h3) 1 (fun n => arr_eq (E := E) e hi [.ref a0] (fun st => zrun zP zCd E n (d + 1) m_m_ballFor 65 [some (.ref a0), some (.int a1), some (.int a2), some (.int a3), some (.int a4)] st h3)) ?_
          refine zT_st (pc' := 66) (L' := [some (.ref a0), some (.int a1), some (.int a2), some (.int a3), some (.int a4)]) (st' := [.ref a0, .int (f12 (((a1 + 29) + a4)).toNatClampNeg), .ref a0]) (h' := h3) 1 (fun n => rfl) ?_
          obtain ⟨o13, e, hw⟩ := hw
          refine zT_st (pc' := 69) (L' := [some (.ref a0), some (.int a1), some (.int a2), some (.int a3), some (.int a4)]) (st' := [.ref o13, .int (f12 (((a1 + 29) + a4)).toNatClampNeg), .ref a0]) (h' := h3) 1 (fun n => fld_eq (E := E) e _) ?_
          refine zT_st (pc' := 70) (L' := [some (.ref a0), some (.int a1), some (.int a2), some (.int a3), some (.int a4)]) (st' := [.int a2, .ref o13, .int (f12 (((a1 + 29) + a4)).toNatClampNeg), .ref a0]) (h' := h3) 1 (fun n => rfl) ?_
          obtain ⟨n14, f15, e, hi, hw⟩ := hw
          refine zT_st (pc' := 71) (L' := [some (.ref a0), some (.int a1), some (.int a2), some (.int a3), some (.int a4)]) (st' := [.int (f15 (a2).toNatClampNeg), .int (f12 (((a1 + 29) + a4)).toNatClampNeg), .ref a0]) (h' := h3) 1 (fun n => arr_eq (E := E) e hi [.int (f12 (((a1 + 29) + a4)).toNatClampNeg), .ref a0] (fun st => zrun zP zCd E n (d + 1) m_m_ballFor 71 [some (.ref a0), some (.int a1), some (.int a2), some (.int a3), some (.int a4)] st h3)) ?_
          obtain ⟨hq, hw⟩ := hw
          obtain ⟨x16, h17, hx, hw⟩ := hw
          refine zT_call (pc' := 74) (rest := []) 1 (fun n => rfl) hq hx ?_
          show zT E (d + 1) m_m_ballFor 74 [some (.ref a0), some (.int a1), some (.int a2), some (.int a3), some (.int a4)] [.int x16] h17 r
          refine zT_st (pc' := 76) (L' := [some (.ref a0), some (.int a1), some (.int a2), some (.int a3), some (.int a4)]) (st' := [.ref a0, .ref a0, .int x16]) (h' := h17) 2 (fun n => rfl) ?_
          obtain ⟨o18, e, hw⟩ := hw
          refine zT_st (pc' := 79) (L' := [some (.ref a0), some (.int a1), some (.int a2), some (.int a3), some (.int a4)]) (st' := [.ref o18, .ref a0, .int x16]) (h' := h17) 1 (fun n => fld_eq (E := E) e _) ?_
          refine zT_st (pc' := 85) (L' := [some (.ref a0), some (.int a1), some (.int a2), some (.int a3), some (.int a4)]) (st' := [.int ((a1 + 29) + a3), .ref o18, .ref a0, .int x16]) (h' := h17) 5 (fun n => rfl) ?_
          obtain ⟨n19, f20, e, hi, hw⟩ := hw
          refine zT_st (pc' := 86) (L' := [some (.ref a0), some (.int a1), some (.int a2), some (.int a3), some (.int a4)]) (st' := [.int (f20 (((a1 + 29) + a3)).toNatClampNeg), .ref a0, .int x16]) (h' := h17) 1 (fun n => arr_eq (E := E) e hi [.ref a0, .int x16] (fun st => zrun zP zCd E n (d + 1) m_m_ballFor 86 [some (.ref a0), some (.int a1), some (.int a2), some (.int a3), some (.int a4)] st h17)) ?_
          refine zT_st (pc' := 87) (L' := [some (.ref a0), some (.int a1), some (.int a2), some (.int a3), some (.int a4)]) (st' := [.ref a0, .int (f20 (((a1 + 29) + a3)).toNatClampNeg), .ref a0, .int x16]) (h' := h17) 1 (fun n => rfl) ?_
          obtain ⟨o21, e, hw⟩ := hw
          refine zT_st (pc' := 90) (L' := [some (.ref a0), some (.int a1), some (.int a2), some (.int a3), some (.int a4)]) (st' := [.ref o21, .int (f20 (((a1 + 29) + a3)).toNatClampNeg), .ref a0, .int x16]) (h' := h17) 1 (fun n => fld_eq (E := E) e _) ?_
          refine zT_st (pc' := 91) (L' := [some (.ref a0), some (.int a1), some (.int a2), some (.int a3), some (.int a4)]) (st' := [.int a2, .ref o21, .int (f20 (((a1 + 29) + a3)).toNatClampNeg), .ref a0, .int x16]) (h' := h17) 1 (fun n => rfl) ?_
          obtain ⟨n22, f23, e, hi, hw⟩ := hw
          refine zT_st (pc' := 92) (L' := [some (.ref a0), some (.int a1), some (.int a2), some (.int a3), some (.int a4)]) (st' := [.int (f23 (a2).toNatClampNeg), .int (f20 (((a1 + 29) + a3)).toNatClampNeg), .ref a0, .int x16]) (h' := h17) 1 (fun n => arr_eq (E := E) e hi [.int (f20 (((a1 + 29) + a3)).toNatClampNeg), .ref a0, .int x16] (fun st => zrun zP zCd E n (d + 1) m_m_ballFor 92 [some (.ref a0), some (.int a1), some (.int a2), some (.int a3), some (.int a4)] st h17)) ?_
          obtain ⟨hq, hw⟩ := hw
          obtain ⟨x24, h25, hx, hw⟩ := hw
          refine zT_call (pc' := 95) (rest := [.int x16]) 1 (fun n => rfl) hq hx ?_
          show zT E (d + 1) m_m_ballFor 95 [some (.ref a0), some (.int a1), some (.int a2), some (.int a3), some (.int a4)] [.int x24, .int x16] h25 r
          by_cases hc : x24 ≤ x16
          · rw [if_pos hc] at hw
            refine zT_st (pc' := 101) (L' := [some (.ref a0), some (.int a1), some (.int a2), some (.int a3), some (.int a4)]) (st' := []) (h' := h25) 1 (fun n => if_pos hc) ?_
            exact zT_st 2 (fun n => rfl) hw
          · rw [if_neg hc] at hw
            refine zT_st (pc' := 98) (L' := [some (.ref a0), some (.int a1), some (.int a2), some (.int a3), some (.int a4)]) (st' := []) (h' := h25) 1 (fun n => if_neg hc) ?_
            exact zT_st 4 (fun n => rfl) hw
      · rw [if_neg hc] at hw
        refine zT_st (pc' := 44) (L' := [some (.ref a0), some (.int a1), some (.int a2), some (.int a3), some (.int a4)]) (st' := []) (h' := h3) 1 (fun n => if_neg hc) ?_
        exact zT_st 3 (fun n => rfl) hw
set_option maxRecDepth 4000 in
theorem s_m_ball_0 (E : zX) (d : Nat) (a0 : Nat) (a1 : Int32) (a2 : Int32) (h : zH) (r : zO × zH)
    (hw : (∃ w, fld h a0 12 0 = some w) ∧
    isO (setF h a0 0 (.int 0)) a0 12 = true ∧ ∃ (x1 : Int32) (h2 : zH), zT E d m_m_isBall 0 [some (.ref a0), some (.int a1)] [] (setF h a0 0 (.int 0)) (.inl (some (.int x1)), h2) ∧
    if x1 = 0 then (
      r = (.inl (some (.int 0)), h2))
    else (
      isO h2 a0 12 = true ∧ ∃ (x3 : Int32) (h4 : zH), zT E d m_m_isWhat 0 [some (.ref a0), some (.int a2), some (.int 7)] [] h2 (.inl (some (.int x3)), h4) ∧
      if x3 = 0 then (
        r = (.inl (some (.int 0)), h4))
      else (
        if a2 = 0 then (
          ∃ o5 : Nat, fld h4 a0 12 40 = some (.ref o5) ∧
          ∃ (n6 : Nat) (f7 : Nat → Int32), arr h4 o5 = some (n6, f7) ∧ ¬ ((29 + a1) < 0 ∨ n6 ≤ ((29 + a1)).toNatClampNeg) ∧
          r = (.inl (some (.int (f7 ((29 + a1)).toNatClampNeg))), h4))
        else if a2 = 1 then (
          ∃ o8 : Nat, fld h4 a0 12 8 = some (.ref o8) ∧
          ∃ (n9 : Nat) (f10 : Nat → Int32), arr h4 o8 = some (n9, f10) ∧ ¬ (a1 < 0 ∨ n9 ≤ (a1).toNatClampNeg) ∧
          r = (.inl (some (.int (f10 (a1).toNatClampNeg))), h4))
        else if a2 = 2 then (
          ∃ o11 : Nat, fld h4 a0 12 40 = some (.ref o11) ∧
          ∃ (n12 : Nat) (f13 : Nat → Int32), arr h4 o11 = some (n12, f13) ∧ ¬ ((39 + a1) < 0 ∨ n12 ≤ ((39 + a1)).toNatClampNeg) ∧
          r = (.inl (some (.int (f13 ((39 + a1)).toNatClampNeg))), h4))
        else if a2 = 3 then (
          ∃ o14 : Nat, fld h4 a0 12 40 = some (.ref o14) ∧
          ∃ (n15 : Nat) (f16 : Nat → Int32), arr h4 o14 = some (n15, f16) ∧ ¬ ((49 + a1) < 0 ∨ n15 ≤ ((49 + a1)).toNatClampNeg) ∧
          r = (.inl (some (.int (f16 ((49 + a1)).toNatClampNeg))), h4))
        else if a2 = 4 then (
          ∃ o17 : Nat, fld h4 a0 12 40 = some (.ref o17) ∧
          ∃ (n18 : Nat) (f19 : Nat → Int32), arr h4 o17 = some (n18, f19) ∧ ¬ ((59 + a1) < 0 ∨ n18 ≤ ((59 + a1)).toNatClampNeg) ∧
          r = (.inl (some (.int (f19 ((59 + a1)).toNatClampNeg))), h4))
        else if a2 = 5 then (
          ∃ o20 : Nat, fld h4 a0 12 40 = some (.ref o20) ∧
          ∃ (n21 : Nat) (f22 : Nat → Int32), arr h4 o20 = some (n21, f22) ∧ ¬ ((69 + a1) < 0 ∨ n21 ≤ ((69 + a1)).toNatClampNeg) ∧
          r = (.inl (some (.int (f22 ((69 + a1)).toNatClampNeg))), h4))
        else if a2 = 6 then (
          isO h4 a0 12 = true ∧ ∃ (x23 : Int32) (h24 : zH), zT E d m_m_setOffBy 0 [some (.ref a0), some (.int a1)] [] h4 (.inl (some (.int x23)), h24) ∧
          r = (.inl (some (.int x23)), h24))
        else (
          isO h4 a0 12 = true ∧ ∃ (x25 : Int32) (h26 : zH), zT E d m_m_setOffBy 0 [some (.ref a0), some (.int a1)] [] h4 (.inl (some (.int x25)), h26) ∧
          isO h26 a0 12 = true ∧ ∃ (x27 : Int32) (h28 : zH), zT E d m_m_hearers 0 [some (.ref a0), some (.int x25), none, none, none] [] h26 (.inl (some (.int x27)), h28) ∧
          r = (.inl (some (.int x27)), h28))))) :
    zT E (d + 1) m_m_ball 0 [some (.ref a0), some (.int a1), some (.int a2)] [] h r := by
  refine zT_st (pc' := 2) (L' := [some (.ref a0), some (.int a1), some (.int a2)]) (st' := [.int 0, .ref a0]) (h' := h) 2 (fun n => rfl) ?_
  obtain ⟨⟨w, e⟩, hw⟩ := hw
  refine zT_st (pc' := 5) (L' := [some (.ref a0), some (.int a1), some (.int a2)]) (st' := []) (h' := (setF h a0 0 (.int 0))) 1 (fun n => put_eq e rfl _ _) ?_
  refine zT_st (pc' := 7) (L' := [some (.ref a0), some (.int a1), some (.int a2)]) (st' := [.int a1, .ref a0]) (h' := (setF h a0 0 (.int 0))) 2 (fun n => rfl) ?_
  obtain ⟨hq, hw⟩ := hw
  obtain ⟨x1, h2, hx, hw⟩ := hw
  refine zT_call (pc' := 10) (rest := []) 1 (fun n => rfl) hq hx ?_
  show zT E (d + 1) m_m_ball 10 [some (.ref a0), some (.int a1), some (.int a2)] [.int x1] h2 r
  by_cases hc : x1 = 0
  · rw [if_pos hc] at hw
    refine zT_st (pc' := 23) (L' := [some (.ref a0), some (.int a1), some (.int a2)]) (st' := []) (h' := h2) 1 (fun n => if_pos hc) ?_
    subst hw
    exact zT_ret 2 rfl
  · rw [if_neg hc] at hw
    refine zT_st (pc' := 13) (L' := [some (.ref a0), some (.int a1), some (.int a2)]) (st' := []) (h' := h2) 1 (fun n => if_neg hc) ?_
    refine zT_st (pc' := 17) (L' := [some (.ref a0), some (.int a1), some (.int a2)]) (st' := [.int 7, .int a2, .ref a0]) (h' := h2) 3 (fun n => rfl) ?_
    obtain ⟨hq, hw⟩ := hw
    obtain ⟨x3, h4, hx, hw⟩ := hw
    refine zT_call (pc' := 20) (rest := []) 1 (fun n => rfl) hq hx ?_
    show zT E (d + 1) m_m_ball 20 [some (.ref a0), some (.int a1), some (.int a2)] [.int x3] h4 r
    by_cases hc : x3 = 0
    · rw [if_pos hc] at hw
      refine zT_st (pc' := 23) (L' := [some (.ref a0), some (.int a1), some (.int a2)]) (st' := []) (h' := h4) 1 (fun n => if_pos hc) ?_
      subst hw
      exact zT_ret 2 rfl
    · rw [if_neg hc] at hw
      refine zT_st (pc' := 25) (L' := [some (.ref a0), some (.int a1), some (.int a2)]) (st' := []) (h' := h4) 1 (fun n => if_neg hc) ?_
      refine zT_st (pc' := 26) (L' := [some (.ref a0), some (.int a1), some (.int a2)]) (st' := [.int a2]) (h' := h4) 1 (fun n => rfl) ?_
      by_cases c0 : a2 = 0
      · rw [if_pos c0] at hw
        refine zT_st (pc' := 68) (L' := [some (.ref a0), some (.int a1), some (.int a2)]) (st' := []) (h' := h4) 1 (fun n => zsw_in c0 rfl) ?_
        refine zT_st (pc' := 69) (L' := [some (.ref a0), some (.int a1), some (.int a2)]) (st' := [.ref a0]) (h' := h4) 1 (fun n => rfl) ?_
        obtain ⟨o5, e, hw⟩ := hw
        refine zT_st (pc' := 72) (L' := [some (.ref a0), some (.int a1), some (.int a2)]) (st' := [.ref o5]) (h' := h4) 1 (fun n => fld_eq (E := E) e _) ?_
        refine zT_st (pc' := 76) (L' := [some (.ref a0), some (.int a1), some (.int a2)]) (st' := [.int (29 + a1), .ref o5]) (h' := h4) 3 (fun n => rfl) ?_
        obtain ⟨n6, f7, e, hi, hw⟩ := hw
        refine zT_st (pc' := 77) (L' := [some (.ref a0), some (.int a1), some (.int a2)]) (st' := [.int (f7 ((29 + a1)).toNatClampNeg)]) (h' := h4) 1 (fun n => arr_eq (E := E) e hi [] (fun st => zrun zP zCd E n (d + 1) m_m_ball 77 [some (.ref a0), some (.int a1), some (.int a2)] st h4)) ?_
        subst hw
        exact zT_ret 1 rfl
      rw [if_neg c0] at hw
      by_cases c1 : a2 = 1
      · rw [if_pos c1] at hw
        refine zT_st (pc' := 78) (L' := [some (.ref a0), some (.int a1), some (.int a2)]) (st' := []) (h' := h4) 1 (fun n => zsw_in c1 rfl) ?_
        refine zT_st (pc' := 79) (L' := [some (.ref a0), some (.int a1), some (.int a2)]) (st' := [.ref a0]) (h' := h4) 1 (fun n => rfl) ?_
        obtain ⟨o8, e, hw⟩ := hw
        refine zT_st (pc' := 82) (L' := [some (.ref a0), some (.int a1), some (.int a2)]) (st' := [.ref o8]) (h' := h4) 1 (fun n => fld_eq (E := E) e _) ?_
        refine zT_st (pc' := 83) (L' := [some (.ref a0), some (.int a1), some (.int a2)]) (st' := [.int a1, .ref o8]) (h' := h4) 1 (fun n => rfl) ?_
        obtain ⟨n9, f10, e, hi, hw⟩ := hw
        refine zT_st (pc' := 84) (L' := [some (.ref a0), some (.int a1), some (.int a2)]) (st' := [.int (f10 (a1).toNatClampNeg)]) (h' := h4) 1 (fun n => arr_eq (E := E) e hi [] (fun st => zrun zP zCd E n (d + 1) m_m_ball 84 [some (.ref a0), some (.int a1), some (.int a2)] st h4)) ?_
        subst hw
        exact zT_ret 1 rfl
      rw [if_neg c1] at hw
      by_cases c2 : a2 = 2
      · rw [if_pos c2] at hw
        refine zT_st (pc' := 85) (L' := [some (.ref a0), some (.int a1), some (.int a2)]) (st' := []) (h' := h4) 1 (fun n => zsw_in c2 rfl) ?_
        refine zT_st (pc' := 86) (L' := [some (.ref a0), some (.int a1), some (.int a2)]) (st' := [.ref a0]) (h' := h4) 1 (fun n => rfl) ?_
        obtain ⟨o11, e, hw⟩ := hw
        refine zT_st (pc' := 89) (L' := [some (.ref a0), some (.int a1), some (.int a2)]) (st' := [.ref o11]) (h' := h4) 1 (fun n => fld_eq (E := E) e _) ?_
        refine zT_st (pc' := 93) (L' := [some (.ref a0), some (.int a1), some (.int a2)]) (st' := [.int (39 + a1), .ref o11]) (h' := h4) 3 (fun n => rfl) ?_
        obtain ⟨n12, f13, e, hi, hw⟩ := hw
        refine zT_st (pc' := 94) (L' := [some (.ref a0), some (.int a1), some (.int a2)]) (st' := [.int (f13 ((39 + a1)).toNatClampNeg)]) (h' := h4) 1 (fun n => arr_eq (E := E) e hi [] (fun st => zrun zP zCd E n (d + 1) m_m_ball 94 [some (.ref a0), some (.int a1), some (.int a2)] st h4)) ?_
        subst hw
        exact zT_ret 1 rfl
      rw [if_neg c2] at hw
      by_cases c3 : a2 = 3
      · rw [if_pos c3] at hw
        refine zT_st (pc' := 95) (L' := [some (.ref a0), some (.int a1), some (.int a2)]) (st' := []) (h' := h4) 1 (fun n => zsw_in c3 rfl) ?_
        refine zT_st (pc' := 96) (L' := [some (.ref a0), some (.int a1), some (.int a2)]) (st' := [.ref a0]) (h' := h4) 1 (fun n => rfl) ?_
        obtain ⟨o14, e, hw⟩ := hw
        refine zT_st (pc' := 99) (L' := [some (.ref a0), some (.int a1), some (.int a2)]) (st' := [.ref o14]) (h' := h4) 1 (fun n => fld_eq (E := E) e _) ?_
        refine zT_st (pc' := 103) (L' := [some (.ref a0), some (.int a1), some (.int a2)]) (st' := [.int (49 + a1), .ref o14]) (h' := h4) 3 (fun n => rfl) ?_
        obtain ⟨n15, f16, e, hi, hw⟩ := hw
        refine zT_st (pc' := 104) (L' := [some (.ref a0), some (.int a1), some (.int a2)]) (st' := [.int (f16 ((49 + a1)).toNatClampNeg)]) (h' := h4) 1 (fun n => arr_eq (E := E) e hi [] (fun st => zrun zP zCd E n (d + 1) m_m_ball 104 [some (.ref a0), some (.int a1), some (.int a2)] st h4)) ?_
        subst hw
        exact zT_ret 1 rfl
      rw [if_neg c3] at hw
      by_cases c4 : a2 = 4
      · rw [if_pos c4] at hw
        refine zT_st (pc' := 105) (L' := [some (.ref a0), some (.int a1), some (.int a2)]) (st' := []) (h' := h4) 1 (fun n => zsw_in c4 rfl) ?_
        refine zT_st (pc' := 106) (L' := [some (.ref a0), some (.int a1), some (.int a2)]) (st' := [.ref a0]) (h' := h4) 1 (fun n => rfl) ?_
        obtain ⟨o17, e, hw⟩ := hw
        refine zT_st (pc' := 109) (L' := [some (.ref a0), some (.int a1), some (.int a2)]) (st' := [.ref o17]) (h' := h4) 1 (fun n => fld_eq (E := E) e _) ?_
        refine zT_st (pc' := 113) (L' := [some (.ref a0), some (.int a1), some (.int a2)]) (st' := [.int (59 + a1), .ref o17]) (h' := h4) 3 (fun n => rfl) ?_
        obtain ⟨n18, f19, e, hi, hw⟩ := hw
        refine zT_st (pc' := 114) (L' := [some (.ref a0), some (.int a1), some (.int a2)]) (st' := [.int (f19 ((59 + a1)).toNatClampNeg)]) (h' := h4) 1 (fun n => arr_eq (E := E) e hi [] (fun st => zrun zP zCd E n (d + 1) m_m_ball 114 [some (.ref a0), some (.int a1), some (.int a2)] st h4)) ?_
        subst hw
        exact zT_ret 1 rfl
      rw [if_neg c4] at hw
      by_cases c5 : a2 = 5
      · rw [if_pos c5] at hw
        refine zT_st (pc' := 115) (L' := [some (.ref a0), some (.int a1), some (.int a2)]) (st' := []) (h' := h4) 1 (fun n => zsw_in c5 rfl) ?_
        refine zT_st (pc' := 116) (L' := [some (.ref a0), some (.int a1), some (.int a2)]) (st' := [.ref a0]) (h' := h4) 1 (fun n => rfl) ?_
        obtain ⟨o20, e, hw⟩ := hw
        refine zT_st (pc' := 119) (L' := [some (.ref a0), some (.int a1), some (.int a2)]) (st' := [.ref o20]) (h' := h4) 1 (fun n => fld_eq (E := E) e _) ?_
        refine zT_st (pc' := 123) (L' := [some (.ref a0), some (.int a1), some (.int a2)]) (st' := [.int (69 + a1), .ref o20]) (h' := h4) 3 (fun n => rfl) ?_
        obtain ⟨n21, f22, e, hi, hw⟩ := hw
        refine zT_st (pc' := 124) (L' := [some (.ref a0), some (.int a1), some (.int a2)]) (st' := [.int (f22 ((69 + a1)).toNatClampNeg)]) (h' := h4) 1 (fun n => arr_eq (E := E) e hi [] (fun st => zrun zP zCd E n (d + 1) m_m_ball 124 [some (.ref a0), some (.int a1), some (.int a2)] st h4)) ?_
        subst hw
        exact zT_ret 1 rfl
      rw [if_neg c5] at hw
      by_cases c6 : a2 = 6
      · rw [if_pos c6] at hw
        refine zT_st (pc' := 125) (L' := [some (.ref a0), some (.int a1), some (.int a2)]) (st' := []) (h' := h4) 1 (fun n => zsw_in c6 rfl) ?_
        refine zT_st (pc' := 127) (L' := [some (.ref a0), some (.int a1), some (.int a2)]) (st' := [.int a1, .ref a0]) (h' := h4) 2 (fun n => rfl) ?_
        obtain ⟨hq, hw⟩ := hw
        obtain ⟨x23, h24, hx, hw⟩ := hw
        refine zT_call (pc' := 130) (rest := []) 1 (fun n => rfl) hq hx ?_
        show zT E (d + 1) m_m_ball 130 [some (.ref a0), some (.int a1), some (.int a2)] [.int x23] h24 r
        subst hw
        exact zT_ret 1 rfl
      rw [if_neg c6] at hw
      refine zT_st (pc' := 131) (L' := [some (.ref a0), some (.int a1), some (.int a2)]) (st' := []) (h' := h4) 1 (fun n => zsw_out (zout (n := 7) (by decide) (fun k hk => by rcases k with _ | _ | _ | _ | _ | _ | _ | k <;> first | assumption | omega)) rfl) ?_
      refine zT_st (pc' := 134) (L' := [some (.ref a0), some (.int a1), some (.int a2)]) (st' := [.int a1, .ref a0, .ref a0]) (h' := h4) 3 (fun n => rfl) ?_
      obtain ⟨hq, hw⟩ := hw
      obtain ⟨x25, h26, hx, hw⟩ := hw
      refine zT_call (pc' := 137) (rest := [.ref a0]) 1 (fun n => rfl) hq hx ?_
      show zT E (d + 1) m_m_ball 137 [some (.ref a0), some (.int a1), some (.int a2)] [.int x25, .ref a0] h26 r
      obtain ⟨hq, hw⟩ := hw
      obtain ⟨x27, h28, hx, hw⟩ := hw
      refine zT_call (pc' := 140) (rest := []) 1 (fun n => rfl) hq hx ?_
      show zT E (d + 1) m_m_ball 140 [some (.ref a0), some (.int a1), some (.int a2)] [.int x27] h28 r
      subst hw
      exact zT_ret 1 rfl
set_option maxRecDepth 4000 in
theorem s_m_isBall_0 (E : zX) (d : Nat) (a0 : Nat) (a1 : Int32) (h : zH) (r : zO × zH)
    (hw : if a1 < 0 then (
      isO h a0 12 = true ∧ ∃ (x1 : Int32) (h2 : zH), zT E d m_m_right 0 [some (.ref a0), some (.int 0), some (.int 1)] [] h (.inl (some (.int x1)), h2) ∧
      zfr (some .boolean) x1 = true ∧ r = (.inl (some (.int x1)), h2))
    else (
      ∃ x3 : Int32, fld h a0 12 4 = some (.int x3) ∧
      if x3 ≤ a1 then (
        isO h a0 12 = true ∧ ∃ (x4 : Int32) (h5 : zH), zT E d m_m_right 0 [some (.ref a0), some (.int 0), some (.int 1)] [] h (.inl (some (.int x4)), h5) ∧
        zfr (some .boolean) x4 = true ∧ r = (.inl (some (.int x4)), h5))
      else (
        isO h a0 12 = true ∧ ∃ (x6 : Int32) (h7 : zH), zT E d m_m_right 0 [some (.ref a0), some (.int 1), some (.int 1)] [] h (.inl (some (.int x6)), h7) ∧
        zfr (some .boolean) x6 = true ∧ r = (.inl (some (.int x6)), h7)))) :
    zT E (d + 1) m_m_isBall 0 [some (.ref a0), some (.int a1)] [] h r := by
  refine zT_st (pc' := 2) (L' := [some (.ref a0), some (.int a1)]) (st' := [.int a1, .ref a0]) (h' := h) 2 (fun n => rfl) ?_
  by_cases hc : a1 < 0
  · rw [if_pos hc] at hw
    refine zT_st (pc' := 17) (L' := [some (.ref a0), some (.int a1)]) (st' := [.ref a0]) (h' := h) 1 (fun n => if_pos hc) ?_
    refine zT_st (pc' := 19) (L' := [some (.ref a0), some (.int a1)]) (st' := [.int 1, .int 0, .ref a0]) (h' := h) 2 (fun n => rfl) ?_
    obtain ⟨hq, hw⟩ := hw
    obtain ⟨x1, h2, hx, hw⟩ := hw
    refine zT_call (pc' := 22) (rest := []) 1 (fun n => rfl) hq hx ?_
    show zT E (d + 1) m_m_isBall 22 [some (.ref a0), some (.int a1)] [.int x1] h2 r
    obtain ⟨hz, hw⟩ := hw
    subst hw
    refine zT_ret 1 ?_
    show (bif zfr _ _ then _ else none) = _
    rw [hz]
    rfl
  · rw [if_neg hc] at hw
    refine zT_st (pc' := 5) (L' := [some (.ref a0), some (.int a1)]) (st' := [.ref a0]) (h' := h) 1 (fun n => if_neg hc) ?_
    refine zT_st (pc' := 7) (L' := [some (.ref a0), some (.int a1)]) (st' := [.ref a0, .int a1, .ref a0]) (h' := h) 2 (fun n => rfl) ?_
    obtain ⟨x3, e, hw⟩ := hw
    refine zT_st (pc' := 10) (L' := [some (.ref a0), some (.int a1)]) (st' := [.int x3, .int a1, .ref a0]) (h' := h) 1 (fun n => fld_eq (E := E) e _) ?_
    by_cases hc : x3 ≤ a1
    · rw [if_pos hc] at hw
      refine zT_st (pc' := 17) (L' := [some (.ref a0), some (.int a1)]) (st' := [.ref a0]) (h' := h) 1 (fun n => if_pos hc) ?_
      refine zT_st (pc' := 19) (L' := [some (.ref a0), some (.int a1)]) (st' := [.int 1, .int 0, .ref a0]) (h' := h) 2 (fun n => rfl) ?_
      obtain ⟨hq, hw⟩ := hw
      obtain ⟨x4, h5, hx, hw⟩ := hw
      refine zT_call (pc' := 22) (rest := []) 1 (fun n => rfl) hq hx ?_
      show zT E (d + 1) m_m_isBall 22 [some (.ref a0), some (.int a1)] [.int x4] h5 r
      obtain ⟨hz, hw⟩ := hw
      subst hw
      refine zT_ret 1 ?_
      show (bif zfr _ _ then _ else none) = _
      rw [hz]
      rfl
    · rw [if_neg hc] at hw
      refine zT_st (pc' := 13) (L' := [some (.ref a0), some (.int a1)]) (st' := [.ref a0]) (h' := h) 1 (fun n => if_neg hc) ?_
      refine zT_st (pc' := 19) (L' := [some (.ref a0), some (.int a1)]) (st' := [.int 1, .int 1, .ref a0]) (h' := h) 3 (fun n => rfl) ?_
      obtain ⟨hq, hw⟩ := hw
      obtain ⟨x6, h7, hx, hw⟩ := hw
      refine zT_call (pc' := 22) (rest := []) 1 (fun n => rfl) hq hx ?_
      show zT E (d + 1) m_m_isBall 22 [some (.ref a0), some (.int a1)] [.int x6] h7 r
      obtain ⟨hz, hw⟩ := hw
      subst hw
      refine zT_ret 1 ?_
      show (bif zfr _ _ then _ else none) = _
      rw [hz]
      rfl
set_option maxRecDepth 4000 in
theorem s_m_hearers_0 (E : zX) (d : Nat) (a0 : Nat) (a1 : Int32) (h : zH) (r : zO × zH)
    (hw : zT E (d + 1) m_m_hearers 4 [some (.ref a0), some (.int a1), some (.int 0), some (.int 0), none] [] h r) :
    zT E (d + 1) m_m_hearers 0 [some (.ref a0), some (.int a1), none, none, none] [] h r := by
  exact zT_st 4 (fun n => rfl) hw
set_option maxRecDepth 4000 in
theorem s_m_hearers_4 (E : zX) (d : Nat) (a0 : Nat) (a1 : Int32) (a2 : Int32) (a3 : Int32) (j4 : Option Value) (h : zH) (r : zO × zH)
    (hw : ∃ x1 : Int32, fld h a0 12 3 = some (.int x1) ∧
    if x1 ≤ a3 then (
      r = (.inl (some (.int a2)), h))
    else (
      zT E (d + 1) m_m_hearers 15 [some (.ref a0), some (.int a1), some (.int a2), some (.int a3), some (.int 0)] [] h r)) :
    zT E (d + 1) m_m_hearers 4 [some (.ref a0), some (.int a1), some (.int a2), some (.int a3), j4] [] h r := by
  refine zT_st (pc' := 6) (L' := [some (.ref a0), some (.int a1), some (.int a2), some (.int a3), j4]) (st' := [.ref a0, .int a3]) (h' := h) 2 (fun n => rfl) ?_
  obtain ⟨x1, e, hw⟩ := hw
  refine zT_st (pc' := 9) (L' := [some (.ref a0), some (.int a1), some (.int a2), some (.int a3), j4]) (st' := [.int x1, .int a3]) (h' := h) 1 (fun n => fld_eq (E := E) e _) ?_
  by_cases hc : x1 ≤ a3
  · rw [if_pos hc] at hw
    refine zT_st (pc' := 72) (L' := [some (.ref a0), some (.int a1), some (.int a2), some (.int a3), j4]) (st' := []) (h' := h) 1 (fun n => if_pos hc) ?_
    subst hw
    exact zT_ret 2 rfl
  · rw [if_neg hc] at hw
    refine zT_st (pc' := 12) (L' := [some (.ref a0), some (.int a1), some (.int a2), some (.int a3), j4]) (st' := []) (h' := h) 1 (fun n => if_neg hc) ?_
    exact zT_st 2 (fun n => rfl) hw
set_option maxRecDepth 4000 in
theorem s_m_hearers_15 (E : zX) (d : Nat) (a0 : Nat) (a1 : Int32) (a2 : Int32) (a3 : Int32) (a4 : Int32) (h : zH) (r : zO × zH)
    (hw : ∃ x1 : Int32, fld h a0 12 4 = some (.int x1) ∧
    if x1 ≤ a4 then (
      zT E (d + 1) m_m_hearers 4 [some (.ref a0), some (.int a1), some (.int a2), some (.int (a3 + 1)), some (.int a4)] [] h r)
    else (
      if ((a1 >>> (a4 &&& 31)) &&& 1) = 1 then (
        ∃ o2 : Nat, fld h a0 12 7 = some (.ref o2) ∧
        ∃ (n3 : Nat) (f4 : Nat → Int32), arr h o2 = some (n3, f4) ∧ ¬ (a3 < 0 ∨ n3 ≤ (a3).toNatClampNeg) ∧
        isO h a0 12 = true ∧ ∃ (x5 : Int32) (h6 : zH), zT E d m_m_isIn 0 [some (.ref a0), some (.int 0), some (.int a4), some (.int (f4 (a3).toNatClampNeg))] [] h (.inl (some (.int x5)), h6) ∧
        if x5 = 0 then (
          zT E (d + 1) m_m_hearers 15 [some (.ref a0), some (.int a1), some (.int (a2 ||| 0)), some (.int a3), some (.int (a4 + 1))] [] h6 r)
        else (
          zT E (d + 1) m_m_hearers 15 [some (.ref a0), some (.int a1), some (.int (a2 ||| (1 <<< (a3 &&& 31)))), some (.int a3), some (.int (a4 + 1))] [] h6 r))
      else (
        zT E (d + 1) m_m_hearers 15 [some (.ref a0), some (.int a1), some (.int (a2 ||| 0)), some (.int a3), some (.int (a4 + 1))] [] h r))) :
    zT E (d + 1) m_m_hearers 15 [some (.ref a0), some (.int a1), some (.int a2), some (.int a3), some (.int a4)] [] h r := by
  refine zT_st (pc' := 18) (L' := [some (.ref a0), some (.int a1), some (.int a2), some (.int a3), some (.int a4)]) (st' := [.ref a0, .int a4]) (h' := h) 2 (fun n => rfl) ?_
  obtain ⟨x1, e, hw⟩ := hw
  refine zT_st (pc' := 21) (L' := [some (.ref a0), some (.int a1), some (.int a2), some (.int a3), some (.int a4)]) (st' := [.int x1, .int a4]) (h' := h) 1 (fun n => fld_eq (E := E) e _) ?_
  by_cases hc : x1 ≤ a4
  · rw [if_pos hc] at hw
    refine zT_st (pc' := 66) (L' := [some (.ref a0), some (.int a1), some (.int a2), some (.int a3), some (.int a4)]) (st' := []) (h' := h) 1 (fun n => if_pos hc) ?_
    exact zT_st 2 (fun n => rfl) hw
  · rw [if_neg hc] at hw
    refine zT_st (pc' := 24) (L' := [some (.ref a0), some (.int a1), some (.int a2), some (.int a3), some (.int a4)]) (st' := []) (h' := h) 1 (fun n => if_neg hc) ?_
    refine zT_st (pc' := 32) (L' := [some (.ref a0), some (.int a1), some (.int a2), some (.int a3), some (.int a4)]) (st' := [.int 1, .int ((a1 >>> (a4 &&& 31)) &&& 1), .int a2]) (h' := h) 7 (fun n => rfl) ?_
    by_cases hc : ((a1 >>> (a4 &&& 31)) &&& 1) = 1
    · rw [if_pos hc] at hw
      refine zT_st (pc' := 35) (L' := [some (.ref a0), some (.int a1), some (.int a2), some (.int a3), some (.int a4)]) (st' := [.int a2]) (h' := h) 1 (fun n => if_pos hc) ?_
      refine zT_st (pc' := 40) (L' := [some (.ref a0), some (.int a1), some (.int a2), some (.int a3), some (.int a4)]) (st' := [.ref a0, .int a4, .int 0, .ref a0, .int a2]) (h' := h) 4 (fun n => rfl) ?_
      obtain ⟨o2, e, hw⟩ := hw
      refine zT_st (pc' := 43) (L' := [some (.ref a0), some (.int a1), some (.int a2), some (.int a3), some (.int a4)]) (st' := [.ref o2, .int a4, .int 0, .ref a0, .int a2]) (h' := h) 1 (fun n => fld_eq (E := E) e _) ?_
      refine zT_st (pc' := 44) (L' := [some (.ref a0), some (.int a1), some (.int a2), some (.int a3), some (.int a4)]) (st' := [.int a3, .ref o2, .int a4, .int 0, .ref a0, .int a2]) (h' := h) 1 (fun n => rfl) ?_
      obtain ⟨n3, f4, e, hi, hw⟩ := hw
      refine zT_st (pc' := 45) (L' := [some (.ref a0), some (.int a1), some (.int a2), some (.int a3), some (.int a4)]) (st' := [.int (f4 (a3).toNatClampNeg), .int a4, .int 0, .ref a0, .int a2]) (h' := h) 1 (fun n => arr_eq (E := E) e hi [.int a4, .int 0, .ref a0, .int a2] (fun st => zrun zP zCd E n (d + 1) m_m_hearers 45 [some (.ref a0), some (.int a1), some (.int a2), some (.int a3), some (.int a4)] st h)) ?_
      obtain ⟨hq, hw⟩ := hw
      obtain ⟨x5, h6, hx, hw⟩ := hw
      refine zT_call (pc' := 48) (rest := [.int a2]) 1 (fun n => rfl) hq hx ?_
      show zT E (d + 1) m_m_hearers 48 [some (.ref a0), some (.int a1), some (.int a2), some (.int a3), some (.int a4)] [.int x5, .int a2] h6 r
      by_cases hc : x5 = 0
      · rw [if_pos hc] at hw
        refine zT_st (pc' := 57) (L' := [some (.ref a0), some (.int a1), some (.int a2), some (.int a3), some (.int a4)]) (st' := [.int a2]) (h' := h6) 1 (fun n => if_pos hc) ?_
        exact zT_st 5 (fun n => rfl) hw
      · rw [if_neg hc] at hw
        refine zT_st (pc' := 51) (L' := [some (.ref a0), some (.int a1), some (.int a2), some (.int a3), some (.int a4)]) (st' := [.int a2]) (h' := h6) 1 (fun n => if_neg hc) ?_
        exact zT_st 8 (fun n => rfl) hw
    · rw [if_neg hc] at hw
      refine zT_st (pc' := 57) (L' := [some (.ref a0), some (.int a1), some (.int a2), some (.int a3), some (.int a4)]) (st' := [.int a2]) (h' := h) 1 (fun n => if_neg hc) ?_
      exact zT_st 5 (fun n => rfl) hw
set_option maxRecDepth 4000 in
theorem s_m_days_0 (E : zX) (d : Nat) (a0 : Nat) (a1 : Int32) (h : zH) (r : zO × zH)
    (hw : (∃ w, fld h a0 12 0 = some w) ∧
    ∃ (x1 : Int32) (h2 : zH), zT E d m_m_within 0 [some (.int a1), some (.int 1), some (.int 20)] [] (setF h a0 0 (.int 0)) (.inl (some (.int x1)), h2) ∧
    if x1 = 0 then (
      isO h2 a0 12 = true ∧ ∃ (x3 : Int32) (h4 : zH), zT E d m_m_refuses 0 [some (.ref a0), some (.int 1)] [] h2 (.inl (some (.int x3)), h4) ∧
      r = (.inl (some (.int x3)), h4))
    else (
      ∃ o5 : Nat, fld h2 a0 12 40 = some (.ref o5) ∧
      ∃ (n6 : Nat) (f7 : Nat → Int32), arr h2 o5 = some (n6, f7) ∧ ¬ ((0 : Int32) < 0 ∨ n6 ≤ ((0 : Int32)).toNatClampNeg) ∧
      if ((f7 ((0 : Int32)).toNatClampNeg) + a1) ≤ 9999 then (
        isO h2 a0 12 = true ∧ ∃ (h9 : zH), zT E d m_m_keeps 0 [some (.ref a0), none] [] h2 (.inl none, h9) ∧
        zT E (d + 1) m_m_days 41 [some (.ref a0), some (.int a1), some (.int 0)] [] h9 r)
      else (
        isO h2 a0 12 = true ∧ ∃ (x10 : Int32) (h11 : zH), zT E d m_m_refuses 0 [some (.ref a0), some (.int 1)] [] h2 (.inl (some (.int x10)), h11) ∧
        r = (.inl (some (.int x10)), h11)))) :
    zT E (d + 1) m_m_days 0 [some (.ref a0), some (.int a1), none] [] h r := by
  refine zT_st (pc' := 2) (L' := [some (.ref a0), some (.int a1), none]) (st' := [.int 0, .ref a0]) (h' := h) 2 (fun n => rfl) ?_
  obtain ⟨⟨w, e⟩, hw⟩ := hw
  refine zT_st (pc' := 5) (L' := [some (.ref a0), some (.int a1), none]) (st' := []) (h' := (setF h a0 0 (.int 0))) 1 (fun n => put_eq e rfl _ _) ?_
  refine zT_st (pc' := 9) (L' := [some (.ref a0), some (.int a1), none]) (st' := [.int 20, .int 1, .int a1]) (h' := (setF h a0 0 (.int 0))) 3 (fun n => rfl) ?_
  obtain ⟨x1, h2, hx, hw⟩ := hw
  refine zT_call (pc' := 12) (rest := []) 1 (fun n => rfl) rfl hx ?_
  show zT E (d + 1) m_m_days 12 [some (.ref a0), some (.int a1), none] [.int x1] h2 r
  by_cases hc : x1 = 0
  · rw [if_pos hc] at hw
    refine zT_st (pc' := 29) (L' := [some (.ref a0), some (.int a1), none]) (st' := []) (h' := h2) 1 (fun n => if_pos hc) ?_
    refine zT_st (pc' := 31) (L' := [some (.ref a0), some (.int a1), none]) (st' := [.int 1, .ref a0]) (h' := h2) 2 (fun n => rfl) ?_
    obtain ⟨hq, hw⟩ := hw
    obtain ⟨x3, h4, hx, hw⟩ := hw
    refine zT_call (pc' := 34) (rest := []) 1 (fun n => rfl) hq hx ?_
    show zT E (d + 1) m_m_days 34 [some (.ref a0), some (.int a1), none] [.int x3] h4 r
    subst hw
    exact zT_ret 1 rfl
  · rw [if_neg hc] at hw
    refine zT_st (pc' := 15) (L' := [some (.ref a0), some (.int a1), none]) (st' := []) (h' := h2) 1 (fun n => if_neg hc) ?_
    refine zT_st (pc' := 16) (L' := [some (.ref a0), some (.int a1), none]) (st' := [.ref a0]) (h' := h2) 1 (fun n => rfl) ?_
    obtain ⟨o5, e, hw⟩ := hw
    refine zT_st (pc' := 19) (L' := [some (.ref a0), some (.int a1), none]) (st' := [.ref o5]) (h' := h2) 1 (fun n => fld_eq (E := E) e _) ?_
    refine zT_st (pc' := 20) (L' := [some (.ref a0), some (.int a1), none]) (st' := [.int 0, .ref o5]) (h' := h2) 1 (fun n => rfl) ?_
    obtain ⟨n6, f7, e, hi, hw⟩ := hw
    refine zT_st (pc' := 21) (L' := [some (.ref a0), some (.int a1), none]) (st' := [.int (f7 ((0 : Int32)).toNatClampNeg)]) (h' := h2) 1 (fun n => arr_eq (E := E) e hi [] (fun st => zrun zP zCd E n (d + 1) m_m_days 21 [some (.ref a0), some (.int a1), none] st h2)) ?_
    refine zT_st (pc' := 26) (L' := [some (.ref a0), some (.int a1), none]) (st' := [.int 9999, .int ((f7 ((0 : Int32)).toNatClampNeg) + a1)]) (h' := h2) 3 (fun n => rfl) ?_
    by_cases hc : ((f7 ((0 : Int32)).toNatClampNeg) + a1) ≤ 9999
    · rw [if_pos hc] at hw
      refine zT_st (pc' := 35) (L' := [some (.ref a0), some (.int a1), none]) (st' := []) (h' := h2) 1 (fun n => if_pos hc) ?_
      refine zT_st (pc' := 36) (L' := [some (.ref a0), some (.int a1), none]) (st' := [.ref a0]) (h' := h2) 1 (fun n => rfl) ?_
      obtain ⟨hq, hw⟩ := hw
      obtain ⟨h9, hx, hw⟩ := hw
      refine zT_call (pc' := 39) (rest := []) 1 (fun n => rfl) hq hx ?_
      show zT E (d + 1) m_m_days 39 [some (.ref a0), some (.int a1), none] [] h9 r
      exact zT_st 2 (fun n => rfl) hw
    · rw [if_neg hc] at hw
      refine zT_st (pc' := 29) (L' := [some (.ref a0), some (.int a1), none]) (st' := []) (h' := h2) 1 (fun n => if_neg hc) ?_
      refine zT_st (pc' := 31) (L' := [some (.ref a0), some (.int a1), none]) (st' := [.int 1, .ref a0]) (h' := h2) 2 (fun n => rfl) ?_
      obtain ⟨hq, hw⟩ := hw
      obtain ⟨x10, h11, hx, hw⟩ := hw
      refine zT_call (pc' := 34) (rest := []) 1 (fun n => rfl) hq hx ?_
      show zT E (d + 1) m_m_days 34 [some (.ref a0), some (.int a1), none] [.int x10] h11 r
      subst hw
      exact zT_ret 1 rfl
set_option maxRecDepth 4000 in
theorem s_m_days_41 (E : zX) (d : Nat) (a0 : Nat) (a1 : Int32) (a2 : Int32) (h : zH) (r : zO × zH)
    (hw : if a1 ≤ a2 then (
      ∃ o1 : Nat, fld h a0 12 40 = some (.ref o1) ∧
      ∃ (n2 : Nat) (f3 : Nat → Int32), arr h o1 = some (n2, f3) ∧ ¬ ((0 : Int32) < 0 ∨ n2 ≤ ((0 : Int32)).toNatClampNeg) ∧
      r = (.inl (some (.int (f3 ((0 : Int32)).toNatClampNeg))), h))
    else (
      isO h a0 12 = true ∧ ∃ (h5 : zH), zT E d m_m_dayOf 0 [some (.ref a0), some (.int 0)] [] h (.inl none, h5) ∧
      zT E (d + 1) m_m_days 41 [some (.ref a0), some (.int a1), some (.int (a2 + 1))] [] h5 r)) :
    zT E (d + 1) m_m_days 41 [some (.ref a0), some (.int a1), some (.int a2)] [] h r := by
  refine zT_st (pc' := 43) (L' := [some (.ref a0), some (.int a1), some (.int a2)]) (st' := [.int a1, .int a2]) (h' := h) 2 (fun n => rfl) ?_
  by_cases hc : a1 ≤ a2
  · rw [if_pos hc] at hw
    refine zT_st (pc' := 57) (L' := [some (.ref a0), some (.int a1), some (.int a2)]) (st' := []) (h' := h) 1 (fun n => if_pos hc) ?_
    refine zT_st (pc' := 58) (L' := [some (.ref a0), some (.int a1), some (.int a2)]) (st' := [.ref a0]) (h' := h) 1 (fun n => rfl) ?_
    obtain ⟨o1, e, hw⟩ := hw
    refine zT_st (pc' := 61) (L' := [some (.ref a0), some (.int a1), some (.int a2)]) (st' := [.ref o1]) (h' := h) 1 (fun n => fld_eq (E := E) e _) ?_
    refine zT_st (pc' := 62) (L' := [some (.ref a0), some (.int a1), some (.int a2)]) (st' := [.int 0, .ref o1]) (h' := h) 1 (fun n => rfl) ?_
    obtain ⟨n2, f3, e, hi, hw⟩ := hw
    refine zT_st (pc' := 63) (L' := [some (.ref a0), some (.int a1), some (.int a2)]) (st' := [.int (f3 ((0 : Int32)).toNatClampNeg)]) (h' := h) 1 (fun n => arr_eq (E := E) e hi [] (fun st => zrun zP zCd E n (d + 1) m_m_days 63 [some (.ref a0), some (.int a1), some (.int a2)] st h)) ?_
    subst hw
    exact zT_ret 1 rfl
  · rw [if_neg hc] at hw
    refine zT_st (pc' := 46) (L' := [some (.ref a0), some (.int a1), some (.int a2)]) (st' := []) (h' := h) 1 (fun n => if_neg hc) ?_
    refine zT_st (pc' := 48) (L' := [some (.ref a0), some (.int a1), some (.int a2)]) (st' := [.int 0, .ref a0]) (h' := h) 2 (fun n => rfl) ?_
    obtain ⟨hq, hw⟩ := hw
    obtain ⟨h5, hx, hw⟩ := hw
    refine zT_call (pc' := 51) (rest := []) 1 (fun n => rfl) hq hx ?_
    show zT E (d + 1) m_m_days 51 [some (.ref a0), some (.int a1), some (.int a2)] [] h5 r
    exact zT_st 2 (fun n => rfl) hw
set_option maxRecDepth 4000 in
theorem s_m_keeps_0 (E : zX) (d : Nat) (a0 : Nat) (h : zH) (r : zO × zH)
    (hw : ∃ x1 : Int32, fld h a0 12 42 = some (.int x1) ∧
    if x1 = 40 then (
      zT E d m_m_keeps 12 [some (.ref a0), some (.int 79)] [] h r)
    else (
      zT E d m_m_keeps 52 [some (.ref a0), some (.int 0)] [] h r)) :
    zT E d m_m_keeps 0 [some (.ref a0), none] [] h r := by
  refine zT_st (pc' := 1) (L' := [some (.ref a0), none]) (st' := [.ref a0]) (h' := h) 1 (fun n => rfl) ?_
  obtain ⟨x1, e, hw⟩ := hw
  refine zT_st (pc' := 4) (L' := [some (.ref a0), none]) (st' := [.int x1]) (h' := h) 1 (fun n => fld_eq (E := E) e _) ?_
  refine zT_st (pc' := 6) (L' := [some (.ref a0), none]) (st' := [.int 40, .int x1]) (h' := h) 1 (fun n => rfl) ?_
  by_cases hc : x1 = 40
  · rw [if_pos hc] at hw
    refine zT_st (pc' := 9) (L' := [some (.ref a0), none]) (st' := []) (h' := h) 1 (fun n => if_pos hc) ?_
    exact zT_st 2 (fun n => rfl) hw
  · rw [if_neg hc] at hw
    refine zT_st (pc' := 50) (L' := [some (.ref a0), none]) (st' := []) (h' := h) 1 (fun n => if_neg hc) ?_
    exact zT_st 2 (fun n => rfl) hw
set_option maxRecDepth 4000 in
theorem s_m_keeps_12 (E : zX) (d : Nat) (a0 : Nat) (a1 : Int32) (h : zH) (r : zO × zH)
    (hw : if 3160 ≤ a1 then (
      ∃ x1 : Int32, fld h a0 12 42 = some (.int x1) ∧
      (∃ w, fld h a0 12 42 = some w) ∧
      zT E d m_m_keeps 52 [some (.ref a0), some (.int 0)] [] (setF h a0 42 (.int (x1 - 1))) r)
    else (
      ∃ o2 : Nat, fld h a0 12 41 = some (.ref o2) ∧
      ∃ o3 : Nat, fld h a0 12 41 = some (.ref o3) ∧
      ∃ (n4 : Nat) (f5 : Nat → Int32), arr h o3 = some (n4, f5) ∧ ¬ (a1 < 0 ∨ n4 ≤ (a1).toNatClampNeg) ∧
      ∃ (n6 : Nat) (f7 : Nat → Int32), arr h o2 = some (n6, f7) ∧ ¬ ((a1 - 79) < 0 ∨ n6 ≤ ((a1 - 79)).toNatClampNeg) ∧
      zT E d m_m_keeps 12 [some (.ref a0), some (.int (a1 + 1))] [] (setA h o2 n6 (upd f7 ((a1 - 79)).toNatClampNeg (f5 (a1).toNatClampNeg))) r)) :
    zT E d m_m_keeps 12 [some (.ref a0), some (.int a1)] [] h r := by
  refine zT_st (pc' := 16) (L' := [some (.ref a0), some (.int a1)]) (st' := [.int 3160, .int a1]) (h' := h) 2 (fun n => rfl) ?_
  by_cases hc : 3160 ≤ a1
  · rw [if_pos hc] at hw
    refine zT_st (pc' := 40) (L' := [some (.ref a0), some (.int a1)]) (st' := []) (h' := h) 1 (fun n => if_pos hc) ?_
    refine zT_st (pc' := 42) (L' := [some (.ref a0), some (.int a1)]) (st' := [.ref a0, .ref a0]) (h' := h) 2 (fun n => rfl) ?_
    obtain ⟨x1, e, hw⟩ := hw
    refine zT_st (pc' := 45) (L' := [some (.ref a0), some (.int a1)]) (st' := [.int x1, .ref a0]) (h' := h) 1 (fun n => fld_eq (E := E) e _) ?_
    refine zT_st (pc' := 47) (L' := [some (.ref a0), some (.int a1)]) (st' := [.int (x1 - 1), .ref a0]) (h' := h) 2 (fun n => rfl) ?_
    obtain ⟨⟨w, e⟩, hw⟩ := hw
    refine zT_st (pc' := 50) (L' := [some (.ref a0), some (.int a1)]) (st' := []) (h' := (setF h a0 42 (.int (x1 - 1)))) 1 (fun n => put_eq e rfl _ _) ?_
    exact zT_st 2 (fun n => rfl) hw
  · rw [if_neg hc] at hw
    refine zT_st (pc' := 19) (L' := [some (.ref a0), some (.int a1)]) (st' := []) (h' := h) 1 (fun n => if_neg hc) ?_
    refine zT_st (pc' := 20) (L' := [some (.ref a0), some (.int a1)]) (st' := [.ref a0]) (h' := h) 1 (fun n => rfl) ?_
    obtain ⟨o2, e, hw⟩ := hw
    refine zT_st (pc' := 23) (L' := [some (.ref a0), some (.int a1)]) (st' := [.ref o2]) (h' := h) 1 (fun n => fld_eq (E := E) e _) ?_
    refine zT_st (pc' := 28) (L' := [some (.ref a0), some (.int a1)]) (st' := [.ref a0, .int (a1 - 79), .ref o2]) (h' := h) 4 (fun n => rfl) ?_
    obtain ⟨o3, e, hw⟩ := hw
    refine zT_st (pc' := 31) (L' := [some (.ref a0), some (.int a1)]) (st' := [.ref o3, .int (a1 - 79), .ref o2]) (h' := h) 1 (fun n => fld_eq (E := E) e _) ?_
    refine zT_st (pc' := 32) (L' := [some (.ref a0), some (.int a1)]) (st' := [.int a1, .ref o3, .int (a1 - 79), .ref o2]) (h' := h) 1 (fun n => rfl) ?_
    obtain ⟨n4, f5, e, hi, hw⟩ := hw
    refine zT_st (pc' := 33) (L' := [some (.ref a0), some (.int a1)]) (st' := [.int (f5 (a1).toNatClampNeg), .int (a1 - 79), .ref o2]) (h' := h) 1 (fun n => arr_eq (E := E) e hi [.int (a1 - 79), .ref o2] (fun st => zrun zP zCd E n d m_m_keeps 33 [some (.ref a0), some (.int a1)] st h)) ?_
    obtain ⟨n6, f7, e, hi, hw⟩ := hw
    refine zT_st (pc' := 34) (L' := [some (.ref a0), some (.int a1)]) (st' := []) (h' := (setA h o2 n6 (upd f7 ((a1 - 79)).toNatClampNeg (f5 (a1).toNatClampNeg)))) 1 (fun n => set_eq e hi _ _) ?_
    exact zT_st 2 (fun n => rfl) hw
set_option maxRecDepth 4000 in
theorem s_m_keeps_52 (E : zX) (d : Nat) (a0 : Nat) (a1 : Int32) (h : zH) (r : zO × zH)
    (hw : if 79 ≤ a1 then (
      ∃ x1 : Int32, fld h a0 12 42 = some (.int x1) ∧
      (∃ w, fld h a0 12 42 = some w) ∧
      r = (.inl (none), (setF h a0 42 (.int (x1 + 1)))))
    else (
      ∃ o2 : Nat, fld h a0 12 41 = some (.ref o2) ∧
      ∃ x3 : Int32, fld h a0 12 42 = some (.int x3) ∧
      ∃ o4 : Nat, fld h a0 12 40 = some (.ref o4) ∧
      ∃ (n5 : Nat) (f6 : Nat → Int32), arr h o4 = some (n5, f6) ∧ ¬ (a1 < 0 ∨ n5 ≤ (a1).toNatClampNeg) ∧
      ∃ (n7 : Nat) (f8 : Nat → Int32), arr h o2 = some (n7, f8) ∧ ¬ (((79 * x3) + a1) < 0 ∨ n7 ≤ (((79 * x3) + a1)).toNatClampNeg) ∧
      zT E d m_m_keeps 52 [some (.ref a0), some (.int (a1 + 1))] [] (setA h o2 n7 (upd f8 (((79 * x3) + a1)).toNatClampNeg (f6 (a1).toNatClampNeg))) r)) :
    zT E d m_m_keeps 52 [some (.ref a0), some (.int a1)] [] h r := by
  refine zT_st (pc' := 55) (L' := [some (.ref a0), some (.int a1)]) (st' := [.int 79, .int a1]) (h' := h) 2 (fun n => rfl) ?_
  by_cases hc : 79 ≤ a1
  · rw [if_pos hc] at hw
    refine zT_st (pc' := 84) (L' := [some (.ref a0), some (.int a1)]) (st' := []) (h' := h) 1 (fun n => if_pos hc) ?_
    refine zT_st (pc' := 86) (L' := [some (.ref a0), some (.int a1)]) (st' := [.ref a0, .ref a0]) (h' := h) 2 (fun n => rfl) ?_
    obtain ⟨x1, e, hw⟩ := hw
    refine zT_st (pc' := 89) (L' := [some (.ref a0), some (.int a1)]) (st' := [.int x1, .ref a0]) (h' := h) 1 (fun n => fld_eq (E := E) e _) ?_
    refine zT_st (pc' := 91) (L' := [some (.ref a0), some (.int a1)]) (st' := [.int (x1 + 1), .ref a0]) (h' := h) 2 (fun n => rfl) ?_
    obtain ⟨⟨w, e⟩, hw⟩ := hw
    refine zT_st (pc' := 94) (L' := [some (.ref a0), some (.int a1)]) (st' := []) (h' := (setF h a0 42 (.int (x1 + 1)))) 1 (fun n => put_eq e rfl _ _) ?_
    subst hw
    exact zT_ret 1 rfl
  · rw [if_neg hc] at hw
    refine zT_st (pc' := 58) (L' := [some (.ref a0), some (.int a1)]) (st' := []) (h' := h) 1 (fun n => if_neg hc) ?_
    refine zT_st (pc' := 59) (L' := [some (.ref a0), some (.int a1)]) (st' := [.ref a0]) (h' := h) 1 (fun n => rfl) ?_
    obtain ⟨o2, e, hw⟩ := hw
    refine zT_st (pc' := 62) (L' := [some (.ref a0), some (.int a1)]) (st' := [.ref o2]) (h' := h) 1 (fun n => fld_eq (E := E) e _) ?_
    refine zT_st (pc' := 65) (L' := [some (.ref a0), some (.int a1)]) (st' := [.ref a0, .int 79, .ref o2]) (h' := h) 2 (fun n => rfl) ?_
    obtain ⟨x3, e, hw⟩ := hw
    refine zT_st (pc' := 68) (L' := [some (.ref a0), some (.int a1)]) (st' := [.int x3, .int 79, .ref o2]) (h' := h) 1 (fun n => fld_eq (E := E) e _) ?_
    refine zT_st (pc' := 72) (L' := [some (.ref a0), some (.int a1)]) (st' := [.ref a0, .int ((79 * x3) + a1), .ref o2]) (h' := h) 4 (fun n => rfl) ?_
    obtain ⟨o4, e, hw⟩ := hw
    refine zT_st (pc' := 75) (L' := [some (.ref a0), some (.int a1)]) (st' := [.ref o4, .int ((79 * x3) + a1), .ref o2]) (h' := h) 1 (fun n => fld_eq (E := E) e _) ?_
    refine zT_st (pc' := 76) (L' := [some (.ref a0), some (.int a1)]) (st' := [.int a1, .ref o4, .int ((79 * x3) + a1), .ref o2]) (h' := h) 1 (fun n => rfl) ?_
    obtain ⟨n5, f6, e, hi, hw⟩ := hw
    refine zT_st (pc' := 77) (L' := [some (.ref a0), some (.int a1)]) (st' := [.int (f6 (a1).toNatClampNeg), .int ((79 * x3) + a1), .ref o2]) (h' := h) 1 (fun n => arr_eq (E := E) e hi [.int ((79 * x3) + a1), .ref o2] (fun st => zrun zP zCd E n d m_m_keeps 77 [some (.ref a0), some (.int a1)] st h)) ?_
    obtain ⟨n7, f8, e, hi, hw⟩ := hw
    refine zT_st (pc' := 78) (L' := [some (.ref a0), some (.int a1)]) (st' := []) (h' := (setA h o2 n7 (upd f8 (((79 * x3) + a1)).toNatClampNeg (f6 (a1).toNatClampNeg)))) 1 (fun n => set_eq e hi _ _) ?_
    exact zT_st 2 (fun n => rfl) hw
set_option maxRecDepth 4000 in
theorem s_m_dayOf_0 (E : zX) (d : Nat) (a0 : Nat) (a1 : Int32) (h : zH) (r : zO × zH)
    (hw : isO h a0 12 = true ∧ ∃ (h2 : zH), zT E d m_m_begins0 0 [some (.ref a0)] [] h (.inl none, h2) ∧
    isO h2 a0 12 = true ∧ ∃ (h4 : zH), zT E d m_m_dayGoes 0 [some (.ref a0), some (.int a1), none, none, none] [] h2 (.inl none, h4) ∧
    r = (.inl (none), h4)) :
    zT E (d + 1) m_m_dayOf 0 [some (.ref a0), some (.int a1)] [] h r := by
  refine zT_st (pc' := 1) (L' := [some (.ref a0), some (.int a1)]) (st' := [.ref a0]) (h' := h) 1 (fun n => rfl) ?_
  obtain ⟨hq, hw⟩ := hw
  obtain ⟨h2, hx, hw⟩ := hw
  refine zT_call (pc' := 4) (rest := []) 1 (fun n => rfl) hq hx ?_
  show zT E (d + 1) m_m_dayOf 4 [some (.ref a0), some (.int a1)] [] h2 r
  refine zT_st (pc' := 6) (L' := [some (.ref a0), some (.int a1)]) (st' := [.int a1, .ref a0]) (h' := h2) 2 (fun n => rfl) ?_
  obtain ⟨hq, hw⟩ := hw
  obtain ⟨h4, hx, hw⟩ := hw
  refine zT_call (pc' := 9) (rest := []) 1 (fun n => rfl) hq hx ?_
  show zT E (d + 1) m_m_dayOf 9 [some (.ref a0), some (.int a1)] [] h4 r
  subst hw
  exact zT_ret 1 rfl
set_option maxRecDepth 4000 in
theorem s_m_begins0_0 (E : zX) (d : Nat) (a0 : Nat) (h : zH) (r : zO × zH)
    (hw : (∃ w, fld h a0 12 45 = some w) ∧
    (∃ w, fld (setF h a0 45 (.int 0)) a0 12 46 = some w) ∧
    (∃ w, fld (setF (setF h a0 45 (.int 0)) a0 46 (.int 0)) a0 12 47 = some w) ∧
    (∃ w, fld (setF (setF (setF h a0 45 (.int 0)) a0 46 (.int 0)) a0 47 (.int 0)) a0 12 48 = some w) ∧
    r = (.inl (none), (setF (setF (setF (setF h a0 45 (.int 0)) a0 46 (.int 0)) a0 47 (.int 0)) a0 48 (.int 0)))) :
    zT E d m_m_begins0 0 [some (.ref a0)] [] h r := by
  refine zT_st (pc' := 2) (L' := [some (.ref a0)]) (st' := [.int 0, .ref a0]) (h' := h) 2 (fun n => rfl) ?_
  obtain ⟨⟨w, e⟩, hw⟩ := hw
  refine zT_st (pc' := 5) (L' := [some (.ref a0)]) (st' := []) (h' := (setF h a0 45 (.int 0))) 1 (fun n => put_eq e rfl _ _) ?_
  refine zT_st (pc' := 7) (L' := [some (.ref a0)]) (st' := [.int 0, .ref a0]) (h' := (setF h a0 45 (.int 0))) 2 (fun n => rfl) ?_
  obtain ⟨⟨w, e⟩, hw⟩ := hw
  refine zT_st (pc' := 10) (L' := [some (.ref a0)]) (st' := []) (h' := (setF (setF h a0 45 (.int 0)) a0 46 (.int 0))) 1 (fun n => put_eq e rfl _ _) ?_
  refine zT_st (pc' := 12) (L' := [some (.ref a0)]) (st' := [.int 0, .ref a0]) (h' := (setF (setF h a0 45 (.int 0)) a0 46 (.int 0))) 2 (fun n => rfl) ?_
  obtain ⟨⟨w, e⟩, hw⟩ := hw
  refine zT_st (pc' := 15) (L' := [some (.ref a0)]) (st' := []) (h' := (setF (setF (setF h a0 45 (.int 0)) a0 46 (.int 0)) a0 47 (.int 0))) 1 (fun n => put_eq e rfl _ _) ?_
  refine zT_st (pc' := 17) (L' := [some (.ref a0)]) (st' := [.int 0, .ref a0]) (h' := (setF (setF (setF h a0 45 (.int 0)) a0 46 (.int 0)) a0 47 (.int 0))) 2 (fun n => rfl) ?_
  obtain ⟨⟨w, e⟩, hw⟩ := hw
  refine zT_st (pc' := 20) (L' := [some (.ref a0)]) (st' := []) (h' := (setF (setF (setF (setF h a0 45 (.int 0)) a0 46 (.int 0)) a0 47 (.int 0)) a0 48 (.int 0))) 1 (fun n => put_eq e rfl _ _) ?_
  subst hw
  exact zT_ret 1 rfl
set_option maxRecDepth 4000 in
theorem s_m_dayGoes_0 (E : zX) (d : Nat) (a0 : Nat) (a1 : Int32) (h : zH) (r : zO × zH)
    (hw : zT E (d + 1) m_m_dayGoes 2 [some (.ref a0), some (.int a1), some (.int 0), none, none] [] h r) :
    zT E (d + 1) m_m_dayGoes 0 [some (.ref a0), some (.int a1), none, none, none] [] h r := by
  exact zT_st 2 (fun n => rfl) hw
set_option maxRecDepth 4000 in
theorem s_m_dayGoes_2 (E : zX) (d : Nat) (a0 : Nat) (a1 : Int32) (a2 : Int32) (j3 : Option Value) (j4 : Option Value) (h : zH) (r : zO × zH)
    (hw : ∃ x1 : Int32, fld h a0 12 3 = some (.int x1) ∧
    if x1 ≤ a2 then (
      isO h a0 12 = true ∧ ∃ (x2 : Int32) (h3 : zH), zT E d m_m_heldOnes 0 [some (.ref a0), some (.int a1), none, none] [] h (.inl (some (.int x2)), h3) ∧
      zT E (d + 1) m_m_dayGoes 30 [some (.ref a0), some (.int a1), some (.int x2), some (.int 0), j4] [] h3 r)
    else (
      isO h a0 12 = true ∧ ∃ (h5 : zH), zT E d m_m_rises 0 [some (.ref a0), some (.int a1), some (.int a2)] [] h (.inl none, h5) ∧
      zT E (d + 1) m_m_dayGoes 2 [some (.ref a0), some (.int a1), some (.int (a2 + 1)), j3, j4] [] h5 r)) :
    zT E (d + 1) m_m_dayGoes 2 [some (.ref a0), some (.int a1), some (.int a2), j3, j4] [] h r := by
  refine zT_st (pc' := 4) (L' := [some (.ref a0), some (.int a1), some (.int a2), j3, j4]) (st' := [.ref a0, .int a2]) (h' := h) 2 (fun n => rfl) ?_
  obtain ⟨x1, e, hw⟩ := hw
  refine zT_st (pc' := 7) (L' := [some (.ref a0), some (.int a1), some (.int a2), j3, j4]) (st' := [.int x1, .int a2]) (h' := h) 1 (fun n => fld_eq (E := E) e _) ?_
  by_cases hc : x1 ≤ a2
  · rw [if_pos hc] at hw
    refine zT_st (pc' := 22) (L' := [some (.ref a0), some (.int a1), some (.int a2), j3, j4]) (st' := []) (h' := h) 1 (fun n => if_pos hc) ?_
    refine zT_st (pc' := 24) (L' := [some (.ref a0), some (.int a1), some (.int a2), j3, j4]) (st' := [.int a1, .ref a0]) (h' := h) 2 (fun n => rfl) ?_
    obtain ⟨hq, hw⟩ := hw
    obtain ⟨x2, h3, hx, hw⟩ := hw
    refine zT_call (pc' := 27) (rest := []) 1 (fun n => rfl) hq hx ?_
    show zT E (d + 1) m_m_dayGoes 27 [some (.ref a0), some (.int a1), some (.int a2), j3, j4] [.int x2] h3 r
    exact zT_st 3 (fun n => rfl) hw
  · rw [if_neg hc] at hw
    refine zT_st (pc' := 10) (L' := [some (.ref a0), some (.int a1), some (.int a2), j3, j4]) (st' := []) (h' := h) 1 (fun n => if_neg hc) ?_
    refine zT_st (pc' := 13) (L' := [some (.ref a0), some (.int a1), some (.int a2), j3, j4]) (st' := [.int a2, .int a1, .ref a0]) (h' := h) 3 (fun n => rfl) ?_
    obtain ⟨hq, hw⟩ := hw
    obtain ⟨h5, hx, hw⟩ := hw
    refine zT_call (pc' := 16) (rest := []) 1 (fun n => rfl) hq hx ?_
    show zT E (d + 1) m_m_dayGoes 16 [some (.ref a0), some (.int a1), some (.int a2), j3, j4] [] h5 r
    exact zT_st 2 (fun n => rfl) hw
set_option maxRecDepth 4000 in
theorem s_m_dayGoes_30 (E : zX) (d : Nat) (a0 : Nat) (a1 : Int32) (a2 : Int32) (a3 : Int32) (j4 : Option Value) (h : zH) (r : zO × zH)
    (hw : ∃ x1 : Int32, fld h a0 12 4 = some (.int x1) ∧
    if x1 ≤ a3 then (
      zT E (d + 1) m_m_dayGoes 68 [some (.ref a0), some (.int a1), some (.int a2), some (.int 0), some (.int 0)] [] h r)
    else (
      ∃ o2 : Nat, fld h a0 12 40 = some (.ref o2) ∧
      ∃ (n3 : Nat) (f4 : Nat → Int32), arr h o2 = some (n3, f4) ∧ ¬ (((a1 + 49) + a3) < 0 ∨ n3 ≤ (((a1 + 49) + a3)).toNatClampNeg) ∧
      ∃ (n5 : Nat) (f6 : Nat → Int32), arr h o2 = some (n5, f6) ∧ ¬ (((a1 + 49) + a3) < 0 ∨ n5 ≤ (((a1 + 49) + a3)).toNatClampNeg) ∧
      zT E (d + 1) m_m_dayGoes 30 [some (.ref a0), some (.int a1), some (.int a2), some (.int (a3 + 1)), j4] [] (setA h o2 n5 (upd f6 (((a1 + 49) + a3)).toNatClampNeg ((f4 (((a1 + 49) + a3)).toNatClampNeg) + ((a2 >>> (a3 &&& 31)) &&& 1)))) r)) :
    zT E (d + 1) m_m_dayGoes 30 [some (.ref a0), some (.int a1), some (.int a2), some (.int a3), j4] [] h r := by
  refine zT_st (pc' := 32) (L' := [some (.ref a0), some (.int a1), some (.int a2), some (.int a3), j4]) (st' := [.ref a0, .int a3]) (h' := h) 2 (fun n => rfl) ?_
  obtain ⟨x1, e, hw⟩ := hw
  refine zT_st (pc' := 35) (L' := [some (.ref a0), some (.int a1), some (.int a2), some (.int a3), j4]) (st' := [.int x1, .int a3]) (h' := h) 1 (fun n => fld_eq (E := E) e _) ?_
  by_cases hc : x1 ≤ a3
  · rw [if_pos hc] at hw
    refine zT_st (pc' := 63) (L' := [some (.ref a0), some (.int a1), some (.int a2), some (.int a3), j4]) (st' := []) (h' := h) 1 (fun n => if_pos hc) ?_
    exact zT_st 4 (fun n => rfl) hw
  · rw [if_neg hc] at hw
    refine zT_st (pc' := 38) (L' := [some (.ref a0), some (.int a1), some (.int a2), some (.int a3), j4]) (st' := []) (h' := h) 1 (fun n => if_neg hc) ?_
    refine zT_st (pc' := 39) (L' := [some (.ref a0), some (.int a1), some (.int a2), some (.int a3), j4]) (st' := [.ref a0]) (h' := h) 1 (fun n => rfl) ?_
    obtain ⟨o2, e, hw⟩ := hw
    refine zT_st (pc' := 42) (L' := [some (.ref a0), some (.int a1), some (.int a2), some (.int a3), j4]) (st' := [.ref o2]) (h' := h) 1 (fun n => fld_eq (E := E) e _) ?_
    refine zT_st (pc' := 49) (L' := [some (.ref a0), some (.int a1), some (.int a2), some (.int a3), j4]) (st' := [.int ((a1 + 49) + a3), .ref o2, .int ((a1 + 49) + a3), .ref o2]) (h' := h) 6 (fun n => rfl) ?_
    obtain ⟨n3, f4, e, hi, hw⟩ := hw
    refine zT_st (pc' := 50) (L' := [some (.ref a0), some (.int a1), some (.int a2), some (.int a3), j4]) (st' := [.int (f4 (((a1 + 49) + a3)).toNatClampNeg), .int ((a1 + 49) + a3), .ref o2]) (h' := h) 1 (fun n => arr_eq (E := E) e hi [.int ((a1 + 49) + a3), .ref o2] (fun st => zrun zP zCd E n (d + 1) m_m_dayGoes 50 [some (.ref a0), some (.int a1), some (.int a2), some (.int a3), j4] st h)) ?_
    refine zT_st (pc' := 56) (L' := [some (.ref a0), some (.int a1), some (.int a2), some (.int a3), j4]) (st' := [.int ((f4 (((a1 + 49) + a3)).toNatClampNeg) + ((a2 >>> (a3 &&& 31)) &&& 1)), .int ((a1 + 49) + a3), .ref o2]) (h' := h) 6 (fun n => rfl) ?_
    obtain ⟨n5, f6, e, hi, hw⟩ := hw
    refine zT_st (pc' := 57) (L' := [some (.ref a0), some (.int a1), some (.int a2), some (.int a3), j4]) (st' := []) (h' := (setA h o2 n5 (upd f6 (((a1 + 49) + a3)).toNatClampNeg ((f4 (((a1 + 49) + a3)).toNatClampNeg) + ((a2 >>> (a3 &&& 31)) &&& 1))))) 1 (fun n => set_eq e hi _ _) ?_
    exact zT_st 2 (fun n => rfl) hw
set_option maxRecDepth 4000 in
theorem s_m_dayGoes_68 (E : zX) (d : Nat) (a0 : Nat) (a1 : Int32) (a2 : Int32) (a3 : Int32) (a4 : Int32) (h : zH) (r : zO × zH)
    (hw : ∃ x1 : Int32, fld h a0 12 4 = some (.int x1) ∧
    if x1 ≤ a4 then (
      if a3 = 0 then (
        zT E (d + 1) m_m_dayGoes 125 [some (.ref a0), some (.int a1), some (.int a2), some (.int a3), some (.int a4)] [] h r)
      else (
        isO h a0 12 = true ∧ ∃ (x2 : Int32) (h3 : zH), zT E d m_m_goOff 0 [some (.ref a0), some (.int a1), some (.int a3), none, none, none, none] [] h (.inl (some (.int x2)), h3) ∧
        zT E (d + 1) m_m_dayGoes 125 [some (.ref a0), some (.int a1), some (.int a2), some (.int a3), some (.int a4)] [] h3 r))
    else (
      if ((a2 >>> (a4 &&& 31)) &&& 1) = 1 then (
        isO h a0 12 = true ∧ ∃ (x4 : Int32) (h5 : zH), zT E d m_m_bursts 0 [some (.ref a0), some (.int a1), some (.int a4), none, none] [] h (.inl (some (.int x4)), h5) ∧
        if x4 = 0 then (
          zT E (d + 1) m_m_dayGoes 68 [some (.ref a0), some (.int a1), some (.int a2), some (.int (a3 ||| 0)), some (.int (a4 + 1))] [] h5 r)
        else (
          zT E (d + 1) m_m_dayGoes 68 [some (.ref a0), some (.int a1), some (.int a2), some (.int (a3 ||| (1 <<< (a4 &&& 31)))), some (.int (a4 + 1))] [] h5 r))
      else (
        zT E (d + 1) m_m_dayGoes 68 [some (.ref a0), some (.int a1), some (.int a2), some (.int (a3 ||| 0)), some (.int (a4 + 1))] [] h r))) :
    zT E (d + 1) m_m_dayGoes 68 [some (.ref a0), some (.int a1), some (.int a2), some (.int a3), some (.int a4)] [] h r := by
  refine zT_st (pc' := 71) (L' := [some (.ref a0), some (.int a1), some (.int a2), some (.int a3), some (.int a4)]) (st' := [.ref a0, .int a4]) (h' := h) 2 (fun n => rfl) ?_
  obtain ⟨x1, e, hw⟩ := hw
  refine zT_st (pc' := 74) (L' := [some (.ref a0), some (.int a1), some (.int a2), some (.int a3), some (.int a4)]) (st' := [.int x1, .int a4]) (h' := h) 1 (fun n => fld_eq (E := E) e _) ?_
  by_cases hc : x1 ≤ a4
  · rw [if_pos hc] at hw
    refine zT_st (pc' := 114) (L' := [some (.ref a0), some (.int a1), some (.int a2), some (.int a3), some (.int a4)]) (st' := []) (h' := h) 1 (fun n => if_pos hc) ?_
    refine zT_st (pc' := 115) (L' := [some (.ref a0), some (.int a1), some (.int a2), some (.int a3), some (.int a4)]) (st' := [.int a3]) (h' := h) 1 (fun n => rfl) ?_
    by_cases hc : a3 = 0
    · rw [if_pos hc] at hw
      refine zT_st (pc' := 125) (L' := [some (.ref a0), some (.int a1), some (.int a2), some (.int a3), some (.int a4)]) (st' := []) (h' := h) 1 (fun n => if_pos hc) ?_
      exact hw
    · rw [if_neg hc] at hw
      refine zT_st (pc' := 118) (L' := [some (.ref a0), some (.int a1), some (.int a2), some (.int a3), some (.int a4)]) (st' := []) (h' := h) 1 (fun n => if_neg hc) ?_
      refine zT_st (pc' := 121) (L' := [some (.ref a0), some (.int a1), some (.int a2), some (.int a3), some (.int a4)]) (st' := [.int a3, .int a1, .ref a0]) (h' := h) 3 (fun n => rfl) ?_
      obtain ⟨hq, hw⟩ := hw
      obtain ⟨x2, h3, hx, hw⟩ := hw
      refine zT_call (pc' := 124) (rest := []) 1 (fun n => rfl) hq hx ?_
      show zT E (d + 1) m_m_dayGoes 124 [some (.ref a0), some (.int a1), some (.int a2), some (.int a3), some (.int a4)] [.int x2] h3 r
      exact zT_st 1 (fun n => rfl) hw
  · rw [if_neg hc] at hw
    refine zT_st (pc' := 77) (L' := [some (.ref a0), some (.int a1), some (.int a2), some (.int a3), some (.int a4)]) (st' := []) (h' := h) 1 (fun n => if_neg hc) ?_
    refine zT_st (pc' := 85) (L' := [some (.ref a0), some (.int a1), some (.int a2), some (.int a3), some (.int a4)]) (st' := [.int 1, .int ((a2 >>> (a4 &&& 31)) &&& 1), .int a3]) (h' := h) 7 (fun n => rfl) ?_
    by_cases hc : ((a2 >>> (a4 &&& 31)) &&& 1) = 1
    · rw [if_pos hc] at hw
      refine zT_st (pc' := 88) (L' := [some (.ref a0), some (.int a1), some (.int a2), some (.int a3), some (.int a4)]) (st' := [.int a3]) (h' := h) 1 (fun n => if_pos hc) ?_
      refine zT_st (pc' := 92) (L' := [some (.ref a0), some (.int a1), some (.int a2), some (.int a3), some (.int a4)]) (st' := [.int a4, .int a1, .ref a0, .int a3]) (h' := h) 3 (fun n => rfl) ?_
      obtain ⟨hq, hw⟩ := hw
      obtain ⟨x4, h5, hx, hw⟩ := hw
      refine zT_call (pc' := 95) (rest := [.int a3]) 1 (fun n => rfl) hq hx ?_
      show zT E (d + 1) m_m_dayGoes 95 [some (.ref a0), some (.int a1), some (.int a2), some (.int a3), some (.int a4)] [.int x4, .int a3] h5 r
      by_cases hc : x4 = 0
      · rw [if_pos hc] at hw
        refine zT_st (pc' := 105) (L' := [some (.ref a0), some (.int a1), some (.int a2), some (.int a3), some (.int a4)]) (st' := [.int a3]) (h' := h5) 1 (fun n => if_pos hc) ?_
        exact zT_st 5 (fun n => rfl) hw
      · rw [if_neg hc] at hw
        refine zT_st (pc' := 98) (L' := [some (.ref a0), some (.int a1), some (.int a2), some (.int a3), some (.int a4)]) (st' := [.int a3]) (h' := h5) 1 (fun n => if_neg hc) ?_
        exact zT_st 8 (fun n => rfl) hw
    · rw [if_neg hc] at hw
      refine zT_st (pc' := 105) (L' := [some (.ref a0), some (.int a1), some (.int a2), some (.int a3), some (.int a4)]) (st' := [.int a3]) (h' := h) 1 (fun n => if_neg hc) ?_
      exact zT_st 5 (fun n => rfl) hw
set_option maxRecDepth 4000 in
theorem s_m_dayGoes_125 (E : zX) (d : Nat) (a0 : Nat) (a1 : Int32) (j2 : Option Value) (j3 : Option Value) (j4 : Option Value) (h : zH) (r : zO × zH)
    (hw : ∃ o1 : Nat, fld h a0 12 40 = some (.ref o1) ∧
    ∃ (n2 : Nat) (f3 : Nat → Int32), arr h o1 = some (n2, f3) ∧ ¬ ((a1 + 0) < 0 ∨ n2 ≤ ((a1 + 0)).toNatClampNeg) ∧
    ∃ (n4 : Nat) (f5 : Nat → Int32), arr h o1 = some (n4, f5) ∧ ¬ ((a1 + 0) < 0 ∨ n4 ≤ ((a1 + 0)).toNatClampNeg) ∧
    r = (.inl (none), (setA h o1 n4 (upd f5 ((a1 + 0)).toNatClampNeg ((f3 ((a1 + 0)).toNatClampNeg) + 1))))) :
    zT E (d + 1) m_m_dayGoes 125 [some (.ref a0), some (.int a1), j2, j3, j4] [] h r := by
  refine zT_st (pc' := 126) (L' := [some (.ref a0), some (.int a1), j2, j3, j4]) (st' := [.ref a0]) (h' := h) 1 (fun n => rfl) ?_
  obtain ⟨o1, e, hw⟩ := hw
  refine zT_st (pc' := 129) (L' := [some (.ref a0), some (.int a1), j2, j3, j4]) (st' := [.ref o1]) (h' := h) 1 (fun n => fld_eq (E := E) e _) ?_
  refine zT_st (pc' := 133) (L' := [some (.ref a0), some (.int a1), j2, j3, j4]) (st' := [.int (a1 + 0), .ref o1, .int (a1 + 0), .ref o1]) (h' := h) 4 (fun n => rfl) ?_
  obtain ⟨n2, f3, e, hi, hw⟩ := hw
  refine zT_st (pc' := 134) (L' := [some (.ref a0), some (.int a1), j2, j3, j4]) (st' := [.int (f3 ((a1 + 0)).toNatClampNeg), .int (a1 + 0), .ref o1]) (h' := h) 1 (fun n => arr_eq (E := E) e hi [.int (a1 + 0), .ref o1] (fun st => zrun zP zCd E n (d + 1) m_m_dayGoes 134 [some (.ref a0), some (.int a1), j2, j3, j4] st h)) ?_
  refine zT_st (pc' := 136) (L' := [some (.ref a0), some (.int a1), j2, j3, j4]) (st' := [.int ((f3 ((a1 + 0)).toNatClampNeg) + 1), .int (a1 + 0), .ref o1]) (h' := h) 2 (fun n => rfl) ?_
  obtain ⟨n4, f5, e, hi, hw⟩ := hw
  refine zT_st (pc' := 137) (L' := [some (.ref a0), some (.int a1), j2, j3, j4]) (st' := []) (h' := (setA h o1 n4 (upd f5 ((a1 + 0)).toNatClampNeg ((f3 ((a1 + 0)).toNatClampNeg) + 1)))) 1 (fun n => set_eq e hi _ _) ?_
  subst hw
  exact zT_ret 1 rfl
set_option maxRecDepth 4000 in
theorem s_m_bounded_0 (E : zX) (d : Nat) (a0 : Int32) (a1 : Int32) (a2 : Int32) (h : zH) (r : zO × zH)
    (hw : if a1 ≤ a0 then (
      if a0 ≤ a2 then (
        r = (.inl (some (.int a0)), h))
      else (
        r = (.inl (some (.int a2)), h)))
    else (
      r = (.inl (some (.int a1)), h))) :
    zT E d m_m_bounded 0 [some (.int a0), some (.int a1), some (.int a2)] [] h r := by
  refine zT_st (pc' := 2) (L' := [some (.int a0), some (.int a1), some (.int a2)]) (st' := [.int a1, .int a0]) (h' := h) 2 (fun n => rfl) ?_
  by_cases hc : a1 ≤ a0
  · rw [if_pos hc] at hw
    refine zT_st (pc' := 9) (L' := [some (.int a0), some (.int a1), some (.int a2)]) (st' := []) (h' := h) 1 (fun n => if_pos hc) ?_
    refine zT_st (pc' := 11) (L' := [some (.int a0), some (.int a1), some (.int a2)]) (st' := [.int a2, .int a0]) (h' := h) 2 (fun n => rfl) ?_
    by_cases hc : a0 ≤ a2
    · rw [if_pos hc] at hw
      refine zT_st (pc' := 18) (L' := [some (.int a0), some (.int a1), some (.int a2)]) (st' := []) (h' := h) 1 (fun n => if_pos hc) ?_
      subst hw
      exact zT_ret 2 rfl
    · rw [if_neg hc] at hw
      refine zT_st (pc' := 14) (L' := [some (.int a0), some (.int a1), some (.int a2)]) (st' := []) (h' := h) 1 (fun n => if_neg hc) ?_
      subst hw
      exact zT_ret 3 rfl
  · rw [if_neg hc] at hw
    refine zT_st (pc' := 5) (L' := [some (.int a0), some (.int a1), some (.int a2)]) (st' := []) (h' := h) 1 (fun n => if_neg hc) ?_
    subst hw
    exact zT_ret 3 rfl
set_option maxRecDepth 4000 in
theorem s_m_lesser_0 (E : zX) (d : Nat) (a0 : Int32) (a1 : Int32) (h : zH) (r : zO × zH)
    (hw : if a1 ≤ a0 then (
      r = (.inl (some (.int a1)), h))
    else (
      r = (.inl (some (.int a0)), h))) :
    zT E d m_m_lesser 0 [some (.int a0), some (.int a1)] [] h r := by
  refine zT_st (pc' := 2) (L' := [some (.int a0), some (.int a1)]) (st' := [.int a1, .int a0]) (h' := h) 2 (fun n => rfl) ?_
  by_cases hc : a1 ≤ a0
  · rw [if_pos hc] at hw
    refine zT_st (pc' := 9) (L' := [some (.int a0), some (.int a1)]) (st' := []) (h' := h) 1 (fun n => if_pos hc) ?_
    subst hw
    exact zT_ret 2 rfl
  · rw [if_neg hc] at hw
    refine zT_st (pc' := 5) (L' := [some (.int a0), some (.int a1)]) (st' := []) (h' := h) 1 (fun n => if_neg hc) ?_
    subst hw
    exact zT_ret 3 rfl
set_option maxRecDepth 4000 in
theorem s_m_goesOut_0 (E : zX) (d : Nat) (a0 : Nat) (a1 : Int32) (a2 : Int32) (h : zH) (r : zO × zH)
    (hw : isO h a0 12 = true ∧ ∃ (x1 : Int32) (h2 : zH), zT E d m_m_ballFor 0 [some (.ref a0), some (.int a1), some (.int a2), none, none] [] h (.inl (some (.int x1)), h2) ∧
    if x1 = (-1) then (
      r = (.inl (some (.int 0)), h2))
    else (
      ∃ o3 : Nat, fld h2 a0 12 40 = some (.ref o3) ∧
      ∃ o4 : Nat, fld h2 a0 12 40 = some (.ref o4) ∧
      ∃ (n5 : Nat) (f6 : Nat → Int32), arr h2 o4 = some (n5, f6) ∧ ¬ (((a1 + 1) + a2) < 0 ∨ n5 ≤ (((a1 + 1) + a2)).toNatClampNeg) ∧
      ∃ (n7 : Nat) (f8 : Nat → Int32), arr h2 o3 = some (n7, f8) ∧ ¬ (((a1 + 39) + x1) < 0 ∨ n7 ≤ (((a1 + 39) + x1)).toNatClampNeg) ∧
      ∃ o9 : Nat, fld (setA h2 o3 n7 (upd f8 (((a1 + 39) + x1)).toNatClampNeg (f6 (((a1 + 1) + a2)).toNatClampNeg))) a0 12 40 = some (.ref o9) ∧
      ∃ (n10 : Nat) (f11 : Nat → Int32), arr (setA h2 o3 n7 (upd f8 (((a1 + 39) + x1)).toNatClampNeg (f6 (((a1 + 1) + a2)).toNatClampNeg))) o9 = some (n10, f11) ∧ ¬ (((a1 + 59) + x1) < 0 ∨ n10 ≤ (((a1 + 59) + x1)).toNatClampNeg) ∧
      ∃ o12 : Nat, fld (setA (setA h2 o3 n7 (upd f8 (((a1 + 39) + x1)).toNatClampNeg (f6 (((a1 + 1) + a2)).toNatClampNeg))) o9 n10 (upd f11 (((a1 + 59) + x1)).toNatClampNeg a2)) a0 12 40 = some (.ref o12) ∧
      ∃ (n13 : Nat) (f14 : Nat → Int32), arr (setA (setA h2 o3 n7 (upd f8 (((a1 + 39) + x1)).toNatClampNeg (f6 (((a1 + 1) + a2)).toNatClampNeg))) o9 n10 (upd f11 (((a1 + 59) + x1)).toNatClampNeg a2)) o12 = some (n13, f14) ∧ ¬ (((a1 + 49) + x1) < 0 ∨ n13 ≤ (((a1 + 49) + x1)).toNatClampNeg) ∧
      ∃ o15 : Nat, fld (setA (setA (setA h2 o3 n7 (upd f8 (((a1 + 39) + x1)).toNatClampNeg (f6 (((a1 + 1) + a2)).toNatClampNeg))) o9 n10 (upd f11 (((a1 + 59) + x1)).toNatClampNeg a2)) o12 n13 (upd f14 (((a1 + 49) + x1)).toNatClampNeg 0)) a0 12 40 = some (.ref o15) ∧
      ∃ (n16 : Nat) (f17 : Nat → Int32), arr (setA (setA (setA h2 o3 n7 (upd f8 (((a1 + 39) + x1)).toNatClampNeg (f6 (((a1 + 1) + a2)).toNatClampNeg))) o9 n10 (upd f11 (((a1 + 59) + x1)).toNatClampNeg a2)) o12 n13 (upd f14 (((a1 + 49) + x1)).toNatClampNeg 0)) o15 = some (n16, f17) ∧ ¬ (((a1 + 1) + a2) < 0 ∨ n16 ≤ (((a1 + 1) + a2)).toNatClampNeg) ∧
      r = (.inl (some (.int 1)), (setA (setA (setA (setA h2 o3 n7 (upd f8 (((a1 + 39) + x1)).toNatClampNeg (f6 (((a1 + 1) + a2)).toNatClampNeg))) o9 n10 (upd f11 (((a1 + 59) + x1)).toNatClampNeg a2)) o12 n13 (upd f14 (((a1 + 49) + x1)).toNatClampNeg 0)) o15 n16 (upd f17 (((a1 + 1) + a2)).toNatClampNeg 0))))) :
    zT E (d + 1) m_m_goesOut 0 [some (.ref a0), some (.int a1), some (.int a2), none] [] h r := by
  refine zT_st (pc' := 3) (L' := [some (.ref a0), some (.int a1), some (.int a2), none]) (st' := [.int a2, .int a1, .ref a0]) (h' := h) 3 (fun n => rfl) ?_
  obtain ⟨hq, hw⟩ := hw
  obtain ⟨x1, h2, hx, hw⟩ := hw
  refine zT_call (pc' := 6) (rest := []) 1 (fun n => rfl) hq hx ?_
  show zT E (d + 1) m_m_goesOut 6 [some (.ref a0), some (.int a1), some (.int a2), none] [.int x1] h2 r
  refine zT_st (pc' := 9) (L' := [some (.ref a0), some (.int a1), some (.int a2), some (.int x1)]) (st' := [.int (-1), .int x1]) (h' := h2) 3 (fun n => rfl) ?_
  by_cases hc : x1 = (-1)
  · rw [if_pos hc] at hw
    refine zT_st (pc' := 12) (L' := [some (.ref a0), some (.int a1), some (.int a2), some (.int x1)]) (st' := []) (h' := h2) 1 (fun n => if_pos hc) ?_
    subst hw
    exact zT_ret 2 rfl
  · rw [if_neg hc] at hw
    refine zT_st (pc' := 14) (L' := [some (.ref a0), some (.int a1), some (.int a2), some (.int x1)]) (st' := []) (h' := h2) 1 (fun n => if_neg hc) ?_
    refine zT_st (pc' := 15) (L' := [some (.ref a0), some (.int a1), some (.int a2), some (.int x1)]) (st' := [.ref a0]) (h' := h2) 1 (fun n => rfl) ?_
    obtain ⟨o3, e, hw⟩ := hw
    refine zT_st (pc' := 18) (L' := [some (.ref a0), some (.int a1), some (.int a2), some (.int x1)]) (st' := [.ref o3]) (h' := h2) 1 (fun n => fld_eq (E := E) e _) ?_
    refine zT_st (pc' := 25) (L' := [some (.ref a0), some (.int a1), some (.int a2), some (.int x1)]) (st' := [.ref a0, .int ((a1 + 39) + x1), .ref o3]) (h' := h2) 6 (fun n => rfl) ?_
    obtain ⟨o4, e, hw⟩ := hw
    refine zT_st (pc' := 28) (L' := [some (.ref a0), some (.int a1), some (.int a2), some (.int x1)]) (st' := [.ref o4, .int ((a1 + 39) + x1), .ref o3]) (h' := h2) 1 (fun n => fld_eq (E := E) e _) ?_
    refine zT_st (pc' := 33) (L' := [some (.ref a0), some (.int a1), some (.int a2), some (.int x1)]) (st' := [.int ((a1 + 1) + a2), .ref o4, .int ((a1 + 39) + x1), .ref o3]) (h' := h2) 5 (fun n => rfl) ?_
    obtain ⟨n5, f6, e, hi, hw⟩ := hw
    refine zT_st (pc' := 34) (L' := [some (.ref a0), some (.int a1), some (.int a2), some (.int x1)]) (st' := [.int (f6 (((a1 + 1) + a2)).toNatClampNeg), .int ((a1 + 39) + x1), .ref o3]) (h' := h2) 1 (fun n => arr_eq (E := E) e hi [.int ((a1 + 39) + x1), .ref o3] (fun st => zrun zP zCd E n (d + 1) m_m_goesOut 34 [some (.ref a0), some (.int a1), some (.int a2), some (.int x1)] st h2)) ?_
    obtain ⟨n7, f8, e, hi, hw⟩ := hw
    refine zT_st (pc' := 35) (L' := [some (.ref a0), some (.int a1), some (.int a2), some (.int x1)]) (st' := []) (h' := (setA h2 o3 n7 (upd f8 (((a1 + 39) + x1)).toNatClampNeg (f6 (((a1 + 1) + a2)).toNatClampNeg)))) 1 (fun n => set_eq e hi _ _) ?_
    refine zT_st (pc' := 36) (L' := [some (.ref a0), some (.int a1), some (.int a2), some (.int x1)]) (st' := [.ref a0]) (h' := (setA h2 o3 n7 (upd f8 (((a1 + 39) + x1)).toNatClampNeg (f6 (((a1 + 1) + a2)).toNatClampNeg)))) 1 (fun n => rfl) ?_
    obtain ⟨o9, e, hw⟩ := hw
    refine zT_st (pc' := 39) (L' := [some (.ref a0), some (.int a1), some (.int a2), some (.int x1)]) (st' := [.ref o9]) (h' := (setA h2 o3 n7 (upd f8 (((a1 + 39) + x1)).toNatClampNeg (f6 (((a1 + 1) + a2)).toNatClampNeg)))) 1 (fun n => fld_eq (E := E) e _) ?_
    refine zT_st (pc' := 46) (L' := [some (.ref a0), some (.int a1), some (.int a2), some (.int x1)]) (st' := [.int a2, .int ((a1 + 59) + x1), .ref o9]) (h' := (setA h2 o3 n7 (upd f8 (((a1 + 39) + x1)).toNatClampNeg (f6 (((a1 + 1) + a2)).toNatClampNeg)))) 6 (fun n => rfl) ?_
    obtain ⟨n10, f11, e, hi, hw⟩ := hw
    refine zT_st (pc' := 47) (L' := [some (.ref a0), some (.int a1), some (.int a2), some (.int x1)]) (st' := []) (h' := (setA (setA h2 o3 n7 (upd f8 (((a1 + 39) + x1)).toNatClampNeg (f6 (((a1 + 1) + a2)).toNatClampNeg))) o9 n10 (upd f11 (((a1 + 59) + x1)).toNatClampNeg a2))) 1 (fun n => set_eq e hi _ _) ?_
    refine zT_st (pc' := 48) (L' := [some (.ref a0), some (.int a1), some (.int a2), some (.int x1)]) (st' := [.ref a0]) (h' := (setA (setA h2 o3 n7 (upd f8 (((a1 + 39) + x1)).toNatClampNeg (f6 (((a1 + 1) + a2)).toNatClampNeg))) o9 n10 (upd f11 (((a1 + 59) + x1)).toNatClampNeg a2))) 1 (fun n => rfl) ?_
    obtain ⟨o12, e, hw⟩ := hw
    refine zT_st (pc' := 51) (L' := [some (.ref a0), some (.int a1), some (.int a2), some (.int x1)]) (st' := [.ref o12]) (h' := (setA (setA h2 o3 n7 (upd f8 (((a1 + 39) + x1)).toNatClampNeg (f6 (((a1 + 1) + a2)).toNatClampNeg))) o9 n10 (upd f11 (((a1 + 59) + x1)).toNatClampNeg a2))) 1 (fun n => fld_eq (E := E) e _) ?_
    refine zT_st (pc' := 58) (L' := [some (.ref a0), some (.int a1), some (.int a2), some (.int x1)]) (st' := [.int 0, .int ((a1 + 49) + x1), .ref o12]) (h' := (setA (setA h2 o3 n7 (upd f8 (((a1 + 39) + x1)).toNatClampNeg (f6 (((a1 + 1) + a2)).toNatClampNeg))) o9 n10 (upd f11 (((a1 + 59) + x1)).toNatClampNeg a2))) 6 (fun n => rfl) ?_
    obtain ⟨n13, f14, e, hi, hw⟩ := hw
    refine zT_st (pc' := 59) (L' := [some (.ref a0), some (.int a1), some (.int a2), some (.int x1)]) (st' := []) (h' := (setA (setA (setA h2 o3 n7 (upd f8 (((a1 + 39) + x1)).toNatClampNeg (f6 (((a1 + 1) + a2)).toNatClampNeg))) o9 n10 (upd f11 (((a1 + 59) + x1)).toNatClampNeg a2)) o12 n13 (upd f14 (((a1 + 49) + x1)).toNatClampNeg 0))) 1 (fun n => set_eq e hi _ _) ?_
    refine zT_st (pc' := 60) (L' := [some (.ref a0), some (.int a1), some (.int a2), some (.int x1)]) (st' := [.ref a0]) (h' := (setA (setA (setA h2 o3 n7 (upd f8 (((a1 + 39) + x1)).toNatClampNeg (f6 (((a1 + 1) + a2)).toNatClampNeg))) o9 n10 (upd f11 (((a1 + 59) + x1)).toNatClampNeg a2)) o12 n13 (upd f14 (((a1 + 49) + x1)).toNatClampNeg 0))) 1 (fun n => rfl) ?_
    obtain ⟨o15, e, hw⟩ := hw
    refine zT_st (pc' := 63) (L' := [some (.ref a0), some (.int a1), some (.int a2), some (.int x1)]) (st' := [.ref o15]) (h' := (setA (setA (setA h2 o3 n7 (upd f8 (((a1 + 39) + x1)).toNatClampNeg (f6 (((a1 + 1) + a2)).toNatClampNeg))) o9 n10 (upd f11 (((a1 + 59) + x1)).toNatClampNeg a2)) o12 n13 (upd f14 (((a1 + 49) + x1)).toNatClampNeg 0))) 1 (fun n => fld_eq (E := E) e _) ?_
    refine zT_st (pc' := 69) (L' := [some (.ref a0), some (.int a1), some (.int a2), some (.int x1)]) (st' := [.int 0, .int ((a1 + 1) + a2), .ref o15]) (h' := (setA (setA (setA h2 o3 n7 (upd f8 (((a1 + 39) + x1)).toNatClampNeg (f6 (((a1 + 1) + a2)).toNatClampNeg))) o9 n10 (upd f11 (((a1 + 59) + x1)).toNatClampNeg a2)) o12 n13 (upd f14 (((a1 + 49) + x1)).toNatClampNeg 0))) 6 (fun n => rfl) ?_
    obtain ⟨n16, f17, e, hi, hw⟩ := hw
    refine zT_st (pc' := 70) (L' := [some (.ref a0), some (.int a1), some (.int a2), some (.int x1)]) (st' := []) (h' := (setA (setA (setA (setA h2 o3 n7 (upd f8 (((a1 + 39) + x1)).toNatClampNeg (f6 (((a1 + 1) + a2)).toNatClampNeg))) o9 n10 (upd f11 (((a1 + 59) + x1)).toNatClampNeg a2)) o12 n13 (upd f14 (((a1 + 49) + x1)).toNatClampNeg 0)) o15 n16 (upd f17 (((a1 + 1) + a2)).toNatClampNeg 0))) 1 (fun n => set_eq e hi _ _) ?_
    subst hw
    exact zT_ret 2 rfl
set_option maxRecDepth 4000 in
theorem s_m_bursts_0 (E : zX) (d : Nat) (a0 : Nat) (a1 : Int32) (a2 : Int32) (h : zH) (r : zO × zH)
    (hw : ∃ x1 : Int32, fld h a0 12 6 = some (.int x1) ∧
    if x1 = (-1) then (
      ∃ o2 : Nat, fld h a0 12 40 = some (.ref o2) ∧
      ∃ (n3 : Nat) (f4 : Nat → Int32), arr h o2 = some (n3, f4) ∧ ¬ (((a1 + 49) + a2) < 0 ∨ n3 ≤ (((a1 + 49) + a2)).toNatClampNeg) ∧
      if (f4 (((a1 + 49) + a2)).toNatClampNeg) < 10 then (
        r = (.inl (some (.int 0)), h))
      else (
        r = (.inl (some (.int 1)), h)))
    else (
      zT E (d + 1) m_m_bursts 35 [some (.ref a0), some (.int a1), some (.int a2), some (.int 0), some (.int 0)] [] h r)) :
    zT E (d + 1) m_m_bursts 0 [some (.ref a0), some (.int a1), some (.int a2), none, none] [] h r := by
  refine zT_st (pc' := 1) (L' := [some (.ref a0), some (.int a1), some (.int a2), none, none]) (st' := [.ref a0]) (h' := h) 1 (fun n => rfl) ?_
  obtain ⟨x1, e, hw⟩ := hw
  refine zT_st (pc' := 4) (L' := [some (.ref a0), some (.int a1), some (.int a2), none, none]) (st' := [.int x1]) (h' := h) 1 (fun n => fld_eq (E := E) e _) ?_
  refine zT_st (pc' := 5) (L' := [some (.ref a0), some (.int a1), some (.int a2), none, none]) (st' := [.int (-1), .int x1]) (h' := h) 1 (fun n => rfl) ?_
  by_cases hc : x1 = (-1)
  · rw [if_pos hc] at hw
    refine zT_st (pc' := 8) (L' := [some (.ref a0), some (.int a1), some (.int a2), none, none]) (st' := []) (h' := h) 1 (fun n => if_pos hc) ?_
    refine zT_st (pc' := 9) (L' := [some (.ref a0), some (.int a1), some (.int a2), none, none]) (st' := [.ref a0]) (h' := h) 1 (fun n => rfl) ?_
    obtain ⟨o2, e, hw⟩ := hw
    refine zT_st (pc' := 12) (L' := [some (.ref a0), some (.int a1), some (.int a2), none, none]) (st' := [.ref o2]) (h' := h) 1 (fun n => fld_eq (E := E) e _) ?_
    refine zT_st (pc' := 18) (L' := [some (.ref a0), some (.int a1), some (.int a2), none, none]) (st' := [.int ((a1 + 49) + a2), .ref o2]) (h' := h) 5 (fun n => rfl) ?_
    obtain ⟨n3, f4, e, hi, hw⟩ := hw
    refine zT_st (pc' := 19) (L' := [some (.ref a0), some (.int a1), some (.int a2), none, none]) (st' := [.int (f4 (((a1 + 49) + a2)).toNatClampNeg)]) (h' := h) 1 (fun n => arr_eq (E := E) e hi [] (fun st => zrun zP zCd E n (d + 1) m_m_bursts 19 [some (.ref a0), some (.int a1), some (.int a2), none, none] st h)) ?_
    refine zT_st (pc' := 21) (L' := [some (.ref a0), some (.int a1), some (.int a2), none, none]) (st' := [.int 10, .int (f4 (((a1 + 49) + a2)).toNatClampNeg)]) (h' := h) 1 (fun n => rfl) ?_
    by_cases hc : (f4 (((a1 + 49) + a2)).toNatClampNeg) < 10
    · rw [if_pos hc] at hw
      refine zT_st (pc' := 28) (L' := [some (.ref a0), some (.int a1), some (.int a2), none, none]) (st' := []) (h' := h) 1 (fun n => if_pos hc) ?_
      subst hw
      exact zT_ret 2 rfl
    · rw [if_neg hc] at hw
      refine zT_st (pc' := 24) (L' := [some (.ref a0), some (.int a1), some (.int a2), none, none]) (st' := []) (h' := h) 1 (fun n => if_neg hc) ?_
      subst hw
      exact zT_ret 3 rfl
  · rw [if_neg hc] at hw
    refine zT_st (pc' := 30) (L' := [some (.ref a0), some (.int a1), some (.int a2), none, none]) (st' := []) (h' := h) 1 (fun n => if_neg hc) ?_
    exact zT_st 4 (fun n => rfl) hw
set_option maxRecDepth 4000 in
theorem s_m_bursts_35 (E : zX) (d : Nat) (a0 : Nat) (a1 : Int32) (a2 : Int32) (a3 : Int32) (a4 : Int32) (h : zH) (r : zO × zH)
    (hw : ∃ x1 : Int32, fld h a0 12 4 = some (.int x1) ∧
    if x1 ≤ a4 then (
      ∃ o2 : Nat, fld h a0 12 43 = some (.ref o2) ∧
      ∃ o3 : Nat, fld h a0 12 40 = some (.ref o3) ∧
      ∃ (n4 : Nat) (f5 : Nat → Int32), arr h o3 = some (n4, f5) ∧ ¬ (((a1 + 39) + a2) < 0 ∨ n4 ≤ (((a1 + 39) + a2)).toNatClampNeg) ∧
      ∃ (n6 : Nat) (f7 : Nat → Int32), arr h o2 = some (n6, f7) ∧ ¬ ((5 : Int32) < 0 ∨ n6 ≤ ((5 : Int32)).toNatClampNeg) ∧
      ∃ o8 : Nat, fld (setA h o2 n6 (upd f7 ((5 : Int32)).toNatClampNeg (f5 (((a1 + 39) + a2)).toNatClampNeg))) a0 12 43 = some (.ref o8) ∧
      ∃ o9 : Nat, fld (setA h o2 n6 (upd f7 ((5 : Int32)).toNatClampNeg (f5 (((a1 + 39) + a2)).toNatClampNeg))) a0 12 8 = some (.ref o9) ∧
      ∃ (n10 : Nat) (f11 : Nat → Int32), arr (setA h o2 n6 (upd f7 ((5 : Int32)).toNatClampNeg (f5 (((a1 + 39) + a2)).toNatClampNeg))) o9 = some (n10, f11) ∧ ¬ (a2 < 0 ∨ n10 ≤ (a2).toNatClampNeg) ∧
      ∃ (n12 : Nat) (f13 : Nat → Int32), arr (setA h o2 n6 (upd f7 ((5 : Int32)).toNatClampNeg (f5 (((a1 + 39) + a2)).toNatClampNeg))) o8 = some (n12, f13) ∧ ¬ ((6 : Int32) < 0 ∨ n12 ≤ ((6 : Int32)).toNatClampNeg) ∧
      ∃ o14 : Nat, fld (setA (setA h o2 n6 (upd f7 ((5 : Int32)).toNatClampNeg (f5 (((a1 + 39) + a2)).toNatClampNeg))) o8 n12 (upd f13 ((6 : Int32)).toNatClampNeg (f11 (a2).toNatClampNeg))) a0 12 43 = some (.ref o14) ∧
      ∃ o15 : Nat, fld (setA (setA h o2 n6 (upd f7 ((5 : Int32)).toNatClampNeg (f5 (((a1 + 39) + a2)).toNatClampNeg))) o8 n12 (upd f13 ((6 : Int32)).toNatClampNeg (f11 (a2).toNatClampNeg))) a0 12 40 = some (.ref o15) ∧
      ∃ (n16 : Nat) (f17 : Nat → Int32), arr (setA (setA h o2 n6 (upd f7 ((5 : Int32)).toNatClampNeg (f5 (((a1 + 39) + a2)).toNatClampNeg))) o8 n12 (upd f13 ((6 : Int32)).toNatClampNeg (f11 (a2).toNatClampNeg))) o15 = some (n16, f17) ∧ ¬ (((a1 + 49) + a2) < 0 ∨ n16 ≤ (((a1 + 49) + a2)).toNatClampNeg) ∧
      ∃ (n18 : Nat) (f19 : Nat → Int32), arr (setA (setA h o2 n6 (upd f7 ((5 : Int32)).toNatClampNeg (f5 (((a1 + 39) + a2)).toNatClampNeg))) o8 n12 (upd f13 ((6 : Int32)).toNatClampNeg (f11 (a2).toNatClampNeg))) o14 = some (n18, f19) ∧ ¬ ((7 : Int32) < 0 ∨ n18 ≤ ((7 : Int32)).toNatClampNeg) ∧
      ∃ o20 : Nat, fld (setA (setA (setA h o2 n6 (upd f7 ((5 : Int32)).toNatClampNeg (f5 (((a1 + 39) + a2)).toNatClampNeg))) o8 n12 (upd f13 ((6 : Int32)).toNatClampNeg (f11 (a2).toNatClampNeg))) o14 n18 (upd f19 ((7 : Int32)).toNatClampNeg (f17 (((a1 + 49) + a2)).toNatClampNeg))) a0 12 43 = some (.ref o20) ∧
      ∃ (n21 : Nat) (f22 : Nat → Int32), arr (setA (setA (setA h o2 n6 (upd f7 ((5 : Int32)).toNatClampNeg (f5 (((a1 + 39) + a2)).toNatClampNeg))) o8 n12 (upd f13 ((6 : Int32)).toNatClampNeg (f11 (a2).toNatClampNeg))) o14 n18 (upd f19 ((7 : Int32)).toNatClampNeg (f17 (((a1 + 49) + a2)).toNatClampNeg))) o20 = some (n21, f22) ∧ ¬ ((8 : Int32) < 0 ∨ n21 ≤ ((8 : Int32)).toNatClampNeg) ∧
      ∃ o23 : Nat, fld (setA (setA (setA (setA h o2 n6 (upd f7 ((5 : Int32)).toNatClampNeg (f5 (((a1 + 39) + a2)).toNatClampNeg))) o8 n12 (upd f13 ((6 : Int32)).toNatClampNeg (f11 (a2).toNatClampNeg))) o14 n18 (upd f19 ((7 : Int32)).toNatClampNeg (f17 (((a1 + 49) + a2)).toNatClampNeg))) o20 n21 (upd f22 ((8 : Int32)).toNatClampNeg a3)) a0 12 43 = some (.ref o23) ∧
      ∃ o24 : Nat, fld (setA (setA (setA (setA h o2 n6 (upd f7 ((5 : Int32)).toNatClampNeg (f5 (((a1 + 39) + a2)).toNatClampNeg))) o8 n12 (upd f13 ((6 : Int32)).toNatClampNeg (f11 (a2).toNatClampNeg))) o14 n18 (upd f19 ((7 : Int32)).toNatClampNeg (f17 (((a1 + 49) + a2)).toNatClampNeg))) o20 n21 (upd f22 ((8 : Int32)).toNatClampNeg a3)) a0 12 40 = some (.ref o24) ∧
      ∃ (n25 : Nat) (f26 : Nat → Int32), arr (setA (setA (setA (setA h o2 n6 (upd f7 ((5 : Int32)).toNatClampNeg (f5 (((a1 + 39) + a2)).toNatClampNeg))) o8 n12 (upd f13 ((6 : Int32)).toNatClampNeg (f11 (a2).toNatClampNeg))) o14 n18 (upd f19 ((7 : Int32)).toNatClampNeg (f17 (((a1 + 49) + a2)).toNatClampNeg))) o20 n21 (upd f22 ((8 : Int32)).toNatClampNeg a3)) o24 = some (n25, f26) ∧ ¬ ((a1 + 0) < 0 ∨ n25 ≤ ((a1 + 0)).toNatClampNeg) ∧
      ∃ (n27 : Nat) (f28 : Nat → Int32), arr (setA (setA (setA (setA h o2 n6 (upd f7 ((5 : Int32)).toNatClampNeg (f5 (((a1 + 39) + a2)).toNatClampNeg))) o8 n12 (upd f13 ((6 : Int32)).toNatClampNeg (f11 (a2).toNatClampNeg))) o14 n18 (upd f19 ((7 : Int32)).toNatClampNeg (f17 (((a1 + 49) + a2)).toNatClampNeg))) o20 n21 (upd f22 ((8 : Int32)).toNatClampNeg a3)) o23 = some (n27, f28) ∧ ¬ ((4 : Int32) < 0 ∨ n27 ≤ ((4 : Int32)).toNatClampNeg) ∧
      ∃ x29 : Int32, fld (setA (setA (setA (setA (setA h o2 n6 (upd f7 ((5 : Int32)).toNatClampNeg (f5 (((a1 + 39) + a2)).toNatClampNeg))) o8 n12 (upd f13 ((6 : Int32)).toNatClampNeg (f11 (a2).toNatClampNeg))) o14 n18 (upd f19 ((7 : Int32)).toNatClampNeg (f17 (((a1 + 49) + a2)).toNatClampNeg))) o20 n21 (upd f22 ((8 : Int32)).toNatClampNeg a3)) o23 n27 (upd f28 ((4 : Int32)).toNatClampNeg (f26 ((a1 + 0)).toNatClampNeg))) a0 12 6 = some (.int x29) ∧
      isO (setA (setA (setA (setA (setA h o2 n6 (upd f7 ((5 : Int32)).toNatClampNeg (f5 (((a1 + 39) + a2)).toNatClampNeg))) o8 n12 (upd f13 ((6 : Int32)).toNatClampNeg (f11 (a2).toNatClampNeg))) o14 n18 (upd f19 ((7 : Int32)).toNatClampNeg (f17 (((a1 + 49) + a2)).toNatClampNeg))) o20 n21 (upd f22 ((8 : Int32)).toNatClampNeg a3)) o23 n27 (upd f28 ((4 : Int32)).toNatClampNeg (f26 ((a1 + 0)).toNatClampNeg))) a0 12 = true ∧ ∃ (x30 : Int32) (h31 : zH), zT E d m_m_reckons 0 [some (.ref a0), some (.int x29), none, none, none] [] (setA (setA (setA (setA (setA h o2 n6 (upd f7 ((5 : Int32)).toNatClampNeg (f5 (((a1 + 39) + a2)).toNatClampNeg))) o8 n12 (upd f13 ((6 : Int32)).toNatClampNeg (f11 (a2).toNatClampNeg))) o14 n18 (upd f19 ((7 : Int32)).toNatClampNeg (f17 (((a1 + 49) + a2)).toNatClampNeg))) o20 n21 (upd f22 ((8 : Int32)).toNatClampNeg a3)) o23 n27 (upd f28 ((4 : Int32)).toNatClampNeg (f26 ((a1 + 0)).toNatClampNeg))) (.inl (some (.int x30)), h31) ∧
      if x30 ≤ 0 then (
        r = (.inl (some (.int 0)), h31))
      else (
        r = (.inl (some (.int 1)), h31)))
    else (
      if a4 = a2 then (
        zT E (d + 1) m_m_bursts 35 [some (.ref a0), some (.int a1), some (.int a2), some (.int (a3 + 0)), some (.int (a4 + 1))] [] h r)
      else (
        isO h a0 12 = true ∧ ∃ (x32 : Int32) (h33 : zH), zT E d m_m_isWhite 0 [some (.ref a0), some (.int a1), some (.int a4)] [] h (.inl (some (.int x32)), h33) ∧
        if x32 = 0 then (
          ∃ o34 : Nat, fld h33 a0 12 40 = some (.ref o34) ∧
          ∃ (n35 : Nat) (f36 : Nat → Int32), arr h33 o34 = some (n35, f36) ∧ ¬ (((a1 + 29) + a4) < 0 ∨ n35 ≤ (((a1 + 29) + a4)).toNatClampNeg) ∧
          isO h33 a0 12 = true ∧ ∃ (x37 : Int32) (h38 : zH), zT E d m_m_isIn 0 [some (.ref a0), some (.int a1), some (.int a2), some (.int (f36 (((a1 + 29) + a4)).toNatClampNeg))] [] h33 (.inl (some (.int x37)), h38) ∧
          if x37 = 0 then (
            zT E (d + 1) m_m_bursts 35 [some (.ref a0), some (.int a1), some (.int a2), some (.int (a3 + 0)), some (.int (a4 + 1))] [] h38 r)
          else (
            zT E (d + 1) m_m_bursts 35 [some (.ref a0), some (.int a1), some (.int a2), some (.int (a3 + 1)), some (.int (a4 + 1))] [] h38 r))
        else (
          zT E (d + 1) m_m_bursts 35 [some (.ref a0), some (.int a1), some (.int a2), some (.int (a3 + 0)), some (.int (a4 + 1))] [] h33 r)))) :
    zT E (d + 1) m_m_bursts 35 [some (.ref a0), some (.int a1), some (.int a2), some (.int a3), some (.int a4)] [] h r := by
  refine zT_st (pc' := 38) (L' := [some (.ref a0), some (.int a1), some (.int a2), some (.int a3), some (.int a4)]) (st' := [.ref a0, .int a4]) (h' := h) 2 (fun n => rfl) ?_
  obtain ⟨x1, e, hw⟩ := hw
  refine zT_st (pc' := 41) (L' := [some (.ref a0), some (.int a1), some (.int a2), some (.int a3), some (.int a4)]) (st' := [.int x1, .int a4]) (h' := h) 1 (fun n => fld_eq (E := E) e _) ?_
  by_cases hc : x1 ≤ a4
  · rw [if_pos hc] at hw
    refine zT_st (pc' := 95) (L' := [some (.ref a0), some (.int a1), some (.int a2), some (.int a3), some (.int a4)]) (st' := []) (h' := h) 1 (fun n => if_pos hc) ?_
    refine zT_st (pc' := 96) (L' := [some (.ref a0), some (.int a1), some (.int a2), some (.int a3), some (.int a4)]) (st' := [.ref a0]) (h' := h) 1 (fun n => rfl) ?_
    obtain ⟨o2, e, hw⟩ := hw
    refine zT_st (pc' := 99) (L' := [some (.ref a0), some (.int a1), some (.int a2), some (.int a3), some (.int a4)]) (st' := [.ref o2]) (h' := h) 1 (fun n => fld_eq (E := E) e _) ?_
    refine zT_st (pc' := 101) (L' := [some (.ref a0), some (.int a1), some (.int a2), some (.int a3), some (.int a4)]) (st' := [.ref a0, .int 5, .ref o2]) (h' := h) 2 (fun n => rfl) ?_
    obtain ⟨o3, e, hw⟩ := hw
    refine zT_st (pc' := 104) (L' := [some (.ref a0), some (.int a1), some (.int a2), some (.int a3), some (.int a4)]) (st' := [.ref o3, .int 5, .ref o2]) (h' := h) 1 (fun n => fld_eq (E := E) e _) ?_
    refine zT_st (pc' := 110) (L' := [some (.ref a0), some (.int a1), some (.int a2), some (.int a3), some (.int a4)]) (st' := [.int ((a1 + 39) + a2), .ref o3, .int 5, .ref o2]) (h' := h) 5 (fun n => rfl) ?_
    obtain ⟨n4, f5, e, hi, hw⟩ := hw
    refine zT_st (pc' := 111) (L' := [some (.ref a0), some (.int a1), some (.int a2), some (.int a3), some (.int a4)]) (st' := [.int (f5 (((a1 + 39) + a2)).toNatClampNeg), .int 5, .ref o2]) (h' := h) 1 (fun n => arr_eq (E := E) e hi [.int 5, .ref o2] (fun st => zrun zP zCd E n (d + 1) m_m_bursts 111 [some (.ref a0), some (.int a1), some (.int a2), some (.int a3), some (.int a4)] st h)) ?_
    obtain ⟨n6, f7, e, hi, hw⟩ := hw
    refine zT_st (pc' := 112) (L' := [some (.ref a0), some (.int a1), some (.int a2), some (.int a3), some (.int a4)]) (st' := []) (h' := (setA h o2 n6 (upd f7 ((5 : Int32)).toNatClampNeg (f5 (((a1 + 39) + a2)).toNatClampNeg)))) 1 (fun n => set_eq e hi _ _) ?_
    refine zT_st (pc' := 113) (L' := [some (.ref a0), some (.int a1), some (.int a2), some (.int a3), some (.int a4)]) (st' := [.ref a0]) (h' := (setA h o2 n6 (upd f7 ((5 : Int32)).toNatClampNeg (f5 (((a1 + 39) + a2)).toNatClampNeg)))) 1 (fun n => rfl) ?_
    obtain ⟨o8, e, hw⟩ := hw
    refine zT_st (pc' := 116) (L' := [some (.ref a0), some (.int a1), some (.int a2), some (.int a3), some (.int a4)]) (st' := [.ref o8]) (h' := (setA h o2 n6 (upd f7 ((5 : Int32)).toNatClampNeg (f5 (((a1 + 39) + a2)).toNatClampNeg)))) 1 (fun n => fld_eq (E := E) e _) ?_
    refine zT_st (pc' := 119) (L' := [some (.ref a0), some (.int a1), some (.int a2), some (.int a3), some (.int a4)]) (st' := [.ref a0, .int 6, .ref o8]) (h' := (setA h o2 n6 (upd f7 ((5 : Int32)).toNatClampNeg (f5 (((a1 + 39) + a2)).toNatClampNeg)))) 2 (fun n => rfl) ?_
    obtain ⟨o9, e, hw⟩ := hw
    refine zT_st (pc' := 122) (L' := [some (.ref a0), some (.int a1), some (.int a2), some (.int a3), some (.int a4)]) (st' := [.ref o9, .int 6, .ref o8]) (h' := (setA h o2 n6 (upd f7 ((5 : Int32)).toNatClampNeg (f5 (((a1 + 39) + a2)).toNatClampNeg)))) 1 (fun n => fld_eq (E := E) e _) ?_
    refine zT_st (pc' := 123) (L' := [some (.ref a0), some (.int a1), some (.int a2), some (.int a3), some (.int a4)]) (st' := [.int a2, .ref o9, .int 6, .ref o8]) (h' := (setA h o2 n6 (upd f7 ((5 : Int32)).toNatClampNeg (f5 (((a1 + 39) + a2)).toNatClampNeg)))) 1 (fun n => rfl) ?_
    obtain ⟨n10, f11, e, hi, hw⟩ := hw
    refine zT_st (pc' := 124) (L' := [some (.ref a0), some (.int a1), some (.int a2), some (.int a3), some (.int a4)]) (st' := [.int (f11 (a2).toNatClampNeg), .int 6, .ref o8]) (h' := (setA h o2 n6 (upd f7 ((5 : Int32)).toNatClampNeg (f5 (((a1 + 39) + a2)).toNatClampNeg)))) 1 (fun n => arr_eq (E := E) e hi [.int 6, .ref o8] (fun st => zrun zP zCd E n (d + 1) m_m_bursts 124 [some (.ref a0), some (.int a1), some (.int a2), some (.int a3), some (.int a4)] st (setA h o2 n6 (upd f7 ((5 : Int32)).toNatClampNeg (f5 (((a1 + 39) + a2)).toNatClampNeg))))) ?_
    obtain ⟨n12, f13, e, hi, hw⟩ := hw
    refine zT_st (pc' := 125) (L' := [some (.ref a0), some (.int a1), some (.int a2), some (.int a3), some (.int a4)]) (st' := []) (h' := (setA (setA h o2 n6 (upd f7 ((5 : Int32)).toNatClampNeg (f5 (((a1 + 39) + a2)).toNatClampNeg))) o8 n12 (upd f13 ((6 : Int32)).toNatClampNeg (f11 (a2).toNatClampNeg)))) 1 (fun n => set_eq e hi _ _) ?_
    refine zT_st (pc' := 126) (L' := [some (.ref a0), some (.int a1), some (.int a2), some (.int a3), some (.int a4)]) (st' := [.ref a0]) (h' := (setA (setA h o2 n6 (upd f7 ((5 : Int32)).toNatClampNeg (f5 (((a1 + 39) + a2)).toNatClampNeg))) o8 n12 (upd f13 ((6 : Int32)).toNatClampNeg (f11 (a2).toNatClampNeg)))) 1 (fun n => rfl) ?_
    obtain ⟨o14, e, hw⟩ := hw
    refine zT_st (pc' := 129) (L' := [some (.ref a0), some (.int a1), some (.int a2), some (.int a3), some (.int a4)]) (st' := [.ref o14]) (h' := (setA (setA h o2 n6 (upd f7 ((5 : Int32)).toNatClampNeg (f5 (((a1 + 39) + a2)).toNatClampNeg))) o8 n12 (upd f13 ((6 : Int32)).toNatClampNeg (f11 (a2).toNatClampNeg)))) 1 (fun n => fld_eq (E := E) e _) ?_
    refine zT_st (pc' := 132) (L' := [some (.ref a0), some (.int a1), some (.int a2), some (.int a3), some (.int a4)]) (st' := [.ref a0, .int 7, .ref o14]) (h' := (setA (setA h o2 n6 (upd f7 ((5 : Int32)).toNatClampNeg (f5 (((a1 + 39) + a2)).toNatClampNeg))) o8 n12 (upd f13 ((6 : Int32)).toNatClampNeg (f11 (a2).toNatClampNeg)))) 2 (fun n => rfl) ?_
    obtain ⟨o15, e, hw⟩ := hw
    refine zT_st (pc' := 135) (L' := [some (.ref a0), some (.int a1), some (.int a2), some (.int a3), some (.int a4)]) (st' := [.ref o15, .int 7, .ref o14]) (h' := (setA (setA h o2 n6 (upd f7 ((5 : Int32)).toNatClampNeg (f5 (((a1 + 39) + a2)).toNatClampNeg))) o8 n12 (upd f13 ((6 : Int32)).toNatClampNeg (f11 (a2).toNatClampNeg)))) 1 (fun n => fld_eq (E := E) e _) ?_
    refine zT_st (pc' := 141) (L' := [some (.ref a0), some (.int a1), some (.int a2), some (.int a3), some (.int a4)]) (st' := [.int ((a1 + 49) + a2), .ref o15, .int 7, .ref o14]) (h' := (setA (setA h o2 n6 (upd f7 ((5 : Int32)).toNatClampNeg (f5 (((a1 + 39) + a2)).toNatClampNeg))) o8 n12 (upd f13 ((6 : Int32)).toNatClampNeg (f11 (a2).toNatClampNeg)))) 5 (fun n => rfl) ?_
    obtain ⟨n16, f17, e, hi, hw⟩ := hw
    refine zT_st (pc' := 142) (L' := [some (.ref a0), some (.int a1), some (.int a2), some (.int a3), some (.int a4)]) (st' := [.int (f17 (((a1 + 49) + a2)).toNatClampNeg), .int 7, .ref o14]) (h' := (setA (setA h o2 n6 (upd f7 ((5 : Int32)).toNatClampNeg (f5 (((a1 + 39) + a2)).toNatClampNeg))) o8 n12 (upd f13 ((6 : Int32)).toNatClampNeg (f11 (a2).toNatClampNeg)))) 1 (fun n => arr_eq (E := E) e hi [.int 7, .ref o14] (fun st => zrun zP zCd E n (d + 1) m_m_bursts 142 [some (.ref a0), some (.int a1), some (.int a2), some (.int a3), some (.int a4)] st (setA (setA h o2 n6 (upd f7 ((5 : Int32)).toNatClampNeg (f5 (((a1 + 39) + a2)).toNatClampNeg))) o8 n12 (upd f13 ((6 : Int32)).toNatClampNeg (f11 (a2).toNatClampNeg))))) ?_
    obtain ⟨n18, f19, e, hi, hw⟩ := hw
    refine zT_st (pc' := 143) (L' := [some (.ref a0), some (.int a1), some (.int a2), some (.int a3), some (.int a4)]) (st' := []) (h' := (setA (setA (setA h o2 n6 (upd f7 ((5 : Int32)).toNatClampNeg (f5 (((a1 + 39) + a2)).toNatClampNeg))) o8 n12 (upd f13 ((6 : Int32)).toNatClampNeg (f11 (a2).toNatClampNeg))) o14 n18 (upd f19 ((7 : Int32)).toNatClampNeg (f17 (((a1 + 49) + a2)).toNatClampNeg)))) 1 (fun n => set_eq e hi _ _) ?_
    refine zT_st (pc' := 144) (L' := [some (.ref a0), some (.int a1), some (.int a2), some (.int a3), some (.int a4)]) (st' := [.ref a0]) (h' := (setA (setA (setA h o2 n6 (upd f7 ((5 : Int32)).toNatClampNeg (f5 (((a1 + 39) + a2)).toNatClampNeg))) o8 n12 (upd f13 ((6 : Int32)).toNatClampNeg (f11 (a2).toNatClampNeg))) o14 n18 (upd f19 ((7 : Int32)).toNatClampNeg (f17 (((a1 + 49) + a2)).toNatClampNeg)))) 1 (fun n => rfl) ?_
    obtain ⟨o20, e, hw⟩ := hw
    refine zT_st (pc' := 147) (L' := [some (.ref a0), some (.int a1), some (.int a2), some (.int a3), some (.int a4)]) (st' := [.ref o20]) (h' := (setA (setA (setA h o2 n6 (upd f7 ((5 : Int32)).toNatClampNeg (f5 (((a1 + 39) + a2)).toNatClampNeg))) o8 n12 (upd f13 ((6 : Int32)).toNatClampNeg (f11 (a2).toNatClampNeg))) o14 n18 (upd f19 ((7 : Int32)).toNatClampNeg (f17 (((a1 + 49) + a2)).toNatClampNeg)))) 1 (fun n => fld_eq (E := E) e _) ?_
    refine zT_st (pc' := 150) (L' := [some (.ref a0), some (.int a1), some (.int a2), some (.int a3), some (.int a4)]) (st' := [.int a3, .int 8, .ref o20]) (h' := (setA (setA (setA h o2 n6 (upd f7 ((5 : Int32)).toNatClampNeg (f5 (((a1 + 39) + a2)).toNatClampNeg))) o8 n12 (upd f13 ((6 : Int32)).toNatClampNeg (f11 (a2).toNatClampNeg))) o14 n18 (upd f19 ((7 : Int32)).toNatClampNeg (f17 (((a1 + 49) + a2)).toNatClampNeg)))) 2 (fun n => rfl) ?_
    obtain ⟨n21, f22, e, hi, hw⟩ := hw
    refine zT_st (pc' := 151) (L' := [some (.ref a0), some (.int a1), some (.int a2), some (.int a3), some (.int a4)]) (st' := []) (h' := (setA (setA (setA (setA h o2 n6 (upd f7 ((5 : Int32)).toNatClampNeg (f5 (((a1 + 39) + a2)).toNatClampNeg))) o8 n12 (upd f13 ((6 : Int32)).toNatClampNeg (f11 (a2).toNatClampNeg))) o14 n18 (upd f19 ((7 : Int32)).toNatClampNeg (f17 (((a1 + 49) + a2)).toNatClampNeg))) o20 n21 (upd f22 ((8 : Int32)).toNatClampNeg a3))) 1 (fun n => set_eq e hi _ _) ?_
    refine zT_st (pc' := 152) (L' := [some (.ref a0), some (.int a1), some (.int a2), some (.int a3), some (.int a4)]) (st' := [.ref a0]) (h' := (setA (setA (setA (setA h o2 n6 (upd f7 ((5 : Int32)).toNatClampNeg (f5 (((a1 + 39) + a2)).toNatClampNeg))) o8 n12 (upd f13 ((6 : Int32)).toNatClampNeg (f11 (a2).toNatClampNeg))) o14 n18 (upd f19 ((7 : Int32)).toNatClampNeg (f17 (((a1 + 49) + a2)).toNatClampNeg))) o20 n21 (upd f22 ((8 : Int32)).toNatClampNeg a3))) 1 (fun n => rfl) ?_
    obtain ⟨o23, e, hw⟩ := hw
    refine zT_st (pc' := 155) (L' := [some (.ref a0), some (.int a1), some (.int a2), some (.int a3), some (.int a4)]) (st' := [.ref o23]) (h' := (setA (setA (setA (setA h o2 n6 (upd f7 ((5 : Int32)).toNatClampNeg (f5 (((a1 + 39) + a2)).toNatClampNeg))) o8 n12 (upd f13 ((6 : Int32)).toNatClampNeg (f11 (a2).toNatClampNeg))) o14 n18 (upd f19 ((7 : Int32)).toNatClampNeg (f17 (((a1 + 49) + a2)).toNatClampNeg))) o20 n21 (upd f22 ((8 : Int32)).toNatClampNeg a3))) 1 (fun n => fld_eq (E := E) e _) ?_
    refine zT_st (pc' := 157) (L' := [some (.ref a0), some (.int a1), some (.int a2), some (.int a3), some (.int a4)]) (st' := [.ref a0, .int 4, .ref o23]) (h' := (setA (setA (setA (setA h o2 n6 (upd f7 ((5 : Int32)).toNatClampNeg (f5 (((a1 + 39) + a2)).toNatClampNeg))) o8 n12 (upd f13 ((6 : Int32)).toNatClampNeg (f11 (a2).toNatClampNeg))) o14 n18 (upd f19 ((7 : Int32)).toNatClampNeg (f17 (((a1 + 49) + a2)).toNatClampNeg))) o20 n21 (upd f22 ((8 : Int32)).toNatClampNeg a3))) 2 (fun n => rfl) ?_
    obtain ⟨o24, e, hw⟩ := hw
    refine zT_st (pc' := 160) (L' := [some (.ref a0), some (.int a1), some (.int a2), some (.int a3), some (.int a4)]) (st' := [.ref o24, .int 4, .ref o23]) (h' := (setA (setA (setA (setA h o2 n6 (upd f7 ((5 : Int32)).toNatClampNeg (f5 (((a1 + 39) + a2)).toNatClampNeg))) o8 n12 (upd f13 ((6 : Int32)).toNatClampNeg (f11 (a2).toNatClampNeg))) o14 n18 (upd f19 ((7 : Int32)).toNatClampNeg (f17 (((a1 + 49) + a2)).toNatClampNeg))) o20 n21 (upd f22 ((8 : Int32)).toNatClampNeg a3))) 1 (fun n => fld_eq (E := E) e _) ?_
    refine zT_st (pc' := 163) (L' := [some (.ref a0), some (.int a1), some (.int a2), some (.int a3), some (.int a4)]) (st' := [.int (a1 + 0), .ref o24, .int 4, .ref o23]) (h' := (setA (setA (setA (setA h o2 n6 (upd f7 ((5 : Int32)).toNatClampNeg (f5 (((a1 + 39) + a2)).toNatClampNeg))) o8 n12 (upd f13 ((6 : Int32)).toNatClampNeg (f11 (a2).toNatClampNeg))) o14 n18 (upd f19 ((7 : Int32)).toNatClampNeg (f17 (((a1 + 49) + a2)).toNatClampNeg))) o20 n21 (upd f22 ((8 : Int32)).toNatClampNeg a3))) 3 (fun n => rfl) ?_
    obtain ⟨n25, f26, e, hi, hw⟩ := hw
    refine zT_st (pc' := 164) (L' := [some (.ref a0), some (.int a1), some (.int a2), some (.int a3), some (.int a4)]) (st' := [.int (f26 ((a1 + 0)).toNatClampNeg), .int 4, .ref o23]) (h' := (setA (setA (setA (setA h o2 n6 (upd f7 ((5 : Int32)).toNatClampNeg (f5 (((a1 + 39) + a2)).toNatClampNeg))) o8 n12 (upd f13 ((6 : Int32)).toNatClampNeg (f11 (a2).toNatClampNeg))) o14 n18 (upd f19 ((7 : Int32)).toNatClampNeg (f17 (((a1 + 49) + a2)).toNatClampNeg))) o20 n21 (upd f22 ((8 : Int32)).toNatClampNeg a3))) 1 (fun n => arr_eq (E := E) e hi [.int 4, .ref o23] (fun st => zrun zP zCd E n (d + 1) m_m_bursts 164 [some (.ref a0), some (.int a1), some (.int a2), some (.int a3), some (.int a4)] st (setA (setA (setA (setA h o2 n6 (upd f7 ((5 : Int32)).toNatClampNeg (f5 (((a1 + 39) + a2)).toNatClampNeg))) o8 n12 (upd f13 ((6 : Int32)).toNatClampNeg (f11 (a2).toNatClampNeg))) o14 n18 (upd f19 ((7 : Int32)).toNatClampNeg (f17 (((a1 + 49) + a2)).toNatClampNeg))) o20 n21 (upd f22 ((8 : Int32)).toNatClampNeg a3)))) ?_
    obtain ⟨n27, f28, e, hi, hw⟩ := hw
    refine zT_st (pc' := 165) (L' := [some (.ref a0), some (.int a1), some (.int a2), some (.int a3), some (.int a4)]) (st' := []) (h' := (setA (setA (setA (setA (setA h o2 n6 (upd f7 ((5 : Int32)).toNatClampNeg (f5 (((a1 + 39) + a2)).toNatClampNeg))) o8 n12 (upd f13 ((6 : Int32)).toNatClampNeg (f11 (a2).toNatClampNeg))) o14 n18 (upd f19 ((7 : Int32)).toNatClampNeg (f17 (((a1 + 49) + a2)).toNatClampNeg))) o20 n21 (upd f22 ((8 : Int32)).toNatClampNeg a3)) o23 n27 (upd f28 ((4 : Int32)).toNatClampNeg (f26 ((a1 + 0)).toNatClampNeg)))) 1 (fun n => set_eq e hi _ _) ?_
    refine zT_st (pc' := 167) (L' := [some (.ref a0), some (.int a1), some (.int a2), some (.int a3), some (.int a4)]) (st' := [.ref a0, .ref a0]) (h' := (setA (setA (setA (setA (setA h o2 n6 (upd f7 ((5 : Int32)).toNatClampNeg (f5 (((a1 + 39) + a2)).toNatClampNeg))) o8 n12 (upd f13 ((6 : Int32)).toNatClampNeg (f11 (a2).toNatClampNeg))) o14 n18 (upd f19 ((7 : Int32)).toNatClampNeg (f17 (((a1 + 49) + a2)).toNatClampNeg))) o20 n21 (upd f22 ((8 : Int32)).toNatClampNeg a3)) o23 n27 (upd f28 ((4 : Int32)).toNatClampNeg (f26 ((a1 + 0)).toNatClampNeg)))) 2 (fun n => rfl) ?_
    obtain ⟨x29, e, hw⟩ := hw
    refine zT_st (pc' := 170) (L' := [some (.ref a0), some (.int a1), some (.int a2), some (.int a3), some (.int a4)]) (st' := [.int x29, .ref a0]) (h' := (setA (setA (setA (setA (setA h o2 n6 (upd f7 ((5 : Int32)).toNatClampNeg (f5 (((a1 + 39) + a2)).toNatClampNeg))) o8 n12 (upd f13 ((6 : Int32)).toNatClampNeg (f11 (a2).toNatClampNeg))) o14 n18 (upd f19 ((7 : Int32)).toNatClampNeg (f17 (((a1 + 49) + a2)).toNatClampNeg))) o20 n21 (upd f22 ((8 : Int32)).toNatClampNeg a3)) o23 n27 (upd f28 ((4 : Int32)).toNatClampNeg (f26 ((a1 + 0)).toNatClampNeg)))) 1 (fun n => fld_eq (E := E) e _) ?_
    obtain ⟨hq, hw⟩ := hw
    obtain ⟨x30, h31, hx, hw⟩ := hw
    refine zT_call (pc' := 173) (rest := []) 1 (fun n => rfl) hq hx ?_
    show zT E (d + 1) m_m_bursts 173 [some (.ref a0), some (.int a1), some (.int a2), some (.int a3), some (.int a4)] [.int x30] h31 r
    by_cases hc : x30 ≤ 0
    · rw [if_pos hc] at hw
      refine zT_st (pc' := 180) (L' := [some (.ref a0), some (.int a1), some (.int a2), some (.int a3), some (.int a4)]) (st' := []) (h' := h31) 1 (fun n => if_pos hc) ?_
      subst hw
      exact zT_ret 2 rfl
    · rw [if_neg hc] at hw
      refine zT_st (pc' := 176) (L' := [some (.ref a0), some (.int a1), some (.int a2), some (.int a3), some (.int a4)]) (st' := []) (h' := h31) 1 (fun n => if_neg hc) ?_
      subst hw
      exact zT_ret 3 rfl
  · rw [if_neg hc] at hw
    refine zT_st (pc' := 44) (L' := [some (.ref a0), some (.int a1), some (.int a2), some (.int a3), some (.int a4)]) (st' := []) (h' := h) 1 (fun n => if_neg hc) ?_
    refine zT_st (pc' := 48) (L' := [some (.ref a0), some (.int a1), some (.int a2), some (.int a3), some (.int a4)]) (st' := [.int a2, .int a4, .int a3]) (h' := h) 3 (fun n => rfl) ?_
    by_cases hc : a4 = a2
    · rw [if_pos hc] at hw
      refine zT_st (pc' := 86) (L' := [some (.ref a0), some (.int a1), some (.int a2), some (.int a3), some (.int a4)]) (st' := [.int a3]) (h' := h) 1 (fun n => if_pos hc) ?_
      exact zT_st 5 (fun n => rfl) hw
    · rw [if_neg hc] at hw
      refine zT_st (pc' := 51) (L' := [some (.ref a0), some (.int a1), some (.int a2), some (.int a3), some (.int a4)]) (st' := [.int a3]) (h' := h) 1 (fun n => if_neg hc) ?_
      refine zT_st (pc' := 55) (L' := [some (.ref a0), some (.int a1), some (.int a2), some (.int a3), some (.int a4)]) (st' := [.int a4, .int a1, .ref a0, .int a3]) (h' := h) 3 (fun n => rfl) ?_
      obtain ⟨hq, hw⟩ := hw
      obtain ⟨x32, h33, hx, hw⟩ := hw
      refine zT_call (pc' := 58) (rest := [.int a3]) 1 (fun n => rfl) hq hx ?_
      show zT E (d + 1) m_m_bursts 58 [some (.ref a0), some (.int a1), some (.int a2), some (.int a3), some (.int a4)] [.int x32, .int a3] h33 r
      by_cases hc : x32 = 0
      · rw [if_pos hc] at hw
        refine zT_st (pc' := 61) (L' := [some (.ref a0), some (.int a1), some (.int a2), some (.int a3), some (.int a4)]) (st' := [.int a3]) (h' := h33) 1 (fun n => if_pos hc) ?_
        refine zT_st (pc' := 65) (L' := [some (.ref a0), some (.int a1), some (.int a2), some (.int a3), some (.int a4)]) (st' := [.ref a0, .int a2, .int a1, .ref a0, .int a3]) (h' := h33) 4 (fun n => rfl) ?_
        obtain ⟨o34, e, hw⟩ := hw
        refine zT_st (pc' := 68) (L' := [some (.ref a0), some (.int a1), some (.int a2), some (.int a3), some (.int a4)]) (st' := [.ref o34, .int a2, .int a1, .ref a0, .int a3]) (h' := h33) 1 (fun n => fld_eq (E := E) e _) ?_
        refine zT_st (pc' := 75) (L' := [some (.ref a0), some (.int a1), some (.int a2), some (.int a3), some (.int a4)]) (st' := [.int ((a1 + 29) + a4), .ref o34, .int a2, .int a1, .ref a0, .int a3]) (h' := h33) 5 (fun n => rfl) ?_
        obtain ⟨n35, f36, e, hi, hw⟩ := hw
        refine zT_st (pc' := 76) (L' := [some (.ref a0), some (.int a1), some (.int a2), some (.int a3), some (.int a4)]) (st' := [.int (f36 (((a1 + 29) + a4)).toNatClampNeg), .int a2, .int a1, .ref a0, .int a3]) (h' := h33) 1 (fun n => arr_eq (E := E) e hi [.int a2, .int a1, .ref a0, .int a3] (fun st => zrun zP zCd E n (d + 1) m_m_bursts 76 [some (.ref a0), some (.int a1), some (.int a2), some (.int a3), some (.int a4)] st h33)) ?_
        obtain ⟨hq, hw⟩ := hw
        obtain ⟨x37, h38, hx, hw⟩ := hw
        refine zT_call (pc' := 79) (rest := [.int a3]) 1 (fun n => rfl) hq hx ?_
        show zT E (d + 1) m_m_bursts 79 [some (.ref a0), some (.int a1), some (.int a2), some (.int a3), some (.int a4)] [.int x37, .int a3] h38 r
        by_cases hc : x37 = 0
        · rw [if_pos hc] at hw
          refine zT_st (pc' := 86) (L' := [some (.ref a0), some (.int a1), some (.int a2), some (.int a3), some (.int a4)]) (st' := [.int a3]) (h' := h38) 1 (fun n => if_pos hc) ?_
          exact zT_st 5 (fun n => rfl) hw
        · rw [if_neg hc] at hw
          refine zT_st (pc' := 82) (L' := [some (.ref a0), some (.int a1), some (.int a2), some (.int a3), some (.int a4)]) (st' := [.int a3]) (h' := h38) 1 (fun n => if_neg hc) ?_
          exact zT_st 6 (fun n => rfl) hw
      · rw [if_neg hc] at hw
        refine zT_st (pc' := 86) (L' := [some (.ref a0), some (.int a1), some (.int a2), some (.int a3), some (.int a4)]) (st' := [.int a3]) (h' := h33) 1 (fun n => if_neg hc) ?_
        exact zT_st 5 (fun n => rfl) hw
set_option maxRecDepth 4000 in
theorem s_m_goOff_0 (E : zX) (d : Nat) (a0 : Nat) (a1 : Int32) (a2 : Int32) (h : zH) (r : zO × zH)
    (hw : isO h a0 12 = true ∧ ∃ (x1 : Int32) (h2 : zH), zT E d m_m_free 0 [some (.ref a0), some (.int a1)] [] h (.inl (some (.int x1)), h2) ∧
    isO h2 a0 12 = true ∧ ∃ (x3 : Int32) (h4 : zH), zT E d m_m_setOff 0 [some (.ref a0), some (.int a1), some (.int a2), some (.int x1), none, none, none, none] [] h2 (.inl (some (.int x3)), h4) ∧
    zT E (d + 1) m_m_goOff 15 [some (.ref a0), some (.int a1), some (.int a2), some (.int x3), some (.int 0), none, none] [] h4 r) :
    zT E (d + 1) m_m_goOff 0 [some (.ref a0), some (.int a1), some (.int a2), none, none, none, none] [] h r := by
  refine zT_st (pc' := 5) (L' := [some (.ref a0), some (.int a1), some (.int a2), none, none, none, none]) (st' := [.int a1, .ref a0, .int a2, .int a1, .ref a0]) (h' := h) 5 (fun n => rfl) ?_
  obtain ⟨hq, hw⟩ := hw
  obtain ⟨x1, h2, hx, hw⟩ := hw
  refine zT_call (pc' := 8) (rest := [.int a2, .int a1, .ref a0]) 1 (fun n => rfl) hq hx ?_
  show zT E (d + 1) m_m_goOff 8 [some (.ref a0), some (.int a1), some (.int a2), none, none, none, none] [.int x1, .int a2, .int a1, .ref a0] h2 r
  obtain ⟨hq, hw⟩ := hw
  obtain ⟨x3, h4, hx, hw⟩ := hw
  refine zT_call (pc' := 11) (rest := []) 1 (fun n => rfl) hq hx ?_
  show zT E (d + 1) m_m_goOff 11 [some (.ref a0), some (.int a1), some (.int a2), none, none, none, none] [.int x3] h4 r
  exact zT_st 3 (fun n => rfl) hw
set_option maxRecDepth 4000 in
theorem s_m_goOff_15 (E : zX) (d : Nat) (a0 : Nat) (a1 : Int32) (j2 : Option Value) (a3 : Int32) (a4 : Int32) (j5 : Option Value) (j6 : Option Value) (h : zH) (r : zO × zH)
    (hw : ∃ x1 : Int32, fld h a0 12 3 = some (.int x1) ∧
    if x1 ≤ a4 then (
      zT E (d + 1) m_m_goOff 156 [some (.ref a0), some (.int a1), j2, some (.int a3), some (.int 0), j5, j6] [] h r)
    else (
      zT E (d + 1) m_m_goOff 30 [some (.ref a0), some (.int a1), j2, some (.int a3), some (.int a4), some (.int 0), some (.int 0)] [] h r)) :
    zT E (d + 1) m_m_goOff 15 [some (.ref a0), some (.int a1), j2, some (.int a3), some (.int a4), j5, j6] [] h r := by
  refine zT_st (pc' := 18) (L' := [some (.ref a0), some (.int a1), j2, some (.int a3), some (.int a4), j5, j6]) (st' := [.ref a0, .int a4]) (h' := h) 2 (fun n => rfl) ?_
  obtain ⟨x1, e, hw⟩ := hw
  refine zT_st (pc' := 21) (L' := [some (.ref a0), some (.int a1), j2, some (.int a3), some (.int a4), j5, j6]) (st' := [.int x1, .int a4]) (h' := h) 1 (fun n => fld_eq (E := E) e _) ?_
  by_cases hc : x1 ≤ a4
  · rw [if_pos hc] at hw
    refine zT_st (pc' := 153) (L' := [some (.ref a0), some (.int a1), j2, some (.int a3), some (.int a4), j5, j6]) (st' := []) (h' := h) 1 (fun n => if_pos hc) ?_
    exact zT_st 2 (fun n => rfl) hw
  · rw [if_neg hc] at hw
    refine zT_st (pc' := 24) (L' := [some (.ref a0), some (.int a1), j2, some (.int a3), some (.int a4), j5, j6]) (st' := []) (h' := h) 1 (fun n => if_neg hc) ?_
    exact zT_st 4 (fun n => rfl) hw
set_option maxRecDepth 4000 in
theorem s_m_goOff_30 (E : zX) (d : Nat) (a0 : Nat) (a1 : Int32) (j2 : Option Value) (a3 : Int32) (a4 : Int32) (a5 : Int32) (a6 : Int32) (h : zH) (r : zO × zH)
    (hw : ∃ x1 : Int32, fld h a0 12 4 = some (.int x1) ∧
    if x1 ≤ a6 then (
      ∃ o2 : Nat, fld h a0 12 40 = some (.ref o2) ∧
      ∃ o3 : Nat, fld h a0 12 40 = some (.ref o3) ∧
      ∃ (n4 : Nat) (f5 : Nat → Int32), arr h o3 = some (n4, f5) ∧ ¬ (((a1 + 15) + a4) < 0 ∨ n4 ≤ (((a1 + 15) + a4)).toNatClampNeg) ∧
      ∃ (x6 : Int32) (h7 : zH), zT E d m_m_lesser 0 [some (.int 9999), some (.int ((f5 (((a1 + 15) + a4)).toNatClampNeg) + a5))] [] h (.inl (some (.int x6)), h7) ∧
      ∃ (n8 : Nat) (f9 : Nat → Int32), arr h7 o2 = some (n8, f9) ∧ ¬ (((a1 + 15) + a4) < 0 ∨ n8 ≤ (((a1 + 15) + a4)).toNatClampNeg) ∧
      ∃ o10 : Nat, fld (setA h7 o2 n8 (upd f9 (((a1 + 15) + a4)).toNatClampNeg x6)) a0 12 40 = some (.ref o10) ∧
      ∃ o11 : Nat, fld (setA h7 o2 n8 (upd f9 (((a1 + 15) + a4)).toNatClampNeg x6)) a0 12 40 = some (.ref o11) ∧
      ∃ (n12 : Nat) (f13 : Nat → Int32), arr (setA h7 o2 n8 (upd f9 (((a1 + 15) + a4)).toNatClampNeg x6)) o11 = some (n12, f13) ∧ ¬ (((a1 + 1) + a4) < 0 ∨ n12 ≤ (((a1 + 1) + a4)).toNatClampNeg) ∧
      ∃ (x14 : Int32) (h15 : zH), zT E d m_m_lesser 0 [some (.int 99), some (.int ((f13 (((a1 + 1) + a4)).toNatClampNeg) + (5 * a5)))] [] (setA h7 o2 n8 (upd f9 (((a1 + 15) + a4)).toNatClampNeg x6)) (.inl (some (.int x14)), h15) ∧
      ∃ (n16 : Nat) (f17 : Nat → Int32), arr h15 o10 = some (n16, f17) ∧ ¬ (((a1 + 1) + a4) < 0 ∨ n16 ≤ (((a1 + 1) + a4)).toNatClampNeg) ∧
      zT E (d + 1) m_m_goOff 15 [some (.ref a0), some (.int a1), j2, some (.int a3), some (.int (a4 + 1)), some (.int a5), some (.int a6)] [] (setA h15 o10 n16 (upd f17 (((a1 + 1) + a4)).toNatClampNeg x14)) r)
    else (
      if ((a3 >>> (a6 &&& 31)) &&& 1) = 1 then (
        ∃ o18 : Nat, fld h a0 12 7 = some (.ref o18) ∧
        ∃ (n19 : Nat) (f20 : Nat → Int32), arr h o18 = some (n19, f20) ∧ ¬ (a4 < 0 ∨ n19 ≤ (a4).toNatClampNeg) ∧
        isO h a0 12 = true ∧ ∃ (x21 : Int32) (h22 : zH), zT E d m_m_isIn 0 [some (.ref a0), some (.int a1), some (.int a6), some (.int (f20 (a4).toNatClampNeg))] [] h (.inl (some (.int x21)), h22) ∧
        if x21 = 0 then (
          zT E (d + 1) m_m_goOff 30 [some (.ref a0), some (.int a1), j2, some (.int a3), some (.int a4), some (.int (a5 + 0)), some (.int (a6 + 1))] [] h22 r)
        else (
          zT E (d + 1) m_m_goOff 30 [some (.ref a0), some (.int a1), j2, some (.int a3), some (.int a4), some (.int (a5 + 1)), some (.int (a6 + 1))] [] h22 r))
      else (
        zT E (d + 1) m_m_goOff 30 [some (.ref a0), some (.int a1), j2, some (.int a3), some (.int a4), some (.int (a5 + 0)), some (.int (a6 + 1))] [] h r))) :
    zT E (d + 1) m_m_goOff 30 [some (.ref a0), some (.int a1), j2, some (.int a3), some (.int a4), some (.int a5), some (.int a6)] [] h r := by
  refine zT_st (pc' := 33) (L' := [some (.ref a0), some (.int a1), j2, some (.int a3), some (.int a4), some (.int a5), some (.int a6)]) (st' := [.ref a0, .int a6]) (h' := h) 2 (fun n => rfl) ?_
  obtain ⟨x1, e, hw⟩ := hw
  refine zT_st (pc' := 36) (L' := [some (.ref a0), some (.int a1), j2, some (.int a3), some (.int a4), some (.int a5), some (.int a6)]) (st' := [.int x1, .int a6]) (h' := h) 1 (fun n => fld_eq (E := E) e _) ?_
  by_cases hc : x1 ≤ a6
  · rw [if_pos hc] at hw
    refine zT_st (pc' := 82) (L' := [some (.ref a0), some (.int a1), j2, some (.int a3), some (.int a4), some (.int a5), some (.int a6)]) (st' := []) (h' := h) 1 (fun n => if_pos hc) ?_
    refine zT_st (pc' := 83) (L' := [some (.ref a0), some (.int a1), j2, some (.int a3), some (.int a4), some (.int a5), some (.int a6)]) (st' := [.ref a0]) (h' := h) 1 (fun n => rfl) ?_
    obtain ⟨o2, e, hw⟩ := hw
    refine zT_st (pc' := 86) (L' := [some (.ref a0), some (.int a1), j2, some (.int a3), some (.int a4), some (.int a5), some (.int a6)]) (st' := [.ref o2]) (h' := h) 1 (fun n => fld_eq (E := E) e _) ?_
    refine zT_st (pc' := 97) (L' := [some (.ref a0), some (.int a1), j2, some (.int a3), some (.int a4), some (.int a5), some (.int a6)]) (st' := [.ref a0, .int 9999, .int ((a1 + 15) + a4), .ref o2]) (h' := h) 7 (fun n => rfl) ?_
    obtain ⟨o3, e, hw⟩ := hw
    refine zT_st (pc' := 100) (L' := [some (.ref a0), some (.int a1), j2, some (.int a3), some (.int a4), some (.int a5), some (.int a6)]) (st' := [.ref o3, .int 9999, .int ((a1 + 15) + a4), .ref o2]) (h' := h) 1 (fun n => fld_eq (E := E) e _) ?_
    refine zT_st (pc' := 107) (L' := [some (.ref a0), some (.int a1), j2, some (.int a3), some (.int a4), some (.int a5), some (.int a6)]) (st' := [.int ((a1 + 15) + a4), .ref o3, .int 9999, .int ((a1 + 15) + a4), .ref o2]) (h' := h) 5 (fun n => rfl) ?_
    obtain ⟨n4, f5, e, hi, hw⟩ := hw
    refine zT_st (pc' := 108) (L' := [some (.ref a0), some (.int a1), j2, some (.int a3), some (.int a4), some (.int a5), some (.int a6)]) (st' := [.int (f5 (((a1 + 15) + a4)).toNatClampNeg), .int 9999, .int ((a1 + 15) + a4), .ref o2]) (h' := h) 1 (fun n => arr_eq (E := E) e hi [.int 9999, .int ((a1 + 15) + a4), .ref o2] (fun st => zrun zP zCd E n (d + 1) m_m_goOff 108 [some (.ref a0), some (.int a1), j2, some (.int a3), some (.int a4), some (.int a5), some (.int a6)] st h)) ?_
    refine zT_st (pc' := 111) (L' := [some (.ref a0), some (.int a1), j2, some (.int a3), some (.int a4), some (.int a5), some (.int a6)]) (st' := [.int ((f5 (((a1 + 15) + a4)).toNatClampNeg) + a5), .int 9999, .int ((a1 + 15) + a4), .ref o2]) (h' := h) 2 (fun n => rfl) ?_
    obtain ⟨x6, h7, hx, hw⟩ := hw
    refine zT_call (pc' := 114) (rest := [.int ((a1 + 15) + a4), .ref o2]) 1 (fun n => rfl) rfl hx ?_
    show zT E (d + 1) m_m_goOff 114 [some (.ref a0), some (.int a1), j2, some (.int a3), some (.int a4), some (.int a5), some (.int a6)] [.int x6, .int ((a1 + 15) + a4), .ref o2] h7 r
    obtain ⟨n8, f9, e, hi, hw⟩ := hw
    refine zT_st (pc' := 115) (L' := [some (.ref a0), some (.int a1), j2, some (.int a3), some (.int a4), some (.int a5), some (.int a6)]) (st' := []) (h' := (setA h7 o2 n8 (upd f9 (((a1 + 15) + a4)).toNatClampNeg x6))) 1 (fun n => set_eq e hi _ _) ?_
    refine zT_st (pc' := 116) (L' := [some (.ref a0), some (.int a1), j2, some (.int a3), some (.int a4), some (.int a5), some (.int a6)]) (st' := [.ref a0]) (h' := (setA h7 o2 n8 (upd f9 (((a1 + 15) + a4)).toNatClampNeg x6))) 1 (fun n => rfl) ?_
    obtain ⟨o10, e, hw⟩ := hw
    refine zT_st (pc' := 119) (L' := [some (.ref a0), some (.int a1), j2, some (.int a3), some (.int a4), some (.int a5), some (.int a6)]) (st' := [.ref o10]) (h' := (setA h7 o2 n8 (upd f9 (((a1 + 15) + a4)).toNatClampNeg x6))) 1 (fun n => fld_eq (E := E) e _) ?_
    refine zT_st (pc' := 128) (L' := [some (.ref a0), some (.int a1), j2, some (.int a3), some (.int a4), some (.int a5), some (.int a6)]) (st' := [.ref a0, .int 99, .int ((a1 + 1) + a4), .ref o10]) (h' := (setA h7 o2 n8 (upd f9 (((a1 + 15) + a4)).toNatClampNeg x6))) 7 (fun n => rfl) ?_
    obtain ⟨o11, e, hw⟩ := hw
    refine zT_st (pc' := 131) (L' := [some (.ref a0), some (.int a1), j2, some (.int a3), some (.int a4), some (.int a5), some (.int a6)]) (st' := [.ref o11, .int 99, .int ((a1 + 1) + a4), .ref o10]) (h' := (setA h7 o2 n8 (upd f9 (((a1 + 15) + a4)).toNatClampNeg x6))) 1 (fun n => fld_eq (E := E) e _) ?_
    refine zT_st (pc' := 137) (L' := [some (.ref a0), some (.int a1), j2, some (.int a3), some (.int a4), some (.int a5), some (.int a6)]) (st' := [.int ((a1 + 1) + a4), .ref o11, .int 99, .int ((a1 + 1) + a4), .ref o10]) (h' := (setA h7 o2 n8 (upd f9 (((a1 + 15) + a4)).toNatClampNeg x6))) 5 (fun n => rfl) ?_
    obtain ⟨n12, f13, e, hi, hw⟩ := hw
    refine zT_st (pc' := 138) (L' := [some (.ref a0), some (.int a1), j2, some (.int a3), some (.int a4), some (.int a5), some (.int a6)]) (st' := [.int (f13 (((a1 + 1) + a4)).toNatClampNeg), .int 99, .int ((a1 + 1) + a4), .ref o10]) (h' := (setA h7 o2 n8 (upd f9 (((a1 + 15) + a4)).toNatClampNeg x6))) 1 (fun n => arr_eq (E := E) e hi [.int 99, .int ((a1 + 1) + a4), .ref o10] (fun st => zrun zP zCd E n (d + 1) m_m_goOff 138 [some (.ref a0), some (.int a1), j2, some (.int a3), some (.int a4), some (.int a5), some (.int a6)] st (setA h7 o2 n8 (upd f9 (((a1 + 15) + a4)).toNatClampNeg x6)))) ?_
    refine zT_st (pc' := 143) (L' := [some (.ref a0), some (.int a1), j2, some (.int a3), some (.int a4), some (.int a5), some (.int a6)]) (st' := [.int ((f13 (((a1 + 1) + a4)).toNatClampNeg) + (5 * a5)), .int 99, .int ((a1 + 1) + a4), .ref o10]) (h' := (setA h7 o2 n8 (upd f9 (((a1 + 15) + a4)).toNatClampNeg x6))) 4 (fun n => rfl) ?_
    obtain ⟨x14, h15, hx, hw⟩ := hw
    refine zT_call (pc' := 146) (rest := [.int ((a1 + 1) + a4), .ref o10]) 1 (fun n => rfl) rfl hx ?_
    show zT E (d + 1) m_m_goOff 146 [some (.ref a0), some (.int a1), j2, some (.int a3), some (.int a4), some (.int a5), some (.int a6)] [.int x14, .int ((a1 + 1) + a4), .ref o10] h15 r
    obtain ⟨n16, f17, e, hi, hw⟩ := hw
    refine zT_st (pc' := 147) (L' := [some (.ref a0), some (.int a1), j2, some (.int a3), some (.int a4), some (.int a5), some (.int a6)]) (st' := []) (h' := (setA h15 o10 n16 (upd f17 (((a1 + 1) + a4)).toNatClampNeg x14))) 1 (fun n => set_eq e hi _ _) ?_
    exact zT_st 2 (fun n => rfl) hw
  · rw [if_neg hc] at hw
    refine zT_st (pc' := 39) (L' := [some (.ref a0), some (.int a1), j2, some (.int a3), some (.int a4), some (.int a5), some (.int a6)]) (st' := []) (h' := h) 1 (fun n => if_neg hc) ?_
    refine zT_st (pc' := 48) (L' := [some (.ref a0), some (.int a1), j2, some (.int a3), some (.int a4), some (.int a5), some (.int a6)]) (st' := [.int 1, .int ((a3 >>> (a6 &&& 31)) &&& 1), .int a5]) (h' := h) 7 (fun n => rfl) ?_
    by_cases hc : ((a3 >>> (a6 &&& 31)) &&& 1) = 1
    · rw [if_pos hc] at hw
      refine zT_st (pc' := 51) (L' := [some (.ref a0), some (.int a1), j2, some (.int a3), some (.int a4), some (.int a5), some (.int a6)]) (st' := [.int a5]) (h' := h) 1 (fun n => if_pos hc) ?_
      refine zT_st (pc' := 56) (L' := [some (.ref a0), some (.int a1), j2, some (.int a3), some (.int a4), some (.int a5), some (.int a6)]) (st' := [.ref a0, .int a6, .int a1, .ref a0, .int a5]) (h' := h) 4 (fun n => rfl) ?_
      obtain ⟨o18, e, hw⟩ := hw
      refine zT_st (pc' := 59) (L' := [some (.ref a0), some (.int a1), j2, some (.int a3), some (.int a4), some (.int a5), some (.int a6)]) (st' := [.ref o18, .int a6, .int a1, .ref a0, .int a5]) (h' := h) 1 (fun n => fld_eq (E := E) e _) ?_
      refine zT_st (pc' := 61) (L' := [some (.ref a0), some (.int a1), j2, some (.int a3), some (.int a4), some (.int a5), some (.int a6)]) (st' := [.int a4, .ref o18, .int a6, .int a1, .ref a0, .int a5]) (h' := h) 1 (fun n => rfl) ?_
      obtain ⟨n19, f20, e, hi, hw⟩ := hw
      refine zT_st (pc' := 62) (L' := [some (.ref a0), some (.int a1), j2, some (.int a3), some (.int a4), some (.int a5), some (.int a6)]) (st' := [.int (f20 (a4).toNatClampNeg), .int a6, .int a1, .ref a0, .int a5]) (h' := h) 1 (fun n => arr_eq (E := E) e hi [.int a6, .int a1, .ref a0, .int a5] (fun st => zrun zP zCd E n (d + 1) m_m_goOff 62 [some (.ref a0), some (.int a1), j2, some (.int a3), some (.int a4), some (.int a5), some (.int a6)] st h)) ?_
      obtain ⟨hq, hw⟩ := hw
      obtain ⟨x21, h22, hx, hw⟩ := hw
      refine zT_call (pc' := 65) (rest := [.int a5]) 1 (fun n => rfl) hq hx ?_
      show zT E (d + 1) m_m_goOff 65 [some (.ref a0), some (.int a1), j2, some (.int a3), some (.int a4), some (.int a5), some (.int a6)] [.int x21, .int a5] h22 r
      by_cases hc : x21 = 0
      · rw [if_pos hc] at hw
        refine zT_st (pc' := 72) (L' := [some (.ref a0), some (.int a1), j2, some (.int a3), some (.int a4), some (.int a5), some (.int a6)]) (st' := [.int a5]) (h' := h22) 1 (fun n => if_pos hc) ?_
        exact zT_st 5 (fun n => rfl) hw
      · rw [if_neg hc] at hw
        refine zT_st (pc' := 68) (L' := [some (.ref a0), some (.int a1), j2, some (.int a3), some (.int a4), some (.int a5), some (.int a6)]) (st' := [.int a5]) (h' := h22) 1 (fun n => if_neg hc) ?_
        exact zT_st 6 (fun n => rfl) hw
    · rw [if_neg hc] at hw
      refine zT_st (pc' := 72) (L' := [some (.ref a0), some (.int a1), j2, some (.int a3), some (.int a4), some (.int a5), some (.int a6)]) (st' := [.int a5]) (h' := h) 1 (fun n => if_neg hc) ?_
      exact zT_st 5 (fun n => rfl) hw
set_option maxRecDepth 4000 in
theorem s_m_goOff_156 (E : zX) (d : Nat) (a0 : Nat) (a1 : Int32) (j2 : Option Value) (a3 : Int32) (a4 : Int32) (j5 : Option Value) (j6 : Option Value) (h : zH) (r : zO × zH)
    (hw : ∃ x1 : Int32, fld h a0 12 4 = some (.int x1) ∧
    if x1 ≤ a4 then (
      ∃ x2 : Int32, fld h a0 12 45 = some (.int x2) ∧
      (∃ w, fld h a0 12 45 = some w) ∧
      ∃ x3 : Int32, fld (setF h a0 45 (.int (x2 ||| a3))) a0 12 46 = some (.int x3) ∧
      ∃ (x4 : Int32) (h5 : zH), zT E d m_m_bits 0 [some (.int a3), none, none] [] (setF h a0 45 (.int (x2 ||| a3))) (.inl (some (.int x4)), h5) ∧
      (∃ w, fld h5 a0 12 46 = some w) ∧
      ∃ (x6 : Int32) (h7 : zH), zT E d m_m_bits 0 [some (.int a3), none, none] [] (setF h5 a0 46 (.int (x3 + x4))) (.inl (some (.int x6)), h7) ∧
      r = (.inl (some (.int x6)), h7))
    else (
      if ((a3 >>> (a4 &&& 31)) &&& 1) = 0 then (
        zT E (d + 1) m_m_goOff 156 [some (.ref a0), some (.int a1), j2, some (.int a3), some (.int (a4 + 1)), j5, j6] [] h r)
      else (
        ∃ o8 : Nat, fld h a0 12 40 = some (.ref o8) ∧
        ∃ (n9 : Nat) (f10 : Nat → Int32), arr h o8 = some (n9, f10) ∧ ¬ (((a1 + 39) + a4) < 0 ∨ n9 ≤ (((a1 + 39) + a4)).toNatClampNeg) ∧
        ∃ o11 : Nat, fld (setA h o8 n9 (upd f10 (((a1 + 39) + a4)).toNatClampNeg 0)) a0 12 40 = some (.ref o11) ∧
        ∃ (n12 : Nat) (f13 : Nat → Int32), arr (setA h o8 n9 (upd f10 (((a1 + 39) + a4)).toNatClampNeg 0)) o11 = some (n12, f13) ∧ ¬ (((a1 + 49) + a4) < 0 ∨ n12 ≤ (((a1 + 49) + a4)).toNatClampNeg) ∧
        ∃ o14 : Nat, fld (setA (setA h o8 n9 (upd f10 (((a1 + 39) + a4)).toNatClampNeg 0)) o11 n12 (upd f13 (((a1 + 49) + a4)).toNatClampNeg 0)) a0 12 40 = some (.ref o14) ∧
        ∃ (n15 : Nat) (f16 : Nat → Int32), arr (setA (setA h o8 n9 (upd f10 (((a1 + 39) + a4)).toNatClampNeg 0)) o11 n12 (upd f13 (((a1 + 49) + a4)).toNatClampNeg 0)) o14 = some (n15, f16) ∧ ¬ (((a1 + 59) + a4) < 0 ∨ n15 ≤ (((a1 + 59) + a4)).toNatClampNeg) ∧
        zT E (d + 1) m_m_goOff 156 [some (.ref a0), some (.int a1), j2, some (.int a3), some (.int (a4 + 1)), j5, j6] [] (setA (setA (setA h o8 n9 (upd f10 (((a1 + 39) + a4)).toNatClampNeg 0)) o11 n12 (upd f13 (((a1 + 49) + a4)).toNatClampNeg 0)) o14 n15 (upd f16 (((a1 + 59) + a4)).toNatClampNeg (-1))) r))) :
    zT E (d + 1) m_m_goOff 156 [some (.ref a0), some (.int a1), j2, some (.int a3), some (.int a4), j5, j6] [] h r := by
  refine zT_st (pc' := 159) (L' := [some (.ref a0), some (.int a1), j2, some (.int a3), some (.int a4), j5, j6]) (st' := [.ref a0, .int a4]) (h' := h) 2 (fun n => rfl) ?_
  obtain ⟨x1, e, hw⟩ := hw
  refine zT_st (pc' := 162) (L' := [some (.ref a0), some (.int a1), j2, some (.int a3), some (.int a4), j5, j6]) (st' := [.int x1, .int a4]) (h' := h) 1 (fun n => fld_eq (E := E) e _) ?_
  by_cases hc : x1 ≤ a4
  · rw [if_pos hc] at hw
    refine zT_st (pc' := 222) (L' := [some (.ref a0), some (.int a1), j2, some (.int a3), some (.int a4), j5, j6]) (st' := []) (h' := h) 1 (fun n => if_pos hc) ?_
    refine zT_st (pc' := 224) (L' := [some (.ref a0), some (.int a1), j2, some (.int a3), some (.int a4), j5, j6]) (st' := [.ref a0, .ref a0]) (h' := h) 2 (fun n => rfl) ?_
    obtain ⟨x2, e, hw⟩ := hw
    refine zT_st (pc' := 227) (L' := [some (.ref a0), some (.int a1), j2, some (.int a3), some (.int a4), j5, j6]) (st' := [.int x2, .ref a0]) (h' := h) 1 (fun n => fld_eq (E := E) e _) ?_
    refine zT_st (pc' := 229) (L' := [some (.ref a0), some (.int a1), j2, some (.int a3), some (.int a4), j5, j6]) (st' := [.int (x2 ||| a3), .ref a0]) (h' := h) 2 (fun n => rfl) ?_
    obtain ⟨⟨w, e⟩, hw⟩ := hw
    refine zT_st (pc' := 232) (L' := [some (.ref a0), some (.int a1), j2, some (.int a3), some (.int a4), j5, j6]) (st' := []) (h' := (setF h a0 45 (.int (x2 ||| a3)))) 1 (fun n => put_eq e rfl _ _) ?_
    refine zT_st (pc' := 234) (L' := [some (.ref a0), some (.int a1), j2, some (.int a3), some (.int a4), j5, j6]) (st' := [.ref a0, .ref a0]) (h' := (setF h a0 45 (.int (x2 ||| a3)))) 2 (fun n => rfl) ?_
    obtain ⟨x3, e, hw⟩ := hw
    refine zT_st (pc' := 237) (L' := [some (.ref a0), some (.int a1), j2, some (.int a3), some (.int a4), j5, j6]) (st' := [.int x3, .ref a0]) (h' := (setF h a0 45 (.int (x2 ||| a3)))) 1 (fun n => fld_eq (E := E) e _) ?_
    refine zT_st (pc' := 238) (L' := [some (.ref a0), some (.int a1), j2, some (.int a3), some (.int a4), j5, j6]) (st' := [.int a3, .int x3, .ref a0]) (h' := (setF h a0 45 (.int (x2 ||| a3)))) 1 (fun n => rfl) ?_
    obtain ⟨x4, h5, hx, hw⟩ := hw
    refine zT_call (pc' := 241) (rest := [.int x3, .ref a0]) 1 (fun n => rfl) rfl hx ?_
    show zT E (d + 1) m_m_goOff 241 [some (.ref a0), some (.int a1), j2, some (.int a3), some (.int a4), j5, j6] [.int x4, .int x3, .ref a0] h5 r
    refine zT_st (pc' := 242) (L' := [some (.ref a0), some (.int a1), j2, some (.int a3), some (.int a4), j5, j6]) (st' := [.int (x3 + x4), .ref a0]) (h' := h5) 1 (fun n => rfl) ?_
    obtain ⟨⟨w, e⟩, hw⟩ := hw
    refine zT_st (pc' := 245) (L' := [some (.ref a0), some (.int a1), j2, some (.int a3), some (.int a4), j5, j6]) (st' := []) (h' := (setF h5 a0 46 (.int (x3 + x4)))) 1 (fun n => put_eq e rfl _ _) ?_
    refine zT_st (pc' := 246) (L' := [some (.ref a0), some (.int a1), j2, some (.int a3), some (.int a4), j5, j6]) (st' := [.int a3]) (h' := (setF h5 a0 46 (.int (x3 + x4)))) 1 (fun n => rfl) ?_
    obtain ⟨x6, h7, hx, hw⟩ := hw
    refine zT_call (pc' := 249) (rest := []) 1 (fun n => rfl) rfl hx ?_
    show zT E (d + 1) m_m_goOff 249 [some (.ref a0), some (.int a1), j2, some (.int a3), some (.int a4), j5, j6] [.int x6] h7 r
    subst hw
    exact zT_ret 1 rfl
  · rw [if_neg hc] at hw
    refine zT_st (pc' := 165) (L' := [some (.ref a0), some (.int a1), j2, some (.int a3), some (.int a4), j5, j6]) (st' := []) (h' := h) 1 (fun n => if_neg hc) ?_
    refine zT_st (pc' := 171) (L' := [some (.ref a0), some (.int a1), j2, some (.int a3), some (.int a4), j5, j6]) (st' := [.int ((a3 >>> (a4 &&& 31)) &&& 1)]) (h' := h) 5 (fun n => rfl) ?_
    by_cases hc : ((a3 >>> (a4 &&& 31)) &&& 1) = 0
    · rw [if_pos hc] at hw
      refine zT_st (pc' := 174) (L' := [some (.ref a0), some (.int a1), j2, some (.int a3), some (.int a4), j5, j6]) (st' := []) (h' := h) 1 (fun n => if_pos hc) ?_
      exact zT_st 3 (fun n => rfl) hw
    · rw [if_neg hc] at hw
      refine zT_st (pc' := 177) (L' := [some (.ref a0), some (.int a1), j2, some (.int a3), some (.int a4), j5, j6]) (st' := []) (h' := h) 1 (fun n => if_neg hc) ?_
      refine zT_st (pc' := 178) (L' := [some (.ref a0), some (.int a1), j2, some (.int a3), some (.int a4), j5, j6]) (st' := [.ref a0]) (h' := h) 1 (fun n => rfl) ?_
      obtain ⟨o8, e, hw⟩ := hw
      refine zT_st (pc' := 181) (L' := [some (.ref a0), some (.int a1), j2, some (.int a3), some (.int a4), j5, j6]) (st' := [.ref o8]) (h' := h) 1 (fun n => fld_eq (E := E) e _) ?_
      refine zT_st (pc' := 189) (L' := [some (.ref a0), some (.int a1), j2, some (.int a3), some (.int a4), j5, j6]) (st' := [.int 0, .int ((a1 + 39) + a4), .ref o8]) (h' := h) 6 (fun n => rfl) ?_
      obtain ⟨n9, f10, e, hi, hw⟩ := hw
      refine zT_st (pc' := 190) (L' := [some (.ref a0), some (.int a1), j2, some (.int a3), some (.int a4), j5, j6]) (st' := []) (h' := (setA h o8 n9 (upd f10 (((a1 + 39) + a4)).toNatClampNeg 0))) 1 (fun n => set_eq e hi _ _) ?_
      refine zT_st (pc' := 191) (L' := [some (.ref a0), some (.int a1), j2, some (.int a3), some (.int a4), j5, j6]) (st' := [.ref a0]) (h' := (setA h o8 n9 (upd f10 (((a1 + 39) + a4)).toNatClampNeg 0))) 1 (fun n => rfl) ?_
      obtain ⟨o11, e, hw⟩ := hw
      refine zT_st (pc' := 194) (L' := [some (.ref a0), some (.int a1), j2, some (.int a3), some (.int a4), j5, j6]) (st' := [.ref o11]) (h' := (setA h o8 n9 (upd f10 (((a1 + 39) + a4)).toNatClampNeg 0))) 1 (fun n => fld_eq (E := E) e _) ?_
      refine zT_st (pc' := 202) (L' := [some (.ref a0), some (.int a1), j2, some (.int a3), some (.int a4), j5, j6]) (st' := [.int 0, .int ((a1 + 49) + a4), .ref o11]) (h' := (setA h o8 n9 (upd f10 (((a1 + 39) + a4)).toNatClampNeg 0))) 6 (fun n => rfl) ?_
      obtain ⟨n12, f13, e, hi, hw⟩ := hw
      refine zT_st (pc' := 203) (L' := [some (.ref a0), some (.int a1), j2, some (.int a3), some (.int a4), j5, j6]) (st' := []) (h' := (setA (setA h o8 n9 (upd f10 (((a1 + 39) + a4)).toNatClampNeg 0)) o11 n12 (upd f13 (((a1 + 49) + a4)).toNatClampNeg 0))) 1 (fun n => set_eq e hi _ _) ?_
      refine zT_st (pc' := 204) (L' := [some (.ref a0), some (.int a1), j2, some (.int a3), some (.int a4), j5, j6]) (st' := [.ref a0]) (h' := (setA (setA h o8 n9 (upd f10 (((a1 + 39) + a4)).toNatClampNeg 0)) o11 n12 (upd f13 (((a1 + 49) + a4)).toNatClampNeg 0))) 1 (fun n => rfl) ?_
      obtain ⟨o14, e, hw⟩ := hw
      refine zT_st (pc' := 207) (L' := [some (.ref a0), some (.int a1), j2, some (.int a3), some (.int a4), j5, j6]) (st' := [.ref o14]) (h' := (setA (setA h o8 n9 (upd f10 (((a1 + 39) + a4)).toNatClampNeg 0)) o11 n12 (upd f13 (((a1 + 49) + a4)).toNatClampNeg 0))) 1 (fun n => fld_eq (E := E) e _) ?_
      refine zT_st (pc' := 215) (L' := [some (.ref a0), some (.int a1), j2, some (.int a3), some (.int a4), j5, j6]) (st' := [.int (-1), .int ((a1 + 59) + a4), .ref o14]) (h' := (setA (setA h o8 n9 (upd f10 (((a1 + 39) + a4)).toNatClampNeg 0)) o11 n12 (upd f13 (((a1 + 49) + a4)).toNatClampNeg 0))) 6 (fun n => rfl) ?_
      obtain ⟨n15, f16, e, hi, hw⟩ := hw
      refine zT_st (pc' := 216) (L' := [some (.ref a0), some (.int a1), j2, some (.int a3), some (.int a4), j5, j6]) (st' := []) (h' := (setA (setA (setA h o8 n9 (upd f10 (((a1 + 39) + a4)).toNatClampNeg 0)) o11 n12 (upd f13 (((a1 + 49) + a4)).toNatClampNeg 0)) o14 n15 (upd f16 (((a1 + 59) + a4)).toNatClampNeg (-1)))) 1 (fun n => set_eq e hi _ _) ?_
      exact zT_st 2 (fun n => rfl) hw
set_option maxRecDepth 4000 in
theorem s_m_carry_0 (E : zX) (d : Nat) (a0 : Nat) (a1 : Int32) (a2 : Int32) (h : zH) (r : zO × zH)
    (hw : (∃ w, fld h a0 12 0 = some w) ∧
    isO (setF h a0 0 (.int 0)) a0 12 = true ∧ ∃ (x1 : Int32) (h2 : zH), zT E d m_m_isBall 0 [some (.ref a0), some (.int a1)] [] (setF h a0 0 (.int 0)) (.inl (some (.int x1)), h2) ∧
    if x1 = 0 then (
      r = (.inl (some (.int 0)), h2))
    else (
      isO h2 a0 12 = true ∧ ∃ (x3 : Int32) (h4 : zH), zT E d m_m_isCell 0 [some (.ref a0), some (.int a2)] [] h2 (.inl (some (.int x3)), h4) ∧
      if x3 = 0 then (
        r = (.inl (some (.int 0)), h4))
      else (
        ∃ o5 : Nat, fld h4 a0 12 40 = some (.ref o5) ∧
        ∃ (n6 : Nat) (f7 : Nat → Int32), arr h4 o5 = some (n6, f7) ∧ ¬ ((29 + a1) < 0 ∨ n6 ≤ ((29 + a1)).toNatClampNeg) ∧
        if (f7 ((29 + a1)).toNatClampNeg) = a2 then (
          isO h4 a0 12 = true ∧ ∃ (x8 : Int32) (h9 : zH), zT E d m_m_refuses 0 [some (.ref a0), some (.int 1)] [] h4 (.inl (some (.int x8)), h9) ∧
          r = (.inl (some (.int x8)), h9))
        else (
          isO h4 a0 12 = true ∧ ∃ (h11 : zH), zT E d m_m_keeps 0 [some (.ref a0), none] [] h4 (.inl none, h11) ∧
          ∃ o12 : Nat, fld h11 a0 12 40 = some (.ref o12) ∧
          ∃ (n13 : Nat) (f14 : Nat → Int32), arr h11 o12 = some (n13, f14) ∧ ¬ ((29 + a1) < 0 ∨ n13 ≤ ((29 + a1)).toNatClampNeg) ∧
          r = (.inl (some (.int (f7 ((29 + a1)).toNatClampNeg))), (setA h11 o12 n13 (upd f14 ((29 + a1)).toNatClampNeg a2))))))) :
    zT E (d + 1) m_m_carry 0 [some (.ref a0), some (.int a1), some (.int a2), none] [] h r := by
  refine zT_st (pc' := 2) (L' := [some (.ref a0), some (.int a1), some (.int a2), none]) (st' := [.int 0, .ref a0]) (h' := h) 2 (fun n => rfl) ?_
  obtain ⟨⟨w, e⟩, hw⟩ := hw
  refine zT_st (pc' := 5) (L' := [some (.ref a0), some (.int a1), some (.int a2), none]) (st' := []) (h' := (setF h a0 0 (.int 0))) 1 (fun n => put_eq e rfl _ _) ?_
  refine zT_st (pc' := 7) (L' := [some (.ref a0), some (.int a1), some (.int a2), none]) (st' := [.int a1, .ref a0]) (h' := (setF h a0 0 (.int 0))) 2 (fun n => rfl) ?_
  obtain ⟨hq, hw⟩ := hw
  obtain ⟨x1, h2, hx, hw⟩ := hw
  refine zT_call (pc' := 10) (rest := []) 1 (fun n => rfl) hq hx ?_
  show zT E (d + 1) m_m_carry 10 [some (.ref a0), some (.int a1), some (.int a2), none] [.int x1] h2 r
  by_cases hc : x1 = 0
  · rw [if_pos hc] at hw
    refine zT_st (pc' := 21) (L' := [some (.ref a0), some (.int a1), some (.int a2), none]) (st' := []) (h' := h2) 1 (fun n => if_pos hc) ?_
    subst hw
    exact zT_ret 2 rfl
  · rw [if_neg hc] at hw
    refine zT_st (pc' := 13) (L' := [some (.ref a0), some (.int a1), some (.int a2), none]) (st' := []) (h' := h2) 1 (fun n => if_neg hc) ?_
    refine zT_st (pc' := 15) (L' := [some (.ref a0), some (.int a1), some (.int a2), none]) (st' := [.int a2, .ref a0]) (h' := h2) 2 (fun n => rfl) ?_
    obtain ⟨hq, hw⟩ := hw
    obtain ⟨x3, h4, hx, hw⟩ := hw
    refine zT_call (pc' := 18) (rest := []) 1 (fun n => rfl) hq hx ?_
    show zT E (d + 1) m_m_carry 18 [some (.ref a0), some (.int a1), some (.int a2), none] [.int x3] h4 r
    by_cases hc : x3 = 0
    · rw [if_pos hc] at hw
      refine zT_st (pc' := 21) (L' := [some (.ref a0), some (.int a1), some (.int a2), none]) (st' := []) (h' := h4) 1 (fun n => if_pos hc) ?_
      subst hw
      exact zT_ret 2 rfl
    · rw [if_neg hc] at hw
      refine zT_st (pc' := 23) (L' := [some (.ref a0), some (.int a1), some (.int a2), none]) (st' := []) (h' := h4) 1 (fun n => if_neg hc) ?_
      refine zT_st (pc' := 24) (L' := [some (.ref a0), some (.int a1), some (.int a2), none]) (st' := [.ref a0]) (h' := h4) 1 (fun n => rfl) ?_
      obtain ⟨o5, e, hw⟩ := hw
      refine zT_st (pc' := 27) (L' := [some (.ref a0), some (.int a1), some (.int a2), none]) (st' := [.ref o5]) (h' := h4) 1 (fun n => fld_eq (E := E) e _) ?_
      refine zT_st (pc' := 31) (L' := [some (.ref a0), some (.int a1), some (.int a2), none]) (st' := [.int (29 + a1), .ref o5]) (h' := h4) 3 (fun n => rfl) ?_
      obtain ⟨n6, f7, e, hi, hw⟩ := hw
      refine zT_st (pc' := 32) (L' := [some (.ref a0), some (.int a1), some (.int a2), none]) (st' := [.int (f7 ((29 + a1)).toNatClampNeg)]) (h' := h4) 1 (fun n => arr_eq (E := E) e hi [] (fun st => zrun zP zCd E n (d + 1) m_m_carry 32 [some (.ref a0), some (.int a1), some (.int a2), none] st h4)) ?_
      refine zT_st (pc' := 35) (L' := [some (.ref a0), some (.int a1), some (.int a2), some (.int (f7 ((29 + a1)).toNatClampNeg))]) (st' := [.int a2, .int (f7 ((29 + a1)).toNatClampNeg)]) (h' := h4) 3 (fun n => rfl) ?_
      by_cases hc : (f7 ((29 + a1)).toNatClampNeg) = a2
      · rw [if_pos hc] at hw
        refine zT_st (pc' := 38) (L' := [some (.ref a0), some (.int a1), some (.int a2), some (.int (f7 ((29 + a1)).toNatClampNeg))]) (st' := []) (h' := h4) 1 (fun n => if_pos hc) ?_
        refine zT_st (pc' := 40) (L' := [some (.ref a0), some (.int a1), some (.int a2), some (.int (f7 ((29 + a1)).toNatClampNeg))]) (st' := [.int 1, .ref a0]) (h' := h4) 2 (fun n => rfl) ?_
        obtain ⟨hq, hw⟩ := hw
        obtain ⟨x8, h9, hx, hw⟩ := hw
        refine zT_call (pc' := 43) (rest := []) 1 (fun n => rfl) hq hx ?_
        show zT E (d + 1) m_m_carry 43 [some (.ref a0), some (.int a1), some (.int a2), some (.int (f7 ((29 + a1)).toNatClampNeg))] [.int x8] h9 r
        subst hw
        exact zT_ret 1 rfl
      · rw [if_neg hc] at hw
        refine zT_st (pc' := 44) (L' := [some (.ref a0), some (.int a1), some (.int a2), some (.int (f7 ((29 + a1)).toNatClampNeg))]) (st' := []) (h' := h4) 1 (fun n => if_neg hc) ?_
        refine zT_st (pc' := 45) (L' := [some (.ref a0), some (.int a1), some (.int a2), some (.int (f7 ((29 + a1)).toNatClampNeg))]) (st' := [.ref a0]) (h' := h4) 1 (fun n => rfl) ?_
        obtain ⟨hq, hw⟩ := hw
        obtain ⟨h11, hx, hw⟩ := hw
        refine zT_call (pc' := 48) (rest := []) 1 (fun n => rfl) hq hx ?_
        show zT E (d + 1) m_m_carry 48 [some (.ref a0), some (.int a1), some (.int a2), some (.int (f7 ((29 + a1)).toNatClampNeg))] [] h11 r
        refine zT_st (pc' := 49) (L' := [some (.ref a0), some (.int a1), some (.int a2), some (.int (f7 ((29 + a1)).toNatClampNeg))]) (st' := [.ref a0]) (h' := h11) 1 (fun n => rfl) ?_
        obtain ⟨o12, e, hw⟩ := hw
        refine zT_st (pc' := 52) (L' := [some (.ref a0), some (.int a1), some (.int a2), some (.int (f7 ((29 + a1)).toNatClampNeg))]) (st' := [.ref o12]) (h' := h11) 1 (fun n => fld_eq (E := E) e _) ?_
        refine zT_st (pc' := 57) (L' := [some (.ref a0), some (.int a1), some (.int a2), some (.int (f7 ((29 + a1)).toNatClampNeg))]) (st' := [.int a2, .int (29 + a1), .ref o12]) (h' := h11) 4 (fun n => rfl) ?_
        obtain ⟨n13, f14, e, hi, hw⟩ := hw
        refine zT_st (pc' := 58) (L' := [some (.ref a0), some (.int a1), some (.int a2), some (.int (f7 ((29 + a1)).toNatClampNeg))]) (st' := []) (h' := (setA h11 o12 n13 (upd f14 ((29 + a1)).toNatClampNeg a2))) 1 (fun n => set_eq e hi _ _) ?_
        subst hw
        exact zT_ret 2 rfl
set_option maxRecDepth 4000 in
theorem s_m_isCell_0 (E : zX) (d : Nat) (a0 : Nat) (a1 : Int32) (h : zH) (r : zO × zH)
    (hw : if a1 < 0 then (
      isO h a0 12 = true ∧ ∃ (x1 : Int32) (h2 : zH), zT E d m_m_right 0 [some (.ref a0), some (.int 0), some (.int 1)] [] h (.inl (some (.int x1)), h2) ∧
      zfr (some .boolean) x1 = true ∧ r = (.inl (some (.int x1)), h2))
    else (
      ∃ x3 : Int32, fld h a0 12 1 = some (.int x3) ∧
      ∃ x4 : Int32, fld h a0 12 2 = some (.int x4) ∧
      if (x3 * x4) ≤ a1 then (
        isO h a0 12 = true ∧ ∃ (x5 : Int32) (h6 : zH), zT E d m_m_right 0 [some (.ref a0), some (.int 0), some (.int 1)] [] h (.inl (some (.int x5)), h6) ∧
        zfr (some .boolean) x5 = true ∧ r = (.inl (some (.int x5)), h6))
      else (
        isO h a0 12 = true ∧ ∃ (x7 : Int32) (h8 : zH), zT E d m_m_right 0 [some (.ref a0), some (.int 1), some (.int 1)] [] h (.inl (some (.int x7)), h8) ∧
        zfr (some .boolean) x7 = true ∧ r = (.inl (some (.int x7)), h8)))) :
    zT E (d + 1) m_m_isCell 0 [some (.ref a0), some (.int a1)] [] h r := by
  refine zT_st (pc' := 2) (L' := [some (.ref a0), some (.int a1)]) (st' := [.int a1, .ref a0]) (h' := h) 2 (fun n => rfl) ?_
  by_cases hc : a1 < 0
  · rw [if_pos hc] at hw
    refine zT_st (pc' := 22) (L' := [some (.ref a0), some (.int a1)]) (st' := [.ref a0]) (h' := h) 1 (fun n => if_pos hc) ?_
    refine zT_st (pc' := 24) (L' := [some (.ref a0), some (.int a1)]) (st' := [.int 1, .int 0, .ref a0]) (h' := h) 2 (fun n => rfl) ?_
    obtain ⟨hq, hw⟩ := hw
    obtain ⟨x1, h2, hx, hw⟩ := hw
    refine zT_call (pc' := 27) (rest := []) 1 (fun n => rfl) hq hx ?_
    show zT E (d + 1) m_m_isCell 27 [some (.ref a0), some (.int a1)] [.int x1] h2 r
    obtain ⟨hz, hw⟩ := hw
    subst hw
    refine zT_ret 1 ?_
    show (bif zfr _ _ then _ else none) = _
    rw [hz]
    rfl
  · rw [if_neg hc] at hw
    refine zT_st (pc' := 5) (L' := [some (.ref a0), some (.int a1)]) (st' := [.ref a0]) (h' := h) 1 (fun n => if_neg hc) ?_
    refine zT_st (pc' := 7) (L' := [some (.ref a0), some (.int a1)]) (st' := [.ref a0, .int a1, .ref a0]) (h' := h) 2 (fun n => rfl) ?_
    obtain ⟨x3, e, hw⟩ := hw
    refine zT_st (pc' := 10) (L' := [some (.ref a0), some (.int a1)]) (st' := [.int x3, .int a1, .ref a0]) (h' := h) 1 (fun n => fld_eq (E := E) e _) ?_
    refine zT_st (pc' := 11) (L' := [some (.ref a0), some (.int a1)]) (st' := [.ref a0, .int x3, .int a1, .ref a0]) (h' := h) 1 (fun n => rfl) ?_
    obtain ⟨x4, e, hw⟩ := hw
    refine zT_st (pc' := 14) (L' := [some (.ref a0), some (.int a1)]) (st' := [.int x4, .int x3, .int a1, .ref a0]) (h' := h) 1 (fun n => fld_eq (E := E) e _) ?_
    refine zT_st (pc' := 15) (L' := [some (.ref a0), some (.int a1)]) (st' := [.int (x3 * x4), .int a1, .ref a0]) (h' := h) 1 (fun n => rfl) ?_
    by_cases hc : (x3 * x4) ≤ a1
    · rw [if_pos hc] at hw
      refine zT_st (pc' := 22) (L' := [some (.ref a0), some (.int a1)]) (st' := [.ref a0]) (h' := h) 1 (fun n => if_pos hc) ?_
      refine zT_st (pc' := 24) (L' := [some (.ref a0), some (.int a1)]) (st' := [.int 1, .int 0, .ref a0]) (h' := h) 2 (fun n => rfl) ?_
      obtain ⟨hq, hw⟩ := hw
      obtain ⟨x5, h6, hx, hw⟩ := hw
      refine zT_call (pc' := 27) (rest := []) 1 (fun n => rfl) hq hx ?_
      show zT E (d + 1) m_m_isCell 27 [some (.ref a0), some (.int a1)] [.int x5] h6 r
      obtain ⟨hz, hw⟩ := hw
      subst hw
      refine zT_ret 1 ?_
      show (bif zfr _ _ then _ else none) = _
      rw [hz]
      rfl
    · rw [if_neg hc] at hw
      refine zT_st (pc' := 18) (L' := [some (.ref a0), some (.int a1)]) (st' := [.ref a0]) (h' := h) 1 (fun n => if_neg hc) ?_
      refine zT_st (pc' := 24) (L' := [some (.ref a0), some (.int a1)]) (st' := [.int 1, .int 1, .ref a0]) (h' := h) 3 (fun n => rfl) ?_
      obtain ⟨hq, hw⟩ := hw
      obtain ⟨x7, h8, hx, hw⟩ := hw
      refine zT_call (pc' := 27) (rest := []) 1 (fun n => rfl) hq hx ?_
      show zT E (d + 1) m_m_isCell 27 [some (.ref a0), some (.int a1)] [.int x7] h8 r
      obtain ⟨hz, hw⟩ := hw
      subst hw
      refine zT_ret 1 ?_
      show (bif zfr _ _ then _ else none) = _
      rw [hz]
      rfl
set_option maxRecDepth 4000 in
theorem s_m_guard_0 (E : zX) (d : Nat) (a0 : Nat) (a1 : Int32) (a2 : Int32) (h : zH) (r : zO × zH)
    (hw : (∃ w, fld h a0 12 0 = some w) ∧
    isO (setF h a0 0 (.int 0)) a0 12 = true ∧ ∃ (x1 : Int32) (h2 : zH), zT E d m_m_isBall 0 [some (.ref a0), some (.int a1)] [] (setF h a0 0 (.int 0)) (.inl (some (.int x1)), h2) ∧
    if x1 = 0 then (
      r = (.inl (some (.int 0)), h2))
    else (
      ∃ o3 : Nat, fld h2 a0 12 40 = some (.ref o3) ∧
      ∃ (n4 : Nat) (f5 : Nat → Int32), arr h2 o3 = some (n4, f5) ∧ ¬ ((69 + a1) < 0 ∨ n4 ≤ ((69 + a1)).toNatClampNeg) ∧
      if (f5 ((69 + a1)).toNatClampNeg) = 1 then (
        zT E (d + 1) m_m_guard 33 [some (.ref a0), some (.int a1), some (.int a2)] [.int 1] h2 r)
      else (
        zT E (d + 1) m_m_guard 33 [some (.ref a0), some (.int a1), some (.int a2)] [.int 0] h2 r))) :
    zT E (d + 1) m_m_guard 0 [some (.ref a0), some (.int a1), some (.int a2)] [] h r := by
  refine zT_st (pc' := 2) (L' := [some (.ref a0), some (.int a1), some (.int a2)]) (st' := [.int 0, .ref a0]) (h' := h) 2 (fun n => rfl) ?_
  obtain ⟨⟨w, e⟩, hw⟩ := hw
  refine zT_st (pc' := 5) (L' := [some (.ref a0), some (.int a1), some (.int a2)]) (st' := []) (h' := (setF h a0 0 (.int 0))) 1 (fun n => put_eq e rfl _ _) ?_
  refine zT_st (pc' := 7) (L' := [some (.ref a0), some (.int a1), some (.int a2)]) (st' := [.int a1, .ref a0]) (h' := (setF h a0 0 (.int 0))) 2 (fun n => rfl) ?_
  obtain ⟨hq, hw⟩ := hw
  obtain ⟨x1, h2, hx, hw⟩ := hw
  refine zT_call (pc' := 10) (rest := []) 1 (fun n => rfl) hq hx ?_
  show zT E (d + 1) m_m_guard 10 [some (.ref a0), some (.int a1), some (.int a2)] [.int x1] h2 r
  by_cases hc : x1 = 0
  · rw [if_pos hc] at hw
    refine zT_st (pc' := 13) (L' := [some (.ref a0), some (.int a1), some (.int a2)]) (st' := []) (h' := h2) 1 (fun n => if_pos hc) ?_
    subst hw
    exact zT_ret 2 rfl
  · rw [if_neg hc] at hw
    refine zT_st (pc' := 15) (L' := [some (.ref a0), some (.int a1), some (.int a2)]) (st' := []) (h' := h2) 1 (fun n => if_neg hc) ?_
    refine zT_st (pc' := 16) (L' := [some (.ref a0), some (.int a1), some (.int a2)]) (st' := [.ref a0]) (h' := h2) 1 (fun n => rfl) ?_
    obtain ⟨o3, e, hw⟩ := hw
    refine zT_st (pc' := 19) (L' := [some (.ref a0), some (.int a1), some (.int a2)]) (st' := [.ref o3]) (h' := h2) 1 (fun n => fld_eq (E := E) e _) ?_
    refine zT_st (pc' := 23) (L' := [some (.ref a0), some (.int a1), some (.int a2)]) (st' := [.int (69 + a1), .ref o3]) (h' := h2) 3 (fun n => rfl) ?_
    obtain ⟨n4, f5, e, hi, hw⟩ := hw
    refine zT_st (pc' := 24) (L' := [some (.ref a0), some (.int a1), some (.int a2)]) (st' := [.int (f5 ((69 + a1)).toNatClampNeg)]) (h' := h2) 1 (fun n => arr_eq (E := E) e hi [] (fun st => zrun zP zCd E n (d + 1) m_m_guard 24 [some (.ref a0), some (.int a1), some (.int a2)] st h2)) ?_
    refine zT_st (pc' := 25) (L' := [some (.ref a0), some (.int a1), some (.int a2)]) (st' := [.int 1, .int (f5 ((69 + a1)).toNatClampNeg)]) (h' := h2) 1 (fun n => rfl) ?_
    by_cases hc : (f5 ((69 + a1)).toNatClampNeg) = 1
    · rw [if_pos hc] at hw
      refine zT_st (pc' := 28) (L' := [some (.ref a0), some (.int a1), some (.int a2)]) (st' := []) (h' := h2) 1 (fun n => if_pos hc) ?_
      exact zT_st 2 (fun n => rfl) hw
    · rw [if_neg hc] at hw
      refine zT_st (pc' := 32) (L' := [some (.ref a0), some (.int a1), some (.int a2)]) (st' := []) (h' := h2) 1 (fun n => if_neg hc) ?_
      exact zT_st 1 (fun n => rfl) hw
set_option maxRecDepth 4000 in
theorem s_m_guard_33 (E : zX) (d : Nat) (a0 : Nat) (a1 : Int32) (a2 : Int32) (s0 : Int32) (h : zH) (r : zO × zH)
    (hw : if s0 = a2 then (
      isO h a0 12 = true ∧ ∃ (x1 : Int32) (h2 : zH), zT E d m_m_refuses 0 [some (.ref a0), some (.int 1)] [] h (.inl (some (.int x1)), h2) ∧
      if x1 ≤ 0 then (
        r = (.inl (some (.int 0)), h2))
      else (
        r = (.inl (some (.int 1)), h2)))
    else (
      isO h a0 12 = true ∧ ∃ (h4 : zH), zT E d m_m_keeps 0 [some (.ref a0), none] [] h (.inl none, h4) ∧
      ∃ o5 : Nat, fld h4 a0 12 40 = some (.ref o5) ∧
      if a2 = 0 then (
        ∃ (n6 : Nat) (f7 : Nat → Int32), arr h4 o5 = some (n6, f7) ∧ ¬ ((69 + a1) < 0 ∨ n6 ≤ ((69 + a1)).toNatClampNeg) ∧
        r = (.inl (some (.int 1)), (setA h4 o5 n6 (upd f7 ((69 + a1)).toNatClampNeg 0))))
      else (
        ∃ (n8 : Nat) (f9 : Nat → Int32), arr h4 o5 = some (n8, f9) ∧ ¬ ((69 + a1) < 0 ∨ n8 ≤ ((69 + a1)).toNatClampNeg) ∧
        r = (.inl (some (.int 1)), (setA h4 o5 n8 (upd f9 ((69 + a1)).toNatClampNeg 1)))))) :
    zT E (d + 1) m_m_guard 33 [some (.ref a0), some (.int a1), some (.int a2)] [.int s0] h r := by
  refine zT_st (pc' := 34) (L' := [some (.ref a0), some (.int a1), some (.int a2)]) (st' := [.int a2, .int s0]) (h' := h) 1 (fun n => rfl) ?_
  by_cases hc : s0 = a2
  · rw [if_pos hc] at hw
    refine zT_st (pc' := 37) (L' := [some (.ref a0), some (.int a1), some (.int a2)]) (st' := []) (h' := h) 1 (fun n => if_pos hc) ?_
    refine zT_st (pc' := 39) (L' := [some (.ref a0), some (.int a1), some (.int a2)]) (st' := [.int 1, .ref a0]) (h' := h) 2 (fun n => rfl) ?_
    obtain ⟨hq, hw⟩ := hw
    obtain ⟨x1, h2, hx, hw⟩ := hw
    refine zT_call (pc' := 42) (rest := []) 1 (fun n => rfl) hq hx ?_
    show zT E (d + 1) m_m_guard 42 [some (.ref a0), some (.int a1), some (.int a2)] [.int x1] h2 r
    by_cases hc : x1 ≤ 0
    · rw [if_pos hc] at hw
      refine zT_st (pc' := 49) (L' := [some (.ref a0), some (.int a1), some (.int a2)]) (st' := []) (h' := h2) 1 (fun n => if_pos hc) ?_
      subst hw
      exact zT_ret 2 rfl
    · rw [if_neg hc] at hw
      refine zT_st (pc' := 45) (L' := [some (.ref a0), some (.int a1), some (.int a2)]) (st' := []) (h' := h2) 1 (fun n => if_neg hc) ?_
      subst hw
      exact zT_ret 3 rfl
  · rw [if_neg hc] at hw
    refine zT_st (pc' := 51) (L' := [some (.ref a0), some (.int a1), some (.int a2)]) (st' := []) (h' := h) 1 (fun n => if_neg hc) ?_
    refine zT_st (pc' := 52) (L' := [some (.ref a0), some (.int a1), some (.int a2)]) (st' := [.ref a0]) (h' := h) 1 (fun n => rfl) ?_
    obtain ⟨hq, hw⟩ := hw
    obtain ⟨h4, hx, hw⟩ := hw
    refine zT_call (pc' := 55) (rest := []) 1 (fun n => rfl) hq hx ?_
    show zT E (d + 1) m_m_guard 55 [some (.ref a0), some (.int a1), some (.int a2)] [] h4 r
    refine zT_st (pc' := 56) (L' := [some (.ref a0), some (.int a1), some (.int a2)]) (st' := [.ref a0]) (h' := h4) 1 (fun n => rfl) ?_
    obtain ⟨o5, e, hw⟩ := hw
    refine zT_st (pc' := 59) (L' := [some (.ref a0), some (.int a1), some (.int a2)]) (st' := [.ref o5]) (h' := h4) 1 (fun n => fld_eq (E := E) e _) ?_
    refine zT_st (pc' := 64) (L' := [some (.ref a0), some (.int a1), some (.int a2)]) (st' := [.int a2, .int (69 + a1), .ref o5]) (h' := h4) 4 (fun n => rfl) ?_
    by_cases hc : a2 = 0
    · rw [if_pos hc] at hw
      refine zT_st (pc' := 71) (L' := [some (.ref a0), some (.int a1), some (.int a2)]) (st' := [.int (69 + a1), .ref o5]) (h' := h4) 1 (fun n => if_pos hc) ?_
      refine zT_st (pc' := 72) (L' := [some (.ref a0), some (.int a1), some (.int a2)]) (st' := [.int 0, .int (69 + a1), .ref o5]) (h' := h4) 1 (fun n => rfl) ?_
      obtain ⟨n6, f7, e, hi, hw⟩ := hw
      refine zT_st (pc' := 73) (L' := [some (.ref a0), some (.int a1), some (.int a2)]) (st' := []) (h' := (setA h4 o5 n6 (upd f7 ((69 + a1)).toNatClampNeg 0))) 1 (fun n => set_eq e hi _ _) ?_
      subst hw
      exact zT_ret 2 rfl
    · rw [if_neg hc] at hw
      refine zT_st (pc' := 67) (L' := [some (.ref a0), some (.int a1), some (.int a2)]) (st' := [.int (69 + a1), .ref o5]) (h' := h4) 1 (fun n => if_neg hc) ?_
      refine zT_st (pc' := 72) (L' := [some (.ref a0), some (.int a1), some (.int a2)]) (st' := [.int 1, .int (69 + a1), .ref o5]) (h' := h4) 2 (fun n => rfl) ?_
      obtain ⟨n8, f9, e, hi, hw⟩ := hw
      refine zT_st (pc' := 73) (L' := [some (.ref a0), some (.int a1), some (.int a2)]) (st' := []) (h' := (setA h4 o5 n8 (upd f9 ((69 + a1)).toNatClampNeg 1))) 1 (fun n => set_eq e hi _ _) ?_
      subst hw
      exact zT_ret 2 rfl
set_option maxRecDepth 4000 in
theorem s_m_isSoon_0 (E : zX) (d : Nat) (a0 : Nat) (a1 : Int32) (a2 : Int32) (a3 : Int32) (h : zH) (r : zO × zH)
    (hw : ∃ (x1 : Int32) (h2 : zH), zT E d m_m_within 0 [some (.int a1), some (.int a2), some (.int 60)] [] h (.inl (some (.int x1)), h2) ∧
    isO h2 a0 12 = true ∧ ∃ (x3 : Int32) (h4 : zH), zT E d m_m_right 0 [some (.ref a0), some (.int x1), some (.int a3)] [] h2 (.inl (some (.int x3)), h4) ∧
    zfr (some .boolean) x3 = true ∧ r = (.inl (some (.int x3)), h4)) :
    zT E (d + 1) m_m_isSoon 0 [some (.ref a0), some (.int a1), some (.int a2), some (.int a3)] [] h r := by
  refine zT_st (pc' := 5) (L' := [some (.ref a0), some (.int a1), some (.int a2), some (.int a3)]) (st' := [.int 60, .int a2, .int a1, .ref a0]) (h' := h) 4 (fun n => rfl) ?_
  obtain ⟨x1, h2, hx, hw⟩ := hw
  refine zT_call (pc' := 8) (rest := [.ref a0]) 1 (fun n => rfl) rfl hx ?_
  show zT E (d + 1) m_m_isSoon 8 [some (.ref a0), some (.int a1), some (.int a2), some (.int a3)] [.int x1, .ref a0] h2 r
  refine zT_st (pc' := 9) (L' := [some (.ref a0), some (.int a1), some (.int a2), some (.int a3)]) (st' := [.int a3, .int x1, .ref a0]) (h' := h2) 1 (fun n => rfl) ?_
  obtain ⟨hq, hw⟩ := hw
  obtain ⟨x3, h4, hx, hw⟩ := hw
  refine zT_call (pc' := 12) (rest := []) 1 (fun n => rfl) hq hx ?_
  show zT E (d + 1) m_m_isSoon 12 [some (.ref a0), some (.int a1), some (.int a2), some (.int a3)] [.int x3] h4 r
  obtain ⟨hz, hw⟩ := hw
  subst hw
  refine zT_ret 1 ?_
  show (bif zfr _ _ then _ else none) = _
  rw [hz]
  rfl
set_option maxRecDepth 4000 in
theorem s_m_goesTo_0 (E : zX) (d : Nat) (a0 : Nat) (a1 : Int32) (h : zH) (r : zO × zH)
    (hw : isO h a0 12 = true ∧ ∃ (h2 : zH), zT E d m_m_tries 0 [some (.ref a0), none] [] h (.inl none, h2) ∧
    isO h2 a0 12 = true ∧ ∃ (h4 : zH), zT E d m_m_daysGo 0 [some (.ref a0), some (.int a1), none] [] h2 (.inl none, h4) ∧
    r = (.inl (none), h4)) :
    zT E (d + 1) m_m_goesTo 0 [some (.ref a0), some (.int a1)] [] h r := by
  refine zT_st (pc' := 1) (L' := [some (.ref a0), some (.int a1)]) (st' := [.ref a0]) (h' := h) 1 (fun n => rfl) ?_
  obtain ⟨hq, hw⟩ := hw
  obtain ⟨h2, hx, hw⟩ := hw
  refine zT_call (pc' := 4) (rest := []) 1 (fun n => rfl) hq hx ?_
  show zT E (d + 1) m_m_goesTo 4 [some (.ref a0), some (.int a1)] [] h2 r
  refine zT_st (pc' := 6) (L' := [some (.ref a0), some (.int a1)]) (st' := [.int a1, .ref a0]) (h' := h2) 2 (fun n => rfl) ?_
  obtain ⟨hq, hw⟩ := hw
  obtain ⟨h4, hx, hw⟩ := hw
  refine zT_call (pc' := 9) (rest := []) 1 (fun n => rfl) hq hx ?_
  show zT E (d + 1) m_m_goesTo 9 [some (.ref a0), some (.int a1)] [] h4 r
  subst hw
  exact zT_ret 1 rfl
set_option maxRecDepth 4000 in
theorem s_m_daysGo_0 (E : zX) (d : Nat) (a0 : Nat) (a1 : Int32) (h : zH) (r : zO × zH)
    (hw : zT E (d + 1) m_m_daysGo 2 [some (.ref a0), some (.int a1), some (.int 0)] [] h r) :
    zT E (d + 1) m_m_daysGo 0 [some (.ref a0), some (.int a1), none] [] h r := by
  exact zT_st 2 (fun n => rfl) hw
set_option maxRecDepth 4000 in
theorem s_m_daysGo_2 (E : zX) (d : Nat) (a0 : Nat) (a1 : Int32) (a2 : Int32) (h : zH) (r : zO × zH)
    (hw : if a1 ≤ a2 then (
      r = (.inl (none), h))
    else (
      isO h a0 12 = true ∧ ∃ (h2 : zH), zT E d m_m_dayOf 0 [some (.ref a0), some (.int 79)] [] h (.inl none, h2) ∧
      zT E (d + 1) m_m_daysGo 2 [some (.ref a0), some (.int a1), some (.int (a2 + 1))] [] h2 r)) :
    zT E (d + 1) m_m_daysGo 2 [some (.ref a0), some (.int a1), some (.int a2)] [] h r := by
  refine zT_st (pc' := 4) (L' := [some (.ref a0), some (.int a1), some (.int a2)]) (st' := [.int a1, .int a2]) (h' := h) 2 (fun n => rfl) ?_
  by_cases hc : a1 ≤ a2
  · rw [if_pos hc] at hw
    refine zT_st (pc' := 19) (L' := [some (.ref a0), some (.int a1), some (.int a2)]) (st' := []) (h' := h) 1 (fun n => if_pos hc) ?_
    subst hw
    exact zT_ret 1 rfl
  · rw [if_neg hc] at hw
    refine zT_st (pc' := 7) (L' := [some (.ref a0), some (.int a1), some (.int a2)]) (st' := []) (h' := h) 1 (fun n => if_neg hc) ?_
    refine zT_st (pc' := 10) (L' := [some (.ref a0), some (.int a1), some (.int a2)]) (st' := [.int 79, .ref a0]) (h' := h) 2 (fun n => rfl) ?_
    obtain ⟨hq, hw⟩ := hw
    obtain ⟨h2, hx, hw⟩ := hw
    refine zT_call (pc' := 13) (rest := []) 1 (fun n => rfl) hq hx ?_
    show zT E (d + 1) m_m_daysGo 13 [some (.ref a0), some (.int a1), some (.int a2)] [] h2 r
    exact zT_st 2 (fun n => rfl) hw
set_option maxRecDepth 4000 in
theorem s_m_first_0 (E : zX) (d : Nat) (a0 : Nat) (h : zH) (r : zO × zH)
    (hw : (∃ w, fld h a0 12 0 = some w) ∧
    isO (setF h a0 0 (.int 0)) a0 12 = true ∧ ∃ (h2 : zH), zT E d m_m_tries 0 [some (.ref a0), none] [] (setF h a0 0 (.int 0)) (.inl none, h2) ∧
    zT E (d + 1) m_m_first 11 [some (.ref a0), some (.int 1)] [] h2 r) :
    zT E (d + 1) m_m_first 0 [some (.ref a0), none] [] h r := by
  refine zT_st (pc' := 2) (L' := [some (.ref a0), none]) (st' := [.int 0, .ref a0]) (h' := h) 2 (fun n => rfl) ?_
  obtain ⟨⟨w, e⟩, hw⟩ := hw
  refine zT_st (pc' := 5) (L' := [some (.ref a0), none]) (st' := []) (h' := (setF h a0 0 (.int 0))) 1 (fun n => put_eq e rfl _ _) ?_
  refine zT_st (pc' := 6) (L' := [some (.ref a0), none]) (st' := [.ref a0]) (h' := (setF h a0 0 (.int 0))) 1 (fun n => rfl) ?_
  obtain ⟨hq, hw⟩ := hw
  obtain ⟨h2, hx, hw⟩ := hw
  refine zT_call (pc' := 9) (rest := []) 1 (fun n => rfl) hq hx ?_
  show zT E (d + 1) m_m_first 9 [some (.ref a0), none] [] h2 r
  exact zT_st 2 (fun n => rfl) hw
set_option maxRecDepth 4000 in
theorem s_m_first_11 (E : zX) (d : Nat) (a0 : Nat) (a1 : Int32) (h : zH) (r : zO × zH)
    (hw : if 60 < a1 then (
      r = (.inl (some (.int (-1))), h))
    else (
      isO h a0 12 = true ∧ ∃ (h2 : zH), zT E d m_m_dayOf 0 [some (.ref a0), some (.int 79)] [] h (.inl none, h2) ∧
      ∃ x3 : Int32, fld h2 a0 12 45 = some (.int x3) ∧
      if x3 = 0 then (
        zT E (d + 1) m_m_first 11 [some (.ref a0), some (.int (a1 + 1))] [] h2 r)
      else (
        ∃ x4 : Int32, fld h2 a0 12 45 = some (.int x4) ∧
        ∃ (x5 : Int32) (h6 : zH), zT E d m_m_lowest 0 [some (.int x4), none] [] h2 (.inl (some (.int x5)), h6) ∧
        r = (.inl (some (.int x5)), h6)))) :
    zT E (d + 1) m_m_first 11 [some (.ref a0), some (.int a1)] [] h r := by
  refine zT_st (pc' := 14) (L' := [some (.ref a0), some (.int a1)]) (st' := [.int 60, .int a1]) (h' := h) 2 (fun n => rfl) ?_
  by_cases hc : 60 < a1
  · rw [if_pos hc] at hw
    refine zT_st (pc' := 44) (L' := [some (.ref a0), some (.int a1)]) (st' := []) (h' := h) 1 (fun n => if_pos hc) ?_
    subst hw
    exact zT_ret 2 rfl
  · rw [if_neg hc] at hw
    refine zT_st (pc' := 17) (L' := [some (.ref a0), some (.int a1)]) (st' := []) (h' := h) 1 (fun n => if_neg hc) ?_
    refine zT_st (pc' := 20) (L' := [some (.ref a0), some (.int a1)]) (st' := [.int 79, .ref a0]) (h' := h) 2 (fun n => rfl) ?_
    obtain ⟨hq, hw⟩ := hw
    obtain ⟨h2, hx, hw⟩ := hw
    refine zT_call (pc' := 23) (rest := []) 1 (fun n => rfl) hq hx ?_
    show zT E (d + 1) m_m_first 23 [some (.ref a0), some (.int a1)] [] h2 r
    refine zT_st (pc' := 24) (L' := [some (.ref a0), some (.int a1)]) (st' := [.ref a0]) (h' := h2) 1 (fun n => rfl) ?_
    obtain ⟨x3, e, hw⟩ := hw
    refine zT_st (pc' := 27) (L' := [some (.ref a0), some (.int a1)]) (st' := [.int x3]) (h' := h2) 1 (fun n => fld_eq (E := E) e _) ?_
    by_cases hc : x3 = 0
    · rw [if_pos hc] at hw
      refine zT_st (pc' := 38) (L' := [some (.ref a0), some (.int a1)]) (st' := []) (h' := h2) 1 (fun n => if_pos hc) ?_
      exact zT_st 2 (fun n => rfl) hw
    · rw [if_neg hc] at hw
      refine zT_st (pc' := 30) (L' := [some (.ref a0), some (.int a1)]) (st' := []) (h' := h2) 1 (fun n => if_neg hc) ?_
      refine zT_st (pc' := 31) (L' := [some (.ref a0), some (.int a1)]) (st' := [.ref a0]) (h' := h2) 1 (fun n => rfl) ?_
      obtain ⟨x4, e, hw⟩ := hw
      refine zT_st (pc' := 34) (L' := [some (.ref a0), some (.int a1)]) (st' := [.int x4]) (h' := h2) 1 (fun n => fld_eq (E := E) e _) ?_
      obtain ⟨x5, h6, hx, hw⟩ := hw
      refine zT_call (pc' := 37) (rest := []) 1 (fun n => rfl) rfl hx ?_
      show zT E (d + 1) m_m_first 37 [some (.ref a0), some (.int a1)] [.int x5] h6 r
      subst hw
      exact zT_ret 1 rfl
set_option maxRecDepth 4000 in
theorem s_m_lowest_0 (E : zX) (d : Nat) (a0 : Int32) (h : zH) (r : zO × zH)
    (hw : zT E d m_m_lowest 2 [some (.int a0), some (.int 0)] [] h r) :
    zT E d m_m_lowest 0 [some (.int a0), none] [] h r := by
  exact zT_st 2 (fun n => rfl) hw
set_option maxRecDepth 4000 in
theorem s_m_lowest_2 (E : zX) (d : Nat) (a0 : Int32) (a1 : Int32) (h : zH) (r : zO × zH)
    (hw : if ((a0 >>> (a1 &&& 31)) &&& 1) = 0 then (
      zT E d m_m_lowest 2 [some (.int a0), some (.int (a1 + 1))] [] h r)
    else (
      r = (.inl (some (.int a1)), h))) :
    zT E d m_m_lowest 2 [some (.int a0), some (.int a1)] [] h r := by
  refine zT_st (pc' := 7) (L' := [some (.int a0), some (.int a1)]) (st' := [.int ((a0 >>> (a1 &&& 31)) &&& 1)]) (h' := h) 5 (fun n => rfl) ?_
  by_cases hc : ((a0 >>> (a1 &&& 31)) &&& 1) = 0
  · rw [if_pos hc] at hw
    refine zT_st (pc' := 10) (L' := [some (.int a0), some (.int a1)]) (st' := []) (h' := h) 1 (fun n => if_pos hc) ?_
    exact zT_st 2 (fun n => rfl) hw
  · rw [if_neg hc] at hw
    refine zT_st (pc' := 16) (L' := [some (.int a0), some (.int a1)]) (st' := []) (h' := h) 1 (fun n => if_neg hc) ?_
    subst hw
    exact zT_ret 2 rfl
set_option maxRecDepth 4000 in
theorem s_m_later_0 (E : zX) (d : Nat) (a0 : Nat) (a1 : Int32) (a2 : Int32) (h : zH) (r : zO × zH)
    (hw : (∃ w, fld h a0 12 0 = some w) ∧
    isO (setF h a0 0 (.int 0)) a0 12 = true ∧ ∃ (x1 : Int32) (h2 : zH), zT E d m_m_isWhat 0 [some (.ref a0), some (.int a2), some (.int 3)] [] (setF h a0 0 (.int 0)) (.inl (some (.int x1)), h2) ∧
    if x1 = 0 then (
      r = (.inl (some (.int 0)), h2))
    else (
      isO h2 a0 12 = true ∧ ∃ (x3 : Int32) (h4 : zH), zT E d m_m_isSoon 0 [some (.ref a0), some (.int a1), some (.int 0), some (.int 2)] [] h2 (.inl (some (.int x3)), h4) ∧
      if x3 = 0 then (
        r = (.inl (some (.int 0)), h4))
      else (
        isO h4 a0 12 = true ∧ ∃ (h6 : zH), zT E d m_m_tries 0 [some (.ref a0), none] [] h4 (.inl none, h6) ∧
        zT E (d + 1) m_m_later 35 [some (.ref a0), some (.int a1), some (.int a2), some (.int 0), some (.int 0), none] [] h6 r))) :
    zT E (d + 1) m_m_later 0 [some (.ref a0), some (.int a1), some (.int a2), none, none, none] [] h r := by
  refine zT_st (pc' := 2) (L' := [some (.ref a0), some (.int a1), some (.int a2), none, none, none]) (st' := [.int 0, .ref a0]) (h' := h) 2 (fun n => rfl) ?_
  obtain ⟨⟨w, e⟩, hw⟩ := hw
  refine zT_st (pc' := 5) (L' := [some (.ref a0), some (.int a1), some (.int a2), none, none, none]) (st' := []) (h' := (setF h a0 0 (.int 0))) 1 (fun n => put_eq e rfl _ _) ?_
  refine zT_st (pc' := 8) (L' := [some (.ref a0), some (.int a1), some (.int a2), none, none, none]) (st' := [.int 3, .int a2, .ref a0]) (h' := (setF h a0 0 (.int 0))) 3 (fun n => rfl) ?_
  obtain ⟨hq, hw⟩ := hw
  obtain ⟨x1, h2, hx, hw⟩ := hw
  refine zT_call (pc' := 11) (rest := []) 1 (fun n => rfl) hq hx ?_
  show zT E (d + 1) m_m_later 11 [some (.ref a0), some (.int a1), some (.int a2), none, none, none] [.int x1] h2 r
  by_cases hc : x1 = 0
  · rw [if_pos hc] at hw
    refine zT_st (pc' := 24) (L' := [some (.ref a0), some (.int a1), some (.int a2), none, none, none]) (st' := []) (h' := h2) 1 (fun n => if_pos hc) ?_
    subst hw
    exact zT_ret 2 rfl
  · rw [if_neg hc] at hw
    refine zT_st (pc' := 14) (L' := [some (.ref a0), some (.int a1), some (.int a2), none, none, none]) (st' := []) (h' := h2) 1 (fun n => if_neg hc) ?_
    refine zT_st (pc' := 18) (L' := [some (.ref a0), some (.int a1), some (.int a2), none, none, none]) (st' := [.int 2, .int 0, .int a1, .ref a0]) (h' := h2) 4 (fun n => rfl) ?_
    obtain ⟨hq, hw⟩ := hw
    obtain ⟨x3, h4, hx, hw⟩ := hw
    refine zT_call (pc' := 21) (rest := []) 1 (fun n => rfl) hq hx ?_
    show zT E (d + 1) m_m_later 21 [some (.ref a0), some (.int a1), some (.int a2), none, none, none] [.int x3] h4 r
    by_cases hc : x3 = 0
    · rw [if_pos hc] at hw
      refine zT_st (pc' := 24) (L' := [some (.ref a0), some (.int a1), some (.int a2), none, none, none]) (st' := []) (h' := h4) 1 (fun n => if_pos hc) ?_
      subst hw
      exact zT_ret 2 rfl
    · rw [if_neg hc] at hw
      refine zT_st (pc' := 26) (L' := [some (.ref a0), some (.int a1), some (.int a2), none, none, none]) (st' := []) (h' := h4) 1 (fun n => if_neg hc) ?_
      refine zT_st (pc' := 29) (L' := [some (.ref a0), some (.int a1), some (.int a2), some (.int 0), none, none]) (st' := [.ref a0]) (h' := h4) 3 (fun n => rfl) ?_
      obtain ⟨hq, hw⟩ := hw
      obtain ⟨h6, hx, hw⟩ := hw
      refine zT_call (pc' := 32) (rest := []) 1 (fun n => rfl) hq hx ?_
      show zT E (d + 1) m_m_later 32 [some (.ref a0), some (.int a1), some (.int a2), some (.int 0), none, none] [] h6 r
      exact zT_st 2 (fun n => rfl) hw
set_option maxRecDepth 4000 in
theorem s_m_later_35 (E : zX) (d : Nat) (a0 : Nat) (a1 : Int32) (a2 : Int32) (a3 : Int32) (a4 : Int32) (j5 : Option Value) (h : zH) (r : zO × zH)
    (hw : if a1 ≤ a4 then (
      zT E (d + 1) m_m_later 66 [some (.ref a0), some (.int a1), some (.int a2), some (.int a3), some (.int (-1)), some (.int 0)] [] h r)
    else (
      isO h a0 12 = true ∧ ∃ (h2 : zH), zT E d m_m_dayOf 0 [some (.ref a0), some (.int 79)] [] h (.inl none, h2) ∧
      ∃ x3 : Int32, fld h2 a0 12 46 = some (.int x3) ∧
      zT E (d + 1) m_m_later 35 [some (.ref a0), some (.int a1), some (.int a2), some (.int (a3 + x3)), some (.int (a4 + 1)), j5] [] h2 r)) :
    zT E (d + 1) m_m_later 35 [some (.ref a0), some (.int a1), some (.int a2), some (.int a3), some (.int a4), j5] [] h r := by
  refine zT_st (pc' := 38) (L' := [some (.ref a0), some (.int a1), some (.int a2), some (.int a3), some (.int a4), j5]) (st' := [.int a1, .int a4]) (h' := h) 2 (fun n => rfl) ?_
  by_cases hc : a1 ≤ a4
  · rw [if_pos hc] at hw
    refine zT_st (pc' := 60) (L' := [some (.ref a0), some (.int a1), some (.int a2), some (.int a3), some (.int a4), j5]) (st' := []) (h' := h) 1 (fun n => if_pos hc) ?_
    exact zT_st 4 (fun n => rfl) hw
  · rw [if_neg hc] at hw
    refine zT_st (pc' := 41) (L' := [some (.ref a0), some (.int a1), some (.int a2), some (.int a3), some (.int a4), j5]) (st' := []) (h' := h) 1 (fun n => if_neg hc) ?_
    refine zT_st (pc' := 44) (L' := [some (.ref a0), some (.int a1), some (.int a2), some (.int a3), some (.int a4), j5]) (st' := [.int 79, .ref a0]) (h' := h) 2 (fun n => rfl) ?_
    obtain ⟨hq, hw⟩ := hw
    obtain ⟨h2, hx, hw⟩ := hw
    refine zT_call (pc' := 47) (rest := []) 1 (fun n => rfl) hq hx ?_
    show zT E (d + 1) m_m_later 47 [some (.ref a0), some (.int a1), some (.int a2), some (.int a3), some (.int a4), j5] [] h2 r
    refine zT_st (pc' := 49) (L' := [some (.ref a0), some (.int a1), some (.int a2), some (.int a3), some (.int a4), j5]) (st' := [.ref a0, .int a3]) (h' := h2) 2 (fun n => rfl) ?_
    obtain ⟨x3, e, hw⟩ := hw
    refine zT_st (pc' := 52) (L' := [some (.ref a0), some (.int a1), some (.int a2), some (.int a3), some (.int a4), j5]) (st' := [.int x3, .int a3]) (h' := h2) 1 (fun n => fld_eq (E := E) e _) ?_
    exact zT_st 4 (fun n => rfl) hw
set_option maxRecDepth 4000 in
theorem s_m_later_66 (E : zX) (d : Nat) (a0 : Nat) (j1 : Option Value) (a2 : Int32) (a3 : Int32) (a4 : Int32) (a5 : Int32) (h : zH) (r : zO × zH)
    (hw : ∃ x1 : Int32, fld h a0 12 3 = some (.int x1) ∧
    if x1 ≤ a5 then (
      if a2 = 0 then (
        r = (.inl (some (.int a3)), h))
      else (
        if a2 = 1 then (
          ∃ x2 : Int32, fld h a0 12 4 = some (.int x2) ∧
          isO h a0 12 = true ∧ ∃ (x3 : Int32) (h4 : zH), zT E d m_m_sumOf 0 [some (.ref a0), some (.int 79), some (.int 39), some (.int x2), none, none] [] h (.inl (some (.int x3)), h4) ∧
          r = (.inl (some (.int x3)), h4))
        else (
          if a2 = 2 then (
            ∃ x5 : Int32, fld h a0 12 4 = some (.int x5) ∧
            isO h a0 12 = true ∧ ∃ (x6 : Int32) (h7 : zH), zT E d m_m_heldOnes 0 [some (.ref a0), some (.int 79), none, none] [] h (.inl (some (.int x6)), h7) ∧
            r = (.inl (some (.int (((1 <<< (x5 &&& 31)) - 1) &&& (x6 ^^^ (-1))))), h7))
          else (
            r = (.inl (some (.int a4)), h)))))
    else (
      if a4 = (-1) then (
        zT E (d + 1) m_m_later 66 [some (.ref a0), j1, some (.int a2), some (.int a3), some (.int a5), some (.int (a5 + 1))] [] h r)
      else (
        ∃ o8 : Nat, fld h a0 12 40 = some (.ref o8) ∧
        ∃ (n9 : Nat) (f10 : Nat → Int32), arr h o8 = some (n9, f10) ∧ ¬ ((80 + a5) < 0 ∨ n9 ≤ ((80 + a5)).toNatClampNeg) ∧
        ∃ o11 : Nat, fld h a0 12 40 = some (.ref o11) ∧
        ∃ (n12 : Nat) (f13 : Nat → Int32), arr h o11 = some (n12, f13) ∧ ¬ ((80 + a4) < 0 ∨ n12 ≤ ((80 + a4)).toNatClampNeg) ∧
        if (f10 ((80 + a5)).toNatClampNeg) ≤ (f13 ((80 + a4)).toNatClampNeg) then (
          zT E (d + 1) m_m_later 66 [some (.ref a0), j1, some (.int a2), some (.int a3), some (.int a4), some (.int (a5 + 1))] [] h r)
        else (
          zT E (d + 1) m_m_later 66 [some (.ref a0), j1, some (.int a2), some (.int a3), some (.int a5), some (.int (a5 + 1))] [] h r)))) :
    zT E (d + 1) m_m_later 66 [some (.ref a0), j1, some (.int a2), some (.int a3), some (.int a4), some (.int a5)] [] h r := by
  refine zT_st (pc' := 69) (L' := [some (.ref a0), j1, some (.int a2), some (.int a3), some (.int a4), some (.int a5)]) (st' := [.ref a0, .int a5]) (h' := h) 2 (fun n => rfl) ?_
  obtain ⟨x1, e, hw⟩ := hw
  refine zT_st (pc' := 72) (L' := [some (.ref a0), j1, some (.int a2), some (.int a3), some (.int a4), some (.int a5)]) (st' := [.int x1, .int a5]) (h' := h) 1 (fun n => fld_eq (E := E) e _) ?_
  by_cases hc : x1 ≤ a5
  · rw [if_pos hc] at hw
    refine zT_st (pc' := 114) (L' := [some (.ref a0), j1, some (.int a2), some (.int a3), some (.int a4), some (.int a5)]) (st' := []) (h' := h) 1 (fun n => if_pos hc) ?_
    refine zT_st (pc' := 115) (L' := [some (.ref a0), j1, some (.int a2), some (.int a3), some (.int a4), some (.int a5)]) (st' := [.int a2]) (h' := h) 1 (fun n => rfl) ?_
    by_cases hc : a2 = 0
    · rw [if_pos hc] at hw
      refine zT_st (pc' := 118) (L' := [some (.ref a0), j1, some (.int a2), some (.int a3), some (.int a4), some (.int a5)]) (st' := []) (h' := h) 1 (fun n => if_pos hc) ?_
      subst hw
      exact zT_ret 3 rfl
    · rw [if_neg hc] at hw
      refine zT_st (pc' := 122) (L' := [some (.ref a0), j1, some (.int a2), some (.int a3), some (.int a4), some (.int a5)]) (st' := []) (h' := h) 1 (fun n => if_neg hc) ?_
      refine zT_st (pc' := 124) (L' := [some (.ref a0), j1, some (.int a2), some (.int a3), some (.int a4), some (.int a5)]) (st' := [.int 1, .int a2]) (h' := h) 2 (fun n => rfl) ?_
      by_cases hc : a2 = 1
      · rw [if_pos hc] at hw
        refine zT_st (pc' := 127) (L' := [some (.ref a0), j1, some (.int a2), some (.int a3), some (.int a4), some (.int a5)]) (st' := []) (h' := h) 1 (fun n => if_pos hc) ?_
        refine zT_st (pc' := 133) (L' := [some (.ref a0), j1, some (.int a2), some (.int a3), some (.int a4), some (.int a5)]) (st' := [.ref a0, .int 39, .int 79, .ref a0]) (h' := h) 4 (fun n => rfl) ?_
        obtain ⟨x2, e, hw⟩ := hw
        refine zT_st (pc' := 136) (L' := [some (.ref a0), j1, some (.int a2), some (.int a3), some (.int a4), some (.int a5)]) (st' := [.int x2, .int 39, .int 79, .ref a0]) (h' := h) 1 (fun n => fld_eq (E := E) e _) ?_
        obtain ⟨hq, hw⟩ := hw
        obtain ⟨x3, h4, hx, hw⟩ := hw
        refine zT_call (pc' := 139) (rest := []) 1 (fun n => rfl) hq hx ?_
        show zT E (d + 1) m_m_later 139 [some (.ref a0), j1, some (.int a2), some (.int a3), some (.int a4), some (.int a5)] [.int x3] h4 r
        subst hw
        exact zT_ret 2 rfl
      · rw [if_neg hc] at hw
        refine zT_st (pc' := 142) (L' := [some (.ref a0), j1, some (.int a2), some (.int a3), some (.int a4), some (.int a5)]) (st' := []) (h' := h) 1 (fun n => if_neg hc) ?_
        refine zT_st (pc' := 144) (L' := [some (.ref a0), j1, some (.int a2), some (.int a3), some (.int a4), some (.int a5)]) (st' := [.int 2, .int a2]) (h' := h) 2 (fun n => rfl) ?_
        by_cases hc : a2 = 2
        · rw [if_pos hc] at hw
          refine zT_st (pc' := 147) (L' := [some (.ref a0), j1, some (.int a2), some (.int a3), some (.int a4), some (.int a5)]) (st' := []) (h' := h) 1 (fun n => if_pos hc) ?_
          refine zT_st (pc' := 149) (L' := [some (.ref a0), j1, some (.int a2), some (.int a3), some (.int a4), some (.int a5)]) (st' := [.ref a0, .int 1]) (h' := h) 2 (fun n => rfl) ?_
          obtain ⟨x5, e, hw⟩ := hw
          refine zT_st (pc' := 152) (L' := [some (.ref a0), j1, some (.int a2), some (.int a3), some (.int a4), some (.int a5)]) (st' := [.int x5, .int 1]) (h' := h) 1 (fun n => fld_eq (E := E) e _) ?_
          refine zT_st (pc' := 158) (L' := [some (.ref a0), j1, some (.int a2), some (.int a3), some (.int a4), some (.int a5)]) (st' := [.int 79, .ref a0, .int ((1 <<< (x5 &&& 31)) - 1)]) (h' := h) 5 (fun n => rfl) ?_
          obtain ⟨hq, hw⟩ := hw
          obtain ⟨x6, h7, hx, hw⟩ := hw
          refine zT_call (pc' := 161) (rest := [.int ((1 <<< (x5 &&& 31)) - 1)]) 1 (fun n => rfl) hq hx ?_
          show zT E (d + 1) m_m_later 161 [some (.ref a0), j1, some (.int a2), some (.int a3), some (.int a4), some (.int a5)] [.int x6, .int ((1 <<< (x5 &&& 31)) - 1)] h7 r
          subst hw
          exact zT_ret 5 rfl
        · rw [if_neg hc] at hw
          refine zT_st (pc' := 167) (L' := [some (.ref a0), j1, some (.int a2), some (.int a3), some (.int a4), some (.int a5)]) (st' := []) (h' := h) 1 (fun n => if_neg hc) ?_
          subst hw
          exact zT_ret 2 rfl
  · rw [if_neg hc] at hw
    refine zT_st (pc' := 75) (L' := [some (.ref a0), j1, some (.int a2), some (.int a3), some (.int a4), some (.int a5)]) (st' := []) (h' := h) 1 (fun n => if_neg hc) ?_
    refine zT_st (pc' := 78) (L' := [some (.ref a0), j1, some (.int a2), some (.int a3), some (.int a4), some (.int a5)]) (st' := [.int (-1), .int a4]) (h' := h) 2 (fun n => rfl) ?_
    by_cases hc : a4 = (-1)
    · rw [if_pos hc] at hw
      refine zT_st (pc' := 104) (L' := [some (.ref a0), j1, some (.int a2), some (.int a3), some (.int a4), some (.int a5)]) (st' := []) (h' := h) 1 (fun n => if_pos hc) ?_
      exact zT_st 4 (fun n => rfl) hw
    · rw [if_neg hc] at hw
      refine zT_st (pc' := 81) (L' := [some (.ref a0), j1, some (.int a2), some (.int a3), some (.int a4), some (.int a5)]) (st' := []) (h' := h) 1 (fun n => if_neg hc) ?_
      refine zT_st (pc' := 82) (L' := [some (.ref a0), j1, some (.int a2), some (.int a3), some (.int a4), some (.int a5)]) (st' := [.ref a0]) (h' := h) 1 (fun n => rfl) ?_
      obtain ⟨o8, e, hw⟩ := hw
      refine zT_st (pc' := 85) (L' := [some (.ref a0), j1, some (.int a2), some (.int a3), some (.int a4), some (.int a5)]) (st' := [.ref o8]) (h' := h) 1 (fun n => fld_eq (E := E) e _) ?_
      refine zT_st (pc' := 90) (L' := [some (.ref a0), j1, some (.int a2), some (.int a3), some (.int a4), some (.int a5)]) (st' := [.int (80 + a5), .ref o8]) (h' := h) 3 (fun n => rfl) ?_
      obtain ⟨n9, f10, e, hi, hw⟩ := hw
      refine zT_st (pc' := 91) (L' := [some (.ref a0), j1, some (.int a2), some (.int a3), some (.int a4), some (.int a5)]) (st' := [.int (f10 ((80 + a5)).toNatClampNeg)]) (h' := h) 1 (fun n => arr_eq (E := E) e hi [] (fun st => zrun zP zCd E n (d + 1) m_m_later 91 [some (.ref a0), j1, some (.int a2), some (.int a3), some (.int a4), some (.int a5)] st h)) ?_
      refine zT_st (pc' := 92) (L' := [some (.ref a0), j1, some (.int a2), some (.int a3), some (.int a4), some (.int a5)]) (st' := [.ref a0, .int (f10 ((80 + a5)).toNatClampNeg)]) (h' := h) 1 (fun n => rfl) ?_
      obtain ⟨o11, e, hw⟩ := hw
      refine zT_st (pc' := 95) (L' := [some (.ref a0), j1, some (.int a2), some (.int a3), some (.int a4), some (.int a5)]) (st' := [.ref o11, .int (f10 ((80 + a5)).toNatClampNeg)]) (h' := h) 1 (fun n => fld_eq (E := E) e _) ?_
      refine zT_st (pc' := 100) (L' := [some (.ref a0), j1, some (.int a2), some (.int a3), some (.int a4), some (.int a5)]) (st' := [.int (80 + a4), .ref o11, .int (f10 ((80 + a5)).toNatClampNeg)]) (h' := h) 3 (fun n => rfl) ?_
      obtain ⟨n12, f13, e, hi, hw⟩ := hw
      refine zT_st (pc' := 101) (L' := [some (.ref a0), j1, some (.int a2), some (.int a3), some (.int a4), some (.int a5)]) (st' := [.int (f13 ((80 + a4)).toNatClampNeg), .int (f10 ((80 + a5)).toNatClampNeg)]) (h' := h) 1 (fun n => arr_eq (E := E) e hi [.int (f10 ((80 + a5)).toNatClampNeg)] (fun st => zrun zP zCd E n (d + 1) m_m_later 101 [some (.ref a0), j1, some (.int a2), some (.int a3), some (.int a4), some (.int a5)] st h)) ?_
      by_cases hc : (f10 ((80 + a5)).toNatClampNeg) ≤ (f13 ((80 + a4)).toNatClampNeg)
      · rw [if_pos hc] at hw
        refine zT_st (pc' := 108) (L' := [some (.ref a0), j1, some (.int a2), some (.int a3), some (.int a4), some (.int a5)]) (st' := []) (h' := h) 1 (fun n => if_pos hc) ?_
        exact zT_st 2 (fun n => rfl) hw
      · rw [if_neg hc] at hw
        refine zT_st (pc' := 104) (L' := [some (.ref a0), j1, some (.int a2), some (.int a3), some (.int a4), some (.int a5)]) (st' := []) (h' := h) 1 (fun n => if_neg hc) ?_
        exact zT_st 4 (fun n => rfl) hw
set_option maxRecDepth 4000 in
theorem s_m_ahead_0 (E : zX) (d : Nat) (a0 : Nat) (a1 : Int32) (a2 : Int32) (h : zH) (r : zO × zH)
    (hw : (∃ w, fld h a0 12 0 = some w) ∧
    isO (setF h a0 0 (.int 0)) a0 12 = true ∧ ∃ (x1 : Int32) (h2 : zH), zT E d m_m_isWhat 0 [some (.ref a0), some (.int a2), some (.int 1)] [] (setF h a0 0 (.int 0)) (.inl (some (.int x1)), h2) ∧
    if x1 = 0 then (
      r = (.inl (some (.int 0)), h2))
    else (
      if a2 = 0 then (
        zT E (d + 1) m_m_ahead 25 [some (.ref a0), some (.int a1), some (.int a2), none, none, none] [.int 1, .int a1, .ref a0] h2 r)
      else (
        zT E (d + 1) m_m_ahead 25 [some (.ref a0), some (.int a1), some (.int a2), none, none, none] [.int 0, .int a1, .ref a0] h2 r))) :
    zT E (d + 1) m_m_ahead 0 [some (.ref a0), some (.int a1), some (.int a2), none, none, none] [] h r := by
  refine zT_st (pc' := 2) (L' := [some (.ref a0), some (.int a1), some (.int a2), none, none, none]) (st' := [.int 0, .ref a0]) (h' := h) 2 (fun n => rfl) ?_
  obtain ⟨⟨w, e⟩, hw⟩ := hw
  refine zT_st (pc' := 5) (L' := [some (.ref a0), some (.int a1), some (.int a2), none, none, none]) (st' := []) (h' := (setF h a0 0 (.int 0))) 1 (fun n => put_eq e rfl _ _) ?_
  refine zT_st (pc' := 8) (L' := [some (.ref a0), some (.int a1), some (.int a2), none, none, none]) (st' := [.int 1, .int a2, .ref a0]) (h' := (setF h a0 0 (.int 0))) 3 (fun n => rfl) ?_
  obtain ⟨hq, hw⟩ := hw
  obtain ⟨x1, h2, hx, hw⟩ := hw
  refine zT_call (pc' := 11) (rest := []) 1 (fun n => rfl) hq hx ?_
  show zT E (d + 1) m_m_ahead 11 [some (.ref a0), some (.int a1), some (.int a2), none, none, none] [.int x1] h2 r
  by_cases hc : x1 = 0
  · rw [if_pos hc] at hw
    refine zT_st (pc' := 32) (L' := [some (.ref a0), some (.int a1), some (.int a2), none, none, none]) (st' := []) (h' := h2) 1 (fun n => if_pos hc) ?_
    subst hw
    exact zT_ret 2 rfl
  · rw [if_neg hc] at hw
    refine zT_st (pc' := 14) (L' := [some (.ref a0), some (.int a1), some (.int a2), none, none, none]) (st' := []) (h' := h2) 1 (fun n => if_neg hc) ?_
    refine zT_st (pc' := 17) (L' := [some (.ref a0), some (.int a1), some (.int a2), none, none, none]) (st' := [.int a2, .int a1, .ref a0]) (h' := h2) 3 (fun n => rfl) ?_
    by_cases hc : a2 = 0
    · rw [if_pos hc] at hw
      refine zT_st (pc' := 20) (L' := [some (.ref a0), some (.int a1), some (.int a2), none, none, none]) (st' := [.int a1, .ref a0]) (h' := h2) 1 (fun n => if_pos hc) ?_
      exact zT_st 2 (fun n => rfl) hw
    · rw [if_neg hc] at hw
      refine zT_st (pc' := 24) (L' := [some (.ref a0), some (.int a1), some (.int a2), none, none, none]) (st' := [.int a1, .ref a0]) (h' := h2) 1 (fun n => if_neg hc) ?_
      exact zT_st 1 (fun n => rfl) hw
set_option maxRecDepth 4000 in
theorem s_m_ahead_25 (E : zX) (d : Nat) (a0 : Nat) (a1 : Int32) (a2 : Int32) (j3 : Option Value) (j4 : Option Value) (j5 : Option Value) (s0 : Nat) (s1 : Int32) (s2 : Int32) (h : zH) (r : zO × zH)
    (hw : isO h s0 12 = true ∧ ∃ (x1 : Int32) (h2 : zH), zT E d m_m_isSoon 0 [some (.ref s0), some (.int s1), some (.int s2), some (.int 2)] [] h (.inl (some (.int x1)), h2) ∧
    if x1 = 0 then (
      r = (.inl (some (.int 0)), h2))
    else (
      isO h2 a0 12 = true ∧ ∃ (h4 : zH), zT E d m_m_tries 0 [some (.ref a0), none] [] h2 (.inl none, h4) ∧
      zT E (d + 1) m_m_ahead 43 [some (.ref a0), some (.int a1), some (.int a2), some (.int 0), some (.int 0), j5] [] h4 r)) :
    zT E (d + 1) m_m_ahead 25 [some (.ref a0), some (.int a1), some (.int a2), j3, j4, j5] [.int s2, .int s1, .ref s0] h r := by
  refine zT_st (pc' := 26) (L' := [some (.ref a0), some (.int a1), some (.int a2), j3, j4, j5]) (st' := [.int 2, .int s2, .int s1, .ref s0]) (h' := h) 1 (fun n => rfl) ?_
  obtain ⟨hq, hw⟩ := hw
  obtain ⟨x1, h2, hx, hw⟩ := hw
  refine zT_call (pc' := 29) (rest := []) 1 (fun n => rfl) hq hx ?_
  show zT E (d + 1) m_m_ahead 29 [some (.ref a0), some (.int a1), some (.int a2), j3, j4, j5] [.int x1] h2 r
  by_cases hc : x1 = 0
  · rw [if_pos hc] at hw
    refine zT_st (pc' := 32) (L' := [some (.ref a0), some (.int a1), some (.int a2), j3, j4, j5]) (st' := []) (h' := h2) 1 (fun n => if_pos hc) ?_
    subst hw
    exact zT_ret 2 rfl
  · rw [if_neg hc] at hw
    refine zT_st (pc' := 34) (L' := [some (.ref a0), some (.int a1), some (.int a2), j3, j4, j5]) (st' := []) (h' := h2) 1 (fun n => if_neg hc) ?_
    refine zT_st (pc' := 37) (L' := [some (.ref a0), some (.int a1), some (.int a2), some (.int 0), j4, j5]) (st' := [.ref a0]) (h' := h2) 3 (fun n => rfl) ?_
    obtain ⟨hq, hw⟩ := hw
    obtain ⟨h4, hx, hw⟩ := hw
    refine zT_call (pc' := 40) (rest := []) 1 (fun n => rfl) hq hx ?_
    show zT E (d + 1) m_m_ahead 40 [some (.ref a0), some (.int a1), some (.int a2), some (.int 0), j4, j5] [] h4 r
    exact zT_st 2 (fun n => rfl) hw
set_option maxRecDepth 4000 in
theorem s_m_ahead_43 (E : zX) (d : Nat) (a0 : Nat) (a1 : Int32) (a2 : Int32) (a3 : Int32) (a4 : Int32) (j5 : Option Value) (h : zH) (r : zO × zH)
    (hw : if a1 ≤ a4 then (
      zT E (d + 1) m_m_ahead 89 [some (.ref a0), some (.int a1), some (.int a2), some (.int a3), some (.int (-1)), some (.int 0)] [] h r)
    else (
      isO h a0 12 = true ∧ ∃ (h2 : zH), zT E d m_m_dayOf 0 [some (.ref a0), some (.int 79)] [] h (.inl none, h2) ∧
      ∃ x3 : Int32, fld h2 a0 12 45 = some (.int x3) ∧
      if x3 = 0 then (
        ∃ x4 : Int32, fld h2 a0 12 48 = some (.int x4) ∧
        if x4 = 0 then (
          zT E (d + 1) m_m_ahead 43 [some (.ref a0), some (.int a1), some (.int a2), some (.int (a3 + 1)), some (.int (a4 + 1)), j5] [] h2 r)
        else (
          zT E (d + 1) m_m_ahead 43 [some (.ref a0), some (.int a1), some (.int a2), some (.int (a3 + 0)), some (.int (a4 + 1)), j5] [] h2 r))
      else (
        zT E (d + 1) m_m_ahead 43 [some (.ref a0), some (.int a1), some (.int a2), some (.int (a3 + 0)), some (.int (a4 + 1)), j5] [] h2 r))) :
    zT E (d + 1) m_m_ahead 43 [some (.ref a0), some (.int a1), some (.int a2), some (.int a3), some (.int a4), j5] [] h r := by
  refine zT_st (pc' := 46) (L' := [some (.ref a0), some (.int a1), some (.int a2), some (.int a3), some (.int a4), j5]) (st' := [.int a1, .int a4]) (h' := h) 2 (fun n => rfl) ?_
  by_cases hc : a1 ≤ a4
  · rw [if_pos hc] at hw
    refine zT_st (pc' := 83) (L' := [some (.ref a0), some (.int a1), some (.int a2), some (.int a3), some (.int a4), j5]) (st' := []) (h' := h) 1 (fun n => if_pos hc) ?_
    exact zT_st 4 (fun n => rfl) hw
  · rw [if_neg hc] at hw
    refine zT_st (pc' := 49) (L' := [some (.ref a0), some (.int a1), some (.int a2), some (.int a3), some (.int a4), j5]) (st' := []) (h' := h) 1 (fun n => if_neg hc) ?_
    refine zT_st (pc' := 52) (L' := [some (.ref a0), some (.int a1), some (.int a2), some (.int a3), some (.int a4), j5]) (st' := [.int 79, .ref a0]) (h' := h) 2 (fun n => rfl) ?_
    obtain ⟨hq, hw⟩ := hw
    obtain ⟨h2, hx, hw⟩ := hw
    refine zT_call (pc' := 55) (rest := []) 1 (fun n => rfl) hq hx ?_
    show zT E (d + 1) m_m_ahead 55 [some (.ref a0), some (.int a1), some (.int a2), some (.int a3), some (.int a4), j5] [] h2 r
    refine zT_st (pc' := 57) (L' := [some (.ref a0), some (.int a1), some (.int a2), some (.int a3), some (.int a4), j5]) (st' := [.ref a0, .int a3]) (h' := h2) 2 (fun n => rfl) ?_
    obtain ⟨x3, e, hw⟩ := hw
    refine zT_st (pc' := 60) (L' := [some (.ref a0), some (.int a1), some (.int a2), some (.int a3), some (.int a4), j5]) (st' := [.int x3, .int a3]) (h' := h2) 1 (fun n => fld_eq (E := E) e _) ?_
    by_cases hc : x3 = 0
    · rw [if_pos hc] at hw
      refine zT_st (pc' := 63) (L' := [some (.ref a0), some (.int a1), some (.int a2), some (.int a3), some (.int a4), j5]) (st' := [.int a3]) (h' := h2) 1 (fun n => if_pos hc) ?_
      refine zT_st (pc' := 64) (L' := [some (.ref a0), some (.int a1), some (.int a2), some (.int a3), some (.int a4), j5]) (st' := [.ref a0, .int a3]) (h' := h2) 1 (fun n => rfl) ?_
      obtain ⟨x4, e, hw⟩ := hw
      refine zT_st (pc' := 67) (L' := [some (.ref a0), some (.int a1), some (.int a2), some (.int a3), some (.int a4), j5]) (st' := [.int x4, .int a3]) (h' := h2) 1 (fun n => fld_eq (E := E) e _) ?_
      by_cases hc : x4 = 0
      · rw [if_pos hc] at hw
        refine zT_st (pc' := 70) (L' := [some (.ref a0), some (.int a1), some (.int a2), some (.int a3), some (.int a4), j5]) (st' := [.int a3]) (h' := h2) 1 (fun n => if_pos hc) ?_
        exact zT_st 6 (fun n => rfl) hw
      · rw [if_neg hc] at hw
        refine zT_st (pc' := 74) (L' := [some (.ref a0), some (.int a1), some (.int a2), some (.int a3), some (.int a4), j5]) (st' := [.int a3]) (h' := h2) 1 (fun n => if_neg hc) ?_
        exact zT_st 5 (fun n => rfl) hw
    · rw [if_neg hc] at hw
      refine zT_st (pc' := 74) (L' := [some (.ref a0), some (.int a1), some (.int a2), some (.int a3), some (.int a4), j5]) (st' := [.int a3]) (h' := h2) 1 (fun n => if_neg hc) ?_
      exact zT_st 5 (fun n => rfl) hw
set_option maxRecDepth 4000 in
theorem s_m_ahead_89 (E : zX) (d : Nat) (a0 : Nat) (j1 : Option Value) (a2 : Int32) (a3 : Int32) (a4 : Int32) (a5 : Int32) (h : zH) (r : zO × zH)
    (hw : ∃ x1 : Int32, fld h a0 12 4 = some (.int x1) ∧
    if x1 ≤ a5 then (
      if a2 = 0 then (
        r = (.inl (some (.int a3)), h))
      else (
        r = (.inl (some (.int a4)), h)))
    else (
      ∃ o2 : Nat, fld h a0 12 40 = some (.ref o2) ∧
      ∃ (n3 : Nat) (f4 : Nat → Int32), arr h o2 = some (n3, f4) ∧ ¬ ((118 + a5) < 0 ∨ n3 ≤ ((118 + a5)).toNatClampNeg) ∧
      if a4 = (-1) then (
        if (f4 ((118 + a5)).toNatClampNeg) ≤ 0 then (
          zT E (d + 1) m_m_ahead 89 [some (.ref a0), j1, some (.int a2), some (.int a3), some (.int a4), some (.int (a5 + 1))] [] h r)
        else (
          zT E (d + 1) m_m_ahead 89 [some (.ref a0), j1, some (.int a2), some (.int a3), some (.int a5), some (.int (a5 + 1))] [] h r))
      else (
        ∃ o5 : Nat, fld h a0 12 40 = some (.ref o5) ∧
        ∃ (n6 : Nat) (f7 : Nat → Int32), arr h o5 = some (n6, f7) ∧ ¬ ((118 + a4) < 0 ∨ n6 ≤ ((118 + a4)).toNatClampNeg) ∧
        if (f4 ((118 + a5)).toNatClampNeg) ≤ (f7 ((118 + a4)).toNatClampNeg) then (
          zT E (d + 1) m_m_ahead 89 [some (.ref a0), j1, some (.int a2), some (.int a3), some (.int a4), some (.int (a5 + 1))] [] h r)
        else (
          zT E (d + 1) m_m_ahead 89 [some (.ref a0), j1, some (.int a2), some (.int a3), some (.int a5), some (.int (a5 + 1))] [] h r)))) :
    zT E (d + 1) m_m_ahead 89 [some (.ref a0), j1, some (.int a2), some (.int a3), some (.int a4), some (.int a5)] [] h r := by
  refine zT_st (pc' := 92) (L' := [some (.ref a0), j1, some (.int a2), some (.int a3), some (.int a4), some (.int a5)]) (st' := [.ref a0, .int a5]) (h' := h) 2 (fun n => rfl) ?_
  obtain ⟨x1, e, hw⟩ := hw
  refine zT_st (pc' := 95) (L' := [some (.ref a0), j1, some (.int a2), some (.int a3), some (.int a4), some (.int a5)]) (st' := [.int x1, .int a5]) (h' := h) 1 (fun n => fld_eq (E := E) e _) ?_
  by_cases hc : x1 ≤ a5
  · rw [if_pos hc] at hw
    refine zT_st (pc' := 141) (L' := [some (.ref a0), j1, some (.int a2), some (.int a3), some (.int a4), some (.int a5)]) (st' := []) (h' := h) 1 (fun n => if_pos hc) ?_
    refine zT_st (pc' := 142) (L' := [some (.ref a0), j1, some (.int a2), some (.int a3), some (.int a4), some (.int a5)]) (st' := [.int a2]) (h' := h) 1 (fun n => rfl) ?_
    by_cases hc : a2 = 0
    · rw [if_pos hc] at hw
      refine zT_st (pc' := 145) (L' := [some (.ref a0), j1, some (.int a2), some (.int a3), some (.int a4), some (.int a5)]) (st' := []) (h' := h) 1 (fun n => if_pos hc) ?_
      subst hw
      exact zT_ret 3 rfl
    · rw [if_neg hc] at hw
      refine zT_st (pc' := 149) (L' := [some (.ref a0), j1, some (.int a2), some (.int a3), some (.int a4), some (.int a5)]) (st' := []) (h' := h) 1 (fun n => if_neg hc) ?_
      subst hw
      exact zT_ret 2 rfl
  · rw [if_neg hc] at hw
    refine zT_st (pc' := 98) (L' := [some (.ref a0), j1, some (.int a2), some (.int a3), some (.int a4), some (.int a5)]) (st' := []) (h' := h) 1 (fun n => if_neg hc) ?_
    refine zT_st (pc' := 99) (L' := [some (.ref a0), j1, some (.int a2), some (.int a3), some (.int a4), some (.int a5)]) (st' := [.ref a0]) (h' := h) 1 (fun n => rfl) ?_
    obtain ⟨o2, e, hw⟩ := hw
    refine zT_st (pc' := 102) (L' := [some (.ref a0), j1, some (.int a2), some (.int a3), some (.int a4), some (.int a5)]) (st' := [.ref o2]) (h' := h) 1 (fun n => fld_eq (E := E) e _) ?_
    refine zT_st (pc' := 107) (L' := [some (.ref a0), j1, some (.int a2), some (.int a3), some (.int a4), some (.int a5)]) (st' := [.int (118 + a5), .ref o2]) (h' := h) 3 (fun n => rfl) ?_
    obtain ⟨n3, f4, e, hi, hw⟩ := hw
    refine zT_st (pc' := 108) (L' := [some (.ref a0), j1, some (.int a2), some (.int a3), some (.int a4), some (.int a5)]) (st' := [.int (f4 ((118 + a5)).toNatClampNeg)]) (h' := h) 1 (fun n => arr_eq (E := E) e hi [] (fun st => zrun zP zCd E n (d + 1) m_m_ahead 108 [some (.ref a0), j1, some (.int a2), some (.int a3), some (.int a4), some (.int a5)] st h)) ?_
    refine zT_st (pc' := 111) (L' := [some (.ref a0), j1, some (.int a2), some (.int a3), some (.int a4), some (.int a5)]) (st' := [.int (-1), .int a4, .int (f4 ((118 + a5)).toNatClampNeg)]) (h' := h) 2 (fun n => rfl) ?_
    by_cases hc : a4 = (-1)
    · rw [if_pos hc] at hw
      refine zT_st (pc' := 114) (L' := [some (.ref a0), j1, some (.int a2), some (.int a3), some (.int a4), some (.int a5)]) (st' := [.int (f4 ((118 + a5)).toNatClampNeg)]) (h' := h) 1 (fun n => if_pos hc) ?_
      refine zT_st (pc' := 128) (L' := [some (.ref a0), j1, some (.int a2), some (.int a3), some (.int a4), some (.int a5)]) (st' := [.int 0, .int (f4 ((118 + a5)).toNatClampNeg)]) (h' := h) 2 (fun n => rfl) ?_
      by_cases hc : (f4 ((118 + a5)).toNatClampNeg) ≤ 0
      · rw [if_pos hc] at hw
        refine zT_st (pc' := 135) (L' := [some (.ref a0), j1, some (.int a2), some (.int a3), some (.int a4), some (.int a5)]) (st' := []) (h' := h) 1 (fun n => if_pos hc) ?_
        exact zT_st 2 (fun n => rfl) hw
      · rw [if_neg hc] at hw
        refine zT_st (pc' := 131) (L' := [some (.ref a0), j1, some (.int a2), some (.int a3), some (.int a4), some (.int a5)]) (st' := []) (h' := h) 1 (fun n => if_neg hc) ?_
        exact zT_st 4 (fun n => rfl) hw
    · rw [if_neg hc] at hw
      refine zT_st (pc' := 118) (L' := [some (.ref a0), j1, some (.int a2), some (.int a3), some (.int a4), some (.int a5)]) (st' := [.int (f4 ((118 + a5)).toNatClampNeg)]) (h' := h) 1 (fun n => if_neg hc) ?_
      refine zT_st (pc' := 119) (L' := [some (.ref a0), j1, some (.int a2), some (.int a3), some (.int a4), some (.int a5)]) (st' := [.ref a0, .int (f4 ((118 + a5)).toNatClampNeg)]) (h' := h) 1 (fun n => rfl) ?_
      obtain ⟨o5, e, hw⟩ := hw
      refine zT_st (pc' := 122) (L' := [some (.ref a0), j1, some (.int a2), some (.int a3), some (.int a4), some (.int a5)]) (st' := [.ref o5, .int (f4 ((118 + a5)).toNatClampNeg)]) (h' := h) 1 (fun n => fld_eq (E := E) e _) ?_
      refine zT_st (pc' := 127) (L' := [some (.ref a0), j1, some (.int a2), some (.int a3), some (.int a4), some (.int a5)]) (st' := [.int (118 + a4), .ref o5, .int (f4 ((118 + a5)).toNatClampNeg)]) (h' := h) 3 (fun n => rfl) ?_
      obtain ⟨n6, f7, e, hi, hw⟩ := hw
      refine zT_st (pc' := 128) (L' := [some (.ref a0), j1, some (.int a2), some (.int a3), some (.int a4), some (.int a5)]) (st' := [.int (f7 ((118 + a4)).toNatClampNeg), .int (f4 ((118 + a5)).toNatClampNeg)]) (h' := h) 1 (fun n => arr_eq (E := E) e hi [.int (f4 ((118 + a5)).toNatClampNeg)] (fun st => zrun zP zCd E n (d + 1) m_m_ahead 128 [some (.ref a0), j1, some (.int a2), some (.int a3), some (.int a4), some (.int a5)] st h)) ?_
      by_cases hc : (f4 ((118 + a5)).toNatClampNeg) ≤ (f7 ((118 + a4)).toNatClampNeg)
      · rw [if_pos hc] at hw
        refine zT_st (pc' := 135) (L' := [some (.ref a0), j1, some (.int a2), some (.int a3), some (.int a4), some (.int a5)]) (st' := []) (h' := h) 1 (fun n => if_pos hc) ?_
        exact zT_st 2 (fun n => rfl) hw
      · rw [if_neg hc] at hw
        refine zT_st (pc' := 131) (L' := [some (.ref a0), j1, some (.int a2), some (.int a3), some (.int a4), some (.int a5)]) (st' := []) (h' := h) 1 (fun n => if_neg hc) ?_
        exact zT_st 4 (fun n => rfl) hw
set_option maxRecDepth 4000 in
theorem s_m_fire_0 (E : zX) (d : Nat) (a0 : Nat) (a1 : Int32) (a2 : Int32) (h : zH) (r : zO × zH)
    (hw : (∃ w, fld h a0 12 0 = some w) ∧
    isO (setF h a0 0 (.int 0)) a0 12 = true ∧ ∃ (x1 : Int32) (h2 : zH), zT E d m_m_isBall 0 [some (.ref a0), some (.int a1)] [] (setF h a0 0 (.int 0)) (.inl (some (.int x1)), h2) ∧
    if x1 = 0 then (
      r = (.inl (some (.int 0)), h2))
    else (
      isO h2 a0 12 = true ∧ ∃ (x3 : Int32) (h4 : zH), zT E d m_m_isWhat 0 [some (.ref a0), some (.int a2), some (.int 1)] [] h2 (.inl (some (.int x3)), h4) ∧
      if x3 = 0 then (
        r = (.inl (some (.int 0)), h4))
      else (
        ∃ o5 : Nat, fld h4 a0 12 40 = some (.ref o5) ∧
        ∃ (n6 : Nat) (f7 : Nat → Int32), arr h4 o5 = some (n6, f7) ∧ ¬ ((29 + a1) < 0 ∨ n6 ≤ ((29 + a1)).toNatClampNeg) ∧
        zT E (d + 1) m_m_fire 40 [some (.ref a0), some (.int a1), some (.int a2), some (.int 0), some (.int (f7 ((29 + a1)).toNatClampNeg)), some (.int 1), none] [] h4 r))) :
    zT E (d + 1) m_m_fire 0 [some (.ref a0), some (.int a1), some (.int a2), none, none, none, none] [] h r := by
  refine zT_st (pc' := 2) (L' := [some (.ref a0), some (.int a1), some (.int a2), none, none, none, none]) (st' := [.int 0, .ref a0]) (h' := h) 2 (fun n => rfl) ?_
  obtain ⟨⟨w, e⟩, hw⟩ := hw
  refine zT_st (pc' := 5) (L' := [some (.ref a0), some (.int a1), some (.int a2), none, none, none, none]) (st' := []) (h' := (setF h a0 0 (.int 0))) 1 (fun n => put_eq e rfl _ _) ?_
  refine zT_st (pc' := 7) (L' := [some (.ref a0), some (.int a1), some (.int a2), none, none, none, none]) (st' := [.int a1, .ref a0]) (h' := (setF h a0 0 (.int 0))) 2 (fun n => rfl) ?_
  obtain ⟨hq, hw⟩ := hw
  obtain ⟨x1, h2, hx, hw⟩ := hw
  refine zT_call (pc' := 10) (rest := []) 1 (fun n => rfl) hq hx ?_
  show zT E (d + 1) m_m_fire 10 [some (.ref a0), some (.int a1), some (.int a2), none, none, none, none] [.int x1] h2 r
  by_cases hc : x1 = 0
  · rw [if_pos hc] at hw
    refine zT_st (pc' := 22) (L' := [some (.ref a0), some (.int a1), some (.int a2), none, none, none, none]) (st' := []) (h' := h2) 1 (fun n => if_pos hc) ?_
    subst hw
    exact zT_ret 2 rfl
  · rw [if_neg hc] at hw
    refine zT_st (pc' := 13) (L' := [some (.ref a0), some (.int a1), some (.int a2), none, none, none, none]) (st' := []) (h' := h2) 1 (fun n => if_neg hc) ?_
    refine zT_st (pc' := 16) (L' := [some (.ref a0), some (.int a1), some (.int a2), none, none, none, none]) (st' := [.int 1, .int a2, .ref a0]) (h' := h2) 3 (fun n => rfl) ?_
    obtain ⟨hq, hw⟩ := hw
    obtain ⟨x3, h4, hx, hw⟩ := hw
    refine zT_call (pc' := 19) (rest := []) 1 (fun n => rfl) hq hx ?_
    show zT E (d + 1) m_m_fire 19 [some (.ref a0), some (.int a1), some (.int a2), none, none, none, none] [.int x3] h4 r
    by_cases hc : x3 = 0
    · rw [if_pos hc] at hw
      refine zT_st (pc' := 22) (L' := [some (.ref a0), some (.int a1), some (.int a2), none, none, none, none]) (st' := []) (h' := h4) 1 (fun n => if_pos hc) ?_
      subst hw
      exact zT_ret 2 rfl
    · rw [if_neg hc] at hw
      refine zT_st (pc' := 24) (L' := [some (.ref a0), some (.int a1), some (.int a2), none, none, none, none]) (st' := []) (h' := h4) 1 (fun n => if_neg hc) ?_
      refine zT_st (pc' := 27) (L' := [some (.ref a0), some (.int a1), some (.int a2), some (.int 0), none, none, none]) (st' := [.ref a0]) (h' := h4) 3 (fun n => rfl) ?_
      obtain ⟨o5, e, hw⟩ := hw
      refine zT_st (pc' := 30) (L' := [some (.ref a0), some (.int a1), some (.int a2), some (.int 0), none, none, none]) (st' := [.ref o5]) (h' := h4) 1 (fun n => fld_eq (E := E) e _) ?_
      refine zT_st (pc' := 34) (L' := [some (.ref a0), some (.int a1), some (.int a2), some (.int 0), none, none, none]) (st' := [.int (29 + a1), .ref o5]) (h' := h4) 3 (fun n => rfl) ?_
      obtain ⟨n6, f7, e, hi, hw⟩ := hw
      refine zT_st (pc' := 35) (L' := [some (.ref a0), some (.int a1), some (.int a2), some (.int 0), none, none, none]) (st' := [.int (f7 ((29 + a1)).toNatClampNeg)]) (h' := h4) 1 (fun n => arr_eq (E := E) e hi [] (fun st => zrun zP zCd E n (d + 1) m_m_fire 35 [some (.ref a0), some (.int a1), some (.int a2), some (.int 0), none, none, none] st h4)) ?_
      exact zT_st 3 (fun n => rfl) hw
set_option maxRecDepth 4000 in
theorem s_m_fire_40 (E : zX) (d : Nat) (a0 : Nat) (a1 : Int32) (a2 : Int32) (a3 : Int32) (a4 : Int32) (a5 : Int32) (j6 : Option Value) (h : zH) (r : zO × zH)
    (hw : ∃ x1 : Int32, fld h a0 12 1 = some (.int x1) ∧
    ∃ x2 : Int32, fld h a0 12 2 = some (.int x2) ∧
    if (x1 * x2) ≤ a5 then (
      if a2 = 0 then (
        r = (.inl (some (.int a3)), h))
      else (
        isO h a0 12 = true ∧ ∃ (x3 : Int32) (h4 : zH), zT E d m_m_homesBy 0 [some (.ref a0), some (.int a1), some (.int a3), none, none] [] h (.inl (some (.int x3)), h4) ∧
        r = (.inl (some (.int x3)), h4)))
    else (
      isO h a0 12 = true ∧ ∃ (x5 : Int32) (h6 : zH), zT E d m_m_homesBy 0 [some (.ref a0), some (.int a1), some (.int a5), none, none] [] h (.inl (some (.int x5)), h6) ∧
      isO h6 a0 12 = true ∧ ∃ (x7 : Int32) (h8 : zH), zT E d m_m_homesBy 0 [some (.ref a0), some (.int a1), some (.int a3), none, none] [] h6 (.inl (some (.int x7)), h8) ∧
      if (x5 - x7) < 0 then (
        zT E (d + 1) m_m_fire 40 [some (.ref a0), some (.int a1), some (.int a2), some (.int a5), some (.int a4), some (.int (a5 + 1)), some (.int (x5 - x7))] [] h8 r)
      else (
        if (x5 - x7) = 0 then (
          isO h8 a0 12 = true ∧ ∃ (x9 : Int32) (h10 : zH), zT E d m_m_farOf 0 [some (.ref a0), some (.int a5), some (.int a4)] [] h8 (.inl (some (.int x9)), h10) ∧
          isO h10 a0 12 = true ∧ ∃ (x11 : Int32) (h12 : zH), zT E d m_m_farOf 0 [some (.ref a0), some (.int a3), some (.int a4)] [] h10 (.inl (some (.int x11)), h12) ∧
          if x11 ≤ x9 then (
            zT E (d + 1) m_m_fire 40 [some (.ref a0), some (.int a1), some (.int a2), some (.int a3), some (.int a4), some (.int (a5 + 1)), some (.int (x5 - x7))] [] h12 r)
          else (
            zT E (d + 1) m_m_fire 40 [some (.ref a0), some (.int a1), some (.int a2), some (.int a5), some (.int a4), some (.int (a5 + 1)), some (.int (x5 - x7))] [] h12 r))
        else (
          zT E (d + 1) m_m_fire 40 [some (.ref a0), some (.int a1), some (.int a2), some (.int a3), some (.int a4), some (.int (a5 + 1)), some (.int (x5 - x7))] [] h8 r)))) :
    zT E (d + 1) m_m_fire 40 [some (.ref a0), some (.int a1), some (.int a2), some (.int a3), some (.int a4), some (.int a5), j6] [] h r := by
  refine zT_st (pc' := 43) (L' := [some (.ref a0), some (.int a1), some (.int a2), some (.int a3), some (.int a4), some (.int a5), j6]) (st' := [.ref a0, .int a5]) (h' := h) 2 (fun n => rfl) ?_
  obtain ⟨x1, e, hw⟩ := hw
  refine zT_st (pc' := 46) (L' := [some (.ref a0), some (.int a1), some (.int a2), some (.int a3), some (.int a4), some (.int a5), j6]) (st' := [.int x1, .int a5]) (h' := h) 1 (fun n => fld_eq (E := E) e _) ?_
  refine zT_st (pc' := 47) (L' := [some (.ref a0), some (.int a1), some (.int a2), some (.int a3), some (.int a4), some (.int a5), j6]) (st' := [.ref a0, .int x1, .int a5]) (h' := h) 1 (fun n => rfl) ?_
  obtain ⟨x2, e, hw⟩ := hw
  refine zT_st (pc' := 50) (L' := [some (.ref a0), some (.int a1), some (.int a2), some (.int a3), some (.int a4), some (.int a5), j6]) (st' := [.int x2, .int x1, .int a5]) (h' := h) 1 (fun n => fld_eq (E := E) e _) ?_
  refine zT_st (pc' := 51) (L' := [some (.ref a0), some (.int a1), some (.int a2), some (.int a3), some (.int a4), some (.int a5), j6]) (st' := [.int (x1 * x2), .int a5]) (h' := h) 1 (fun n => rfl) ?_
  by_cases hc : (x1 * x2) ≤ a5
  · rw [if_pos hc] at hw
    refine zT_st (pc' := 107) (L' := [some (.ref a0), some (.int a1), some (.int a2), some (.int a3), some (.int a4), some (.int a5), j6]) (st' := []) (h' := h) 1 (fun n => if_pos hc) ?_
    refine zT_st (pc' := 108) (L' := [some (.ref a0), some (.int a1), some (.int a2), some (.int a3), some (.int a4), some (.int a5), j6]) (st' := [.int a2]) (h' := h) 1 (fun n => rfl) ?_
    by_cases hc : a2 = 0
    · rw [if_pos hc] at hw
      refine zT_st (pc' := 111) (L' := [some (.ref a0), some (.int a1), some (.int a2), some (.int a3), some (.int a4), some (.int a5), j6]) (st' := []) (h' := h) 1 (fun n => if_pos hc) ?_
      subst hw
      exact zT_ret 3 rfl
    · rw [if_neg hc] at hw
      refine zT_st (pc' := 115) (L' := [some (.ref a0), some (.int a1), some (.int a2), some (.int a3), some (.int a4), some (.int a5), j6]) (st' := []) (h' := h) 1 (fun n => if_neg hc) ?_
      refine zT_st (pc' := 118) (L' := [some (.ref a0), some (.int a1), some (.int a2), some (.int a3), some (.int a4), some (.int a5), j6]) (st' := [.int a3, .int a1, .ref a0]) (h' := h) 3 (fun n => rfl) ?_
      obtain ⟨hq, hw⟩ := hw
      obtain ⟨x3, h4, hx, hw⟩ := hw
      refine zT_call (pc' := 121) (rest := []) 1 (fun n => rfl) hq hx ?_
      show zT E (d + 1) m_m_fire 121 [some (.ref a0), some (.int a1), some (.int a2), some (.int a3), some (.int a4), some (.int a5), j6] [.int x3] h4 r
      subst hw
      exact zT_ret 1 rfl
  · rw [if_neg hc] at hw
    refine zT_st (pc' := 54) (L' := [some (.ref a0), some (.int a1), some (.int a2), some (.int a3), some (.int a4), some (.int a5), j6]) (st' := []) (h' := h) 1 (fun n => if_neg hc) ?_
    refine zT_st (pc' := 58) (L' := [some (.ref a0), some (.int a1), some (.int a2), some (.int a3), some (.int a4), some (.int a5), j6]) (st' := [.int a5, .int a1, .ref a0]) (h' := h) 3 (fun n => rfl) ?_
    obtain ⟨hq, hw⟩ := hw
    obtain ⟨x5, h6, hx, hw⟩ := hw
    refine zT_call (pc' := 61) (rest := []) 1 (fun n => rfl) hq hx ?_
    show zT E (d + 1) m_m_fire 61 [some (.ref a0), some (.int a1), some (.int a2), some (.int a3), some (.int a4), some (.int a5), j6] [.int x5] h6 r
    refine zT_st (pc' := 64) (L' := [some (.ref a0), some (.int a1), some (.int a2), some (.int a3), some (.int a4), some (.int a5), j6]) (st' := [.int a3, .int a1, .ref a0, .int x5]) (h' := h6) 3 (fun n => rfl) ?_
    obtain ⟨hq, hw⟩ := hw
    obtain ⟨x7, h8, hx, hw⟩ := hw
    refine zT_call (pc' := 67) (rest := [.int x5]) 1 (fun n => rfl) hq hx ?_
    show zT E (d + 1) m_m_fire 67 [some (.ref a0), some (.int a1), some (.int a2), some (.int a3), some (.int a4), some (.int a5), j6] [.int x7, .int x5] h8 r
    refine zT_st (pc' := 72) (L' := [some (.ref a0), some (.int a1), some (.int a2), some (.int a3), some (.int a4), some (.int a5), some (.int (x5 - x7))]) (st' := [.int (x5 - x7)]) (h' := h8) 3 (fun n => rfl) ?_
    by_cases hc : (x5 - x7) < 0
    · rw [if_pos hc] at hw
      refine zT_st (pc' := 98) (L' := [some (.ref a0), some (.int a1), some (.int a2), some (.int a3), some (.int a4), some (.int a5), some (.int (x5 - x7))]) (st' := []) (h' := h8) 1 (fun n => if_pos hc) ?_
      exact zT_st 4 (fun n => rfl) hw
    · rw [if_neg hc] at hw
      refine zT_st (pc' := 75) (L' := [some (.ref a0), some (.int a1), some (.int a2), some (.int a3), some (.int a4), some (.int a5), some (.int (x5 - x7))]) (st' := []) (h' := h8) 1 (fun n => if_neg hc) ?_
      refine zT_st (pc' := 77) (L' := [some (.ref a0), some (.int a1), some (.int a2), some (.int a3), some (.int a4), some (.int a5), some (.int (x5 - x7))]) (st' := [.int (x5 - x7)]) (h' := h8) 1 (fun n => rfl) ?_
      by_cases hc : (x5 - x7) = 0
      · rw [if_pos hc] at hw
        refine zT_st (pc' := 80) (L' := [some (.ref a0), some (.int a1), some (.int a2), some (.int a3), some (.int a4), some (.int a5), some (.int (x5 - x7))]) (st' := []) (h' := h8) 1 (fun n => if_pos hc) ?_
        refine zT_st (pc' := 85) (L' := [some (.ref a0), some (.int a1), some (.int a2), some (.int a3), some (.int a4), some (.int a5), some (.int (x5 - x7))]) (st' := [.int a4, .int a5, .ref a0]) (h' := h8) 3 (fun n => rfl) ?_
        obtain ⟨hq, hw⟩ := hw
        obtain ⟨x9, h10, hx, hw⟩ := hw
        refine zT_call (pc' := 88) (rest := []) 1 (fun n => rfl) hq hx ?_
        show zT E (d + 1) m_m_fire 88 [some (.ref a0), some (.int a1), some (.int a2), some (.int a3), some (.int a4), some (.int a5), some (.int (x5 - x7))] [.int x9] h10 r
        refine zT_st (pc' := 92) (L' := [some (.ref a0), some (.int a1), some (.int a2), some (.int a3), some (.int a4), some (.int a5), some (.int (x5 - x7))]) (st' := [.int a4, .int a3, .ref a0, .int x9]) (h' := h10) 3 (fun n => rfl) ?_
        obtain ⟨hq, hw⟩ := hw
        obtain ⟨x11, h12, hx, hw⟩ := hw
        refine zT_call (pc' := 95) (rest := [.int x9]) 1 (fun n => rfl) hq hx ?_
        show zT E (d + 1) m_m_fire 95 [some (.ref a0), some (.int a1), some (.int a2), some (.int a3), some (.int a4), some (.int a5), some (.int (x5 - x7))] [.int x11, .int x9] h12 r
        by_cases hc : x11 ≤ x9
        · rw [if_pos hc] at hw
          refine zT_st (pc' := 101) (L' := [some (.ref a0), some (.int a1), some (.int a2), some (.int a3), some (.int a4), some (.int a5), some (.int (x5 - x7))]) (st' := []) (h' := h12) 1 (fun n => if_pos hc) ?_
          exact zT_st 2 (fun n => rfl) hw
        · rw [if_neg hc] at hw
          refine zT_st (pc' := 98) (L' := [some (.ref a0), some (.int a1), some (.int a2), some (.int a3), some (.int a4), some (.int a5), some (.int (x5 - x7))]) (st' := []) (h' := h12) 1 (fun n => if_neg hc) ?_
          exact zT_st 4 (fun n => rfl) hw
      · rw [if_neg hc] at hw
        refine zT_st (pc' := 101) (L' := [some (.ref a0), some (.int a1), some (.int a2), some (.int a3), some (.int a4), some (.int a5), some (.int (x5 - x7))]) (st' := []) (h' := h8) 1 (fun n => if_neg hc) ?_
        exact zT_st 2 (fun n => rfl) hw
set_option maxRecDepth 4000 in
theorem s_m_homesBy_0 (E : zX) (d : Nat) (a0 : Nat) (a1 : Int32) (a2 : Int32) (h : zH) (r : zO × zH)
    (hw : zT E (d + 1) m_m_homesBy 5 [some (.ref a0), some (.int a1), some (.int a2), some (.int 0), some (.int 0)] [] h r) :
    zT E (d + 1) m_m_homesBy 0 [some (.ref a0), some (.int a1), some (.int a2), none, none] [] h r := by
  exact zT_st 4 (fun n => rfl) hw
set_option maxRecDepth 4000 in
theorem s_m_homesBy_5 (E : zX) (d : Nat) (a0 : Nat) (a1 : Int32) (a2 : Int32) (a3 : Int32) (a4 : Int32) (h : zH) (r : zO × zH)
    (hw : ∃ x1 : Int32, fld h a0 12 3 = some (.int x1) ∧
    if x1 ≤ a4 then (
      r = (.inl (some (.int a3)), h))
    else (
      ∃ o2 : Nat, fld h a0 12 7 = some (.ref o2) ∧
      ∃ (n3 : Nat) (f4 : Nat → Int32), arr h o2 = some (n3, f4) ∧ ¬ (a4 < 0 ∨ n3 ≤ (a4).toNatClampNeg) ∧
      isO h a0 12 = true ∧ ∃ (x5 : Int32) (h6 : zH), zT E d m_m_farOf 0 [some (.ref a0), some (.int a2), some (.int (f4 (a4).toNatClampNeg))] [] h (.inl (some (.int x5)), h6) ∧
      ∃ o7 : Nat, fld h6 a0 12 40 = some (.ref o7) ∧
      ∃ (n8 : Nat) (f9 : Nat → Int32), arr h6 o7 = some (n8, f9) ∧ ¬ ((39 + a1) < 0 ∨ n8 ≤ ((39 + a1)).toNatClampNeg) ∧
      if ((f9 ((39 + a1)).toNatClampNeg) / 10) < x5 then (
        zT E (d + 1) m_m_homesBy 5 [some (.ref a0), some (.int a1), some (.int a2), some (.int (a3 + 0)), some (.int (a4 + 1))] [] h6 r)
      else (
        zT E (d + 1) m_m_homesBy 5 [some (.ref a0), some (.int a1), some (.int a2), some (.int (a3 + 1)), some (.int (a4 + 1))] [] h6 r))) :
    zT E (d + 1) m_m_homesBy 5 [some (.ref a0), some (.int a1), some (.int a2), some (.int a3), some (.int a4)] [] h r := by
  refine zT_st (pc' := 8) (L' := [some (.ref a0), some (.int a1), some (.int a2), some (.int a3), some (.int a4)]) (st' := [.ref a0, .int a4]) (h' := h) 2 (fun n => rfl) ?_
  obtain ⟨x1, e, hw⟩ := hw
  refine zT_st (pc' := 11) (L' := [some (.ref a0), some (.int a1), some (.int a2), some (.int a3), some (.int a4)]) (st' := [.int x1, .int a4]) (h' := h) 1 (fun n => fld_eq (E := E) e _) ?_
  by_cases hc : x1 ≤ a4
  · rw [if_pos hc] at hw
    refine zT_st (pc' := 55) (L' := [some (.ref a0), some (.int a1), some (.int a2), some (.int a3), some (.int a4)]) (st' := []) (h' := h) 1 (fun n => if_pos hc) ?_
    subst hw
    exact zT_ret 2 rfl
  · rw [if_neg hc] at hw
    refine zT_st (pc' := 14) (L' := [some (.ref a0), some (.int a1), some (.int a2), some (.int a3), some (.int a4)]) (st' := []) (h' := h) 1 (fun n => if_neg hc) ?_
    refine zT_st (pc' := 18) (L' := [some (.ref a0), some (.int a1), some (.int a2), some (.int a3), some (.int a4)]) (st' := [.ref a0, .int a2, .ref a0, .int a3]) (h' := h) 4 (fun n => rfl) ?_
    obtain ⟨o2, e, hw⟩ := hw
    refine zT_st (pc' := 21) (L' := [some (.ref a0), some (.int a1), some (.int a2), some (.int a3), some (.int a4)]) (st' := [.ref o2, .int a2, .ref a0, .int a3]) (h' := h) 1 (fun n => fld_eq (E := E) e _) ?_
    refine zT_st (pc' := 23) (L' := [some (.ref a0), some (.int a1), some (.int a2), some (.int a3), some (.int a4)]) (st' := [.int a4, .ref o2, .int a2, .ref a0, .int a3]) (h' := h) 1 (fun n => rfl) ?_
    obtain ⟨n3, f4, e, hi, hw⟩ := hw
    refine zT_st (pc' := 24) (L' := [some (.ref a0), some (.int a1), some (.int a2), some (.int a3), some (.int a4)]) (st' := [.int (f4 (a4).toNatClampNeg), .int a2, .ref a0, .int a3]) (h' := h) 1 (fun n => arr_eq (E := E) e hi [.int a2, .ref a0, .int a3] (fun st => zrun zP zCd E n (d + 1) m_m_homesBy 24 [some (.ref a0), some (.int a1), some (.int a2), some (.int a3), some (.int a4)] st h)) ?_
    obtain ⟨hq, hw⟩ := hw
    obtain ⟨x5, h6, hx, hw⟩ := hw
    refine zT_call (pc' := 27) (rest := [.int a3]) 1 (fun n => rfl) hq hx ?_
    show zT E (d + 1) m_m_homesBy 27 [some (.ref a0), some (.int a1), some (.int a2), some (.int a3), some (.int a4)] [.int x5, .int a3] h6 r
    refine zT_st (pc' := 28) (L' := [some (.ref a0), some (.int a1), some (.int a2), some (.int a3), some (.int a4)]) (st' := [.ref a0, .int x5, .int a3]) (h' := h6) 1 (fun n => rfl) ?_
    obtain ⟨o7, e, hw⟩ := hw
    refine zT_st (pc' := 31) (L' := [some (.ref a0), some (.int a1), some (.int a2), some (.int a3), some (.int a4)]) (st' := [.ref o7, .int x5, .int a3]) (h' := h6) 1 (fun n => fld_eq (E := E) e _) ?_
    refine zT_st (pc' := 35) (L' := [some (.ref a0), some (.int a1), some (.int a2), some (.int a3), some (.int a4)]) (st' := [.int (39 + a1), .ref o7, .int x5, .int a3]) (h' := h6) 3 (fun n => rfl) ?_
    obtain ⟨n8, f9, e, hi, hw⟩ := hw
    refine zT_st (pc' := 36) (L' := [some (.ref a0), some (.int a1), some (.int a2), some (.int a3), some (.int a4)]) (st' := [.int (f9 ((39 + a1)).toNatClampNeg), .int x5, .int a3]) (h' := h6) 1 (fun n => arr_eq (E := E) e hi [.int x5, .int a3] (fun st => zrun zP zCd E n (d + 1) m_m_homesBy 36 [some (.ref a0), some (.int a1), some (.int a2), some (.int a3), some (.int a4)] st h6)) ?_
    refine zT_st (pc' := 38) (L' := [some (.ref a0), some (.int a1), some (.int a2), some (.int a3), some (.int a4)]) (st' := [.int 10, .int (f9 ((39 + a1)).toNatClampNeg), .int x5, .int a3]) (h' := h6) 1 (fun n => rfl) ?_
    refine zT_st (pc' := 39) (L' := [some (.ref a0), some (.int a1), some (.int a2), some (.int a3), some (.int a4)]) (st' := [.int ((f9 ((39 + a1)).toNatClampNeg) / 10), .int x5, .int a3]) (h' := h6) 1 (fun n => rfl) ?_
    by_cases hc : ((f9 ((39 + a1)).toNatClampNeg) / 10) < x5
    · rw [if_pos hc] at hw
      refine zT_st (pc' := 46) (L' := [some (.ref a0), some (.int a1), some (.int a2), some (.int a3), some (.int a4)]) (st' := [.int a3]) (h' := h6) 1 (fun n => if_pos hc) ?_
      exact zT_st 5 (fun n => rfl) hw
    · rw [if_neg hc] at hw
      refine zT_st (pc' := 42) (L' := [some (.ref a0), some (.int a1), some (.int a2), some (.int a3), some (.int a4)]) (st' := [.int a3]) (h' := h6) 1 (fun n => if_neg hc) ?_
      exact zT_st 6 (fun n => rfl) hw
set_option maxRecDepth 4000 in
theorem s_m_cell_0 (E : zX) (d : Nat) (a0 : Nat) (a1 : Int32) (a2 : Int32) (h : zH) (r : zO × zH)
    (hw : (∃ w, fld h a0 12 0 = some w) ∧
    isO (setF h a0 0 (.int 0)) a0 12 = true ∧ ∃ (x1 : Int32) (h2 : zH), zT E d m_m_isCell 0 [some (.ref a0), some (.int a1)] [] (setF h a0 0 (.int 0)) (.inl (some (.int x1)), h2) ∧
    if x1 = 0 then (
      r = (.inl (some (.int 0)), h2))
    else (
      isO h2 a0 12 = true ∧ ∃ (x3 : Int32) (h4 : zH), zT E d m_m_isWhat 0 [some (.ref a0), some (.int a2), some (.int 1)] [] h2 (.inl (some (.int x3)), h4) ∧
      if x3 = 0 then (
        r = (.inl (some (.int 0)), h4))
      else (
        zT E (d + 1) m_m_cell 32 [some (.ref a0), some (.int a1), some (.int a2), some (.int 0), some (.int (-1)), some (.int 0)] [] h4 r))) :
    zT E (d + 1) m_m_cell 0 [some (.ref a0), some (.int a1), some (.int a2), none, none, none] [] h r := by
  refine zT_st (pc' := 2) (L' := [some (.ref a0), some (.int a1), some (.int a2), none, none, none]) (st' := [.int 0, .ref a0]) (h' := h) 2 (fun n => rfl) ?_
  obtain ⟨⟨w, e⟩, hw⟩ := hw
  refine zT_st (pc' := 5) (L' := [some (.ref a0), some (.int a1), some (.int a2), none, none, none]) (st' := []) (h' := (setF h a0 0 (.int 0))) 1 (fun n => put_eq e rfl _ _) ?_
  refine zT_st (pc' := 7) (L' := [some (.ref a0), some (.int a1), some (.int a2), none, none, none]) (st' := [.int a1, .ref a0]) (h' := (setF h a0 0 (.int 0))) 2 (fun n => rfl) ?_
  obtain ⟨hq, hw⟩ := hw
  obtain ⟨x1, h2, hx, hw⟩ := hw
  refine zT_call (pc' := 10) (rest := []) 1 (fun n => rfl) hq hx ?_
  show zT E (d + 1) m_m_cell 10 [some (.ref a0), some (.int a1), some (.int a2), none, none, none] [.int x1] h2 r
  by_cases hc : x1 = 0
  · rw [if_pos hc] at hw
    refine zT_st (pc' := 22) (L' := [some (.ref a0), some (.int a1), some (.int a2), none, none, none]) (st' := []) (h' := h2) 1 (fun n => if_pos hc) ?_
    subst hw
    exact zT_ret 2 rfl
  · rw [if_neg hc] at hw
    refine zT_st (pc' := 13) (L' := [some (.ref a0), some (.int a1), some (.int a2), none, none, none]) (st' := []) (h' := h2) 1 (fun n => if_neg hc) ?_
    refine zT_st (pc' := 16) (L' := [some (.ref a0), some (.int a1), some (.int a2), none, none, none]) (st' := [.int 1, .int a2, .ref a0]) (h' := h2) 3 (fun n => rfl) ?_
    obtain ⟨hq, hw⟩ := hw
    obtain ⟨x3, h4, hx, hw⟩ := hw
    refine zT_call (pc' := 19) (rest := []) 1 (fun n => rfl) hq hx ?_
    show zT E (d + 1) m_m_cell 19 [some (.ref a0), some (.int a1), some (.int a2), none, none, none] [.int x3] h4 r
    by_cases hc : x3 = 0
    · rw [if_pos hc] at hw
      refine zT_st (pc' := 22) (L' := [some (.ref a0), some (.int a1), some (.int a2), none, none, none]) (st' := []) (h' := h4) 1 (fun n => if_pos hc) ?_
      subst hw
      exact zT_ret 2 rfl
    · rw [if_neg hc] at hw
      refine zT_st (pc' := 24) (L' := [some (.ref a0), some (.int a1), some (.int a2), none, none, none]) (st' := []) (h' := h4) 1 (fun n => if_neg hc) ?_
      exact zT_st 6 (fun n => rfl) hw
set_option maxRecDepth 4000 in
theorem s_m_cell_32 (E : zX) (d : Nat) (a0 : Nat) (a1 : Int32) (a2 : Int32) (a3 : Int32) (a4 : Int32) (a5 : Int32) (h : zH) (r : zO × zH)
    (hw : ∃ x1 : Int32, fld h a0 12 4 = some (.int x1) ∧
    if x1 ≤ a5 then (
      if a2 = 0 then (
        r = (.inl (some (.int a3)), h))
      else (
        r = (.inl (some (.int a4)), h)))
    else (
      isO h a0 12 = true ∧ ∃ (x2 : Int32) (h3 : zH), zT E d m_m_isWhite 0 [some (.ref a0), some (.int 0), some (.int a5)] [] h (.inl (some (.int x2)), h3) ∧
      if x2 = 0 then (
        isO h3 a0 12 = true ∧ ∃ (x4 : Int32) (h5 : zH), zT E d m_m_isIn 0 [some (.ref a0), some (.int 0), some (.int a5), some (.int a1)] [] h3 (.inl (some (.int x4)), h5) ∧
        if x4 = 0 then (
          zT E (d + 1) m_m_cell 71 [some (.ref a0), some (.int a1), some (.int a2), some (.int a3), some (.int a4), some (.int a5)] [.int 0, .int a3] h5 r)
        else (
          zT E (d + 1) m_m_cell 71 [some (.ref a0), some (.int a1), some (.int a2), some (.int a3), some (.int a4), some (.int a5)] [.int (1 <<< (a5 &&& 31)), .int a3] h5 r))
      else (
        zT E (d + 1) m_m_cell 71 [some (.ref a0), some (.int a1), some (.int a2), some (.int a3), some (.int a4), some (.int a5)] [.int 0, .int a3] h3 r))) :
    zT E (d + 1) m_m_cell 32 [some (.ref a0), some (.int a1), some (.int a2), some (.int a3), some (.int a4), some (.int a5)] [] h r := by
  refine zT_st (pc' := 35) (L' := [some (.ref a0), some (.int a1), some (.int a2), some (.int a3), some (.int a4), some (.int a5)]) (st' := [.ref a0, .int a5]) (h' := h) 2 (fun n => rfl) ?_
  obtain ⟨x1, e, hw⟩ := hw
  refine zT_st (pc' := 38) (L' := [some (.ref a0), some (.int a1), some (.int a2), some (.int a3), some (.int a4), some (.int a5)]) (st' := [.int x1, .int a5]) (h' := h) 1 (fun n => fld_eq (E := E) e _) ?_
  by_cases hc : x1 ≤ a5
  · rw [if_pos hc] at hw
    refine zT_st (pc' := 122) (L' := [some (.ref a0), some (.int a1), some (.int a2), some (.int a3), some (.int a4), some (.int a5)]) (st' := []) (h' := h) 1 (fun n => if_pos hc) ?_
    refine zT_st (pc' := 123) (L' := [some (.ref a0), some (.int a1), some (.int a2), some (.int a3), some (.int a4), some (.int a5)]) (st' := [.int a2]) (h' := h) 1 (fun n => rfl) ?_
    by_cases hc : a2 = 0
    · rw [if_pos hc] at hw
      refine zT_st (pc' := 126) (L' := [some (.ref a0), some (.int a1), some (.int a2), some (.int a3), some (.int a4), some (.int a5)]) (st' := []) (h' := h) 1 (fun n => if_pos hc) ?_
      subst hw
      exact zT_ret 3 rfl
    · rw [if_neg hc] at hw
      refine zT_st (pc' := 130) (L' := [some (.ref a0), some (.int a1), some (.int a2), some (.int a3), some (.int a4), some (.int a5)]) (st' := []) (h' := h) 1 (fun n => if_neg hc) ?_
      subst hw
      exact zT_ret 2 rfl
  · rw [if_neg hc] at hw
    refine zT_st (pc' := 41) (L' := [some (.ref a0), some (.int a1), some (.int a2), some (.int a3), some (.int a4), some (.int a5)]) (st' := []) (h' := h) 1 (fun n => if_neg hc) ?_
    refine zT_st (pc' := 46) (L' := [some (.ref a0), some (.int a1), some (.int a2), some (.int a3), some (.int a4), some (.int a5)]) (st' := [.int a5, .int 0, .ref a0, .int a3]) (h' := h) 4 (fun n => rfl) ?_
    obtain ⟨hq, hw⟩ := hw
    obtain ⟨x2, h3, hx, hw⟩ := hw
    refine zT_call (pc' := 49) (rest := [.int a3]) 1 (fun n => rfl) hq hx ?_
    show zT E (d + 1) m_m_cell 49 [some (.ref a0), some (.int a1), some (.int a2), some (.int a3), some (.int a4), some (.int a5)] [.int x2, .int a3] h3 r
    by_cases hc : x2 = 0
    · rw [if_pos hc] at hw
      refine zT_st (pc' := 52) (L' := [some (.ref a0), some (.int a1), some (.int a2), some (.int a3), some (.int a4), some (.int a5)]) (st' := [.int a3]) (h' := h3) 1 (fun n => if_pos hc) ?_
      refine zT_st (pc' := 57) (L' := [some (.ref a0), some (.int a1), some (.int a2), some (.int a3), some (.int a4), some (.int a5)]) (st' := [.int a1, .int a5, .int 0, .ref a0, .int a3]) (h' := h3) 4 (fun n => rfl) ?_
      obtain ⟨hq, hw⟩ := hw
      obtain ⟨x4, h5, hx, hw⟩ := hw
      refine zT_call (pc' := 60) (rest := [.int a3]) 1 (fun n => rfl) hq hx ?_
      show zT E (d + 1) m_m_cell 60 [some (.ref a0), some (.int a1), some (.int a2), some (.int a3), some (.int a4), some (.int a5)] [.int x4, .int a3] h5 r
      by_cases hc : x4 = 0
      · rw [if_pos hc] at hw
        refine zT_st (pc' := 70) (L' := [some (.ref a0), some (.int a1), some (.int a2), some (.int a3), some (.int a4), some (.int a5)]) (st' := [.int a3]) (h' := h5) 1 (fun n => if_pos hc) ?_
        exact zT_st 1 (fun n => rfl) hw
      · rw [if_neg hc] at hw
        refine zT_st (pc' := 63) (L' := [some (.ref a0), some (.int a1), some (.int a2), some (.int a3), some (.int a4), some (.int a5)]) (st' := [.int a3]) (h' := h5) 1 (fun n => if_neg hc) ?_
        exact zT_st 4 (fun n => rfl) hw
    · rw [if_neg hc] at hw
      refine zT_st (pc' := 70) (L' := [some (.ref a0), some (.int a1), some (.int a2), some (.int a3), some (.int a4), some (.int a5)]) (st' := [.int a3]) (h' := h3) 1 (fun n => if_neg hc) ?_
      exact zT_st 1 (fun n => rfl) hw
set_option maxRecDepth 4000 in
theorem s_m_cell_71 (E : zX) (d : Nat) (a0 : Nat) (a1 : Int32) (a2 : Int32) (j3 : Option Value) (a4 : Int32) (a5 : Int32) (s0 : Int32) (s1 : Int32) (h : zH) (r : zO × zH)
    (hw : if a4 = (-1) then (
      zT E (d + 1) m_m_cell 32 [some (.ref a0), some (.int a1), some (.int a2), some (.int (s0 ||| s1)), some (.int a5), some (.int (a5 + 1))] [] h r)
    else (
      ∃ o1 : Nat, fld h a0 12 40 = some (.ref o1) ∧
      ∃ (n2 : Nat) (f3 : Nat → Int32), arr h o1 = some (n2, f3) ∧ ¬ ((29 + a5) < 0 ∨ n2 ≤ ((29 + a5)).toNatClampNeg) ∧
      isO h a0 12 = true ∧ ∃ (x4 : Int32) (h5 : zH), zT E d m_m_farOf 0 [some (.ref a0), some (.int (f3 ((29 + a5)).toNatClampNeg)), some (.int a1)] [] h (.inl (some (.int x4)), h5) ∧
      ∃ o6 : Nat, fld h5 a0 12 40 = some (.ref o6) ∧
      ∃ (n7 : Nat) (f8 : Nat → Int32), arr h5 o6 = some (n7, f8) ∧ ¬ ((29 + a4) < 0 ∨ n7 ≤ ((29 + a4)).toNatClampNeg) ∧
      isO h5 a0 12 = true ∧ ∃ (x9 : Int32) (h10 : zH), zT E d m_m_farOf 0 [some (.ref a0), some (.int (f8 ((29 + a4)).toNatClampNeg)), some (.int a1)] [] h5 (.inl (some (.int x9)), h10) ∧
      if x9 ≤ x4 then (
        zT E (d + 1) m_m_cell 32 [some (.ref a0), some (.int a1), some (.int a2), some (.int (s0 ||| s1)), some (.int a4), some (.int (a5 + 1))] [] h10 r)
      else (
        zT E (d + 1) m_m_cell 32 [some (.ref a0), some (.int a1), some (.int a2), some (.int (s0 ||| s1)), some (.int a5), some (.int (a5 + 1))] [] h10 r))) :
    zT E (d + 1) m_m_cell 71 [some (.ref a0), some (.int a1), some (.int a2), j3, some (.int a4), some (.int a5)] [.int s1, .int s0] h r := by
  refine zT_st (pc' := 76) (L' := [some (.ref a0), some (.int a1), some (.int a2), some (.int (s0 ||| s1)), some (.int a4), some (.int a5)]) (st' := [.int (-1), .int a4]) (h' := h) 4 (fun n => rfl) ?_
  by_cases hc : a4 = (-1)
  · rw [if_pos hc] at hw
    refine zT_st (pc' := 112) (L' := [some (.ref a0), some (.int a1), some (.int a2), some (.int (s0 ||| s1)), some (.int a4), some (.int a5)]) (st' := []) (h' := h) 1 (fun n => if_pos hc) ?_
    exact zT_st 4 (fun n => rfl) hw
  · rw [if_neg hc] at hw
    refine zT_st (pc' := 79) (L' := [some (.ref a0), some (.int a1), some (.int a2), some (.int (s0 ||| s1)), some (.int a4), some (.int a5)]) (st' := []) (h' := h) 1 (fun n => if_neg hc) ?_
    refine zT_st (pc' := 81) (L' := [some (.ref a0), some (.int a1), some (.int a2), some (.int (s0 ||| s1)), some (.int a4), some (.int a5)]) (st' := [.ref a0, .ref a0]) (h' := h) 2 (fun n => rfl) ?_
    obtain ⟨o1, e, hw⟩ := hw
    refine zT_st (pc' := 84) (L' := [some (.ref a0), some (.int a1), some (.int a2), some (.int (s0 ||| s1)), some (.int a4), some (.int a5)]) (st' := [.ref o1, .ref a0]) (h' := h) 1 (fun n => fld_eq (E := E) e _) ?_
    refine zT_st (pc' := 89) (L' := [some (.ref a0), some (.int a1), some (.int a2), some (.int (s0 ||| s1)), some (.int a4), some (.int a5)]) (st' := [.int (29 + a5), .ref o1, .ref a0]) (h' := h) 3 (fun n => rfl) ?_
    obtain ⟨n2, f3, e, hi, hw⟩ := hw
    refine zT_st (pc' := 90) (L' := [some (.ref a0), some (.int a1), some (.int a2), some (.int (s0 ||| s1)), some (.int a4), some (.int a5)]) (st' := [.int (f3 ((29 + a5)).toNatClampNeg), .ref a0]) (h' := h) 1 (fun n => arr_eq (E := E) e hi [.ref a0] (fun st => zrun zP zCd E n (d + 1) m_m_cell 90 [some (.ref a0), some (.int a1), some (.int a2), some (.int (s0 ||| s1)), some (.int a4), some (.int a5)] st h)) ?_
    refine zT_st (pc' := 91) (L' := [some (.ref a0), some (.int a1), some (.int a2), some (.int (s0 ||| s1)), some (.int a4), some (.int a5)]) (st' := [.int a1, .int (f3 ((29 + a5)).toNatClampNeg), .ref a0]) (h' := h) 1 (fun n => rfl) ?_
    obtain ⟨hq, hw⟩ := hw
    obtain ⟨x4, h5, hx, hw⟩ := hw
    refine zT_call (pc' := 94) (rest := []) 1 (fun n => rfl) hq hx ?_
    show zT E (d + 1) m_m_cell 94 [some (.ref a0), some (.int a1), some (.int a2), some (.int (s0 ||| s1)), some (.int a4), some (.int a5)] [.int x4] h5 r
    refine zT_st (pc' := 96) (L' := [some (.ref a0), some (.int a1), some (.int a2), some (.int (s0 ||| s1)), some (.int a4), some (.int a5)]) (st' := [.ref a0, .ref a0, .int x4]) (h' := h5) 2 (fun n => rfl) ?_
    obtain ⟨o6, e, hw⟩ := hw
    refine zT_st (pc' := 99) (L' := [some (.ref a0), some (.int a1), some (.int a2), some (.int (s0 ||| s1)), some (.int a4), some (.int a5)]) (st' := [.ref o6, .ref a0, .int x4]) (h' := h5) 1 (fun n => fld_eq (E := E) e _) ?_
    refine zT_st (pc' := 104) (L' := [some (.ref a0), some (.int a1), some (.int a2), some (.int (s0 ||| s1)), some (.int a4), some (.int a5)]) (st' := [.int (29 + a4), .ref o6, .ref a0, .int x4]) (h' := h5) 3 (fun n => rfl) ?_
    obtain ⟨n7, f8, e, hi, hw⟩ := hw
    refine zT_st (pc' := 105) (L' := [some (.ref a0), some (.int a1), some (.int a2), some (.int (s0 ||| s1)), some (.int a4), some (.int a5)]) (st' := [.int (f8 ((29 + a4)).toNatClampNeg), .ref a0, .int x4]) (h' := h5) 1 (fun n => arr_eq (E := E) e hi [.ref a0, .int x4] (fun st => zrun zP zCd E n (d + 1) m_m_cell 105 [some (.ref a0), some (.int a1), some (.int a2), some (.int (s0 ||| s1)), some (.int a4), some (.int a5)] st h5)) ?_
    refine zT_st (pc' := 106) (L' := [some (.ref a0), some (.int a1), some (.int a2), some (.int (s0 ||| s1)), some (.int a4), some (.int a5)]) (st' := [.int a1, .int (f8 ((29 + a4)).toNatClampNeg), .ref a0, .int x4]) (h' := h5) 1 (fun n => rfl) ?_
    obtain ⟨hq, hw⟩ := hw
    obtain ⟨x9, h10, hx, hw⟩ := hw
    refine zT_call (pc' := 109) (rest := [.int x4]) 1 (fun n => rfl) hq hx ?_
    show zT E (d + 1) m_m_cell 109 [some (.ref a0), some (.int a1), some (.int a2), some (.int (s0 ||| s1)), some (.int a4), some (.int a5)] [.int x9, .int x4] h10 r
    by_cases hc : x9 ≤ x4
    · rw [if_pos hc] at hw
      refine zT_st (pc' := 116) (L' := [some (.ref a0), some (.int a1), some (.int a2), some (.int (s0 ||| s1)), some (.int a4), some (.int a5)]) (st' := []) (h' := h10) 1 (fun n => if_pos hc) ?_
      exact zT_st 2 (fun n => rfl) hw
    · rw [if_neg hc] at hw
      refine zT_st (pc' := 112) (L' := [some (.ref a0), some (.int a1), some (.int a2), some (.int (s0 ||| s1)), some (.int a4), some (.int a5)]) (st' := []) (h' := h10) 1 (fun n => if_neg hc) ?_
      exact zT_st 4 (fun n => rfl) hw
set_option maxRecDepth 4000 in
theorem s_m_laysFar_0 (E : zX) (d : Nat) (a0 : Nat) (a1 : Int32) (h : zH) (r : zO × zH)
    (hw : zT E (d + 1) m_m_laysFar 2 [some (.ref a0), some (.int a1), some (.int 0), none, none, none, none] [] h r) :
    zT E (d + 1) m_m_laysFar 0 [some (.ref a0), some (.int a1), none, none, none, none, none] [] h r := by
  exact zT_st 2 (fun n => rfl) hw
set_option maxRecDepth 4000 in
theorem s_m_laysFar_2 (E : zX) (d : Nat) (a0 : Nat) (a1 : Int32) (a2 : Int32) (j3 : Option Value) (j4 : Option Value) (j5 : Option Value) (j6 : Option Value) (h : zH) (r : zO × zH)
    (hw : if 36 ≤ a2 then (
      ∃ o1 : Nat, fld h a0 12 49 = some (.ref o1) ∧
      ∃ (n2 : Nat) (f3 : Nat → Int32), arr h o1 = some (n2, f3) ∧ ¬ (a1 < 0 ∨ n2 ≤ (a1).toNatClampNeg) ∧
      isO (setA h o1 n2 (upd f3 (a1).toNatClampNeg 0)) a0 12 = true ∧ ∃ (x4 : Int32) (h5 : zH), zT E d m_m_isShut 0 [some (.ref a0), some (.int a1), none, none] [] (setA h o1 n2 (upd f3 (a1).toNatClampNeg 0)) (.inl (some (.int x4)), h5) ∧
      if x4 = 0 then (
        ∃ o6 : Nat, fld h5 a0 12 50 = some (.ref o6) ∧
        ∃ (n7 : Nat) (f8 : Nat → Int32), arr h5 o6 = some (n7, f8) ∧ ¬ ((0 : Int32) < 0 ∨ n7 ≤ ((0 : Int32)).toNatClampNeg) ∧
        zT E (d + 1) m_m_laysFar 51 [some (.ref a0), some (.int a1), some (.int 0), some (.int 1), j4, j5, j6] [] (setA h5 o6 n7 (upd f8 ((0 : Int32)).toNatClampNeg a1)) r)
      else (
        zT E (d + 1) m_m_laysFar 51 [some (.ref a0), some (.int a1), some (.int 0), some (.int 0), j4, j5, j6] [] h5 r))
    else (
      ∃ o9 : Nat, fld h a0 12 49 = some (.ref o9) ∧
      ∃ (n10 : Nat) (f11 : Nat → Int32), arr h o9 = some (n10, f11) ∧ ¬ (a2 < 0 ∨ n10 ≤ (a2).toNatClampNeg) ∧
      zT E (d + 1) m_m_laysFar 2 [some (.ref a0), some (.int a1), some (.int (a2 + 1)), j3, j4, j5, j6] [] (setA h o9 n10 (upd f11 (a2).toNatClampNeg 9999)) r)) :
    zT E (d + 1) m_m_laysFar 2 [some (.ref a0), some (.int a1), some (.int a2), j3, j4, j5, j6] [] h r := by
  refine zT_st (pc' := 5) (L' := [some (.ref a0), some (.int a1), some (.int a2), j3, j4, j5, j6]) (st' := [.int 36, .int a2]) (h' := h) 2 (fun n => rfl) ?_
  by_cases hc : 36 ≤ a2
  · rw [if_pos hc] at hw
    refine zT_st (pc' := 23) (L' := [some (.ref a0), some (.int a1), some (.int a2), j3, j4, j5, j6]) (st' := []) (h' := h) 1 (fun n => if_pos hc) ?_
    refine zT_st (pc' := 24) (L' := [some (.ref a0), some (.int a1), some (.int a2), j3, j4, j5, j6]) (st' := [.ref a0]) (h' := h) 1 (fun n => rfl) ?_
    obtain ⟨o1, e, hw⟩ := hw
    refine zT_st (pc' := 27) (L' := [some (.ref a0), some (.int a1), some (.int a2), j3, j4, j5, j6]) (st' := [.ref o1]) (h' := h) 1 (fun n => fld_eq (E := E) e _) ?_
    refine zT_st (pc' := 29) (L' := [some (.ref a0), some (.int a1), some (.int a2), j3, j4, j5, j6]) (st' := [.int 0, .int a1, .ref o1]) (h' := h) 2 (fun n => rfl) ?_
    obtain ⟨n2, f3, e, hi, hw⟩ := hw
    refine zT_st (pc' := 30) (L' := [some (.ref a0), some (.int a1), some (.int a2), j3, j4, j5, j6]) (st' := []) (h' := (setA h o1 n2 (upd f3 (a1).toNatClampNeg 0))) 1 (fun n => set_eq e hi _ _) ?_
    refine zT_st (pc' := 36) (L' := [some (.ref a0), some (.int a1), some (.int 0), some (.int 0), j4, j5, j6]) (st' := [.int a1, .ref a0]) (h' := (setA h o1 n2 (upd f3 (a1).toNatClampNeg 0))) 6 (fun n => rfl) ?_
    obtain ⟨hq, hw⟩ := hw
    obtain ⟨x4, h5, hx, hw⟩ := hw
    refine zT_call (pc' := 39) (rest := []) 1 (fun n => rfl) hq hx ?_
    show zT E (d + 1) m_m_laysFar 39 [some (.ref a0), some (.int a1), some (.int 0), some (.int 0), j4, j5, j6] [.int x4] h5 r
    by_cases hc : x4 = 0
    · rw [if_pos hc] at hw
      refine zT_st (pc' := 42) (L' := [some (.ref a0), some (.int a1), some (.int 0), some (.int 0), j4, j5, j6]) (st' := []) (h' := h5) 1 (fun n => if_pos hc) ?_
      refine zT_st (pc' := 43) (L' := [some (.ref a0), some (.int a1), some (.int 0), some (.int 0), j4, j5, j6]) (st' := [.ref a0]) (h' := h5) 1 (fun n => rfl) ?_
      obtain ⟨o6, e, hw⟩ := hw
      refine zT_st (pc' := 46) (L' := [some (.ref a0), some (.int a1), some (.int 0), some (.int 0), j4, j5, j6]) (st' := [.ref o6]) (h' := h5) 1 (fun n => fld_eq (E := E) e _) ?_
      refine zT_st (pc' := 48) (L' := [some (.ref a0), some (.int a1), some (.int 0), some (.int 0), j4, j5, j6]) (st' := [.int a1, .int 0, .ref o6]) (h' := h5) 2 (fun n => rfl) ?_
      obtain ⟨n7, f8, e, hi, hw⟩ := hw
      refine zT_st (pc' := 49) (L' := [some (.ref a0), some (.int a1), some (.int 0), some (.int 0), j4, j5, j6]) (st' := []) (h' := (setA h5 o6 n7 (upd f8 ((0 : Int32)).toNatClampNeg a1))) 1 (fun n => set_eq e hi _ _) ?_
      exact zT_st 2 (fun n => rfl) hw
    · rw [if_neg hc] at hw
      refine zT_st (pc' := 51) (L' := [some (.ref a0), some (.int a1), some (.int 0), some (.int 0), j4, j5, j6]) (st' := []) (h' := h5) 1 (fun n => if_neg hc) ?_
      exact hw
  · rw [if_neg hc] at hw
    refine zT_st (pc' := 8) (L' := [some (.ref a0), some (.int a1), some (.int a2), j3, j4, j5, j6]) (st' := []) (h' := h) 1 (fun n => if_neg hc) ?_
    refine zT_st (pc' := 9) (L' := [some (.ref a0), some (.int a1), some (.int a2), j3, j4, j5, j6]) (st' := [.ref a0]) (h' := h) 1 (fun n => rfl) ?_
    obtain ⟨o9, e, hw⟩ := hw
    refine zT_st (pc' := 12) (L' := [some (.ref a0), some (.int a1), some (.int a2), j3, j4, j5, j6]) (st' := [.ref o9]) (h' := h) 1 (fun n => fld_eq (E := E) e _) ?_
    refine zT_st (pc' := 16) (L' := [some (.ref a0), some (.int a1), some (.int a2), j3, j4, j5, j6]) (st' := [.int 9999, .int a2, .ref o9]) (h' := h) 2 (fun n => rfl) ?_
    obtain ⟨n10, f11, e, hi, hw⟩ := hw
    refine zT_st (pc' := 17) (L' := [some (.ref a0), some (.int a1), some (.int a2), j3, j4, j5, j6]) (st' := []) (h' := (setA h o9 n10 (upd f11 (a2).toNatClampNeg 9999))) 1 (fun n => set_eq e hi _ _) ?_
    exact zT_st 2 (fun n => rfl) hw
set_option maxRecDepth 4000 in
theorem s_m_laysFar_51 (E : zX) (d : Nat) (a0 : Nat) (j1 : Option Value) (a2 : Int32) (a3 : Int32) (j4 : Option Value) (j5 : Option Value) (j6 : Option Value) (h : zH) (r : zO × zH)
    (hw : if a3 ≤ a2 then (
      r = (.inl (none), h))
    else (
      ∃ o1 : Nat, fld h a0 12 50 = some (.ref o1) ∧
      ∃ (n2 : Nat) (f3 : Nat → Int32), arr h o1 = some (n2, f3) ∧ ¬ (a2 < 0 ∨ n2 ≤ (a2).toNatClampNeg) ∧
      zT E (d + 1) m_m_laysFar 70 [some (.ref a0), j1, some (.int (a2 + 1)), some (.int a3), some (.int (f3 (a2).toNatClampNeg)), some (.int 0), j6] [] h r)) :
    zT E (d + 1) m_m_laysFar 51 [some (.ref a0), j1, some (.int a2), some (.int a3), j4, j5, j6] [] h r := by
  refine zT_st (pc' := 53) (L' := [some (.ref a0), j1, some (.int a2), some (.int a3), j4, j5, j6]) (st' := [.int a3, .int a2]) (h' := h) 2 (fun n => rfl) ?_
  by_cases hc : a3 ≤ a2
  · rw [if_pos hc] at hw
    refine zT_st (pc' := 156) (L' := [some (.ref a0), j1, some (.int a2), some (.int a3), j4, j5, j6]) (st' := []) (h' := h) 1 (fun n => if_pos hc) ?_
    subst hw
    exact zT_ret 1 rfl
  · rw [if_neg hc] at hw
    refine zT_st (pc' := 56) (L' := [some (.ref a0), j1, some (.int a2), some (.int a3), j4, j5, j6]) (st' := []) (h' := h) 1 (fun n => if_neg hc) ?_
    refine zT_st (pc' := 57) (L' := [some (.ref a0), j1, some (.int a2), some (.int a3), j4, j5, j6]) (st' := [.ref a0]) (h' := h) 1 (fun n => rfl) ?_
    obtain ⟨o1, e, hw⟩ := hw
    refine zT_st (pc' := 60) (L' := [some (.ref a0), j1, some (.int a2), some (.int a3), j4, j5, j6]) (st' := [.ref o1]) (h' := h) 1 (fun n => fld_eq (E := E) e _) ?_
    refine zT_st (pc' := 61) (L' := [some (.ref a0), j1, some (.int a2), some (.int a3), j4, j5, j6]) (st' := [.int a2, .ref o1]) (h' := h) 1 (fun n => rfl) ?_
    obtain ⟨n2, f3, e, hi, hw⟩ := hw
    refine zT_st (pc' := 62) (L' := [some (.ref a0), j1, some (.int a2), some (.int a3), j4, j5, j6]) (st' := [.int (f3 (a2).toNatClampNeg)]) (h' := h) 1 (fun n => arr_eq (E := E) e hi [] (fun st => zrun zP zCd E n (d + 1) m_m_laysFar 62 [some (.ref a0), j1, some (.int a2), some (.int a3), j4, j5, j6] st h)) ?_
    exact zT_st 4 (fun n => rfl) hw
set_option maxRecDepth 4000 in
theorem s_m_laysFar_70 (E : zX) (d : Nat) (a0 : Nat) (j1 : Option Value) (a2 : Int32) (a3 : Int32) (a4 : Int32) (a5 : Int32) (j6 : Option Value) (h : zH) (r : zO × zH)
    (hw : if 4 ≤ a5 then (
      zT E (d + 1) m_m_laysFar 51 [some (.ref a0), j1, some (.int a2), some (.int a3), some (.int a4), some (.int a5), j6] [] h r)
    else (
      isO h a0 12 = true ∧ ∃ (x1 : Int32) (h2 : zH), zT E d m_m_beside 0 [some (.ref a0), some (.int a4), some (.int a5)] [] h (.inl (some (.int x1)), h2) ∧
      if x1 = (-1) then (
        zT E (d + 1) m_m_laysFar 70 [some (.ref a0), j1, some (.int a2), some (.int a3), some (.int a4), some (.int (a5 + 1)), some (.int x1)] [] h2 r)
      else (
        ∃ o3 : Nat, fld h2 a0 12 49 = some (.ref o3) ∧
        ∃ (n4 : Nat) (f5 : Nat → Int32), arr h2 o3 = some (n4, f5) ∧ ¬ (x1 < 0 ∨ n4 ≤ (x1).toNatClampNeg) ∧
        if 9999 ≤ (f5 (x1).toNatClampNeg) then (
          ∃ o6 : Nat, fld h2 a0 12 49 = some (.ref o6) ∧
          ∃ o7 : Nat, fld h2 a0 12 49 = some (.ref o7) ∧
          ∃ (n8 : Nat) (f9 : Nat → Int32), arr h2 o7 = some (n8, f9) ∧ ¬ (a4 < 0 ∨ n8 ≤ (a4).toNatClampNeg) ∧
          ∃ (n10 : Nat) (f11 : Nat → Int32), arr h2 o6 = some (n10, f11) ∧ ¬ (x1 < 0 ∨ n10 ≤ (x1).toNatClampNeg) ∧
          isO (setA h2 o6 n10 (upd f11 (x1).toNatClampNeg ((f9 (a4).toNatClampNeg) + 1))) a0 12 = true ∧ ∃ (x12 : Int32) (h13 : zH), zT E d m_m_isShut 0 [some (.ref a0), some (.int x1), none, none] [] (setA h2 o6 n10 (upd f11 (x1).toNatClampNeg ((f9 (a4).toNatClampNeg) + 1))) (.inl (some (.int x12)), h13) ∧
          if x12 = 0 then (
            ∃ o14 : Nat, fld h13 a0 12 50 = some (.ref o14) ∧
            ∃ (n15 : Nat) (f16 : Nat → Int32), arr h13 o14 = some (n15, f16) ∧ ¬ (a3 < 0 ∨ n15 ≤ (a3).toNatClampNeg) ∧
            zT E (d + 1) m_m_laysFar 70 [some (.ref a0), j1, some (.int a2), some (.int (a3 + 1)), some (.int a4), some (.int (a5 + 1)), some (.int x1)] [] (setA h13 o14 n15 (upd f16 (a3).toNatClampNeg x1)) r)
          else (
            zT E (d + 1) m_m_laysFar 70 [some (.ref a0), j1, some (.int a2), some (.int a3), some (.int a4), some (.int (a5 + 1)), some (.int x1)] [] h13 r))
        else (
          zT E (d + 1) m_m_laysFar 70 [some (.ref a0), j1, some (.int a2), some (.int a3), some (.int a4), some (.int (a5 + 1)), some (.int x1)] [] h2 r)))) :
    zT E (d + 1) m_m_laysFar 70 [some (.ref a0), j1, some (.int a2), some (.int a3), some (.int a4), some (.int a5), j6] [] h r := by
  refine zT_st (pc' := 73) (L' := [some (.ref a0), j1, some (.int a2), some (.int a3), some (.int a4), some (.int a5), j6]) (st' := [.int 4, .int a5]) (h' := h) 2 (fun n => rfl) ?_
  by_cases hc : 4 ≤ a5
  · rw [if_pos hc] at hw
    refine zT_st (pc' := 153) (L' := [some (.ref a0), j1, some (.int a2), some (.int a3), some (.int a4), some (.int a5), j6]) (st' := []) (h' := h) 1 (fun n => if_pos hc) ?_
    exact zT_st 1 (fun n => rfl) hw
  · rw [if_neg hc] at hw
    refine zT_st (pc' := 76) (L' := [some (.ref a0), j1, some (.int a2), some (.int a3), some (.int a4), some (.int a5), j6]) (st' := []) (h' := h) 1 (fun n => if_neg hc) ?_
    refine zT_st (pc' := 81) (L' := [some (.ref a0), j1, some (.int a2), some (.int a3), some (.int a4), some (.int a5), j6]) (st' := [.int a5, .int a4, .ref a0]) (h' := h) 3 (fun n => rfl) ?_
    obtain ⟨hq, hw⟩ := hw
    obtain ⟨x1, h2, hx, hw⟩ := hw
    refine zT_call (pc' := 84) (rest := []) 1 (fun n => rfl) hq hx ?_
    show zT E (d + 1) m_m_laysFar 84 [some (.ref a0), j1, some (.int a2), some (.int a3), some (.int a4), some (.int a5), j6] [.int x1] h2 r
    refine zT_st (pc' := 89) (L' := [some (.ref a0), j1, some (.int a2), some (.int a3), some (.int a4), some (.int a5), some (.int x1)]) (st' := [.int (-1), .int x1]) (h' := h2) 3 (fun n => rfl) ?_
    by_cases hc : x1 = (-1)
    · rw [if_pos hc] at hw
      refine zT_st (pc' := 147) (L' := [some (.ref a0), j1, some (.int a2), some (.int a3), some (.int a4), some (.int a5), some (.int x1)]) (st' := []) (h' := h2) 1 (fun n => if_pos hc) ?_
      exact zT_st 2 (fun n => rfl) hw
    · rw [if_neg hc] at hw
      refine zT_st (pc' := 92) (L' := [some (.ref a0), j1, some (.int a2), some (.int a3), some (.int a4), some (.int a5), some (.int x1)]) (st' := []) (h' := h2) 1 (fun n => if_neg hc) ?_
      refine zT_st (pc' := 93) (L' := [some (.ref a0), j1, some (.int a2), some (.int a3), some (.int a4), some (.int a5), some (.int x1)]) (st' := [.ref a0]) (h' := h2) 1 (fun n => rfl) ?_
      obtain ⟨o3, e, hw⟩ := hw
      refine zT_st (pc' := 96) (L' := [some (.ref a0), j1, some (.int a2), some (.int a3), some (.int a4), some (.int a5), some (.int x1)]) (st' := [.ref o3]) (h' := h2) 1 (fun n => fld_eq (E := E) e _) ?_
      refine zT_st (pc' := 98) (L' := [some (.ref a0), j1, some (.int a2), some (.int a3), some (.int a4), some (.int a5), some (.int x1)]) (st' := [.int x1, .ref o3]) (h' := h2) 1 (fun n => rfl) ?_
      obtain ⟨n4, f5, e, hi, hw⟩ := hw
      refine zT_st (pc' := 99) (L' := [some (.ref a0), j1, some (.int a2), some (.int a3), some (.int a4), some (.int a5), some (.int x1)]) (st' := [.int (f5 (x1).toNatClampNeg)]) (h' := h2) 1 (fun n => arr_eq (E := E) e hi [] (fun st => zrun zP zCd E n (d + 1) m_m_laysFar 99 [some (.ref a0), j1, some (.int a2), some (.int a3), some (.int a4), some (.int a5), some (.int x1)] st h2)) ?_
      refine zT_st (pc' := 102) (L' := [some (.ref a0), j1, some (.int a2), some (.int a3), some (.int a4), some (.int a5), some (.int x1)]) (st' := [.int 9999, .int (f5 (x1).toNatClampNeg)]) (h' := h2) 1 (fun n => rfl) ?_
      by_cases hc : 9999 ≤ (f5 (x1).toNatClampNeg)
      · rw [if_pos hc] at hw
        refine zT_st (pc' := 108) (L' := [some (.ref a0), j1, some (.int a2), some (.int a3), some (.int a4), some (.int a5), some (.int x1)]) (st' := []) (h' := h2) 1 (fun n => if_pos hc) ?_
        refine zT_st (pc' := 109) (L' := [some (.ref a0), j1, some (.int a2), some (.int a3), some (.int a4), some (.int a5), some (.int x1)]) (st' := [.ref a0]) (h' := h2) 1 (fun n => rfl) ?_
        obtain ⟨o6, e, hw⟩ := hw
        refine zT_st (pc' := 112) (L' := [some (.ref a0), j1, some (.int a2), some (.int a3), some (.int a4), some (.int a5), some (.int x1)]) (st' := [.ref o6]) (h' := h2) 1 (fun n => fld_eq (E := E) e _) ?_
        refine zT_st (pc' := 115) (L' := [some (.ref a0), j1, some (.int a2), some (.int a3), some (.int a4), some (.int a5), some (.int x1)]) (st' := [.ref a0, .int x1, .ref o6]) (h' := h2) 2 (fun n => rfl) ?_
        obtain ⟨o7, e, hw⟩ := hw
        refine zT_st (pc' := 118) (L' := [some (.ref a0), j1, some (.int a2), some (.int a3), some (.int a4), some (.int a5), some (.int x1)]) (st' := [.ref o7, .int x1, .ref o6]) (h' := h2) 1 (fun n => fld_eq (E := E) e _) ?_
        refine zT_st (pc' := 120) (L' := [some (.ref a0), j1, some (.int a2), some (.int a3), some (.int a4), some (.int a5), some (.int x1)]) (st' := [.int a4, .ref o7, .int x1, .ref o6]) (h' := h2) 1 (fun n => rfl) ?_
        obtain ⟨n8, f9, e, hi, hw⟩ := hw
        refine zT_st (pc' := 121) (L' := [some (.ref a0), j1, some (.int a2), some (.int a3), some (.int a4), some (.int a5), some (.int x1)]) (st' := [.int (f9 (a4).toNatClampNeg), .int x1, .ref o6]) (h' := h2) 1 (fun n => arr_eq (E := E) e hi [.int x1, .ref o6] (fun st => zrun zP zCd E n (d + 1) m_m_laysFar 121 [some (.ref a0), j1, some (.int a2), some (.int a3), some (.int a4), some (.int a5), some (.int x1)] st h2)) ?_
        refine zT_st (pc' := 123) (L' := [some (.ref a0), j1, some (.int a2), some (.int a3), some (.int a4), some (.int a5), some (.int x1)]) (st' := [.int ((f9 (a4).toNatClampNeg) + 1), .int x1, .ref o6]) (h' := h2) 2 (fun n => rfl) ?_
        obtain ⟨n10, f11, e, hi, hw⟩ := hw
        refine zT_st (pc' := 124) (L' := [some (.ref a0), j1, some (.int a2), some (.int a3), some (.int a4), some (.int a5), some (.int x1)]) (st' := []) (h' := (setA h2 o6 n10 (upd f11 (x1).toNatClampNeg ((f9 (a4).toNatClampNeg) + 1)))) 1 (fun n => set_eq e hi _ _) ?_
        refine zT_st (pc' := 127) (L' := [some (.ref a0), j1, some (.int a2), some (.int a3), some (.int a4), some (.int a5), some (.int x1)]) (st' := [.int x1, .ref a0]) (h' := (setA h2 o6 n10 (upd f11 (x1).toNatClampNeg ((f9 (a4).toNatClampNeg) + 1)))) 2 (fun n => rfl) ?_
        obtain ⟨hq, hw⟩ := hw
        obtain ⟨x12, h13, hx, hw⟩ := hw
        refine zT_call (pc' := 130) (rest := []) 1 (fun n => rfl) hq hx ?_
        show zT E (d + 1) m_m_laysFar 130 [some (.ref a0), j1, some (.int a2), some (.int a3), some (.int a4), some (.int a5), some (.int x1)] [.int x12] h13 r
        by_cases hc : x12 = 0
        · rw [if_pos hc] at hw
          refine zT_st (pc' := 136) (L' := [some (.ref a0), j1, some (.int a2), some (.int a3), some (.int a4), some (.int a5), some (.int x1)]) (st' := []) (h' := h13) 1 (fun n => if_pos hc) ?_
          refine zT_st (pc' := 137) (L' := [some (.ref a0), j1, some (.int a2), some (.int a3), some (.int a4), some (.int a5), some (.int x1)]) (st' := [.ref a0]) (h' := h13) 1 (fun n => rfl) ?_
          obtain ⟨o14, e, hw⟩ := hw
          refine zT_st (pc' := 140) (L' := [some (.ref a0), j1, some (.int a2), some (.int a3), some (.int a4), some (.int a5), some (.int x1)]) (st' := [.ref o14]) (h' := h13) 1 (fun n => fld_eq (E := E) e _) ?_
          refine zT_st (pc' := 143) (L' := [some (.ref a0), j1, some (.int a2), some (.int a3), some (.int a4), some (.int a5), some (.int x1)]) (st' := [.int x1, .int a3, .ref o14]) (h' := h13) 2 (fun n => rfl) ?_
          obtain ⟨n15, f16, e, hi, hw⟩ := hw
          refine zT_st (pc' := 144) (L' := [some (.ref a0), j1, some (.int a2), some (.int a3), some (.int a4), some (.int a5), some (.int x1)]) (st' := []) (h' := (setA h13 o14 n15 (upd f16 (a3).toNatClampNeg x1))) 1 (fun n => set_eq e hi _ _) ?_
          exact zT_st 3 (fun n => rfl) hw
        · rw [if_neg hc] at hw
          refine zT_st (pc' := 133) (L' := [some (.ref a0), j1, some (.int a2), some (.int a3), some (.int a4), some (.int a5), some (.int x1)]) (st' := []) (h' := h13) 1 (fun n => if_neg hc) ?_
          exact zT_st 3 (fun n => rfl) hw
      · rw [if_neg hc] at hw
        refine zT_st (pc' := 105) (L' := [some (.ref a0), j1, some (.int a2), some (.int a3), some (.int a4), some (.int a5), some (.int x1)]) (st' := []) (h' := h2) 1 (fun n => if_neg hc) ?_
        exact zT_st 3 (fun n => rfl) hw
set_option maxRecDepth 4000 in
theorem s_m_isShut_0 (E : zX) (d : Nat) (a0 : Nat) (a1 : Int32) (h : zH) (r : zO × zH)
    (hw : zT E (d + 1) m_m_isShut 4 [some (.ref a0), some (.int a1), some (.int 0), some (.int 0)] [] h r) :
    zT E (d + 1) m_m_isShut 0 [some (.ref a0), some (.int a1), none, none] [] h r := by
  exact zT_st 4 (fun n => rfl) hw
set_option maxRecDepth 4000 in
theorem s_m_isShut_4 (E : zX) (d : Nat) (a0 : Nat) (a1 : Int32) (a2 : Int32) (a3 : Int32) (h : zH) (r : zO × zH)
    (hw : ∃ x1 : Int32, fld h a0 12 4 = some (.int x1) ∧
    if x1 ≤ a3 then (
      zfr (some .boolean) a2 = true ∧ r = (.inl (some (.int a2)), h))
    else (
      if a2 = 0 then (
        isO h a0 12 = true ∧ ∃ (x2 : Int32) (h3 : zH), zT E d m_m_isWhite 0 [some (.ref a0), some (.int 0), some (.int a3)] [] h (.inl (some (.int x2)), h3) ∧
        if x2 = 0 then (
          ∃ o4 : Nat, fld h3 a0 12 40 = some (.ref o4) ∧
          ∃ (n5 : Nat) (f6 : Nat → Int32), arr h3 o4 = some (n5, f6) ∧ ¬ ((29 + a3) < 0 ∨ n5 ≤ ((29 + a3)).toNatClampNeg) ∧
          if (f6 ((29 + a3)).toNatClampNeg) = a1 then (
            zT E (d + 1) m_m_isShut 4 [some (.ref a0), some (.int a1), some (.int 1), some (.int (a3 + 1))] [] h3 r)
          else (
            zT E (d + 1) m_m_isShut 4 [some (.ref a0), some (.int a1), some (.int 0), some (.int (a3 + 1))] [] h3 r))
        else (
          zT E (d + 1) m_m_isShut 4 [some (.ref a0), some (.int a1), some (.int 0), some (.int (a3 + 1))] [] h3 r))
      else (
        zT E (d + 1) m_m_isShut 4 [some (.ref a0), some (.int a1), some (.int 1), some (.int (a3 + 1))] [] h r))) :
    zT E (d + 1) m_m_isShut 4 [some (.ref a0), some (.int a1), some (.int a2), some (.int a3)] [] h r := by
  refine zT_st (pc' := 6) (L' := [some (.ref a0), some (.int a1), some (.int a2), some (.int a3)]) (st' := [.ref a0, .int a3]) (h' := h) 2 (fun n => rfl) ?_
  obtain ⟨x1, e, hw⟩ := hw
  refine zT_st (pc' := 9) (L' := [some (.ref a0), some (.int a1), some (.int a2), some (.int a3)]) (st' := [.int x1, .int a3]) (h' := h) 1 (fun n => fld_eq (E := E) e _) ?_
  by_cases hc : x1 ≤ a3
  · rw [if_pos hc] at hw
    refine zT_st (pc' := 50) (L' := [some (.ref a0), some (.int a1), some (.int a2), some (.int a3)]) (st' := []) (h' := h) 1 (fun n => if_pos hc) ?_
    obtain ⟨hz, hw⟩ := hw
    subst hw
    refine zT_ret 2 ?_
    show (bif zfr _ _ then _ else none) = _
    rw [hz]
    rfl
  · rw [if_neg hc] at hw
    refine zT_st (pc' := 12) (L' := [some (.ref a0), some (.int a1), some (.int a2), some (.int a3)]) (st' := []) (h' := h) 1 (fun n => if_neg hc) ?_
    refine zT_st (pc' := 13) (L' := [some (.ref a0), some (.int a1), some (.int a2), some (.int a3)]) (st' := [.int a2]) (h' := h) 1 (fun n => rfl) ?_
    by_cases hc : a2 = 0
    · rw [if_pos hc] at hw
      refine zT_st (pc' := 16) (L' := [some (.ref a0), some (.int a1), some (.int a2), some (.int a3)]) (st' := []) (h' := h) 1 (fun n => if_pos hc) ?_
      refine zT_st (pc' := 19) (L' := [some (.ref a0), some (.int a1), some (.int a2), some (.int a3)]) (st' := [.int a3, .int 0, .ref a0]) (h' := h) 3 (fun n => rfl) ?_
      obtain ⟨hq, hw⟩ := hw
      obtain ⟨x2, h3, hx, hw⟩ := hw
      refine zT_call (pc' := 22) (rest := []) 1 (fun n => rfl) hq hx ?_
      show zT E (d + 1) m_m_isShut 22 [some (.ref a0), some (.int a1), some (.int a2), some (.int a3)] [.int x2] h3 r
      by_cases hc : x2 = 0
      · rw [if_pos hc] at hw
        refine zT_st (pc' := 25) (L' := [some (.ref a0), some (.int a1), some (.int a2), some (.int a3)]) (st' := []) (h' := h3) 1 (fun n => if_pos hc) ?_
        refine zT_st (pc' := 26) (L' := [some (.ref a0), some (.int a1), some (.int a2), some (.int a3)]) (st' := [.ref a0]) (h' := h3) 1 (fun n => rfl) ?_
        obtain ⟨o4, e, hw⟩ := hw
        refine zT_st (pc' := 29) (L' := [some (.ref a0), some (.int a1), some (.int a2), some (.int a3)]) (st' := [.ref o4]) (h' := h3) 1 (fun n => fld_eq (E := E) e _) ?_
        refine zT_st (pc' := 33) (L' := [some (.ref a0), some (.int a1), some (.int a2), some (.int a3)]) (st' := [.int (29 + a3), .ref o4]) (h' := h3) 3 (fun n => rfl) ?_
        obtain ⟨n5, f6, e, hi, hw⟩ := hw
        refine zT_st (pc' := 34) (L' := [some (.ref a0), some (.int a1), some (.int a2), some (.int a3)]) (st' := [.int (f6 ((29 + a3)).toNatClampNeg)]) (h' := h3) 1 (fun n => arr_eq (E := E) e hi [] (fun st => zrun zP zCd E n (d + 1) m_m_isShut 34 [some (.ref a0), some (.int a1), some (.int a2), some (.int a3)] st h3)) ?_
        refine zT_st (pc' := 35) (L' := [some (.ref a0), some (.int a1), some (.int a2), some (.int a3)]) (st' := [.int a1, .int (f6 ((29 + a3)).toNatClampNeg)]) (h' := h3) 1 (fun n => rfl) ?_
        by_cases hc : (f6 ((29 + a3)).toNatClampNeg) = a1
        · rw [if_pos hc] at hw
          refine zT_st (pc' := 38) (L' := [some (.ref a0), some (.int a1), some (.int a2), some (.int a3)]) (st' := []) (h' := h3) 1 (fun n => if_pos hc) ?_
          exact zT_st 5 (fun n => rfl) hw
        · rw [if_neg hc] at hw
          refine zT_st (pc' := 42) (L' := [some (.ref a0), some (.int a1), some (.int a2), some (.int a3)]) (st' := []) (h' := h3) 1 (fun n => if_neg hc) ?_
          exact zT_st 4 (fun n => rfl) hw
      · rw [if_neg hc] at hw
        refine zT_st (pc' := 42) (L' := [some (.ref a0), some (.int a1), some (.int a2), some (.int a3)]) (st' := []) (h' := h3) 1 (fun n => if_neg hc) ?_
        exact zT_st 4 (fun n => rfl) hw
    · rw [if_neg hc] at hw
      refine zT_st (pc' := 38) (L' := [some (.ref a0), some (.int a1), some (.int a2), some (.int a3)]) (st' := []) (h' := h) 1 (fun n => if_neg hc) ?_
      exact zT_st 5 (fun n => rfl) hw
set_option maxRecDepth 4000 in
theorem s_m_beside_0 (E : zX) (d : Nat) (a0 : Nat) (a1 : Int32) (a2 : Int32) (h : zH) (r : zO × zH)
    (hw : if a2 = 0 then (
      ∃ x1 : Int32, fld h a0 12 1 = some (.int x1) ∧
      if a1 < x1 then (
        r = (.inl (some (.int (-1))), h))
      else (
        ∃ x2 : Int32, fld h a0 12 1 = some (.int x2) ∧
        r = (.inl (some (.int (a1 - x2))), h)))
    else (
      if a2 = 1 then (
        ∃ x3 : Int32, fld h a0 12 1 = some (.int x3) ∧
        ¬ x3 = 0 ∧
        ∃ x4 : Int32, fld h a0 12 1 = some (.int x4) ∧
        if x4 ≤ ((zrem a1 x3) + 1) then (
          r = (.inl (some (.int (-1))), h))
        else (
          r = (.inl (some (.int (a1 + 1))), h)))
      else (
        if a2 = 2 then (
          ∃ x5 : Int32, fld h a0 12 1 = some (.int x5) ∧
          ¬ x5 = 0 ∧
          ∃ x6 : Int32, fld h a0 12 2 = some (.int x6) ∧
          if x6 ≤ ((a1 / x5) + 1) then (
            r = (.inl (some (.int (-1))), h))
          else (
            ∃ x7 : Int32, fld h a0 12 1 = some (.int x7) ∧
            r = (.inl (some (.int (a1 + x7))), h)))
        else (
          ∃ x8 : Int32, fld h a0 12 1 = some (.int x8) ∧
          ¬ x8 = 0 ∧
          if (zrem a1 x8) ≤ 0 then (
            r = (.inl (some (.int (-1))), h))
          else (
            r = (.inl (some (.int (a1 - 1))), h)))))) :
    zT E d m_m_beside 0 [some (.ref a0), some (.int a1), some (.int a2)] [] h r := by
  refine zT_st (pc' := 1) (L' := [some (.ref a0), some (.int a1), some (.int a2)]) (st' := [.int a2]) (h' := h) 1 (fun n => rfl) ?_
  by_cases hc : a2 = 0
  · rw [if_pos hc] at hw
    refine zT_st (pc' := 4) (L' := [some (.ref a0), some (.int a1), some (.int a2)]) (st' := []) (h' := h) 1 (fun n => if_pos hc) ?_
    refine zT_st (pc' := 6) (L' := [some (.ref a0), some (.int a1), some (.int a2)]) (st' := [.ref a0, .int a1]) (h' := h) 2 (fun n => rfl) ?_
    obtain ⟨x1, e, hw⟩ := hw
    refine zT_st (pc' := 9) (L' := [some (.ref a0), some (.int a1), some (.int a2)]) (st' := [.int x1, .int a1]) (h' := h) 1 (fun n => fld_eq (E := E) e _) ?_
    by_cases hc : a1 < x1
    · rw [if_pos hc] at hw
      refine zT_st (pc' := 21) (L' := [some (.ref a0), some (.int a1), some (.int a2)]) (st' := []) (h' := h) 1 (fun n => if_pos hc) ?_
      subst hw
      exact zT_ret 2 rfl
    · rw [if_neg hc] at hw
      refine zT_st (pc' := 12) (L' := [some (.ref a0), some (.int a1), some (.int a2)]) (st' := []) (h' := h) 1 (fun n => if_neg hc) ?_
      refine zT_st (pc' := 14) (L' := [some (.ref a0), some (.int a1), some (.int a2)]) (st' := [.ref a0, .int a1]) (h' := h) 2 (fun n => rfl) ?_
      obtain ⟨x2, e, hw⟩ := hw
      refine zT_st (pc' := 17) (L' := [some (.ref a0), some (.int a1), some (.int a2)]) (st' := [.int x2, .int a1]) (h' := h) 1 (fun n => fld_eq (E := E) e _) ?_
      subst hw
      exact zT_ret 3 rfl
  · rw [if_neg hc] at hw
    refine zT_st (pc' := 23) (L' := [some (.ref a0), some (.int a1), some (.int a2)]) (st' := []) (h' := h) 1 (fun n => if_neg hc) ?_
    refine zT_st (pc' := 25) (L' := [some (.ref a0), some (.int a1), some (.int a2)]) (st' := [.int 1, .int a2]) (h' := h) 2 (fun n => rfl) ?_
    by_cases hc : a2 = 1
    · rw [if_pos hc] at hw
      refine zT_st (pc' := 28) (L' := [some (.ref a0), some (.int a1), some (.int a2)]) (st' := []) (h' := h) 1 (fun n => if_pos hc) ?_
      refine zT_st (pc' := 30) (L' := [some (.ref a0), some (.int a1), some (.int a2)]) (st' := [.ref a0, .int a1]) (h' := h) 2 (fun n => rfl) ?_
      obtain ⟨x3, e, hw⟩ := hw
      refine zT_st (pc' := 33) (L' := [some (.ref a0), some (.int a1), some (.int a2)]) (st' := [.int x3, .int a1]) (h' := h) 1 (fun n => fld_eq (E := E) e _) ?_
      obtain ⟨hz, hw⟩ := hw
      refine zT_st (pc' := 34) (L' := [some (.ref a0), some (.int a1), some (.int a2)]) (st' := [.int (zrem a1 x3)]) (h' := h) 1 (fun n => if_neg hz) ?_
      refine zT_st (pc' := 37) (L' := [some (.ref a0), some (.int a1), some (.int a2)]) (st' := [.ref a0, .int ((zrem a1 x3) + 1)]) (h' := h) 3 (fun n => rfl) ?_
      obtain ⟨x4, e, hw⟩ := hw
      refine zT_st (pc' := 40) (L' := [some (.ref a0), some (.int a1), some (.int a2)]) (st' := [.int x4, .int ((zrem a1 x3) + 1)]) (h' := h) 1 (fun n => fld_eq (E := E) e _) ?_
      by_cases hc : x4 ≤ ((zrem a1 x3) + 1)
      · rw [if_pos hc] at hw
        refine zT_st (pc' := 49) (L' := [some (.ref a0), some (.int a1), some (.int a2)]) (st' := []) (h' := h) 1 (fun n => if_pos hc) ?_
        subst hw
        exact zT_ret 2 rfl
      · rw [if_neg hc] at hw
        refine zT_st (pc' := 43) (L' := [some (.ref a0), some (.int a1), some (.int a2)]) (st' := []) (h' := h) 1 (fun n => if_neg hc) ?_
        subst hw
        exact zT_ret 5 rfl
    · rw [if_neg hc] at hw
      refine zT_st (pc' := 51) (L' := [some (.ref a0), some (.int a1), some (.int a2)]) (st' := []) (h' := h) 1 (fun n => if_neg hc) ?_
      refine zT_st (pc' := 53) (L' := [some (.ref a0), some (.int a1), some (.int a2)]) (st' := [.int 2, .int a2]) (h' := h) 2 (fun n => rfl) ?_
      by_cases hc : a2 = 2
      · rw [if_pos hc] at hw
        refine zT_st (pc' := 56) (L' := [some (.ref a0), some (.int a1), some (.int a2)]) (st' := []) (h' := h) 1 (fun n => if_pos hc) ?_
        refine zT_st (pc' := 58) (L' := [some (.ref a0), some (.int a1), some (.int a2)]) (st' := [.ref a0, .int a1]) (h' := h) 2 (fun n => rfl) ?_
        obtain ⟨x5, e, hw⟩ := hw
        refine zT_st (pc' := 61) (L' := [some (.ref a0), some (.int a1), some (.int a2)]) (st' := [.int x5, .int a1]) (h' := h) 1 (fun n => fld_eq (E := E) e _) ?_
        obtain ⟨hz, hw⟩ := hw
        refine zT_st (pc' := 62) (L' := [some (.ref a0), some (.int a1), some (.int a2)]) (st' := [.int (a1 / x5)]) (h' := h) 1 (fun n => if_neg hz) ?_
        refine zT_st (pc' := 65) (L' := [some (.ref a0), some (.int a1), some (.int a2)]) (st' := [.ref a0, .int ((a1 / x5) + 1)]) (h' := h) 3 (fun n => rfl) ?_
        obtain ⟨x6, e, hw⟩ := hw
        refine zT_st (pc' := 68) (L' := [some (.ref a0), some (.int a1), some (.int a2)]) (st' := [.int x6, .int ((a1 / x5) + 1)]) (h' := h) 1 (fun n => fld_eq (E := E) e _) ?_
        by_cases hc : x6 ≤ ((a1 / x5) + 1)
        · rw [if_pos hc] at hw
          refine zT_st (pc' := 80) (L' := [some (.ref a0), some (.int a1), some (.int a2)]) (st' := []) (h' := h) 1 (fun n => if_pos hc) ?_
          subst hw
          exact zT_ret 2 rfl
        · rw [if_neg hc] at hw
          refine zT_st (pc' := 71) (L' := [some (.ref a0), some (.int a1), some (.int a2)]) (st' := []) (h' := h) 1 (fun n => if_neg hc) ?_
          refine zT_st (pc' := 73) (L' := [some (.ref a0), some (.int a1), some (.int a2)]) (st' := [.ref a0, .int a1]) (h' := h) 2 (fun n => rfl) ?_
          obtain ⟨x7, e, hw⟩ := hw
          refine zT_st (pc' := 76) (L' := [some (.ref a0), some (.int a1), some (.int a2)]) (st' := [.int x7, .int a1]) (h' := h) 1 (fun n => fld_eq (E := E) e _) ?_
          subst hw
          exact zT_ret 3 rfl
      · rw [if_neg hc] at hw
        refine zT_st (pc' := 82) (L' := [some (.ref a0), some (.int a1), some (.int a2)]) (st' := []) (h' := h) 1 (fun n => if_neg hc) ?_
        refine zT_st (pc' := 84) (L' := [some (.ref a0), some (.int a1), some (.int a2)]) (st' := [.ref a0, .int a1]) (h' := h) 2 (fun n => rfl) ?_
        obtain ⟨x8, e, hw⟩ := hw
        refine zT_st (pc' := 87) (L' := [some (.ref a0), some (.int a1), some (.int a2)]) (st' := [.int x8, .int a1]) (h' := h) 1 (fun n => fld_eq (E := E) e _) ?_
        obtain ⟨hz, hw⟩ := hw
        refine zT_st (pc' := 88) (L' := [some (.ref a0), some (.int a1), some (.int a2)]) (st' := [.int (zrem a1 x8)]) (h' := h) 1 (fun n => if_neg hz) ?_
        by_cases hc : (zrem a1 x8) ≤ 0
        · rw [if_pos hc] at hw
          refine zT_st (pc' := 97) (L' := [some (.ref a0), some (.int a1), some (.int a2)]) (st' := []) (h' := h) 1 (fun n => if_pos hc) ?_
          subst hw
          exact zT_ret 2 rfl
        · rw [if_neg hc] at hw
          refine zT_st (pc' := 91) (L' := [some (.ref a0), some (.int a1), some (.int a2)]) (st' := []) (h' := h) 1 (fun n => if_neg hc) ?_
          subst hw
          exact zT_ret 5 rfl
set_option maxRecDepth 4000 in
theorem s_m_laysTaking_0 (E : zX) (d : Nat) (a0 : Nat) (h : zH) (r : zO × zH)
    (hw : isO h a0 12 = true ∧ ∃ (h2 : zH), zT E d m_m_laysPuts 0 [some (.ref a0), none, none, none, none] [] h (.inl none, h2) ∧
    zT E (d + 1) m_m_laysTaking 8 [some (.ref a0), some (.int 0), some (.int 0), none] [] h2 r) :
    zT E (d + 1) m_m_laysTaking 0 [some (.ref a0), none, none, none] [] h r := by
  refine zT_st (pc' := 1) (L' := [some (.ref a0), none, none, none]) (st' := [.ref a0]) (h' := h) 1 (fun n => rfl) ?_
  obtain ⟨hq, hw⟩ := hw
  obtain ⟨h2, hx, hw⟩ := hw
  refine zT_call (pc' := 4) (rest := []) 1 (fun n => rfl) hq hx ?_
  show zT E (d + 1) m_m_laysTaking 4 [some (.ref a0), none, none, none] [] h2 r
  exact zT_st 4 (fun n => rfl) hw
set_option maxRecDepth 4000 in
theorem s_m_laysTaking_8 (E : zX) (d : Nat) (a0 : Nat) (a1 : Int32) (a2 : Int32) (j3 : Option Value) (h : zH) (r : zO × zH)
    (hw : ∃ x1 : Int32, fld h a0 12 3 = some (.int x1) ∧
    if x1 ≤ a2 then (
      r = (.inl (none), h))
    else (
      ∃ o2 : Nat, fld h a0 12 52 = some (.ref o2) ∧
      ∃ (n3 : Nat) (f4 : Nat → Int32), arr h o2 = some (n3, f4) ∧ ¬ (a2 < 0 ∨ n3 ≤ (a2).toNatClampNeg) ∧
      ∃ x5 : Int32, fld (setA h o2 n3 (upd f4 (a2).toNatClampNeg (-1))) a0 12 4 = some (.int x5) ∧
      zT E (d + 1) m_m_laysTaking 30 [some (.ref a0), some (.int a1), some (.int a2), some (.int (x5 - 1))] [] (setA h o2 n3 (upd f4 (a2).toNatClampNeg (-1))) r)) :
    zT E (d + 1) m_m_laysTaking 8 [some (.ref a0), some (.int a1), some (.int a2), j3] [] h r := by
  refine zT_st (pc' := 10) (L' := [some (.ref a0), some (.int a1), some (.int a2), j3]) (st' := [.ref a0, .int a2]) (h' := h) 2 (fun n => rfl) ?_
  obtain ⟨x1, e, hw⟩ := hw
  refine zT_st (pc' := 13) (L' := [some (.ref a0), some (.int a1), some (.int a2), j3]) (st' := [.int x1, .int a2]) (h' := h) 1 (fun n => fld_eq (E := E) e _) ?_
  by_cases hc : x1 ≤ a2
  · rw [if_pos hc] at hw
    refine zT_st (pc' := 106) (L' := [some (.ref a0), some (.int a1), some (.int a2), j3]) (st' := []) (h' := h) 1 (fun n => if_pos hc) ?_
    subst hw
    exact zT_ret 1 rfl
  · rw [if_neg hc] at hw
    refine zT_st (pc' := 16) (L' := [some (.ref a0), some (.int a1), some (.int a2), j3]) (st' := []) (h' := h) 1 (fun n => if_neg hc) ?_
    refine zT_st (pc' := 17) (L' := [some (.ref a0), some (.int a1), some (.int a2), j3]) (st' := [.ref a0]) (h' := h) 1 (fun n => rfl) ?_
    obtain ⟨o2, e, hw⟩ := hw
    refine zT_st (pc' := 20) (L' := [some (.ref a0), some (.int a1), some (.int a2), j3]) (st' := [.ref o2]) (h' := h) 1 (fun n => fld_eq (E := E) e _) ?_
    refine zT_st (pc' := 22) (L' := [some (.ref a0), some (.int a1), some (.int a2), j3]) (st' := [.int (-1), .int a2, .ref o2]) (h' := h) 2 (fun n => rfl) ?_
    obtain ⟨n3, f4, e, hi, hw⟩ := hw
    refine zT_st (pc' := 23) (L' := [some (.ref a0), some (.int a1), some (.int a2), j3]) (st' := []) (h' := (setA h o2 n3 (upd f4 (a2).toNatClampNeg (-1)))) 1 (fun n => set_eq e hi _ _) ?_
    refine zT_st (pc' := 24) (L' := [some (.ref a0), some (.int a1), some (.int a2), j3]) (st' := [.ref a0]) (h' := (setA h o2 n3 (upd f4 (a2).toNatClampNeg (-1)))) 1 (fun n => rfl) ?_
    obtain ⟨x5, e, hw⟩ := hw
    refine zT_st (pc' := 27) (L' := [some (.ref a0), some (.int a1), some (.int a2), j3]) (st' := [.int x5]) (h' := (setA h o2 n3 (upd f4 (a2).toNatClampNeg (-1)))) 1 (fun n => fld_eq (E := E) e _) ?_
    exact zT_st 3 (fun n => rfl) hw
set_option maxRecDepth 4000 in
theorem s_m_laysTaking_30 (E : zX) (d : Nat) (a0 : Nat) (a1 : Int32) (a2 : Int32) (a3 : Int32) (h : zH) (r : zO × zH)
    (hw : if a3 < 0 then (
      ∃ o1 : Nat, fld h a0 12 52 = some (.ref o1) ∧
      ∃ (n2 : Nat) (f3 : Nat → Int32), arr h o1 = some (n2, f3) ∧ ¬ (a2 < 0 ∨ n2 ≤ (a2).toNatClampNeg) ∧
      if (f3 (a2).toNatClampNeg) = (-1) then (
        zT E (d + 1) m_m_laysTaking 8 [some (.ref a0), some (.int a1), some (.int (a2 + 1)), some (.int a3)] [] h r)
      else (
        ∃ o4 : Nat, fld h a0 12 52 = some (.ref o4) ∧
        ∃ (n5 : Nat) (f6 : Nat → Int32), arr h o4 = some (n5, f6) ∧ ¬ (a2 < 0 ∨ n5 ≤ (a2).toNatClampNeg) ∧
        zT E (d + 1) m_m_laysTaking 8 [some (.ref a0), some (.int (a1 ||| (1 <<< ((f6 (a2).toNatClampNeg) &&& 31)))), some (.int (a2 + 1)), some (.int a3)] [] h r))
    else (
      isO h a0 12 = true ∧ ∃ (x7 : Int32) (h8 : zH), zT E d m_m_canPut 0 [some (.ref a0), some (.int a2), some (.int a3), some (.int a1)] [] h (.inl (some (.int x7)), h8) ∧
      if x7 = 0 then (
        zT E (d + 1) m_m_laysTaking 30 [some (.ref a0), some (.int a1), some (.int a2), some (.int (a3 + (-1)))] [] h8 r)
      else (
        isO h8 a0 12 = true ∧ ∃ (x9 : Int32) (h10 : zH), zT E d m_m_puts0 0 [some (.ref a0), some (.int a2), some (.int a3), some (.int a1)] [] h8 (.inl (some (.int x9)), h10) ∧
        ∃ o11 : Nat, fld h10 a0 12 51 = some (.ref o11) ∧
        ∃ (n12 : Nat) (f13 : Nat → Int32), arr h10 o11 = some (n12, f13) ∧ ¬ (((1024 * a2) + a1) < 0 ∨ n12 ≤ (((1024 * a2) + a1)).toNatClampNeg) ∧
        if x9 = (f13 (((1024 * a2) + a1)).toNatClampNeg) then (
          ∃ o14 : Nat, fld h10 a0 12 52 = some (.ref o14) ∧
          ∃ (n15 : Nat) (f16 : Nat → Int32), arr h10 o14 = some (n15, f16) ∧ ¬ (a2 < 0 ∨ n15 ≤ (a2).toNatClampNeg) ∧
          zT E (d + 1) m_m_laysTaking 30 [some (.ref a0), some (.int a1), some (.int a2), some (.int (a3 + (-1)))] [] (setA h10 o14 n15 (upd f16 (a2).toNatClampNeg a3)) r)
        else (
          zT E (d + 1) m_m_laysTaking 30 [some (.ref a0), some (.int a1), some (.int a2), some (.int (a3 + (-1)))] [] h10 r)))) :
    zT E (d + 1) m_m_laysTaking 30 [some (.ref a0), some (.int a1), some (.int a2), some (.int a3)] [] h r := by
  refine zT_st (pc' := 31) (L' := [some (.ref a0), some (.int a1), some (.int a2), some (.int a3)]) (st' := [.int a3]) (h' := h) 1 (fun n => rfl) ?_
  by_cases hc : a3 < 0
  · rw [if_pos hc] at hw
    refine zT_st (pc' := 79) (L' := [some (.ref a0), some (.int a1), some (.int a2), some (.int a3)]) (st' := []) (h' := h) 1 (fun n => if_pos hc) ?_
    refine zT_st (pc' := 80) (L' := [some (.ref a0), some (.int a1), some (.int a2), some (.int a3)]) (st' := [.ref a0]) (h' := h) 1 (fun n => rfl) ?_
    obtain ⟨o1, e, hw⟩ := hw
    refine zT_st (pc' := 83) (L' := [some (.ref a0), some (.int a1), some (.int a2), some (.int a3)]) (st' := [.ref o1]) (h' := h) 1 (fun n => fld_eq (E := E) e _) ?_
    refine zT_st (pc' := 84) (L' := [some (.ref a0), some (.int a1), some (.int a2), some (.int a3)]) (st' := [.int a2, .ref o1]) (h' := h) 1 (fun n => rfl) ?_
    obtain ⟨n2, f3, e, hi, hw⟩ := hw
    refine zT_st (pc' := 85) (L' := [some (.ref a0), some (.int a1), some (.int a2), some (.int a3)]) (st' := [.int (f3 (a2).toNatClampNeg)]) (h' := h) 1 (fun n => arr_eq (E := E) e hi [] (fun st => zrun zP zCd E n (d + 1) m_m_laysTaking 85 [some (.ref a0), some (.int a1), some (.int a2), some (.int a3)] st h)) ?_
    refine zT_st (pc' := 86) (L' := [some (.ref a0), some (.int a1), some (.int a2), some (.int a3)]) (st' := [.int (-1), .int (f3 (a2).toNatClampNeg)]) (h' := h) 1 (fun n => rfl) ?_
    by_cases hc : (f3 (a2).toNatClampNeg) = (-1)
    · rw [if_pos hc] at hw
      refine zT_st (pc' := 100) (L' := [some (.ref a0), some (.int a1), some (.int a2), some (.int a3)]) (st' := []) (h' := h) 1 (fun n => if_pos hc) ?_
      exact zT_st 2 (fun n => rfl) hw
    · rw [if_neg hc] at hw
      refine zT_st (pc' := 89) (L' := [some (.ref a0), some (.int a1), some (.int a2), some (.int a3)]) (st' := []) (h' := h) 1 (fun n => if_neg hc) ?_
      refine zT_st (pc' := 92) (L' := [some (.ref a0), some (.int a1), some (.int a2), some (.int a3)]) (st' := [.ref a0, .int 1, .int a1]) (h' := h) 3 (fun n => rfl) ?_
      obtain ⟨o4, e, hw⟩ := hw
      refine zT_st (pc' := 95) (L' := [some (.ref a0), some (.int a1), some (.int a2), some (.int a3)]) (st' := [.ref o4, .int 1, .int a1]) (h' := h) 1 (fun n => fld_eq (E := E) e _) ?_
      refine zT_st (pc' := 96) (L' := [some (.ref a0), some (.int a1), some (.int a2), some (.int a3)]) (st' := [.int a2, .ref o4, .int 1, .int a1]) (h' := h) 1 (fun n => rfl) ?_
      obtain ⟨n5, f6, e, hi, hw⟩ := hw
      refine zT_st (pc' := 97) (L' := [some (.ref a0), some (.int a1), some (.int a2), some (.int a3)]) (st' := [.int (f6 (a2).toNatClampNeg), .int 1, .int a1]) (h' := h) 1 (fun n => arr_eq (E := E) e hi [.int 1, .int a1] (fun st => zrun zP zCd E n (d + 1) m_m_laysTaking 97 [some (.ref a0), some (.int a1), some (.int a2), some (.int a3)] st h)) ?_
      exact zT_st 5 (fun n => rfl) hw
  · rw [if_neg hc] at hw
    refine zT_st (pc' := 34) (L' := [some (.ref a0), some (.int a1), some (.int a2), some (.int a3)]) (st' := []) (h' := h) 1 (fun n => if_neg hc) ?_
    refine zT_st (pc' := 38) (L' := [some (.ref a0), some (.int a1), some (.int a2), some (.int a3)]) (st' := [.int a1, .int a3, .int a2, .ref a0]) (h' := h) 4 (fun n => rfl) ?_
    obtain ⟨hq, hw⟩ := hw
    obtain ⟨x7, h8, hx, hw⟩ := hw
    refine zT_call (pc' := 41) (rest := []) 1 (fun n => rfl) hq hx ?_
    show zT E (d + 1) m_m_laysTaking 41 [some (.ref a0), some (.int a1), some (.int a2), some (.int a3)] [.int x7] h8 r
    by_cases hc : x7 = 0
    · rw [if_pos hc] at hw
      refine zT_st (pc' := 73) (L' := [some (.ref a0), some (.int a1), some (.int a2), some (.int a3)]) (st' := []) (h' := h8) 1 (fun n => if_pos hc) ?_
      exact zT_st 2 (fun n => rfl) hw
    · rw [if_neg hc] at hw
      refine zT_st (pc' := 44) (L' := [some (.ref a0), some (.int a1), some (.int a2), some (.int a3)]) (st' := []) (h' := h8) 1 (fun n => if_neg hc) ?_
      refine zT_st (pc' := 48) (L' := [some (.ref a0), some (.int a1), some (.int a2), some (.int a3)]) (st' := [.int a1, .int a3, .int a2, .ref a0]) (h' := h8) 4 (fun n => rfl) ?_
      obtain ⟨hq, hw⟩ := hw
      obtain ⟨x9, h10, hx, hw⟩ := hw
      refine zT_call (pc' := 51) (rest := []) 1 (fun n => rfl) hq hx ?_
      show zT E (d + 1) m_m_laysTaking 51 [some (.ref a0), some (.int a1), some (.int a2), some (.int a3)] [.int x9] h10 r
      refine zT_st (pc' := 52) (L' := [some (.ref a0), some (.int a1), some (.int a2), some (.int a3)]) (st' := [.ref a0, .int x9]) (h' := h10) 1 (fun n => rfl) ?_
      obtain ⟨o11, e, hw⟩ := hw
      refine zT_st (pc' := 55) (L' := [some (.ref a0), some (.int a1), some (.int a2), some (.int a3)]) (st' := [.ref o11, .int x9]) (h' := h10) 1 (fun n => fld_eq (E := E) e _) ?_
      refine zT_st (pc' := 62) (L' := [some (.ref a0), some (.int a1), some (.int a2), some (.int a3)]) (st' := [.int ((1024 * a2) + a1), .ref o11, .int x9]) (h' := h10) 5 (fun n => rfl) ?_
      obtain ⟨n12, f13, e, hi, hw⟩ := hw
      refine zT_st (pc' := 63) (L' := [some (.ref a0), some (.int a1), some (.int a2), some (.int a3)]) (st' := [.int (f13 (((1024 * a2) + a1)).toNatClampNeg), .int x9]) (h' := h10) 1 (fun n => arr_eq (E := E) e hi [.int x9] (fun st => zrun zP zCd E n (d + 1) m_m_laysTaking 63 [some (.ref a0), some (.int a1), some (.int a2), some (.int a3)] st h10)) ?_
      by_cases hc : x9 = (f13 (((1024 * a2) + a1)).toNatClampNeg)
      · rw [if_pos hc] at hw
        refine zT_st (pc' := 66) (L' := [some (.ref a0), some (.int a1), some (.int a2), some (.int a3)]) (st' := []) (h' := h10) 1 (fun n => if_pos hc) ?_
        refine zT_st (pc' := 67) (L' := [some (.ref a0), some (.int a1), some (.int a2), some (.int a3)]) (st' := [.ref a0]) (h' := h10) 1 (fun n => rfl) ?_
        obtain ⟨o14, e, hw⟩ := hw
        refine zT_st (pc' := 70) (L' := [some (.ref a0), some (.int a1), some (.int a2), some (.int a3)]) (st' := [.ref o14]) (h' := h10) 1 (fun n => fld_eq (E := E) e _) ?_
        refine zT_st (pc' := 72) (L' := [some (.ref a0), some (.int a1), some (.int a2), some (.int a3)]) (st' := [.int a3, .int a2, .ref o14]) (h' := h10) 2 (fun n => rfl) ?_
        obtain ⟨n15, f16, e, hi, hw⟩ := hw
        refine zT_st (pc' := 73) (L' := [some (.ref a0), some (.int a1), some (.int a2), some (.int a3)]) (st' := []) (h' := (setA h10 o14 n15 (upd f16 (a2).toNatClampNeg a3))) 1 (fun n => set_eq e hi _ _) ?_
        exact zT_st 2 (fun n => rfl) hw
      · rw [if_neg hc] at hw
        refine zT_st (pc' := 73) (L' := [some (.ref a0), some (.int a1), some (.int a2), some (.int a3)]) (st' := []) (h' := h10) 1 (fun n => if_neg hc) ?_
        exact zT_st 2 (fun n => rfl) hw
set_option maxRecDepth 4000 in
theorem s_m_laysPuts_0 (E : zX) (d : Nat) (a0 : Nat) (h : zH) (r : zO × zH)
    (hw : zT E (d + 1) m_m_laysPuts 2 [some (.ref a0), some (.int 0), none, none, none] [] h r) :
    zT E (d + 1) m_m_laysPuts 0 [some (.ref a0), none, none, none, none] [] h r := by
  exact zT_st 2 (fun n => rfl) hw
set_option maxRecDepth 4000 in
theorem s_m_laysPuts_2 (E : zX) (d : Nat) (a0 : Nat) (a1 : Int32) (j2 : Option Value) (j3 : Option Value) (j4 : Option Value) (h : zH) (r : zO × zH)
    (hw : if 1024 ≤ a1 then (
      ∃ x1 : Int32, fld h a0 12 3 = some (.int x1) ∧
      zT E (d + 1) m_m_laysPuts 38 [some (.ref a0), some (.int (x1 - 1)), j2, j3, j4] [] h r)
    else (
      ∃ o2 : Nat, fld h a0 12 51 = some (.ref o2) ∧
      ∃ x3 : Int32, fld h a0 12 3 = some (.int x3) ∧
      ∃ (n4 : Nat) (f5 : Nat → Int32), arr h o2 = some (n4, f5) ∧ ¬ (((1024 * x3) + a1) < 0 ∨ n4 ≤ (((1024 * x3) + a1)).toNatClampNeg) ∧
      zT E (d + 1) m_m_laysPuts 2 [some (.ref a0), some (.int (a1 + 1)), j2, j3, j4] [] (setA h o2 n4 (upd f5 (((1024 * x3) + a1)).toNatClampNeg 0)) r)) :
    zT E (d + 1) m_m_laysPuts 2 [some (.ref a0), some (.int a1), j2, j3, j4] [] h r := by
  refine zT_st (pc' := 6) (L' := [some (.ref a0), some (.int a1), j2, j3, j4]) (st' := [.int 1024, .int a1]) (h' := h) 2 (fun n => rfl) ?_
  by_cases hc : 1024 ≤ a1
  · rw [if_pos hc] at hw
    refine zT_st (pc' := 31) (L' := [some (.ref a0), some (.int a1), j2, j3, j4]) (st' := []) (h' := h) 1 (fun n => if_pos hc) ?_
    refine zT_st (pc' := 32) (L' := [some (.ref a0), some (.int a1), j2, j3, j4]) (st' := [.ref a0]) (h' := h) 1 (fun n => rfl) ?_
    obtain ⟨x1, e, hw⟩ := hw
    refine zT_st (pc' := 35) (L' := [some (.ref a0), some (.int a1), j2, j3, j4]) (st' := [.int x1]) (h' := h) 1 (fun n => fld_eq (E := E) e _) ?_
    exact zT_st 3 (fun n => rfl) hw
  · rw [if_neg hc] at hw
    refine zT_st (pc' := 9) (L' := [some (.ref a0), some (.int a1), j2, j3, j4]) (st' := []) (h' := h) 1 (fun n => if_neg hc) ?_
    refine zT_st (pc' := 10) (L' := [some (.ref a0), some (.int a1), j2, j3, j4]) (st' := [.ref a0]) (h' := h) 1 (fun n => rfl) ?_
    obtain ⟨o2, e, hw⟩ := hw
    refine zT_st (pc' := 13) (L' := [some (.ref a0), some (.int a1), j2, j3, j4]) (st' := [.ref o2]) (h' := h) 1 (fun n => fld_eq (E := E) e _) ?_
    refine zT_st (pc' := 17) (L' := [some (.ref a0), some (.int a1), j2, j3, j4]) (st' := [.ref a0, .int 1024, .ref o2]) (h' := h) 2 (fun n => rfl) ?_
    obtain ⟨x3, e, hw⟩ := hw
    refine zT_st (pc' := 20) (L' := [some (.ref a0), some (.int a1), j2, j3, j4]) (st' := [.int x3, .int 1024, .ref o2]) (h' := h) 1 (fun n => fld_eq (E := E) e _) ?_
    refine zT_st (pc' := 24) (L' := [some (.ref a0), some (.int a1), j2, j3, j4]) (st' := [.int 0, .int ((1024 * x3) + a1), .ref o2]) (h' := h) 4 (fun n => rfl) ?_
    obtain ⟨n4, f5, e, hi, hw⟩ := hw
    refine zT_st (pc' := 25) (L' := [some (.ref a0), some (.int a1), j2, j3, j4]) (st' := []) (h' := (setA h o2 n4 (upd f5 (((1024 * x3) + a1)).toNatClampNeg 0))) 1 (fun n => set_eq e hi _ _) ?_
    exact zT_st 2 (fun n => rfl) hw
set_option maxRecDepth 4000 in
theorem s_m_laysPuts_38 (E : zX) (d : Nat) (a0 : Nat) (a1 : Int32) (j2 : Option Value) (j3 : Option Value) (j4 : Option Value) (h : zH) (r : zO × zH)
    (hw : if a1 < 0 then (
      r = (.inl (none), h))
    else (
      zT E (d + 1) m_m_laysPuts 44 [some (.ref a0), some (.int a1), some (.int 0), j3, j4] [] h r)) :
    zT E (d + 1) m_m_laysPuts 38 [some (.ref a0), some (.int a1), j2, j3, j4] [] h r := by
  refine zT_st (pc' := 39) (L' := [some (.ref a0), some (.int a1), j2, j3, j4]) (st' := [.int a1]) (h' := h) 1 (fun n => rfl) ?_
  by_cases hc : a1 < 0
  · rw [if_pos hc] at hw
    refine zT_st (pc' := 140) (L' := [some (.ref a0), some (.int a1), j2, j3, j4]) (st' := []) (h' := h) 1 (fun n => if_pos hc) ?_
    subst hw
    exact zT_ret 1 rfl
  · rw [if_neg hc] at hw
    refine zT_st (pc' := 42) (L' := [some (.ref a0), some (.int a1), j2, j3, j4]) (st' := []) (h' := h) 1 (fun n => if_neg hc) ?_
    exact zT_st 2 (fun n => rfl) hw
set_option maxRecDepth 4000 in
theorem s_m_laysPuts_44 (E : zX) (d : Nat) (a0 : Nat) (a1 : Int32) (a2 : Int32) (j3 : Option Value) (j4 : Option Value) (h : zH) (r : zO × zH)
    (hw : ∃ x1 : Int32, fld h a0 12 4 = some (.int x1) ∧
    if (1 <<< (x1 &&& 31)) ≤ a2 then (
      zT E (d + 1) m_m_laysPuts 38 [some (.ref a0), some (.int (a1 + (-1))), some (.int a2), j3, j4] [] h r)
    else (
      ∃ o2 : Nat, fld h a0 12 51 = some (.ref o2) ∧
      ∃ (n3 : Nat) (f4 : Nat → Int32), arr h o2 = some (n3, f4) ∧ ¬ (((1024 * (a1 + 1)) + a2) < 0 ∨ n3 ≤ (((1024 * (a1 + 1)) + a2)).toNatClampNeg) ∧
      zT E (d + 1) m_m_laysPuts 76 [some (.ref a0), some (.int a1), some (.int a2), some (.int (10000 + (f4 (((1024 * (a1 + 1)) + a2)).toNatClampNeg))), some (.int 0)] [] h r)) :
    zT E (d + 1) m_m_laysPuts 44 [some (.ref a0), some (.int a1), some (.int a2), j3, j4] [] h r := by
  refine zT_st (pc' := 47) (L' := [some (.ref a0), some (.int a1), some (.int a2), j3, j4]) (st' := [.ref a0, .int 1, .int a2]) (h' := h) 3 (fun n => rfl) ?_
  obtain ⟨x1, e, hw⟩ := hw
  refine zT_st (pc' := 50) (L' := [some (.ref a0), some (.int a1), some (.int a2), j3, j4]) (st' := [.int x1, .int 1, .int a2]) (h' := h) 1 (fun n => fld_eq (E := E) e _) ?_
  refine zT_st (pc' := 51) (L' := [some (.ref a0), some (.int a1), some (.int a2), j3, j4]) (st' := [.int (1 <<< (x1 &&& 31)), .int a2]) (h' := h) 1 (fun n => rfl) ?_
  by_cases hc : (1 <<< (x1 &&& 31)) ≤ a2
  · rw [if_pos hc] at hw
    refine zT_st (pc' := 134) (L' := [some (.ref a0), some (.int a1), some (.int a2), j3, j4]) (st' := []) (h' := h) 1 (fun n => if_pos hc) ?_
    exact zT_st 2 (fun n => rfl) hw
  · rw [if_neg hc] at hw
    refine zT_st (pc' := 54) (L' := [some (.ref a0), some (.int a1), some (.int a2), j3, j4]) (st' := []) (h' := h) 1 (fun n => if_neg hc) ?_
    refine zT_st (pc' := 58) (L' := [some (.ref a0), some (.int a1), some (.int a2), j3, j4]) (st' := [.ref a0, .int 10000]) (h' := h) 2 (fun n => rfl) ?_
    obtain ⟨o2, e, hw⟩ := hw
    refine zT_st (pc' := 61) (L' := [some (.ref a0), some (.int a1), some (.int a2), j3, j4]) (st' := [.ref o2, .int 10000]) (h' := h) 1 (fun n => fld_eq (E := E) e _) ?_
    refine zT_st (pc' := 70) (L' := [some (.ref a0), some (.int a1), some (.int a2), j3, j4]) (st' := [.int ((1024 * (a1 + 1)) + a2), .ref o2, .int 10000]) (h' := h) 7 (fun n => rfl) ?_
    obtain ⟨n3, f4, e, hi, hw⟩ := hw
    refine zT_st (pc' := 71) (L' := [some (.ref a0), some (.int a1), some (.int a2), j3, j4]) (st' := [.int (f4 (((1024 * (a1 + 1)) + a2)).toNatClampNeg), .int 10000]) (h' := h) 1 (fun n => arr_eq (E := E) e hi [.int 10000] (fun st => zrun zP zCd E n (d + 1) m_m_laysPuts 71 [some (.ref a0), some (.int a1), some (.int a2), j3, j4] st h)) ?_
    exact zT_st 4 (fun n => rfl) hw
set_option maxRecDepth 4000 in
theorem s_m_laysPuts_76 (E : zX) (d : Nat) (a0 : Nat) (a1 : Int32) (a2 : Int32) (a3 : Int32) (a4 : Int32) (h : zH) (r : zO × zH)
    (hw : ∃ x1 : Int32, fld h a0 12 4 = some (.int x1) ∧
    if x1 ≤ a4 then (
      ∃ o2 : Nat, fld h a0 12 51 = some (.ref o2) ∧
      ∃ (n3 : Nat) (f4 : Nat → Int32), arr h o2 = some (n3, f4) ∧ ¬ (((1024 * a1) + a2) < 0 ∨ n3 ≤ (((1024 * a1) + a2)).toNatClampNeg) ∧
      zT E (d + 1) m_m_laysPuts 44 [some (.ref a0), some (.int a1), some (.int (a2 + 1)), some (.int a3), some (.int a4)] [] (setA h o2 n3 (upd f4 (((1024 * a1) + a2)).toNatClampNeg a3)) r)
    else (
      isO h a0 12 = true ∧ ∃ (x5 : Int32) (h6 : zH), zT E d m_m_canPut 0 [some (.ref a0), some (.int a1), some (.int a4), some (.int a2)] [] h (.inl (some (.int x5)), h6) ∧
      if x5 = 0 then (
        zT E (d + 1) m_m_laysPuts 76 [some (.ref a0), some (.int a1), some (.int a2), some (.int a3), some (.int (a4 + 1))] [] h6 r)
      else (
        isO h6 a0 12 = true ∧ ∃ (x7 : Int32) (h8 : zH), zT E d m_m_puts0 0 [some (.ref a0), some (.int a1), some (.int a4), some (.int a2)] [] h6 (.inl (some (.int x7)), h8) ∧
        ∃ (x9 : Int32) (h10 : zH), zT E d m_m_lesser 0 [some (.int a3), some (.int x7)] [] h8 (.inl (some (.int x9)), h10) ∧
        zT E (d + 1) m_m_laysPuts 76 [some (.ref a0), some (.int a1), some (.int a2), some (.int x9), some (.int (a4 + 1))] [] h10 r))) :
    zT E (d + 1) m_m_laysPuts 76 [some (.ref a0), some (.int a1), some (.int a2), some (.int a3), some (.int a4)] [] h r := by
  refine zT_st (pc' := 79) (L' := [some (.ref a0), some (.int a1), some (.int a2), some (.int a3), some (.int a4)]) (st' := [.ref a0, .int a4]) (h' := h) 2 (fun n => rfl) ?_
  obtain ⟨x1, e, hw⟩ := hw
  refine zT_st (pc' := 82) (L' := [some (.ref a0), some (.int a1), some (.int a2), some (.int a3), some (.int a4)]) (st' := [.int x1, .int a4]) (h' := h) 1 (fun n => fld_eq (E := E) e _) ?_
  by_cases hc : x1 ≤ a4
  · rw [if_pos hc] at hw
    refine zT_st (pc' := 115) (L' := [some (.ref a0), some (.int a1), some (.int a2), some (.int a3), some (.int a4)]) (st' := []) (h' := h) 1 (fun n => if_pos hc) ?_
    refine zT_st (pc' := 116) (L' := [some (.ref a0), some (.int a1), some (.int a2), some (.int a3), some (.int a4)]) (st' := [.ref a0]) (h' := h) 1 (fun n => rfl) ?_
    obtain ⟨o2, e, hw⟩ := hw
    refine zT_st (pc' := 119) (L' := [some (.ref a0), some (.int a1), some (.int a2), some (.int a3), some (.int a4)]) (st' := [.ref o2]) (h' := h) 1 (fun n => fld_eq (E := E) e _) ?_
    refine zT_st (pc' := 127) (L' := [some (.ref a0), some (.int a1), some (.int a2), some (.int a3), some (.int a4)]) (st' := [.int a3, .int ((1024 * a1) + a2), .ref o2]) (h' := h) 6 (fun n => rfl) ?_
    obtain ⟨n3, f4, e, hi, hw⟩ := hw
    refine zT_st (pc' := 128) (L' := [some (.ref a0), some (.int a1), some (.int a2), some (.int a3), some (.int a4)]) (st' := []) (h' := (setA h o2 n3 (upd f4 (((1024 * a1) + a2)).toNatClampNeg a3))) 1 (fun n => set_eq e hi _ _) ?_
    exact zT_st 2 (fun n => rfl) hw
  · rw [if_neg hc] at hw
    refine zT_st (pc' := 85) (L' := [some (.ref a0), some (.int a1), some (.int a2), some (.int a3), some (.int a4)]) (st' := []) (h' := h) 1 (fun n => if_neg hc) ?_
    refine zT_st (pc' := 90) (L' := [some (.ref a0), some (.int a1), some (.int a2), some (.int a3), some (.int a4)]) (st' := [.int a2, .int a4, .int a1, .ref a0]) (h' := h) 4 (fun n => rfl) ?_
    obtain ⟨hq, hw⟩ := hw
    obtain ⟨x5, h6, hx, hw⟩ := hw
    refine zT_call (pc' := 93) (rest := []) 1 (fun n => rfl) hq hx ?_
    show zT E (d + 1) m_m_laysPuts 93 [some (.ref a0), some (.int a1), some (.int a2), some (.int a3), some (.int a4)] [.int x5] h6 r
    by_cases hc : x5 = 0
    · rw [if_pos hc] at hw
      refine zT_st (pc' := 109) (L' := [some (.ref a0), some (.int a1), some (.int a2), some (.int a3), some (.int a4)]) (st' := []) (h' := h6) 1 (fun n => if_pos hc) ?_
      exact zT_st 2 (fun n => rfl) hw
    · rw [if_neg hc] at hw
      refine zT_st (pc' := 96) (L' := [some (.ref a0), some (.int a1), some (.int a2), some (.int a3), some (.int a4)]) (st' := []) (h' := h6) 1 (fun n => if_neg hc) ?_
      refine zT_st (pc' := 102) (L' := [some (.ref a0), some (.int a1), some (.int a2), some (.int a3), some (.int a4)]) (st' := [.int a2, .int a4, .int a1, .ref a0, .int a3]) (h' := h6) 5 (fun n => rfl) ?_
      obtain ⟨hq, hw⟩ := hw
      obtain ⟨x7, h8, hx, hw⟩ := hw
      refine zT_call (pc' := 105) (rest := [.int a3]) 1 (fun n => rfl) hq hx ?_
      show zT E (d + 1) m_m_laysPuts 105 [some (.ref a0), some (.int a1), some (.int a2), some (.int a3), some (.int a4)] [.int x7, .int a3] h8 r
      obtain ⟨x9, h10, hx, hw⟩ := hw
      refine zT_call (pc' := 108) (rest := []) 1 (fun n => rfl) rfl hx ?_
      show zT E (d + 1) m_m_laysPuts 108 [some (.ref a0), some (.int a1), some (.int a2), some (.int a3), some (.int a4)] [.int x9] h10 r
      exact zT_st 3 (fun n => rfl) hw
set_option maxRecDepth 4000 in
theorem s_m_canPut_0 (E : zX) (d : Nat) (a0 : Nat) (a1 : Int32) (a2 : Int32) (a3 : Int32) (h : zH) (r : zO × zH)
    (hw : if ((a3 >>> (a2 &&& 31)) &&& 1) = 0 then (
      ∃ o1 : Nat, fld h a0 12 40 = some (.ref o1) ∧
      ∃ (n2 : Nat) (f3 : Nat → Int32), arr h o1 = some (n2, f3) ∧ ¬ ((1 + a1) < 0 ∨ n2 ≤ ((1 + a1)).toNatClampNeg) ∧
      if (f3 ((1 + a1)).toNatClampNeg) ≤ 0 then (
        r = (.inl (some (.int 0)), h))
      else (
        isO h a0 12 = true ∧ ∃ (x4 : Int32) (h5 : zH), zT E d m_m_isWhite 0 [some (.ref a0), some (.int 0), some (.int a2)] [] h (.inl (some (.int x4)), h5) ∧
        if x4 = 0 then (
          r = (.inl (some (.int 0)), h5))
        else (
          ∃ o6 : Nat, fld h5 a0 12 8 = some (.ref o6) ∧
          ∃ (n7 : Nat) (f8 : Nat → Int32), arr h5 o6 = some (n7, f8) ∧ ¬ (a2 < 0 ∨ n7 ≤ (a2).toNatClampNeg) ∧
          ∃ o9 : Nat, fld h5 a0 12 40 = some (.ref o9) ∧
          ∃ (n10 : Nat) (f11 : Nat → Int32), arr h5 o9 = some (n10, f11) ∧ ¬ ((1 + a1) < 0 ∨ n10 ≤ ((1 + a1)).toNatClampNeg) ∧
          if (f8 (a2).toNatClampNeg) < (f11 ((1 + a1)).toNatClampNeg) then (
            r = (.inl (some (.int 0)), h5))
          else (
            r = (.inl (some (.int 1)), h5)))))
    else (
      r = (.inl (some (.int 0)), h))) :
    zT E (d + 1) m_m_canPut 0 [some (.ref a0), some (.int a1), some (.int a2), some (.int a3)] [] h r := by
  refine zT_st (pc' := 5) (L' := [some (.ref a0), some (.int a1), some (.int a2), some (.int a3)]) (st' := [.int ((a3 >>> (a2 &&& 31)) &&& 1)]) (h' := h) 5 (fun n => rfl) ?_
  by_cases hc : ((a3 >>> (a2 &&& 31)) &&& 1) = 0
  · rw [if_pos hc] at hw
    refine zT_st (pc' := 8) (L' := [some (.ref a0), some (.int a1), some (.int a2), some (.int a3)]) (st' := []) (h' := h) 1 (fun n => if_pos hc) ?_
    refine zT_st (pc' := 9) (L' := [some (.ref a0), some (.int a1), some (.int a2), some (.int a3)]) (st' := [.ref a0]) (h' := h) 1 (fun n => rfl) ?_
    obtain ⟨o1, e, hw⟩ := hw
    refine zT_st (pc' := 12) (L' := [some (.ref a0), some (.int a1), some (.int a2), some (.int a3)]) (st' := [.ref o1]) (h' := h) 1 (fun n => fld_eq (E := E) e _) ?_
    refine zT_st (pc' := 15) (L' := [some (.ref a0), some (.int a1), some (.int a2), some (.int a3)]) (st' := [.int (1 + a1), .ref o1]) (h' := h) 3 (fun n => rfl) ?_
    obtain ⟨n2, f3, e, hi, hw⟩ := hw
    refine zT_st (pc' := 16) (L' := [some (.ref a0), some (.int a1), some (.int a2), some (.int a3)]) (st' := [.int (f3 ((1 + a1)).toNatClampNeg)]) (h' := h) 1 (fun n => arr_eq (E := E) e hi [] (fun st => zrun zP zCd E n (d + 1) m_m_canPut 16 [some (.ref a0), some (.int a1), some (.int a2), some (.int a3)] st h)) ?_
    by_cases hc : (f3 ((1 + a1)).toNatClampNeg) ≤ 0
    · rw [if_pos hc] at hw
      refine zT_st (pc' := 49) (L' := [some (.ref a0), some (.int a1), some (.int a2), some (.int a3)]) (st' := []) (h' := h) 1 (fun n => if_pos hc) ?_
      subst hw
      exact zT_ret 2 rfl
    · rw [if_neg hc] at hw
      refine zT_st (pc' := 19) (L' := [some (.ref a0), some (.int a1), some (.int a2), some (.int a3)]) (st' := []) (h' := h) 1 (fun n => if_neg hc) ?_
      refine zT_st (pc' := 22) (L' := [some (.ref a0), some (.int a1), some (.int a2), some (.int a3)]) (st' := [.int a2, .int 0, .ref a0]) (h' := h) 3 (fun n => rfl) ?_
      obtain ⟨hq, hw⟩ := hw
      obtain ⟨x4, h5, hx, hw⟩ := hw
      refine zT_call (pc' := 25) (rest := []) 1 (fun n => rfl) hq hx ?_
      show zT E (d + 1) m_m_canPut 25 [some (.ref a0), some (.int a1), some (.int a2), some (.int a3)] [.int x4] h5 r
      by_cases hc : x4 = 0
      · rw [if_pos hc] at hw
        refine zT_st (pc' := 49) (L' := [some (.ref a0), some (.int a1), some (.int a2), some (.int a3)]) (st' := []) (h' := h5) 1 (fun n => if_pos hc) ?_
        subst hw
        exact zT_ret 2 rfl
      · rw [if_neg hc] at hw
        refine zT_st (pc' := 28) (L' := [some (.ref a0), some (.int a1), some (.int a2), some (.int a3)]) (st' := []) (h' := h5) 1 (fun n => if_neg hc) ?_
        refine zT_st (pc' := 29) (L' := [some (.ref a0), some (.int a1), some (.int a2), some (.int a3)]) (st' := [.ref a0]) (h' := h5) 1 (fun n => rfl) ?_
        obtain ⟨o6, e, hw⟩ := hw
        refine zT_st (pc' := 32) (L' := [some (.ref a0), some (.int a1), some (.int a2), some (.int a3)]) (st' := [.ref o6]) (h' := h5) 1 (fun n => fld_eq (E := E) e _) ?_
        refine zT_st (pc' := 33) (L' := [some (.ref a0), some (.int a1), some (.int a2), some (.int a3)]) (st' := [.int a2, .ref o6]) (h' := h5) 1 (fun n => rfl) ?_
        obtain ⟨n7, f8, e, hi, hw⟩ := hw
        refine zT_st (pc' := 34) (L' := [some (.ref a0), some (.int a1), some (.int a2), some (.int a3)]) (st' := [.int (f8 (a2).toNatClampNeg)]) (h' := h5) 1 (fun n => arr_eq (E := E) e hi [] (fun st => zrun zP zCd E n (d + 1) m_m_canPut 34 [some (.ref a0), some (.int a1), some (.int a2), some (.int a3)] st h5)) ?_
        refine zT_st (pc' := 35) (L' := [some (.ref a0), some (.int a1), some (.int a2), some (.int a3)]) (st' := [.ref a0, .int (f8 (a2).toNatClampNeg)]) (h' := h5) 1 (fun n => rfl) ?_
        obtain ⟨o9, e, hw⟩ := hw
        refine zT_st (pc' := 38) (L' := [some (.ref a0), some (.int a1), some (.int a2), some (.int a3)]) (st' := [.ref o9, .int (f8 (a2).toNatClampNeg)]) (h' := h5) 1 (fun n => fld_eq (E := E) e _) ?_
        refine zT_st (pc' := 41) (L' := [some (.ref a0), some (.int a1), some (.int a2), some (.int a3)]) (st' := [.int (1 + a1), .ref o9, .int (f8 (a2).toNatClampNeg)]) (h' := h5) 3 (fun n => rfl) ?_
        obtain ⟨n10, f11, e, hi, hw⟩ := hw
        refine zT_st (pc' := 42) (L' := [some (.ref a0), some (.int a1), some (.int a2), some (.int a3)]) (st' := [.int (f11 ((1 + a1)).toNatClampNeg), .int (f8 (a2).toNatClampNeg)]) (h' := h5) 1 (fun n => arr_eq (E := E) e hi [.int (f8 (a2).toNatClampNeg)] (fun st => zrun zP zCd E n (d + 1) m_m_canPut 42 [some (.ref a0), some (.int a1), some (.int a2), some (.int a3)] st h5)) ?_
        by_cases hc : (f8 (a2).toNatClampNeg) < (f11 ((1 + a1)).toNatClampNeg)
        · rw [if_pos hc] at hw
          refine zT_st (pc' := 49) (L' := [some (.ref a0), some (.int a1), some (.int a2), some (.int a3)]) (st' := []) (h' := h5) 1 (fun n => if_pos hc) ?_
          subst hw
          exact zT_ret 2 rfl
        · rw [if_neg hc] at hw
          refine zT_st (pc' := 45) (L' := [some (.ref a0), some (.int a1), some (.int a2), some (.int a3)]) (st' := []) (h' := h5) 1 (fun n => if_neg hc) ?_
          subst hw
          exact zT_ret 3 rfl
  · rw [if_neg hc] at hw
    refine zT_st (pc' := 49) (L' := [some (.ref a0), some (.int a1), some (.int a2), some (.int a3)]) (st' := []) (h' := h) 1 (fun n => if_neg hc) ?_
    subst hw
    exact zT_ret 2 rfl
set_option maxRecDepth 4000 in
theorem s_m_forget_0 (E : zX) (d : Nat) (a0 : Nat) (h : zH) (r : zO × zH)
    (hw : (∃ w, fld h a0 12 0 = some w) ∧
    (∃ w, fld (setF h a0 0 (.int 0)) a0 12 53 = some w) ∧
    r = (.inl (none), (setF (setF h a0 0 (.int 0)) a0 53 (.int 0)))) :
    zT E d m_m_forget 0 [some (.ref a0)] [] h r := by
  refine zT_st (pc' := 2) (L' := [some (.ref a0)]) (st' := [.int 0, .ref a0]) (h' := h) 2 (fun n => rfl) ?_
  obtain ⟨⟨w, e⟩, hw⟩ := hw
  refine zT_st (pc' := 5) (L' := [some (.ref a0)]) (st' := []) (h' := (setF h a0 0 (.int 0))) 1 (fun n => put_eq e rfl _ _) ?_
  refine zT_st (pc' := 7) (L' := [some (.ref a0)]) (st' := [.int 0, .ref a0]) (h' := (setF h a0 0 (.int 0))) 2 (fun n => rfl) ?_
  obtain ⟨⟨w, e⟩, hw⟩ := hw
  refine zT_st (pc' := 10) (L' := [some (.ref a0)]) (st' := []) (h' := (setF (setF h a0 0 (.int 0)) a0 53 (.int 0))) 1 (fun n => put_eq e rfl _ _) ?_
  subst hw
  exact zT_ret 1 rfl
set_option maxRecDepth 4000 in
theorem s_m_isSeen_0 (E : zX) (d : Nat) (a0 : Nat) (h : zH) (r : zO × zH)
    (hw : zT E (d + 1) m_m_isSeen 2 [some (.ref a0), some (.int 0), none] [] h r) :
    zT E (d + 1) m_m_isSeen 0 [some (.ref a0), none, none] [] h r := by
  exact zT_st 2 (fun n => rfl) hw
set_option maxRecDepth 4000 in
theorem s_m_isSeen_2 (E : zX) (d : Nat) (a0 : Nat) (a1 : Int32) (j2 : Option Value) (h : zH) (r : zO × zH)
    (hw : if 20 < a1 then (
      r = (.inl (some (.int 1)), h))
    else (
      zT E (d + 1) m_m_isSeen 10 [some (.ref a0), some (.int a1), some (.int 0)] [] h r)) :
    zT E (d + 1) m_m_isSeen 2 [some (.ref a0), some (.int a1), j2] [] h r := by
  refine zT_st (pc' := 5) (L' := [some (.ref a0), some (.int a1), j2]) (st' := [.int 20, .int a1]) (h' := h) 2 (fun n => rfl) ?_
  by_cases hc : 20 < a1
  · rw [if_pos hc] at hw
    refine zT_st (pc' := 124) (L' := [some (.ref a0), some (.int a1), j2]) (st' := []) (h' := h) 1 (fun n => if_pos hc) ?_
    subst hw
    exact zT_ret 2 rfl
  · rw [if_neg hc] at hw
    refine zT_st (pc' := 8) (L' := [some (.ref a0), some (.int a1), j2]) (st' := []) (h' := h) 1 (fun n => if_neg hc) ?_
    exact zT_st 2 (fun n => rfl) hw
set_option maxRecDepth 4000 in
theorem s_m_isSeen_10 (E : zX) (d : Nat) (a0 : Nat) (a1 : Int32) (a2 : Int32) (h : zH) (r : zO × zH)
    (hw : ∃ x1 : Int32, fld h a0 12 53 = some (.int x1) ∧
    if x1 ≤ a2 then (
      if a1 = 8 then (
        zT E (d + 1) m_m_isSeen 83 [some (.ref a0), some (.int a1), some (.int 0)] [] h r)
      else (
        isO h a0 12 = true ∧ ∃ (h3 : zH), zT E d m_m_dayOf 0 [some (.ref a0), some (.int 79)] [] h (.inl none, h3) ∧
        zT E (d + 1) m_m_isSeen 2 [some (.ref a0), some (.int (a1 + 1)), some (.int a2)] [] h3 r))
    else (
      ∃ o4 : Nat, fld h a0 12 54 = some (.ref o4) ∧
      ∃ (n5 : Nat) (f6 : Nat → Int32), arr h o4 = some (n5, f6) ∧ ¬ (((3 * a2) + 1) < 0 ∨ n5 ≤ (((3 * a2) + 1)).toNatClampNeg) ∧
      if (f6 (((3 * a2) + 1)).toNatClampNeg) = a1 then (
        ∃ o7 : Nat, fld h a0 12 54 = some (.ref o7) ∧
        ∃ (n8 : Nat) (f9 : Nat → Int32), arr h o7 = some (n8, f9) ∧ ¬ ((3 * a2) < 0 ∨ n8 ≤ ((3 * a2)).toNatClampNeg) ∧
        isO h a0 12 = true ∧ ∃ (x10 : Int32) (h11 : zH), zT E d m_m_isWhite 0 [some (.ref a0), some (.int 79), some (.int (f9 ((3 * a2)).toNatClampNeg))] [] h (.inl (some (.int x10)), h11) ∧
        if x10 = 0 then (
          zT E (d + 1) m_m_isSeen 54 [some (.ref a0), some (.int a1), some (.int a2)] [.int 0] h11 r)
        else (
          zT E (d + 1) m_m_isSeen 54 [some (.ref a0), some (.int a1), some (.int a2)] [.int 1] h11 r))
      else (
        zT E (d + 1) m_m_isSeen 10 [some (.ref a0), some (.int a1), some (.int (a2 + 1))] [] h r))) :
    zT E (d + 1) m_m_isSeen 10 [some (.ref a0), some (.int a1), some (.int a2)] [] h r := by
  refine zT_st (pc' := 12) (L' := [some (.ref a0), some (.int a1), some (.int a2)]) (st' := [.ref a0, .int a2]) (h' := h) 2 (fun n => rfl) ?_
  obtain ⟨x1, e, hw⟩ := hw
  refine zT_st (pc' := 15) (L' := [some (.ref a0), some (.int a1), some (.int a2)]) (st' := [.int x1, .int a2]) (h' := h) 1 (fun n => fld_eq (E := E) e _) ?_
  by_cases hc : x1 ≤ a2
  · rw [if_pos hc] at hw
    refine zT_st (pc' := 75) (L' := [some (.ref a0), some (.int a1), some (.int a2)]) (st' := []) (h' := h) 1 (fun n => if_pos hc) ?_
    refine zT_st (pc' := 78) (L' := [some (.ref a0), some (.int a1), some (.int a2)]) (st' := [.int 8, .int a1]) (h' := h) 2 (fun n => rfl) ?_
    by_cases hc : a1 = 8
    · rw [if_pos hc] at hw
      refine zT_st (pc' := 81) (L' := [some (.ref a0), some (.int a1), some (.int a2)]) (st' := []) (h' := h) 1 (fun n => if_pos hc) ?_
      exact zT_st 2 (fun n => rfl) hw
    · rw [if_neg hc] at hw
      refine zT_st (pc' := 112) (L' := [some (.ref a0), some (.int a1), some (.int a2)]) (st' := []) (h' := h) 1 (fun n => if_neg hc) ?_
      refine zT_st (pc' := 115) (L' := [some (.ref a0), some (.int a1), some (.int a2)]) (st' := [.int 79, .ref a0]) (h' := h) 2 (fun n => rfl) ?_
      obtain ⟨hq, hw⟩ := hw
      obtain ⟨h3, hx, hw⟩ := hw
      refine zT_call (pc' := 118) (rest := []) 1 (fun n => rfl) hq hx ?_
      show zT E (d + 1) m_m_isSeen 118 [some (.ref a0), some (.int a1), some (.int a2)] [] h3 r
      exact zT_st 2 (fun n => rfl) hw
  · rw [if_neg hc] at hw
    refine zT_st (pc' := 18) (L' := [some (.ref a0), some (.int a1), some (.int a2)]) (st' := []) (h' := h) 1 (fun n => if_neg hc) ?_
    refine zT_st (pc' := 19) (L' := [some (.ref a0), some (.int a1), some (.int a2)]) (st' := [.ref a0]) (h' := h) 1 (fun n => rfl) ?_
    obtain ⟨o4, e, hw⟩ := hw
    refine zT_st (pc' := 22) (L' := [some (.ref a0), some (.int a1), some (.int a2)]) (st' := [.ref o4]) (h' := h) 1 (fun n => fld_eq (E := E) e _) ?_
    refine zT_st (pc' := 27) (L' := [some (.ref a0), some (.int a1), some (.int a2)]) (st' := [.int ((3 * a2) + 1), .ref o4]) (h' := h) 5 (fun n => rfl) ?_
    obtain ⟨n5, f6, e, hi, hw⟩ := hw
    refine zT_st (pc' := 28) (L' := [some (.ref a0), some (.int a1), some (.int a2)]) (st' := [.int (f6 (((3 * a2) + 1)).toNatClampNeg)]) (h' := h) 1 (fun n => arr_eq (E := E) e hi [] (fun st => zrun zP zCd E n (d + 1) m_m_isSeen 28 [some (.ref a0), some (.int a1), some (.int a2)] st h)) ?_
    refine zT_st (pc' := 29) (L' := [some (.ref a0), some (.int a1), some (.int a2)]) (st' := [.int a1, .int (f6 (((3 * a2) + 1)).toNatClampNeg)]) (h' := h) 1 (fun n => rfl) ?_
    by_cases hc : (f6 (((3 * a2) + 1)).toNatClampNeg) = a1
    · rw [if_pos hc] at hw
      refine zT_st (pc' := 32) (L' := [some (.ref a0), some (.int a1), some (.int a2)]) (st' := []) (h' := h) 1 (fun n => if_pos hc) ?_
      refine zT_st (pc' := 36) (L' := [some (.ref a0), some (.int a1), some (.int a2)]) (st' := [.ref a0, .int 79, .ref a0]) (h' := h) 3 (fun n => rfl) ?_
      obtain ⟨o7, e, hw⟩ := hw
      refine zT_st (pc' := 39) (L' := [some (.ref a0), some (.int a1), some (.int a2)]) (st' := [.ref o7, .int 79, .ref a0]) (h' := h) 1 (fun n => fld_eq (E := E) e _) ?_
      refine zT_st (pc' := 42) (L' := [some (.ref a0), some (.int a1), some (.int a2)]) (st' := [.int (3 * a2), .ref o7, .int 79, .ref a0]) (h' := h) 3 (fun n => rfl) ?_
      obtain ⟨n8, f9, e, hi, hw⟩ := hw
      refine zT_st (pc' := 43) (L' := [some (.ref a0), some (.int a1), some (.int a2)]) (st' := [.int (f9 ((3 * a2)).toNatClampNeg), .int 79, .ref a0]) (h' := h) 1 (fun n => arr_eq (E := E) e hi [.int 79, .ref a0] (fun st => zrun zP zCd E n (d + 1) m_m_isSeen 43 [some (.ref a0), some (.int a1), some (.int a2)] st h)) ?_
      obtain ⟨hq, hw⟩ := hw
      obtain ⟨x10, h11, hx, hw⟩ := hw
      refine zT_call (pc' := 46) (rest := []) 1 (fun n => rfl) hq hx ?_
      show zT E (d + 1) m_m_isSeen 46 [some (.ref a0), some (.int a1), some (.int a2)] [.int x10] h11 r
      by_cases hc : x10 = 0
      · rw [if_pos hc] at hw
        refine zT_st (pc' := 53) (L' := [some (.ref a0), some (.int a1), some (.int a2)]) (st' := []) (h' := h11) 1 (fun n => if_pos hc) ?_
        exact zT_st 1 (fun n => rfl) hw
      · rw [if_neg hc] at hw
        refine zT_st (pc' := 49) (L' := [some (.ref a0), some (.int a1), some (.int a2)]) (st' := []) (h' := h11) 1 (fun n => if_neg hc) ?_
        exact zT_st 2 (fun n => rfl) hw
    · rw [if_neg hc] at hw
      refine zT_st (pc' := 69) (L' := [some (.ref a0), some (.int a1), some (.int a2)]) (st' := []) (h' := h) 1 (fun n => if_neg hc) ?_
      exact zT_st 2 (fun n => rfl) hw
set_option maxRecDepth 4000 in
theorem s_m_isSeen_54 (E : zX) (d : Nat) (a0 : Nat) (a1 : Int32) (a2 : Int32) (s0 : Int32) (h : zH) (r : zO × zH)
    (hw : ∃ o1 : Nat, fld h a0 12 54 = some (.ref o1) ∧
    ∃ (n2 : Nat) (f3 : Nat → Int32), arr h o1 = some (n2, f3) ∧ ¬ (((3 * a2) + 2) < 0 ∨ n2 ≤ (((3 * a2) + 2)).toNatClampNeg) ∧
    if s0 = (f3 (((3 * a2) + 2)).toNatClampNeg) then (
      zT E (d + 1) m_m_isSeen 10 [some (.ref a0), some (.int a1), some (.int (a2 + 1))] [] h r)
    else (
      r = (.inl (some (.int 0)), h))) :
    zT E (d + 1) m_m_isSeen 54 [some (.ref a0), some (.int a1), some (.int a2)] [.int s0] h r := by
  refine zT_st (pc' := 55) (L' := [some (.ref a0), some (.int a1), some (.int a2)]) (st' := [.ref a0, .int s0]) (h' := h) 1 (fun n => rfl) ?_
  obtain ⟨o1, e, hw⟩ := hw
  refine zT_st (pc' := 58) (L' := [some (.ref a0), some (.int a1), some (.int a2)]) (st' := [.ref o1, .int s0]) (h' := h) 1 (fun n => fld_eq (E := E) e _) ?_
  refine zT_st (pc' := 63) (L' := [some (.ref a0), some (.int a1), some (.int a2)]) (st' := [.int ((3 * a2) + 2), .ref o1, .int s0]) (h' := h) 5 (fun n => rfl) ?_
  obtain ⟨n2, f3, e, hi, hw⟩ := hw
  refine zT_st (pc' := 64) (L' := [some (.ref a0), some (.int a1), some (.int a2)]) (st' := [.int (f3 (((3 * a2) + 2)).toNatClampNeg), .int s0]) (h' := h) 1 (fun n => arr_eq (E := E) e hi [.int s0] (fun st => zrun zP zCd E n (d + 1) m_m_isSeen 64 [some (.ref a0), some (.int a1), some (.int a2)] st h)) ?_
  by_cases hc : s0 = (f3 (((3 * a2) + 2)).toNatClampNeg)
  · rw [if_pos hc] at hw
    refine zT_st (pc' := 69) (L' := [some (.ref a0), some (.int a1), some (.int a2)]) (st' := []) (h' := h) 1 (fun n => if_pos hc) ?_
    exact zT_st 2 (fun n => rfl) hw
  · rw [if_neg hc] at hw
    refine zT_st (pc' := 67) (L' := [some (.ref a0), some (.int a1), some (.int a2)]) (st' := []) (h' := h) 1 (fun n => if_neg hc) ?_
    subst hw
    exact zT_ret 2 rfl
set_option maxRecDepth 4000 in
theorem s_m_isSeen_83 (E : zX) (d : Nat) (a0 : Nat) (a1 : Int32) (a2 : Int32) (h : zH) (r : zO × zH)
    (hw : ∃ x1 : Int32, fld h a0 12 4 = some (.int x1) ∧
    if x1 ≤ a2 then (
      isO h a0 12 = true ∧ ∃ (h3 : zH), zT E d m_m_dayOf 0 [some (.ref a0), some (.int 79)] [] h (.inl none, h3) ∧
      zT E (d + 1) m_m_isSeen 2 [some (.ref a0), some (.int (a1 + 1)), some (.int a2)] [] h3 r)
    else (
      ∃ o4 : Nat, fld h a0 12 55 = some (.ref o4) ∧
      ∃ o5 : Nat, fld h a0 12 40 = some (.ref o5) ∧
      ∃ (n6 : Nat) (f7 : Nat → Int32), arr h o5 = some (n6, f7) ∧ ¬ ((118 + a2) < 0 ∨ n6 ≤ ((118 + a2)).toNatClampNeg) ∧
      ∃ (n8 : Nat) (f9 : Nat → Int32), arr h o4 = some (n8, f9) ∧ ¬ (a2 < 0 ∨ n8 ≤ (a2).toNatClampNeg) ∧
      zT E (d + 1) m_m_isSeen 83 [some (.ref a0), some (.int a1), some (.int (a2 + 1))] [] (setA h o4 n8 (upd f9 (a2).toNatClampNeg (f7 ((118 + a2)).toNatClampNeg))) r)) :
    zT E (d + 1) m_m_isSeen 83 [some (.ref a0), some (.int a1), some (.int a2)] [] h r := by
  refine zT_st (pc' := 85) (L' := [some (.ref a0), some (.int a1), some (.int a2)]) (st' := [.ref a0, .int a2]) (h' := h) 2 (fun n => rfl) ?_
  obtain ⟨x1, e, hw⟩ := hw
  refine zT_st (pc' := 88) (L' := [some (.ref a0), some (.int a1), some (.int a2)]) (st' := [.int x1, .int a2]) (h' := h) 1 (fun n => fld_eq (E := E) e _) ?_
  by_cases hc : x1 ≤ a2
  · rw [if_pos hc] at hw
    refine zT_st (pc' := 112) (L' := [some (.ref a0), some (.int a1), some (.int a2)]) (st' := []) (h' := h) 1 (fun n => if_pos hc) ?_
    refine zT_st (pc' := 115) (L' := [some (.ref a0), some (.int a1), some (.int a2)]) (st' := [.int 79, .ref a0]) (h' := h) 2 (fun n => rfl) ?_
    obtain ⟨hq, hw⟩ := hw
    obtain ⟨h3, hx, hw⟩ := hw
    refine zT_call (pc' := 118) (rest := []) 1 (fun n => rfl) hq hx ?_
    show zT E (d + 1) m_m_isSeen 118 [some (.ref a0), some (.int a1), some (.int a2)] [] h3 r
    exact zT_st 2 (fun n => rfl) hw
  · rw [if_neg hc] at hw
    refine zT_st (pc' := 91) (L' := [some (.ref a0), some (.int a1), some (.int a2)]) (st' := []) (h' := h) 1 (fun n => if_neg hc) ?_
    refine zT_st (pc' := 92) (L' := [some (.ref a0), some (.int a1), some (.int a2)]) (st' := [.ref a0]) (h' := h) 1 (fun n => rfl) ?_
    obtain ⟨o4, e, hw⟩ := hw
    refine zT_st (pc' := 95) (L' := [some (.ref a0), some (.int a1), some (.int a2)]) (st' := [.ref o4]) (h' := h) 1 (fun n => fld_eq (E := E) e _) ?_
    refine zT_st (pc' := 97) (L' := [some (.ref a0), some (.int a1), some (.int a2)]) (st' := [.ref a0, .int a2, .ref o4]) (h' := h) 2 (fun n => rfl) ?_
    obtain ⟨o5, e, hw⟩ := hw
    refine zT_st (pc' := 100) (L' := [some (.ref a0), some (.int a1), some (.int a2)]) (st' := [.ref o5, .int a2, .ref o4]) (h' := h) 1 (fun n => fld_eq (E := E) e _) ?_
    refine zT_st (pc' := 104) (L' := [some (.ref a0), some (.int a1), some (.int a2)]) (st' := [.int (118 + a2), .ref o5, .int a2, .ref o4]) (h' := h) 3 (fun n => rfl) ?_
    obtain ⟨n6, f7, e, hi, hw⟩ := hw
    refine zT_st (pc' := 105) (L' := [some (.ref a0), some (.int a1), some (.int a2)]) (st' := [.int (f7 ((118 + a2)).toNatClampNeg), .int a2, .ref o4]) (h' := h) 1 (fun n => arr_eq (E := E) e hi [.int a2, .ref o4] (fun st => zrun zP zCd E n (d + 1) m_m_isSeen 105 [some (.ref a0), some (.int a1), some (.int a2)] st h)) ?_
    obtain ⟨n8, f9, e, hi, hw⟩ := hw
    refine zT_st (pc' := 106) (L' := [some (.ref a0), some (.int a1), some (.int a2)]) (st' := []) (h' := (setA h o4 n8 (upd f9 (a2).toNatClampNeg (f7 ((118 + a2)).toNatClampNeg)))) 1 (fun n => set_eq e hi _ _) ?_
    exact zT_st 2 (fun n => rfl) hw
set_option maxRecDepth 4000 in
theorem s_m_isGuess_0 (E : zX) (d : Nat) (a0 : Nat) (a1 : Int32) (h : zH) (r : zO × zH)
    (hw : ∃ o1 : Nat, fld h a0 12 40 = some (.ref o1) ∧
    ∃ (n2 : Nat) (f3 : Nat → Int32), arr h o1 = some (n2, f3) ∧ ¬ ((22 + (a1 / 10)) < 0 ∨ n2 ≤ ((22 + (a1 / 10))).toNatClampNeg) ∧
    if (f3 ((22 + (a1 / 10))).toNatClampNeg) = (zrem a1 10) then (
      r = (.inl (some (.int 0)), h))
    else (
      isO h a0 12 = true ∧ ∃ (h5 : zH), zT E d m_m_tries 0 [some (.ref a0), none] [] h (.inl none, h5) ∧
      ∃ o6 : Nat, fld h5 a0 12 40 = some (.ref o6) ∧
      ∃ (n7 : Nat) (f8 : Nat → Int32), arr h5 o6 = some (n7, f8) ∧ ¬ ((101 + (a1 / 10)) < 0 ∨ n7 ≤ ((101 + (a1 / 10))).toNatClampNeg) ∧
      isO (setA h5 o6 n7 (upd f8 ((101 + (a1 / 10))).toNatClampNeg (zrem a1 10))) a0 12 = true ∧ ∃ (x9 : Int32) (h10 : zH), zT E d m_m_isSeen 0 [some (.ref a0), none, none] [] (setA h5 o6 n7 (upd f8 ((101 + (a1 / 10))).toNatClampNeg (zrem a1 10))) (.inl (some (.int x9)), h10) ∧
      zfr (some .boolean) x9 = true ∧ r = (.inl (some (.int x9)), h10))) :
    zT E (d + 1) m_m_isGuess 0 [some (.ref a0), some (.int a1), none] [] h r := by
  refine zT_st (pc' := 3) (L' := [some (.ref a0), some (.int a1), none]) (st' := [.int 10, .int a1]) (h' := h) 2 (fun n => rfl) ?_
  refine zT_st (pc' := 4) (L' := [some (.ref a0), some (.int a1), none]) (st' := [.int (a1 / 10)]) (h' := h) 1 (fun n => rfl) ?_
  refine zT_st (pc' := 6) (L' := [some (.ref a0), some (.int a1), some (.int (a1 / 10))]) (st' := [.ref a0]) (h' := h) 2 (fun n => rfl) ?_
  obtain ⟨o1, e, hw⟩ := hw
  refine zT_st (pc' := 9) (L' := [some (.ref a0), some (.int a1), some (.int (a1 / 10))]) (st' := [.ref o1]) (h' := h) 1 (fun n => fld_eq (E := E) e _) ?_
  refine zT_st (pc' := 13) (L' := [some (.ref a0), some (.int a1), some (.int (a1 / 10))]) (st' := [.int (22 + (a1 / 10)), .ref o1]) (h' := h) 3 (fun n => rfl) ?_
  obtain ⟨n2, f3, e, hi, hw⟩ := hw
  refine zT_st (pc' := 14) (L' := [some (.ref a0), some (.int a1), some (.int (a1 / 10))]) (st' := [.int (f3 ((22 + (a1 / 10))).toNatClampNeg)]) (h' := h) 1 (fun n => arr_eq (E := E) e hi [] (fun st => zrun zP zCd E n (d + 1) m_m_isGuess 14 [some (.ref a0), some (.int a1), some (.int (a1 / 10))] st h)) ?_
  refine zT_st (pc' := 17) (L' := [some (.ref a0), some (.int a1), some (.int (a1 / 10))]) (st' := [.int 10, .int a1, .int (f3 ((22 + (a1 / 10))).toNatClampNeg)]) (h' := h) 2 (fun n => rfl) ?_
  refine zT_st (pc' := 18) (L' := [some (.ref a0), some (.int a1), some (.int (a1 / 10))]) (st' := [.int (zrem a1 10), .int (f3 ((22 + (a1 / 10))).toNatClampNeg)]) (h' := h) 1 (fun n => rfl) ?_
  by_cases hc : (f3 ((22 + (a1 / 10))).toNatClampNeg) = (zrem a1 10)
  · rw [if_pos hc] at hw
    refine zT_st (pc' := 21) (L' := [some (.ref a0), some (.int a1), some (.int (a1 / 10))]) (st' := []) (h' := h) 1 (fun n => if_pos hc) ?_
    subst hw
    exact zT_ret 2 rfl
  · rw [if_neg hc] at hw
    refine zT_st (pc' := 23) (L' := [some (.ref a0), some (.int a1), some (.int (a1 / 10))]) (st' := []) (h' := h) 1 (fun n => if_neg hc) ?_
    refine zT_st (pc' := 24) (L' := [some (.ref a0), some (.int a1), some (.int (a1 / 10))]) (st' := [.ref a0]) (h' := h) 1 (fun n => rfl) ?_
    obtain ⟨hq, hw⟩ := hw
    obtain ⟨h5, hx, hw⟩ := hw
    refine zT_call (pc' := 27) (rest := []) 1 (fun n => rfl) hq hx ?_
    show zT E (d + 1) m_m_isGuess 27 [some (.ref a0), some (.int a1), some (.int (a1 / 10))] [] h5 r
    refine zT_st (pc' := 28) (L' := [some (.ref a0), some (.int a1), some (.int (a1 / 10))]) (st' := [.ref a0]) (h' := h5) 1 (fun n => rfl) ?_
    obtain ⟨o6, e, hw⟩ := hw
    refine zT_st (pc' := 31) (L' := [some (.ref a0), some (.int a1), some (.int (a1 / 10))]) (st' := [.ref o6]) (h' := h5) 1 (fun n => fld_eq (E := E) e _) ?_
    refine zT_st (pc' := 38) (L' := [some (.ref a0), some (.int a1), some (.int (a1 / 10))]) (st' := [.int 10, .int a1, .int (101 + (a1 / 10)), .ref o6]) (h' := h5) 5 (fun n => rfl) ?_
    refine zT_st (pc' := 39) (L' := [some (.ref a0), some (.int a1), some (.int (a1 / 10))]) (st' := [.int (zrem a1 10), .int (101 + (a1 / 10)), .ref o6]) (h' := h5) 1 (fun n => rfl) ?_
    obtain ⟨n7, f8, e, hi, hw⟩ := hw
    refine zT_st (pc' := 40) (L' := [some (.ref a0), some (.int a1), some (.int (a1 / 10))]) (st' := []) (h' := (setA h5 o6 n7 (upd f8 ((101 + (a1 / 10))).toNatClampNeg (zrem a1 10)))) 1 (fun n => set_eq e hi _ _) ?_
    refine zT_st (pc' := 41) (L' := [some (.ref a0), some (.int a1), some (.int (a1 / 10))]) (st' := [.ref a0]) (h' := (setA h5 o6 n7 (upd f8 ((101 + (a1 / 10))).toNatClampNeg (zrem a1 10)))) 1 (fun n => rfl) ?_
    obtain ⟨hq, hw⟩ := hw
    obtain ⟨x9, h10, hx, hw⟩ := hw
    refine zT_call (pc' := 44) (rest := []) 1 (fun n => rfl) hq hx ?_
    show zT E (d + 1) m_m_isGuess 44 [some (.ref a0), some (.int a1), some (.int (a1 / 10))] [.int x9] h10 r
    obtain ⟨hz, hw⟩ := hw
    subst hw
    refine zT_ret 1 ?_
    show (bif zfr _ _ then _ else none) = _
    rw [hz]
    rfl
set_option maxRecDepth 4000 in
theorem s_m_look_0 (E : zX) (d : Nat) (a0 : Nat) (a1 : Int32) (h : zH) (r : zO × zH)
    (hw : (∃ w, fld h a0 12 0 = some w) ∧
    isO (setF h a0 0 (.int 0)) a0 12 = true ∧ ∃ (x1 : Int32) (h2 : zH), zT E d m_m_isWhat 0 [some (.ref a0), some (.int a1), some (.int 1)] [] (setF h a0 0 (.int 0)) (.inl (some (.int x1)), h2) ∧
    if x1 = 0 then (
      r = (.inl (some (.int 0)), h2))
    else (
      zT E (d + 1) m_m_look 20 [some (.ref a0), some (.int a1), some (.int 0), some (.int 0), none, none, none, none, none, none] [] h2 r)) :
    zT E (d + 1) m_m_look 0 [some (.ref a0), some (.int a1), none, none, none, none, none, none, none, none] [] h r := by
  refine zT_st (pc' := 2) (L' := [some (.ref a0), some (.int a1), none, none, none, none, none, none, none, none]) (st' := [.int 0, .ref a0]) (h' := h) 2 (fun n => rfl) ?_
  obtain ⟨⟨w, e⟩, hw⟩ := hw
  refine zT_st (pc' := 5) (L' := [some (.ref a0), some (.int a1), none, none, none, none, none, none, none, none]) (st' := []) (h' := (setF h a0 0 (.int 0))) 1 (fun n => put_eq e rfl _ _) ?_
  refine zT_st (pc' := 8) (L' := [some (.ref a0), some (.int a1), none, none, none, none, none, none, none, none]) (st' := [.int 1, .int a1, .ref a0]) (h' := (setF h a0 0 (.int 0))) 3 (fun n => rfl) ?_
  obtain ⟨hq, hw⟩ := hw
  obtain ⟨x1, h2, hx, hw⟩ := hw
  refine zT_call (pc' := 11) (rest := []) 1 (fun n => rfl) hq hx ?_
  show zT E (d + 1) m_m_look 11 [some (.ref a0), some (.int a1), none, none, none, none, none, none, none, none] [.int x1] h2 r
  by_cases hc : x1 = 0
  · rw [if_pos hc] at hw
    refine zT_st (pc' := 14) (L' := [some (.ref a0), some (.int a1), none, none, none, none, none, none, none, none]) (st' := []) (h' := h2) 1 (fun n => if_pos hc) ?_
    subst hw
    exact zT_ret 2 rfl
  · rw [if_neg hc] at hw
    refine zT_st (pc' := 16) (L' := [some (.ref a0), some (.int a1), none, none, none, none, none, none, none, none]) (st' := []) (h' := h2) 1 (fun n => if_neg hc) ?_
    exact zT_st 4 (fun n => rfl) hw
set_option maxRecDepth 4000 in
theorem s_m_look_20 (E : zX) (d : Nat) (a0 : Nat) (a1 : Int32) (a2 : Int32) (a3 : Int32) (j4 : Option Value) (j5 : Option Value) (j6 : Option Value) (j7 : Option Value) (j8 : Option Value) (j9 : Option Value) (h : zH) (r : zO × zH)
    (hw : ∃ x1 : Int32, fld h a0 12 3 = some (.int x1) ∧
    if (10 * x1) ≤ a3 then (
      zT E (d + 1) m_m_look 96 [some (.ref a0), some (.int a1), some (.int a2), some (.int (-1)), some (.int 0), some (.int 0), j6, j7, j8, j9] [] h r)
    else (
      isO h a0 12 = true ∧ ∃ (x2 : Int32) (h3 : zH), zT E d m_m_isGuess 0 [some (.ref a0), some (.int a3), none] [] h (.inl (some (.int x2)), h3) ∧
      if x2 = 0 then (
        zT E (d + 1) m_m_look 20 [some (.ref a0), some (.int a1), some (.int a2), some (.int (a3 + 1)), j4, j5, j6, j7, j8, j9] [] h3 r)
      else (
        zT E (d + 1) m_m_look 45 [some (.ref a0), some (.int a1), some (.int a2), some (.int a3), some (.int 0), j5, j6, j7, j8, j9] [] h3 r))) :
    zT E (d + 1) m_m_look 20 [some (.ref a0), some (.int a1), some (.int a2), some (.int a3), j4, j5, j6, j7, j8, j9] [] h r := by
  refine zT_st (pc' := 24) (L' := [some (.ref a0), some (.int a1), some (.int a2), some (.int a3), j4, j5, j6, j7, j8, j9]) (st' := [.ref a0, .int 10, .int a3]) (h' := h) 3 (fun n => rfl) ?_
  obtain ⟨x1, e, hw⟩ := hw
  refine zT_st (pc' := 27) (L' := [some (.ref a0), some (.int a1), some (.int a2), some (.int a3), j4, j5, j6, j7, j8, j9]) (st' := [.int x1, .int 10, .int a3]) (h' := h) 1 (fun n => fld_eq (E := E) e _) ?_
  refine zT_st (pc' := 28) (L' := [some (.ref a0), some (.int a1), some (.int a2), some (.int a3), j4, j5, j6, j7, j8, j9]) (st' := [.int (10 * x1), .int a3]) (h' := h) 1 (fun n => rfl) ?_
  by_cases hc : (10 * x1) ≤ a3
  · rw [if_pos hc] at hw
    refine zT_st (pc' := 88) (L' := [some (.ref a0), some (.int a1), some (.int a2), some (.int a3), j4, j5, j6, j7, j8, j9]) (st' := []) (h' := h) 1 (fun n => if_pos hc) ?_
    exact zT_st 6 (fun n => rfl) hw
  · rw [if_neg hc] at hw
    refine zT_st (pc' := 31) (L' := [some (.ref a0), some (.int a1), some (.int a2), some (.int a3), j4, j5, j6, j7, j8, j9]) (st' := []) (h' := h) 1 (fun n => if_neg hc) ?_
    refine zT_st (pc' := 33) (L' := [some (.ref a0), some (.int a1), some (.int a2), some (.int a3), j4, j5, j6, j7, j8, j9]) (st' := [.int a3, .ref a0]) (h' := h) 2 (fun n => rfl) ?_
    obtain ⟨hq, hw⟩ := hw
    obtain ⟨x2, h3, hx, hw⟩ := hw
    refine zT_call (pc' := 36) (rest := []) 1 (fun n => rfl) hq hx ?_
    show zT E (d + 1) m_m_look 36 [some (.ref a0), some (.int a1), some (.int a2), some (.int a3), j4, j5, j6, j7, j8, j9] [.int x2] h3 r
    by_cases hc : x2 = 0
    · rw [if_pos hc] at hw
      refine zT_st (pc' := 39) (L' := [some (.ref a0), some (.int a1), some (.int a2), some (.int a3), j4, j5, j6, j7, j8, j9]) (st' := []) (h' := h3) 1 (fun n => if_pos hc) ?_
      exact zT_st 3 (fun n => rfl) hw
    · rw [if_neg hc] at hw
      refine zT_st (pc' := 42) (L' := [some (.ref a0), some (.int a1), some (.int a2), some (.int a3), j4, j5, j6, j7, j8, j9]) (st' := []) (h' := h3) 1 (fun n => if_neg hc) ?_
      exact zT_st 2 (fun n => rfl) hw
set_option maxRecDepth 4000 in
theorem s_m_look_45 (E : zX) (d : Nat) (a0 : Nat) (a1 : Int32) (a2 : Int32) (a3 : Int32) (a4 : Int32) (j5 : Option Value) (j6 : Option Value) (j7 : Option Value) (j8 : Option Value) (j9 : Option Value) (h : zH) (r : zO × zH)
    (hw : ∃ x1 : Int32, fld h a0 12 4 = some (.int x1) ∧
    if x1 ≤ a4 then (
      zT E (d + 1) m_m_look 20 [some (.ref a0), some (.int a1), some (.int (a2 + 1)), some (.int (a3 + 1)), some (.int a4), j5, j6, j7, j8, j9] [] h r)
    else (
      ∃ o2 : Nat, fld h a0 12 56 = some (.ref o2) ∧
      ∃ o3 : Nat, fld h a0 12 55 = some (.ref o3) ∧
      ∃ (n4 : Nat) (f5 : Nat → Int32), arr h o3 = some (n4, f5) ∧ ¬ (a4 < 0 ∨ n4 ≤ (a4).toNatClampNeg) ∧
      ∃ (n6 : Nat) (f7 : Nat → Int32), arr h o2 = some (n6, f7) ∧ ¬ (((10 * a2) + a4) < 0 ∨ n6 ≤ (((10 * a2) + a4)).toNatClampNeg) ∧
      zT E (d + 1) m_m_look 45 [some (.ref a0), some (.int a1), some (.int a2), some (.int a3), some (.int (a4 + 1)), j5, j6, j7, j8, j9] [] (setA h o2 n6 (upd f7 (((10 * a2) + a4)).toNatClampNeg (f5 (a4).toNatClampNeg))) r)) :
    zT E (d + 1) m_m_look 45 [some (.ref a0), some (.int a1), some (.int a2), some (.int a3), some (.int a4), j5, j6, j7, j8, j9] [] h r := by
  refine zT_st (pc' := 48) (L' := [some (.ref a0), some (.int a1), some (.int a2), some (.int a3), some (.int a4), j5, j6, j7, j8, j9]) (st' := [.ref a0, .int a4]) (h' := h) 2 (fun n => rfl) ?_
  obtain ⟨x1, e, hw⟩ := hw
  refine zT_st (pc' := 51) (L' := [some (.ref a0), some (.int a1), some (.int a2), some (.int a3), some (.int a4), j5, j6, j7, j8, j9]) (st' := [.int x1, .int a4]) (h' := h) 1 (fun n => fld_eq (E := E) e _) ?_
  by_cases hc : x1 ≤ a4
  · rw [if_pos hc] at hw
    refine zT_st (pc' := 79) (L' := [some (.ref a0), some (.int a1), some (.int a2), some (.int a3), some (.int a4), j5, j6, j7, j8, j9]) (st' := []) (h' := h) 1 (fun n => if_pos hc) ?_
    exact zT_st 3 (fun n => rfl) hw
  · rw [if_neg hc] at hw
    refine zT_st (pc' := 54) (L' := [some (.ref a0), some (.int a1), some (.int a2), some (.int a3), some (.int a4), j5, j6, j7, j8, j9]) (st' := []) (h' := h) 1 (fun n => if_neg hc) ?_
    refine zT_st (pc' := 55) (L' := [some (.ref a0), some (.int a1), some (.int a2), some (.int a3), some (.int a4), j5, j6, j7, j8, j9]) (st' := [.ref a0]) (h' := h) 1 (fun n => rfl) ?_
    obtain ⟨o2, e, hw⟩ := hw
    refine zT_st (pc' := 58) (L' := [some (.ref a0), some (.int a1), some (.int a2), some (.int a3), some (.int a4), j5, j6, j7, j8, j9]) (st' := [.ref o2]) (h' := h) 1 (fun n => fld_eq (E := E) e _) ?_
    refine zT_st (pc' := 66) (L' := [some (.ref a0), some (.int a1), some (.int a2), some (.int a3), some (.int a4), j5, j6, j7, j8, j9]) (st' := [.ref a0, .int ((10 * a2) + a4), .ref o2]) (h' := h) 6 (fun n => rfl) ?_
    obtain ⟨o3, e, hw⟩ := hw
    refine zT_st (pc' := 69) (L' := [some (.ref a0), some (.int a1), some (.int a2), some (.int a3), some (.int a4), j5, j6, j7, j8, j9]) (st' := [.ref o3, .int ((10 * a2) + a4), .ref o2]) (h' := h) 1 (fun n => fld_eq (E := E) e _) ?_
    refine zT_st (pc' := 71) (L' := [some (.ref a0), some (.int a1), some (.int a2), some (.int a3), some (.int a4), j5, j6, j7, j8, j9]) (st' := [.int a4, .ref o3, .int ((10 * a2) + a4), .ref o2]) (h' := h) 1 (fun n => rfl) ?_
    obtain ⟨n4, f5, e, hi, hw⟩ := hw
    refine zT_st (pc' := 72) (L' := [some (.ref a0), some (.int a1), some (.int a2), some (.int a3), some (.int a4), j5, j6, j7, j8, j9]) (st' := [.int (f5 (a4).toNatClampNeg), .int ((10 * a2) + a4), .ref o2]) (h' := h) 1 (fun n => arr_eq (E := E) e hi [.int ((10 * a2) + a4), .ref o2] (fun st => zrun zP zCd E n (d + 1) m_m_look 72 [some (.ref a0), some (.int a1), some (.int a2), some (.int a3), some (.int a4), j5, j6, j7, j8, j9] st h)) ?_
    obtain ⟨n6, f7, e, hi, hw⟩ := hw
    refine zT_st (pc' := 73) (L' := [some (.ref a0), some (.int a1), some (.int a2), some (.int a3), some (.int a4), j5, j6, j7, j8, j9]) (st' := []) (h' := (setA h o2 n6 (upd f7 (((10 * a2) + a4)).toNatClampNeg (f5 (a4).toNatClampNeg)))) 1 (fun n => set_eq e hi _ _) ?_
    exact zT_st 2 (fun n => rfl) hw
set_option maxRecDepth 4000 in
theorem s_m_look_96 (E : zX) (d : Nat) (a0 : Nat) (a1 : Int32) (a2 : Int32) (a3 : Int32) (a4 : Int32) (a5 : Int32) (j6 : Option Value) (j7 : Option Value) (j8 : Option Value) (j9 : Option Value) (h : zH) (r : zO × zH)
    (hw : ∃ x1 : Int32, fld h a0 12 4 = some (.int x1) ∧
    if x1 ≤ a5 then (
      if a1 = 0 then (
        r = (.inl (some (.int a3)), h))
      else (
        r = (.inl (some (.int a4)), h)))
    else (
      zT E (d + 1) m_m_look 111 [some (.ref a0), some (.int a1), some (.int a2), some (.int a3), some (.int a4), some (.int a5), some (.int 0), some (.int 0), j8, j9] [] h r)) :
    zT E (d + 1) m_m_look 96 [some (.ref a0), some (.int a1), some (.int a2), some (.int a3), some (.int a4), some (.int a5), j6, j7, j8, j9] [] h r := by
  refine zT_st (pc' := 99) (L' := [some (.ref a0), some (.int a1), some (.int a2), some (.int a3), some (.int a4), some (.int a5), j6, j7, j8, j9]) (st' := [.ref a0, .int a5]) (h' := h) 2 (fun n => rfl) ?_
  obtain ⟨x1, e, hw⟩ := hw
  refine zT_st (pc' := 102) (L' := [some (.ref a0), some (.int a1), some (.int a2), some (.int a3), some (.int a4), some (.int a5), j6, j7, j8, j9]) (st' := [.int x1, .int a5]) (h' := h) 1 (fun n => fld_eq (E := E) e _) ?_
  by_cases hc : x1 ≤ a5
  · rw [if_pos hc] at hw
    refine zT_st (pc' := 221) (L' := [some (.ref a0), some (.int a1), some (.int a2), some (.int a3), some (.int a4), some (.int a5), j6, j7, j8, j9]) (st' := []) (h' := h) 1 (fun n => if_pos hc) ?_
    refine zT_st (pc' := 222) (L' := [some (.ref a0), some (.int a1), some (.int a2), some (.int a3), some (.int a4), some (.int a5), j6, j7, j8, j9]) (st' := [.int a1]) (h' := h) 1 (fun n => rfl) ?_
    by_cases hc : a1 = 0
    · rw [if_pos hc] at hw
      refine zT_st (pc' := 225) (L' := [some (.ref a0), some (.int a1), some (.int a2), some (.int a3), some (.int a4), some (.int a5), j6, j7, j8, j9]) (st' := []) (h' := h) 1 (fun n => if_pos hc) ?_
      subst hw
      exact zT_ret 3 rfl
    · rw [if_neg hc] at hw
      refine zT_st (pc' := 229) (L' := [some (.ref a0), some (.int a1), some (.int a2), some (.int a3), some (.int a4), some (.int a5), j6, j7, j8, j9]) (st' := []) (h' := h) 1 (fun n => if_neg hc) ?_
      subst hw
      exact zT_ret 2 rfl
  · rw [if_neg hc] at hw
    refine zT_st (pc' := 105) (L' := [some (.ref a0), some (.int a1), some (.int a2), some (.int a3), some (.int a4), some (.int a5), j6, j7, j8, j9]) (st' := []) (h' := h) 1 (fun n => if_neg hc) ?_
    exact zT_st 4 (fun n => rfl) hw
set_option maxRecDepth 4000 in
theorem s_m_look_111 (E : zX) (d : Nat) (a0 : Nat) (a1 : Int32) (a2 : Int32) (a3 : Int32) (a4 : Int32) (a5 : Int32) (a6 : Int32) (a7 : Int32) (j8 : Option Value) (j9 : Option Value) (h : zH) (r : zO × zH)
    (hw : if a2 ≤ a7 then (
      if a4 < a6 then (
        zT E (d + 1) m_m_look 96 [some (.ref a0), some (.int a1), some (.int a2), some (.int a5), some (.int a6), some (.int (a5 + 1)), some (.int a6), some (.int a7), j8, j9] [] h r)
      else (
        zT E (d + 1) m_m_look 96 [some (.ref a0), some (.int a1), some (.int a2), some (.int a3), some (.int a4), some (.int (a5 + 1)), some (.int a6), some (.int a7), j8, j9] [] h r))
    else (
      zT E (d + 1) m_m_look 123 [some (.ref a0), some (.int a1), some (.int a2), some (.int a3), some (.int a4), some (.int a5), some (.int a6), some (.int a7), some (.int 1), some (.int 0)] [] h r)) :
    zT E (d + 1) m_m_look 111 [some (.ref a0), some (.int a1), some (.int a2), some (.int a3), some (.int a4), some (.int a5), some (.int a6), some (.int a7), j8, j9] [] h r := by
  refine zT_st (pc' := 114) (L' := [some (.ref a0), some (.int a1), some (.int a2), some (.int a3), some (.int a4), some (.int a5), some (.int a6), some (.int a7), j8, j9]) (st' := [.int a2, .int a7]) (h' := h) 2 (fun n => rfl) ?_
  by_cases hc : a2 ≤ a7
  · rw [if_pos hc] at hw
    refine zT_st (pc' := 198) (L' := [some (.ref a0), some (.int a1), some (.int a2), some (.int a3), some (.int a4), some (.int a5), some (.int a6), some (.int a7), j8, j9]) (st' := []) (h' := h) 1 (fun n => if_pos hc) ?_
    refine zT_st (pc' := 202) (L' := [some (.ref a0), some (.int a1), some (.int a2), some (.int a3), some (.int a4), some (.int a5), some (.int a6), some (.int a7), j8, j9]) (st' := [.int a4, .int a6]) (h' := h) 2 (fun n => rfl) ?_
    by_cases hc : a4 < a6
    · rw [if_pos hc] at hw
      refine zT_st (pc' := 208) (L' := [some (.ref a0), some (.int a1), some (.int a2), some (.int a3), some (.int a4), some (.int a5), some (.int a6), some (.int a7), j8, j9]) (st' := []) (h' := h) 1 (fun n => if_pos hc) ?_
      exact zT_st 6 (fun n => rfl) hw
    · rw [if_neg hc] at hw
      refine zT_st (pc' := 205) (L' := [some (.ref a0), some (.int a1), some (.int a2), some (.int a3), some (.int a4), some (.int a5), some (.int a6), some (.int a7), j8, j9]) (st' := []) (h' := h) 1 (fun n => if_neg hc) ?_
      exact zT_st 3 (fun n => rfl) hw
  · rw [if_neg hc] at hw
    refine zT_st (pc' := 117) (L' := [some (.ref a0), some (.int a1), some (.int a2), some (.int a3), some (.int a4), some (.int a5), some (.int a6), some (.int a7), j8, j9]) (st' := []) (h' := h) 1 (fun n => if_neg hc) ?_
    exact zT_st 4 (fun n => rfl) hw
set_option maxRecDepth 4000 in
theorem s_m_look_123 (E : zX) (d : Nat) (a0 : Nat) (a1 : Int32) (a2 : Int32) (a3 : Int32) (a4 : Int32) (a5 : Int32) (a6 : Int32) (a7 : Int32) (a8 : Int32) (a9 : Int32) (h : zH) (r : zO × zH)
    (hw : if a7 ≤ a9 then (
      zT E (d + 1) m_m_look 177 [some (.ref a0), some (.int a1), some (.int a2), some (.int a3), some (.int a4), some (.int a5), some (.int a6), some (.int a7), some (.int a8), some (.int a9)] [] h r)
    else (
      if a8 = 0 then (
        zT E (d + 1) m_m_look 177 [some (.ref a0), some (.int a1), some (.int a2), some (.int a3), some (.int a4), some (.int a5), some (.int a6), some (.int a7), some (.int a8), some (.int a9)] [] h r)
      else (
        ∃ o1 : Nat, fld h a0 12 56 = some (.ref o1) ∧
        ∃ (n2 : Nat) (f3 : Nat → Int32), arr h o1 = some (n2, f3) ∧ ¬ (((10 * a7) + a5) < 0 ∨ n2 ≤ (((10 * a7) + a5)).toNatClampNeg) ∧
        ∃ o4 : Nat, fld h a0 12 56 = some (.ref o4) ∧
        ∃ (n5 : Nat) (f6 : Nat → Int32), arr h o4 = some (n5, f6) ∧ ¬ (((10 * a9) + a5) < 0 ∨ n5 ≤ (((10 * a9) + a5)).toNatClampNeg) ∧
        if (f3 (((10 * a7) + a5)).toNatClampNeg) = (f6 (((10 * a9) + a5)).toNatClampNeg) then (
          zT E (d + 1) m_m_look 123 [some (.ref a0), some (.int a1), some (.int a2), some (.int a3), some (.int a4), some (.int a5), some (.int a6), some (.int a7), some (.int 0), some (.int (a9 + 1))] [] h r)
        else (
          zT E (d + 1) m_m_look 123 [some (.ref a0), some (.int a1), some (.int a2), some (.int a3), some (.int a4), some (.int a5), some (.int a6), some (.int a7), some (.int 1), some (.int (a9 + 1))] [] h r)))) :
    zT E (d + 1) m_m_look 123 [some (.ref a0), some (.int a1), some (.int a2), some (.int a3), some (.int a4), some (.int a5), some (.int a6), some (.int a7), some (.int a8), some (.int a9)] [] h r := by
  refine zT_st (pc' := 127) (L' := [some (.ref a0), some (.int a1), some (.int a2), some (.int a3), some (.int a4), some (.int a5), some (.int a6), some (.int a7), some (.int a8), some (.int a9)]) (st' := [.int a7, .int a9]) (h' := h) 2 (fun n => rfl) ?_
  by_cases hc : a7 ≤ a9
  · rw [if_pos hc] at hw
    refine zT_st (pc' := 177) (L' := [some (.ref a0), some (.int a1), some (.int a2), some (.int a3), some (.int a4), some (.int a5), some (.int a6), some (.int a7), some (.int a8), some (.int a9)]) (st' := []) (h' := h) 1 (fun n => if_pos hc) ?_
    exact hw
  · rw [if_neg hc] at hw
    refine zT_st (pc' := 130) (L' := [some (.ref a0), some (.int a1), some (.int a2), some (.int a3), some (.int a4), some (.int a5), some (.int a6), some (.int a7), some (.int a8), some (.int a9)]) (st' := []) (h' := h) 1 (fun n => if_neg hc) ?_
    refine zT_st (pc' := 132) (L' := [some (.ref a0), some (.int a1), some (.int a2), some (.int a3), some (.int a4), some (.int a5), some (.int a6), some (.int a7), some (.int a8), some (.int a9)]) (st' := [.int a8]) (h' := h) 1 (fun n => rfl) ?_
    by_cases hc : a8 = 0
    · rw [if_pos hc] at hw
      refine zT_st (pc' := 177) (L' := [some (.ref a0), some (.int a1), some (.int a2), some (.int a3), some (.int a4), some (.int a5), some (.int a6), some (.int a7), some (.int a8), some (.int a9)]) (st' := []) (h' := h) 1 (fun n => if_pos hc) ?_
      exact hw
    · rw [if_neg hc] at hw
      refine zT_st (pc' := 135) (L' := [some (.ref a0), some (.int a1), some (.int a2), some (.int a3), some (.int a4), some (.int a5), some (.int a6), some (.int a7), some (.int a8), some (.int a9)]) (st' := []) (h' := h) 1 (fun n => if_neg hc) ?_
      refine zT_st (pc' := 136) (L' := [some (.ref a0), some (.int a1), some (.int a2), some (.int a3), some (.int a4), some (.int a5), some (.int a6), some (.int a7), some (.int a8), some (.int a9)]) (st' := [.ref a0]) (h' := h) 1 (fun n => rfl) ?_
      obtain ⟨o1, e, hw⟩ := hw
      refine zT_st (pc' := 139) (L' := [some (.ref a0), some (.int a1), some (.int a2), some (.int a3), some (.int a4), some (.int a5), some (.int a6), some (.int a7), some (.int a8), some (.int a9)]) (st' := [.ref o1]) (h' := h) 1 (fun n => fld_eq (E := E) e _) ?_
      refine zT_st (pc' := 147) (L' := [some (.ref a0), some (.int a1), some (.int a2), some (.int a3), some (.int a4), some (.int a5), some (.int a6), some (.int a7), some (.int a8), some (.int a9)]) (st' := [.int ((10 * a7) + a5), .ref o1]) (h' := h) 5 (fun n => rfl) ?_
      obtain ⟨n2, f3, e, hi, hw⟩ := hw
      refine zT_st (pc' := 148) (L' := [some (.ref a0), some (.int a1), some (.int a2), some (.int a3), some (.int a4), some (.int a5), some (.int a6), some (.int a7), some (.int a8), some (.int a9)]) (st' := [.int (f3 (((10 * a7) + a5)).toNatClampNeg)]) (h' := h) 1 (fun n => arr_eq (E := E) e hi [] (fun st => zrun zP zCd E n (d + 1) m_m_look 148 [some (.ref a0), some (.int a1), some (.int a2), some (.int a3), some (.int a4), some (.int a5), some (.int a6), some (.int a7), some (.int a8), some (.int a9)] st h)) ?_
      refine zT_st (pc' := 149) (L' := [some (.ref a0), some (.int a1), some (.int a2), some (.int a3), some (.int a4), some (.int a5), some (.int a6), some (.int a7), some (.int a8), some (.int a9)]) (st' := [.ref a0, .int (f3 (((10 * a7) + a5)).toNatClampNeg)]) (h' := h) 1 (fun n => rfl) ?_
      obtain ⟨o4, e, hw⟩ := hw
      refine zT_st (pc' := 152) (L' := [some (.ref a0), some (.int a1), some (.int a2), some (.int a3), some (.int a4), some (.int a5), some (.int a6), some (.int a7), some (.int a8), some (.int a9)]) (st' := [.ref o4, .int (f3 (((10 * a7) + a5)).toNatClampNeg)]) (h' := h) 1 (fun n => fld_eq (E := E) e _) ?_
      refine zT_st (pc' := 160) (L' := [some (.ref a0), some (.int a1), some (.int a2), some (.int a3), some (.int a4), some (.int a5), some (.int a6), some (.int a7), some (.int a8), some (.int a9)]) (st' := [.int ((10 * a9) + a5), .ref o4, .int (f3 (((10 * a7) + a5)).toNatClampNeg)]) (h' := h) 5 (fun n => rfl) ?_
      obtain ⟨n5, f6, e, hi, hw⟩ := hw
      refine zT_st (pc' := 161) (L' := [some (.ref a0), some (.int a1), some (.int a2), some (.int a3), some (.int a4), some (.int a5), some (.int a6), some (.int a7), some (.int a8), some (.int a9)]) (st' := [.int (f6 (((10 * a9) + a5)).toNatClampNeg), .int (f3 (((10 * a7) + a5)).toNatClampNeg)]) (h' := h) 1 (fun n => arr_eq (E := E) e hi [.int (f3 (((10 * a7) + a5)).toNatClampNeg)] (fun st => zrun zP zCd E n (d + 1) m_m_look 161 [some (.ref a0), some (.int a1), some (.int a2), some (.int a3), some (.int a4), some (.int a5), some (.int a6), some (.int a7), some (.int a8), some (.int a9)] st h)) ?_
      by_cases hc : (f3 (((10 * a7) + a5)).toNatClampNeg) = (f6 (((10 * a9) + a5)).toNatClampNeg)
      · rw [if_pos hc] at hw
        refine zT_st (pc' := 168) (L' := [some (.ref a0), some (.int a1), some (.int a2), some (.int a3), some (.int a4), some (.int a5), some (.int a6), some (.int a7), some (.int a8), some (.int a9)]) (st' := []) (h' := h) 1 (fun n => if_pos hc) ?_
        exact zT_st 4 (fun n => rfl) hw
      · rw [if_neg hc] at hw
        refine zT_st (pc' := 164) (L' := [some (.ref a0), some (.int a1), some (.int a2), some (.int a3), some (.int a4), some (.int a5), some (.int a6), some (.int a7), some (.int a8), some (.int a9)]) (st' := []) (h' := h) 1 (fun n => if_neg hc) ?_
        exact zT_st 5 (fun n => rfl) hw
set_option maxRecDepth 4000 in
theorem s_m_look_177 (E : zX) (d : Nat) (a0 : Nat) (a1 : Int32) (a2 : Int32) (a3 : Int32) (a4 : Int32) (a5 : Int32) (a6 : Int32) (a7 : Int32) (a8 : Int32) (j9 : Option Value) (h : zH) (r : zO × zH)
    (hw : if a8 = 0 then (
      zT E (d + 1) m_m_look 111 [some (.ref a0), some (.int a1), some (.int a2), some (.int a3), some (.int a4), some (.int a5), some (.int (a6 + 0)), some (.int (a7 + 1)), some (.int a8), j9] [] h r)
    else (
      zT E (d + 1) m_m_look 111 [some (.ref a0), some (.int a1), some (.int a2), some (.int a3), some (.int a4), some (.int a5), some (.int (a6 + 1)), some (.int (a7 + 1)), some (.int a8), j9] [] h r)) :
    zT E (d + 1) m_m_look 177 [some (.ref a0), some (.int a1), some (.int a2), some (.int a3), some (.int a4), some (.int a5), some (.int a6), some (.int a7), some (.int a8), j9] [] h r := by
  refine zT_st (pc' := 181) (L' := [some (.ref a0), some (.int a1), some (.int a2), some (.int a3), some (.int a4), some (.int a5), some (.int a6), some (.int a7), some (.int a8), j9]) (st' := [.int a8, .int a6]) (h' := h) 2 (fun n => rfl) ?_
  by_cases hc : a8 = 0
  · rw [if_pos hc] at hw
    refine zT_st (pc' := 188) (L' := [some (.ref a0), some (.int a1), some (.int a2), some (.int a3), some (.int a4), some (.int a5), some (.int a6), some (.int a7), some (.int a8), j9]) (st' := [.int a6]) (h' := h) 1 (fun n => if_pos hc) ?_
    exact zT_st 5 (fun n => rfl) hw
  · rw [if_neg hc] at hw
    refine zT_st (pc' := 184) (L' := [some (.ref a0), some (.int a1), some (.int a2), some (.int a3), some (.int a4), some (.int a5), some (.int a6), some (.int a7), some (.int a8), j9]) (st' := [.int a6]) (h' := h) 1 (fun n => if_neg hc) ?_
    exact zT_st 6 (fun n => rfl) hw
set_option maxRecDepth 4000 in
theorem s_m_boys_0 (E : zX) (d : Nat) (a0 : Nat) (a1 : Int32) (a2 : Int32) (a3 : Int32) (h : zH) (r : zO × zH)
    (hw : (∃ w, fld h a0 12 0 = some w) ∧
    isO (setF h a0 0 (.int 0)) a0 12 = true ∧ ∃ (x1 : Int32) (h2 : zH), zT E d m_m_isBall 0 [some (.ref a0), some (.int a1)] [] (setF h a0 0 (.int 0)) (.inl (some (.int x1)), h2) ∧
    if x1 = 0 then (
      r = (.inl (some (.int 0)), h2))
    else (
      ∃ (x3 : Int32) (h4 : zH), zT E d m_m_within 0 [some (.int a2), some (.int 1), some (.int 5)] [] h2 (.inl (some (.int x3)), h4) ∧
      if x3 = 0 then (
        zT E (d + 1) m_m_boys 37 [some (.ref a0), some (.int a1), some (.int a2), some (.int a3), none, none, none, none, none] [.ref a0] h4 r)
      else (
        ∃ (x5 : Int32) (h6 : zH), zT E d m_m_within 0 [some (.int a3), some (.int 0), some (.int 10)] [] h4 (.inl (some (.int x5)), h6) ∧
        if x5 = 0 then (
          zT E (d + 1) m_m_boys 37 [some (.ref a0), some (.int a1), some (.int a2), some (.int a3), none, none, none, none, none] [.ref a0] h6 r)
        else (
          isO h6 a0 12 = true ∧ ∃ (x7 : Int32) (h8 : zH), zT E d m_m_right 0 [some (.ref a0), some (.int 1), some (.int 2)] [] h6 (.inl (some (.int x7)), h8) ∧
          if x7 = 0 then (
            r = (.inl (some (.int 0)), h8))
          else (
            zT E (d + 1) m_m_boys 53 [some (.ref a0), some (.int a1), some (.int a2), some (.int a3), some (.int 0), some (.int 0), none, none, none] [] h8 r))))) :
    zT E (d + 1) m_m_boys 0 [some (.ref a0), some (.int a1), some (.int a2), some (.int a3), none, none, none, none, none] [] h r := by
  refine zT_st (pc' := 2) (L' := [some (.ref a0), some (.int a1), some (.int a2), some (.int a3), none, none, none, none, none]) (st' := [.int 0, .ref a0]) (h' := h) 2 (fun n => rfl) ?_
  obtain ⟨⟨w, e⟩, hw⟩ := hw
  refine zT_st (pc' := 5) (L' := [some (.ref a0), some (.int a1), some (.int a2), some (.int a3), none, none, none, none, none]) (st' := []) (h' := (setF h a0 0 (.int 0))) 1 (fun n => put_eq e rfl _ _) ?_
  refine zT_st (pc' := 7) (L' := [some (.ref a0), some (.int a1), some (.int a2), some (.int a3), none, none, none, none, none]) (st' := [.int a1, .ref a0]) (h' := (setF h a0 0 (.int 0))) 2 (fun n => rfl) ?_
  obtain ⟨hq, hw⟩ := hw
  obtain ⟨x1, h2, hx, hw⟩ := hw
  refine zT_call (pc' := 10) (rest := []) 1 (fun n => rfl) hq hx ?_
  show zT E (d + 1) m_m_boys 10 [some (.ref a0), some (.int a1), some (.int a2), some (.int a3), none, none, none, none, none] [.int x1] h2 r
  by_cases hc : x1 = 0
  · rw [if_pos hc] at hw
    refine zT_st (pc' := 45) (L' := [some (.ref a0), some (.int a1), some (.int a2), some (.int a3), none, none, none, none, none]) (st' := []) (h' := h2) 1 (fun n => if_pos hc) ?_
    subst hw
    exact zT_ret 2 rfl
  · rw [if_neg hc] at hw
    refine zT_st (pc' := 13) (L' := [some (.ref a0), some (.int a1), some (.int a2), some (.int a3), none, none, none, none, none]) (st' := []) (h' := h2) 1 (fun n => if_neg hc) ?_
    refine zT_st (pc' := 17) (L' := [some (.ref a0), some (.int a1), some (.int a2), some (.int a3), none, none, none, none, none]) (st' := [.int 5, .int 1, .int a2, .ref a0]) (h' := h2) 4 (fun n => rfl) ?_
    obtain ⟨x3, h4, hx, hw⟩ := hw
    refine zT_call (pc' := 20) (rest := [.ref a0]) 1 (fun n => rfl) rfl hx ?_
    show zT E (d + 1) m_m_boys 20 [some (.ref a0), some (.int a1), some (.int a2), some (.int a3), none, none, none, none, none] [.int x3, .ref a0] h4 r
    by_cases hc : x3 = 0
    · rw [if_pos hc] at hw
      refine zT_st (pc' := 37) (L' := [some (.ref a0), some (.int a1), some (.int a2), some (.int a3), none, none, none, none, none]) (st' := [.ref a0]) (h' := h4) 1 (fun n => if_pos hc) ?_
      exact hw
    · rw [if_neg hc] at hw
      refine zT_st (pc' := 23) (L' := [some (.ref a0), some (.int a1), some (.int a2), some (.int a3), none, none, none, none, none]) (st' := [.ref a0]) (h' := h4) 1 (fun n => if_neg hc) ?_
      refine zT_st (pc' := 27) (L' := [some (.ref a0), some (.int a1), some (.int a2), some (.int a3), none, none, none, none, none]) (st' := [.int 10, .int 0, .int a3, .ref a0]) (h' := h4) 3 (fun n => rfl) ?_
      obtain ⟨x5, h6, hx, hw⟩ := hw
      refine zT_call (pc' := 30) (rest := [.ref a0]) 1 (fun n => rfl) rfl hx ?_
      show zT E (d + 1) m_m_boys 30 [some (.ref a0), some (.int a1), some (.int a2), some (.int a3), none, none, none, none, none] [.int x5, .ref a0] h6 r
      by_cases hc : x5 = 0
      · rw [if_pos hc] at hw
        refine zT_st (pc' := 37) (L' := [some (.ref a0), some (.int a1), some (.int a2), some (.int a3), none, none, none, none, none]) (st' := [.ref a0]) (h' := h6) 1 (fun n => if_pos hc) ?_
        exact hw
      · rw [if_neg hc] at hw
        refine zT_st (pc' := 33) (L' := [some (.ref a0), some (.int a1), some (.int a2), some (.int a3), none, none, none, none, none]) (st' := [.ref a0]) (h' := h6) 1 (fun n => if_neg hc) ?_
        refine zT_st (pc' := 39) (L' := [some (.ref a0), some (.int a1), some (.int a2), some (.int a3), none, none, none, none, none]) (st' := [.int 2, .int 1, .ref a0]) (h' := h6) 3 (fun n => rfl) ?_
        obtain ⟨hq, hw⟩ := hw
        obtain ⟨x7, h8, hx, hw⟩ := hw
        refine zT_call (pc' := 42) (rest := []) 1 (fun n => rfl) hq hx ?_
        show zT E (d + 1) m_m_boys 42 [some (.ref a0), some (.int a1), some (.int a2), some (.int a3), none, none, none, none, none] [.int x7] h8 r
        by_cases hc : x7 = 0
        · rw [if_pos hc] at hw
          refine zT_st (pc' := 45) (L' := [some (.ref a0), some (.int a1), some (.int a2), some (.int a3), none, none, none, none, none]) (st' := []) (h' := h8) 1 (fun n => if_pos hc) ?_
          subst hw
          exact zT_ret 2 rfl
        · rw [if_neg hc] at hw
          refine zT_st (pc' := 47) (L' := [some (.ref a0), some (.int a1), some (.int a2), some (.int a3), none, none, none, none, none]) (st' := []) (h' := h8) 1 (fun n => if_neg hc) ?_
          exact zT_st 4 (fun n => rfl) hw
set_option maxRecDepth 4000 in
theorem s_m_boys_37 (E : zX) (d : Nat) (a0 : Nat) (a1 : Int32) (a2 : Int32) (a3 : Int32) (j4 : Option Value) (j5 : Option Value) (j6 : Option Value) (j7 : Option Value) (j8 : Option Value) (s0 : Nat) (h : zH) (r : zO × zH)
    (hw : isO h s0 12 = true ∧ ∃ (x1 : Int32) (h2 : zH), zT E d m_m_right 0 [some (.ref s0), some (.int 0), some (.int 2)] [] h (.inl (some (.int x1)), h2) ∧
    if x1 = 0 then (
      r = (.inl (some (.int 0)), h2))
    else (
      zT E (d + 1) m_m_boys 53 [some (.ref a0), some (.int a1), some (.int a2), some (.int a3), some (.int 0), some (.int 0), j6, j7, j8] [] h2 r)) :
    zT E (d + 1) m_m_boys 37 [some (.ref a0), some (.int a1), some (.int a2), some (.int a3), j4, j5, j6, j7, j8] [.ref s0] h r := by
  refine zT_st (pc' := 39) (L' := [some (.ref a0), some (.int a1), some (.int a2), some (.int a3), j4, j5, j6, j7, j8]) (st' := [.int 2, .int 0, .ref s0]) (h' := h) 2 (fun n => rfl) ?_
  obtain ⟨hq, hw⟩ := hw
  obtain ⟨x1, h2, hx, hw⟩ := hw
  refine zT_call (pc' := 42) (rest := []) 1 (fun n => rfl) hq hx ?_
  show zT E (d + 1) m_m_boys 42 [some (.ref a0), some (.int a1), some (.int a2), some (.int a3), j4, j5, j6, j7, j8] [.int x1] h2 r
  by_cases hc : x1 = 0
  · rw [if_pos hc] at hw
    refine zT_st (pc' := 45) (L' := [some (.ref a0), some (.int a1), some (.int a2), some (.int a3), j4, j5, j6, j7, j8]) (st' := []) (h' := h2) 1 (fun n => if_pos hc) ?_
    subst hw
    exact zT_ret 2 rfl
  · rw [if_neg hc] at hw
    refine zT_st (pc' := 47) (L' := [some (.ref a0), some (.int a1), some (.int a2), some (.int a3), j4, j5, j6, j7, j8]) (st' := []) (h' := h2) 1 (fun n => if_neg hc) ?_
    exact zT_st 4 (fun n => rfl) hw
set_option maxRecDepth 4000 in
theorem s_m_boys_53 (E : zX) (d : Nat) (a0 : Nat) (a1 : Int32) (a2 : Int32) (a3 : Int32) (a4 : Int32) (a5 : Int32) (j6 : Option Value) (j7 : Option Value) (j8 : Option Value) (h : zH) (r : zO × zH)
    (hw : if (1 <<< (a2 &&& 31)) ≤ a5 then (
      r = (.inl (some (.int a4)), h))
    else (
      isO h a0 12 = true ∧ ∃ (h2 : zH), zT E d m_m_tries 0 [some (.ref a0), none] [] h (.inl none, h2) ∧
      zT E (d + 1) m_m_boys 71 [some (.ref a0), some (.int a1), some (.int a2), some (.int a3), some (.int a4), some (.int a5), some (.int 1), some (.int 0), j8] [] h2 r)) :
    zT E (d + 1) m_m_boys 53 [some (.ref a0), some (.int a1), some (.int a2), some (.int a3), some (.int a4), some (.int a5), j6, j7, j8] [] h r := by
  refine zT_st (pc' := 58) (L' := [some (.ref a0), some (.int a1), some (.int a2), some (.int a3), some (.int a4), some (.int a5), j6, j7, j8]) (st' := [.int (1 <<< (a2 &&& 31)), .int a5]) (h' := h) 4 (fun n => rfl) ?_
  by_cases hc : (1 <<< (a2 &&& 31)) ≤ a5
  · rw [if_pos hc] at hw
    refine zT_st (pc' := 161) (L' := [some (.ref a0), some (.int a1), some (.int a2), some (.int a3), some (.int a4), some (.int a5), j6, j7, j8]) (st' := []) (h' := h) 1 (fun n => if_pos hc) ?_
    subst hw
    exact zT_ret 2 rfl
  · rw [if_neg hc] at hw
    refine zT_st (pc' := 61) (L' := [some (.ref a0), some (.int a1), some (.int a2), some (.int a3), some (.int a4), some (.int a5), j6, j7, j8]) (st' := []) (h' := h) 1 (fun n => if_neg hc) ?_
    refine zT_st (pc' := 65) (L' := [some (.ref a0), some (.int a1), some (.int a2), some (.int a3), some (.int a4), some (.int a5), some (.int 1), j7, j8]) (st' := [.ref a0]) (h' := h) 3 (fun n => rfl) ?_
    obtain ⟨hq, hw⟩ := hw
    obtain ⟨h2, hx, hw⟩ := hw
    refine zT_call (pc' := 68) (rest := []) 1 (fun n => rfl) hq hx ?_
    show zT E (d + 1) m_m_boys 68 [some (.ref a0), some (.int a1), some (.int a2), some (.int a3), some (.int a4), some (.int a5), some (.int 1), j7, j8] [] h2 r
    exact zT_st 2 (fun n => rfl) hw
set_option maxRecDepth 4000 in
theorem s_m_boys_71 (E : zX) (d : Nat) (a0 : Nat) (a1 : Int32) (a2 : Int32) (a3 : Int32) (a4 : Int32) (a5 : Int32) (a6 : Int32) (a7 : Int32) (j8 : Option Value) (h : zH) (r : zO × zH)
    (hw : if a2 ≤ a7 then (
      isO h a0 12 = true ∧ ∃ (x1 : Int32) (h2 : zH), zT E d m_m_isWhite 0 [some (.ref a0), some (.int 79), some (.int a1)] [] h (.inl (some (.int x1)), h2) ∧
      if x1 = 0 then (
        zT E (d + 1) m_m_boys 53 [some (.ref a0), some (.int a1), some (.int a2), some (.int a3), some (.int (a4 + 0)), some (.int (a5 + 1)), some (.int a6), some (.int a7), j8] [] h2 r)
      else (
        zT E (d + 1) m_m_boys 53 [some (.ref a0), some (.int a1), some (.int a2), some (.int a3), some (.int (a4 + a6)), some (.int (a5 + 1)), some (.int a6), some (.int a7), j8] [] h2 r))
    else (
      if ((a5 >>> (a7 &&& 31)) &&& 1) = 1 then (
        zT E (d + 1) m_m_boys 110 [some (.ref a0), some (.int a1), some (.int a2), some (.int a3), some (.int a4), some (.int a5), some (.int a6), some (.int a7), some (.int 1)] [.int a3, .int a6] h r)
      else (
        zT E (d + 1) m_m_boys 110 [some (.ref a0), some (.int a1), some (.int a2), some (.int a3), some (.int a4), some (.int a5), some (.int a6), some (.int a7), some (.int 0)] [.int (10 - a3), .int a6] h r))) :
    zT E (d + 1) m_m_boys 71 [some (.ref a0), some (.int a1), some (.int a2), some (.int a3), some (.int a4), some (.int a5), some (.int a6), some (.int a7), j8] [] h r := by
  refine zT_st (pc' := 74) (L' := [some (.ref a0), some (.int a1), some (.int a2), some (.int a3), some (.int a4), some (.int a5), some (.int a6), some (.int a7), j8]) (st' := [.int a2, .int a7]) (h' := h) 2 (fun n => rfl) ?_
  by_cases hc : a2 ≤ a7
  · rw [if_pos hc] at hw
    refine zT_st (pc' := 134) (L' := [some (.ref a0), some (.int a1), some (.int a2), some (.int a3), some (.int a4), some (.int a5), some (.int a6), some (.int a7), j8]) (st' := []) (h' := h) 1 (fun n => if_pos hc) ?_
    refine zT_st (pc' := 140) (L' := [some (.ref a0), some (.int a1), some (.int a2), some (.int a3), some (.int a4), some (.int a5), some (.int a6), some (.int a7), j8]) (st' := [.int a1, .int 79, .ref a0, .int a4]) (h' := h) 4 (fun n => rfl) ?_
    obtain ⟨hq, hw⟩ := hw
    obtain ⟨x1, h2, hx, hw⟩ := hw
    refine zT_call (pc' := 143) (rest := [.int a4]) 1 (fun n => rfl) hq hx ?_
    show zT E (d + 1) m_m_boys 143 [some (.ref a0), some (.int a1), some (.int a2), some (.int a3), some (.int a4), some (.int a5), some (.int a6), some (.int a7), j8] [.int x1, .int a4] h2 r
    by_cases hc : x1 = 0
    · rw [if_pos hc] at hw
      refine zT_st (pc' := 151) (L' := [some (.ref a0), some (.int a1), some (.int a2), some (.int a3), some (.int a4), some (.int a5), some (.int a6), some (.int a7), j8]) (st' := [.int a4]) (h' := h2) 1 (fun n => if_pos hc) ?_
      exact zT_st 5 (fun n => rfl) hw
    · rw [if_neg hc] at hw
      refine zT_st (pc' := 146) (L' := [some (.ref a0), some (.int a1), some (.int a2), some (.int a3), some (.int a4), some (.int a5), some (.int a6), some (.int a7), j8]) (st' := [.int a4]) (h' := h2) 1 (fun n => if_neg hc) ?_
      exact zT_st 6 (fun n => rfl) hw
  · rw [if_neg hc] at hw
    refine zT_st (pc' := 77) (L' := [some (.ref a0), some (.int a1), some (.int a2), some (.int a3), some (.int a4), some (.int a5), some (.int a6), some (.int a7), j8]) (st' := []) (h' := h) 1 (fun n => if_neg hc) ?_
    refine zT_st (pc' := 85) (L' := [some (.ref a0), some (.int a1), some (.int a2), some (.int a3), some (.int a4), some (.int a5), some (.int a6), some (.int a7), j8]) (st' := [.int 1, .int ((a5 >>> (a7 &&& 31)) &&& 1)]) (h' := h) 6 (fun n => rfl) ?_
    by_cases hc : ((a5 >>> (a7 &&& 31)) &&& 1) = 1
    · rw [if_pos hc] at hw
      refine zT_st (pc' := 88) (L' := [some (.ref a0), some (.int a1), some (.int a2), some (.int a3), some (.int a4), some (.int a5), some (.int a6), some (.int a7), j8]) (st' := []) (h' := h) 1 (fun n => if_pos hc) ?_
      refine zT_st (pc' := 99) (L' := [some (.ref a0), some (.int a1), some (.int a2), some (.int a3), some (.int a4), some (.int a5), some (.int a6), some (.int a7), some (.int 1)]) (st' := [.int 1, .int a6]) (h' := h) 5 (fun n => rfl) ?_
      refine zT_st (pc' := 102) (L' := [some (.ref a0), some (.int a1), some (.int a2), some (.int a3), some (.int a4), some (.int a5), some (.int a6), some (.int a7), some (.int 1)]) (st' := [.int a6]) (h' := h) 1 (fun n => rfl) ?_
      exact zT_st 2 (fun n => rfl) hw
    · rw [if_neg hc] at hw
      refine zT_st (pc' := 92) (L' := [some (.ref a0), some (.int a1), some (.int a2), some (.int a3), some (.int a4), some (.int a5), some (.int a6), some (.int a7), j8]) (st' := []) (h' := h) 1 (fun n => if_neg hc) ?_
      refine zT_st (pc' := 99) (L' := [some (.ref a0), some (.int a1), some (.int a2), some (.int a3), some (.int a4), some (.int a5), some (.int a6), some (.int a7), some (.int 0)]) (st' := [.int 0, .int a6]) (h' := h) 4 (fun n => rfl) ?_
      refine zT_st (pc' := 106) (L' := [some (.ref a0), some (.int a1), some (.int a2), some (.int a3), some (.int a4), some (.int a5), some (.int a6), some (.int a7), some (.int 0)]) (st' := [.int a6]) (h' := h) 1 (fun n => rfl) ?_
      exact zT_st 3 (fun n => rfl) hw
set_option maxRecDepth 4000 in
theorem s_m_boys_110 (E : zX) (d : Nat) (a0 : Nat) (a1 : Int32) (a2 : Int32) (a3 : Int32) (a4 : Int32) (a5 : Int32) (j6 : Option Value) (a7 : Int32) (a8 : Int32) (s0 : Int32) (s1 : Int32) (h : zH) (r : zO × zH)
    (hw : if a8 = 0 then (
      isO h a0 12 = true ∧ ∃ (h2 : zH), zT E d m_m_dayOf 0 [some (.ref a0), some (.int 79)] [] h (.inl none, h2) ∧
      zT E (d + 1) m_m_boys 71 [some (.ref a0), some (.int a1), some (.int a2), some (.int a3), some (.int a4), some (.int a5), some (.int (s0 * s1)), some (.int (a7 + 1)), some (.int a8)] [] h2 r)
    else (
      isO h a0 12 = true ∧ ∃ (h4 : zH), zT E d m_m_treads 0 [some (.ref a0), none, none] [] h (.inl none, h4) ∧
      isO h4 a0 12 = true ∧ ∃ (h6 : zH), zT E d m_m_dayOf 0 [some (.ref a0), some (.int 79)] [] h4 (.inl none, h6) ∧
      zT E (d + 1) m_m_boys 71 [some (.ref a0), some (.int a1), some (.int a2), some (.int a3), some (.int a4), some (.int a5), some (.int (s0 * s1)), some (.int (a7 + 1)), some (.int a8)] [] h6 r)) :
    zT E (d + 1) m_m_boys 110 [some (.ref a0), some (.int a1), some (.int a2), some (.int a3), some (.int a4), some (.int a5), j6, some (.int a7), some (.int a8)] [.int s1, .int s0] h r := by
  refine zT_st (pc' := 115) (L' := [some (.ref a0), some (.int a1), some (.int a2), some (.int a3), some (.int a4), some (.int a5), some (.int (s0 * s1)), some (.int a7), some (.int a8)]) (st' := [.int a8]) (h' := h) 3 (fun n => rfl) ?_
  by_cases hc : a8 = 0
  · rw [if_pos hc] at hw
    refine zT_st (pc' := 122) (L' := [some (.ref a0), some (.int a1), some (.int a2), some (.int a3), some (.int a4), some (.int a5), some (.int (s0 * s1)), some (.int a7), some (.int a8)]) (st' := []) (h' := h) 1 (fun n => if_pos hc) ?_
    refine zT_st (pc' := 125) (L' := [some (.ref a0), some (.int a1), some (.int a2), some (.int a3), some (.int a4), some (.int a5), some (.int (s0 * s1)), some (.int a7), some (.int a8)]) (st' := [.int 79, .ref a0]) (h' := h) 2 (fun n => rfl) ?_
    obtain ⟨hq, hw⟩ := hw
    obtain ⟨h2, hx, hw⟩ := hw
    refine zT_call (pc' := 128) (rest := []) 1 (fun n => rfl) hq hx ?_
    show zT E (d + 1) m_m_boys 128 [some (.ref a0), some (.int a1), some (.int a2), some (.int a3), some (.int a4), some (.int a5), some (.int (s0 * s1)), some (.int a7), some (.int a8)] [] h2 r
    exact zT_st 2 (fun n => rfl) hw
  · rw [if_neg hc] at hw
    refine zT_st (pc' := 118) (L' := [some (.ref a0), some (.int a1), some (.int a2), some (.int a3), some (.int a4), some (.int a5), some (.int (s0 * s1)), some (.int a7), some (.int a8)]) (st' := []) (h' := h) 1 (fun n => if_neg hc) ?_
    refine zT_st (pc' := 119) (L' := [some (.ref a0), some (.int a1), some (.int a2), some (.int a3), some (.int a4), some (.int a5), some (.int (s0 * s1)), some (.int a7), some (.int a8)]) (st' := [.ref a0]) (h' := h) 1 (fun n => rfl) ?_
    obtain ⟨hq, hw⟩ := hw
    obtain ⟨h4, hx, hw⟩ := hw
    refine zT_call (pc' := 122) (rest := []) 1 (fun n => rfl) hq hx ?_
    show zT E (d + 1) m_m_boys 122 [some (.ref a0), some (.int a1), some (.int a2), some (.int a3), some (.int a4), some (.int a5), some (.int (s0 * s1)), some (.int a7), some (.int a8)] [] h4 r
    refine zT_st (pc' := 125) (L' := [some (.ref a0), some (.int a1), some (.int a2), some (.int a3), some (.int a4), some (.int a5), some (.int (s0 * s1)), some (.int a7), some (.int a8)]) (st' := [.int 79, .ref a0]) (h' := h4) 2 (fun n => rfl) ?_
    obtain ⟨hq, hw⟩ := hw
    obtain ⟨h6, hx, hw⟩ := hw
    refine zT_call (pc' := 128) (rest := []) 1 (fun n => rfl) hq hx ?_
    show zT E (d + 1) m_m_boys 128 [some (.ref a0), some (.int a1), some (.int a2), some (.int a3), some (.int a4), some (.int a5), some (.int (s0 * s1)), some (.int a7), some (.int a8)] [] h6 r
    exact zT_st 2 (fun n => rfl) hw
set_option maxRecDepth 4000 in
theorem s_m_game_0 (E : zX) (d : Nat) (a0 : Nat) (a1 : Int32) (a2 : Int32) (a3 : Int32) (h : zH) (r : zO × zH)
    (hw : (∃ w, fld h a0 12 0 = some w) ∧
    isO (setF h a0 0 (.int 0)) a0 12 = true ∧ ∃ (x1 : Int32) (h2 : zH), zT E d m_m_isPerson 0 [some (.ref a0), some (.int a1)] [] (setF h a0 0 (.int 0)) (.inl (some (.int x1)), h2) ∧
    if x1 = 0 then (
      r = (.inl (some (.int 0)), h2))
    else (
      isO h2 a0 12 = true ∧ ∃ (x3 : Int32) (h4 : zH), zT E d m_m_isPerson 0 [some (.ref a0), some (.int a2)] [] h2 (.inl (some (.int x3)), h4) ∧
      if x3 = 0 then (
        r = (.inl (some (.int 0)), h4))
      else (
        isO h4 a0 12 = true ∧ ∃ (x5 : Int32) (h6 : zH), zT E d m_m_isWhat 0 [some (.ref a0), some (.int a3), some (.int 1)] [] h4 (.inl (some (.int x5)), h6) ∧
        if x5 = 0 then (
          r = (.inl (some (.int 0)), h6))
        else (
          if a1 = a2 then (
            zT E (d + 1) m_m_game 41 [some (.ref a0), some (.int a1), some (.int a2), some (.int a3), none, none, none, none, none] [.int 0, .ref a0] h6 r)
          else (
            zT E (d + 1) m_m_game 41 [some (.ref a0), some (.int a1), some (.int a2), some (.int a3), none, none, none, none, none] [.int 1, .ref a0] h6 r))))) :
    zT E (d + 1) m_m_game 0 [some (.ref a0), some (.int a1), some (.int a2), some (.int a3), none, none, none, none, none] [] h r := by
  refine zT_st (pc' := 2) (L' := [some (.ref a0), some (.int a1), some (.int a2), some (.int a3), none, none, none, none, none]) (st' := [.int 0, .ref a0]) (h' := h) 2 (fun n => rfl) ?_
  obtain ⟨⟨w, e⟩, hw⟩ := hw
  refine zT_st (pc' := 5) (L' := [some (.ref a0), some (.int a1), some (.int a2), some (.int a3), none, none, none, none, none]) (st' := []) (h' := (setF h a0 0 (.int 0))) 1 (fun n => put_eq e rfl _ _) ?_
  refine zT_st (pc' := 7) (L' := [some (.ref a0), some (.int a1), some (.int a2), some (.int a3), none, none, none, none, none]) (st' := [.int a1, .ref a0]) (h' := (setF h a0 0 (.int 0))) 2 (fun n => rfl) ?_
  obtain ⟨hq, hw⟩ := hw
  obtain ⟨x1, h2, hx, hw⟩ := hw
  refine zT_call (pc' := 10) (rest := []) 1 (fun n => rfl) hq hx ?_
  show zT E (d + 1) m_m_game 10 [some (.ref a0), some (.int a1), some (.int a2), some (.int a3), none, none, none, none, none] [.int x1] h2 r
  by_cases hc : x1 = 0
  · rw [if_pos hc] at hw
    refine zT_st (pc' := 48) (L' := [some (.ref a0), some (.int a1), some (.int a2), some (.int a3), none, none, none, none, none]) (st' := []) (h' := h2) 1 (fun n => if_pos hc) ?_
    subst hw
    exact zT_ret 2 rfl
  · rw [if_neg hc] at hw
    refine zT_st (pc' := 13) (L' := [some (.ref a0), some (.int a1), some (.int a2), some (.int a3), none, none, none, none, none]) (st' := []) (h' := h2) 1 (fun n => if_neg hc) ?_
    refine zT_st (pc' := 15) (L' := [some (.ref a0), some (.int a1), some (.int a2), some (.int a3), none, none, none, none, none]) (st' := [.int a2, .ref a0]) (h' := h2) 2 (fun n => rfl) ?_
    obtain ⟨hq, hw⟩ := hw
    obtain ⟨x3, h4, hx, hw⟩ := hw
    refine zT_call (pc' := 18) (rest := []) 1 (fun n => rfl) hq hx ?_
    show zT E (d + 1) m_m_game 18 [some (.ref a0), some (.int a1), some (.int a2), some (.int a3), none, none, none, none, none] [.int x3] h4 r
    by_cases hc : x3 = 0
    · rw [if_pos hc] at hw
      refine zT_st (pc' := 48) (L' := [some (.ref a0), some (.int a1), some (.int a2), some (.int a3), none, none, none, none, none]) (st' := []) (h' := h4) 1 (fun n => if_pos hc) ?_
      subst hw
      exact zT_ret 2 rfl
    · rw [if_neg hc] at hw
      refine zT_st (pc' := 21) (L' := [some (.ref a0), some (.int a1), some (.int a2), some (.int a3), none, none, none, none, none]) (st' := []) (h' := h4) 1 (fun n => if_neg hc) ?_
      refine zT_st (pc' := 24) (L' := [some (.ref a0), some (.int a1), some (.int a2), some (.int a3), none, none, none, none, none]) (st' := [.int 1, .int a3, .ref a0]) (h' := h4) 3 (fun n => rfl) ?_
      obtain ⟨hq, hw⟩ := hw
      obtain ⟨x5, h6, hx, hw⟩ := hw
      refine zT_call (pc' := 27) (rest := []) 1 (fun n => rfl) hq hx ?_
      show zT E (d + 1) m_m_game 27 [some (.ref a0), some (.int a1), some (.int a2), some (.int a3), none, none, none, none, none] [.int x5] h6 r
      by_cases hc : x5 = 0
      · rw [if_pos hc] at hw
        refine zT_st (pc' := 48) (L' := [some (.ref a0), some (.int a1), some (.int a2), some (.int a3), none, none, none, none, none]) (st' := []) (h' := h6) 1 (fun n => if_pos hc) ?_
        subst hw
        exact zT_ret 2 rfl
      · rw [if_neg hc] at hw
        refine zT_st (pc' := 30) (L' := [some (.ref a0), some (.int a1), some (.int a2), some (.int a3), none, none, none, none, none]) (st' := []) (h' := h6) 1 (fun n => if_neg hc) ?_
        refine zT_st (pc' := 33) (L' := [some (.ref a0), some (.int a1), some (.int a2), some (.int a3), none, none, none, none, none]) (st' := [.int a2, .int a1, .ref a0]) (h' := h6) 3 (fun n => rfl) ?_
        by_cases hc : a1 = a2
        · rw [if_pos hc] at hw
          refine zT_st (pc' := 40) (L' := [some (.ref a0), some (.int a1), some (.int a2), some (.int a3), none, none, none, none, none]) (st' := [.ref a0]) (h' := h6) 1 (fun n => if_pos hc) ?_
          exact zT_st 1 (fun n => rfl) hw
        · rw [if_neg hc] at hw
          refine zT_st (pc' := 36) (L' := [some (.ref a0), some (.int a1), some (.int a2), some (.int a3), none, none, none, none, none]) (st' := [.ref a0]) (h' := h6) 1 (fun n => if_neg hc) ?_
          exact zT_st 2 (fun n => rfl) hw
set_option maxRecDepth 4000 in
theorem s_m_game_41 (E : zX) (d : Nat) (a0 : Nat) (a1 : Int32) (a2 : Int32) (a3 : Int32) (j4 : Option Value) (j5 : Option Value) (j6 : Option Value) (j7 : Option Value) (j8 : Option Value) (s0 : Nat) (s1 : Int32) (h : zH) (r : zO × zH)
    (hw : isO h s0 12 = true ∧ ∃ (x1 : Int32) (h2 : zH), zT E d m_m_right 0 [some (.ref s0), some (.int s1), some (.int 2)] [] h (.inl (some (.int x1)), h2) ∧
    if x1 = 0 then (
      r = (.inl (some (.int 0)), h2))
    else (
      ∃ o3 : Nat, fld h2 a0 12 40 = some (.ref o3) ∧
      ∃ (n4 : Nat) (f5 : Nat → Int32), arr h2 o3 = some (n4, f5) ∧ ¬ ((1 + a1) < 0 ∨ n4 ≤ ((1 + a1)).toNatClampNeg) ∧
      if (f5 ((1 + a1)).toNatClampNeg) = 0 then (
        r = (.inl (some (.int (-1))), h2))
      else (
        ∃ o6 : Nat, fld h2 a0 12 40 = some (.ref o6) ∧
        ∃ (n7 : Nat) (f8 : Nat → Int32), arr h2 o6 = some (n7, f8) ∧ ¬ ((1 + a2) < 0 ∨ n7 ≤ ((1 + a2)).toNatClampNeg) ∧
        if (f8 ((1 + a2)).toNatClampNeg) = 0 then (
          r = (.inl (some (.int (-1))), h2))
        else (
          zT E (d + 1) m_m_game 83 [some (.ref a0), some (.int a1), some (.int a2), some (.int a3), some (.int 0), some (.int (-1)), some (.int 0), j7, j8] [] h2 r)))) :
    zT E (d + 1) m_m_game 41 [some (.ref a0), some (.int a1), some (.int a2), some (.int a3), j4, j5, j6, j7, j8] [.int s1, .ref s0] h r := by
  refine zT_st (pc' := 42) (L' := [some (.ref a0), some (.int a1), some (.int a2), some (.int a3), j4, j5, j6, j7, j8]) (st' := [.int 2, .int s1, .ref s0]) (h' := h) 1 (fun n => rfl) ?_
  obtain ⟨hq, hw⟩ := hw
  obtain ⟨x1, h2, hx, hw⟩ := hw
  refine zT_call (pc' := 45) (rest := []) 1 (fun n => rfl) hq hx ?_
  show zT E (d + 1) m_m_game 45 [some (.ref a0), some (.int a1), some (.int a2), some (.int a3), j4, j5, j6, j7, j8] [.int x1] h2 r
  by_cases hc : x1 = 0
  · rw [if_pos hc] at hw
    refine zT_st (pc' := 48) (L' := [some (.ref a0), some (.int a1), some (.int a2), some (.int a3), j4, j5, j6, j7, j8]) (st' := []) (h' := h2) 1 (fun n => if_pos hc) ?_
    subst hw
    exact zT_ret 2 rfl
  · rw [if_neg hc] at hw
    refine zT_st (pc' := 50) (L' := [some (.ref a0), some (.int a1), some (.int a2), some (.int a3), j4, j5, j6, j7, j8]) (st' := []) (h' := h2) 1 (fun n => if_neg hc) ?_
    refine zT_st (pc' := 51) (L' := [some (.ref a0), some (.int a1), some (.int a2), some (.int a3), j4, j5, j6, j7, j8]) (st' := [.ref a0]) (h' := h2) 1 (fun n => rfl) ?_
    obtain ⟨o3, e, hw⟩ := hw
    refine zT_st (pc' := 54) (L' := [some (.ref a0), some (.int a1), some (.int a2), some (.int a3), j4, j5, j6, j7, j8]) (st' := [.ref o3]) (h' := h2) 1 (fun n => fld_eq (E := E) e _) ?_
    refine zT_st (pc' := 57) (L' := [some (.ref a0), some (.int a1), some (.int a2), some (.int a3), j4, j5, j6, j7, j8]) (st' := [.int (1 + a1), .ref o3]) (h' := h2) 3 (fun n => rfl) ?_
    obtain ⟨n4, f5, e, hi, hw⟩ := hw
    refine zT_st (pc' := 58) (L' := [some (.ref a0), some (.int a1), some (.int a2), some (.int a3), j4, j5, j6, j7, j8]) (st' := [.int (f5 ((1 + a1)).toNatClampNeg)]) (h' := h2) 1 (fun n => arr_eq (E := E) e hi [] (fun st => zrun zP zCd E n (d + 1) m_m_game 58 [some (.ref a0), some (.int a1), some (.int a2), some (.int a3), j4, j5, j6, j7, j8] st h2)) ?_
    by_cases hc : (f5 ((1 + a1)).toNatClampNeg) = 0
    · rw [if_pos hc] at hw
      refine zT_st (pc' := 72) (L' := [some (.ref a0), some (.int a1), some (.int a2), some (.int a3), j4, j5, j6, j7, j8]) (st' := []) (h' := h2) 1 (fun n => if_pos hc) ?_
      subst hw
      exact zT_ret 2 rfl
    · rw [if_neg hc] at hw
      refine zT_st (pc' := 61) (L' := [some (.ref a0), some (.int a1), some (.int a2), some (.int a3), j4, j5, j6, j7, j8]) (st' := []) (h' := h2) 1 (fun n => if_neg hc) ?_
      refine zT_st (pc' := 62) (L' := [some (.ref a0), some (.int a1), some (.int a2), some (.int a3), j4, j5, j6, j7, j8]) (st' := [.ref a0]) (h' := h2) 1 (fun n => rfl) ?_
      obtain ⟨o6, e, hw⟩ := hw
      refine zT_st (pc' := 65) (L' := [some (.ref a0), some (.int a1), some (.int a2), some (.int a3), j4, j5, j6, j7, j8]) (st' := [.ref o6]) (h' := h2) 1 (fun n => fld_eq (E := E) e _) ?_
      refine zT_st (pc' := 68) (L' := [some (.ref a0), some (.int a1), some (.int a2), some (.int a3), j4, j5, j6, j7, j8]) (st' := [.int (1 + a2), .ref o6]) (h' := h2) 3 (fun n => rfl) ?_
      obtain ⟨n7, f8, e, hi, hw⟩ := hw
      refine zT_st (pc' := 69) (L' := [some (.ref a0), some (.int a1), some (.int a2), some (.int a3), j4, j5, j6, j7, j8]) (st' := [.int (f8 ((1 + a2)).toNatClampNeg)]) (h' := h2) 1 (fun n => arr_eq (E := E) e hi [] (fun st => zrun zP zCd E n (d + 1) m_m_game 69 [some (.ref a0), some (.int a1), some (.int a2), some (.int a3), j4, j5, j6, j7, j8] st h2)) ?_
      by_cases hc : (f8 ((1 + a2)).toNatClampNeg) = 0
      · rw [if_pos hc] at hw
        refine zT_st (pc' := 72) (L' := [some (.ref a0), some (.int a1), some (.int a2), some (.int a3), j4, j5, j6, j7, j8]) (st' := []) (h' := h2) 1 (fun n => if_pos hc) ?_
        subst hw
        exact zT_ret 2 rfl
      · rw [if_neg hc] at hw
        refine zT_st (pc' := 74) (L' := [some (.ref a0), some (.int a1), some (.int a2), some (.int a3), j4, j5, j6, j7, j8]) (st' := []) (h' := h2) 1 (fun n => if_neg hc) ?_
        exact zT_st 6 (fun n => rfl) hw
set_option maxRecDepth 4000 in
theorem s_m_game_83 (E : zX) (d : Nat) (a0 : Nat) (a1 : Int32) (a2 : Int32) (a3 : Int32) (a4 : Int32) (a5 : Int32) (a6 : Int32) (j7 : Option Value) (j8 : Option Value) (h : zH) (r : zO × zH)
    (hw : if 4 ≤ a6 then (
      if a3 = 0 then (
        r = (.inl (some (.int a4)), h))
      else (
        r = (.inl (some (.int a5)), h)))
    else (
      isO h a0 12 = true ∧ ∃ (x1 : Int32) (h2 : zH), zT E d m_m_gains 0 [some (.ref a0), some (.int a1), some (.int a2), some (.int (1 - (a6 / 2))), some (.int (zrem a6 2))] [] h (.inl (some (.int x1)), h2) ∧
      isO h2 a0 12 = true ∧ ∃ (x3 : Int32) (h4 : zH), zT E d m_m_gains 0 [some (.ref a0), some (.int a1), some (.int a2), some (.int (a6 / 2)), some (.int (zrem a6 2))] [] h2 (.inl (some (.int x3)), h4) ∧
      if x3 < x1 then (
        zT E (d + 1) m_m_game 83 [some (.ref a0), some (.int a1), some (.int a2), some (.int a3), some (.int a4), some (.int a5), some (.int (a6 + 1)), some (.int (a6 / 2)), some (.int (zrem a6 2))] [] h4 r)
      else (
        isO h4 a0 12 = true ∧ ∃ (x5 : Int32) (h6 : zH), zT E d m_m_gains 0 [some (.ref a0), some (.int a2), some (.int a1), some (.int (1 - (zrem a6 2))), some (.int (a6 / 2))] [] h4 (.inl (some (.int x5)), h6) ∧
        isO h6 a0 12 = true ∧ ∃ (x7 : Int32) (h8 : zH), zT E d m_m_gains 0 [some (.ref a0), some (.int a2), some (.int a1), some (.int (zrem a6 2)), some (.int (a6 / 2))] [] h6 (.inl (some (.int x7)), h8) ∧
        if x5 ≤ x7 then (
          if a5 = (-1) then (
            zT E (d + 1) m_m_game 83 [some (.ref a0), some (.int a1), some (.int a2), some (.int a3), some (.int (a4 + 1)), some (.int ((10 * (a6 / 2)) + (zrem a6 2))), some (.int (a6 + 1)), some (.int (a6 / 2)), some (.int (zrem a6 2))] [] h8 r)
          else (
            zT E (d + 1) m_m_game 83 [some (.ref a0), some (.int a1), some (.int a2), some (.int a3), some (.int (a4 + 1)), some (.int a5), some (.int (a6 + 1)), some (.int (a6 / 2)), some (.int (zrem a6 2))] [] h8 r))
        else (
          zT E (d + 1) m_m_game 83 [some (.ref a0), some (.int a1), some (.int a2), some (.int a3), some (.int a4), some (.int a5), some (.int (a6 + 1)), some (.int (a6 / 2)), some (.int (zrem a6 2))] [] h8 r)))) :
    zT E (d + 1) m_m_game 83 [some (.ref a0), some (.int a1), some (.int a2), some (.int a3), some (.int a4), some (.int a5), some (.int a6), j7, j8] [] h r := by
  refine zT_st (pc' := 86) (L' := [some (.ref a0), some (.int a1), some (.int a2), some (.int a3), some (.int a4), some (.int a5), some (.int a6), j7, j8]) (st' := [.int 4, .int a6]) (h' := h) 2 (fun n => rfl) ?_
  by_cases hc : 4 ≤ a6
  · rw [if_pos hc] at hw
    refine zT_st (pc' := 179) (L' := [some (.ref a0), some (.int a1), some (.int a2), some (.int a3), some (.int a4), some (.int a5), some (.int a6), j7, j8]) (st' := []) (h' := h) 1 (fun n => if_pos hc) ?_
    refine zT_st (pc' := 180) (L' := [some (.ref a0), some (.int a1), some (.int a2), some (.int a3), some (.int a4), some (.int a5), some (.int a6), j7, j8]) (st' := [.int a3]) (h' := h) 1 (fun n => rfl) ?_
    by_cases hc : a3 = 0
    · rw [if_pos hc] at hw
      refine zT_st (pc' := 183) (L' := [some (.ref a0), some (.int a1), some (.int a2), some (.int a3), some (.int a4), some (.int a5), some (.int a6), j7, j8]) (st' := []) (h' := h) 1 (fun n => if_pos hc) ?_
      subst hw
      exact zT_ret 3 rfl
    · rw [if_neg hc] at hw
      refine zT_st (pc' := 188) (L' := [some (.ref a0), some (.int a1), some (.int a2), some (.int a3), some (.int a4), some (.int a5), some (.int a6), j7, j8]) (st' := []) (h' := h) 1 (fun n => if_neg hc) ?_
      subst hw
      exact zT_ret 2 rfl
  · rw [if_neg hc] at hw
    refine zT_st (pc' := 89) (L' := [some (.ref a0), some (.int a1), some (.int a2), some (.int a3), some (.int a4), some (.int a5), some (.int a6), j7, j8]) (st' := []) (h' := h) 1 (fun n => if_neg hc) ?_
    refine zT_st (pc' := 92) (L' := [some (.ref a0), some (.int a1), some (.int a2), some (.int a3), some (.int a4), some (.int a5), some (.int a6), j7, j8]) (st' := [.int 2, .int a6]) (h' := h) 2 (fun n => rfl) ?_
    refine zT_st (pc' := 93) (L' := [some (.ref a0), some (.int a1), some (.int a2), some (.int a3), some (.int a4), some (.int a5), some (.int a6), j7, j8]) (st' := [.int (a6 / 2)]) (h' := h) 1 (fun n => rfl) ?_
    refine zT_st (pc' := 98) (L' := [some (.ref a0), some (.int a1), some (.int a2), some (.int a3), some (.int a4), some (.int a5), some (.int a6), some (.int (a6 / 2)), j8]) (st' := [.int 2, .int a6]) (h' := h) 3 (fun n => rfl) ?_
    refine zT_st (pc' := 99) (L' := [some (.ref a0), some (.int a1), some (.int a2), some (.int a3), some (.int a4), some (.int a5), some (.int a6), some (.int (a6 / 2)), j8]) (st' := [.int (zrem a6 2)]) (h' := h) 1 (fun n => rfl) ?_
    refine zT_st (pc' := 110) (L' := [some (.ref a0), some (.int a1), some (.int a2), some (.int a3), some (.int a4), some (.int a5), some (.int a6), some (.int (a6 / 2)), some (.int (zrem a6 2))]) (st' := [.int (zrem a6 2), .int (1 - (a6 / 2)), .int a2, .int a1, .ref a0]) (h' := h) 8 (fun n => rfl) ?_
    obtain ⟨hq, hw⟩ := hw
    obtain ⟨x1, h2, hx, hw⟩ := hw
    refine zT_call (pc' := 113) (rest := []) 1 (fun n => rfl) hq hx ?_
    show zT E (d + 1) m_m_game 113 [some (.ref a0), some (.int a1), some (.int a2), some (.int a3), some (.int a4), some (.int a5), some (.int a6), some (.int (a6 / 2)), some (.int (zrem a6 2))] [.int x1] h2 r
    refine zT_st (pc' := 120) (L' := [some (.ref a0), some (.int a1), some (.int a2), some (.int a3), some (.int a4), some (.int a5), some (.int a6), some (.int (a6 / 2)), some (.int (zrem a6 2))]) (st' := [.int (zrem a6 2), .int (a6 / 2), .int a2, .int a1, .ref a0, .int x1]) (h' := h2) 5 (fun n => rfl) ?_
    obtain ⟨hq, hw⟩ := hw
    obtain ⟨x3, h4, hx, hw⟩ := hw
    refine zT_call (pc' := 123) (rest := [.int x1]) 1 (fun n => rfl) hq hx ?_
    show zT E (d + 1) m_m_game 123 [some (.ref a0), some (.int a1), some (.int a2), some (.int a3), some (.int a4), some (.int a5), some (.int a6), some (.int (a6 / 2)), some (.int (zrem a6 2))] [.int x3, .int x1] h4 r
    by_cases hc : x3 < x1
    · rw [if_pos hc] at hw
      refine zT_st (pc' := 173) (L' := [some (.ref a0), some (.int a1), some (.int a2), some (.int a3), some (.int a4), some (.int a5), some (.int a6), some (.int (a6 / 2)), some (.int (zrem a6 2))]) (st' := []) (h' := h4) 1 (fun n => if_pos hc) ?_
      exact zT_st 2 (fun n => rfl) hw
    · rw [if_neg hc] at hw
      refine zT_st (pc' := 126) (L' := [some (.ref a0), some (.int a1), some (.int a2), some (.int a3), some (.int a4), some (.int a5), some (.int a6), some (.int (a6 / 2)), some (.int (zrem a6 2))]) (st' := []) (h' := h4) 1 (fun n => if_neg hc) ?_
      refine zT_st (pc' := 135) (L' := [some (.ref a0), some (.int a1), some (.int a2), some (.int a3), some (.int a4), some (.int a5), some (.int a6), some (.int (a6 / 2)), some (.int (zrem a6 2))]) (st' := [.int (a6 / 2), .int (1 - (zrem a6 2)), .int a1, .int a2, .ref a0]) (h' := h4) 7 (fun n => rfl) ?_
      obtain ⟨hq, hw⟩ := hw
      obtain ⟨x5, h6, hx, hw⟩ := hw
      refine zT_call (pc' := 138) (rest := []) 1 (fun n => rfl) hq hx ?_
      show zT E (d + 1) m_m_game 138 [some (.ref a0), some (.int a1), some (.int a2), some (.int a3), some (.int a4), some (.int a5), some (.int a6), some (.int (a6 / 2)), some (.int (zrem a6 2))] [.int x5] h6 r
      refine zT_st (pc' := 145) (L' := [some (.ref a0), some (.int a1), some (.int a2), some (.int a3), some (.int a4), some (.int a5), some (.int a6), some (.int (a6 / 2)), some (.int (zrem a6 2))]) (st' := [.int (a6 / 2), .int (zrem a6 2), .int a1, .int a2, .ref a0, .int x5]) (h' := h6) 5 (fun n => rfl) ?_
      obtain ⟨hq, hw⟩ := hw
      obtain ⟨x7, h8, hx, hw⟩ := hw
      refine zT_call (pc' := 148) (rest := [.int x5]) 1 (fun n => rfl) hq hx ?_
      show zT E (d + 1) m_m_game 148 [some (.ref a0), some (.int a1), some (.int a2), some (.int a3), some (.int a4), some (.int a5), some (.int a6), some (.int (a6 / 2)), some (.int (zrem a6 2))] [.int x7, .int x5] h8 r
      by_cases hc : x5 ≤ x7
      · rw [if_pos hc] at hw
        refine zT_st (pc' := 154) (L' := [some (.ref a0), some (.int a1), some (.int a2), some (.int a3), some (.int a4), some (.int a5), some (.int a6), some (.int (a6 / 2)), some (.int (zrem a6 2))]) (st' := []) (h' := h8) 1 (fun n => if_pos hc) ?_
        refine zT_st (pc' := 160) (L' := [some (.ref a0), some (.int a1), some (.int a2), some (.int a3), some (.int (a4 + 1)), some (.int a5), some (.int a6), some (.int (a6 / 2)), some (.int (zrem a6 2))]) (st' := [.int (-1), .int a5]) (h' := h8) 3 (fun n => rfl) ?_
        by_cases hc : a5 = (-1)
        · rw [if_pos hc] at hw
          refine zT_st (pc' := 163) (L' := [some (.ref a0), some (.int a1), some (.int a2), some (.int a3), some (.int (a4 + 1)), some (.int a5), some (.int a6), some (.int (a6 / 2)), some (.int (zrem a6 2))]) (st' := []) (h' := h8) 1 (fun n => if_pos hc) ?_
          exact zT_st 8 (fun n => rfl) hw
        · rw [if_neg hc] at hw
          refine zT_st (pc' := 173) (L' := [some (.ref a0), some (.int a1), some (.int a2), some (.int a3), some (.int (a4 + 1)), some (.int a5), some (.int a6), some (.int (a6 / 2)), some (.int (zrem a6 2))]) (st' := []) (h' := h8) 1 (fun n => if_neg hc) ?_
          exact zT_st 2 (fun n => rfl) hw
      · rw [if_neg hc] at hw
        refine zT_st (pc' := 151) (L' := [some (.ref a0), some (.int a1), some (.int a2), some (.int a3), some (.int a4), some (.int a5), some (.int a6), some (.int (a6 / 2)), some (.int (zrem a6 2))]) (st' := []) (h' := h8) 1 (fun n => if_neg hc) ?_
        exact zT_st 3 (fun n => rfl) hw
set_option maxRecDepth 4000 in
theorem s_m_gains_0 (E : zX) (d : Nat) (a0 : Nat) (a1 : Int32) (a2 : Int32) (a3 : Int32) (a4 : Int32) (h : zH) (r : zO × zH)
    (hw : isO h a0 12 = true ∧ ∃ (h2 : zH), zT E d m_m_tries 0 [some (.ref a0), none] [] h (.inl none, h2) ∧
    if a3 = 1 then (
      if a2 ≤ a1 then (
        if a4 = 1 then (
          isO h2 a0 12 = true ∧ ∃ (x3 : Int32) (h4 : zH), zT E d m_m_goesOut 0 [some (.ref a0), some (.int 79), some (.int a2), none] [] h2 (.inl (some (.int x3)), h4) ∧
          zT E (d + 1) m_m_gains 36 [some (.ref a0), some (.int a1), some (.int a2), some (.int a3), some (.int a4)] [] h4 r)
        else (
          zT E (d + 1) m_m_gains 36 [some (.ref a0), some (.int a1), some (.int a2), some (.int a3), some (.int a4)] [] h2 r))
      else (
        isO h2 a0 12 = true ∧ ∃ (x5 : Int32) (h6 : zH), zT E d m_m_goesOut 0 [some (.ref a0), some (.int 79), some (.int a1), none] [] h2 (.inl (some (.int x5)), h6) ∧
        if a4 = 1 then (
          isO h6 a0 12 = true ∧ ∃ (x7 : Int32) (h8 : zH), zT E d m_m_goesOut 0 [some (.ref a0), some (.int 79), some (.int a2), none] [] h6 (.inl (some (.int x7)), h8) ∧
          zT E (d + 1) m_m_gains 36 [some (.ref a0), some (.int a1), some (.int a2), some (.int a3), some (.int a4)] [] h8 r)
        else (
          zT E (d + 1) m_m_gains 36 [some (.ref a0), some (.int a1), some (.int a2), some (.int a3), some (.int a4)] [] h6 r)))
    else (
      if a4 = 1 then (
        isO h2 a0 12 = true ∧ ∃ (x9 : Int32) (h10 : zH), zT E d m_m_goesOut 0 [some (.ref a0), some (.int 79), some (.int a2), none] [] h2 (.inl (some (.int x9)), h10) ∧
        zT E (d + 1) m_m_gains 36 [some (.ref a0), some (.int a1), some (.int a2), some (.int a3), some (.int a4)] [] h10 r)
      else (
        zT E (d + 1) m_m_gains 36 [some (.ref a0), some (.int a1), some (.int a2), some (.int a3), some (.int a4)] [] h2 r))) :
    zT E (d + 1) m_m_gains 0 [some (.ref a0), some (.int a1), some (.int a2), some (.int a3), some (.int a4)] [] h r := by
  refine zT_st (pc' := 1) (L' := [some (.ref a0), some (.int a1), some (.int a2), some (.int a3), some (.int a4)]) (st' := [.ref a0]) (h' := h) 1 (fun n => rfl) ?_
  obtain ⟨hq, hw⟩ := hw
  obtain ⟨h2, hx, hw⟩ := hw
  refine zT_call (pc' := 4) (rest := []) 1 (fun n => rfl) hq hx ?_
  show zT E (d + 1) m_m_gains 4 [some (.ref a0), some (.int a1), some (.int a2), some (.int a3), some (.int a4)] [] h2 r
  refine zT_st (pc' := 6) (L' := [some (.ref a0), some (.int a1), some (.int a2), some (.int a3), some (.int a4)]) (st' := [.int 1, .int a3]) (h' := h2) 2 (fun n => rfl) ?_
  by_cases hc : a3 = 1
  · rw [if_pos hc] at hw
    refine zT_st (pc' := 9) (L' := [some (.ref a0), some (.int a1), some (.int a2), some (.int a3), some (.int a4)]) (st' := []) (h' := h2) 1 (fun n => if_pos hc) ?_
    refine zT_st (pc' := 11) (L' := [some (.ref a0), some (.int a1), some (.int a2), some (.int a3), some (.int a4)]) (st' := [.int a2, .int a1]) (h' := h2) 2 (fun n => rfl) ?_
    by_cases hc : a2 ≤ a1
    · rw [if_pos hc] at hw
      refine zT_st (pc' := 22) (L' := [some (.ref a0), some (.int a1), some (.int a2), some (.int a3), some (.int a4)]) (st' := []) (h' := h2) 1 (fun n => if_pos hc) ?_
      refine zT_st (pc' := 25) (L' := [some (.ref a0), some (.int a1), some (.int a2), some (.int a3), some (.int a4)]) (st' := [.int 1, .int a4]) (h' := h2) 2 (fun n => rfl) ?_
      by_cases hc : a4 = 1
      · rw [if_pos hc] at hw
        refine zT_st (pc' := 28) (L' := [some (.ref a0), some (.int a1), some (.int a2), some (.int a3), some (.int a4)]) (st' := []) (h' := h2) 1 (fun n => if_pos hc) ?_
        refine zT_st (pc' := 32) (L' := [some (.ref a0), some (.int a1), some (.int a2), some (.int a3), some (.int a4)]) (st' := [.int a2, .int 79, .ref a0]) (h' := h2) 3 (fun n => rfl) ?_
        obtain ⟨hq, hw⟩ := hw
        obtain ⟨x3, h4, hx, hw⟩ := hw
        refine zT_call (pc' := 35) (rest := []) 1 (fun n => rfl) hq hx ?_
        show zT E (d + 1) m_m_gains 35 [some (.ref a0), some (.int a1), some (.int a2), some (.int a3), some (.int a4)] [.int x3] h4 r
        exact zT_st 1 (fun n => rfl) hw
      · rw [if_neg hc] at hw
        refine zT_st (pc' := 36) (L' := [some (.ref a0), some (.int a1), some (.int a2), some (.int a3), some (.int a4)]) (st' := []) (h' := h2) 1 (fun n => if_neg hc) ?_
        exact hw
    · rw [if_neg hc] at hw
      refine zT_st (pc' := 14) (L' := [some (.ref a0), some (.int a1), some (.int a2), some (.int a3), some (.int a4)]) (st' := []) (h' := h2) 1 (fun n => if_neg hc) ?_
      refine zT_st (pc' := 18) (L' := [some (.ref a0), some (.int a1), some (.int a2), some (.int a3), some (.int a4)]) (st' := [.int a1, .int 79, .ref a0]) (h' := h2) 3 (fun n => rfl) ?_
      obtain ⟨hq, hw⟩ := hw
      obtain ⟨x5, h6, hx, hw⟩ := hw
      refine zT_call (pc' := 21) (rest := []) 1 (fun n => rfl) hq hx ?_
      show zT E (d + 1) m_m_gains 21 [some (.ref a0), some (.int a1), some (.int a2), some (.int a3), some (.int a4)] [.int x5] h6 r
      refine zT_st (pc' := 25) (L' := [some (.ref a0), some (.int a1), some (.int a2), some (.int a3), some (.int a4)]) (st' := [.int 1, .int a4]) (h' := h6) 3 (fun n => rfl) ?_
      by_cases hc : a4 = 1
      · rw [if_pos hc] at hw
        refine zT_st (pc' := 28) (L' := [some (.ref a0), some (.int a1), some (.int a2), some (.int a3), some (.int a4)]) (st' := []) (h' := h6) 1 (fun n => if_pos hc) ?_
        refine zT_st (pc' := 32) (L' := [some (.ref a0), some (.int a1), some (.int a2), some (.int a3), some (.int a4)]) (st' := [.int a2, .int 79, .ref a0]) (h' := h6) 3 (fun n => rfl) ?_
        obtain ⟨hq, hw⟩ := hw
        obtain ⟨x7, h8, hx, hw⟩ := hw
        refine zT_call (pc' := 35) (rest := []) 1 (fun n => rfl) hq hx ?_
        show zT E (d + 1) m_m_gains 35 [some (.ref a0), some (.int a1), some (.int a2), some (.int a3), some (.int a4)] [.int x7] h8 r
        exact zT_st 1 (fun n => rfl) hw
      · rw [if_neg hc] at hw
        refine zT_st (pc' := 36) (L' := [some (.ref a0), some (.int a1), some (.int a2), some (.int a3), some (.int a4)]) (st' := []) (h' := h6) 1 (fun n => if_neg hc) ?_
        exact hw
  · rw [if_neg hc] at hw
    refine zT_st (pc' := 22) (L' := [some (.ref a0), some (.int a1), some (.int a2), some (.int a3), some (.int a4)]) (st' := []) (h' := h2) 1 (fun n => if_neg hc) ?_
    refine zT_st (pc' := 25) (L' := [some (.ref a0), some (.int a1), some (.int a2), some (.int a3), some (.int a4)]) (st' := [.int 1, .int a4]) (h' := h2) 2 (fun n => rfl) ?_
    by_cases hc : a4 = 1
    · rw [if_pos hc] at hw
      refine zT_st (pc' := 28) (L' := [some (.ref a0), some (.int a1), some (.int a2), some (.int a3), some (.int a4)]) (st' := []) (h' := h2) 1 (fun n => if_pos hc) ?_
      refine zT_st (pc' := 32) (L' := [some (.ref a0), some (.int a1), some (.int a2), some (.int a3), some (.int a4)]) (st' := [.int a2, .int 79, .ref a0]) (h' := h2) 3 (fun n => rfl) ?_
      obtain ⟨hq, hw⟩ := hw
      obtain ⟨x9, h10, hx, hw⟩ := hw
      refine zT_call (pc' := 35) (rest := []) 1 (fun n => rfl) hq hx ?_
      show zT E (d + 1) m_m_gains 35 [some (.ref a0), some (.int a1), some (.int a2), some (.int a3), some (.int a4)] [.int x9] h10 r
      exact zT_st 1 (fun n => rfl) hw
    · rw [if_neg hc] at hw
      refine zT_st (pc' := 36) (L' := [some (.ref a0), some (.int a1), some (.int a2), some (.int a3), some (.int a4)]) (st' := []) (h' := h2) 1 (fun n => if_neg hc) ?_
      exact hw
set_option maxRecDepth 4000 in
theorem s_m_gains_36 (E : zX) (d : Nat) (a0 : Nat) (a1 : Int32) (a2 : Int32) (a3 : Int32) (j4 : Option Value) (h : zH) (r : zO × zH)
    (hw : if a3 = 1 then (
      if a1 ≤ a2 then (
        zT E (d + 1) m_m_gains 54 [some (.ref a0), some (.int a1), some (.int a2), some (.int a3), j4] [] h r)
      else (
        isO h a0 12 = true ∧ ∃ (x1 : Int32) (h2 : zH), zT E d m_m_goesOut 0 [some (.ref a0), some (.int 79), some (.int a1), none] [] h (.inl (some (.int x1)), h2) ∧
        zT E (d + 1) m_m_gains 54 [some (.ref a0), some (.int a1), some (.int a2), some (.int a3), j4] [] h2 r))
    else (
      zT E (d + 1) m_m_gains 54 [some (.ref a0), some (.int a1), some (.int a2), some (.int a3), j4] [] h r)) :
    zT E (d + 1) m_m_gains 36 [some (.ref a0), some (.int a1), some (.int a2), some (.int a3), j4] [] h r := by
  refine zT_st (pc' := 38) (L' := [some (.ref a0), some (.int a1), some (.int a2), some (.int a3), j4]) (st' := [.int 1, .int a3]) (h' := h) 2 (fun n => rfl) ?_
  by_cases hc : a3 = 1
  · rw [if_pos hc] at hw
    refine zT_st (pc' := 41) (L' := [some (.ref a0), some (.int a1), some (.int a2), some (.int a3), j4]) (st' := []) (h' := h) 1 (fun n => if_pos hc) ?_
    refine zT_st (pc' := 43) (L' := [some (.ref a0), some (.int a1), some (.int a2), some (.int a3), j4]) (st' := [.int a2, .int a1]) (h' := h) 2 (fun n => rfl) ?_
    by_cases hc : a1 ≤ a2
    · rw [if_pos hc] at hw
      refine zT_st (pc' := 54) (L' := [some (.ref a0), some (.int a1), some (.int a2), some (.int a3), j4]) (st' := []) (h' := h) 1 (fun n => if_pos hc) ?_
      exact hw
    · rw [if_neg hc] at hw
      refine zT_st (pc' := 46) (L' := [some (.ref a0), some (.int a1), some (.int a2), some (.int a3), j4]) (st' := []) (h' := h) 1 (fun n => if_neg hc) ?_
      refine zT_st (pc' := 50) (L' := [some (.ref a0), some (.int a1), some (.int a2), some (.int a3), j4]) (st' := [.int a1, .int 79, .ref a0]) (h' := h) 3 (fun n => rfl) ?_
      obtain ⟨hq, hw⟩ := hw
      obtain ⟨x1, h2, hx, hw⟩ := hw
      refine zT_call (pc' := 53) (rest := []) 1 (fun n => rfl) hq hx ?_
      show zT E (d + 1) m_m_gains 53 [some (.ref a0), some (.int a1), some (.int a2), some (.int a3), j4] [.int x1] h2 r
      exact zT_st 1 (fun n => rfl) hw
  · rw [if_neg hc] at hw
    refine zT_st (pc' := 54) (L' := [some (.ref a0), some (.int a1), some (.int a2), some (.int a3), j4]) (st' := []) (h' := h) 1 (fun n => if_neg hc) ?_
    exact hw
set_option maxRecDepth 4000 in
theorem s_m_gains_54 (E : zX) (d : Nat) (a0 : Nat) (a1 : Int32) (j2 : Option Value) (a3 : Int32) (j4 : Option Value) (h : zH) (r : zO × zH)
    (hw : isO h a0 12 = true ∧ ∃ (h2 : zH), zT E d m_m_daysGo 0 [some (.ref a0), some (.int 10), none] [] h (.inl none, h2) ∧
    ∃ o3 : Nat, fld h2 a0 12 40 = some (.ref o3) ∧
    ∃ (n4 : Nat) (f5 : Nat → Int32), arr h2 o3 = some (n4, f5) ∧ ¬ ((8 + a1) < 0 ∨ n4 ≤ ((8 + a1)).toNatClampNeg) ∧
    ∃ o6 : Nat, fld h2 a0 12 40 = some (.ref o6) ∧
    ∃ (n7 : Nat) (f8 : Nat → Int32), arr h2 o6 = some (n7, f8) ∧ ¬ ((87 + a1) < 0 ∨ n7 ≤ ((87 + a1)).toNatClampNeg) ∧
    ∃ o9 : Nat, fld h2 a0 12 40 = some (.ref o9) ∧
    ∃ (n10 : Nat) (f11 : Nat → Int32), arr h2 o9 = some (n10, f11) ∧ ¬ ((15 + a1) < 0 ∨ n10 ≤ ((15 + a1)).toNatClampNeg) ∧
    ∃ o12 : Nat, fld h2 a0 12 40 = some (.ref o12) ∧
    ∃ (n13 : Nat) (f14 : Nat → Int32), arr h2 o12 = some (n13, f14) ∧ ¬ ((94 + a1) < 0 ∨ n13 ≤ ((94 + a1)).toNatClampNeg) ∧
    r = (.inl (some (.int ((((4 * ((f5 ((8 + a1)).toNatClampNeg) - (f8 ((87 + a1)).toNatClampNeg))) + (f11 ((15 + a1)).toNatClampNeg)) - (f14 ((94 + a1)).toNatClampNeg)) - (2 * a3)))), h2)) :
    zT E (d + 1) m_m_gains 54 [some (.ref a0), some (.int a1), j2, some (.int a3), j4] [] h r := by
  refine zT_st (pc' := 57) (L' := [some (.ref a0), some (.int a1), j2, some (.int a3), j4]) (st' := [.int 10, .ref a0]) (h' := h) 2 (fun n => rfl) ?_
  obtain ⟨hq, hw⟩ := hw
  obtain ⟨h2, hx, hw⟩ := hw
  refine zT_call (pc' := 60) (rest := []) 1 (fun n => rfl) hq hx ?_
  show zT E (d + 1) m_m_gains 60 [some (.ref a0), some (.int a1), j2, some (.int a3), j4] [] h2 r
  refine zT_st (pc' := 62) (L' := [some (.ref a0), some (.int a1), j2, some (.int a3), j4]) (st' := [.ref a0, .int 4]) (h' := h2) 2 (fun n => rfl) ?_
  obtain ⟨o3, e, hw⟩ := hw
  refine zT_st (pc' := 65) (L' := [some (.ref a0), some (.int a1), j2, some (.int a3), j4]) (st' := [.ref o3, .int 4]) (h' := h2) 1 (fun n => fld_eq (E := E) e _) ?_
  refine zT_st (pc' := 69) (L' := [some (.ref a0), some (.int a1), j2, some (.int a3), j4]) (st' := [.int (8 + a1), .ref o3, .int 4]) (h' := h2) 3 (fun n => rfl) ?_
  obtain ⟨n4, f5, e, hi, hw⟩ := hw
  refine zT_st (pc' := 70) (L' := [some (.ref a0), some (.int a1), j2, some (.int a3), j4]) (st' := [.int (f5 ((8 + a1)).toNatClampNeg), .int 4]) (h' := h2) 1 (fun n => arr_eq (E := E) e hi [.int 4] (fun st => zrun zP zCd E n (d + 1) m_m_gains 70 [some (.ref a0), some (.int a1), j2, some (.int a3), j4] st h2)) ?_
  refine zT_st (pc' := 71) (L' := [some (.ref a0), some (.int a1), j2, some (.int a3), j4]) (st' := [.ref a0, .int (f5 ((8 + a1)).toNatClampNeg), .int 4]) (h' := h2) 1 (fun n => rfl) ?_
  obtain ⟨o6, e, hw⟩ := hw
  refine zT_st (pc' := 74) (L' := [some (.ref a0), some (.int a1), j2, some (.int a3), j4]) (st' := [.ref o6, .int (f5 ((8 + a1)).toNatClampNeg), .int 4]) (h' := h2) 1 (fun n => fld_eq (E := E) e _) ?_
  refine zT_st (pc' := 78) (L' := [some (.ref a0), some (.int a1), j2, some (.int a3), j4]) (st' := [.int (87 + a1), .ref o6, .int (f5 ((8 + a1)).toNatClampNeg), .int 4]) (h' := h2) 3 (fun n => rfl) ?_
  obtain ⟨n7, f8, e, hi, hw⟩ := hw
  refine zT_st (pc' := 79) (L' := [some (.ref a0), some (.int a1), j2, some (.int a3), j4]) (st' := [.int (f8 ((87 + a1)).toNatClampNeg), .int (f5 ((8 + a1)).toNatClampNeg), .int 4]) (h' := h2) 1 (fun n => arr_eq (E := E) e hi [.int (f5 ((8 + a1)).toNatClampNeg), .int 4] (fun st => zrun zP zCd E n (d + 1) m_m_gains 79 [some (.ref a0), some (.int a1), j2, some (.int a3), j4] st h2)) ?_
  refine zT_st (pc' := 82) (L' := [some (.ref a0), some (.int a1), j2, some (.int a3), j4]) (st' := [.ref a0, .int (4 * ((f5 ((8 + a1)).toNatClampNeg) - (f8 ((87 + a1)).toNatClampNeg)))]) (h' := h2) 3 (fun n => rfl) ?_
  obtain ⟨o9, e, hw⟩ := hw
  refine zT_st (pc' := 85) (L' := [some (.ref a0), some (.int a1), j2, some (.int a3), j4]) (st' := [.ref o9, .int (4 * ((f5 ((8 + a1)).toNatClampNeg) - (f8 ((87 + a1)).toNatClampNeg)))]) (h' := h2) 1 (fun n => fld_eq (E := E) e _) ?_
  refine zT_st (pc' := 89) (L' := [some (.ref a0), some (.int a1), j2, some (.int a3), j4]) (st' := [.int (15 + a1), .ref o9, .int (4 * ((f5 ((8 + a1)).toNatClampNeg) - (f8 ((87 + a1)).toNatClampNeg)))]) (h' := h2) 3 (fun n => rfl) ?_
  obtain ⟨n10, f11, e, hi, hw⟩ := hw
  refine zT_st (pc' := 90) (L' := [some (.ref a0), some (.int a1), j2, some (.int a3), j4]) (st' := [.int (f11 ((15 + a1)).toNatClampNeg), .int (4 * ((f5 ((8 + a1)).toNatClampNeg) - (f8 ((87 + a1)).toNatClampNeg)))]) (h' := h2) 1 (fun n => arr_eq (E := E) e hi [.int (4 * ((f5 ((8 + a1)).toNatClampNeg) - (f8 ((87 + a1)).toNatClampNeg)))] (fun st => zrun zP zCd E n (d + 1) m_m_gains 90 [some (.ref a0), some (.int a1), j2, some (.int a3), j4] st h2)) ?_
  refine zT_st (pc' := 92) (L' := [some (.ref a0), some (.int a1), j2, some (.int a3), j4]) (st' := [.ref a0, .int ((4 * ((f5 ((8 + a1)).toNatClampNeg) - (f8 ((87 + a1)).toNatClampNeg))) + (f11 ((15 + a1)).toNatClampNeg))]) (h' := h2) 2 (fun n => rfl) ?_
  obtain ⟨o12, e, hw⟩ := hw
  refine zT_st (pc' := 95) (L' := [some (.ref a0), some (.int a1), j2, some (.int a3), j4]) (st' := [.ref o12, .int ((4 * ((f5 ((8 + a1)).toNatClampNeg) - (f8 ((87 + a1)).toNatClampNeg))) + (f11 ((15 + a1)).toNatClampNeg))]) (h' := h2) 1 (fun n => fld_eq (E := E) e _) ?_
  refine zT_st (pc' := 99) (L' := [some (.ref a0), some (.int a1), j2, some (.int a3), j4]) (st' := [.int (94 + a1), .ref o12, .int ((4 * ((f5 ((8 + a1)).toNatClampNeg) - (f8 ((87 + a1)).toNatClampNeg))) + (f11 ((15 + a1)).toNatClampNeg))]) (h' := h2) 3 (fun n => rfl) ?_
  obtain ⟨n13, f14, e, hi, hw⟩ := hw
  refine zT_st (pc' := 100) (L' := [some (.ref a0), some (.int a1), j2, some (.int a3), j4]) (st' := [.int (f14 ((94 + a1)).toNatClampNeg), .int ((4 * ((f5 ((8 + a1)).toNatClampNeg) - (f8 ((87 + a1)).toNatClampNeg))) + (f11 ((15 + a1)).toNatClampNeg))]) (h' := h2) 1 (fun n => arr_eq (E := E) e hi [.int ((4 * ((f5 ((8 + a1)).toNatClampNeg) - (f8 ((87 + a1)).toNatClampNeg))) + (f11 ((15 + a1)).toNatClampNeg))] (fun st => zrun zP zCd E n (d + 1) m_m_gains 100 [some (.ref a0), some (.int a1), j2, some (.int a3), j4] st h2)) ?_
  subst hw
  exact zT_ret 6 rfl
set_option maxRecDepth 4000 in
theorem s_m_happens_0 (E : zX) (d : Nat) (a0 : Nat) (h : zH) (r : zO × zH)
    (hw : isO h a0 12 = true ∧ ∃ (x1 : Int32) (h2 : zH), zT E d m_m_draw 0 [some (.ref a0), some (.int 5)] [] h (.inl (some (.int x1)), h2) ∧
    if x1 = 0 then (
      ∃ x3 : Int32, fld h2 a0 12 4 = some (.int x3) ∧
      if x3 ≤ 0 then (
        zT E (d + 1) m_m_happens 46 [some (.ref a0), some (.int x1), none] [] h2 r)
      else (
        ∃ x4 : Int32, fld h2 a0 12 4 = some (.int x4) ∧
        isO h2 a0 12 = true ∧ ∃ (x5 : Int32) (h6 : zH), zT E d m_m_draw 0 [some (.ref a0), some (.int x4)] [] h2 (.inl (some (.int x5)), h6) ∧
        isO h6 a0 12 = true ∧ ∃ (x7 : Int32) (h8 : zH), zT E d m_m_mayTread 0 [some (.ref a0), some (.int 79), some (.int x5)] [] h6 (.inl (some (.int x7)), h8) ∧
        if x7 = 0 then (
          zT E (d + 1) m_m_happens 46 [some (.ref a0), some (.int x1), some (.int x5)] [] h8 r)
        else (
          isO h8 a0 12 = true ∧ ∃ (x9 : Int32) (h10 : zH), zT E d m_m_goOff 0 [some (.ref a0), some (.int 79), some (.int (1 <<< (x5 &&& 31))), none, none, none, none] [] h8 (.inl (some (.int x9)), h10) ∧
          zT E (d + 1) m_m_happens 46 [some (.ref a0), some (.int x1), some (.int x5)] [] h10 r)))
    else (
      zT E (d + 1) m_m_happens 46 [some (.ref a0), some (.int x1), none] [] h2 r)) :
    zT E (d + 1) m_m_happens 0 [some (.ref a0), none, none] [] h r := by
  refine zT_st (pc' := 2) (L' := [some (.ref a0), none, none]) (st' := [.int 5, .ref a0]) (h' := h) 2 (fun n => rfl) ?_
  obtain ⟨hq, hw⟩ := hw
  obtain ⟨x1, h2, hx, hw⟩ := hw
  refine zT_call (pc' := 5) (rest := []) 1 (fun n => rfl) hq hx ?_
  show zT E (d + 1) m_m_happens 5 [some (.ref a0), none, none] [.int x1] h2 r
  refine zT_st (pc' := 7) (L' := [some (.ref a0), some (.int x1), none]) (st' := [.int x1]) (h' := h2) 2 (fun n => rfl) ?_
  by_cases hc : x1 = 0
  · rw [if_pos hc] at hw
    refine zT_st (pc' := 10) (L' := [some (.ref a0), some (.int x1), none]) (st' := []) (h' := h2) 1 (fun n => if_pos hc) ?_
    refine zT_st (pc' := 11) (L' := [some (.ref a0), some (.int x1), none]) (st' := [.ref a0]) (h' := h2) 1 (fun n => rfl) ?_
    obtain ⟨x3, e, hw⟩ := hw
    refine zT_st (pc' := 14) (L' := [some (.ref a0), some (.int x1), none]) (st' := [.int x3]) (h' := h2) 1 (fun n => fld_eq (E := E) e _) ?_
    by_cases hc : x3 ≤ 0
    · rw [if_pos hc] at hw
      refine zT_st (pc' := 46) (L' := [some (.ref a0), some (.int x1), none]) (st' := []) (h' := h2) 1 (fun n => if_pos hc) ?_
      exact hw
    · rw [if_neg hc] at hw
      refine zT_st (pc' := 17) (L' := [some (.ref a0), some (.int x1), none]) (st' := []) (h' := h2) 1 (fun n => if_neg hc) ?_
      refine zT_st (pc' := 19) (L' := [some (.ref a0), some (.int x1), none]) (st' := [.ref a0, .ref a0]) (h' := h2) 2 (fun n => rfl) ?_
      obtain ⟨x4, e, hw⟩ := hw
      refine zT_st (pc' := 22) (L' := [some (.ref a0), some (.int x1), none]) (st' := [.int x4, .ref a0]) (h' := h2) 1 (fun n => fld_eq (E := E) e _) ?_
      obtain ⟨hq, hw⟩ := hw
      obtain ⟨x5, h6, hx, hw⟩ := hw
      refine zT_call (pc' := 25) (rest := []) 1 (fun n => rfl) hq hx ?_
      show zT E (d + 1) m_m_happens 25 [some (.ref a0), some (.int x1), none] [.int x5] h6 r
      refine zT_st (pc' := 30) (L' := [some (.ref a0), some (.int x1), some (.int x5)]) (st' := [.int x5, .int 79, .ref a0]) (h' := h6) 4 (fun n => rfl) ?_
      obtain ⟨hq, hw⟩ := hw
      obtain ⟨x7, h8, hx, hw⟩ := hw
      refine zT_call (pc' := 33) (rest := []) 1 (fun n => rfl) hq hx ?_
      show zT E (d + 1) m_m_happens 33 [some (.ref a0), some (.int x1), some (.int x5)] [.int x7] h8 r
      by_cases hc : x7 = 0
      · rw [if_pos hc] at hw
        refine zT_st (pc' := 46) (L' := [some (.ref a0), some (.int x1), some (.int x5)]) (st' := []) (h' := h8) 1 (fun n => if_pos hc) ?_
        exact hw
      · rw [if_neg hc] at hw
        refine zT_st (pc' := 36) (L' := [some (.ref a0), some (.int x1), some (.int x5)]) (st' := []) (h' := h8) 1 (fun n => if_neg hc) ?_
        refine zT_st (pc' := 42) (L' := [some (.ref a0), some (.int x1), some (.int x5)]) (st' := [.int (1 <<< (x5 &&& 31)), .int 79, .ref a0]) (h' := h8) 5 (fun n => rfl) ?_
        obtain ⟨hq, hw⟩ := hw
        obtain ⟨x9, h10, hx, hw⟩ := hw
        refine zT_call (pc' := 45) (rest := []) 1 (fun n => rfl) hq hx ?_
        show zT E (d + 1) m_m_happens 45 [some (.ref a0), some (.int x1), some (.int x5)] [.int x9] h10 r
        exact zT_st 1 (fun n => rfl) hw
  · rw [if_neg hc] at hw
    refine zT_st (pc' := 46) (L' := [some (.ref a0), some (.int x1), none]) (st' := []) (h' := h2) 1 (fun n => if_neg hc) ?_
    exact hw
set_option maxRecDepth 4000 in
theorem s_m_happens_46 (E : zX) (d : Nat) (a0 : Nat) (a1 : Int32) (j2 : Option Value) (h : zH) (r : zO × zH)
    (hw : if a1 = 1 then (
      ∃ x1 : Int32, fld h a0 12 3 = some (.int x1) ∧
      if x1 ≤ 0 then (
        r = (.inl (none), h))
      else (
        ∃ x2 : Int32, fld h a0 12 3 = some (.int x2) ∧
        isO h a0 12 = true ∧ ∃ (x3 : Int32) (h4 : zH), zT E d m_m_draw 0 [some (.ref a0), some (.int x2)] [] h (.inl (some (.int x3)), h4) ∧
        ∃ o5 : Nat, fld h4 a0 12 40 = some (.ref o5) ∧
        isO h4 a0 12 = true ∧ ∃ (x6 : Int32) (h7 : zH), zT E d m_m_draw 0 [some (.ref a0), some (.int 60)] [] h4 (.inl (some (.int x6)), h7) ∧
        ∃ (n8 : Nat) (f9 : Nat → Int32), arr h7 o5 = some (n8, f9) ∧ ¬ ((80 + x3) < 0 ∨ n8 ≤ ((80 + x3)).toNatClampNeg) ∧
        r = (.inl (none), (setA h7 o5 n8 (upd f9 ((80 + x3)).toNatClampNeg x6)))))
    else (
      r = (.inl (none), h))) :
    zT E (d + 1) m_m_happens 46 [some (.ref a0), some (.int a1), j2] [] h r := by
  refine zT_st (pc' := 48) (L' := [some (.ref a0), some (.int a1), j2]) (st' := [.int 1, .int a1]) (h' := h) 2 (fun n => rfl) ?_
  by_cases hc : a1 = 1
  · rw [if_pos hc] at hw
    refine zT_st (pc' := 51) (L' := [some (.ref a0), some (.int a1), j2]) (st' := []) (h' := h) 1 (fun n => if_pos hc) ?_
    refine zT_st (pc' := 52) (L' := [some (.ref a0), some (.int a1), j2]) (st' := [.ref a0]) (h' := h) 1 (fun n => rfl) ?_
    obtain ⟨x1, e, hw⟩ := hw
    refine zT_st (pc' := 55) (L' := [some (.ref a0), some (.int a1), j2]) (st' := [.int x1]) (h' := h) 1 (fun n => fld_eq (E := E) e _) ?_
    by_cases hc : x1 ≤ 0
    · rw [if_pos hc] at hw
      refine zT_st (pc' := 82) (L' := [some (.ref a0), some (.int a1), j2]) (st' := []) (h' := h) 1 (fun n => if_pos hc) ?_
      subst hw
      exact zT_ret 1 rfl
    · rw [if_neg hc] at hw
      refine zT_st (pc' := 58) (L' := [some (.ref a0), some (.int a1), j2]) (st' := []) (h' := h) 1 (fun n => if_neg hc) ?_
      refine zT_st (pc' := 60) (L' := [some (.ref a0), some (.int a1), j2]) (st' := [.ref a0, .ref a0]) (h' := h) 2 (fun n => rfl) ?_
      obtain ⟨x2, e, hw⟩ := hw
      refine zT_st (pc' := 63) (L' := [some (.ref a0), some (.int a1), j2]) (st' := [.int x2, .ref a0]) (h' := h) 1 (fun n => fld_eq (E := E) e _) ?_
      obtain ⟨hq, hw⟩ := hw
      obtain ⟨x3, h4, hx, hw⟩ := hw
      refine zT_call (pc' := 66) (rest := []) 1 (fun n => rfl) hq hx ?_
      show zT E (d + 1) m_m_happens 66 [some (.ref a0), some (.int a1), j2] [.int x3] h4 r
      refine zT_st (pc' := 68) (L' := [some (.ref a0), some (.int a1), some (.int x3)]) (st' := [.ref a0]) (h' := h4) 2 (fun n => rfl) ?_
      obtain ⟨o5, e, hw⟩ := hw
      refine zT_st (pc' := 71) (L' := [some (.ref a0), some (.int a1), some (.int x3)]) (st' := [.ref o5]) (h' := h4) 1 (fun n => fld_eq (E := E) e _) ?_
      refine zT_st (pc' := 78) (L' := [some (.ref a0), some (.int a1), some (.int x3)]) (st' := [.int 60, .ref a0, .int (80 + x3), .ref o5]) (h' := h4) 5 (fun n => rfl) ?_
      obtain ⟨hq, hw⟩ := hw
      obtain ⟨x6, h7, hx, hw⟩ := hw
      refine zT_call (pc' := 81) (rest := [.int (80 + x3), .ref o5]) 1 (fun n => rfl) hq hx ?_
      show zT E (d + 1) m_m_happens 81 [some (.ref a0), some (.int a1), some (.int x3)] [.int x6, .int (80 + x3), .ref o5] h7 r
      obtain ⟨n8, f9, e, hi, hw⟩ := hw
      refine zT_st (pc' := 82) (L' := [some (.ref a0), some (.int a1), some (.int x3)]) (st' := []) (h' := (setA h7 o5 n8 (upd f9 ((80 + x3)).toNatClampNeg x6))) 1 (fun n => set_eq e hi _ _) ?_
      subst hw
      exact zT_ret 1 rfl
  · rw [if_neg hc] at hw
    refine zT_st (pc' := 82) (L' := [some (.ref a0), some (.int a1), j2]) (st' := []) (h' := h) 1 (fun n => if_neg hc) ?_
    subst hw
    exact zT_ret 1 rfl
set_option maxRecDepth 4000 in
theorem s_m_draw_0 (E : zX) (d : Nat) (a0 : Nat) (a1 : Int32) (h : zH) (r : zO × zH)
    (hw : ∃ x1 : Int32, fld h a0 12 57 = some (.int x1) ∧
    (∃ w, fld h a0 12 57 = some w) ∧
    ∃ x2 : Int32, fld (setF h a0 57 (.int ((x1 * 1103515245) + 12345))) a0 12 57 = some (.int x2) ∧
    ¬ a1 = 0 ∧
    r = (.inl (some (.int (zrem ((x2 >>> (16 &&& 31)) &&& 32767) a1))), (setF h a0 57 (.int ((x1 * 1103515245) + 12345))))) :
    zT E d m_m_draw 0 [some (.ref a0), some (.int a1)] [] h r := by
  refine zT_st (pc' := 2) (L' := [some (.ref a0), some (.int a1)]) (st' := [.ref a0, .ref a0]) (h' := h) 2 (fun n => rfl) ?_
  obtain ⟨x1, e, hw⟩ := hw
  refine zT_st (pc' := 5) (L' := [some (.ref a0), some (.int a1)]) (st' := [.int x1, .ref a0]) (h' := h) 1 (fun n => fld_eq (E := E) e _) ?_
  refine zT_st (pc' := 13) (L' := [some (.ref a0), some (.int a1)]) (st' := [.int ((x1 * 1103515245) + 12345), .ref a0]) (h' := h) 4 (fun n => rfl) ?_
  obtain ⟨⟨w, e⟩, hw⟩ := hw
  refine zT_st (pc' := 16) (L' := [some (.ref a0), some (.int a1)]) (st' := []) (h' := (setF h a0 57 (.int ((x1 * 1103515245) + 12345)))) 1 (fun n => put_eq e rfl _ _) ?_
  refine zT_st (pc' := 17) (L' := [some (.ref a0), some (.int a1)]) (st' := [.ref a0]) (h' := (setF h a0 57 (.int ((x1 * 1103515245) + 12345)))) 1 (fun n => rfl) ?_
  obtain ⟨x2, e, hw⟩ := hw
  refine zT_st (pc' := 20) (L' := [some (.ref a0), some (.int a1)]) (st' := [.int x2]) (h' := (setF h a0 57 (.int ((x1 * 1103515245) + 12345)))) 1 (fun n => fld_eq (E := E) e _) ?_
  refine zT_st (pc' := 28) (L' := [some (.ref a0), some (.int a1)]) (st' := [.int a1, .int ((x2 >>> (16 &&& 31)) &&& 32767)]) (h' := (setF h a0 57 (.int ((x1 * 1103515245) + 12345)))) 5 (fun n => rfl) ?_
  obtain ⟨hz, hw⟩ := hw
  refine zT_st (pc' := 29) (L' := [some (.ref a0), some (.int a1)]) (st' := [.int (zrem ((x2 >>> (16 &&& 31)) &&& 32767) a1)]) (h' := (setF h a0 57 (.int ((x1 * 1103515245) + 12345)))) 1 (fun n => if_neg hz) ?_
  subst hw
  exact zT_ret 1 rfl
set_option maxRecDepth 4000 in
theorem s_m_image_0 (E : zX) (d : Nat) (a0 : Nat) (h : zH) (r : zO × zH)
    (hw : (∃ w, fld h a0 12 0 = some w) ∧
    (∃ w, fld (setF h a0 0 (.int 0)) a0 12 58 = some w) ∧
    ∃ x1 : Int32, fld (setF (setF h a0 0 (.int 0)) a0 58 (.int 1)) a0 12 42 = some (.int x1) ∧
    (∃ w, fld (setF (setF h a0 0 (.int 0)) a0 58 (.int 1)) a0 12 59 = some w) ∧
    ∃ x2 : Int32, fld (setF (setF (setF h a0 0 (.int 0)) a0 58 (.int 1)) a0 59 (.int x1)) a0 12 53 = some (.int x2) ∧
    (∃ w, fld (setF (setF (setF h a0 0 (.int 0)) a0 58 (.int 1)) a0 59 (.int x1)) a0 12 60 = some w) ∧
    zT E (d + 1) m_m_image 28 [some (.ref a0), some (.int 0)] [] (setF (setF (setF (setF h a0 0 (.int 0)) a0 58 (.int 1)) a0 59 (.int x1)) a0 60 (.int x2)) r) :
    zT E (d + 1) m_m_image 0 [some (.ref a0), none] [] h r := by
  refine zT_st (pc' := 2) (L' := [some (.ref a0), none]) (st' := [.int 0, .ref a0]) (h' := h) 2 (fun n => rfl) ?_
  obtain ⟨⟨w, e⟩, hw⟩ := hw
  refine zT_st (pc' := 5) (L' := [some (.ref a0), none]) (st' := []) (h' := (setF h a0 0 (.int 0))) 1 (fun n => put_eq e rfl _ _) ?_
  refine zT_st (pc' := 7) (L' := [some (.ref a0), none]) (st' := [.int 1, .ref a0]) (h' := (setF h a0 0 (.int 0))) 2 (fun n => rfl) ?_
  obtain ⟨⟨w, e⟩, hw⟩ := hw
  refine zT_st (pc' := 10) (L' := [some (.ref a0), none]) (st' := []) (h' := (setF (setF h a0 0 (.int 0)) a0 58 (.int 1))) 1 (fun n => put_eq e rfl _ _) ?_
  refine zT_st (pc' := 12) (L' := [some (.ref a0), none]) (st' := [.ref a0, .ref a0]) (h' := (setF (setF h a0 0 (.int 0)) a0 58 (.int 1))) 2 (fun n => rfl) ?_
  obtain ⟨x1, e, hw⟩ := hw
  refine zT_st (pc' := 15) (L' := [some (.ref a0), none]) (st' := [.int x1, .ref a0]) (h' := (setF (setF h a0 0 (.int 0)) a0 58 (.int 1))) 1 (fun n => fld_eq (E := E) e _) ?_
  obtain ⟨⟨w, e⟩, hw⟩ := hw
  refine zT_st (pc' := 18) (L' := [some (.ref a0), none]) (st' := []) (h' := (setF (setF (setF h a0 0 (.int 0)) a0 58 (.int 1)) a0 59 (.int x1))) 1 (fun n => put_eq e rfl _ _) ?_
  refine zT_st (pc' := 20) (L' := [some (.ref a0), none]) (st' := [.ref a0, .ref a0]) (h' := (setF (setF (setF h a0 0 (.int 0)) a0 58 (.int 1)) a0 59 (.int x1))) 2 (fun n => rfl) ?_
  obtain ⟨x2, e, hw⟩ := hw
  refine zT_st (pc' := 23) (L' := [some (.ref a0), none]) (st' := [.int x2, .ref a0]) (h' := (setF (setF (setF h a0 0 (.int 0)) a0 58 (.int 1)) a0 59 (.int x1))) 1 (fun n => fld_eq (E := E) e _) ?_
  obtain ⟨⟨w, e⟩, hw⟩ := hw
  refine zT_st (pc' := 26) (L' := [some (.ref a0), none]) (st' := []) (h' := (setF (setF (setF (setF h a0 0 (.int 0)) a0 58 (.int 1)) a0 59 (.int x1)) a0 60 (.int x2))) 1 (fun n => put_eq e rfl _ _) ?_
  exact zT_st 2 (fun n => rfl) hw
set_option maxRecDepth 4000 in
theorem s_m_image_28 (E : zX) (d : Nat) (a0 : Nat) (a1 : Int32) (h : zH) (r : zO × zH)
    (hw : if 79 ≤ a1 then (
      ∃ o1 : Nat, fld h a0 12 41 = some (.ref o1) ∧
      ∃ o2 : Nat, fld h a0 12 62 = some (.ref o2) ∧
      isO h a0 12 = true ∧ ∃ (h4 : zH), zT E d m_m_copies 0 [some (.ref a0), some (.ref o1), some (.ref o2), none] [] h (.inl none, h4) ∧
      ∃ o5 : Nat, fld h4 a0 12 54 = some (.ref o5) ∧
      ∃ o6 : Nat, fld h4 a0 12 63 = some (.ref o6) ∧
      isO h4 a0 12 = true ∧ ∃ (h8 : zH), zT E d m_m_copies 0 [some (.ref a0), some (.ref o5), some (.ref o6), none] [] h4 (.inl none, h8) ∧
      r = (.inl (none), h8))
    else (
      ∃ o9 : Nat, fld h a0 12 61 = some (.ref o9) ∧
      ∃ o10 : Nat, fld h a0 12 40 = some (.ref o10) ∧
      ∃ (n11 : Nat) (f12 : Nat → Int32), arr h o10 = some (n11, f12) ∧ ¬ (a1 < 0 ∨ n11 ≤ (a1).toNatClampNeg) ∧
      ∃ (n13 : Nat) (f14 : Nat → Int32), arr h o9 = some (n13, f14) ∧ ¬ (a1 < 0 ∨ n13 ≤ (a1).toNatClampNeg) ∧
      zT E (d + 1) m_m_image 28 [some (.ref a0), some (.int (a1 + 1))] [] (setA h o9 n13 (upd f14 (a1).toNatClampNeg (f12 (a1).toNatClampNeg))) r)) :
    zT E (d + 1) m_m_image 28 [some (.ref a0), some (.int a1)] [] h r := by
  refine zT_st (pc' := 31) (L' := [some (.ref a0), some (.int a1)]) (st' := [.int 79, .int a1]) (h' := h) 2 (fun n => rfl) ?_
  by_cases hc : 79 ≤ a1
  · rw [if_pos hc] at hw
    refine zT_st (pc' := 52) (L' := [some (.ref a0), some (.int a1)]) (st' := []) (h' := h) 1 (fun n => if_pos hc) ?_
    refine zT_st (pc' := 54) (L' := [some (.ref a0), some (.int a1)]) (st' := [.ref a0, .ref a0]) (h' := h) 2 (fun n => rfl) ?_
    obtain ⟨o1, e, hw⟩ := hw
    refine zT_st (pc' := 57) (L' := [some (.ref a0), some (.int a1)]) (st' := [.ref o1, .ref a0]) (h' := h) 1 (fun n => fld_eq (E := E) e _) ?_
    refine zT_st (pc' := 58) (L' := [some (.ref a0), some (.int a1)]) (st' := [.ref a0, .ref o1, .ref a0]) (h' := h) 1 (fun n => rfl) ?_
    obtain ⟨o2, e, hw⟩ := hw
    refine zT_st (pc' := 61) (L' := [some (.ref a0), some (.int a1)]) (st' := [.ref o2, .ref o1, .ref a0]) (h' := h) 1 (fun n => fld_eq (E := E) e _) ?_
    obtain ⟨hq, hw⟩ := hw
    obtain ⟨h4, hx, hw⟩ := hw
    refine zT_call (pc' := 64) (rest := []) 1 (fun n => rfl) hq hx ?_
    show zT E (d + 1) m_m_image 64 [some (.ref a0), some (.int a1)] [] h4 r
    refine zT_st (pc' := 66) (L' := [some (.ref a0), some (.int a1)]) (st' := [.ref a0, .ref a0]) (h' := h4) 2 (fun n => rfl) ?_
    obtain ⟨o5, e, hw⟩ := hw
    refine zT_st (pc' := 69) (L' := [some (.ref a0), some (.int a1)]) (st' := [.ref o5, .ref a0]) (h' := h4) 1 (fun n => fld_eq (E := E) e _) ?_
    refine zT_st (pc' := 70) (L' := [some (.ref a0), some (.int a1)]) (st' := [.ref a0, .ref o5, .ref a0]) (h' := h4) 1 (fun n => rfl) ?_
    obtain ⟨o6, e, hw⟩ := hw
    refine zT_st (pc' := 73) (L' := [some (.ref a0), some (.int a1)]) (st' := [.ref o6, .ref o5, .ref a0]) (h' := h4) 1 (fun n => fld_eq (E := E) e _) ?_
    obtain ⟨hq, hw⟩ := hw
    obtain ⟨h8, hx, hw⟩ := hw
    refine zT_call (pc' := 76) (rest := []) 1 (fun n => rfl) hq hx ?_
    show zT E (d + 1) m_m_image 76 [some (.ref a0), some (.int a1)] [] h8 r
    subst hw
    exact zT_ret 1 rfl
  · rw [if_neg hc] at hw
    refine zT_st (pc' := 34) (L' := [some (.ref a0), some (.int a1)]) (st' := []) (h' := h) 1 (fun n => if_neg hc) ?_
    refine zT_st (pc' := 35) (L' := [some (.ref a0), some (.int a1)]) (st' := [.ref a0]) (h' := h) 1 (fun n => rfl) ?_
    obtain ⟨o9, e, hw⟩ := hw
    refine zT_st (pc' := 38) (L' := [some (.ref a0), some (.int a1)]) (st' := [.ref o9]) (h' := h) 1 (fun n => fld_eq (E := E) e _) ?_
    refine zT_st (pc' := 40) (L' := [some (.ref a0), some (.int a1)]) (st' := [.ref a0, .int a1, .ref o9]) (h' := h) 2 (fun n => rfl) ?_
    obtain ⟨o10, e, hw⟩ := hw
    refine zT_st (pc' := 43) (L' := [some (.ref a0), some (.int a1)]) (st' := [.ref o10, .int a1, .ref o9]) (h' := h) 1 (fun n => fld_eq (E := E) e _) ?_
    refine zT_st (pc' := 44) (L' := [some (.ref a0), some (.int a1)]) (st' := [.int a1, .ref o10, .int a1, .ref o9]) (h' := h) 1 (fun n => rfl) ?_
    obtain ⟨n11, f12, e, hi, hw⟩ := hw
    refine zT_st (pc' := 45) (L' := [some (.ref a0), some (.int a1)]) (st' := [.int (f12 (a1).toNatClampNeg), .int a1, .ref o9]) (h' := h) 1 (fun n => arr_eq (E := E) e hi [.int a1, .ref o9] (fun st => zrun zP zCd E n (d + 1) m_m_image 45 [some (.ref a0), some (.int a1)] st h)) ?_
    obtain ⟨n13, f14, e, hi, hw⟩ := hw
    refine zT_st (pc' := 46) (L' := [some (.ref a0), some (.int a1)]) (st' := []) (h' := (setA h o9 n13 (upd f14 (a1).toNatClampNeg (f12 (a1).toNatClampNeg)))) 1 (fun n => set_eq e hi _ _) ?_
    exact zT_st 2 (fun n => rfl) hw
