set_option maxRecDepth 4000 in
theorem w_m_feed {E : zX} {d : Nat} {S : St} {a1 : Int32} {a2 : Int32} {a3 : Int32} {a4 : Int32} {a5 : Int32} {Q : Int32 → St → Prop} (hd : 1 ≤ d) 
    (hw : ∀ S1, S1 = up S 65 0 0 →
    if ((S1 65 11) + (20 : Int32)) ≤ 700 then (
      k_m_lays E (d - 1) S1 a1 (fun S3 =>
      k_m_lays E (d - 1) S3 a2 (fun S5 =>
      k_m_lays E (d - 1) S5 a3 (fun S7 =>
      k_m_lays E (d - 1) S7 a4 (fun S9 =>
      k_m_lays E (d - 1) S9 a5 (fun S11 =>
      Q (S11 65 11) S11))))))
    else (
      Q ((-1) : Int32) S1)) :
    k_m_feed E d S a1 a2 a3 a4 a5 Q := by
  obtain ⟨d, rfl⟩ := Nat.exists_eq_add_of_le' hd
  show wp E (d + 1) m_m_feed 0 [some (.ref 65), some (.int a1), some (.int a2), some (.int a3), some (.int a4), some (.int a5)] [] (Hp S) (QI Q)
  refine wp_st (pc' := 2) (L' := [some (.ref 65), some (.int a1), some (.int a2), some (.int a3), some (.int a4), some (.int a5)]) (st' := [.int 0, .ref 65]) (h' := Hp S) 2 (fun Z => rfl) ?_
  have hw := hw _ rfl
  refine wp_st (pc' := 5) (L' := [some (.ref 65), some (.int a1), some (.int a2), some (.int a3), some (.int a4), some (.int a5)]) (st' := []) (h' := Hp (up S 65 0 0)) 1 (fun Z => pfI sh65 rfl (Nat.le_of_ble_eq_true rfl) rfl _) ?_
  generalize up S 65 0 0 = S1 at hw ⊢
  refine wp_st (pc' := 6) (L' := [some (.ref 65), some (.int a1), some (.int a2), some (.int a3), some (.int a4), some (.int a5)]) (st' := [.ref 65]) (h' := Hp S1) 1 (fun Z => rfl) ?_
  refine wp_st (pc' := 9) (L' := [some (.ref 65), some (.int a1), some (.int a2), some (.int a3), some (.int a4), some (.int a5)]) (st' := [.int (S1 65 11)]) (h' := Hp S1) 1 (fun Z => gfI (E := E) sh65 rfl _) ?_
  refine wp_st (pc' := 15) (L' := [some (.ref 65), some (.int a1), some (.int a2), some (.int a3), some (.int a4), some (.int a5)]) (st' := [.int 700, .int ((S1 65 11) + (20 : Int32))]) (h' := Hp S1) 3 (fun Z => rfl) ?_
  by_cases hc : ((S1 65 11) + (20 : Int32)) ≤ 700
  · rw [if_pos hc] at hw
    refine wp_st (pc' := 20) (L' := [some (.ref 65), some (.int a1), some (.int a2), some (.int a3), some (.int a4), some (.int a5)]) (st' := []) (h' := Hp S1) 1 (fun Z => if_pos hc) ?_
    refine wp_st (pc' := 22) (L' := [some (.ref 65), some (.int a1), some (.int a2), some (.int a3), some (.int a4), some (.int a5)]) (st' := [.int a1, .ref 65]) (h' := Hp S1) 2 (fun Z => rfl) ?_
    refine wp_call (pc' := 25) (rest := []) (fun Z => rfl) (isO_of sh65) hw ?_
    rintro o h1 ⟨S3, rfl, rfl, hw⟩
    refine ⟨_, rfl, ?_⟩
    show wp E (d + 1) m_m_feed 25 [some (.ref 65), some (.int a1), some (.int a2), some (.int a3), some (.int a4), some (.int a5)] [] (Hp S3) (QI Q)
    refine wp_st (pc' := 27) (L' := [some (.ref 65), some (.int a1), some (.int a2), some (.int a3), some (.int a4), some (.int a5)]) (st' := [.int a2, .ref 65]) (h' := Hp S3) 2 (fun Z => rfl) ?_
    refine wp_call (pc' := 30) (rest := []) (fun Z => rfl) (isO_of sh65) hw ?_
    rintro o h1 ⟨S5, rfl, rfl, hw⟩
    refine ⟨_, rfl, ?_⟩
    show wp E (d + 1) m_m_feed 30 [some (.ref 65), some (.int a1), some (.int a2), some (.int a3), some (.int a4), some (.int a5)] [] (Hp S5) (QI Q)
    refine wp_st (pc' := 32) (L' := [some (.ref 65), some (.int a1), some (.int a2), some (.int a3), some (.int a4), some (.int a5)]) (st' := [.int a3, .ref 65]) (h' := Hp S5) 2 (fun Z => rfl) ?_
    refine wp_call (pc' := 35) (rest := []) (fun Z => rfl) (isO_of sh65) hw ?_
    rintro o h1 ⟨S7, rfl, rfl, hw⟩
    refine ⟨_, rfl, ?_⟩
    show wp E (d + 1) m_m_feed 35 [some (.ref 65), some (.int a1), some (.int a2), some (.int a3), some (.int a4), some (.int a5)] [] (Hp S7) (QI Q)
    refine wp_st (pc' := 38) (L' := [some (.ref 65), some (.int a1), some (.int a2), some (.int a3), some (.int a4), some (.int a5)]) (st' := [.int a4, .ref 65]) (h' := Hp S7) 2 (fun Z => rfl) ?_
    refine wp_call (pc' := 41) (rest := []) (fun Z => rfl) (isO_of sh65) hw ?_
    rintro o h1 ⟨S9, rfl, rfl, hw⟩
    refine ⟨_, rfl, ?_⟩
    show wp E (d + 1) m_m_feed 41 [some (.ref 65), some (.int a1), some (.int a2), some (.int a3), some (.int a4), some (.int a5)] [] (Hp S9) (QI Q)
    refine wp_st (pc' := 44) (L' := [some (.ref 65), some (.int a1), some (.int a2), some (.int a3), some (.int a4), some (.int a5)]) (st' := [.int a5, .ref 65]) (h' := Hp S9) 2 (fun Z => rfl) ?_
    refine wp_call (pc' := 47) (rest := []) (fun Z => rfl) (isO_of sh65) hw ?_
    rintro o h1 ⟨S11, rfl, rfl, hw⟩
    refine ⟨_, rfl, ?_⟩
    show wp E (d + 1) m_m_feed 47 [some (.ref 65), some (.int a1), some (.int a2), some (.int a3), some (.int a4), some (.int a5)] [] (Hp S11) (QI Q)
    refine wp_st (pc' := 48) (L' := [some (.ref 65), some (.int a1), some (.int a2), some (.int a3), some (.int a4), some (.int a5)]) (st' := [.ref 65]) (h' := Hp S11) 1 (fun Z => rfl) ?_
    refine wp_st (pc' := 51) (L' := [some (.ref 65), some (.int a1), some (.int a2), some (.int a3), some (.int a4), some (.int a5)]) (st' := [.int (S11 65 11)]) (h' := Hp S11) 1 (fun Z => gfI (E := E) sh65 rfl _) ?_
    exact wp_ret (fun Z => rfl) ⟨_, _, rfl, rfl, hw⟩
  · rw [if_neg hc] at hw
    refine wp_st (pc' := 18) (L' := [some (.ref 65), some (.int a1), some (.int a2), some (.int a3), some (.int a4), some (.int a5)]) (st' := []) (h' := Hp S1) 1 (fun Z => if_neg hc) ?_
    refine wp_st (pc' := 19) (L' := [some (.ref 65), some (.int a1), some (.int a2), some (.int a3), some (.int a4), some (.int a5)]) (st' := [.int (-1)]) (h' := Hp S1) 1 (fun Z => congrArg (fun v => Z (d + 1) m_m_feed 19 [some (.ref 65), some (.int a1), some (.int a2), some (.int a3), some (.int a4), some (.int a5)] [.int v] (Hp S1)) (show Int32.ofInt (-1) = (-1) by decide)) ?_
    exact wp_ret (fun Z => rfl) ⟨_, _, rfl, rfl, hw⟩
set_option maxRecDepth 4000 in
theorem w_m_county {E : zX} {d : Nat} {S : St} {a1 : Int32} {Q : Int32 → St → Prop} (hd : 1 ≤ d) 
    (hw : ∀ S1, S1 = up S 65 0 0 →
    if a1 < 0 then (
      k_m_county_23 E d S1 a1 0 Q)
    else (
      if (S1 65 11) < a1 then (
        k_m_county_23 E d S1 a1 0 Q)
      else (
        k_m_county_23 E d S1 a1 1 Q))) :
    k_m_county E d S a1 Q := by
  obtain ⟨d, rfl⟩ := Nat.exists_eq_add_of_le' hd
  show wp E (d + 1) m_m_county 0 [some (.ref 65), some (.int a1), none] [] (Hp S) (QI Q)
  refine wp_st (pc' := 2) (L' := [some (.ref 65), some (.int a1), none]) (st' := [.int 0, .ref 65]) (h' := Hp S) 2 (fun Z => rfl) ?_
  have hw := hw _ rfl
  refine wp_st (pc' := 5) (L' := [some (.ref 65), some (.int a1), none]) (st' := []) (h' := Hp (up S 65 0 0)) 1 (fun Z => pfI sh65 rfl (Nat.le_of_ble_eq_true rfl) rfl _) ?_
  generalize up S 65 0 0 = S1 at hw ⊢
  refine wp_st (pc' := 7) (L' := [some (.ref 65), some (.int a1), none]) (st' := [.int a1, .ref 65]) (h' := Hp S1) 2 (fun Z => rfl) ?_
  by_cases hc : a1 < 0
  · rw [if_pos hc] at hw
    refine wp_st (pc' := 22) (L' := [some (.ref 65), some (.int a1), none]) (st' := [.ref 65]) (h' := Hp S1) 1 (fun Z => if_pos hc) ?_
    exact wp_st 1 (fun Z => rfl) (show wp E (d + 1) m_m_county 23 [some (.ref 65), some (.int a1), none] [.int 0, .ref 65] (Hp S1) (QI Q) from (hw none))
  · rw [if_neg hc] at hw
    refine wp_st (pc' := 10) (L' := [some (.ref 65), some (.int a1), none]) (st' := [.ref 65]) (h' := Hp S1) 1 (fun Z => if_neg hc) ?_
    refine wp_st (pc' := 12) (L' := [some (.ref 65), some (.int a1), none]) (st' := [.ref 65, .int a1, .ref 65]) (h' := Hp S1) 2 (fun Z => rfl) ?_
    refine wp_st (pc' := 15) (L' := [some (.ref 65), some (.int a1), none]) (st' := [.int (S1 65 11), .int a1, .ref 65]) (h' := Hp S1) 1 (fun Z => gfI (E := E) sh65 rfl _) ?_
    by_cases hc : (S1 65 11) < a1
    · rw [if_pos hc] at hw
      refine wp_st (pc' := 22) (L' := [some (.ref 65), some (.int a1), none]) (st' := [.ref 65]) (h' := Hp S1) 1 (fun Z => if_pos hc) ?_
      exact wp_st 1 (fun Z => rfl) (show wp E (d + 1) m_m_county 23 [some (.ref 65), some (.int a1), none] [.int 0, .ref 65] (Hp S1) (QI Q) from (hw none))
    · rw [if_neg hc] at hw
      refine wp_st (pc' := 18) (L' := [some (.ref 65), some (.int a1), none]) (st' := [.ref 65]) (h' := Hp S1) 1 (fun Z => if_neg hc) ?_
      exact wp_st 2 (fun Z => rfl) (show wp E (d + 1) m_m_county 23 [some (.ref 65), some (.int a1), none] [.int 1, .ref 65] (Hp S1) (QI Q) from (hw none))
set_option maxRecDepth 4000 in
theorem w_m_county_23 {E : zX} {d : Nat} {S : St} {a1 : Int32} {s1 : Int32} {Q : Int32 → St → Prop} (hd : 1 ≤ d) 
    (hw : k_m_right E (d - 1) S s1 1 (fun x1 S2 =>
    if x1 = 0 then (
      Q (0 : Int32) S2)
    else (
      ∀ S3, S3 = up S2 65 11 0 →
      ∀ S4, S4 = up S3 65 13 (-1) →
      ∀ S5, S5 = up S4 65 12 0 →
      ∀ S6, S6 = up S5 65 15 a1 →
      ∀ S7, S7 = up S6 65 16 0 →
      ∀ S8, S8 = up S7 65 23 4 →
      ∀ S9, S9 = up S8 65 24 4 →
      ∀ S10, S10 = up S9 65 25 0 →
      ∀ S11, S11 = up S10 65 26 0 →
      ∀ S12, S12 = up S11 65 27 (-1) →
      ∀ S13, S13 = up S12 65 28 (-1) →
      k_m_county_89 E d S13 0 Q))) :
    k_m_county_23 E d S a1 s1 Q := by
  obtain ⟨d, rfl⟩ := Nat.exists_eq_add_of_le' hd
  intro j2
  show wp E (d + 1) m_m_county 23 [some (.ref 65), some (.int a1), j2] [.int s1, .ref 65] (Hp S) (QI Q)
  refine wp_st (pc' := 24) (L' := [some (.ref 65), some (.int a1), j2]) (st' := [.int 1, .int s1, .ref 65]) (h' := Hp S) 1 (fun Z => rfl) ?_
  refine wp_call (pc' := 27) (rest := []) (fun Z => rfl) (isO_of sh65) hw ?_
  rintro o h1 ⟨x1, S2, rfl, rfl, hw⟩
  refine ⟨_, rfl, ?_⟩
  show wp E (d + 1) m_m_county 27 [some (.ref 65), some (.int a1), j2] [.int x1] (Hp S2) (QI Q)
  by_cases hc : x1 = 0
  · rw [if_pos hc] at hw
    refine wp_st (pc' := 30) (L' := [some (.ref 65), some (.int a1), j2]) (st' := []) (h' := Hp S2) 1 (fun Z => if_pos hc) ?_
    refine wp_st (pc' := 31) (L' := [some (.ref 65), some (.int a1), j2]) (st' := [.int 0]) (h' := Hp S2) 1 (fun Z => rfl) ?_
    exact wp_ret (fun Z => rfl) ⟨_, _, rfl, rfl, hw⟩
  · rw [if_neg hc] at hw
    refine wp_st (pc' := 32) (L' := [some (.ref 65), some (.int a1), j2]) (st' := []) (h' := Hp S2) 1 (fun Z => if_neg hc) ?_
    refine wp_st (pc' := 34) (L' := [some (.ref 65), some (.int a1), j2]) (st' := [.int 0, .ref 65]) (h' := Hp S2) 2 (fun Z => rfl) ?_
    have hw := hw _ rfl
    refine wp_st (pc' := 37) (L' := [some (.ref 65), some (.int a1), j2]) (st' := []) (h' := Hp (up S2 65 11 0)) 1 (fun Z => pfI sh65 rfl (Nat.le_of_ble_eq_true rfl) rfl _) ?_
    generalize up S2 65 11 0 = S3 at hw ⊢
    refine wp_st (pc' := 38) (L' := [some (.ref 65), some (.int a1), j2]) (st' := [.ref 65]) (h' := Hp S3) 1 (fun Z => rfl) ?_
    refine wp_st (pc' := 39) (L' := [some (.ref 65), some (.int a1), j2]) (st' := [.int (-1), .ref 65]) (h' := Hp S3) 1 (fun Z => congrArg (fun v => Z (d + 1) m_m_county 39 [some (.ref 65), some (.int a1), j2] [.int v, .ref 65] (Hp S3)) (show Int32.ofInt (-1) = (-1) by decide)) ?_
    have hw := hw _ rfl
    refine wp_st (pc' := 42) (L' := [some (.ref 65), some (.int a1), j2]) (st' := []) (h' := Hp (up S3 65 13 (-1))) 1 (fun Z => pfI sh65 rfl (Nat.le_of_ble_eq_true rfl) rfl _) ?_
    generalize up S3 65 13 (-1) = S4 at hw ⊢
    refine wp_st (pc' := 44) (L' := [some (.ref 65), some (.int a1), j2]) (st' := [.int 0, .ref 65]) (h' := Hp S4) 2 (fun Z => rfl) ?_
    have hw := hw _ rfl
    refine wp_st (pc' := 47) (L' := [some (.ref 65), some (.int a1), j2]) (st' := []) (h' := Hp (up S4 65 12 0)) 1 (fun Z => pfI sh65 rfl (Nat.le_of_ble_eq_true rfl) rfl _) ?_
    generalize up S4 65 12 0 = S5 at hw ⊢
    refine wp_st (pc' := 49) (L' := [some (.ref 65), some (.int a1), j2]) (st' := [.int a1, .ref 65]) (h' := Hp S5) 2 (fun Z => rfl) ?_
    have hw := hw _ rfl
    refine wp_st (pc' := 52) (L' := [some (.ref 65), some (.int a1), j2]) (st' := []) (h' := Hp (up S5 65 15 a1)) 1 (fun Z => pfI sh65 rfl (Nat.le_of_ble_eq_true rfl) rfl _) ?_
    generalize up S5 65 15 a1 = S6 at hw ⊢
    refine wp_st (pc' := 54) (L' := [some (.ref 65), some (.int a1), j2]) (st' := [.int 0, .ref 65]) (h' := Hp S6) 2 (fun Z => rfl) ?_
    have hw := hw _ rfl
    refine wp_st (pc' := 57) (L' := [some (.ref 65), some (.int a1), j2]) (st' := []) (h' := Hp (up S6 65 16 0)) 1 (fun Z => pfI sh65 rfl (Nat.le_of_ble_eq_true rfl) rfl _) ?_
    generalize up S6 65 16 0 = S7 at hw ⊢
    refine wp_st (pc' := 59) (L' := [some (.ref 65), some (.int a1), j2]) (st' := [.int 4, .ref 65]) (h' := Hp S7) 2 (fun Z => rfl) ?_
    have hw := hw _ rfl
    refine wp_st (pc' := 62) (L' := [some (.ref 65), some (.int a1), j2]) (st' := []) (h' := Hp (up S7 65 23 4)) 1 (fun Z => pfI sh65 rfl (Nat.le_of_ble_eq_true rfl) rfl _) ?_
    generalize up S7 65 23 4 = S8 at hw ⊢
    refine wp_st (pc' := 64) (L' := [some (.ref 65), some (.int a1), j2]) (st' := [.int 4, .ref 65]) (h' := Hp S8) 2 (fun Z => rfl) ?_
    have hw := hw _ rfl
    refine wp_st (pc' := 67) (L' := [some (.ref 65), some (.int a1), j2]) (st' := []) (h' := Hp (up S8 65 24 4)) 1 (fun Z => pfI sh65 rfl (Nat.le_of_ble_eq_true rfl) rfl _) ?_
    generalize up S8 65 24 4 = S9 at hw ⊢
    refine wp_st (pc' := 69) (L' := [some (.ref 65), some (.int a1), j2]) (st' := [.int 0, .ref 65]) (h' := Hp S9) 2 (fun Z => rfl) ?_
    have hw := hw _ rfl
    refine wp_st (pc' := 72) (L' := [some (.ref 65), some (.int a1), j2]) (st' := []) (h' := Hp (up S9 65 25 0)) 1 (fun Z => pfI sh65 rfl (Nat.le_of_ble_eq_true rfl) rfl _) ?_
    generalize up S9 65 25 0 = S10 at hw ⊢
    refine wp_st (pc' := 74) (L' := [some (.ref 65), some (.int a1), j2]) (st' := [.int 0, .ref 65]) (h' := Hp S10) 2 (fun Z => rfl) ?_
    have hw := hw _ rfl
    refine wp_st (pc' := 77) (L' := [some (.ref 65), some (.int a1), j2]) (st' := []) (h' := Hp (up S10 65 26 0)) 1 (fun Z => pfI sh65 rfl (Nat.le_of_ble_eq_true rfl) rfl _) ?_
    generalize up S10 65 26 0 = S11 at hw ⊢
    refine wp_st (pc' := 78) (L' := [some (.ref 65), some (.int a1), j2]) (st' := [.ref 65]) (h' := Hp S11) 1 (fun Z => rfl) ?_
    refine wp_st (pc' := 79) (L' := [some (.ref 65), some (.int a1), j2]) (st' := [.int (-1), .ref 65]) (h' := Hp S11) 1 (fun Z => congrArg (fun v => Z (d + 1) m_m_county 79 [some (.ref 65), some (.int a1), j2] [.int v, .ref 65] (Hp S11)) (show Int32.ofInt (-1) = (-1) by decide)) ?_
    have hw := hw _ rfl
    refine wp_st (pc' := 82) (L' := [some (.ref 65), some (.int a1), j2]) (st' := []) (h' := Hp (up S11 65 27 (-1))) 1 (fun Z => pfI sh65 rfl (Nat.le_of_ble_eq_true rfl) rfl _) ?_
    generalize up S11 65 27 (-1) = S12 at hw ⊢
    refine wp_st (pc' := 83) (L' := [some (.ref 65), some (.int a1), j2]) (st' := [.ref 65]) (h' := Hp S12) 1 (fun Z => rfl) ?_
    refine wp_st (pc' := 84) (L' := [some (.ref 65), some (.int a1), j2]) (st' := [.int (-1), .ref 65]) (h' := Hp S12) 1 (fun Z => congrArg (fun v => Z (d + 1) m_m_county 84 [some (.ref 65), some (.int a1), j2] [.int v, .ref 65] (Hp S12)) (show Int32.ofInt (-1) = (-1) by decide)) ?_
    have hw := hw _ rfl
    refine wp_st (pc' := 87) (L' := [some (.ref 65), some (.int a1), j2]) (st' := []) (h' := Hp (up S12 65 28 (-1))) 1 (fun Z => pfI sh65 rfl (Nat.le_of_ble_eq_true rfl) rfl _) ?_
    generalize up S12 65 28 (-1) = S13 at hw ⊢
    exact wp_st 2 (fun Z => rfl) (show wp E (d + 1) m_m_county 89 [some (.ref 65), some (.int a1), some (.int 0)] [] (Hp S13) (QI Q) from (hw (some (.int a1))))
set_option maxRecDepth 4000 in
theorem w_m_county_89 {E : zX} {d : Nat} {S : St} {a2 : Nat} {Q : Int32 → St → Prop} (hd : 1 ≤ d) 
    (hw : if nI 79 ≤ (nI a2) then (
      ∀ S1, S1 = up S 65 29 0 →
      k_m_goes E (d - 1) S1 (fun S3 =>
      k_m_knownWord E (d - 1) S3 (fun x4 S5 =>
      if x4 = 9 then (
        k_m_goes E (d - 1) S5 (fun S7 =>
        k_m_number E (d - 1) S7 1 6 (fun x8 S9 =>
        ∀ S10, S10 = up S9 65 23 x8 →
        k_m_number E (d - 1) S10 1 6 (fun x11 S12 =>
        ∀ S13, S13 = up S12 65 24 x11 →
        k_m_isSign E (d - 1) S13 59 (fun x14 S15 =>
        k_m_need E (d - 1) S15 x14 (fun S17 =>
        k_m_county_162 E d S17 Q))))))
      else (
        k_m_county_162 E d S5 Q))))
    else (
      a2 < 79 ∧
      ∀ S18, S18 = up S 73 a2 0 →
      k_m_county_89 E d S18 (a2 + 1) Q)) :
    k_m_county_89 E d S a2 Q := by
  obtain ⟨d, rfl⟩ := Nat.exists_eq_add_of_le' hd
  intro j1
  show wp E (d + 1) m_m_county 89 [some (.ref 65), j1, some (.int (nI a2))] [] (Hp S) (QI Q)
  refine wp_st (pc' := 92) (L' := [some (.ref 65), j1, some (.int (nI a2))]) (st' := [.int 79, .int (nI a2)]) (h' := Hp S) 2 (fun Z => rfl) ?_
  by_cases hc : nI 79 ≤ (nI a2)
  · rw [if_pos hc] at hw
    refine wp_st (pc' := 108) (L' := [some (.ref 65), j1, some (.int (nI a2))]) (st' := []) (h' := Hp S) 1 (fun Z => if_pos hc) ?_
    refine wp_st (pc' := 110) (L' := [some (.ref 65), j1, some (.int (nI a2))]) (st' := [.int 0, .ref 65]) (h' := Hp S) 2 (fun Z => rfl) ?_
    have hw := hw _ rfl
    refine wp_st (pc' := 113) (L' := [some (.ref 65), j1, some (.int (nI a2))]) (st' := []) (h' := Hp (up S 65 29 0)) 1 (fun Z => pfI sh65 rfl (Nat.le_of_ble_eq_true rfl) rfl _) ?_
    generalize up S 65 29 0 = S1 at hw ⊢
    refine wp_st (pc' := 114) (L' := [some (.ref 65), j1, some (.int (nI a2))]) (st' := [.ref 65]) (h' := Hp S1) 1 (fun Z => rfl) ?_
    refine wp_call (pc' := 117) (rest := []) (fun Z => rfl) (isO_of sh65) hw ?_
    rintro o h1 ⟨S3, rfl, rfl, hw⟩
    refine ⟨_, rfl, ?_⟩
    show wp E (d + 1) m_m_county 117 [some (.ref 65), j1, some (.int (nI a2))] [] (Hp S3) (QI Q)
    refine wp_st (pc' := 118) (L' := [some (.ref 65), j1, some (.int (nI a2))]) (st' := [.ref 65]) (h' := Hp S3) 1 (fun Z => rfl) ?_
    refine wp_call (pc' := 121) (rest := []) (fun Z => rfl) (isO_of sh65) hw ?_
    rintro o h1 ⟨x4, S5, rfl, rfl, hw⟩
    refine ⟨_, rfl, ?_⟩
    show wp E (d + 1) m_m_county 121 [some (.ref 65), j1, some (.int (nI a2))] [.int x4] (Hp S5) (QI Q)
    refine wp_st (pc' := 123) (L' := [some (.ref 65), j1, some (.int (nI a2))]) (st' := [.int 9, .int x4]) (h' := Hp S5) 1 (fun Z => rfl) ?_
    by_cases hc : x4 = 9
    · rw [if_pos hc] at hw
      refine wp_st (pc' := 126) (L' := [some (.ref 65), j1, some (.int (nI a2))]) (st' := []) (h' := Hp S5) 1 (fun Z => if_pos hc) ?_
      refine wp_st (pc' := 127) (L' := [some (.ref 65), j1, some (.int (nI a2))]) (st' := [.ref 65]) (h' := Hp S5) 1 (fun Z => rfl) ?_
      refine wp_call (pc' := 130) (rest := []) (fun Z => rfl) (isO_of sh65) hw ?_
      rintro o h1 ⟨S7, rfl, rfl, hw⟩
      refine ⟨_, rfl, ?_⟩
      show wp E (d + 1) m_m_county 130 [some (.ref 65), j1, some (.int (nI a2))] [] (Hp S7) (QI Q)
      refine wp_st (pc' := 135) (L' := [some (.ref 65), j1, some (.int (nI a2))]) (st' := [.int 6, .int 1, .ref 65, .ref 65]) (h' := Hp S7) 4 (fun Z => rfl) ?_
      refine wp_call (pc' := 138) (rest := [.ref 65]) (fun Z => rfl) (isO_of sh65) hw ?_
      rintro o h1 ⟨x8, S9, rfl, rfl, hw⟩
      refine ⟨_, rfl, ?_⟩
      show wp E (d + 1) m_m_county 138 [some (.ref 65), j1, some (.int (nI a2))] [.int x8, .ref 65] (Hp S9) (QI Q)
      have hw := hw _ rfl
      refine wp_st (pc' := 141) (L' := [some (.ref 65), j1, some (.int (nI a2))]) (st' := []) (h' := Hp (up S9 65 23 x8)) 1 (fun Z => pfI sh65 rfl (Nat.le_of_ble_eq_true rfl) rfl _) ?_
      generalize up S9 65 23 x8 = S10 at hw ⊢
      refine wp_st (pc' := 146) (L' := [some (.ref 65), j1, some (.int (nI a2))]) (st' := [.int 6, .int 1, .ref 65, .ref 65]) (h' := Hp S10) 4 (fun Z => rfl) ?_
      refine wp_call (pc' := 149) (rest := [.ref 65]) (fun Z => rfl) (isO_of sh65) hw ?_
      rintro o h1 ⟨x11, S12, rfl, rfl, hw⟩
      refine ⟨_, rfl, ?_⟩
      show wp E (d + 1) m_m_county 149 [some (.ref 65), j1, some (.int (nI a2))] [.int x11, .ref 65] (Hp S12) (QI Q)
      have hw := hw _ rfl
      refine wp_st (pc' := 152) (L' := [some (.ref 65), j1, some (.int (nI a2))]) (st' := []) (h' := Hp (up S12 65 24 x11)) 1 (fun Z => pfI sh65 rfl (Nat.le_of_ble_eq_true rfl) rfl _) ?_
      generalize up S12 65 24 x11 = S13 at hw ⊢
      refine wp_st (pc' := 156) (L' := [some (.ref 65), j1, some (.int (nI a2))]) (st' := [.int 59, .ref 65, .ref 65]) (h' := Hp S13) 3 (fun Z => rfl) ?_
      refine wp_call (pc' := 159) (rest := [.ref 65]) (fun Z => rfl) (isO_of sh65) hw ?_
      rintro o h1 ⟨x14, S15, rfl, rfl, hw⟩
      refine ⟨_, rfl, ?_⟩
      show wp E (d + 1) m_m_county 159 [some (.ref 65), j1, some (.int (nI a2))] [.int x14, .ref 65] (Hp S15) (QI Q)
      refine wp_call (pc' := 162) (rest := []) (fun Z => rfl) (isO_of sh65) hw ?_
      rintro o h1 ⟨S17, rfl, rfl, hw⟩
      refine ⟨_, rfl, ?_⟩
      show wp E (d + 1) m_m_county 162 [some (.ref 65), j1, some (.int (nI a2))] [] (Hp S17) (QI Q)
      exact (show wp E (d + 1) m_m_county 162 [some (.ref 65), j1, some (.int (nI a2))] [] (Hp S17) (QI Q) from (hw j1 (some (.int (nI a2)))))
    · rw [if_neg hc] at hw
      refine wp_st (pc' := 162) (L' := [some (.ref 65), j1, some (.int (nI a2))]) (st' := []) (h' := Hp S5) 1 (fun Z => if_neg hc) ?_
      exact (show wp E (d + 1) m_m_county 162 [some (.ref 65), j1, some (.int (nI a2))] [] (Hp S5) (QI Q) from (hw j1 (some (.int (nI a2)))))
  · rw [if_neg hc] at hw
    refine wp_st (pc' := 95) (L' := [some (.ref 65), j1, some (.int (nI a2))]) (st' := []) (h' := Hp S) 1 (fun Z => if_neg hc) ?_
    refine wp_st (pc' := 96) (L' := [some (.ref 65), j1, some (.int (nI a2))]) (st' := [.ref 65]) (h' := Hp S) 1 (fun Z => rfl) ?_
    refine wp_st (pc' := 99) (L' := [some (.ref 65), j1, some (.int (nI a2))]) (st' := [.ref 73]) (h' := Hp S) 1 (fun Z => gfR (E := E) sh65 rfl _) ?_
    refine wp_st (pc' := 101) (L' := [some (.ref 65), j1, some (.int (nI a2))]) (st' := [.int 0, .int (nI a2), .ref 73]) (h' := Hp S) 2 (fun Z => rfl) ?_
    obtain ⟨hi, hw⟩ := hw
    have hw := hw _ rfl
    refine wp_st (pc' := 102) (L' := [some (.ref 65), j1, some (.int (nI a2))]) (st' := []) (h' := Hp (up S 73 a2 0)) 1 (fun Z => stN sh73 (by decide) hi _ _) ?_
    generalize up S 73 a2 0 = S18 at hw ⊢
    refine wp_st (pc' := 105) (L' := [some (.ref 65), j1, some (.int (nI (a2 + 1)))]) (st' := []) (h' := Hp S18) 1 (fun Z => by rw [← nI_add a2 1]; rfl) ?_
    exact wp_st 1 (fun Z => rfl) (show wp E (d + 1) m_m_county 89 [some (.ref 65), j1, some (.int (nI (a2 + 1)))] [] (Hp S18) (QI Q) from (hw j1))
set_option maxRecDepth 4000 in
theorem w_m_county_162 {E : zX} {d : Nat} {S : St}  {Q : Int32 → St → Prop} (hd : 1 ≤ d) 
    (hw : k_m_isGood E (d - 1) S (fun x1 S2 =>
    if x1 = 0 then (
      k_m_county_183 E d S2 Q)
    else (
      if (S2 65 17) = 0 then (
        k_m_county_183 E d S2 Q)
      else (
        k_m_line E (d - 1) S2 (fun S4 =>
        k_m_county_162 E d S4 Q))))) :
    k_m_county_162 E d S Q := by
  obtain ⟨d, rfl⟩ := Nat.exists_eq_add_of_le' hd
  intro j1 j2
  show wp E (d + 1) m_m_county 162 [some (.ref 65), j1, j2] [] (Hp S) (QI Q)
  refine wp_st (pc' := 163) (L' := [some (.ref 65), j1, j2]) (st' := [.ref 65]) (h' := Hp S) 1 (fun Z => rfl) ?_
  refine wp_call (pc' := 166) (rest := []) (fun Z => rfl) (isO_of sh65) hw ?_
  rintro o h1 ⟨x1, S2, rfl, rfl, hw⟩
  refine ⟨_, rfl, ?_⟩
  show wp E (d + 1) m_m_county 166 [some (.ref 65), j1, j2] [.int x1] (Hp S2) (QI Q)
  by_cases hc : x1 = 0
  · rw [if_pos hc] at hw
    refine wp_st (pc' := 183) (L' := [some (.ref 65), j1, j2]) (st' := []) (h' := Hp S2) 1 (fun Z => if_pos hc) ?_
    exact (show wp E (d + 1) m_m_county 183 [some (.ref 65), j1, j2] [] (Hp S2) (QI Q) from (hw j1 j2))
  · rw [if_neg hc] at hw
    refine wp_st (pc' := 169) (L' := [some (.ref 65), j1, j2]) (st' := []) (h' := Hp S2) 1 (fun Z => if_neg hc) ?_
    refine wp_st (pc' := 170) (L' := [some (.ref 65), j1, j2]) (st' := [.ref 65]) (h' := Hp S2) 1 (fun Z => rfl) ?_
    refine wp_st (pc' := 173) (L' := [some (.ref 65), j1, j2]) (st' := [.int (S2 65 17)]) (h' := Hp S2) 1 (fun Z => gfI (E := E) sh65 rfl _) ?_
    by_cases hc : (S2 65 17) = 0
    · rw [if_pos hc] at hw
      refine wp_st (pc' := 183) (L' := [some (.ref 65), j1, j2]) (st' := []) (h' := Hp S2) 1 (fun Z => if_pos hc) ?_
      exact (show wp E (d + 1) m_m_county 183 [some (.ref 65), j1, j2] [] (Hp S2) (QI Q) from (hw j1 j2))
    · rw [if_neg hc] at hw
      refine wp_st (pc' := 176) (L' := [some (.ref 65), j1, j2]) (st' := []) (h' := Hp S2) 1 (fun Z => if_neg hc) ?_
      refine wp_st (pc' := 177) (L' := [some (.ref 65), j1, j2]) (st' := [.ref 65]) (h' := Hp S2) 1 (fun Z => rfl) ?_
      refine wp_call (pc' := 180) (rest := []) (fun Z => rfl) (isO_of sh65) hw ?_
      rintro o h1 ⟨S4, rfl, rfl, hw⟩
      refine ⟨_, rfl, ?_⟩
      show wp E (d + 1) m_m_county 180 [some (.ref 65), j1, j2] [] (Hp S4) (QI Q)
      exact wp_st 1 (fun Z => rfl) (show wp E (d + 1) m_m_county 162 [some (.ref 65), j1, j2] [] (Hp S4) (QI Q) from (hw j1 j2))
set_option maxRecDepth 4000 in
theorem w_m_county_183 {E : zX} {d : Nat} {S : St}  {Q : Int32 → St → Prop} (hd : 1 ≤ d) 
    (hw : k_m_isGood E (d - 1) S (fun x1 S2 =>
    if x1 = 0 then (
      ∀ S3, S3 = up S2 70 0 ((S2 70 0) + (1 : Int32)) →
      Q (S3 65 12) S3)
    else (
      ∀ S4, S4 = up S2 65 1 (S2 65 23) →
      ∀ S5, S5 = up S4 65 2 (S4 65 24) →
      ∀ S6, S6 = up S5 65 3 (S5 65 25) →
      ∀ S7, S7 = up S6 65 4 (S6 65 26) →
      ∀ S8, S8 = up S7 65 5 (S7 65 27) →
      ∀ S9, S9 = up S8 65 6 (S8 65 28) →
      k_m_copies E (d - 1) S9 71 66 (fun S11 =>
      k_m_copies E (d - 1) S11 72 67 (fun S13 =>
      k_m_copies E (d - 1) S13 74 68 (fun S15 =>
      k_m_county_291 E d S15 0 Q)))))) :
    k_m_county_183 E d S Q := by
  obtain ⟨d, rfl⟩ := Nat.exists_eq_add_of_le' hd
  intro j1 j2
  show wp E (d + 1) m_m_county 183 [some (.ref 65), j1, j2] [] (Hp S) (QI Q)
  refine wp_st (pc' := 184) (L' := [some (.ref 65), j1, j2]) (st' := [.ref 65]) (h' := Hp S) 1 (fun Z => rfl) ?_
  refine wp_call (pc' := 187) (rest := []) (fun Z => rfl) (isO_of sh65) hw ?_
  rintro o h1 ⟨x1, S2, rfl, rfl, hw⟩
  refine ⟨_, rfl, ?_⟩
  show wp E (d + 1) m_m_county 187 [some (.ref 65), j1, j2] [.int x1] (Hp S2) (QI Q)
  by_cases hc : x1 = 0
  · rw [if_pos hc] at hw
    refine wp_st (pc' := 190) (L' := [some (.ref 65), j1, j2]) (st' := []) (h' := Hp S2) 1 (fun Z => if_pos hc) ?_
    refine wp_st (pc' := 191) (L' := [some (.ref 65), j1, j2]) (st' := [.ref 65]) (h' := Hp S2) 1 (fun Z => rfl) ?_
    refine wp_st (pc' := 194) (L' := [some (.ref 65), j1, j2]) (st' := [.ref 70]) (h' := Hp S2) 1 (fun Z => gfR (E := E) sh65 rfl _) ?_
    refine wp_st (pc' := 196) (L' := [some (.ref 65), j1, j2]) (st' := [.int 0, .ref 70, .int 0, .ref 70]) (h' := Hp S2) 2 (fun Z => rfl) ?_
    refine wp_st (pc' := 197) (L' := [some (.ref 65), j1, j2]) (st' := [.int (S2 70 0), .int 0, .ref 70]) (h' := Hp S2) 1 (fun Z => ldN (E := E) sh70 (by decide) (by decide) [.int 0, .ref 70] (fun st => Z (d + 1) m_m_county 197 [some (.ref 65), j1, j2] st (Hp S2))) ?_
    refine wp_st (pc' := 199) (L' := [some (.ref 65), j1, j2]) (st' := [.int ((S2 70 0) + (1 : Int32)), .int 0, .ref 70]) (h' := Hp S2) 2 (fun Z => rfl) ?_
    have hw := hw _ rfl
    refine wp_st (pc' := 200) (L' := [some (.ref 65), j1, j2]) (st' := []) (h' := Hp (up S2 70 0 ((S2 70 0) + (1 : Int32)))) 1 (fun Z => stN sh70 (by decide) (by decide) _ _) ?_
    generalize up S2 70 0 ((S2 70 0) + (1 : Int32)) = S3 at hw ⊢
    refine wp_st (pc' := 201) (L' := [some (.ref 65), j1, j2]) (st' := [.ref 65]) (h' := Hp S3) 1 (fun Z => rfl) ?_
    refine wp_st (pc' := 204) (L' := [some (.ref 65), j1, j2]) (st' := [.int (S3 65 12)]) (h' := Hp S3) 1 (fun Z => gfI (E := E) sh65 rfl _) ?_
    exact wp_ret (fun Z => rfl) ⟨_, _, rfl, rfl, hw⟩
  · rw [if_neg hc] at hw
    refine wp_st (pc' := 205) (L' := [some (.ref 65), j1, j2]) (st' := []) (h' := Hp S2) 1 (fun Z => if_neg hc) ?_
    refine wp_st (pc' := 207) (L' := [some (.ref 65), j1, j2]) (st' := [.ref 65, .ref 65]) (h' := Hp S2) 2 (fun Z => rfl) ?_
    refine wp_st (pc' := 210) (L' := [some (.ref 65), j1, j2]) (st' := [.int (S2 65 23), .ref 65]) (h' := Hp S2) 1 (fun Z => gfI (E := E) sh65 rfl _) ?_
    have hw := hw _ rfl
    refine wp_st (pc' := 213) (L' := [some (.ref 65), j1, j2]) (st' := []) (h' := Hp (up S2 65 1 (S2 65 23))) 1 (fun Z => pfI sh65 rfl (Nat.le_of_ble_eq_true rfl) rfl _) ?_
    generalize up S2 65 1 (S2 65 23) = S4 at hw ⊢
    refine wp_st (pc' := 215) (L' := [some (.ref 65), j1, j2]) (st' := [.ref 65, .ref 65]) (h' := Hp S4) 2 (fun Z => rfl) ?_
    refine wp_st (pc' := 218) (L' := [some (.ref 65), j1, j2]) (st' := [.int (S4 65 24), .ref 65]) (h' := Hp S4) 1 (fun Z => gfI (E := E) sh65 rfl _) ?_
    have hw := hw _ rfl
    refine wp_st (pc' := 221) (L' := [some (.ref 65), j1, j2]) (st' := []) (h' := Hp (up S4 65 2 (S4 65 24))) 1 (fun Z => pfI sh65 rfl (Nat.le_of_ble_eq_true rfl) rfl _) ?_
    generalize up S4 65 2 (S4 65 24) = S5 at hw ⊢
    refine wp_st (pc' := 223) (L' := [some (.ref 65), j1, j2]) (st' := [.ref 65, .ref 65]) (h' := Hp S5) 2 (fun Z => rfl) ?_
    refine wp_st (pc' := 226) (L' := [some (.ref 65), j1, j2]) (st' := [.int (S5 65 25), .ref 65]) (h' := Hp S5) 1 (fun Z => gfI (E := E) sh65 rfl _) ?_
    have hw := hw _ rfl
    refine wp_st (pc' := 229) (L' := [some (.ref 65), j1, j2]) (st' := []) (h' := Hp (up S5 65 3 (S5 65 25))) 1 (fun Z => pfI sh65 rfl (Nat.le_of_ble_eq_true rfl) rfl _) ?_
    generalize up S5 65 3 (S5 65 25) = S6 at hw ⊢
    refine wp_st (pc' := 231) (L' := [some (.ref 65), j1, j2]) (st' := [.ref 65, .ref 65]) (h' := Hp S6) 2 (fun Z => rfl) ?_
    refine wp_st (pc' := 234) (L' := [some (.ref 65), j1, j2]) (st' := [.int (S6 65 26), .ref 65]) (h' := Hp S6) 1 (fun Z => gfI (E := E) sh65 rfl _) ?_
    have hw := hw _ rfl
    refine wp_st (pc' := 237) (L' := [some (.ref 65), j1, j2]) (st' := []) (h' := Hp (up S6 65 4 (S6 65 26))) 1 (fun Z => pfI sh65 rfl (Nat.le_of_ble_eq_true rfl) rfl _) ?_
    generalize up S6 65 4 (S6 65 26) = S7 at hw ⊢
    refine wp_st (pc' := 239) (L' := [some (.ref 65), j1, j2]) (st' := [.ref 65, .ref 65]) (h' := Hp S7) 2 (fun Z => rfl) ?_
    refine wp_st (pc' := 242) (L' := [some (.ref 65), j1, j2]) (st' := [.int (S7 65 27), .ref 65]) (h' := Hp S7) 1 (fun Z => gfI (E := E) sh65 rfl _) ?_
    have hw := hw _ rfl
    refine wp_st (pc' := 245) (L' := [some (.ref 65), j1, j2]) (st' := []) (h' := Hp (up S7 65 5 (S7 65 27))) 1 (fun Z => pfI sh65 rfl (Nat.le_of_ble_eq_true rfl) rfl _) ?_
    generalize up S7 65 5 (S7 65 27) = S8 at hw ⊢
    refine wp_st (pc' := 247) (L' := [some (.ref 65), j1, j2]) (st' := [.ref 65, .ref 65]) (h' := Hp S8) 2 (fun Z => rfl) ?_
    refine wp_st (pc' := 250) (L' := [some (.ref 65), j1, j2]) (st' := [.int (S8 65 28), .ref 65]) (h' := Hp S8) 1 (fun Z => gfI (E := E) sh65 rfl _) ?_
    have hw := hw _ rfl
    refine wp_st (pc' := 253) (L' := [some (.ref 65), j1, j2]) (st' := []) (h' := Hp (up S8 65 6 (S8 65 28))) 1 (fun Z => pfI sh65 rfl (Nat.le_of_ble_eq_true rfl) rfl _) ?_
    generalize up S8 65 6 (S8 65 28) = S9 at hw ⊢
    refine wp_st (pc' := 255) (L' := [some (.ref 65), j1, j2]) (st' := [.ref 65, .ref 65]) (h' := Hp S9) 2 (fun Z => rfl) ?_
    refine wp_st (pc' := 258) (L' := [some (.ref 65), j1, j2]) (st' := [.ref 71, .ref 65]) (h' := Hp S9) 1 (fun Z => gfR (E := E) sh65 rfl _) ?_
    refine wp_st (pc' := 259) (L' := [some (.ref 65), j1, j2]) (st' := [.ref 65, .ref 71, .ref 65]) (h' := Hp S9) 1 (fun Z => rfl) ?_
    refine wp_st (pc' := 262) (L' := [some (.ref 65), j1, j2]) (st' := [.ref 66, .ref 71, .ref 65]) (h' := Hp S9) 1 (fun Z => gfR (E := E) sh65 rfl _) ?_
    refine wp_call (pc' := 265) (rest := []) (fun Z => rfl) (isO_of sh65) hw ?_
    rintro o h1 ⟨S11, rfl, rfl, hw⟩
    refine ⟨_, rfl, ?_⟩
    show wp E (d + 1) m_m_county 265 [some (.ref 65), j1, j2] [] (Hp S11) (QI Q)
    refine wp_st (pc' := 267) (L' := [some (.ref 65), j1, j2]) (st' := [.ref 65, .ref 65]) (h' := Hp S11) 2 (fun Z => rfl) ?_
    refine wp_st (pc' := 270) (L' := [some (.ref 65), j1, j2]) (st' := [.ref 72, .ref 65]) (h' := Hp S11) 1 (fun Z => gfR (E := E) sh65 rfl _) ?_
    refine wp_st (pc' := 271) (L' := [some (.ref 65), j1, j2]) (st' := [.ref 65, .ref 72, .ref 65]) (h' := Hp S11) 1 (fun Z => rfl) ?_
    refine wp_st (pc' := 274) (L' := [some (.ref 65), j1, j2]) (st' := [.ref 67, .ref 72, .ref 65]) (h' := Hp S11) 1 (fun Z => gfR (E := E) sh65 rfl _) ?_
    refine wp_call (pc' := 277) (rest := []) (fun Z => rfl) (isO_of sh65) hw ?_
    rintro o h1 ⟨S13, rfl, rfl, hw⟩
    refine ⟨_, rfl, ?_⟩
    show wp E (d + 1) m_m_county 277 [some (.ref 65), j1, j2] [] (Hp S13) (QI Q)
    refine wp_st (pc' := 279) (L' := [some (.ref 65), j1, j2]) (st' := [.ref 65, .ref 65]) (h' := Hp S13) 2 (fun Z => rfl) ?_
    refine wp_st (pc' := 282) (L' := [some (.ref 65), j1, j2]) (st' := [.ref 74, .ref 65]) (h' := Hp S13) 1 (fun Z => gfR (E := E) sh65 rfl _) ?_
    refine wp_st (pc' := 283) (L' := [some (.ref 65), j1, j2]) (st' := [.ref 65, .ref 74, .ref 65]) (h' := Hp S13) 1 (fun Z => rfl) ?_
    refine wp_st (pc' := 286) (L' := [some (.ref 65), j1, j2]) (st' := [.ref 68, .ref 74, .ref 65]) (h' := Hp S13) 1 (fun Z => gfR (E := E) sh65 rfl _) ?_
    refine wp_call (pc' := 289) (rest := []) (fun Z => rfl) (isO_of sh65) hw ?_
    rintro o h1 ⟨S15, rfl, rfl, hw⟩
    refine ⟨_, rfl, ?_⟩
    show wp E (d + 1) m_m_county 289 [some (.ref 65), j1, j2] [] (Hp S15) (QI Q)
    exact wp_st 2 (fun Z => rfl) (show wp E (d + 1) m_m_county 291 [some (.ref 65), j1, some (.int 0)] [] (Hp S15) (QI Q) from (hw j1))
set_option maxRecDepth 4000 in
theorem w_m_county_291 {E : zX} {d : Nat} {S : St} {a2 : Nat} {Q : Int32 → St → Prop} (hd : 1 ≤ d) 
    (hw : if nI 79 ≤ (nI a2) then (
      ∀ S1, S1 = up S 65 42 0 →
      ∀ S2, S2 = up S1 65 53 0 →
      ∀ S3, S3 = up S2 65 58 0 →
      Q (0 : Int32) S3)
    else (
      a2 < 79 ∧
      a2 < 158 ∧
      ∀ S4, S4 = up S 77 a2 (S 73 a2) →
      k_m_county_291 E d S4 (a2 + 1) Q)) :
    k_m_county_291 E d S a2 Q := by
  obtain ⟨d, rfl⟩ := Nat.exists_eq_add_of_le' hd
  intro j1
  show wp E (d + 1) m_m_county 291 [some (.ref 65), j1, some (.int (nI a2))] [] (Hp S) (QI Q)
  refine wp_st (pc' := 294) (L' := [some (.ref 65), j1, some (.int (nI a2))]) (st' := [.int 79, .int (nI a2)]) (h' := Hp S) 2 (fun Z => rfl) ?_
  by_cases hc : nI 79 ≤ (nI a2)
  · rw [if_pos hc] at hw
    refine wp_st (pc' := 315) (L' := [some (.ref 65), j1, some (.int (nI a2))]) (st' := []) (h' := Hp S) 1 (fun Z => if_pos hc) ?_
    refine wp_st (pc' := 317) (L' := [some (.ref 65), j1, some (.int (nI a2))]) (st' := [.int 0, .ref 65]) (h' := Hp S) 2 (fun Z => rfl) ?_
    have hw := hw _ rfl
    refine wp_st (pc' := 320) (L' := [some (.ref 65), j1, some (.int (nI a2))]) (st' := []) (h' := Hp (up S 65 42 0)) 1 (fun Z => pfI sh65 rfl (Nat.le_of_ble_eq_true rfl) rfl _) ?_
    generalize up S 65 42 0 = S1 at hw ⊢
    refine wp_st (pc' := 322) (L' := [some (.ref 65), j1, some (.int (nI a2))]) (st' := [.int 0, .ref 65]) (h' := Hp S1) 2 (fun Z => rfl) ?_
    have hw := hw _ rfl
    refine wp_st (pc' := 325) (L' := [some (.ref 65), j1, some (.int (nI a2))]) (st' := []) (h' := Hp (up S1 65 53 0)) 1 (fun Z => pfI sh65 rfl (Nat.le_of_ble_eq_true rfl) rfl _) ?_
    generalize up S1 65 53 0 = S2 at hw ⊢
    refine wp_st (pc' := 327) (L' := [some (.ref 65), j1, some (.int (nI a2))]) (st' := [.int 0, .ref 65]) (h' := Hp S2) 2 (fun Z => rfl) ?_
    have hw := hw _ rfl
    refine wp_st (pc' := 330) (L' := [some (.ref 65), j1, some (.int (nI a2))]) (st' := []) (h' := Hp (up S2 65 58 0)) 1 (fun Z => pfI sh65 rfl (Nat.le_of_ble_eq_true rfl) rfl _) ?_
    generalize up S2 65 58 0 = S3 at hw ⊢
    refine wp_st (pc' := 331) (L' := [some (.ref 65), j1, some (.int (nI a2))]) (st' := [.int 0]) (h' := Hp S3) 1 (fun Z => rfl) ?_
    exact wp_ret (fun Z => rfl) ⟨_, _, rfl, rfl, hw⟩
  · rw [if_neg hc] at hw
    refine wp_st (pc' := 297) (L' := [some (.ref 65), j1, some (.int (nI a2))]) (st' := []) (h' := Hp S) 1 (fun Z => if_neg hc) ?_
    refine wp_st (pc' := 298) (L' := [some (.ref 65), j1, some (.int (nI a2))]) (st' := [.ref 65]) (h' := Hp S) 1 (fun Z => rfl) ?_
    refine wp_st (pc' := 301) (L' := [some (.ref 65), j1, some (.int (nI a2))]) (st' := [.ref 77]) (h' := Hp S) 1 (fun Z => gfR (E := E) sh65 rfl _) ?_
    refine wp_st (pc' := 303) (L' := [some (.ref 65), j1, some (.int (nI a2))]) (st' := [.ref 65, .int (nI a2), .ref 77]) (h' := Hp S) 2 (fun Z => rfl) ?_
    refine wp_st (pc' := 306) (L' := [some (.ref 65), j1, some (.int (nI a2))]) (st' := [.ref 73, .int (nI a2), .ref 77]) (h' := Hp S) 1 (fun Z => gfR (E := E) sh65 rfl _) ?_
    refine wp_st (pc' := 307) (L' := [some (.ref 65), j1, some (.int (nI a2))]) (st' := [.int (nI a2), .ref 73, .int (nI a2), .ref 77]) (h' := Hp S) 1 (fun Z => rfl) ?_
    obtain ⟨hi, hw⟩ := hw
    refine wp_st (pc' := 308) (L' := [some (.ref 65), j1, some (.int (nI a2))]) (st' := [.int (S 73 a2), .int (nI a2), .ref 77]) (h' := Hp S) 1 (fun Z => ldN (E := E) sh73 (by decide) hi [.int (nI a2), .ref 77] (fun st => Z (d + 1) m_m_county 308 [some (.ref 65), j1, some (.int (nI a2))] st (Hp S))) ?_
    obtain ⟨hi, hw⟩ := hw
    have hw := hw _ rfl
    refine wp_st (pc' := 309) (L' := [some (.ref 65), j1, some (.int (nI a2))]) (st' := []) (h' := Hp (up S 77 a2 (S 73 a2))) 1 (fun Z => stN sh77 (by decide) hi _ _) ?_
    generalize up S 77 a2 (S 73 a2) = S4 at hw ⊢
    refine wp_st (pc' := 312) (L' := [some (.ref 65), j1, some (.int (nI (a2 + 1)))]) (st' := []) (h' := Hp S4) 1 (fun Z => by rw [← nI_add a2 1]; rfl) ?_
    exact wp_st 1 (fun Z => rfl) (show wp E (d + 1) m_m_county 291 [some (.ref 65), j1, some (.int (nI (a2 + 1)))] [] (Hp S4) (QI Q) from (hw j1))
set_option maxRecDepth 4000 in
theorem w_m_goes {E : zX} {d : Nat} {S : St}  {Q : St → Prop} (hd : 1 ≤ d) 
    (hw : k_m_goes_0 E d S Q) :
    k_m_goes E d S Q := by
  obtain ⟨d, rfl⟩ := Nat.exists_eq_add_of_le' hd
  show wp E (d + 1) m_m_goes 0 [some (.ref 65), none] [] (Hp S) (QV Q)
  exact (show wp E (d + 1) m_m_goes 0 [some (.ref 65), none] [] (Hp S) (QV Q) from (hw none))
set_option maxRecDepth 4000 in
theorem w_m_goes_0 {E : zX} {d : Nat} {S : St}  {Q : St → Prop} (hd : 1 ≤ d) 
    (hw : if (S 65 15) ≤ (S 65 16) then (
      k_m_goes_50 E d S Q)
    else (
      k_m_byteAt E (d - 1) S (S 65 16) (fun x1 S2 =>
      if x1 = 32 then (
        ∀ S3, S3 = up S2 65 16 ((S2 65 16) + (1 : Int32)) →
        k_m_goes_0 E d S3 Q)
      else (
        k_m_byteAt E (d - 1) S2 (S2 65 16) (fun x4 S5 =>
        if x4 = 10 then (
          ∀ S6, S6 = up S5 65 16 ((S5 65 16) + (1 : Int32)) →
          k_m_goes_0 E d S6 Q)
        else (
          k_m_goes_50 E d S5 Q)))))) :
    k_m_goes_0 E d S Q := by
  obtain ⟨d, rfl⟩ := Nat.exists_eq_add_of_le' hd
  intro j1
  show wp E (d + 1) m_m_goes 0 [some (.ref 65), j1] [] (Hp S) (QV Q)
  refine wp_st (pc' := 1) (L' := [some (.ref 65), j1]) (st' := [.ref 65]) (h' := Hp S) 1 (fun Z => rfl) ?_
  refine wp_st (pc' := 4) (L' := [some (.ref 65), j1]) (st' := [.int (S 65 16)]) (h' := Hp S) 1 (fun Z => gfI (E := E) sh65 rfl _) ?_
  refine wp_st (pc' := 5) (L' := [some (.ref 65), j1]) (st' := [.ref 65, .int (S 65 16)]) (h' := Hp S) 1 (fun Z => rfl) ?_
  refine wp_st (pc' := 8) (L' := [some (.ref 65), j1]) (st' := [.int (S 65 15), .int (S 65 16)]) (h' := Hp S) 1 (fun Z => gfI (E := E) sh65 rfl _) ?_
  by_cases hc : (S 65 15) ≤ (S 65 16)
  · rw [if_pos hc] at hw
    refine wp_st (pc' := 50) (L' := [some (.ref 65), j1]) (st' := []) (h' := Hp S) 1 (fun Z => if_pos hc) ?_
    exact (show wp E (d + 1) m_m_goes 50 [some (.ref 65), j1] [] (Hp S) (QV Q) from (hw j1))
  · rw [if_neg hc] at hw
    refine wp_st (pc' := 11) (L' := [some (.ref 65), j1]) (st' := []) (h' := Hp S) 1 (fun Z => if_neg hc) ?_
    refine wp_st (pc' := 13) (L' := [some (.ref 65), j1]) (st' := [.ref 65, .ref 65]) (h' := Hp S) 2 (fun Z => rfl) ?_
    refine wp_st (pc' := 16) (L' := [some (.ref 65), j1]) (st' := [.int (S 65 16), .ref 65]) (h' := Hp S) 1 (fun Z => gfI (E := E) sh65 rfl _) ?_
    refine wp_call (pc' := 19) (rest := []) (fun Z => rfl) (isO_of sh65) hw ?_
    rintro o h1 ⟨x1, S2, rfl, rfl, hw⟩
    refine ⟨_, rfl, ?_⟩
    show wp E (d + 1) m_m_goes 19 [some (.ref 65), j1] [.int x1] (Hp S2) (QV Q)
    refine wp_st (pc' := 21) (L' := [some (.ref 65), j1]) (st' := [.int 32, .int x1]) (h' := Hp S2) 1 (fun Z => rfl) ?_
    by_cases hc : x1 = 32
    · rw [if_pos hc] at hw
      refine wp_st (pc' := 37) (L' := [some (.ref 65), j1]) (st' := []) (h' := Hp S2) 1 (fun Z => if_pos hc) ?_
      refine wp_st (pc' := 39) (L' := [some (.ref 65), j1]) (st' := [.ref 65, .ref 65]) (h' := Hp S2) 2 (fun Z => rfl) ?_
      refine wp_st (pc' := 42) (L' := [some (.ref 65), j1]) (st' := [.int (S2 65 16), .ref 65]) (h' := Hp S2) 1 (fun Z => gfI (E := E) sh65 rfl _) ?_
      refine wp_st (pc' := 44) (L' := [some (.ref 65), j1]) (st' := [.int ((S2 65 16) + (1 : Int32)), .ref 65]) (h' := Hp S2) 2 (fun Z => rfl) ?_
      have hw := hw _ rfl
      refine wp_st (pc' := 47) (L' := [some (.ref 65), j1]) (st' := []) (h' := Hp (up S2 65 16 ((S2 65 16) + (1 : Int32)))) 1 (fun Z => pfI sh65 rfl (Nat.le_of_ble_eq_true rfl) rfl _) ?_
      generalize up S2 65 16 ((S2 65 16) + (1 : Int32)) = S3 at hw ⊢
      exact wp_st 1 (fun Z => rfl) (show wp E (d + 1) m_m_goes 0 [some (.ref 65), j1] [] (Hp S3) (QV Q) from (hw j1))
    · rw [if_neg hc] at hw
      refine wp_st (pc' := 24) (L' := [some (.ref 65), j1]) (st' := []) (h' := Hp S2) 1 (fun Z => if_neg hc) ?_
      refine wp_st (pc' := 26) (L' := [some (.ref 65), j1]) (st' := [.ref 65, .ref 65]) (h' := Hp S2) 2 (fun Z => rfl) ?_
      refine wp_st (pc' := 29) (L' := [some (.ref 65), j1]) (st' := [.int (S2 65 16), .ref 65]) (h' := Hp S2) 1 (fun Z => gfI (E := E) sh65 rfl _) ?_
      refine wp_call (pc' := 32) (rest := []) (fun Z => rfl) (isO_of sh65) hw ?_
      rintro o h1 ⟨x4, S5, rfl, rfl, hw⟩
      refine ⟨_, rfl, ?_⟩
      show wp E (d + 1) m_m_goes 32 [some (.ref 65), j1] [.int x4] (Hp S5) (QV Q)
      refine wp_st (pc' := 34) (L' := [some (.ref 65), j1]) (st' := [.int 10, .int x4]) (h' := Hp S5) 1 (fun Z => rfl) ?_
      by_cases hc : x4 = 10
      · rw [if_pos hc] at hw
        refine wp_st (pc' := 37) (L' := [some (.ref 65), j1]) (st' := []) (h' := Hp S5) 1 (fun Z => if_pos hc) ?_
        refine wp_st (pc' := 39) (L' := [some (.ref 65), j1]) (st' := [.ref 65, .ref 65]) (h' := Hp S5) 2 (fun Z => rfl) ?_
        refine wp_st (pc' := 42) (L' := [some (.ref 65), j1]) (st' := [.int (S5 65 16), .ref 65]) (h' := Hp S5) 1 (fun Z => gfI (E := E) sh65 rfl _) ?_
        refine wp_st (pc' := 44) (L' := [some (.ref 65), j1]) (st' := [.int ((S5 65 16) + (1 : Int32)), .ref 65]) (h' := Hp S5) 2 (fun Z => rfl) ?_
        have hw := hw _ rfl
        refine wp_st (pc' := 47) (L' := [some (.ref 65), j1]) (st' := []) (h' := Hp (up S5 65 16 ((S5 65 16) + (1 : Int32)))) 1 (fun Z => pfI sh65 rfl (Nat.le_of_ble_eq_true rfl) rfl _) ?_
        generalize up S5 65 16 ((S5 65 16) + (1 : Int32)) = S6 at hw ⊢
        exact wp_st 1 (fun Z => rfl) (show wp E (d + 1) m_m_goes 0 [some (.ref 65), j1] [] (Hp S6) (QV Q) from (hw j1))
      · rw [if_neg hc] at hw
        refine wp_st (pc' := 50) (L' := [some (.ref 65), j1]) (st' := []) (h' := Hp S5) 1 (fun Z => if_neg hc) ?_
        exact (show wp E (d + 1) m_m_goes 50 [some (.ref 65), j1] [] (Hp S5) (QV Q) from (hw j1))
set_option maxRecDepth 4000 in
theorem w_m_goes_50 {E : zX} {d : Nat} {S : St}  {Q : St → Prop} (hd : 1 ≤ d) 
    (hw : ∀ S1, S1 = up S 65 18 (S 65 16) →
    ∀ S2, S2 = upJ S1 65 22 0 →
    ∀ S3, S3 = up S2 65 20 0 →
    k_m_byteAt E (d - 1) S3 (S3 65 16) (fun x4 S5 =>
    ∀ S6, S6 = up S5 65 21 x4 →
    if (S6 65 16) < (S6 65 15) then (
      k_m_isLetter E (d - 1) S6 x4 (fun x7 S8 =>
      if x7 = 0 then (
        k_m_isDigit E (d - 1) S8 x4 (fun x9 S10 =>
        if x9 = 0 then (
          ∀ S11, S11 = up S10 65 16 ((S10 65 16) + (1 : Int32)) →
          if x4 = 59 then (
            k_m_goes_323 E d S11 Q)
          else (
            if x4 = 40 then (
              k_m_goes_323 E d S11 Q)
            else (
              if x4 = 41 then (
                k_m_goes_323 E d S11 Q)
              else (
                if x4 = 43 then (
                  k_m_goes_323 E d S11 Q)
                else (
                  if x4 = 45 then (
                    k_m_goes_323 E d S11 Q)
                  else (
                    if x4 = 42 then (
                      k_m_goes_323 E d S11 Q)
                    else (
                      if x4 = 47 then (
                        k_m_goes_323 E d S11 Q)
                      else (
                        if x4 = 60 then (
                          k_m_goes_323 E d S11 Q)
                        else (
                          if x4 = 61 then (
                            k_m_goes_323 E d S11 Q)
                          else (
                            ∀ S12, S12 = up S11 65 17 4 →
                            ∀ S13, S13 = up S12 65 19 ((S12 65 16) - (S12 65 18)) →
                            Q S13))))))))))
        else (
          k_m_goes_187 E d S10 Q)))
      else (
        k_m_goes_108 E d S8 Q)))
    else (
      ∀ S14, S14 = up S6 65 17 0 →
      ∀ S15, S15 = up S14 65 19 ((S14 65 16) - (S14 65 18)) →
      Q S15))) :
    k_m_goes_50 E d S Q := by
  obtain ⟨d, rfl⟩ := Nat.exists_eq_add_of_le' hd
  intro j1
  show wp E (d + 1) m_m_goes 50 [some (.ref 65), j1] [] (Hp S) (QV Q)
  refine wp_st (pc' := 52) (L' := [some (.ref 65), j1]) (st' := [.ref 65, .ref 65]) (h' := Hp S) 2 (fun Z => rfl) ?_
  refine wp_st (pc' := 55) (L' := [some (.ref 65), j1]) (st' := [.int (S 65 16), .ref 65]) (h' := Hp S) 1 (fun Z => gfI (E := E) sh65 rfl _) ?_
  have hw := hw _ rfl
  refine wp_st (pc' := 58) (L' := [some (.ref 65), j1]) (st' := []) (h' := Hp (up S 65 18 (S 65 16))) 1 (fun Z => pfI sh65 rfl (Nat.le_of_ble_eq_true rfl) rfl _) ?_
  generalize up S 65 18 (S 65 16) = S1 at hw ⊢
  refine wp_st (pc' := 60) (L' := [some (.ref 65), j1]) (st' := [.long 0, .ref 65]) (h' := Hp S1) 2 (fun Z => rfl) ?_
  have hw := hw _ rfl
  refine wp_st (pc' := 63) (L' := [some (.ref 65), j1]) (st' := []) (h' := Hp (upJ S1 65 22 0)) 1 (fun Z => pfJ sh65 rfl (Nat.le_of_ble_eq_true rfl) _) ?_
  generalize upJ S1 65 22 0 = S2 at hw ⊢
  refine wp_st (pc' := 65) (L' := [some (.ref 65), j1]) (st' := [.int 0, .ref 65]) (h' := Hp S2) 2 (fun Z => rfl) ?_
  have hw := hw _ rfl
  refine wp_st (pc' := 68) (L' := [some (.ref 65), j1]) (st' := []) (h' := Hp (up S2 65 20 0)) 1 (fun Z => pfI sh65 rfl (Nat.le_of_ble_eq_true rfl) rfl _) ?_
  generalize up S2 65 20 0 = S3 at hw ⊢
  refine wp_st (pc' := 70) (L' := [some (.ref 65), j1]) (st' := [.ref 65, .ref 65]) (h' := Hp S3) 2 (fun Z => rfl) ?_
  refine wp_st (pc' := 73) (L' := [some (.ref 65), j1]) (st' := [.int (S3 65 16), .ref 65]) (h' := Hp S3) 1 (fun Z => gfI (E := E) sh65 rfl _) ?_
  refine wp_call (pc' := 76) (rest := []) (fun Z => rfl) (isO_of sh65) hw ?_
  rintro o h1 ⟨x4, S5, rfl, rfl, hw⟩
  refine ⟨_, rfl, ?_⟩
  show wp E (d + 1) m_m_goes 76 [some (.ref 65), j1] [.int x4] (Hp S5) (QV Q)
  refine wp_st (pc' := 79) (L' := [some (.ref 65), some (.int x4)]) (st' := [.int x4, .ref 65]) (h' := Hp S5) 3 (fun Z => rfl) ?_
  have hw := hw _ rfl
  refine wp_st (pc' := 82) (L' := [some (.ref 65), some (.int x4)]) (st' := []) (h' := Hp (up S5 65 21 x4)) 1 (fun Z => pfI sh65 rfl (Nat.le_of_ble_eq_true rfl) rfl _) ?_
  generalize up S5 65 21 x4 = S6 at hw ⊢
  refine wp_st (pc' := 83) (L' := [some (.ref 65), some (.int x4)]) (st' := [.ref 65]) (h' := Hp S6) 1 (fun Z => rfl) ?_
  refine wp_st (pc' := 86) (L' := [some (.ref 65), some (.int x4)]) (st' := [.int (S6 65 16)]) (h' := Hp S6) 1 (fun Z => gfI (E := E) sh65 rfl _) ?_
  refine wp_st (pc' := 87) (L' := [some (.ref 65), some (.int x4)]) (st' := [.ref 65, .int (S6 65 16)]) (h' := Hp S6) 1 (fun Z => rfl) ?_
  refine wp_st (pc' := 90) (L' := [some (.ref 65), some (.int x4)]) (st' := [.int (S6 65 15), .int (S6 65 16)]) (h' := Hp S6) 1 (fun Z => gfI (E := E) sh65 rfl _) ?_
  by_cases hc : (S6 65 16) < (S6 65 15)
  · rw [if_pos hc] at hw
    refine wp_st (pc' := 101) (L' := [some (.ref 65), some (.int x4)]) (st' := []) (h' := Hp S6) 1 (fun Z => if_pos hc) ?_
    refine wp_st (pc' := 102) (L' := [some (.ref 65), some (.int x4)]) (st' := [.int x4]) (h' := Hp S6) 1 (fun Z => rfl) ?_
    refine wp_call (pc' := 105) (rest := []) (fun Z => rfl) rfl hw ?_
    rintro o h1 ⟨x7, S8, rfl, rfl, hw⟩
    refine ⟨_, rfl, ?_⟩
    show wp E (d + 1) m_m_goes 105 [some (.ref 65), some (.int x4)] [.int x7] (Hp S8) (QV Q)
    by_cases hc : x7 = 0
    · rw [if_pos hc] at hw
      refine wp_st (pc' := 180) (L' := [some (.ref 65), some (.int x4)]) (st' := []) (h' := Hp S8) 1 (fun Z => if_pos hc) ?_
      refine wp_st (pc' := 181) (L' := [some (.ref 65), some (.int x4)]) (st' := [.int x4]) (h' := Hp S8) 1 (fun Z => rfl) ?_
      refine wp_call (pc' := 184) (rest := []) (fun Z => rfl) rfl hw ?_
      rintro o h1 ⟨x9, S10, rfl, rfl, hw⟩
      refine ⟨_, rfl, ?_⟩
      show wp E (d + 1) m_m_goes 184 [some (.ref 65), some (.int x4)] [.int x9] (Hp S10) (QV Q)
      by_cases hc : x9 = 0
      · rw [if_pos hc] at hw
        refine wp_st (pc' := 258) (L' := [some (.ref 65), some (.int x4)]) (st' := []) (h' := Hp S10) 1 (fun Z => if_pos hc) ?_
        refine wp_st (pc' := 260) (L' := [some (.ref 65), some (.int x4)]) (st' := [.ref 65, .ref 65]) (h' := Hp S10) 2 (fun Z => rfl) ?_
        refine wp_st (pc' := 263) (L' := [some (.ref 65), some (.int x4)]) (st' := [.int (S10 65 16), .ref 65]) (h' := Hp S10) 1 (fun Z => gfI (E := E) sh65 rfl _) ?_
        refine wp_st (pc' := 265) (L' := [some (.ref 65), some (.int x4)]) (st' := [.int ((S10 65 16) + (1 : Int32)), .ref 65]) (h' := Hp S10) 2 (fun Z => rfl) ?_
        have hw := hw _ rfl
        refine wp_st (pc' := 268) (L' := [some (.ref 65), some (.int x4)]) (st' := []) (h' := Hp (up S10 65 16 ((S10 65 16) + (1 : Int32)))) 1 (fun Z => pfI sh65 rfl (Nat.le_of_ble_eq_true rfl) rfl _) ?_
        generalize up S10 65 16 ((S10 65 16) + (1 : Int32)) = S11 at hw ⊢
        refine wp_st (pc' := 272) (L' := [some (.ref 65), some (.int x4)]) (st' := [.int 59, .int x4, .ref 65]) (h' := Hp S11) 3 (fun Z => rfl) ?_
        by_cases hc : x4 = 59
        · rw [if_pos hc] at hw
          refine wp_st (pc' := 323) (L' := [some (.ref 65), some (.int x4)]) (st' := [.ref 65]) (h' := Hp S11) 1 (fun Z => if_pos hc) ?_
          exact (show wp E (d + 1) m_m_goes 323 [some (.ref 65), some (.int x4)] [.ref 65] (Hp S11) (QV Q) from (hw (some (.int x4))))
        · rw [if_neg hc] at hw
          refine wp_st (pc' := 275) (L' := [some (.ref 65), some (.int x4)]) (st' := [.ref 65]) (h' := Hp S11) 1 (fun Z => if_neg hc) ?_
          refine wp_st (pc' := 278) (L' := [some (.ref 65), some (.int x4)]) (st' := [.int 40, .int x4, .ref 65]) (h' := Hp S11) 2 (fun Z => rfl) ?_
          by_cases hc : x4 = 40
          · rw [if_pos hc] at hw
            refine wp_st (pc' := 323) (L' := [some (.ref 65), some (.int x4)]) (st' := [.ref 65]) (h' := Hp S11) 1 (fun Z => if_pos hc) ?_
            exact (show wp E (d + 1) m_m_goes 323 [some (.ref 65), some (.int x4)] [.ref 65] (Hp S11) (QV Q) from (hw (some (.int x4))))
          · rw [if_neg hc] at hw
            refine wp_st (pc' := 281) (L' := [some (.ref 65), some (.int x4)]) (st' := [.ref 65]) (h' := Hp S11) 1 (fun Z => if_neg hc) ?_
            refine wp_st (pc' := 284) (L' := [some (.ref 65), some (.int x4)]) (st' := [.int 41, .int x4, .ref 65]) (h' := Hp S11) 2 (fun Z => rfl) ?_
            by_cases hc : x4 = 41
            · rw [if_pos hc] at hw
              refine wp_st (pc' := 323) (L' := [some (.ref 65), some (.int x4)]) (st' := [.ref 65]) (h' := Hp S11) 1 (fun Z => if_pos hc) ?_
              exact (show wp E (d + 1) m_m_goes 323 [some (.ref 65), some (.int x4)] [.ref 65] (Hp S11) (QV Q) from (hw (some (.int x4))))
            · rw [if_neg hc] at hw
              refine wp_st (pc' := 287) (L' := [some (.ref 65), some (.int x4)]) (st' := [.ref 65]) (h' := Hp S11) 1 (fun Z => if_neg hc) ?_
              refine wp_st (pc' := 290) (L' := [some (.ref 65), some (.int x4)]) (st' := [.int 43, .int x4, .ref 65]) (h' := Hp S11) 2 (fun Z => rfl) ?_
              by_cases hc : x4 = 43
              · rw [if_pos hc] at hw
                refine wp_st (pc' := 323) (L' := [some (.ref 65), some (.int x4)]) (st' := [.ref 65]) (h' := Hp S11) 1 (fun Z => if_pos hc) ?_
                exact (show wp E (d + 1) m_m_goes 323 [some (.ref 65), some (.int x4)] [.ref 65] (Hp S11) (QV Q) from (hw (some (.int x4))))
              · rw [if_neg hc] at hw
                refine wp_st (pc' := 293) (L' := [some (.ref 65), some (.int x4)]) (st' := [.ref 65]) (h' := Hp S11) 1 (fun Z => if_neg hc) ?_
                refine wp_st (pc' := 296) (L' := [some (.ref 65), some (.int x4)]) (st' := [.int 45, .int x4, .ref 65]) (h' := Hp S11) 2 (fun Z => rfl) ?_
                by_cases hc : x4 = 45
                · rw [if_pos hc] at hw
                  refine wp_st (pc' := 323) (L' := [some (.ref 65), some (.int x4)]) (st' := [.ref 65]) (h' := Hp S11) 1 (fun Z => if_pos hc) ?_
                  exact (show wp E (d + 1) m_m_goes 323 [some (.ref 65), some (.int x4)] [.ref 65] (Hp S11) (QV Q) from (hw (some (.int x4))))
                · rw [if_neg hc] at hw
                  refine wp_st (pc' := 299) (L' := [some (.ref 65), some (.int x4)]) (st' := [.ref 65]) (h' := Hp S11) 1 (fun Z => if_neg hc) ?_
                  refine wp_st (pc' := 302) (L' := [some (.ref 65), some (.int x4)]) (st' := [.int 42, .int x4, .ref 65]) (h' := Hp S11) 2 (fun Z => rfl) ?_
                  by_cases hc : x4 = 42
                  · rw [if_pos hc] at hw
                    refine wp_st (pc' := 323) (L' := [some (.ref 65), some (.int x4)]) (st' := [.ref 65]) (h' := Hp S11) 1 (fun Z => if_pos hc) ?_
                    exact (show wp E (d + 1) m_m_goes 323 [some (.ref 65), some (.int x4)] [.ref 65] (Hp S11) (QV Q) from (hw (some (.int x4))))
                  · rw [if_neg hc] at hw
                    refine wp_st (pc' := 305) (L' := [some (.ref 65), some (.int x4)]) (st' := [.ref 65]) (h' := Hp S11) 1 (fun Z => if_neg hc) ?_
                    refine wp_st (pc' := 308) (L' := [some (.ref 65), some (.int x4)]) (st' := [.int 47, .int x4, .ref 65]) (h' := Hp S11) 2 (fun Z => rfl) ?_
                    by_cases hc : x4 = 47
                    · rw [if_pos hc] at hw
                      refine wp_st (pc' := 323) (L' := [some (.ref 65), some (.int x4)]) (st' := [.ref 65]) (h' := Hp S11) 1 (fun Z => if_pos hc) ?_
                      exact (show wp E (d + 1) m_m_goes 323 [some (.ref 65), some (.int x4)] [.ref 65] (Hp S11) (QV Q) from (hw (some (.int x4))))
                    · rw [if_neg hc] at hw
                      refine wp_st (pc' := 311) (L' := [some (.ref 65), some (.int x4)]) (st' := [.ref 65]) (h' := Hp S11) 1 (fun Z => if_neg hc) ?_
                      refine wp_st (pc' := 314) (L' := [some (.ref 65), some (.int x4)]) (st' := [.int 60, .int x4, .ref 65]) (h' := Hp S11) 2 (fun Z => rfl) ?_
                      by_cases hc : x4 = 60
                      · rw [if_pos hc] at hw
                        refine wp_st (pc' := 323) (L' := [some (.ref 65), some (.int x4)]) (st' := [.ref 65]) (h' := Hp S11) 1 (fun Z => if_pos hc) ?_
                        exact (show wp E (d + 1) m_m_goes 323 [some (.ref 65), some (.int x4)] [.ref 65] (Hp S11) (QV Q) from (hw (some (.int x4))))
                      · rw [if_neg hc] at hw
                        refine wp_st (pc' := 317) (L' := [some (.ref 65), some (.int x4)]) (st' := [.ref 65]) (h' := Hp S11) 1 (fun Z => if_neg hc) ?_
                        refine wp_st (pc' := 320) (L' := [some (.ref 65), some (.int x4)]) (st' := [.int 61, .int x4, .ref 65]) (h' := Hp S11) 2 (fun Z => rfl) ?_
                        by_cases hc : x4 = 61
                        · rw [if_pos hc] at hw
                          refine wp_st (pc' := 323) (L' := [some (.ref 65), some (.int x4)]) (st' := [.ref 65]) (h' := Hp S11) 1 (fun Z => if_pos hc) ?_
                          exact (show wp E (d + 1) m_m_goes 323 [some (.ref 65), some (.int x4)] [.ref 65] (Hp S11) (QV Q) from (hw (some (.int x4))))
                        · rw [if_neg hc] at hw
                          refine wp_st (pc' := 327) (L' := [some (.ref 65), some (.int x4)]) (st' := [.ref 65]) (h' := Hp S11) 1 (fun Z => if_neg hc) ?_
                          refine wp_st (pc' := 328) (L' := [some (.ref 65), some (.int x4)]) (st' := [.int 4, .ref 65]) (h' := Hp S11) 1 (fun Z => rfl) ?_
                          have hw := hw _ rfl
                          refine wp_st (pc' := 331) (L' := [some (.ref 65), some (.int x4)]) (st' := []) (h' := Hp (up S11 65 17 4)) 1 (fun Z => pfI sh65 rfl (Nat.le_of_ble_eq_true rfl) rfl _) ?_
                          generalize up S11 65 17 4 = S12 at hw ⊢
                          refine wp_st (pc' := 333) (L' := [some (.ref 65), some (.int x4)]) (st' := [.ref 65, .ref 65]) (h' := Hp S12) 2 (fun Z => rfl) ?_
                          refine wp_st (pc' := 336) (L' := [some (.ref 65), some (.int x4)]) (st' := [.int (S12 65 16), .ref 65]) (h' := Hp S12) 1 (fun Z => gfI (E := E) sh65 rfl _) ?_
                          refine wp_st (pc' := 337) (L' := [some (.ref 65), some (.int x4)]) (st' := [.ref 65, .int (S12 65 16), .ref 65]) (h' := Hp S12) 1 (fun Z => rfl) ?_
                          refine wp_st (pc' := 340) (L' := [some (.ref 65), some (.int x4)]) (st' := [.int (S12 65 18), .int (S12 65 16), .ref 65]) (h' := Hp S12) 1 (fun Z => gfI (E := E) sh65 rfl _) ?_
                          refine wp_st (pc' := 341) (L' := [some (.ref 65), some (.int x4)]) (st' := [.int ((S12 65 16) - (S12 65 18)), .ref 65]) (h' := Hp S12) 1 (fun Z => rfl) ?_
                          have hw := hw _ rfl
                          refine wp_st (pc' := 344) (L' := [some (.ref 65), some (.int x4)]) (st' := []) (h' := Hp (up S12 65 19 ((S12 65 16) - (S12 65 18)))) 1 (fun Z => pfI sh65 rfl (Nat.le_of_ble_eq_true rfl) rfl _) ?_
                          generalize up S12 65 19 ((S12 65 16) - (S12 65 18)) = S13 at hw ⊢
                          exact wp_ret (fun Z => rfl) ⟨_, rfl, rfl, hw⟩
      · rw [if_neg hc] at hw
        refine wp_st (pc' := 187) (L' := [some (.ref 65), some (.int x4)]) (st' := []) (h' := Hp S10) 1 (fun Z => if_neg hc) ?_
        exact (show wp E (d + 1) m_m_goes 187 [some (.ref 65), some (.int x4)] [] (Hp S10) (QV Q) from (hw (some (.int x4))))
    · rw [if_neg hc] at hw
      refine wp_st (pc' := 108) (L' := [some (.ref 65), some (.int x4)]) (st' := []) (h' := Hp S8) 1 (fun Z => if_neg hc) ?_
      exact (show wp E (d + 1) m_m_goes 108 [some (.ref 65), some (.int x4)] [] (Hp S8) (QV Q) from (hw (some (.int x4))))
  · rw [if_neg hc] at hw
    refine wp_st (pc' := 93) (L' := [some (.ref 65), some (.int x4)]) (st' := []) (h' := Hp S6) 1 (fun Z => if_neg hc) ?_
    refine wp_st (pc' := 95) (L' := [some (.ref 65), some (.int x4)]) (st' := [.int 0, .ref 65]) (h' := Hp S6) 2 (fun Z => rfl) ?_
    have hw := hw _ rfl
    refine wp_st (pc' := 98) (L' := [some (.ref 65), some (.int x4)]) (st' := []) (h' := Hp (up S6 65 17 0)) 1 (fun Z => pfI sh65 rfl (Nat.le_of_ble_eq_true rfl) rfl _) ?_
    generalize up S6 65 17 0 = S14 at hw ⊢
    refine wp_st (pc' := 333) (L' := [some (.ref 65), some (.int x4)]) (st' := [.ref 65, .ref 65]) (h' := Hp S14) 3 (fun Z => rfl) ?_
    refine wp_st (pc' := 336) (L' := [some (.ref 65), some (.int x4)]) (st' := [.int (S14 65 16), .ref 65]) (h' := Hp S14) 1 (fun Z => gfI (E := E) sh65 rfl _) ?_
    refine wp_st (pc' := 337) (L' := [some (.ref 65), some (.int x4)]) (st' := [.ref 65, .int (S14 65 16), .ref 65]) (h' := Hp S14) 1 (fun Z => rfl) ?_
    refine wp_st (pc' := 340) (L' := [some (.ref 65), some (.int x4)]) (st' := [.int (S14 65 18), .int (S14 65 16), .ref 65]) (h' := Hp S14) 1 (fun Z => gfI (E := E) sh65 rfl _) ?_
    refine wp_st (pc' := 341) (L' := [some (.ref 65), some (.int x4)]) (st' := [.int ((S14 65 16) - (S14 65 18)), .ref 65]) (h' := Hp S14) 1 (fun Z => rfl) ?_
    have hw := hw _ rfl
    refine wp_st (pc' := 344) (L' := [some (.ref 65), some (.int x4)]) (st' := []) (h' := Hp (up S14 65 19 ((S14 65 16) - (S14 65 18)))) 1 (fun Z => pfI sh65 rfl (Nat.le_of_ble_eq_true rfl) rfl _) ?_
    generalize up S14 65 19 ((S14 65 16) - (S14 65 18)) = S15 at hw ⊢
    exact wp_ret (fun Z => rfl) ⟨_, rfl, rfl, hw⟩
set_option maxRecDepth 4000 in
theorem w_m_goes_108 {E : zX} {d : Nat} {S : St}  {Q : St → Prop} (hd : 1 ≤ d) 
    (hw : k_m_byteAt E (d - 1) S (S 65 16) (fun x1 S2 =>
    k_m_isLetter E (d - 1) S2 x1 (fun x3 S4 =>
    if x3 = 0 then (
      ∀ S5, S5 = up S4 65 17 1 →
      ∀ S6, S6 = up S5 65 19 ((S5 65 16) - (S5 65 18)) →
      Q S6)
    else (
      if 6 ≤ ((S4 65 16) - (S4 65 18)) then (
        ∀ S7, S7 = up S4 65 16 ((S4 65 16) + (1 : Int32)) →
        k_m_goes_108 E d S7 Q)
      else (
        k_m_byteAt E (d - 1) S4 (S4 65 16) (fun x8 S9 =>
        ∀ S10, S10 = upJ S9 65 22 (((catL (S4 65 (hf 22)) (S4 65 (lf 22))) <<< (Int32.toInt64 5 &&& 63)) ||| (Int32.toInt64 (x8 - (96 : Int32)))) →
        ∀ S11, S11 = up S10 65 16 ((S10 65 16) + (1 : Int32)) →
        k_m_goes_108 E d S11 Q)))))) :
    k_m_goes_108 E d S Q := by
  obtain ⟨d, rfl⟩ := Nat.exists_eq_add_of_le' hd
  intro j1
  show wp E (d + 1) m_m_goes 108 [some (.ref 65), j1] [] (Hp S) (QV Q)
  refine wp_st (pc' := 110) (L' := [some (.ref 65), j1]) (st' := [.ref 65, .ref 65]) (h' := Hp S) 2 (fun Z => rfl) ?_
  refine wp_st (pc' := 113) (L' := [some (.ref 65), j1]) (st' := [.int (S 65 16), .ref 65]) (h' := Hp S) 1 (fun Z => gfI (E := E) sh65 rfl _) ?_
  refine wp_call (pc' := 116) (rest := []) (fun Z => rfl) (isO_of sh65) hw ?_
  rintro o h1 ⟨x1, S2, rfl, rfl, hw⟩
  refine ⟨_, rfl, ?_⟩
  show wp E (d + 1) m_m_goes 116 [some (.ref 65), j1] [.int x1] (Hp S2) (QV Q)
  refine wp_call (pc' := 119) (rest := []) (fun Z => rfl) rfl hw ?_
  rintro o h1 ⟨x3, S4, rfl, rfl, hw⟩
  refine ⟨_, rfl, ?_⟩
  show wp E (d + 1) m_m_goes 119 [some (.ref 65), j1] [.int x3] (Hp S4) (QV Q)
  by_cases hc : x3 = 0
  · rw [if_pos hc] at hw
    refine wp_st (pc' := 172) (L' := [some (.ref 65), j1]) (st' := []) (h' := Hp S4) 1 (fun Z => if_pos hc) ?_
    refine wp_st (pc' := 174) (L' := [some (.ref 65), j1]) (st' := [.int 1, .ref 65]) (h' := Hp S4) 2 (fun Z => rfl) ?_
    have hw := hw _ rfl
    refine wp_st (pc' := 177) (L' := [some (.ref 65), j1]) (st' := []) (h' := Hp (up S4 65 17 1)) 1 (fun Z => pfI sh65 rfl (Nat.le_of_ble_eq_true rfl) rfl _) ?_
    generalize up S4 65 17 1 = S5 at hw ⊢
    refine wp_st (pc' := 333) (L' := [some (.ref 65), j1]) (st' := [.ref 65, .ref 65]) (h' := Hp S5) 3 (fun Z => rfl) ?_
    refine wp_st (pc' := 336) (L' := [some (.ref 65), j1]) (st' := [.int (S5 65 16), .ref 65]) (h' := Hp S5) 1 (fun Z => gfI (E := E) sh65 rfl _) ?_
    refine wp_st (pc' := 337) (L' := [some (.ref 65), j1]) (st' := [.ref 65, .int (S5 65 16), .ref 65]) (h' := Hp S5) 1 (fun Z => rfl) ?_
    refine wp_st (pc' := 340) (L' := [some (.ref 65), j1]) (st' := [.int (S5 65 18), .int (S5 65 16), .ref 65]) (h' := Hp S5) 1 (fun Z => gfI (E := E) sh65 rfl _) ?_
    refine wp_st (pc' := 341) (L' := [some (.ref 65), j1]) (st' := [.int ((S5 65 16) - (S5 65 18)), .ref 65]) (h' := Hp S5) 1 (fun Z => rfl) ?_
    have hw := hw _ rfl
    refine wp_st (pc' := 344) (L' := [some (.ref 65), j1]) (st' := []) (h' := Hp (up S5 65 19 ((S5 65 16) - (S5 65 18)))) 1 (fun Z => pfI sh65 rfl (Nat.le_of_ble_eq_true rfl) rfl _) ?_
    generalize up S5 65 19 ((S5 65 16) - (S5 65 18)) = S6 at hw ⊢
    exact wp_ret (fun Z => rfl) ⟨_, rfl, rfl, hw⟩
  · rw [if_neg hc] at hw
    refine wp_st (pc' := 122) (L' := [some (.ref 65), j1]) (st' := []) (h' := Hp S4) 1 (fun Z => if_neg hc) ?_
    refine wp_st (pc' := 123) (L' := [some (.ref 65), j1]) (st' := [.ref 65]) (h' := Hp S4) 1 (fun Z => rfl) ?_
    refine wp_st (pc' := 126) (L' := [some (.ref 65), j1]) (st' := [.int (S4 65 16)]) (h' := Hp S4) 1 (fun Z => gfI (E := E) sh65 rfl _) ?_
    refine wp_st (pc' := 127) (L' := [some (.ref 65), j1]) (st' := [.ref 65, .int (S4 65 16)]) (h' := Hp S4) 1 (fun Z => rfl) ?_
    refine wp_st (pc' := 130) (L' := [some (.ref 65), j1]) (st' := [.int (S4 65 18), .int (S4 65 16)]) (h' := Hp S4) 1 (fun Z => gfI (E := E) sh65 rfl _) ?_
    refine wp_st (pc' := 133) (L' := [some (.ref 65), j1]) (st' := [.int 6, .int ((S4 65 16) - (S4 65 18))]) (h' := Hp S4) 2 (fun Z => rfl) ?_
    by_cases hc : 6 ≤ ((S4 65 16) - (S4 65 18))
    · rw [if_pos hc] at hw
      refine wp_st (pc' := 159) (L' := [some (.ref 65), j1]) (st' := []) (h' := Hp S4) 1 (fun Z => if_pos hc) ?_
      refine wp_st (pc' := 161) (L' := [some (.ref 65), j1]) (st' := [.ref 65, .ref 65]) (h' := Hp S4) 2 (fun Z => rfl) ?_
      refine wp_st (pc' := 164) (L' := [some (.ref 65), j1]) (st' := [.int (S4 65 16), .ref 65]) (h' := Hp S4) 1 (fun Z => gfI (E := E) sh65 rfl _) ?_
      refine wp_st (pc' := 166) (L' := [some (.ref 65), j1]) (st' := [.int ((S4 65 16) + (1 : Int32)), .ref 65]) (h' := Hp S4) 2 (fun Z => rfl) ?_
      have hw := hw _ rfl
      refine wp_st (pc' := 169) (L' := [some (.ref 65), j1]) (st' := []) (h' := Hp (up S4 65 16 ((S4 65 16) + (1 : Int32)))) 1 (fun Z => pfI sh65 rfl (Nat.le_of_ble_eq_true rfl) rfl _) ?_
      generalize up S4 65 16 ((S4 65 16) + (1 : Int32)) = S7 at hw ⊢
      exact wp_st 1 (fun Z => rfl) (show wp E (d + 1) m_m_goes 108 [some (.ref 65), j1] [] (Hp S7) (QV Q) from (hw j1))
    · rw [if_neg hc] at hw
      refine wp_st (pc' := 136) (L' := [some (.ref 65), j1]) (st' := []) (h' := Hp S4) 1 (fun Z => if_neg hc) ?_
      refine wp_st (pc' := 138) (L' := [some (.ref 65), j1]) (st' := [.ref 65, .ref 65]) (h' := Hp S4) 2 (fun Z => rfl) ?_
      refine wp_st (pc' := 141) (L' := [some (.ref 65), j1]) (st' := [.long (catL (S4 65 (hf 22)) (S4 65 (lf 22))), .ref 65]) (h' := Hp S4) 1 (fun Z => gfJ (E := E) sh65 rfl _) ?_
      refine wp_st (pc' := 145) (L' := [some (.ref 65), j1]) (st' := [.ref 65, .ref 65, .long ((catL (S4 65 (hf 22)) (S4 65 (lf 22))) <<< (Int32.toInt64 5 &&& 63)), .ref 65]) (h' := Hp S4) 4 (fun Z => rfl) ?_
      refine wp_st (pc' := 148) (L' := [some (.ref 65), j1]) (st' := [.int (S4 65 16), .ref 65, .long ((catL (S4 65 (hf 22)) (S4 65 (lf 22))) <<< (Int32.toInt64 5 &&& 63)), .ref 65]) (h' := Hp S4) 1 (fun Z => gfI (E := E) sh65 rfl _) ?_
      refine wp_call (pc' := 151) (rest := [.long ((catL (S4 65 (hf 22)) (S4 65 (lf 22))) <<< (Int32.toInt64 5 &&& 63)), .ref 65]) (fun Z => rfl) (isO_of sh65) hw ?_
      rintro o h1 ⟨x8, S9, rfl, rfl, hw⟩
      refine ⟨_, rfl, ?_⟩
      show wp E (d + 1) m_m_goes 151 [some (.ref 65), j1] [.int x8, .long ((catL (S4 65 (hf 22)) (S4 65 (lf 22))) <<< (Int32.toInt64 5 &&& 63)), .ref 65] (Hp S9) (QV Q)
      refine wp_st (pc' := 156) (L' := [some (.ref 65), j1]) (st' := [.long (((catL (S4 65 (hf 22)) (S4 65 (lf 22))) <<< (Int32.toInt64 5 &&& 63)) ||| (Int32.toInt64 (x8 - (96 : Int32)))), .ref 65]) (h' := Hp S9) 4 (fun Z => rfl) ?_
      have hw := hw _ rfl
      refine wp_st (pc' := 159) (L' := [some (.ref 65), j1]) (st' := []) (h' := Hp (upJ S9 65 22 (((catL (S4 65 (hf 22)) (S4 65 (lf 22))) <<< (Int32.toInt64 5 &&& 63)) ||| (Int32.toInt64 (x8 - (96 : Int32)))))) 1 (fun Z => pfJ sh65 rfl (Nat.le_of_ble_eq_true rfl) _) ?_
      generalize upJ S9 65 22 (((catL (S4 65 (hf 22)) (S4 65 (lf 22))) <<< (Int32.toInt64 5 &&& 63)) ||| (Int32.toInt64 (x8 - (96 : Int32)))) = S10 at hw ⊢
      refine wp_st (pc' := 161) (L' := [some (.ref 65), j1]) (st' := [.ref 65, .ref 65]) (h' := Hp S10) 2 (fun Z => rfl) ?_
      refine wp_st (pc' := 164) (L' := [some (.ref 65), j1]) (st' := [.int (S10 65 16), .ref 65]) (h' := Hp S10) 1 (fun Z => gfI (E := E) sh65 rfl _) ?_
      refine wp_st (pc' := 166) (L' := [some (.ref 65), j1]) (st' := [.int ((S10 65 16) + (1 : Int32)), .ref 65]) (h' := Hp S10) 2 (fun Z => rfl) ?_
      have hw := hw _ rfl
      refine wp_st (pc' := 169) (L' := [some (.ref 65), j1]) (st' := []) (h' := Hp (up S10 65 16 ((S10 65 16) + (1 : Int32)))) 1 (fun Z => pfI sh65 rfl (Nat.le_of_ble_eq_true rfl) rfl _) ?_
      generalize up S10 65 16 ((S10 65 16) + (1 : Int32)) = S11 at hw ⊢
      exact wp_st 1 (fun Z => rfl) (show wp E (d + 1) m_m_goes 108 [some (.ref 65), j1] [] (Hp S11) (QV Q) from (hw j1))
set_option maxRecDepth 4000 in
theorem w_m_goes_187 {E : zX} {d : Nat} {S : St}  {Q : St → Prop} (hd : 1 ≤ d) 
    (hw : k_m_byteAt E (d - 1) S (S 65 16) (fun x1 S2 =>
    k_m_isDigit E (d - 1) S2 x1 (fun x3 S4 =>
    if x3 = 0 then (
      ∀ S5, S5 = up S4 65 17 2 →
      ∀ S6, S6 = up S5 65 19 ((S5 65 16) - (S5 65 18)) →
      Q S6)
    else (
      if 4 ≤ ((S4 65 16) - (S4 65 18)) then (
        ∀ S7, S7 = up S4 65 16 ((S4 65 16) + (1 : Int32)) →
        k_m_goes_187 E d S7 Q)
      else (
        k_m_byteAt E (d - 1) S4 (S4 65 16) (fun x8 S9 =>
        ∀ S10, S10 = up S9 65 20 ((((10 : Int32) * (S4 65 20)) + x8) - (48 : Int32)) →
        ∀ S11, S11 = up S10 65 16 ((S10 65 16) + (1 : Int32)) →
        k_m_goes_187 E d S11 Q)))))) :
    k_m_goes_187 E d S Q := by
  obtain ⟨d, rfl⟩ := Nat.exists_eq_add_of_le' hd
  intro j1
  show wp E (d + 1) m_m_goes 187 [some (.ref 65), j1] [] (Hp S) (QV Q)
  refine wp_st (pc' := 189) (L' := [some (.ref 65), j1]) (st' := [.ref 65, .ref 65]) (h' := Hp S) 2 (fun Z => rfl) ?_
  refine wp_st (pc' := 192) (L' := [some (.ref 65), j1]) (st' := [.int (S 65 16), .ref 65]) (h' := Hp S) 1 (fun Z => gfI (E := E) sh65 rfl _) ?_
  refine wp_call (pc' := 195) (rest := []) (fun Z => rfl) (isO_of sh65) hw ?_
  rintro o h1 ⟨x1, S2, rfl, rfl, hw⟩
  refine ⟨_, rfl, ?_⟩
  show wp E (d + 1) m_m_goes 195 [some (.ref 65), j1] [.int x1] (Hp S2) (QV Q)
  refine wp_call (pc' := 198) (rest := []) (fun Z => rfl) rfl hw ?_
  rintro o h1 ⟨x3, S4, rfl, rfl, hw⟩
  refine ⟨_, rfl, ?_⟩
  show wp E (d + 1) m_m_goes 198 [some (.ref 65), j1] [.int x3] (Hp S4) (QV Q)
  by_cases hc : x3 = 0
  · rw [if_pos hc] at hw
    refine wp_st (pc' := 250) (L' := [some (.ref 65), j1]) (st' := []) (h' := Hp S4) 1 (fun Z => if_pos hc) ?_
    refine wp_st (pc' := 252) (L' := [some (.ref 65), j1]) (st' := [.int 2, .ref 65]) (h' := Hp S4) 2 (fun Z => rfl) ?_
    have hw := hw _ rfl
    refine wp_st (pc' := 255) (L' := [some (.ref 65), j1]) (st' := []) (h' := Hp (up S4 65 17 2)) 1 (fun Z => pfI sh65 rfl (Nat.le_of_ble_eq_true rfl) rfl _) ?_
    generalize up S4 65 17 2 = S5 at hw ⊢
    refine wp_st (pc' := 333) (L' := [some (.ref 65), j1]) (st' := [.ref 65, .ref 65]) (h' := Hp S5) 3 (fun Z => rfl) ?_
    refine wp_st (pc' := 336) (L' := [some (.ref 65), j1]) (st' := [.int (S5 65 16), .ref 65]) (h' := Hp S5) 1 (fun Z => gfI (E := E) sh65 rfl _) ?_
    refine wp_st (pc' := 337) (L' := [some (.ref 65), j1]) (st' := [.ref 65, .int (S5 65 16), .ref 65]) (h' := Hp S5) 1 (fun Z => rfl) ?_
    refine wp_st (pc' := 340) (L' := [some (.ref 65), j1]) (st' := [.int (S5 65 18), .int (S5 65 16), .ref 65]) (h' := Hp S5) 1 (fun Z => gfI (E := E) sh65 rfl _) ?_
    refine wp_st (pc' := 341) (L' := [some (.ref 65), j1]) (st' := [.int ((S5 65 16) - (S5 65 18)), .ref 65]) (h' := Hp S5) 1 (fun Z => rfl) ?_
    have hw := hw _ rfl
    refine wp_st (pc' := 344) (L' := [some (.ref 65), j1]) (st' := []) (h' := Hp (up S5 65 19 ((S5 65 16) - (S5 65 18)))) 1 (fun Z => pfI sh65 rfl (Nat.le_of_ble_eq_true rfl) rfl _) ?_
    generalize up S5 65 19 ((S5 65 16) - (S5 65 18)) = S6 at hw ⊢
    exact wp_ret (fun Z => rfl) ⟨_, rfl, rfl, hw⟩
  · rw [if_neg hc] at hw
    refine wp_st (pc' := 201) (L' := [some (.ref 65), j1]) (st' := []) (h' := Hp S4) 1 (fun Z => if_neg hc) ?_
    refine wp_st (pc' := 202) (L' := [some (.ref 65), j1]) (st' := [.ref 65]) (h' := Hp S4) 1 (fun Z => rfl) ?_
    refine wp_st (pc' := 205) (L' := [some (.ref 65), j1]) (st' := [.int (S4 65 16)]) (h' := Hp S4) 1 (fun Z => gfI (E := E) sh65 rfl _) ?_
    refine wp_st (pc' := 206) (L' := [some (.ref 65), j1]) (st' := [.ref 65, .int (S4 65 16)]) (h' := Hp S4) 1 (fun Z => rfl) ?_
    refine wp_st (pc' := 209) (L' := [some (.ref 65), j1]) (st' := [.int (S4 65 18), .int (S4 65 16)]) (h' := Hp S4) 1 (fun Z => gfI (E := E) sh65 rfl _) ?_
    refine wp_st (pc' := 211) (L' := [some (.ref 65), j1]) (st' := [.int 4, .int ((S4 65 16) - (S4 65 18))]) (h' := Hp S4) 2 (fun Z => rfl) ?_
    by_cases hc : 4 ≤ ((S4 65 16) - (S4 65 18))
    · rw [if_pos hc] at hw
      refine wp_st (pc' := 237) (L' := [some (.ref 65), j1]) (st' := []) (h' := Hp S4) 1 (fun Z => if_pos hc) ?_
      refine wp_st (pc' := 239) (L' := [some (.ref 65), j1]) (st' := [.ref 65, .ref 65]) (h' := Hp S4) 2 (fun Z => rfl) ?_
      refine wp_st (pc' := 242) (L' := [some (.ref 65), j1]) (st' := [.int (S4 65 16), .ref 65]) (h' := Hp S4) 1 (fun Z => gfI (E := E) sh65 rfl _) ?_
      refine wp_st (pc' := 244) (L' := [some (.ref 65), j1]) (st' := [.int ((S4 65 16) + (1 : Int32)), .ref 65]) (h' := Hp S4) 2 (fun Z => rfl) ?_
      have hw := hw _ rfl
      refine wp_st (pc' := 247) (L' := [some (.ref 65), j1]) (st' := []) (h' := Hp (up S4 65 16 ((S4 65 16) + (1 : Int32)))) 1 (fun Z => pfI sh65 rfl (Nat.le_of_ble_eq_true rfl) rfl _) ?_
      generalize up S4 65 16 ((S4 65 16) + (1 : Int32)) = S7 at hw ⊢
      exact wp_st 1 (fun Z => rfl) (show wp E (d + 1) m_m_goes 187 [some (.ref 65), j1] [] (Hp S7) (QV Q) from (hw j1))
    · rw [if_neg hc] at hw
      refine wp_st (pc' := 214) (L' := [some (.ref 65), j1]) (st' := []) (h' := Hp S4) 1 (fun Z => if_neg hc) ?_
      refine wp_st (pc' := 218) (L' := [some (.ref 65), j1]) (st' := [.ref 65, .int 10, .ref 65]) (h' := Hp S4) 3 (fun Z => rfl) ?_
      refine wp_st (pc' := 221) (L' := [some (.ref 65), j1]) (st' := [.int (S4 65 20), .int 10, .ref 65]) (h' := Hp S4) 1 (fun Z => gfI (E := E) sh65 rfl _) ?_
      refine wp_st (pc' := 224) (L' := [some (.ref 65), j1]) (st' := [.ref 65, .ref 65, .int ((10 : Int32) * (S4 65 20)), .ref 65]) (h' := Hp S4) 3 (fun Z => rfl) ?_
      refine wp_st (pc' := 227) (L' := [some (.ref 65), j1]) (st' := [.int (S4 65 16), .ref 65, .int ((10 : Int32) * (S4 65 20)), .ref 65]) (h' := Hp S4) 1 (fun Z => gfI (E := E) sh65 rfl _) ?_
      refine wp_call (pc' := 230) (rest := [.int ((10 : Int32) * (S4 65 20)), .ref 65]) (fun Z => rfl) (isO_of sh65) hw ?_
      rintro o h1 ⟨x8, S9, rfl, rfl, hw⟩
      refine ⟨_, rfl, ?_⟩
      show wp E (d + 1) m_m_goes 230 [some (.ref 65), j1] [.int x8, .int ((10 : Int32) * (S4 65 20)), .ref 65] (Hp S9) (QV Q)
      refine wp_st (pc' := 234) (L' := [some (.ref 65), j1]) (st' := [.int ((((10 : Int32) * (S4 65 20)) + x8) - (48 : Int32)), .ref 65]) (h' := Hp S9) 3 (fun Z => rfl) ?_
      have hw := hw _ rfl
      refine wp_st (pc' := 237) (L' := [some (.ref 65), j1]) (st' := []) (h' := Hp (up S9 65 20 ((((10 : Int32) * (S4 65 20)) + x8) - (48 : Int32)))) 1 (fun Z => pfI sh65 rfl (Nat.le_of_ble_eq_true rfl) rfl _) ?_
      generalize up S9 65 20 ((((10 : Int32) * (S4 65 20)) + x8) - (48 : Int32)) = S10 at hw ⊢
      refine wp_st (pc' := 239) (L' := [some (.ref 65), j1]) (st' := [.ref 65, .ref 65]) (h' := Hp S10) 2 (fun Z => rfl) ?_
      refine wp_st (pc' := 242) (L' := [some (.ref 65), j1]) (st' := [.int (S10 65 16), .ref 65]) (h' := Hp S10) 1 (fun Z => gfI (E := E) sh65 rfl _) ?_
      refine wp_st (pc' := 244) (L' := [some (.ref 65), j1]) (st' := [.int ((S10 65 16) + (1 : Int32)), .ref 65]) (h' := Hp S10) 2 (fun Z => rfl) ?_
      have hw := hw _ rfl
      refine wp_st (pc' := 247) (L' := [some (.ref 65), j1]) (st' := []) (h' := Hp (up S10 65 16 ((S10 65 16) + (1 : Int32)))) 1 (fun Z => pfI sh65 rfl (Nat.le_of_ble_eq_true rfl) rfl _) ?_
      generalize up S10 65 16 ((S10 65 16) + (1 : Int32)) = S11 at hw ⊢
      exact wp_st 1 (fun Z => rfl) (show wp E (d + 1) m_m_goes 187 [some (.ref 65), j1] [] (Hp S11) (QV Q) from (hw j1))
set_option maxRecDepth 4000 in
theorem w_m_goes_323 {E : zX} {d : Nat} {S : St}  {Q : St → Prop} (hd : 1 ≤ d) 
    (hw : ∀ S1, S1 = up S 65 17 3 →
    ∀ S2, S2 = up S1 65 19 ((S1 65 16) - (S1 65 18)) →
    Q S2) :
    k_m_goes_323 E d S Q := by
  obtain ⟨d, rfl⟩ := Nat.exists_eq_add_of_le' hd
  intro j1
  show wp E (d + 1) m_m_goes 323 [some (.ref 65), j1] [.ref 65] (Hp S) (QV Q)
  refine wp_st (pc' := 328) (L' := [some (.ref 65), j1]) (st' := [.int 3, .ref 65]) (h' := Hp S) 2 (fun Z => rfl) ?_
  have hw := hw _ rfl
  refine wp_st (pc' := 331) (L' := [some (.ref 65), j1]) (st' := []) (h' := Hp (up S 65 17 3)) 1 (fun Z => pfI sh65 rfl (Nat.le_of_ble_eq_true rfl) rfl _) ?_
  generalize up S 65 17 3 = S1 at hw ⊢
  refine wp_st (pc' := 333) (L' := [some (.ref 65), j1]) (st' := [.ref 65, .ref 65]) (h' := Hp S1) 2 (fun Z => rfl) ?_
  refine wp_st (pc' := 336) (L' := [some (.ref 65), j1]) (st' := [.int (S1 65 16), .ref 65]) (h' := Hp S1) 1 (fun Z => gfI (E := E) sh65 rfl _) ?_
  refine wp_st (pc' := 337) (L' := [some (.ref 65), j1]) (st' := [.ref 65, .int (S1 65 16), .ref 65]) (h' := Hp S1) 1 (fun Z => rfl) ?_
  refine wp_st (pc' := 340) (L' := [some (.ref 65), j1]) (st' := [.int (S1 65 18), .int (S1 65 16), .ref 65]) (h' := Hp S1) 1 (fun Z => gfI (E := E) sh65 rfl _) ?_
  refine wp_st (pc' := 341) (L' := [some (.ref 65), j1]) (st' := [.int ((S1 65 16) - (S1 65 18)), .ref 65]) (h' := Hp S1) 1 (fun Z => rfl) ?_
  have hw := hw _ rfl
  refine wp_st (pc' := 344) (L' := [some (.ref 65), j1]) (st' := []) (h' := Hp (up S1 65 19 ((S1 65 16) - (S1 65 18)))) 1 (fun Z => pfI sh65 rfl (Nat.le_of_ble_eq_true rfl) rfl _) ?_
  generalize up S1 65 19 ((S1 65 16) - (S1 65 18)) = S2 at hw ⊢
  exact wp_ret (fun Z => rfl) ⟨_, rfl, rfl, hw⟩
set_option maxRecDepth 4000 in
theorem w_m_byteAt {E : zX} {d : Nat} {S : St} {a1 : Nat} {Q : Int32 → St → Prop} 
    (hw : if (S 65 15) ≤ (nI a1) then (
      Q (0 : Int32) S)
    else (
      a1 < 700 ∧
      Q (S 69 a1) S)) :
    k_m_byteAt E d S (nI a1) Q := by
  show wp E d m_m_byteAt 0 [some (.ref 65), some (.int (nI a1))] [] (Hp S) (QI Q)
  refine wp_st (pc' := 2) (L' := [some (.ref 65), some (.int (nI a1))]) (st' := [.ref 65, .int (nI a1)]) (h' := Hp S) 2 (fun Z => rfl) ?_
  refine wp_st (pc' := 5) (L' := [some (.ref 65), some (.int (nI a1))]) (st' := [.int (S 65 15), .int (nI a1)]) (h' := Hp S) 1 (fun Z => gfI (E := E) sh65 rfl _) ?_
  by_cases hc : (S 65 15) ≤ (nI a1)
  · rw [if_pos hc] at hw
    refine wp_st (pc' := 17) (L' := [some (.ref 65), some (.int (nI a1))]) (st' := []) (h' := Hp S) 1 (fun Z => if_pos hc) ?_
    refine wp_st (pc' := 18) (L' := [some (.ref 65), some (.int (nI a1))]) (st' := [.int 0]) (h' := Hp S) 1 (fun Z => rfl) ?_
    exact wp_ret (fun Z => rfl) ⟨_, _, rfl, rfl, hw⟩
  · rw [if_neg hc] at hw
    refine wp_st (pc' := 8) (L' := [some (.ref 65), some (.int (nI a1))]) (st' := []) (h' := Hp S) 1 (fun Z => if_neg hc) ?_
    refine wp_st (pc' := 9) (L' := [some (.ref 65), some (.int (nI a1))]) (st' := [.ref 65]) (h' := Hp S) 1 (fun Z => rfl) ?_
    refine wp_st (pc' := 12) (L' := [some (.ref 65), some (.int (nI a1))]) (st' := [.ref 69]) (h' := Hp S) 1 (fun Z => gfR (E := E) sh65 rfl _) ?_
    refine wp_st (pc' := 13) (L' := [some (.ref 65), some (.int (nI a1))]) (st' := [.int (nI a1), .ref 69]) (h' := Hp S) 1 (fun Z => rfl) ?_
    obtain ⟨hi, hw⟩ := hw
    refine wp_st (pc' := 14) (L' := [some (.ref 65), some (.int (nI a1))]) (st' := [.int (S 69 a1)]) (h' := Hp S) 1 (fun Z => ldN (E := E) sh69 (by decide) hi [] (fun st => Z d m_m_byteAt 14 [some (.ref 65), some (.int (nI a1))] st (Hp S))) ?_
    refine wp_st (pc' := 18) (L' := [some (.ref 65), some (.int (nI a1))]) (st' := [.int (S 69 a1)]) (h' := Hp S) 1 (fun Z => rfl) ?_
    exact wp_ret (fun Z => rfl) ⟨_, _, rfl, rfl, hw⟩
set_option maxRecDepth 4000 in
theorem w_m_isLetter {E : zX} {d : Nat} {S : St} {a0 : Int32} {Q : Int32 → St → Prop} 
    (hw : if a0 < 97 then (
      Q (0 : Int32) S)
    else (
      if 122 < a0 then (
        Q (0 : Int32) S)
      else (
        Q (1 : Int32) S))) :
    k_m_isLetter E d S a0 Q := by
  show wp E d m_m_isLetter 0 [some (.int a0)] [] (Hp S) (QI Q)
  refine wp_st (pc' := 3) (L' := [some (.int a0)]) (st' := [.int 97, .int a0]) (h' := Hp S) 2 (fun Z => rfl) ?_
  by_cases hc : a0 < 97
  · rw [if_pos hc] at hw
    refine wp_st (pc' := 16) (L' := [some (.int a0)]) (st' := []) (h' := Hp S) 1 (fun Z => if_pos hc) ?_
    refine wp_st (pc' := 17) (L' := [some (.int a0)]) (st' := [.int 0]) (h' := Hp S) 1 (fun Z => rfl) ?_
    exact wp_ret (fun Z => rfl) ⟨_, _, rfl, rfl, hw⟩
  · rw [if_neg hc] at hw
    refine wp_st (pc' := 6) (L' := [some (.int a0)]) (st' := []) (h' := Hp S) 1 (fun Z => if_neg hc) ?_
    refine wp_st (pc' := 9) (L' := [some (.int a0)]) (st' := [.int 122, .int a0]) (h' := Hp S) 2 (fun Z => rfl) ?_
    by_cases hc : 122 < a0
    · rw [if_pos hc] at hw
      refine wp_st (pc' := 16) (L' := [some (.int a0)]) (st' := []) (h' := Hp S) 1 (fun Z => if_pos hc) ?_
      refine wp_st (pc' := 17) (L' := [some (.int a0)]) (st' := [.int 0]) (h' := Hp S) 1 (fun Z => rfl) ?_
      exact wp_ret (fun Z => rfl) ⟨_, _, rfl, rfl, hw⟩
    · rw [if_neg hc] at hw
      refine wp_st (pc' := 12) (L' := [some (.int a0)]) (st' := []) (h' := Hp S) 1 (fun Z => if_neg hc) ?_
      refine wp_st (pc' := 17) (L' := [some (.int a0)]) (st' := [.int 1]) (h' := Hp S) 2 (fun Z => rfl) ?_
      exact wp_ret (fun Z => rfl) ⟨_, _, rfl, rfl, hw⟩
set_option maxRecDepth 4000 in
theorem w_m_isDigit {E : zX} {d : Nat} {S : St} {a0 : Int32} {Q : Int32 → St → Prop} 
    (hw : if a0 < 48 then (
      Q (0 : Int32) S)
    else (
      if 57 < a0 then (
        Q (0 : Int32) S)
      else (
        Q (1 : Int32) S))) :
    k_m_isDigit E d S a0 Q := by
  show wp E d m_m_isDigit 0 [some (.int a0)] [] (Hp S) (QI Q)
  refine wp_st (pc' := 3) (L' := [some (.int a0)]) (st' := [.int 48, .int a0]) (h' := Hp S) 2 (fun Z => rfl) ?_
  by_cases hc : a0 < 48
  · rw [if_pos hc] at hw
    refine wp_st (pc' := 16) (L' := [some (.int a0)]) (st' := []) (h' := Hp S) 1 (fun Z => if_pos hc) ?_
    refine wp_st (pc' := 17) (L' := [some (.int a0)]) (st' := [.int 0]) (h' := Hp S) 1 (fun Z => rfl) ?_
    exact wp_ret (fun Z => rfl) ⟨_, _, rfl, rfl, hw⟩
  · rw [if_neg hc] at hw
    refine wp_st (pc' := 6) (L' := [some (.int a0)]) (st' := []) (h' := Hp S) 1 (fun Z => if_neg hc) ?_
    refine wp_st (pc' := 9) (L' := [some (.int a0)]) (st' := [.int 57, .int a0]) (h' := Hp S) 2 (fun Z => rfl) ?_
    by_cases hc : 57 < a0
    · rw [if_pos hc] at hw
      refine wp_st (pc' := 16) (L' := [some (.int a0)]) (st' := []) (h' := Hp S) 1 (fun Z => if_pos hc) ?_
      refine wp_st (pc' := 17) (L' := [some (.int a0)]) (st' := [.int 0]) (h' := Hp S) 1 (fun Z => rfl) ?_
      exact wp_ret (fun Z => rfl) ⟨_, _, rfl, rfl, hw⟩
    · rw [if_neg hc] at hw
      refine wp_st (pc' := 12) (L' := [some (.int a0)]) (st' := []) (h' := Hp S) 1 (fun Z => if_neg hc) ?_
      refine wp_st (pc' := 17) (L' := [some (.int a0)]) (st' := [.int 1]) (h' := Hp S) 2 (fun Z => rfl) ?_
      exact wp_ret (fun Z => rfl) ⟨_, _, rfl, rfl, hw⟩
set_option maxRecDepth 4000 in
theorem w_m_knownWord {E : zX} {d : Nat} {S : St}  {Q : Int32 → St → Prop} (hd : 1 ≤ d) 
    (hw : if (S 65 17) = 1 then (
      if (S 65 19) ≤ 6 then (
        k_m_knownWord_21 E d S 0 Q)
      else (
        Q ((-1) : Int32) S))
    else (
      Q ((-1) : Int32) S)) :
    k_m_knownWord E d S Q := by
  obtain ⟨d, rfl⟩ := Nat.exists_eq_add_of_le' hd
  show wp E (d + 1) m_m_knownWord 0 [some (.ref 65), none] [] (Hp S) (QI Q)
  refine wp_st (pc' := 1) (L' := [some (.ref 65), none]) (st' := [.ref 65]) (h' := Hp S) 1 (fun Z => rfl) ?_
  refine wp_st (pc' := 4) (L' := [some (.ref 65), none]) (st' := [.int (S 65 17)]) (h' := Hp S) 1 (fun Z => gfI (E := E) sh65 rfl _) ?_
  refine wp_st (pc' := 5) (L' := [some (.ref 65), none]) (st' := [.int 1, .int (S 65 17)]) (h' := Hp S) 1 (fun Z => rfl) ?_
  by_cases hc : (S 65 17) = 1
  · rw [if_pos hc] at hw
    refine wp_st (pc' := 8) (L' := [some (.ref 65), none]) (st' := []) (h' := Hp S) 1 (fun Z => if_pos hc) ?_
    refine wp_st (pc' := 9) (L' := [some (.ref 65), none]) (st' := [.ref 65]) (h' := Hp S) 1 (fun Z => rfl) ?_
    refine wp_st (pc' := 12) (L' := [some (.ref 65), none]) (st' := [.int (S 65 19)]) (h' := Hp S) 1 (fun Z => gfI (E := E) sh65 rfl _) ?_
    refine wp_st (pc' := 14) (L' := [some (.ref 65), none]) (st' := [.int 6, .int (S 65 19)]) (h' := Hp S) 1 (fun Z => rfl) ?_
    by_cases hc : (S 65 19) ≤ 6
    · rw [if_pos hc] at hw
      refine wp_st (pc' := 19) (L' := [some (.ref 65), none]) (st' := []) (h' := Hp S) 1 (fun Z => if_pos hc) ?_
      exact wp_st 2 (fun Z => rfl) (show wp E (d + 1) m_m_knownWord 21 [some (.ref 65), some (.int 0)] [] (Hp S) (QI Q) from hw)
    · rw [if_neg hc] at hw
      refine wp_st (pc' := 17) (L' := [some (.ref 65), none]) (st' := []) (h' := Hp S) 1 (fun Z => if_neg hc) ?_
      refine wp_st (pc' := 18) (L' := [some (.ref 65), none]) (st' := [.int (-1)]) (h' := Hp S) 1 (fun Z => congrArg (fun v => Z (d + 1) m_m_knownWord 18 [some (.ref 65), none] [.int v] (Hp S)) (show Int32.ofInt (-1) = (-1) by decide)) ?_
      exact wp_ret (fun Z => rfl) ⟨_, _, rfl, rfl, hw⟩
  · rw [if_neg hc] at hw
    refine wp_st (pc' := 17) (L' := [some (.ref 65), none]) (st' := []) (h' := Hp S) 1 (fun Z => if_neg hc) ?_
    refine wp_st (pc' := 18) (L' := [some (.ref 65), none]) (st' := [.int (-1)]) (h' := Hp S) 1 (fun Z => congrArg (fun v => Z (d + 1) m_m_knownWord 18 [some (.ref 65), none] [.int v] (Hp S)) (show Int32.ofInt (-1) = (-1) by decide)) ?_
    exact wp_ret (fun Z => rfl) ⟨_, _, rfl, rfl, hw⟩
set_option maxRecDepth 4000 in
theorem w_m_knownWord_21 {E : zX} {d : Nat} {S : St} {a1 : Nat} {Q : Int32 → St → Prop} (hd : 1 ≤ d) 
    (hw : if nI 17 ≤ (nI a1) then (
      Q ((-1) : Int32) S)
    else (
      k_m_letters E (d - 1) S (nI a1) (fun l1 S2 =>
      if (lg_cmp l1 (catL (S2 65 (hf 22)) (S2 65 (lf 22)))) = 0 then (
        Q (nI a1) S2)
      else (
        k_m_knownWord_21 E d S2 (a1 + 1) Q)))) :
    k_m_knownWord_21 E d S a1 Q := by
  obtain ⟨d, rfl⟩ := Nat.exists_eq_add_of_le' hd
  show wp E (d + 1) m_m_knownWord 21 [some (.ref 65), some (.int (nI a1))] [] (Hp S) (QI Q)
  refine wp_st (pc' := 24) (L' := [some (.ref 65), some (.int (nI a1))]) (st' := [.int 17, .int (nI a1)]) (h' := Hp S) 2 (fun Z => rfl) ?_
  by_cases hc : nI 17 ≤ (nI a1)
  · rw [if_pos hc] at hw
    refine wp_st (pc' := 47) (L' := [some (.ref 65), some (.int (nI a1))]) (st' := []) (h' := Hp S) 1 (fun Z => if_pos hc) ?_
    refine wp_st (pc' := 48) (L' := [some (.ref 65), some (.int (nI a1))]) (st' := [.int (-1)]) (h' := Hp S) 1 (fun Z => congrArg (fun v => Z (d + 1) m_m_knownWord 48 [some (.ref 65), some (.int (nI a1))] [.int v] (Hp S)) (show Int32.ofInt (-1) = (-1) by decide)) ?_
    exact wp_ret (fun Z => rfl) ⟨_, _, rfl, rfl, hw⟩
  · rw [if_neg hc] at hw
    refine wp_st (pc' := 27) (L' := [some (.ref 65), some (.int (nI a1))]) (st' := []) (h' := Hp S) 1 (fun Z => if_neg hc) ?_
    refine wp_st (pc' := 28) (L' := [some (.ref 65), some (.int (nI a1))]) (st' := [.int (nI a1)]) (h' := Hp S) 1 (fun Z => rfl) ?_
    refine wp_call (pc' := 31) (rest := []) (fun Z => rfl) rfl hw ?_
    rintro o h1 ⟨l1, S2, rfl, rfl, hw⟩
    refine ⟨_, rfl, ?_⟩
    show wp E (d + 1) m_m_knownWord 31 [some (.ref 65), some (.int (nI a1))] [.long l1] (Hp S2) (QI Q)
    refine wp_st (pc' := 32) (L' := [some (.ref 65), some (.int (nI a1))]) (st' := [.ref 65, .long l1]) (h' := Hp S2) 1 (fun Z => rfl) ?_
    refine wp_st (pc' := 35) (L' := [some (.ref 65), some (.int (nI a1))]) (st' := [.long (catL (S2 65 (hf 22)) (S2 65 (lf 22))), .long l1]) (h' := Hp S2) 1 (fun Z => gfJ (E := E) sh65 rfl _) ?_
    refine wp_st (pc' := 36) (L' := [some (.ref 65), some (.int (nI a1))]) (st' := [.int (lg_cmp l1 (catL (S2 65 (hf 22)) (S2 65 (lf 22))))]) (h' := Hp S2) 1 (fun Z => rfl) ?_
    by_cases hc : (lg_cmp l1 (catL (S2 65 (hf 22)) (S2 65 (lf 22)))) = 0
    · rw [if_pos hc] at hw
      refine wp_st (pc' := 39) (L' := [some (.ref 65), some (.int (nI a1))]) (st' := []) (h' := Hp S2) 1 (fun Z => if_pos hc) ?_
      refine wp_st (pc' := 40) (L' := [some (.ref 65), some (.int (nI a1))]) (st' := [.int (nI a1)]) (h' := Hp S2) 1 (fun Z => rfl) ?_
      exact wp_ret (fun Z => rfl) ⟨_, _, rfl, rfl, hw⟩
    · rw [if_neg hc] at hw
      refine wp_st (pc' := 41) (L' := [some (.ref 65), some (.int (nI a1))]) (st' := []) (h' := Hp S2) 1 (fun Z => if_neg hc) ?_
      refine wp_st (pc' := 44) (L' := [some (.ref 65), some (.int (nI (a1 + 1)))]) (st' := []) (h' := Hp S2) 1 (fun Z => by rw [← nI_add a1 1]; rfl) ?_
      exact wp_st 1 (fun Z => rfl) (show wp E (d + 1) m_m_knownWord 21 [some (.ref 65), some (.int (nI (a1 + 1)))] [] (Hp S2) (QI Q) from hw)
set_option maxRecDepth 4000 in
theorem w_m_isGood {E : zX} {d : Nat} {S : St}  {Q : Int32 → St → Prop} 
    (hw : if (S 65 12) = 0 then (
      Q (1 : Int32) S)
    else (
      Q (0 : Int32) S)) :
    k_m_isGood E d S Q := by
  show wp E d m_m_isGood 0 [some (.ref 65)] [] (Hp S) (QI Q)
  refine wp_st (pc' := 1) (L' := [some (.ref 65)]) (st' := [.ref 65]) (h' := Hp S) 1 (fun Z => rfl) ?_
  refine wp_st (pc' := 4) (L' := [some (.ref 65)]) (st' := [.int (S 65 12)]) (h' := Hp S) 1 (fun Z => gfI (E := E) sh65 rfl _) ?_
  by_cases hc : (S 65 12) = 0
  · rw [if_pos hc] at hw
    refine wp_st (pc' := 7) (L' := [some (.ref 65)]) (st' := []) (h' := Hp S) 1 (fun Z => if_pos hc) ?_
    refine wp_st (pc' := 12) (L' := [some (.ref 65)]) (st' := [.int 1]) (h' := Hp S) 2 (fun Z => rfl) ?_
    exact wp_ret (fun Z => rfl) ⟨_, _, rfl, rfl, hw⟩
  · rw [if_neg hc] at hw
    refine wp_st (pc' := 11) (L' := [some (.ref 65)]) (st' := []) (h' := Hp S) 1 (fun Z => if_neg hc) ?_
    refine wp_st (pc' := 12) (L' := [some (.ref 65)]) (st' := [.int 0]) (h' := Hp S) 1 (fun Z => rfl) ?_
    exact wp_ret (fun Z => rfl) ⟨_, _, rfl, rfl, hw⟩
set_option maxRecDepth 4000 in
theorem w_m_isSign {E : zX} {d : Nat} {S : St} {a1 : Int32} {Q : Int32 → St → Prop} 
    (hw : if (S 65 17) = 3 then (
      if (S 65 21) = a1 then (
        Q (1 : Int32) S)
      else (
        Q (0 : Int32) S))
    else (
      Q (0 : Int32) S)) :
    k_m_isSign E d S a1 Q := by
  show wp E d m_m_isSign 0 [some (.ref 65), some (.int a1)] [] (Hp S) (QI Q)
  refine wp_st (pc' := 1) (L' := [some (.ref 65), some (.int a1)]) (st' := [.ref 65]) (h' := Hp S) 1 (fun Z => rfl) ?_
  refine wp_st (pc' := 4) (L' := [some (.ref 65), some (.int a1)]) (st' := [.int (S 65 17)]) (h' := Hp S) 1 (fun Z => gfI (E := E) sh65 rfl _) ?_
  refine wp_st (pc' := 5) (L' := [some (.ref 65), some (.int a1)]) (st' := [.int 3, .int (S 65 17)]) (h' := Hp S) 1 (fun Z => rfl) ?_
  by_cases hc : (S 65 17) = 3
  · rw [if_pos hc] at hw
    refine wp_st (pc' := 8) (L' := [some (.ref 65), some (.int a1)]) (st' := []) (h' := Hp S) 1 (fun Z => if_pos hc) ?_
    refine wp_st (pc' := 9) (L' := [some (.ref 65), some (.int a1)]) (st' := [.ref 65]) (h' := Hp S) 1 (fun Z => rfl) ?_
    refine wp_st (pc' := 12) (L' := [some (.ref 65), some (.int a1)]) (st' := [.int (S 65 21)]) (h' := Hp S) 1 (fun Z => gfI (E := E) sh65 rfl _) ?_
    refine wp_st (pc' := 13) (L' := [some (.ref 65), some (.int a1)]) (st' := [.int a1, .int (S 65 21)]) (h' := Hp S) 1 (fun Z => rfl) ?_
    by_cases hc : (S 65 21) = a1
    · rw [if_pos hc] at hw
      refine wp_st (pc' := 16) (L' := [some (.ref 65), some (.int a1)]) (st' := []) (h' := Hp S) 1 (fun Z => if_pos hc) ?_
      refine wp_st (pc' := 21) (L' := [some (.ref 65), some (.int a1)]) (st' := [.int 1]) (h' := Hp S) 2 (fun Z => rfl) ?_
      exact wp_ret (fun Z => rfl) ⟨_, _, rfl, rfl, hw⟩
    · rw [if_neg hc] at hw
      refine wp_st (pc' := 20) (L' := [some (.ref 65), some (.int a1)]) (st' := []) (h' := Hp S) 1 (fun Z => if_neg hc) ?_
      refine wp_st (pc' := 21) (L' := [some (.ref 65), some (.int a1)]) (st' := [.int 0]) (h' := Hp S) 1 (fun Z => rfl) ?_
      exact wp_ret (fun Z => rfl) ⟨_, _, rfl, rfl, hw⟩
  · rw [if_neg hc] at hw
    refine wp_st (pc' := 20) (L' := [some (.ref 65), some (.int a1)]) (st' := []) (h' := Hp S) 1 (fun Z => if_neg hc) ?_
    refine wp_st (pc' := 21) (L' := [some (.ref 65), some (.int a1)]) (st' := [.int 0]) (h' := Hp S) 1 (fun Z => rfl) ?_
    exact wp_ret (fun Z => rfl) ⟨_, _, rfl, rfl, hw⟩
set_option maxRecDepth 4000 in
theorem w_m_begins {E : zX} {d : Nat} {S : St} {a1 : Int32} {a2 : Int32} {Q : Int32 → St → Prop} (hd : 1 ≤ d) 
    (hw : if a1 = 0 then (
      k_m_begins_9 E d S a2 Q)
    else (
      k_m_wrong E (d - 1) S 2 (fun S2 =>
      k_m_begins_9 E d S2 a2 Q))) :
    k_m_begins E d S a1 a2 Q := by
  obtain ⟨d, rfl⟩ := Nat.exists_eq_add_of_le' hd
  show wp E (d + 1) m_m_begins 0 [some (.ref 65), some (.int a1), some (.int a2)] [] (Hp S) (QI Q)
  refine wp_st (pc' := 1) (L' := [some (.ref 65), some (.int a1), some (.int a2)]) (st' := [.int a1]) (h' := Hp S) 1 (fun Z => rfl) ?_
  by_cases hc : a1 = 0
  · rw [if_pos hc] at hw
    refine wp_st (pc' := 9) (L' := [some (.ref 65), some (.int a1), some (.int a2)]) (st' := []) (h' := Hp S) 1 (fun Z => if_pos hc) ?_
    exact (show wp E (d + 1) m_m_begins 9 [some (.ref 65), some (.int a1), some (.int a2)] [] (Hp S) (QI Q) from (hw (some (.int a1))))
  · rw [if_neg hc] at hw
    refine wp_st (pc' := 4) (L' := [some (.ref 65), some (.int a1), some (.int a2)]) (st' := []) (h' := Hp S) 1 (fun Z => if_neg hc) ?_
    refine wp_st (pc' := 6) (L' := [some (.ref 65), some (.int a1), some (.int a2)]) (st' := [.int 2, .ref 65]) (h' := Hp S) 2 (fun Z => rfl) ?_
    refine wp_call (pc' := 9) (rest := []) (fun Z => rfl) (isO_of sh65) hw ?_
    rintro o h1 ⟨S2, rfl, rfl, hw⟩
    refine ⟨_, rfl, ?_⟩
    show wp E (d + 1) m_m_begins 9 [some (.ref 65), some (.int a1), some (.int a2)] [] (Hp S2) (QI Q)
    exact (show wp E (d + 1) m_m_begins 9 [some (.ref 65), some (.int a1), some (.int a2)] [] (Hp S2) (QI Q) from (hw (some (.int a1))))
set_option maxRecDepth 4000 in
theorem w_m_begins_9 {E : zX} {d : Nat} {S : St} {a2 : Int32} {Q : Int32 → St → Prop} (hd : 1 ≤ d) 
    (hw : if a2 = 0 then (
      k_m_isGood E (d - 1) S (fun x1 S2 =>
      if x1 = 0 then (
        Q (0 : Int32) S2)
      else (
        k_m_goes E (d - 1) S2 (fun S4 =>
        Q (1 : Int32) S4))))
    else (
      k_m_wrong E (d - 1) S 5 (fun S6 =>
      k_m_isGood E (d - 1) S6 (fun x7 S8 =>
      if x7 = 0 then (
        Q (0 : Int32) S8)
      else (
        k_m_goes E (d - 1) S8 (fun S10 =>
        Q (1 : Int32) S10)))))) :
    k_m_begins_9 E d S a2 Q := by
  obtain ⟨d, rfl⟩ := Nat.exists_eq_add_of_le' hd
  intro j1
  show wp E (d + 1) m_m_begins 9 [some (.ref 65), j1, some (.int a2)] [] (Hp S) (QI Q)
  refine wp_st (pc' := 10) (L' := [some (.ref 65), j1, some (.int a2)]) (st' := [.int a2]) (h' := Hp S) 1 (fun Z => rfl) ?_
  by_cases hc : a2 = 0
  · rw [if_pos hc] at hw
    refine wp_st (pc' := 18) (L' := [some (.ref 65), j1, some (.int a2)]) (st' := []) (h' := Hp S) 1 (fun Z => if_pos hc) ?_
    refine wp_st (pc' := 19) (L' := [some (.ref 65), j1, some (.int a2)]) (st' := [.ref 65]) (h' := Hp S) 1 (fun Z => rfl) ?_
    refine wp_call (pc' := 22) (rest := []) (fun Z => rfl) (isO_of sh65) hw ?_
    rintro o h1 ⟨x1, S2, rfl, rfl, hw⟩
    refine ⟨_, rfl, ?_⟩
    show wp E (d + 1) m_m_begins 22 [some (.ref 65), j1, some (.int a2)] [.int x1] (Hp S2) (QI Q)
    by_cases hc : x1 = 0
    · rw [if_pos hc] at hw
      refine wp_st (pc' := 25) (L' := [some (.ref 65), j1, some (.int a2)]) (st' := []) (h' := Hp S2) 1 (fun Z => if_pos hc) ?_
      refine wp_st (pc' := 26) (L' := [some (.ref 65), j1, some (.int a2)]) (st' := [.int 0]) (h' := Hp S2) 1 (fun Z => rfl) ?_
      exact wp_ret (fun Z => rfl) ⟨_, _, rfl, rfl, hw⟩
    · rw [if_neg hc] at hw
      refine wp_st (pc' := 27) (L' := [some (.ref 65), j1, some (.int a2)]) (st' := []) (h' := Hp S2) 1 (fun Z => if_neg hc) ?_
      refine wp_st (pc' := 28) (L' := [some (.ref 65), j1, some (.int a2)]) (st' := [.ref 65]) (h' := Hp S2) 1 (fun Z => rfl) ?_
      refine wp_call (pc' := 31) (rest := []) (fun Z => rfl) (isO_of sh65) hw ?_
      rintro o h1 ⟨S4, rfl, rfl, hw⟩
      refine ⟨_, rfl, ?_⟩
      show wp E (d + 1) m_m_begins 31 [some (.ref 65), j1, some (.int a2)] [] (Hp S4) (QI Q)
      refine wp_st (pc' := 32) (L' := [some (.ref 65), j1, some (.int a2)]) (st' := [.int 1]) (h' := Hp S4) 1 (fun Z => rfl) ?_
      exact wp_ret (fun Z => rfl) ⟨_, _, rfl, rfl, hw⟩
  · rw [if_neg hc] at hw
    refine wp_st (pc' := 13) (L' := [some (.ref 65), j1, some (.int a2)]) (st' := []) (h' := Hp S) 1 (fun Z => if_neg hc) ?_
    refine wp_st (pc' := 15) (L' := [some (.ref 65), j1, some (.int a2)]) (st' := [.int 5, .ref 65]) (h' := Hp S) 2 (fun Z => rfl) ?_
    refine wp_call (pc' := 18) (rest := []) (fun Z => rfl) (isO_of sh65) hw ?_
    rintro o h1 ⟨S6, rfl, rfl, hw⟩
    refine ⟨_, rfl, ?_⟩
    show wp E (d + 1) m_m_begins 18 [some (.ref 65), j1, some (.int a2)] [] (Hp S6) (QI Q)
    refine wp_st (pc' := 19) (L' := [some (.ref 65), j1, some (.int a2)]) (st' := [.ref 65]) (h' := Hp S6) 1 (fun Z => rfl) ?_
    refine wp_call (pc' := 22) (rest := []) (fun Z => rfl) (isO_of sh65) hw ?_
    rintro o h1 ⟨x7, S8, rfl, rfl, hw⟩
    refine ⟨_, rfl, ?_⟩
    show wp E (d + 1) m_m_begins 22 [some (.ref 65), j1, some (.int a2)] [.int x7] (Hp S8) (QI Q)
    by_cases hc : x7 = 0
    · rw [if_pos hc] at hw
      refine wp_st (pc' := 25) (L' := [some (.ref 65), j1, some (.int a2)]) (st' := []) (h' := Hp S8) 1 (fun Z => if_pos hc) ?_
      refine wp_st (pc' := 26) (L' := [some (.ref 65), j1, some (.int a2)]) (st' := [.int 0]) (h' := Hp S8) 1 (fun Z => rfl) ?_
      exact wp_ret (fun Z => rfl) ⟨_, _, rfl, rfl, hw⟩
    · rw [if_neg hc] at hw
      refine wp_st (pc' := 27) (L' := [some (.ref 65), j1, some (.int a2)]) (st' := []) (h' := Hp S8) 1 (fun Z => if_neg hc) ?_
      refine wp_st (pc' := 28) (L' := [some (.ref 65), j1, some (.int a2)]) (st' := [.ref 65]) (h' := Hp S8) 1 (fun Z => rfl) ?_
      refine wp_call (pc' := 31) (rest := []) (fun Z => rfl) (isO_of sh65) hw ?_
      rintro o h1 ⟨S10, rfl, rfl, hw⟩
      refine ⟨_, rfl, ?_⟩
      show wp E (d + 1) m_m_begins 31 [some (.ref 65), j1, some (.int a2)] [] (Hp S10) (QI Q)
      refine wp_st (pc' := 32) (L' := [some (.ref 65), j1, some (.int a2)]) (st' := [.int 1]) (h' := Hp S10) 1 (fun Z => rfl) ?_
      exact wp_ret (fun Z => rfl) ⟨_, _, rfl, rfl, hw⟩
set_option maxRecDepth 4000 in
theorem w_m_cellHere {E : zX} {d : Nat} {S : St}  {Q : Int32 → St → Prop} (hd : 1 ≤ d) 
    (hw : k_m_isGood E (d - 1) S (fun x1 S2 =>
    if x1 = 0 then (
      Q (0 : Int32) S2)
    else (
      if (S2 65 17) = 2 then (
        if (S2 65 19) ≤ 4 then (
          if (S2 65 20) < ((S2 65 23) * (S2 65 24)) then (
            k_m_cellHere_62 E d S2 Q)
          else (
            k_m_wrong E (d - 1) S2 3 (fun S4 =>
            k_m_cellHere_62 E d S4 Q)))
        else (
          k_m_wrong E (d - 1) S2 2 (fun S6 =>
          k_m_cellHere_62 E d S6 Q)))
      else (
        k_m_wrong E (d - 1) S2 1 (fun S8 =>
        k_m_cellHere_62 E d S8 Q))))) :
    k_m_cellHere E d S Q := by
  obtain ⟨d, rfl⟩ := Nat.exists_eq_add_of_le' hd
  show wp E (d + 1) m_m_cellHere 0 [some (.ref 65), none] [] (Hp S) (QI Q)
  refine wp_st (pc' := 1) (L' := [some (.ref 65), none]) (st' := [.ref 65]) (h' := Hp S) 1 (fun Z => rfl) ?_
  refine wp_call (pc' := 4) (rest := []) (fun Z => rfl) (isO_of sh65) hw ?_
  rintro o h1 ⟨x1, S2, rfl, rfl, hw⟩
  refine ⟨_, rfl, ?_⟩
  show wp E (d + 1) m_m_cellHere 4 [some (.ref 65), none] [.int x1] (Hp S2) (QI Q)
  by_cases hc : x1 = 0
  · rw [if_pos hc] at hw
    refine wp_st (pc' := 7) (L' := [some (.ref 65), none]) (st' := []) (h' := Hp S2) 1 (fun Z => if_pos hc) ?_
    refine wp_st (pc' := 8) (L' := [some (.ref 65), none]) (st' := [.int 0]) (h' := Hp S2) 1 (fun Z => rfl) ?_
    exact wp_ret (fun Z => rfl) ⟨_, _, rfl, rfl, hw⟩
  · rw [if_neg hc] at hw
    refine wp_st (pc' := 9) (L' := [some (.ref 65), none]) (st' := []) (h' := Hp S2) 1 (fun Z => if_neg hc) ?_
    refine wp_st (pc' := 10) (L' := [some (.ref 65), none]) (st' := [.ref 65]) (h' := Hp S2) 1 (fun Z => rfl) ?_
    refine wp_st (pc' := 13) (L' := [some (.ref 65), none]) (st' := [.int (S2 65 17)]) (h' := Hp S2) 1 (fun Z => gfI (E := E) sh65 rfl _) ?_
    refine wp_st (pc' := 14) (L' := [some (.ref 65), none]) (st' := [.int 2, .int (S2 65 17)]) (h' := Hp S2) 1 (fun Z => rfl) ?_
    by_cases hc : (S2 65 17) = 2
    · rw [if_pos hc] at hw
      refine wp_st (pc' := 25) (L' := [some (.ref 65), none]) (st' := []) (h' := Hp S2) 1 (fun Z => if_pos hc) ?_
      refine wp_st (pc' := 26) (L' := [some (.ref 65), none]) (st' := [.ref 65]) (h' := Hp S2) 1 (fun Z => rfl) ?_
      refine wp_st (pc' := 29) (L' := [some (.ref 65), none]) (st' := [.int (S2 65 19)]) (h' := Hp S2) 1 (fun Z => gfI (E := E) sh65 rfl _) ?_
      refine wp_st (pc' := 30) (L' := [some (.ref 65), none]) (st' := [.int 4, .int (S2 65 19)]) (h' := Hp S2) 1 (fun Z => rfl) ?_
      by_cases hc : (S2 65 19) ≤ 4
      · rw [if_pos hc] at hw
        refine wp_st (pc' := 41) (L' := [some (.ref 65), none]) (st' := []) (h' := Hp S2) 1 (fun Z => if_pos hc) ?_
        refine wp_st (pc' := 42) (L' := [some (.ref 65), none]) (st' := [.ref 65]) (h' := Hp S2) 1 (fun Z => rfl) ?_
        refine wp_st (pc' := 45) (L' := [some (.ref 65), none]) (st' := [.int (S2 65 20)]) (h' := Hp S2) 1 (fun Z => gfI (E := E) sh65 rfl _) ?_
        refine wp_st (pc' := 46) (L' := [some (.ref 65), none]) (st' := [.ref 65, .int (S2 65 20)]) (h' := Hp S2) 1 (fun Z => rfl) ?_
        refine wp_st (pc' := 49) (L' := [some (.ref 65), none]) (st' := [.int (S2 65 23), .int (S2 65 20)]) (h' := Hp S2) 1 (fun Z => gfI (E := E) sh65 rfl _) ?_
        refine wp_st (pc' := 50) (L' := [some (.ref 65), none]) (st' := [.ref 65, .int (S2 65 23), .int (S2 65 20)]) (h' := Hp S2) 1 (fun Z => rfl) ?_
        refine wp_st (pc' := 53) (L' := [some (.ref 65), none]) (st' := [.int (S2 65 24), .int (S2 65 23), .int (S2 65 20)]) (h' := Hp S2) 1 (fun Z => gfI (E := E) sh65 rfl _) ?_
        refine wp_st (pc' := 54) (L' := [some (.ref 65), none]) (st' := [.int ((S2 65 23) * (S2 65 24)), .int (S2 65 20)]) (h' := Hp S2) 1 (fun Z => rfl) ?_
        by_cases hc : (S2 65 20) < ((S2 65 23) * (S2 65 24))
        · rw [if_pos hc] at hw
          refine wp_st (pc' := 62) (L' := [some (.ref 65), none]) (st' := []) (h' := Hp S2) 1 (fun Z => if_pos hc) ?_
          exact (show wp E (d + 1) m_m_cellHere 62 [some (.ref 65), none] [] (Hp S2) (QI Q) from (hw none))
        · rw [if_neg hc] at hw
          refine wp_st (pc' := 57) (L' := [some (.ref 65), none]) (st' := []) (h' := Hp S2) 1 (fun Z => if_neg hc) ?_
          refine wp_st (pc' := 59) (L' := [some (.ref 65), none]) (st' := [.int 3, .ref 65]) (h' := Hp S2) 2 (fun Z => rfl) ?_
          refine wp_call (pc' := 62) (rest := []) (fun Z => rfl) (isO_of sh65) hw ?_
          rintro o h1 ⟨S4, rfl, rfl, hw⟩
          refine ⟨_, rfl, ?_⟩
          show wp E (d + 1) m_m_cellHere 62 [some (.ref 65), none] [] (Hp S4) (QI Q)
          exact (show wp E (d + 1) m_m_cellHere 62 [some (.ref 65), none] [] (Hp S4) (QI Q) from (hw none))
      · rw [if_neg hc] at hw
        refine wp_st (pc' := 33) (L' := [some (.ref 65), none]) (st' := []) (h' := Hp S2) 1 (fun Z => if_neg hc) ?_
        refine wp_st (pc' := 35) (L' := [some (.ref 65), none]) (st' := [.int 2, .ref 65]) (h' := Hp S2) 2 (fun Z => rfl) ?_
        refine wp_call (pc' := 38) (rest := []) (fun Z => rfl) (isO_of sh65) hw ?_
        rintro o h1 ⟨S6, rfl, rfl, hw⟩
        refine ⟨_, rfl, ?_⟩
        show wp E (d + 1) m_m_cellHere 38 [some (.ref 65), none] [] (Hp S6) (QI Q)
        exact wp_st 1 (fun Z => rfl) (show wp E (d + 1) m_m_cellHere 62 [some (.ref 65), none] [] (Hp S6) (QI Q) from (hw none))
    · rw [if_neg hc] at hw
      refine wp_st (pc' := 17) (L' := [some (.ref 65), none]) (st' := []) (h' := Hp S2) 1 (fun Z => if_neg hc) ?_
      refine wp_st (pc' := 19) (L' := [some (.ref 65), none]) (st' := [.int 1, .ref 65]) (h' := Hp S2) 2 (fun Z => rfl) ?_
      refine wp_call (pc' := 22) (rest := []) (fun Z => rfl) (isO_of sh65) hw ?_
      rintro o h1 ⟨S8, rfl, rfl, hw⟩
      refine ⟨_, rfl, ?_⟩
      show wp E (d + 1) m_m_cellHere 22 [some (.ref 65), none] [] (Hp S8) (QI Q)
      exact wp_st 1 (fun Z => rfl) (show wp E (d + 1) m_m_cellHere 62 [some (.ref 65), none] [] (Hp S8) (QI Q) from (hw none))
set_option maxRecDepth 4000 in
theorem w_m_cellHere_62 {E : zX} {d : Nat} {S : St}  {Q : Int32 → St → Prop} (hd : 1 ≤ d) 
    (hw : k_m_isGood E (d - 1) S (fun x1 S2 =>
    if x1 = 0 then (
      Q (S 65 20) S2)
    else (
      k_m_goes E (d - 1) S2 (fun S4 =>
      Q (S 65 20) S4)))) :
    k_m_cellHere_62 E d S Q := by
  obtain ⟨d, rfl⟩ := Nat.exists_eq_add_of_le' hd
  intro j1
  show wp E (d + 1) m_m_cellHere 62 [some (.ref 65), j1] [] (Hp S) (QI Q)
  refine wp_st (pc' := 63) (L' := [some (.ref 65), j1]) (st' := [.ref 65]) (h' := Hp S) 1 (fun Z => rfl) ?_
  refine wp_st (pc' := 66) (L' := [some (.ref 65), j1]) (st' := [.int (S 65 20)]) (h' := Hp S) 1 (fun Z => gfI (E := E) sh65 rfl _) ?_
  refine wp_st (pc' := 68) (L' := [some (.ref 65), some (.int (S 65 20))]) (st' := [.ref 65]) (h' := Hp S) 2 (fun Z => rfl) ?_
  refine wp_call (pc' := 71) (rest := []) (fun Z => rfl) (isO_of sh65) hw ?_
  rintro o h1 ⟨x1, S2, rfl, rfl, hw⟩
  refine ⟨_, rfl, ?_⟩
  show wp E (d + 1) m_m_cellHere 71 [some (.ref 65), some (.int (S 65 20))] [.int x1] (Hp S2) (QI Q)
  by_cases hc : x1 = 0
  · rw [if_pos hc] at hw
    refine wp_st (pc' := 78) (L' := [some (.ref 65), some (.int (S 65 20))]) (st' := []) (h' := Hp S2) 1 (fun Z => if_pos hc) ?_
    refine wp_st (pc' := 79) (L' := [some (.ref 65), some (.int (S 65 20))]) (st' := [.int (S 65 20)]) (h' := Hp S2) 1 (fun Z => rfl) ?_
    exact wp_ret (fun Z => rfl) ⟨_, _, rfl, rfl, hw⟩
  · rw [if_neg hc] at hw
    refine wp_st (pc' := 74) (L' := [some (.ref 65), some (.int (S 65 20))]) (st' := []) (h' := Hp S2) 1 (fun Z => if_neg hc) ?_
    refine wp_st (pc' := 75) (L' := [some (.ref 65), some (.int (S 65 20))]) (st' := [.ref 65]) (h' := Hp S2) 1 (fun Z => rfl) ?_
    refine wp_call (pc' := 78) (rest := []) (fun Z => rfl) (isO_of sh65) hw ?_
    rintro o h1 ⟨S4, rfl, rfl, hw⟩
    refine ⟨_, rfl, ?_⟩
    show wp E (d + 1) m_m_cellHere 78 [some (.ref 65), some (.int (S 65 20))] [] (Hp S4) (QI Q)
    refine wp_st (pc' := 79) (L' := [some (.ref 65), some (.int (S 65 20))]) (st' := [.int (S 65 20)]) (h' := Hp S4) 1 (fun Z => rfl) ?_
    exact wp_ret (fun Z => rfl) ⟨_, _, rfl, rfl, hw⟩
set_option maxRecDepth 4000 in
theorem w_m_expression {E : zX} {d : Nat} {S : St} {a1 : Int32} {a2 : Int32} {Q : St → Prop} (hd : 1 ≤ d) 
    (hw : k_m_isGood E (d - 1) S (fun x1 S2 =>
    if x1 = 0 then (
      Q S2)
    else (
      ∀ S3, S3 = up S2 65 30 a1 →
      ∀ S4, S4 = up S3 65 31 a2 →
      ∀ S5, S5 = up S4 65 32 0 →
      ∀ S6, S6 = up S5 65 33 0 →
      k_m_deeper E (d - 1) S6 (fun S8 =>
      k_m_operand E (d - 1) S8 1 (fun S10 =>
      k_m_expression_39 E d S10 1 Q))))) :
    k_m_expression E d S a1 a2 Q := by
  obtain ⟨d, rfl⟩ := Nat.exists_eq_add_of_le' hd
  show wp E (d + 1) m_m_expression 0 [some (.ref 65), some (.int a1), some (.int a2), none, none] [] (Hp S) (QV Q)
  refine wp_st (pc' := 1) (L' := [some (.ref 65), some (.int a1), some (.int a2), none, none]) (st' := [.ref 65]) (h' := Hp S) 1 (fun Z => rfl) ?_
  refine wp_call (pc' := 4) (rest := []) (fun Z => rfl) (isO_of sh65) hw ?_
  rintro o h1 ⟨x1, S2, rfl, rfl, hw⟩
  refine ⟨_, rfl, ?_⟩
  show wp E (d + 1) m_m_expression 4 [some (.ref 65), some (.int a1), some (.int a2), none, none] [.int x1] (Hp S2) (QV Q)
  by_cases hc : x1 = 0
  · rw [if_pos hc] at hw
    refine wp_st (pc' := 7) (L' := [some (.ref 65), some (.int a1), some (.int a2), none, none]) (st' := []) (h' := Hp S2) 1 (fun Z => if_pos hc) ?_
    exact wp_ret (fun Z => rfl) ⟨_, rfl, rfl, hw⟩
  · rw [if_neg hc] at hw
    refine wp_st (pc' := 8) (L' := [some (.ref 65), some (.int a1), some (.int a2), none, none]) (st' := []) (h' := Hp S2) 1 (fun Z => if_neg hc) ?_
    refine wp_st (pc' := 10) (L' := [some (.ref 65), some (.int a1), some (.int a2), none, none]) (st' := [.int a1, .ref 65]) (h' := Hp S2) 2 (fun Z => rfl) ?_
    have hw := hw _ rfl
    refine wp_st (pc' := 13) (L' := [some (.ref 65), some (.int a1), some (.int a2), none, none]) (st' := []) (h' := Hp (up S2 65 30 a1)) 1 (fun Z => pfI sh65 rfl (Nat.le_of_ble_eq_true rfl) rfl _) ?_
    generalize up S2 65 30 a1 = S3 at hw ⊢
    refine wp_st (pc' := 15) (L' := [some (.ref 65), some (.int a1), some (.int a2), none, none]) (st' := [.int a2, .ref 65]) (h' := Hp S3) 2 (fun Z => rfl) ?_
    have hw := hw _ rfl
    refine wp_st (pc' := 18) (L' := [some (.ref 65), some (.int a1), some (.int a2), none, none]) (st' := []) (h' := Hp (up S3 65 31 a2)) 1 (fun Z => pfI sh65 rfl (Nat.le_of_ble_eq_true rfl) rfl _) ?_
    generalize up S3 65 31 a2 = S4 at hw ⊢
    refine wp_st (pc' := 20) (L' := [some (.ref 65), some (.int a1), some (.int a2), none, none]) (st' := [.int 0, .ref 65]) (h' := Hp S4) 2 (fun Z => rfl) ?_
    have hw := hw _ rfl
    refine wp_st (pc' := 23) (L' := [some (.ref 65), some (.int a1), some (.int a2), none, none]) (st' := []) (h' := Hp (up S4 65 32 0)) 1 (fun Z => pfI sh65 rfl (Nat.le_of_ble_eq_true rfl) rfl _) ?_
    generalize up S4 65 32 0 = S5 at hw ⊢
    refine wp_st (pc' := 25) (L' := [some (.ref 65), some (.int a1), some (.int a2), none, none]) (st' := [.int 0, .ref 65]) (h' := Hp S5) 2 (fun Z => rfl) ?_
    have hw := hw _ rfl
    refine wp_st (pc' := 28) (L' := [some (.ref 65), some (.int a1), some (.int a2), none, none]) (st' := []) (h' := Hp (up S5 65 33 0)) 1 (fun Z => pfI sh65 rfl (Nat.le_of_ble_eq_true rfl) rfl _) ?_
    generalize up S5 65 33 0 = S6 at hw ⊢
    refine wp_st (pc' := 29) (L' := [some (.ref 65), some (.int a1), some (.int a2), none, none]) (st' := [.ref 65]) (h' := Hp S6) 1 (fun Z => rfl) ?_
    refine wp_call (pc' := 32) (rest := []) (fun Z => rfl) (isO_of sh65) hw ?_
    rintro o h1 ⟨S8, rfl, rfl, hw⟩
    refine ⟨_, rfl, ?_⟩
    show wp E (d + 1) m_m_expression 32 [some (.ref 65), some (.int a1), some (.int a2), none, none] [] (Hp S8) (QV Q)
    refine wp_st (pc' := 34) (L' := [some (.ref 65), some (.int a1), some (.int a2), none, none]) (st' := [.int 1, .ref 65]) (h' := Hp S8) 2 (fun Z => rfl) ?_
    refine wp_call (pc' := 37) (rest := []) (fun Z => rfl) (isO_of sh65) hw ?_
    rintro o h1 ⟨S10, rfl, rfl, hw⟩
    refine ⟨_, rfl, ?_⟩
    show wp E (d + 1) m_m_expression 37 [some (.ref 65), some (.int a1), some (.int a2), none, none] [] (Hp S10) (QV Q)
    exact wp_st 2 (fun Z => rfl) (show wp E (d + 1) m_m_expression 39 [some (.ref 65), some (.int a1), some (.int a2), some (.int 1), none] [] (Hp S10) (QV Q) from (hw (some (.int a1)) (some (.int a2)) none))
set_option maxRecDepth 4000 in
theorem w_m_expression_39 {E : zX} {d : Nat} {S : St} {a3 : Int32} {Q : St → Prop} (hd : 1 ≤ d) 
    (hw : if a3 = 0 then (
      k_m_expression_340 E d S Q)
    else (
      k_m_isGood E (d - 1) S (fun x1 S2 =>
      if x1 = 0 then (
        k_m_expression_340 E d S2 Q)
      else (
        k_m_knownWord E (d - 1) S2 (fun x3 S4 =>
        if x3 = 14 then (
          k_m_expression_70 E d S4 a3 x3 Q)
        else (
          if x3 = 15 then (
            k_m_expression_70 E d S4 a3 x3 Q)
          else (
            k_m_isSign E (d - 1) S4 60 (fun x5 S6 =>
            if x5 = 0 then (
              k_m_isSign E (d - 1) S6 61 (fun x7 S8 =>
              if x7 = 0 then (
                k_m_expression_201 E d S8 a3 Q)
              else (
                k_m_expression_142 E d S8 a3 Q)))
            else (
              k_m_expression_142 E d S6 a3 Q))))))))) :
    k_m_expression_39 E d S a3 Q := by
  obtain ⟨d, rfl⟩ := Nat.exists_eq_add_of_le' hd
  intro j1 j2 j4
  show wp E (d + 1) m_m_expression 39 [some (.ref 65), j1, j2, some (.int a3), j4] [] (Hp S) (QV Q)
  refine wp_st (pc' := 40) (L' := [some (.ref 65), j1, j2, some (.int a3), j4]) (st' := [.int a3]) (h' := Hp S) 1 (fun Z => rfl) ?_
  by_cases hc : a3 = 0
  · rw [if_pos hc] at hw
    refine wp_st (pc' := 340) (L' := [some (.ref 65), j1, j2, some (.int a3), j4]) (st' := []) (h' := Hp S) 1 (fun Z => if_pos hc) ?_
    exact (show wp E (d + 1) m_m_expression 340 [some (.ref 65), j1, j2, some (.int a3), j4] [] (Hp S) (QV Q) from (hw j1 j2 (some (.int a3)) j4))
  · rw [if_neg hc] at hw
    refine wp_st (pc' := 43) (L' := [some (.ref 65), j1, j2, some (.int a3), j4]) (st' := []) (h' := Hp S) 1 (fun Z => if_neg hc) ?_
    refine wp_st (pc' := 44) (L' := [some (.ref 65), j1, j2, some (.int a3), j4]) (st' := [.ref 65]) (h' := Hp S) 1 (fun Z => rfl) ?_
    refine wp_call (pc' := 47) (rest := []) (fun Z => rfl) (isO_of sh65) hw ?_
    rintro o h1 ⟨x1, S2, rfl, rfl, hw⟩
    refine ⟨_, rfl, ?_⟩
    show wp E (d + 1) m_m_expression 47 [some (.ref 65), j1, j2, some (.int a3), j4] [.int x1] (Hp S2) (QV Q)
    by_cases hc : x1 = 0
    · rw [if_pos hc] at hw
      refine wp_st (pc' := 340) (L' := [some (.ref 65), j1, j2, some (.int a3), j4]) (st' := []) (h' := Hp S2) 1 (fun Z => if_pos hc) ?_
      exact (show wp E (d + 1) m_m_expression 340 [some (.ref 65), j1, j2, some (.int a3), j4] [] (Hp S2) (QV Q) from (hw j1 j2 (some (.int a3)) j4))
    · rw [if_neg hc] at hw
      refine wp_st (pc' := 50) (L' := [some (.ref 65), j1, j2, some (.int a3), j4]) (st' := []) (h' := Hp S2) 1 (fun Z => if_neg hc) ?_
      refine wp_st (pc' := 51) (L' := [some (.ref 65), j1, j2, some (.int a3), j4]) (st' := [.ref 65]) (h' := Hp S2) 1 (fun Z => rfl) ?_
      refine wp_call (pc' := 54) (rest := []) (fun Z => rfl) (isO_of sh65) hw ?_
      rintro o h1 ⟨x3, S4, rfl, rfl, hw⟩
      refine ⟨_, rfl, ?_⟩
      show wp E (d + 1) m_m_expression 54 [some (.ref 65), j1, j2, some (.int a3), j4] [.int x3] (Hp S4) (QV Q)
      refine wp_st (pc' := 60) (L' := [some (.ref 65), j1, j2, some (.int a3), some (.int x3)]) (st' := [.int 14, .int x3]) (h' := Hp S4) 3 (fun Z => rfl) ?_
      by_cases hc : x3 = 14
      · rw [if_pos hc] at hw
        refine wp_st (pc' := 70) (L' := [some (.ref 65), j1, j2, some (.int a3), some (.int x3)]) (st' := []) (h' := Hp S4) 1 (fun Z => if_pos hc) ?_
        exact (show wp E (d + 1) m_m_expression 70 [some (.ref 65), j1, j2, some (.int a3), some (.int x3)] [] (Hp S4) (QV Q) from (hw j1 j2))
      · rw [if_neg hc] at hw
        refine wp_st (pc' := 63) (L' := [some (.ref 65), j1, j2, some (.int a3), some (.int x3)]) (st' := []) (h' := Hp S4) 1 (fun Z => if_neg hc) ?_
        refine wp_st (pc' := 67) (L' := [some (.ref 65), j1, j2, some (.int a3), some (.int x3)]) (st' := [.int 15, .int x3]) (h' := Hp S4) 2 (fun Z => rfl) ?_
        by_cases hc : x3 = 15
        · rw [if_pos hc] at hw
          refine wp_st (pc' := 70) (L' := [some (.ref 65), j1, j2, some (.int a3), some (.int x3)]) (st' := []) (h' := Hp S4) 1 (fun Z => if_pos hc) ?_
          exact (show wp E (d + 1) m_m_expression 70 [some (.ref 65), j1, j2, some (.int a3), some (.int x3)] [] (Hp S4) (QV Q) from (hw j1 j2))
        · rw [if_neg hc] at hw
          refine wp_st (pc' := 124) (L' := [some (.ref 65), j1, j2, some (.int a3), some (.int x3)]) (st' := []) (h' := Hp S4) 1 (fun Z => if_neg hc) ?_
          refine wp_st (pc' := 127) (L' := [some (.ref 65), j1, j2, some (.int a3), some (.int x3)]) (st' := [.int 60, .ref 65]) (h' := Hp S4) 2 (fun Z => rfl) ?_
          refine wp_call (pc' := 130) (rest := []) (fun Z => rfl) (isO_of sh65) hw ?_
          rintro o h1 ⟨x5, S6, rfl, rfl, hw⟩
          refine ⟨_, rfl, ?_⟩
          show wp E (d + 1) m_m_expression 130 [some (.ref 65), j1, j2, some (.int a3), some (.int x3)] [.int x5] (Hp S6) (QV Q)
          by_cases hc : x5 = 0
          · rw [if_pos hc] at hw
            refine wp_st (pc' := 133) (L' := [some (.ref 65), j1, j2, some (.int a3), some (.int x3)]) (st' := []) (h' := Hp S6) 1 (fun Z => if_pos hc) ?_
            refine wp_st (pc' := 136) (L' := [some (.ref 65), j1, j2, some (.int a3), some (.int x3)]) (st' := [.int 61, .ref 65]) (h' := Hp S6) 2 (fun Z => rfl) ?_
            refine wp_call (pc' := 139) (rest := []) (fun Z => rfl) (isO_of sh65) hw ?_
            rintro o h1 ⟨x7, S8, rfl, rfl, hw⟩
            refine ⟨_, rfl, ?_⟩
            show wp E (d + 1) m_m_expression 139 [some (.ref 65), j1, j2, some (.int a3), some (.int x3)] [.int x7] (Hp S8) (QV Q)
            by_cases hc : x7 = 0
            · rw [if_pos hc] at hw
              refine wp_st (pc' := 201) (L' := [some (.ref 65), j1, j2, some (.int a3), some (.int x3)]) (st' := []) (h' := Hp S8) 1 (fun Z => if_pos hc) ?_
              exact (show wp E (d + 1) m_m_expression 201 [some (.ref 65), j1, j2, some (.int a3), some (.int x3)] [] (Hp S8) (QV Q) from (hw j1 j2 (some (.int x3))))
            · rw [if_neg hc] at hw
              refine wp_st (pc' := 142) (L' := [some (.ref 65), j1, j2, some (.int a3), some (.int x3)]) (st' := []) (h' := Hp S8) 1 (fun Z => if_neg hc) ?_
              exact (show wp E (d + 1) m_m_expression 142 [some (.ref 65), j1, j2, some (.int a3), some (.int x3)] [] (Hp S8) (QV Q) from (hw j1 j2 (some (.int x3))))
          · rw [if_neg hc] at hw
            refine wp_st (pc' := 142) (L' := [some (.ref 65), j1, j2, some (.int a3), some (.int x3)]) (st' := []) (h' := Hp S6) 1 (fun Z => if_neg hc) ?_
            exact (show wp E (d + 1) m_m_expression 142 [some (.ref 65), j1, j2, some (.int a3), some (.int x3)] [] (Hp S6) (QV Q) from (hw j1 j2 (some (.int x3))))
set_option maxRecDepth 4000 in
theorem w_m_expression_70 {E : zX} {d : Nat} {S : St} {a3 : Int32} {a4 : Int32} {Q : St → Prop} (hd : 1 ≤ d) 
    (hw : if a4 = 14 then (
      k_m_drops E (d - 1) S 2 (fun S2 =>
      if a4 = 14 then (
        k_m_expression_99 E d S2 a3 4 Q)
      else (
        k_m_expression_99 E d S2 a3 5 Q)))
    else (
      k_m_drops E (d - 1) S 1 (fun S4 =>
      if a4 = 14 then (
        k_m_expression_99 E d S4 a3 4 Q)
      else (
        k_m_expression_99 E d S4 a3 5 Q)))) :
    k_m_expression_70 E d S a3 a4 Q := by
  obtain ⟨d, rfl⟩ := Nat.exists_eq_add_of_le' hd
  intro j1 j2
  show wp E (d + 1) m_m_expression 70 [some (.ref 65), j1, j2, some (.int a3), some (.int a4)] [] (Hp S) (QV Q)
  refine wp_st (pc' := 75) (L' := [some (.ref 65), j1, j2, some (.int a3), some (.int a4)]) (st' := [.int 14, .int a4, .ref 65]) (h' := Hp S) 3 (fun Z => rfl) ?_
  by_cases hc : a4 = 14
  · rw [if_pos hc] at hw
    refine wp_st (pc' := 78) (L' := [some (.ref 65), j1, j2, some (.int a3), some (.int a4)]) (st' := [.ref 65]) (h' := Hp S) 1 (fun Z => if_pos hc) ?_
    refine wp_st (pc' := 83) (L' := [some (.ref 65), j1, j2, some (.int a3), some (.int a4)]) (st' := [.int 2, .ref 65]) (h' := Hp S) 2 (fun Z => rfl) ?_
    refine wp_call (pc' := 86) (rest := []) (fun Z => rfl) (isO_of sh65) hw ?_
    rintro o h1 ⟨S2, rfl, rfl, hw⟩
    refine ⟨_, rfl, ?_⟩
    show wp E (d + 1) m_m_expression 86 [some (.ref 65), j1, j2, some (.int a3), some (.int a4)] [] (Hp S2) (QV Q)
    refine wp_st (pc' := 91) (L' := [some (.ref 65), j1, j2, some (.int a3), some (.int a4)]) (st' := [.int 14, .int a4, .ref 65]) (h' := Hp S2) 3 (fun Z => rfl) ?_
    by_cases hc : a4 = 14
    · rw [if_pos hc] at hw
      refine wp_st (pc' := 94) (L' := [some (.ref 65), j1, j2, some (.int a3), some (.int a4)]) (st' := [.ref 65]) (h' := Hp S2) 1 (fun Z => if_pos hc) ?_
      exact wp_st 2 (fun Z => rfl) (show wp E (d + 1) m_m_expression 99 [some (.ref 65), j1, j2, some (.int a3), some (.int a4)] [.int 4, .ref 65] (Hp S2) (QV Q) from (hw j1 j2 (some (.int a4))))
    · rw [if_neg hc] at hw
      refine wp_st (pc' := 98) (L' := [some (.ref 65), j1, j2, some (.int a3), some (.int a4)]) (st' := [.ref 65]) (h' := Hp S2) 1 (fun Z => if_neg hc) ?_
      exact wp_st 1 (fun Z => rfl) (show wp E (d + 1) m_m_expression 99 [some (.ref 65), j1, j2, some (.int a3), some (.int a4)] [.int 5, .ref 65] (Hp S2) (QV Q) from (hw j1 j2 (some (.int a4))))
  · rw [if_neg hc] at hw
    refine wp_st (pc' := 82) (L' := [some (.ref 65), j1, j2, some (.int a3), some (.int a4)]) (st' := [.ref 65]) (h' := Hp S) 1 (fun Z => if_neg hc) ?_
    refine wp_st (pc' := 83) (L' := [some (.ref 65), j1, j2, some (.int a3), some (.int a4)]) (st' := [.int 1, .ref 65]) (h' := Hp S) 1 (fun Z => rfl) ?_
    refine wp_call (pc' := 86) (rest := []) (fun Z => rfl) (isO_of sh65) hw ?_
    rintro o h1 ⟨S4, rfl, rfl, hw⟩
    refine ⟨_, rfl, ?_⟩
    show wp E (d + 1) m_m_expression 86 [some (.ref 65), j1, j2, some (.int a3), some (.int a4)] [] (Hp S4) (QV Q)
    refine wp_st (pc' := 91) (L' := [some (.ref 65), j1, j2, some (.int a3), some (.int a4)]) (st' := [.int 14, .int a4, .ref 65]) (h' := Hp S4) 3 (fun Z => rfl) ?_
    by_cases hc : a4 = 14
    · rw [if_pos hc] at hw
      refine wp_st (pc' := 94) (L' := [some (.ref 65), j1, j2, some (.int a3), some (.int a4)]) (st' := [.ref 65]) (h' := Hp S4) 1 (fun Z => if_pos hc) ?_
      exact wp_st 2 (fun Z => rfl) (show wp E (d + 1) m_m_expression 99 [some (.ref 65), j1, j2, some (.int a3), some (.int a4)] [.int 4, .ref 65] (Hp S4) (QV Q) from (hw j1 j2 (some (.int a4))))
    · rw [if_neg hc] at hw
      refine wp_st (pc' := 98) (L' := [some (.ref 65), j1, j2, some (.int a3), some (.int a4)]) (st' := [.ref 65]) (h' := Hp S4) 1 (fun Z => if_neg hc) ?_
      exact wp_st 1 (fun Z => rfl) (show wp E (d + 1) m_m_expression 99 [some (.ref 65), j1, j2, some (.int a3), some (.int a4)] [.int 5, .ref 65] (Hp S4) (QV Q) from (hw j1 j2 (some (.int a4))))
set_option maxRecDepth 4000 in
theorem w_m_expression_99 {E : zX} {d : Nat} {S : St} {a3 : Int32} {s1 : Int32} {Q : St → Prop} (hd : 1 ≤ d) 
    (hw : k_m_waitsFor E (d - 1) S s1 (fun S2 =>
    ∃ m4 : Nat, (S2 65 33) = nI m4 ∧ m4 < 9 ∧
    ∀ S3, S3 = up S2 76 m4 0 →
    k_m_goes E (d - 1) S3 (fun S6 =>
    k_m_operand E (d - 1) S6 1 (fun S8 =>
    k_m_expression_39 E d S8 a3 Q)))) :
    k_m_expression_99 E d S a3 s1 Q := by
  obtain ⟨d, rfl⟩ := Nat.exists_eq_add_of_le' hd
  intro j1 j2 j4
  show wp E (d + 1) m_m_expression 99 [some (.ref 65), j1, j2, some (.int a3), j4] [.int s1, .ref 65] (Hp S) (QV Q)
  refine wp_call (pc' := 102) (rest := []) (fun Z => rfl) (isO_of sh65) hw ?_
  rintro o h1 ⟨S2, rfl, rfl, hw⟩
  refine ⟨_, rfl, ?_⟩
  show wp E (d + 1) m_m_expression 102 [some (.ref 65), j1, j2, some (.int a3), j4] [] (Hp S2) (QV Q)
  refine wp_st (pc' := 103) (L' := [some (.ref 65), j1, j2, some (.int a3), j4]) (st' := [.ref 65]) (h' := Hp S2) 1 (fun Z => rfl) ?_
  refine wp_st (pc' := 106) (L' := [some (.ref 65), j1, j2, some (.int a3), j4]) (st' := [.ref 76]) (h' := Hp S2) 1 (fun Z => gfR (E := E) sh65 rfl _) ?_
  refine wp_st (pc' := 107) (L' := [some (.ref 65), j1, j2, some (.int a3), j4]) (st' := [.ref 65, .ref 76]) (h' := Hp S2) 1 (fun Z => rfl) ?_
  refine wp_st (pc' := 110) (L' := [some (.ref 65), j1, j2, some (.int a3), j4]) (st' := [.int (S2 65 33), .ref 76]) (h' := Hp S2) 1 (fun Z => gfI (E := E) sh65 rfl _) ?_
  refine wp_st (pc' := 111) (L' := [some (.ref 65), j1, j2, some (.int a3), j4]) (st' := [.int 0, .int (S2 65 33), .ref 76]) (h' := Hp S2) 1 (fun Z => rfl) ?_
  obtain ⟨m4, em, hi, hw⟩ := hw
  have hw := hw _ rfl
  refine wp_st (pc' := 112) (L' := [some (.ref 65), j1, j2, some (.int a3), j4]) (st' := []) (h' := Hp (up S2 76 m4 0)) 1 (fun Z => (congrArg (fun v => zit E 1 Z (d + 1) m_m_expression 111 [some (.ref 65), j1, j2, some (.int a3), j4] [.int 0, .int v, .ref 76] (Hp S2)) em).trans (stZN sh76 (by decide) hi rfl _ _)) ?_
  generalize up S2 76 m4 0 = S3 at hw ⊢
  refine wp_st (pc' := 113) (L' := [some (.ref 65), j1, j2, some (.int a3), j4]) (st' := [.ref 65]) (h' := Hp S3) 1 (fun Z => rfl) ?_
  refine wp_call (pc' := 116) (rest := []) (fun Z => rfl) (isO_of sh65) hw ?_
  rintro o h1 ⟨S6, rfl, rfl, hw⟩
  refine ⟨_, rfl, ?_⟩
  show wp E (d + 1) m_m_expression 116 [some (.ref 65), j1, j2, some (.int a3), j4] [] (Hp S6) (QV Q)
  refine wp_st (pc' := 118) (L' := [some (.ref 65), j1, j2, some (.int a3), j4]) (st' := [.int 1, .ref 65]) (h' := Hp S6) 2 (fun Z => rfl) ?_
  refine wp_call (pc' := 121) (rest := []) (fun Z => rfl) (isO_of sh65) hw ?_
  rintro o h1 ⟨S8, rfl, rfl, hw⟩
  refine ⟨_, rfl, ?_⟩
  show wp E (d + 1) m_m_expression 121 [some (.ref 65), j1, j2, some (.int a3), j4] [] (Hp S8) (QV Q)
  exact wp_st 2 (fun Z => rfl) (show wp E (d + 1) m_m_expression 39 [some (.ref 65), j1, j2, some (.int a3), j4] [] (Hp S8) (QV Q) from (hw j1 j2 j4))
set_option maxRecDepth 4000 in
theorem w_m_expression_142 {E : zX} {d : Nat} {S : St} {a3 : Int32} {Q : St → Prop} (hd : 1 ≤ d) 
    (hw : ∃ m1 : Nat, (S 65 33) = nI m1 ∧ m1 < 9 ∧
    if (S 76 m1) = 0 then (
      k_m_drops E (d - 1) S 4 (fun S3 =>
      k_m_isSign E (d - 1) S3 60 (fun x4 S5 =>
      if x4 = 0 then (
        k_m_expression_176 E d S5 a3 7 Q)
      else (
        k_m_expression_176 E d S5 a3 6 Q))))
    else (
      k_m_expression_201 E d S a3 Q)) :
    k_m_expression_142 E d S a3 Q := by
  obtain ⟨d, rfl⟩ := Nat.exists_eq_add_of_le' hd
  intro j1 j2 j4
  show wp E (d + 1) m_m_expression 142 [some (.ref 65), j1, j2, some (.int a3), j4] [] (Hp S) (QV Q)
  refine wp_st (pc' := 143) (L' := [some (.ref 65), j1, j2, some (.int a3), j4]) (st' := [.ref 65]) (h' := Hp S) 1 (fun Z => rfl) ?_
  refine wp_st (pc' := 146) (L' := [some (.ref 65), j1, j2, some (.int a3), j4]) (st' := [.ref 76]) (h' := Hp S) 1 (fun Z => gfR (E := E) sh65 rfl _) ?_
  refine wp_st (pc' := 147) (L' := [some (.ref 65), j1, j2, some (.int a3), j4]) (st' := [.ref 65, .ref 76]) (h' := Hp S) 1 (fun Z => rfl) ?_
  refine wp_st (pc' := 150) (L' := [some (.ref 65), j1, j2, some (.int a3), j4]) (st' := [.int (S 65 33), .ref 76]) (h' := Hp S) 1 (fun Z => gfI (E := E) sh65 rfl _) ?_
  obtain ⟨m1, em, hi, hw⟩ := hw
  refine wp_st (pc' := 151) (L' := [some (.ref 65), j1, j2, some (.int a3), j4]) (st' := [.int (S 76 m1)]) (h' := Hp S) 1 (fun Z => (congrArg (fun v => zit E 1 Z (d + 1) m_m_expression 150 [some (.ref 65), j1, j2, some (.int a3), j4] [.int v, .ref 76] (Hp S)) em).trans (ldZN (E := E) sh76 (by decide) hi [] (fun st => Z (d + 1) m_m_expression 151 [some (.ref 65), j1, j2, some (.int a3), j4] st (Hp S)))) ?_
  by_cases hc : (S 76 m1) = 0
  · rw [if_pos hc] at hw
    refine wp_st (pc' := 154) (L' := [some (.ref 65), j1, j2, some (.int a3), j4]) (st' := []) (h' := Hp S) 1 (fun Z => if_pos hc) ?_
    refine wp_st (pc' := 156) (L' := [some (.ref 65), j1, j2, some (.int a3), j4]) (st' := [.int 4, .ref 65]) (h' := Hp S) 2 (fun Z => rfl) ?_
    refine wp_call (pc' := 159) (rest := []) (fun Z => rfl) (isO_of sh65) hw ?_
    rintro o h1 ⟨S3, rfl, rfl, hw⟩
    refine ⟨_, rfl, ?_⟩
    show wp E (d + 1) m_m_expression 159 [some (.ref 65), j1, j2, some (.int a3), j4] [] (Hp S3) (QV Q)
    refine wp_st (pc' := 163) (L' := [some (.ref 65), j1, j2, some (.int a3), j4]) (st' := [.int 60, .ref 65, .ref 65]) (h' := Hp S3) 3 (fun Z => rfl) ?_
    refine wp_call (pc' := 166) (rest := [.ref 65]) (fun Z => rfl) (isO_of sh65) hw ?_
    rintro o h1 ⟨x4, S5, rfl, rfl, hw⟩
    refine ⟨_, rfl, ?_⟩
    show wp E (d + 1) m_m_expression 166 [some (.ref 65), j1, j2, some (.int a3), j4] [.int x4, .ref 65] (Hp S5) (QV Q)
    by_cases hc : x4 = 0
    · rw [if_pos hc] at hw
      refine wp_st (pc' := 174) (L' := [some (.ref 65), j1, j2, some (.int a3), j4]) (st' := [.ref 65]) (h' := Hp S5) 1 (fun Z => if_pos hc) ?_
      exact wp_st 1 (fun Z => rfl) (show wp E (d + 1) m_m_expression 176 [some (.ref 65), j1, j2, some (.int a3), j4] [.int 7, .ref 65] (Hp S5) (QV Q) from (hw j1 j2 j4))
    · rw [if_neg hc] at hw
      refine wp_st (pc' := 169) (L' := [some (.ref 65), j1, j2, some (.int a3), j4]) (st' := [.ref 65]) (h' := Hp S5) 1 (fun Z => if_neg hc) ?_
      exact wp_st 2 (fun Z => rfl) (show wp E (d + 1) m_m_expression 176 [some (.ref 65), j1, j2, some (.int a3), j4] [.int 6, .ref 65] (Hp S5) (QV Q) from (hw j1 j2 j4))
  · rw [if_neg hc] at hw
    refine wp_st (pc' := 201) (L' := [some (.ref 65), j1, j2, some (.int a3), j4]) (st' := []) (h' := Hp S) 1 (fun Z => if_neg hc) ?_
    exact (show wp E (d + 1) m_m_expression 201 [some (.ref 65), j1, j2, some (.int a3), j4] [] (Hp S) (QV Q) from (hw j1 j2 j4))
set_option maxRecDepth 4000 in
theorem w_m_expression_176 {E : zX} {d : Nat} {S : St} {a3 : Int32} {s1 : Int32} {Q : St → Prop} (hd : 1 ≤ d) 
    (hw : k_m_waitsFor E (d - 1) S s1 (fun S2 =>
    ∃ m4 : Nat, (S2 65 33) = nI m4 ∧ m4 < 9 ∧
    ∀ S3, S3 = up S2 76 m4 1 →
    k_m_goes E (d - 1) S3 (fun S6 =>
    k_m_operand E (d - 1) S6 0 (fun S8 =>
    k_m_expression_39 E d S8 a3 Q)))) :
    k_m_expression_176 E d S a3 s1 Q := by
  obtain ⟨d, rfl⟩ := Nat.exists_eq_add_of_le' hd
  intro j1 j2 j4
  show wp E (d + 1) m_m_expression 176 [some (.ref 65), j1, j2, some (.int a3), j4] [.int s1, .ref 65] (Hp S) (QV Q)
  refine wp_call (pc' := 179) (rest := []) (fun Z => rfl) (isO_of sh65) hw ?_
  rintro o h1 ⟨S2, rfl, rfl, hw⟩
  refine ⟨_, rfl, ?_⟩
  show wp E (d + 1) m_m_expression 179 [some (.ref 65), j1, j2, some (.int a3), j4] [] (Hp S2) (QV Q)
  refine wp_st (pc' := 180) (L' := [some (.ref 65), j1, j2, some (.int a3), j4]) (st' := [.ref 65]) (h' := Hp S2) 1 (fun Z => rfl) ?_
  refine wp_st (pc' := 183) (L' := [some (.ref 65), j1, j2, some (.int a3), j4]) (st' := [.ref 76]) (h' := Hp S2) 1 (fun Z => gfR (E := E) sh65 rfl _) ?_
  refine wp_st (pc' := 184) (L' := [some (.ref 65), j1, j2, some (.int a3), j4]) (st' := [.ref 65, .ref 76]) (h' := Hp S2) 1 (fun Z => rfl) ?_
  refine wp_st (pc' := 187) (L' := [some (.ref 65), j1, j2, some (.int a3), j4]) (st' := [.int (S2 65 33), .ref 76]) (h' := Hp S2) 1 (fun Z => gfI (E := E) sh65 rfl _) ?_
  refine wp_st (pc' := 188) (L' := [some (.ref 65), j1, j2, some (.int a3), j4]) (st' := [.int 1, .int (S2 65 33), .ref 76]) (h' := Hp S2) 1 (fun Z => rfl) ?_
  obtain ⟨m4, em, hi, hw⟩ := hw
  have hw := hw _ rfl
  refine wp_st (pc' := 189) (L' := [some (.ref 65), j1, j2, some (.int a3), j4]) (st' := []) (h' := Hp (up S2 76 m4 1)) 1 (fun Z => (congrArg (fun v => zit E 1 Z (d + 1) m_m_expression 188 [some (.ref 65), j1, j2, some (.int a3), j4] [.int 1, .int v, .ref 76] (Hp S2)) em).trans (stZN sh76 (by decide) hi rfl _ _)) ?_
  generalize up S2 76 m4 1 = S3 at hw ⊢
  refine wp_st (pc' := 190) (L' := [some (.ref 65), j1, j2, some (.int a3), j4]) (st' := [.ref 65]) (h' := Hp S3) 1 (fun Z => rfl) ?_
  refine wp_call (pc' := 193) (rest := []) (fun Z => rfl) (isO_of sh65) hw ?_
  rintro o h1 ⟨S6, rfl, rfl, hw⟩
  refine ⟨_, rfl, ?_⟩
  show wp E (d + 1) m_m_expression 193 [some (.ref 65), j1, j2, some (.int a3), j4] [] (Hp S6) (QV Q)
  refine wp_st (pc' := 195) (L' := [some (.ref 65), j1, j2, some (.int a3), j4]) (st' := [.int 0, .ref 65]) (h' := Hp S6) 2 (fun Z => rfl) ?_
  refine wp_call (pc' := 198) (rest := []) (fun Z => rfl) (isO_of sh65) hw ?_
  rintro o h1 ⟨S8, rfl, rfl, hw⟩
  refine ⟨_, rfl, ?_⟩
  show wp E (d + 1) m_m_expression 198 [some (.ref 65), j1, j2, some (.int a3), j4] [] (Hp S8) (QV Q)
  exact wp_st 2 (fun Z => rfl) (show wp E (d + 1) m_m_expression 39 [some (.ref 65), j1, j2, some (.int a3), j4] [] (Hp S8) (QV Q) from (hw j1 j2 j4))
set_option maxRecDepth 4000 in
theorem w_m_expression_201 {E : zX} {d : Nat} {S : St} {a3 : Int32} {Q : St → Prop} (hd : 1 ≤ d) 
    (hw : k_m_isSign E (d - 1) S 43 (fun x1 S2 =>
    if x1 = 0 then (
      k_m_isSign E (d - 1) S2 45 (fun x3 S4 =>
      if x3 = 0 then (
        k_m_isSign E (d - 1) S4 42 (fun x5 S6 =>
        if x5 = 0 then (
          k_m_isSign E (d - 1) S6 47 (fun x7 S8 =>
          if x7 = 0 then (
            k_m_isSign E (d - 1) S8 41 (fun x9 S10 =>
            if x9 = 0 then (
              k_m_expression_39 E d S10 0 Q)
            else (
              k_m_isOpened E (d - 1) S10 (fun x11 S12 =>
              if x11 = 0 then (
                k_m_expression_39 E d S12 0 Q)
              else (
                k_m_closes E (d - 1) S12 (fun S14 =>
                k_m_expression_39 E d S14 a3 Q))))))
          else (
            k_m_expression_274 E d S8 a3 Q)))
        else (
          k_m_expression_274 E d S6 a3 Q)))
      else (
        k_m_expression_219 E d S4 a3 Q)))
    else (
      k_m_expression_219 E d S2 a3 Q))) :
    k_m_expression_201 E d S a3 Q := by
  obtain ⟨d, rfl⟩ := Nat.exists_eq_add_of_le' hd
  intro j1 j2 j4
  show wp E (d + 1) m_m_expression 201 [some (.ref 65), j1, j2, some (.int a3), j4] [] (Hp S) (QV Q)
  refine wp_st (pc' := 204) (L' := [some (.ref 65), j1, j2, some (.int a3), j4]) (st' := [.int 43, .ref 65]) (h' := Hp S) 2 (fun Z => rfl) ?_
  refine wp_call (pc' := 207) (rest := []) (fun Z => rfl) (isO_of sh65) hw ?_
  rintro o h1 ⟨x1, S2, rfl, rfl, hw⟩
  refine ⟨_, rfl, ?_⟩
  show wp E (d + 1) m_m_expression 207 [some (.ref 65), j1, j2, some (.int a3), j4] [.int x1] (Hp S2) (QV Q)
  by_cases hc : x1 = 0
  · rw [if_pos hc] at hw
    refine wp_st (pc' := 210) (L' := [some (.ref 65), j1, j2, some (.int a3), j4]) (st' := []) (h' := Hp S2) 1 (fun Z => if_pos hc) ?_
    refine wp_st (pc' := 213) (L' := [some (.ref 65), j1, j2, some (.int a3), j4]) (st' := [.int 45, .ref 65]) (h' := Hp S2) 2 (fun Z => rfl) ?_
    refine wp_call (pc' := 216) (rest := []) (fun Z => rfl) (isO_of sh65) hw ?_
    rintro o h1 ⟨x3, S4, rfl, rfl, hw⟩
    refine ⟨_, rfl, ?_⟩
    show wp E (d + 1) m_m_expression 216 [some (.ref 65), j1, j2, some (.int a3), j4] [.int x3] (Hp S4) (QV Q)
    by_cases hc : x3 = 0
    · rw [if_pos hc] at hw
      refine wp_st (pc' := 256) (L' := [some (.ref 65), j1, j2, some (.int a3), j4]) (st' := []) (h' := Hp S4) 1 (fun Z => if_pos hc) ?_
      refine wp_st (pc' := 259) (L' := [some (.ref 65), j1, j2, some (.int a3), j4]) (st' := [.int 42, .ref 65]) (h' := Hp S4) 2 (fun Z => rfl) ?_
      refine wp_call (pc' := 262) (rest := []) (fun Z => rfl) (isO_of sh65) hw ?_
      rintro o h1 ⟨x5, S6, rfl, rfl, hw⟩
      refine ⟨_, rfl, ?_⟩
      show wp E (d + 1) m_m_expression 262 [some (.ref 65), j1, j2, some (.int a3), j4] [.int x5] (Hp S6) (QV Q)
      by_cases hc : x5 = 0
      · rw [if_pos hc] at hw
        refine wp_st (pc' := 265) (L' := [some (.ref 65), j1, j2, some (.int a3), j4]) (st' := []) (h' := Hp S6) 1 (fun Z => if_pos hc) ?_
        refine wp_st (pc' := 268) (L' := [some (.ref 65), j1, j2, some (.int a3), j4]) (st' := [.int 47, .ref 65]) (h' := Hp S6) 2 (fun Z => rfl) ?_
        refine wp_call (pc' := 271) (rest := []) (fun Z => rfl) (isO_of sh65) hw ?_
        rintro o h1 ⟨x7, S8, rfl, rfl, hw⟩
        refine ⟨_, rfl, ?_⟩
        show wp E (d + 1) m_m_expression 271 [some (.ref 65), j1, j2, some (.int a3), j4] [.int x7] (Hp S8) (QV Q)
        by_cases hc : x7 = 0
        · rw [if_pos hc] at hw
          refine wp_st (pc' := 312) (L' := [some (.ref 65), j1, j2, some (.int a3), j4]) (st' := []) (h' := Hp S8) 1 (fun Z => if_pos hc) ?_
          refine wp_st (pc' := 315) (L' := [some (.ref 65), j1, j2, some (.int a3), j4]) (st' := [.int 41, .ref 65]) (h' := Hp S8) 2 (fun Z => rfl) ?_
          refine wp_call (pc' := 318) (rest := []) (fun Z => rfl) (isO_of sh65) hw ?_
          rintro o h1 ⟨x9, S10, rfl, rfl, hw⟩
          refine ⟨_, rfl, ?_⟩
          show wp E (d + 1) m_m_expression 318 [some (.ref 65), j1, j2, some (.int a3), j4] [.int x9] (Hp S10) (QV Q)
          by_cases hc : x9 = 0
          · rw [if_pos hc] at hw
            refine wp_st (pc' := 335) (L' := [some (.ref 65), j1, j2, some (.int a3), j4]) (st' := []) (h' := Hp S10) 1 (fun Z => if_pos hc) ?_
            exact wp_st 3 (fun Z => rfl) (show wp E (d + 1) m_m_expression 39 [some (.ref 65), j1, j2, some (.int 0), j4] [] (Hp S10) (QV Q) from (hw j1 j2 j4))
          · rw [if_neg hc] at hw
            refine wp_st (pc' := 321) (L' := [some (.ref 65), j1, j2, some (.int a3), j4]) (st' := []) (h' := Hp S10) 1 (fun Z => if_neg hc) ?_
            refine wp_st (pc' := 322) (L' := [some (.ref 65), j1, j2, some (.int a3), j4]) (st' := [.ref 65]) (h' := Hp S10) 1 (fun Z => rfl) ?_
            refine wp_call (pc' := 325) (rest := []) (fun Z => rfl) (isO_of sh65) hw ?_
            rintro o h1 ⟨x11, S12, rfl, rfl, hw⟩
            refine ⟨_, rfl, ?_⟩
            show wp E (d + 1) m_m_expression 325 [some (.ref 65), j1, j2, some (.int a3), j4] [.int x11] (Hp S12) (QV Q)
            by_cases hc : x11 = 0
            · rw [if_pos hc] at hw
              refine wp_st (pc' := 335) (L' := [some (.ref 65), j1, j2, some (.int a3), j4]) (st' := []) (h' := Hp S12) 1 (fun Z => if_pos hc) ?_
              exact wp_st 3 (fun Z => rfl) (show wp E (d + 1) m_m_expression 39 [some (.ref 65), j1, j2, some (.int 0), j4] [] (Hp S12) (QV Q) from (hw j1 j2 j4))
            · rw [if_neg hc] at hw
              refine wp_st (pc' := 328) (L' := [some (.ref 65), j1, j2, some (.int a3), j4]) (st' := []) (h' := Hp S12) 1 (fun Z => if_neg hc) ?_
              refine wp_st (pc' := 329) (L' := [some (.ref 65), j1, j2, some (.int a3), j4]) (st' := [.ref 65]) (h' := Hp S12) 1 (fun Z => rfl) ?_
              refine wp_call (pc' := 332) (rest := []) (fun Z => rfl) (isO_of sh65) hw ?_
              rintro o h1 ⟨S14, rfl, rfl, hw⟩
              refine ⟨_, rfl, ?_⟩
              show wp E (d + 1) m_m_expression 332 [some (.ref 65), j1, j2, some (.int a3), j4] [] (Hp S14) (QV Q)
              exact wp_st 2 (fun Z => rfl) (show wp E (d + 1) m_m_expression 39 [some (.ref 65), j1, j2, some (.int a3), j4] [] (Hp S14) (QV Q) from (hw j1 j2 j4))
        · rw [if_neg hc] at hw
          refine wp_st (pc' := 274) (L' := [some (.ref 65), j1, j2, some (.int a3), j4]) (st' := []) (h' := Hp S8) 1 (fun Z => if_neg hc) ?_
          exact (show wp E (d + 1) m_m_expression 274 [some (.ref 65), j1, j2, some (.int a3), j4] [] (Hp S8) (QV Q) from (hw j1 j2 j4))
      · rw [if_neg hc] at hw
        refine wp_st (pc' := 274) (L' := [some (.ref 65), j1, j2, some (.int a3), j4]) (st' := []) (h' := Hp S6) 1 (fun Z => if_neg hc) ?_
        exact (show wp E (d + 1) m_m_expression 274 [some (.ref 65), j1, j2, some (.int a3), j4] [] (Hp S6) (QV Q) from (hw j1 j2 j4))
    · rw [if_neg hc] at hw
      refine wp_st (pc' := 219) (L' := [some (.ref 65), j1, j2, some (.int a3), j4]) (st' := []) (h' := Hp S4) 1 (fun Z => if_neg hc) ?_
      exact (show wp E (d + 1) m_m_expression 219 [some (.ref 65), j1, j2, some (.int a3), j4] [] (Hp S4) (QV Q) from (hw j1 j2 j4))
  · rw [if_neg hc] at hw
    refine wp_st (pc' := 219) (L' := [some (.ref 65), j1, j2, some (.int a3), j4]) (st' := []) (h' := Hp S2) 1 (fun Z => if_neg hc) ?_
    exact (show wp E (d + 1) m_m_expression 219 [some (.ref 65), j1, j2, some (.int a3), j4] [] (Hp S2) (QV Q) from (hw j1 j2 j4))
set_option maxRecDepth 4000 in
theorem w_m_expression_219 {E : zX} {d : Nat} {S : St} {a3 : Int32} {Q : St → Prop} (hd : 1 ≤ d) 
    (hw : k_m_drops E (d - 1) S 5 (fun S2 =>
    k_m_isSign E (d - 1) S2 43 (fun x3 S4 =>
    if x3 = 0 then (
      k_m_waitsFor E (d - 1) S4 9 (fun S6 =>
      k_m_goes E (d - 1) S6 (fun S8 =>
      k_m_operand E (d - 1) S8 0 (fun S10 =>
      k_m_expression_39 E d S10 a3 Q))))
    else (
      k_m_waitsFor E (d - 1) S4 8 (fun S12 =>
      k_m_goes E (d - 1) S12 (fun S14 =>
      k_m_operand E (d - 1) S14 0 (fun S16 =>
      k_m_expression_39 E d S16 a3 Q))))))) :
    k_m_expression_219 E d S a3 Q := by
  obtain ⟨d, rfl⟩ := Nat.exists_eq_add_of_le' hd
  intro j1 j2 j4
  show wp E (d + 1) m_m_expression 219 [some (.ref 65), j1, j2, some (.int a3), j4] [] (Hp S) (QV Q)
  refine wp_st (pc' := 221) (L' := [some (.ref 65), j1, j2, some (.int a3), j4]) (st' := [.int 5, .ref 65]) (h' := Hp S) 2 (fun Z => rfl) ?_
  refine wp_call (pc' := 224) (rest := []) (fun Z => rfl) (isO_of sh65) hw ?_
  rintro o h1 ⟨S2, rfl, rfl, hw⟩
  refine ⟨_, rfl, ?_⟩
  show wp E (d + 1) m_m_expression 224 [some (.ref 65), j1, j2, some (.int a3), j4] [] (Hp S2) (QV Q)
  refine wp_st (pc' := 228) (L' := [some (.ref 65), j1, j2, some (.int a3), j4]) (st' := [.int 43, .ref 65, .ref 65]) (h' := Hp S2) 3 (fun Z => rfl) ?_
  refine wp_call (pc' := 231) (rest := [.ref 65]) (fun Z => rfl) (isO_of sh65) hw ?_
  rintro o h1 ⟨x3, S4, rfl, rfl, hw⟩
  refine ⟨_, rfl, ?_⟩
  show wp E (d + 1) m_m_expression 231 [some (.ref 65), j1, j2, some (.int a3), j4] [.int x3, .ref 65] (Hp S4) (QV Q)
  by_cases hc : x3 = 0
  · rw [if_pos hc] at hw
    refine wp_st (pc' := 239) (L' := [some (.ref 65), j1, j2, some (.int a3), j4]) (st' := [.ref 65]) (h' := Hp S4) 1 (fun Z => if_pos hc) ?_
    refine wp_st (pc' := 241) (L' := [some (.ref 65), j1, j2, some (.int a3), j4]) (st' := [.int 9, .ref 65]) (h' := Hp S4) 1 (fun Z => rfl) ?_
    refine wp_call (pc' := 244) (rest := []) (fun Z => rfl) (isO_of sh65) hw ?_
    rintro o h1 ⟨S6, rfl, rfl, hw⟩
    refine ⟨_, rfl, ?_⟩
    show wp E (d + 1) m_m_expression 244 [some (.ref 65), j1, j2, some (.int a3), j4] [] (Hp S6) (QV Q)
    refine wp_st (pc' := 245) (L' := [some (.ref 65), j1, j2, some (.int a3), j4]) (st' := [.ref 65]) (h' := Hp S6) 1 (fun Z => rfl) ?_
    refine wp_call (pc' := 248) (rest := []) (fun Z => rfl) (isO_of sh65) hw ?_
    rintro o h1 ⟨S8, rfl, rfl, hw⟩
    refine ⟨_, rfl, ?_⟩
    show wp E (d + 1) m_m_expression 248 [some (.ref 65), j1, j2, some (.int a3), j4] [] (Hp S8) (QV Q)
    refine wp_st (pc' := 250) (L' := [some (.ref 65), j1, j2, some (.int a3), j4]) (st' := [.int 0, .ref 65]) (h' := Hp S8) 2 (fun Z => rfl) ?_
    refine wp_call (pc' := 253) (rest := []) (fun Z => rfl) (isO_of sh65) hw ?_
    rintro o h1 ⟨S10, rfl, rfl, hw⟩
    refine ⟨_, rfl, ?_⟩
    show wp E (d + 1) m_m_expression 253 [some (.ref 65), j1, j2, some (.int a3), j4] [] (Hp S10) (QV Q)
    exact wp_st 2 (fun Z => rfl) (show wp E (d + 1) m_m_expression 39 [some (.ref 65), j1, j2, some (.int a3), j4] [] (Hp S10) (QV Q) from (hw j1 j2 j4))
  · rw [if_neg hc] at hw
    refine wp_st (pc' := 234) (L' := [some (.ref 65), j1, j2, some (.int a3), j4]) (st' := [.ref 65]) (h' := Hp S4) 1 (fun Z => if_neg hc) ?_
    refine wp_st (pc' := 241) (L' := [some (.ref 65), j1, j2, some (.int a3), j4]) (st' := [.int 8, .ref 65]) (h' := Hp S4) 2 (fun Z => rfl) ?_
    refine wp_call (pc' := 244) (rest := []) (fun Z => rfl) (isO_of sh65) hw ?_
    rintro o h1 ⟨S12, rfl, rfl, hw⟩
    refine ⟨_, rfl, ?_⟩
    show wp E (d + 1) m_m_expression 244 [some (.ref 65), j1, j2, some (.int a3), j4] [] (Hp S12) (QV Q)
    refine wp_st (pc' := 245) (L' := [some (.ref 65), j1, j2, some (.int a3), j4]) (st' := [.ref 65]) (h' := Hp S12) 1 (fun Z => rfl) ?_
    refine wp_call (pc' := 248) (rest := []) (fun Z => rfl) (isO_of sh65) hw ?_
    rintro o h1 ⟨S14, rfl, rfl, hw⟩
    refine ⟨_, rfl, ?_⟩
    show wp E (d + 1) m_m_expression 248 [some (.ref 65), j1, j2, some (.int a3), j4] [] (Hp S14) (QV Q)
    refine wp_st (pc' := 250) (L' := [some (.ref 65), j1, j2, some (.int a3), j4]) (st' := [.int 0, .ref 65]) (h' := Hp S14) 2 (fun Z => rfl) ?_
    refine wp_call (pc' := 253) (rest := []) (fun Z => rfl) (isO_of sh65) hw ?_
    rintro o h1 ⟨S16, rfl, rfl, hw⟩
    refine ⟨_, rfl, ?_⟩
    show wp E (d + 1) m_m_expression 253 [some (.ref 65), j1, j2, some (.int a3), j4] [] (Hp S16) (QV Q)
    exact wp_st 2 (fun Z => rfl) (show wp E (d + 1) m_m_expression 39 [some (.ref 65), j1, j2, some (.int a3), j4] [] (Hp S16) (QV Q) from (hw j1 j2 j4))
set_option maxRecDepth 4000 in
theorem w_m_expression_274 {E : zX} {d : Nat} {S : St} {a3 : Int32} {Q : St → Prop} (hd : 1 ≤ d) 
    (hw : k_m_drops E (d - 1) S 6 (fun S2 =>
    k_m_isSign E (d - 1) S2 42 (fun x3 S4 =>
    if x3 = 0 then (
      k_m_waitsFor E (d - 1) S4 11 (fun S6 =>
      k_m_goes E (d - 1) S6 (fun S8 =>
      k_m_operand E (d - 1) S8 0 (fun S10 =>
      k_m_expression_39 E d S10 a3 Q))))
    else (
      k_m_waitsFor E (d - 1) S4 10 (fun S12 =>
      k_m_goes E (d - 1) S12 (fun S14 =>
      k_m_operand E (d - 1) S14 0 (fun S16 =>
      k_m_expression_39 E d S16 a3 Q))))))) :
    k_m_expression_274 E d S a3 Q := by
  obtain ⟨d, rfl⟩ := Nat.exists_eq_add_of_le' hd
  intro j1 j2 j4
  show wp E (d + 1) m_m_expression 274 [some (.ref 65), j1, j2, some (.int a3), j4] [] (Hp S) (QV Q)
  refine wp_st (pc' := 277) (L' := [some (.ref 65), j1, j2, some (.int a3), j4]) (st' := [.int 6, .ref 65]) (h' := Hp S) 2 (fun Z => rfl) ?_
  refine wp_call (pc' := 280) (rest := []) (fun Z => rfl) (isO_of sh65) hw ?_
  rintro o h1 ⟨S2, rfl, rfl, hw⟩
  refine ⟨_, rfl, ?_⟩
  show wp E (d + 1) m_m_expression 280 [some (.ref 65), j1, j2, some (.int a3), j4] [] (Hp S2) (QV Q)
  refine wp_st (pc' := 284) (L' := [some (.ref 65), j1, j2, some (.int a3), j4]) (st' := [.int 42, .ref 65, .ref 65]) (h' := Hp S2) 3 (fun Z => rfl) ?_
  refine wp_call (pc' := 287) (rest := [.ref 65]) (fun Z => rfl) (isO_of sh65) hw ?_
  rintro o h1 ⟨x3, S4, rfl, rfl, hw⟩
  refine ⟨_, rfl, ?_⟩
  show wp E (d + 1) m_m_expression 287 [some (.ref 65), j1, j2, some (.int a3), j4] [.int x3, .ref 65] (Hp S4) (QV Q)
  by_cases hc : x3 = 0
  · rw [if_pos hc] at hw
    refine wp_st (pc' := 295) (L' := [some (.ref 65), j1, j2, some (.int a3), j4]) (st' := [.ref 65]) (h' := Hp S4) 1 (fun Z => if_pos hc) ?_
    refine wp_st (pc' := 297) (L' := [some (.ref 65), j1, j2, some (.int a3), j4]) (st' := [.int 11, .ref 65]) (h' := Hp S4) 1 (fun Z => rfl) ?_
    refine wp_call (pc' := 300) (rest := []) (fun Z => rfl) (isO_of sh65) hw ?_
    rintro o h1 ⟨S6, rfl, rfl, hw⟩
    refine ⟨_, rfl, ?_⟩
    show wp E (d + 1) m_m_expression 300 [some (.ref 65), j1, j2, some (.int a3), j4] [] (Hp S6) (QV Q)
    refine wp_st (pc' := 301) (L' := [some (.ref 65), j1, j2, some (.int a3), j4]) (st' := [.ref 65]) (h' := Hp S6) 1 (fun Z => rfl) ?_
    refine wp_call (pc' := 304) (rest := []) (fun Z => rfl) (isO_of sh65) hw ?_
    rintro o h1 ⟨S8, rfl, rfl, hw⟩
    refine ⟨_, rfl, ?_⟩
    show wp E (d + 1) m_m_expression 304 [some (.ref 65), j1, j2, some (.int a3), j4] [] (Hp S8) (QV Q)
    refine wp_st (pc' := 306) (L' := [some (.ref 65), j1, j2, some (.int a3), j4]) (st' := [.int 0, .ref 65]) (h' := Hp S8) 2 (fun Z => rfl) ?_
    refine wp_call (pc' := 309) (rest := []) (fun Z => rfl) (isO_of sh65) hw ?_
    rintro o h1 ⟨S10, rfl, rfl, hw⟩
    refine ⟨_, rfl, ?_⟩
    show wp E (d + 1) m_m_expression 309 [some (.ref 65), j1, j2, some (.int a3), j4] [] (Hp S10) (QV Q)
    exact wp_st 2 (fun Z => rfl) (show wp E (d + 1) m_m_expression 39 [some (.ref 65), j1, j2, some (.int a3), j4] [] (Hp S10) (QV Q) from (hw j1 j2 j4))
  · rw [if_neg hc] at hw
    refine wp_st (pc' := 290) (L' := [some (.ref 65), j1, j2, some (.int a3), j4]) (st' := [.ref 65]) (h' := Hp S4) 1 (fun Z => if_neg hc) ?_
    refine wp_st (pc' := 297) (L' := [some (.ref 65), j1, j2, some (.int a3), j4]) (st' := [.int 10, .ref 65]) (h' := Hp S4) 2 (fun Z => rfl) ?_
    refine wp_call (pc' := 300) (rest := []) (fun Z => rfl) (isO_of sh65) hw ?_
    rintro o h1 ⟨S12, rfl, rfl, hw⟩
    refine ⟨_, rfl, ?_⟩
    show wp E (d + 1) m_m_expression 300 [some (.ref 65), j1, j2, some (.int a3), j4] [] (Hp S12) (QV Q)
    refine wp_st (pc' := 301) (L' := [some (.ref 65), j1, j2, some (.int a3), j4]) (st' := [.ref 65]) (h' := Hp S12) 1 (fun Z => rfl) ?_
    refine wp_call (pc' := 304) (rest := []) (fun Z => rfl) (isO_of sh65) hw ?_
    rintro o h1 ⟨S14, rfl, rfl, hw⟩
    refine ⟨_, rfl, ?_⟩
    show wp E (d + 1) m_m_expression 304 [some (.ref 65), j1, j2, some (.int a3), j4] [] (Hp S14) (QV Q)
    refine wp_st (pc' := 306) (L' := [some (.ref 65), j1, j2, some (.int a3), j4]) (st' := [.int 0, .ref 65]) (h' := Hp S14) 2 (fun Z => rfl) ?_
    refine wp_call (pc' := 309) (rest := []) (fun Z => rfl) (isO_of sh65) hw ?_
    rintro o h1 ⟨S16, rfl, rfl, hw⟩
    refine ⟨_, rfl, ?_⟩
    show wp E (d + 1) m_m_expression 309 [some (.ref 65), j1, j2, some (.int a3), j4] [] (Hp S16) (QV Q)
    exact wp_st 2 (fun Z => rfl) (show wp E (d + 1) m_m_expression 39 [some (.ref 65), j1, j2, some (.int a3), j4] [] (Hp S16) (QV Q) from (hw j1 j2 j4))
set_option maxRecDepth 4000 in
theorem w_m_expression_340 {E : zX} {d : Nat} {S : St}  {Q : St → Prop} (hd : 1 ≤ d) 
    (hw : k_m_isGood E (d - 1) S (fun x1 S2 =>
    if x1 = 0 then (
      k_m_drops E (d - 1) S2 0 (fun S4 =>
      k_m_puts E (d - 1) S4 0 (fun S6 =>
      Q S6)))
    else (
      if (S2 65 33) ≤ 1 then (
        k_m_drops E (d - 1) S2 0 (fun S8 =>
        k_m_puts E (d - 1) S8 0 (fun S10 =>
        Q S10)))
      else (
        k_m_wrong E (d - 1) S2 1 (fun S12 =>
        k_m_drops E (d - 1) S12 0 (fun S14 =>
        k_m_puts E (d - 1) S14 0 (fun S16 =>
        Q S16))))))) :
    k_m_expression_340 E d S Q := by
  obtain ⟨d, rfl⟩ := Nat.exists_eq_add_of_le' hd
  intro j1 j2 j3 j4
  show wp E (d + 1) m_m_expression 340 [some (.ref 65), j1, j2, j3, j4] [] (Hp S) (QV Q)
  refine wp_st (pc' := 341) (L' := [some (.ref 65), j1, j2, j3, j4]) (st' := [.ref 65]) (h' := Hp S) 1 (fun Z => rfl) ?_
  refine wp_call (pc' := 344) (rest := []) (fun Z => rfl) (isO_of sh65) hw ?_
  rintro o h1 ⟨x1, S2, rfl, rfl, hw⟩
  refine ⟨_, rfl, ?_⟩
  show wp E (d + 1) m_m_expression 344 [some (.ref 65), j1, j2, j3, j4] [.int x1] (Hp S2) (QV Q)
  by_cases hc : x1 = 0
  · rw [if_pos hc] at hw
    refine wp_st (pc' := 360) (L' := [some (.ref 65), j1, j2, j3, j4]) (st' := []) (h' := Hp S2) 1 (fun Z => if_pos hc) ?_
    refine wp_st (pc' := 362) (L' := [some (.ref 65), j1, j2, j3, j4]) (st' := [.int 0, .ref 65]) (h' := Hp S2) 2 (fun Z => rfl) ?_
    refine wp_call (pc' := 365) (rest := []) (fun Z => rfl) (isO_of sh65) hw ?_
    rintro o h1 ⟨S4, rfl, rfl, hw⟩
    refine ⟨_, rfl, ?_⟩
    show wp E (d + 1) m_m_expression 365 [some (.ref 65), j1, j2, j3, j4] [] (Hp S4) (QV Q)
    refine wp_st (pc' := 367) (L' := [some (.ref 65), j1, j2, j3, j4]) (st' := [.int 0, .ref 65]) (h' := Hp S4) 2 (fun Z => rfl) ?_
    refine wp_call (pc' := 370) (rest := []) (fun Z => rfl) (isO_of sh65) hw ?_
    rintro o h1 ⟨S6, rfl, rfl, hw⟩
    refine ⟨_, rfl, ?_⟩
    show wp E (d + 1) m_m_expression 370 [some (.ref 65), j1, j2, j3, j4] [] (Hp S6) (QV Q)
    exact wp_ret (fun Z => rfl) ⟨_, rfl, rfl, hw⟩
  · rw [if_neg hc] at hw
    refine wp_st (pc' := 347) (L' := [some (.ref 65), j1, j2, j3, j4]) (st' := []) (h' := Hp S2) 1 (fun Z => if_neg hc) ?_
    refine wp_st (pc' := 348) (L' := [some (.ref 65), j1, j2, j3, j4]) (st' := [.ref 65]) (h' := Hp S2) 1 (fun Z => rfl) ?_
    refine wp_st (pc' := 351) (L' := [some (.ref 65), j1, j2, j3, j4]) (st' := [.int (S2 65 33)]) (h' := Hp S2) 1 (fun Z => gfI (E := E) sh65 rfl _) ?_
    refine wp_st (pc' := 352) (L' := [some (.ref 65), j1, j2, j3, j4]) (st' := [.int 1, .int (S2 65 33)]) (h' := Hp S2) 1 (fun Z => rfl) ?_
    by_cases hc : (S2 65 33) ≤ 1
    · rw [if_pos hc] at hw
      refine wp_st (pc' := 360) (L' := [some (.ref 65), j1, j2, j3, j4]) (st' := []) (h' := Hp S2) 1 (fun Z => if_pos hc) ?_
      refine wp_st (pc' := 362) (L' := [some (.ref 65), j1, j2, j3, j4]) (st' := [.int 0, .ref 65]) (h' := Hp S2) 2 (fun Z => rfl) ?_
      refine wp_call (pc' := 365) (rest := []) (fun Z => rfl) (isO_of sh65) hw ?_
      rintro o h1 ⟨S8, rfl, rfl, hw⟩
      refine ⟨_, rfl, ?_⟩
      show wp E (d + 1) m_m_expression 365 [some (.ref 65), j1, j2, j3, j4] [] (Hp S8) (QV Q)
      refine wp_st (pc' := 367) (L' := [some (.ref 65), j1, j2, j3, j4]) (st' := [.int 0, .ref 65]) (h' := Hp S8) 2 (fun Z => rfl) ?_
      refine wp_call (pc' := 370) (rest := []) (fun Z => rfl) (isO_of sh65) hw ?_
      rintro o h1 ⟨S10, rfl, rfl, hw⟩
      refine ⟨_, rfl, ?_⟩
      show wp E (d + 1) m_m_expression 370 [some (.ref 65), j1, j2, j3, j4] [] (Hp S10) (QV Q)
      exact wp_ret (fun Z => rfl) ⟨_, rfl, rfl, hw⟩
    · rw [if_neg hc] at hw
      refine wp_st (pc' := 355) (L' := [some (.ref 65), j1, j2, j3, j4]) (st' := []) (h' := Hp S2) 1 (fun Z => if_neg hc) ?_
      refine wp_st (pc' := 357) (L' := [some (.ref 65), j1, j2, j3, j4]) (st' := [.int 1, .ref 65]) (h' := Hp S2) 2 (fun Z => rfl) ?_
      refine wp_call (pc' := 360) (rest := []) (fun Z => rfl) (isO_of sh65) hw ?_
      rintro o h1 ⟨S12, rfl, rfl, hw⟩
      refine ⟨_, rfl, ?_⟩
      show wp E (d + 1) m_m_expression 360 [some (.ref 65), j1, j2, j3, j4] [] (Hp S12) (QV Q)
      refine wp_st (pc' := 362) (L' := [some (.ref 65), j1, j2, j3, j4]) (st' := [.int 0, .ref 65]) (h' := Hp S12) 2 (fun Z => rfl) ?_
      refine wp_call (pc' := 365) (rest := []) (fun Z => rfl) (isO_of sh65) hw ?_
      rintro o h1 ⟨S14, rfl, rfl, hw⟩
      refine ⟨_, rfl, ?_⟩
      show wp E (d + 1) m_m_expression 365 [some (.ref 65), j1, j2, j3, j4] [] (Hp S14) (QV Q)
      refine wp_st (pc' := 367) (L' := [some (.ref 65), j1, j2, j3, j4]) (st' := [.int 0, .ref 65]) (h' := Hp S14) 2 (fun Z => rfl) ?_
      refine wp_call (pc' := 370) (rest := []) (fun Z => rfl) (isO_of sh65) hw ?_
      rintro o h1 ⟨S16, rfl, rfl, hw⟩
      refine ⟨_, rfl, ?_⟩
      show wp E (d + 1) m_m_expression 370 [some (.ref 65), j1, j2, j3, j4] [] (Hp S16) (QV Q)
      exact wp_ret (fun Z => rfl) ⟨_, rfl, rfl, hw⟩
set_option maxRecDepth 4000 in
theorem w_m_deeper {E : zX} {d : Nat} {S : St}  {Q : St → Prop} (hd : 1 ≤ d) 
    (hw : if 6 ≤ (S 65 33) then (
      if (S 65 17) = 2 then (
        k_m_wrong E (d - 1) S 2 (fun S2 =>
        Q S2))
      else (
        if (S 65 17) = 1 then (
          k_m_wrong E (d - 1) S 2 (fun S4 =>
          Q S4))
        else (
          k_m_isSign E (d - 1) S 40 (fun x5 S6 =>
          if x5 = 0 then (
            k_m_wrong E (d - 1) S6 1 (fun S8 =>
            Q S8))
          else (
            k_m_wrong E (d - 1) S6 2 (fun S10 =>
            Q S10))))))
    else (
      ∀ S11, S11 = up S 65 33 ((S 65 33) + (1 : Int32)) →
      ∃ m13 : Nat, (S11 65 33) = nI m13 ∧ m13 < 9 ∧
      ∀ S12, S12 = up S11 76 m13 0 →
      Q S12)) :
    k_m_deeper E d S Q := by
  obtain ⟨d, rfl⟩ := Nat.exists_eq_add_of_le' hd
  show wp E (d + 1) m_m_deeper 0 [some (.ref 65)] [] (Hp S) (QV Q)
  refine wp_st (pc' := 1) (L' := [some (.ref 65)]) (st' := [.ref 65]) (h' := Hp S) 1 (fun Z => rfl) ?_
  refine wp_st (pc' := 4) (L' := [some (.ref 65)]) (st' := [.int (S 65 33)]) (h' := Hp S) 1 (fun Z => gfI (E := E) sh65 rfl _) ?_
  refine wp_st (pc' := 6) (L' := [some (.ref 65)]) (st' := [.int 6, .int (S 65 33)]) (h' := Hp S) 1 (fun Z => rfl) ?_
  by_cases hc : 6 ≤ (S 65 33)
  · rw [if_pos hc] at hw
    refine wp_st (pc' := 30) (L' := [some (.ref 65)]) (st' := []) (h' := Hp S) 1 (fun Z => if_pos hc) ?_
    refine wp_st (pc' := 32) (L' := [some (.ref 65)]) (st' := [.ref 65, .ref 65]) (h' := Hp S) 2 (fun Z => rfl) ?_
    refine wp_st (pc' := 35) (L' := [some (.ref 65)]) (st' := [.int (S 65 17), .ref 65]) (h' := Hp S) 1 (fun Z => gfI (E := E) sh65 rfl _) ?_
    refine wp_st (pc' := 36) (L' := [some (.ref 65)]) (st' := [.int 2, .int (S 65 17), .ref 65]) (h' := Hp S) 1 (fun Z => rfl) ?_
    by_cases hc : (S 65 17) = 2
    · rw [if_pos hc] at hw
      refine wp_st (pc' := 56) (L' := [some (.ref 65)]) (st' := [.ref 65]) (h' := Hp S) 1 (fun Z => if_pos hc) ?_
      refine wp_st (pc' := 61) (L' := [some (.ref 65)]) (st' := [.int 2, .ref 65]) (h' := Hp S) 2 (fun Z => rfl) ?_
      refine wp_call (pc' := 64) (rest := []) (fun Z => rfl) (isO_of sh65) hw ?_
      rintro o h1 ⟨S2, rfl, rfl, hw⟩
      refine ⟨_, rfl, ?_⟩
      show wp E (d + 1) m_m_deeper 64 [some (.ref 65)] [] (Hp S2) (QV Q)
      exact wp_ret (fun Z => rfl) ⟨_, rfl, rfl, hw⟩
    · rw [if_neg hc] at hw
      refine wp_st (pc' := 39) (L' := [some (.ref 65)]) (st' := [.ref 65]) (h' := Hp S) 1 (fun Z => if_neg hc) ?_
      refine wp_st (pc' := 40) (L' := [some (.ref 65)]) (st' := [.ref 65, .ref 65]) (h' := Hp S) 1 (fun Z => rfl) ?_
      refine wp_st (pc' := 43) (L' := [some (.ref 65)]) (st' := [.int (S 65 17), .ref 65]) (h' := Hp S) 1 (fun Z => gfI (E := E) sh65 rfl _) ?_
      refine wp_st (pc' := 44) (L' := [some (.ref 65)]) (st' := [.int 1, .int (S 65 17), .ref 65]) (h' := Hp S) 1 (fun Z => rfl) ?_
      by_cases hc : (S 65 17) = 1
      · rw [if_pos hc] at hw
        refine wp_st (pc' := 56) (L' := [some (.ref 65)]) (st' := [.ref 65]) (h' := Hp S) 1 (fun Z => if_pos hc) ?_
        refine wp_st (pc' := 61) (L' := [some (.ref 65)]) (st' := [.int 2, .ref 65]) (h' := Hp S) 2 (fun Z => rfl) ?_
        refine wp_call (pc' := 64) (rest := []) (fun Z => rfl) (isO_of sh65) hw ?_
        rintro o h1 ⟨S4, rfl, rfl, hw⟩
        refine ⟨_, rfl, ?_⟩
        show wp E (d + 1) m_m_deeper 64 [some (.ref 65)] [] (Hp S4) (QV Q)
        exact wp_ret (fun Z => rfl) ⟨_, rfl, rfl, hw⟩
      · rw [if_neg hc] at hw
        refine wp_st (pc' := 47) (L' := [some (.ref 65)]) (st' := [.ref 65]) (h' := Hp S) 1 (fun Z => if_neg hc) ?_
        refine wp_st (pc' := 50) (L' := [some (.ref 65)]) (st' := [.int 40, .ref 65, .ref 65]) (h' := Hp S) 2 (fun Z => rfl) ?_
        refine wp_call (pc' := 53) (rest := [.ref 65]) (fun Z => rfl) (isO_of sh65) hw ?_
        rintro o h1 ⟨x5, S6, rfl, rfl, hw⟩
        refine ⟨_, rfl, ?_⟩
        show wp E (d + 1) m_m_deeper 53 [some (.ref 65)] [.int x5, .ref 65] (Hp S6) (QV Q)
        by_cases hc : x5 = 0
        · rw [if_pos hc] at hw
          refine wp_st (pc' := 60) (L' := [some (.ref 65)]) (st' := [.ref 65]) (h' := Hp S6) 1 (fun Z => if_pos hc) ?_
          refine wp_st (pc' := 61) (L' := [some (.ref 65)]) (st' := [.int 1, .ref 65]) (h' := Hp S6) 1 (fun Z => rfl) ?_
          refine wp_call (pc' := 64) (rest := []) (fun Z => rfl) (isO_of sh65) hw ?_
          rintro o h1 ⟨S8, rfl, rfl, hw⟩
          refine ⟨_, rfl, ?_⟩
          show wp E (d + 1) m_m_deeper 64 [some (.ref 65)] [] (Hp S8) (QV Q)
          exact wp_ret (fun Z => rfl) ⟨_, rfl, rfl, hw⟩
        · rw [if_neg hc] at hw
          refine wp_st (pc' := 56) (L' := [some (.ref 65)]) (st' := [.ref 65]) (h' := Hp S6) 1 (fun Z => if_neg hc) ?_
          refine wp_st (pc' := 61) (L' := [some (.ref 65)]) (st' := [.int 2, .ref 65]) (h' := Hp S6) 2 (fun Z => rfl) ?_
          refine wp_call (pc' := 64) (rest := []) (fun Z => rfl) (isO_of sh65) hw ?_
          rintro o h1 ⟨S10, rfl, rfl, hw⟩
          refine ⟨_, rfl, ?_⟩
          show wp E (d + 1) m_m_deeper 64 [some (.ref 65)] [] (Hp S10) (QV Q)
          exact wp_ret (fun Z => rfl) ⟨_, rfl, rfl, hw⟩
  · rw [if_neg hc] at hw
    refine wp_st (pc' := 9) (L' := [some (.ref 65)]) (st' := []) (h' := Hp S) 1 (fun Z => if_neg hc) ?_
    refine wp_st (pc' := 11) (L' := [some (.ref 65)]) (st' := [.ref 65, .ref 65]) (h' := Hp S) 2 (fun Z => rfl) ?_
    refine wp_st (pc' := 14) (L' := [some (.ref 65)]) (st' := [.int (S 65 33), .ref 65]) (h' := Hp S) 1 (fun Z => gfI (E := E) sh65 rfl _) ?_
    refine wp_st (pc' := 16) (L' := [some (.ref 65)]) (st' := [.int ((S 65 33) + (1 : Int32)), .ref 65]) (h' := Hp S) 2 (fun Z => rfl) ?_
    have hw := hw _ rfl
    refine wp_st (pc' := 19) (L' := [some (.ref 65)]) (st' := []) (h' := Hp (up S 65 33 ((S 65 33) + (1 : Int32)))) 1 (fun Z => pfI sh65 rfl (Nat.le_of_ble_eq_true rfl) rfl _) ?_
    generalize up S 65 33 ((S 65 33) + (1 : Int32)) = S11 at hw ⊢
    refine wp_st (pc' := 20) (L' := [some (.ref 65)]) (st' := [.ref 65]) (h' := Hp S11) 1 (fun Z => rfl) ?_
    refine wp_st (pc' := 23) (L' := [some (.ref 65)]) (st' := [.ref 76]) (h' := Hp S11) 1 (fun Z => gfR (E := E) sh65 rfl _) ?_
    refine wp_st (pc' := 24) (L' := [some (.ref 65)]) (st' := [.ref 65, .ref 76]) (h' := Hp S11) 1 (fun Z => rfl) ?_
    refine wp_st (pc' := 27) (L' := [some (.ref 65)]) (st' := [.int (S11 65 33), .ref 76]) (h' := Hp S11) 1 (fun Z => gfI (E := E) sh65 rfl _) ?_
    refine wp_st (pc' := 28) (L' := [some (.ref 65)]) (st' := [.int 0, .int (S11 65 33), .ref 76]) (h' := Hp S11) 1 (fun Z => rfl) ?_
    obtain ⟨m13, em, hi, hw⟩ := hw
    have hw := hw _ rfl
    refine wp_st (pc' := 29) (L' := [some (.ref 65)]) (st' := []) (h' := Hp (up S11 76 m13 0)) 1 (fun Z => (congrArg (fun v => zit E 1 Z (d + 1) m_m_deeper 28 [some (.ref 65)] [.int 0, .int v, .ref 76] (Hp S11)) em).trans (stZN sh76 (by decide) hi rfl _ _)) ?_
    generalize up S11 76 m13 0 = S12 at hw ⊢
    exact wp_ret (fun Z => rfl) ⟨_, rfl, rfl, hw⟩
set_option maxRecDepth 4000 in
theorem w_m_drops {E : zX} {d : Nat} {S : St} {a1 : Int32} {Q : St → Prop} (hd : 1 ≤ d) 
    (hw : k_m_drops_0 E d S a1 Q) :
    k_m_drops E d S a1 Q := by
  obtain ⟨d, rfl⟩ := Nat.exists_eq_add_of_le' hd
  show wp E (d + 1) m_m_drops 0 [some (.ref 65), some (.int a1)] [] (Hp S) (QV Q)
  exact (show wp E (d + 1) m_m_drops 0 [some (.ref 65), some (.int a1)] [] (Hp S) (QV Q) from hw)
set_option maxRecDepth 4000 in
theorem w_m_drops_0 {E : zX} {d : Nat} {S : St} {a1 : Int32} {Q : St → Prop} (hd : 1 ≤ d) 
    (hw : if (S 65 32) ≤ 0 then (
      Q S)
    else (
      ∃ m1 : Nat, ((S 65 32) - (1 : Int32)) = nI m1 ∧ m1 < 950 ∧
      k_m_isOpen E (d - 1) S (S 75 m1) (fun x2 S3 =>
      if x2 = 0 then (
        ∃ m4 : Nat, ((S3 65 32) - (1 : Int32)) = nI m4 ∧ m4 < 950 ∧
        k_m_strength E (d - 1) S3 (S3 75 m4) (fun x5 S6 =>
        if x5 < a1 then (
          Q S6)
        else (
          ∀ S7, S7 = up S6 65 32 ((S6 65 32) - (1 : Int32)) →
          ∃ m8 : Nat, (S7 65 32) = nI m8 ∧ m8 < 950 ∧
          k_m_puts E (d - 1) S7 (S7 75 m8) (fun S10 =>
          k_m_drops_0 E d S10 a1 Q))))
      else (
        Q S3)))) :
    k_m_drops_0 E d S a1 Q := by
  obtain ⟨d, rfl⟩ := Nat.exists_eq_add_of_le' hd
  show wp E (d + 1) m_m_drops 0 [some (.ref 65), some (.int a1)] [] (Hp S) (QV Q)
  refine wp_st (pc' := 1) (L' := [some (.ref 65), some (.int a1)]) (st' := [.ref 65]) (h' := Hp S) 1 (fun Z => rfl) ?_
  refine wp_st (pc' := 4) (L' := [some (.ref 65), some (.int a1)]) (st' := [.int (S 65 32)]) (h' := Hp S) 1 (fun Z => gfI (E := E) sh65 rfl _) ?_
  by_cases hc : (S 65 32) ≤ 0
  · rw [if_pos hc] at hw
    refine wp_st (pc' := 68) (L' := [some (.ref 65), some (.int a1)]) (st' := []) (h' := Hp S) 1 (fun Z => if_pos hc) ?_
    exact wp_ret (fun Z => rfl) ⟨_, rfl, rfl, hw⟩
  · rw [if_neg hc] at hw
    refine wp_st (pc' := 7) (L' := [some (.ref 65), some (.int a1)]) (st' := []) (h' := Hp S) 1 (fun Z => if_neg hc) ?_
    refine wp_st (pc' := 8) (L' := [some (.ref 65), some (.int a1)]) (st' := [.ref 65]) (h' := Hp S) 1 (fun Z => rfl) ?_
    refine wp_st (pc' := 11) (L' := [some (.ref 65), some (.int a1)]) (st' := [.ref 75]) (h' := Hp S) 1 (fun Z => gfR (E := E) sh65 rfl _) ?_
    refine wp_st (pc' := 12) (L' := [some (.ref 65), some (.int a1)]) (st' := [.ref 65, .ref 75]) (h' := Hp S) 1 (fun Z => rfl) ?_
    refine wp_st (pc' := 15) (L' := [some (.ref 65), some (.int a1)]) (st' := [.int (S 65 32), .ref 75]) (h' := Hp S) 1 (fun Z => gfI (E := E) sh65 rfl _) ?_
    refine wp_st (pc' := 17) (L' := [some (.ref 65), some (.int a1)]) (st' := [.int ((S 65 32) - (1 : Int32)), .ref 75]) (h' := Hp S) 2 (fun Z => rfl) ?_
    obtain ⟨m1, em, hi, hw⟩ := hw
    refine wp_st (pc' := 18) (L' := [some (.ref 65), some (.int a1)]) (st' := [.int (S 75 m1)]) (h' := Hp S) 1 (fun Z => (congrArg (fun v => zit E 1 Z (d + 1) m_m_drops 17 [some (.ref 65), some (.int a1)] [.int v, .ref 75] (Hp S)) em).trans (ldN (E := E) sh75 (by decide) hi [] (fun st => Z (d + 1) m_m_drops 18 [some (.ref 65), some (.int a1)] st (Hp S)))) ?_
    refine wp_call (pc' := 21) (rest := []) (fun Z => rfl) rfl hw ?_
    rintro o h1 ⟨x2, S3, rfl, rfl, hw⟩
    refine ⟨_, rfl, ?_⟩
    show wp E (d + 1) m_m_drops 21 [some (.ref 65), some (.int a1)] [.int x2] (Hp S3) (QV Q)
    by_cases hc : x2 = 0
    · rw [if_pos hc] at hw
      refine wp_st (pc' := 24) (L' := [some (.ref 65), some (.int a1)]) (st' := []) (h' := Hp S3) 1 (fun Z => if_pos hc) ?_
      refine wp_st (pc' := 25) (L' := [some (.ref 65), some (.int a1)]) (st' := [.ref 65]) (h' := Hp S3) 1 (fun Z => rfl) ?_
      refine wp_st (pc' := 28) (L' := [some (.ref 65), some (.int a1)]) (st' := [.ref 75]) (h' := Hp S3) 1 (fun Z => gfR (E := E) sh65 rfl _) ?_
      refine wp_st (pc' := 29) (L' := [some (.ref 65), some (.int a1)]) (st' := [.ref 65, .ref 75]) (h' := Hp S3) 1 (fun Z => rfl) ?_
      refine wp_st (pc' := 32) (L' := [some (.ref 65), some (.int a1)]) (st' := [.int (S3 65 32), .ref 75]) (h' := Hp S3) 1 (fun Z => gfI (E := E) sh65 rfl _) ?_
      refine wp_st (pc' := 34) (L' := [some (.ref 65), some (.int a1)]) (st' := [.int ((S3 65 32) - (1 : Int32)), .ref 75]) (h' := Hp S3) 2 (fun Z => rfl) ?_
      obtain ⟨m4, em, hi, hw⟩ := hw
      refine wp_st (pc' := 35) (L' := [some (.ref 65), some (.int a1)]) (st' := [.int (S3 75 m4)]) (h' := Hp S3) 1 (fun Z => (congrArg (fun v => zit E 1 Z (d + 1) m_m_drops 34 [some (.ref 65), some (.int a1)] [.int v, .ref 75] (Hp S3)) em).trans (ldN (E := E) sh75 (by decide) hi [] (fun st => Z (d + 1) m_m_drops 35 [some (.ref 65), some (.int a1)] st (Hp S3)))) ?_
      refine wp_call (pc' := 38) (rest := []) (fun Z => rfl) rfl hw ?_
      rintro o h1 ⟨x5, S6, rfl, rfl, hw⟩
      refine ⟨_, rfl, ?_⟩
      show wp E (d + 1) m_m_drops 38 [some (.ref 65), some (.int a1)] [.int x5] (Hp S6) (QV Q)
      refine wp_st (pc' := 39) (L' := [some (.ref 65), some (.int a1)]) (st' := [.int a1, .int x5]) (h' := Hp S6) 1 (fun Z => rfl) ?_
      by_cases hc : x5 < a1
      · rw [if_pos hc] at hw
        refine wp_st (pc' := 68) (L' := [some (.ref 65), some (.int a1)]) (st' := []) (h' := Hp S6) 1 (fun Z => if_pos hc) ?_
        exact wp_ret (fun Z => rfl) ⟨_, rfl, rfl, hw⟩
      · rw [if_neg hc] at hw
        refine wp_st (pc' := 42) (L' := [some (.ref 65), some (.int a1)]) (st' := []) (h' := Hp S6) 1 (fun Z => if_neg hc) ?_
        refine wp_st (pc' := 44) (L' := [some (.ref 65), some (.int a1)]) (st' := [.ref 65, .ref 65]) (h' := Hp S6) 2 (fun Z => rfl) ?_
        refine wp_st (pc' := 47) (L' := [some (.ref 65), some (.int a1)]) (st' := [.int (S6 65 32), .ref 65]) (h' := Hp S6) 1 (fun Z => gfI (E := E) sh65 rfl _) ?_
        refine wp_st (pc' := 49) (L' := [some (.ref 65), some (.int a1)]) (st' := [.int ((S6 65 32) - (1 : Int32)), .ref 65]) (h' := Hp S6) 2 (fun Z => rfl) ?_
        have hw := hw _ rfl
        refine wp_st (pc' := 52) (L' := [some (.ref 65), some (.int a1)]) (st' := []) (h' := Hp (up S6 65 32 ((S6 65 32) - (1 : Int32)))) 1 (fun Z => pfI sh65 rfl (Nat.le_of_ble_eq_true rfl) rfl _) ?_
        generalize up S6 65 32 ((S6 65 32) - (1 : Int32)) = S7 at hw ⊢
        refine wp_st (pc' := 54) (L' := [some (.ref 65), some (.int a1)]) (st' := [.ref 65, .ref 65]) (h' := Hp S7) 2 (fun Z => rfl) ?_
        refine wp_st (pc' := 57) (L' := [some (.ref 65), some (.int a1)]) (st' := [.ref 75, .ref 65]) (h' := Hp S7) 1 (fun Z => gfR (E := E) sh65 rfl _) ?_
        refine wp_st (pc' := 58) (L' := [some (.ref 65), some (.int a1)]) (st' := [.ref 65, .ref 75, .ref 65]) (h' := Hp S7) 1 (fun Z => rfl) ?_
        refine wp_st (pc' := 61) (L' := [some (.ref 65), some (.int a1)]) (st' := [.int (S7 65 32), .ref 75, .ref 65]) (h' := Hp S7) 1 (fun Z => gfI (E := E) sh65 rfl _) ?_
        obtain ⟨m8, em, hi, hw⟩ := hw
        refine wp_st (pc' := 62) (L' := [some (.ref 65), some (.int a1)]) (st' := [.int (S7 75 m8), .ref 65]) (h' := Hp S7) 1 (fun Z => (congrArg (fun v => zit E 1 Z (d + 1) m_m_drops 61 [some (.ref 65), some (.int a1)] [.int v, .ref 75, .ref 65] (Hp S7)) em).trans (ldN (E := E) sh75 (by decide) hi [.ref 65] (fun st => Z (d + 1) m_m_drops 62 [some (.ref 65), some (.int a1)] st (Hp S7)))) ?_
        refine wp_call (pc' := 65) (rest := []) (fun Z => rfl) (isO_of sh65) hw ?_
        rintro o h1 ⟨S10, rfl, rfl, hw⟩
        refine ⟨_, rfl, ?_⟩
        show wp E (d + 1) m_m_drops 65 [some (.ref 65), some (.int a1)] [] (Hp S10) (QV Q)
        exact wp_st 1 (fun Z => rfl) (show wp E (d + 1) m_m_drops 0 [some (.ref 65), some (.int a1)] [] (Hp S10) (QV Q) from hw)
    · rw [if_neg hc] at hw
      refine wp_st (pc' := 68) (L' := [some (.ref 65), some (.int a1)]) (st' := []) (h' := Hp S3) 1 (fun Z => if_neg hc) ?_
      exact wp_ret (fun Z => rfl) ⟨_, rfl, rfl, hw⟩
set_option maxRecDepth 4000 in
theorem w_m_isOpen {E : zX} {d : Nat} {S : St} {a0 : Int32} {Q : Int32 → St → Prop} 
    (hw : if a0 < 14 then (
      Q (0 : Int32) S)
    else (
      Q (1 : Int32) S)) :
    k_m_isOpen E d S a0 Q := by
  show wp E d m_m_isOpen 0 [some (.int a0)] [] (Hp S) (QI Q)
  refine wp_st (pc' := 3) (L' := [some (.int a0)]) (st' := [.int 14, .int a0]) (h' := Hp S) 2 (fun Z => rfl) ?_
  by_cases hc : a0 < 14
  · rw [if_pos hc] at hw
    refine wp_st (pc' := 10) (L' := [some (.int a0)]) (st' := []) (h' := Hp S) 1 (fun Z => if_pos hc) ?_
    refine wp_st (pc' := 11) (L' := [some (.int a0)]) (st' := [.int 0]) (h' := Hp S) 1 (fun Z => rfl) ?_
    exact wp_ret (fun Z => rfl) ⟨_, _, rfl, rfl, hw⟩
  · rw [if_neg hc] at hw
    refine wp_st (pc' := 6) (L' := [some (.int a0)]) (st' := []) (h' := Hp S) 1 (fun Z => if_neg hc) ?_
    refine wp_st (pc' := 11) (L' := [some (.int a0)]) (st' := [.int 1]) (h' := Hp S) 2 (fun Z => rfl) ?_
    exact wp_ret (fun Z => rfl) ⟨_, _, rfl, rfl, hw⟩
set_option maxRecDepth 4000 in
theorem w_m_isOpened {E : zX} {d : Nat} {S : St}  {Q : Int32 → St → Prop} (hd : 1 ≤ d) 
    (hw : k_m_isOpened_7 E d S ((S 65 32) - (1 : Int32)) Q) :
    k_m_isOpened E d S Q := by
  obtain ⟨d, rfl⟩ := Nat.exists_eq_add_of_le' hd
  show wp E (d + 1) m_m_isOpened 0 [some (.ref 65), none] [] (Hp S) (QI Q)
  refine wp_st (pc' := 1) (L' := [some (.ref 65), none]) (st' := [.ref 65]) (h' := Hp S) 1 (fun Z => rfl) ?_
  refine wp_st (pc' := 4) (L' := [some (.ref 65), none]) (st' := [.int (S 65 32)]) (h' := Hp S) 1 (fun Z => gfI (E := E) sh65 rfl _) ?_
  exact wp_st 3 (fun Z => rfl) (show wp E (d + 1) m_m_isOpened 7 [some (.ref 65), some (.int ((S 65 32) - (1 : Int32)))] [] (Hp S) (QI Q) from hw)
set_option maxRecDepth 4000 in
theorem w_m_isOpened_7 {E : zX} {d : Nat} {S : St} {a1 : Int32} {Q : Int32 → St → Prop} (hd : 1 ≤ d) 
    (hw : if a1 < 0 then (
      if a1 < 0 then (
        Q (0 : Int32) S)
      else (
        Q (1 : Int32) S))
    else (
      ∃ m1 : Nat, a1 = nI m1 ∧ m1 < 950 ∧
      k_m_isOpen E (d - 1) S (S 75 m1) (fun x2 S3 =>
      if x2 = 0 then (
        k_m_isOpened_7 E d S3 (a1 + (-1)) Q)
      else (
        if a1 < 0 then (
          Q (0 : Int32) S3)
        else (
          Q (1 : Int32) S3))))) :
    k_m_isOpened_7 E d S a1 Q := by
  obtain ⟨d, rfl⟩ := Nat.exists_eq_add_of_le' hd
  show wp E (d + 1) m_m_isOpened 7 [some (.ref 65), some (.int a1)] [] (Hp S) (QI Q)
  refine wp_st (pc' := 8) (L' := [some (.ref 65), some (.int a1)]) (st' := [.int a1]) (h' := Hp S) 1 (fun Z => rfl) ?_
  by_cases hc : a1 < 0
  · rw [if_pos hc] at hw
    refine wp_st (pc' := 29) (L' := [some (.ref 65), some (.int a1)]) (st' := []) (h' := Hp S) 1 (fun Z => if_pos hc) ?_
    refine wp_st (pc' := 30) (L' := [some (.ref 65), some (.int a1)]) (st' := [.int a1]) (h' := Hp S) 1 (fun Z => rfl) ?_
    by_cases hc : a1 < 0
    · rw [if_pos hc] at hw
      refine wp_st (pc' := 37) (L' := [some (.ref 65), some (.int a1)]) (st' := []) (h' := Hp S) 1 (fun Z => if_pos hc) ?_
      refine wp_st (pc' := 38) (L' := [some (.ref 65), some (.int a1)]) (st' := [.int 0]) (h' := Hp S) 1 (fun Z => rfl) ?_
      exact wp_ret (fun Z => rfl) ⟨_, _, rfl, rfl, hw⟩
    · rw [if_neg hc] at hw
      refine wp_st (pc' := 33) (L' := [some (.ref 65), some (.int a1)]) (st' := []) (h' := Hp S) 1 (fun Z => if_neg hc) ?_
      refine wp_st (pc' := 38) (L' := [some (.ref 65), some (.int a1)]) (st' := [.int 1]) (h' := Hp S) 2 (fun Z => rfl) ?_
      exact wp_ret (fun Z => rfl) ⟨_, _, rfl, rfl, hw⟩
  · rw [if_neg hc] at hw
    refine wp_st (pc' := 11) (L' := [some (.ref 65), some (.int a1)]) (st' := []) (h' := Hp S) 1 (fun Z => if_neg hc) ?_
    refine wp_st (pc' := 12) (L' := [some (.ref 65), some (.int a1)]) (st' := [.ref 65]) (h' := Hp S) 1 (fun Z => rfl) ?_
    refine wp_st (pc' := 15) (L' := [some (.ref 65), some (.int a1)]) (st' := [.ref 75]) (h' := Hp S) 1 (fun Z => gfR (E := E) sh65 rfl _) ?_
    refine wp_st (pc' := 16) (L' := [some (.ref 65), some (.int a1)]) (st' := [.int a1, .ref 75]) (h' := Hp S) 1 (fun Z => rfl) ?_
    obtain ⟨m1, em, hi, hw⟩ := hw
    refine wp_st (pc' := 17) (L' := [some (.ref 65), some (.int a1)]) (st' := [.int (S 75 m1)]) (h' := Hp S) 1 (fun Z => (congrArg (fun v => zit E 1 Z (d + 1) m_m_isOpened 16 [some (.ref 65), some (.int a1)] [.int v, .ref 75] (Hp S)) em).trans (ldN (E := E) sh75 (by decide) hi [] (fun st => Z (d + 1) m_m_isOpened 17 [some (.ref 65), some (.int a1)] st (Hp S)))) ?_
    refine wp_call (pc' := 20) (rest := []) (fun Z => rfl) rfl hw ?_
    rintro o h1 ⟨x2, S3, rfl, rfl, hw⟩
    refine ⟨_, rfl, ?_⟩
    show wp E (d + 1) m_m_isOpened 20 [some (.ref 65), some (.int a1)] [.int x2] (Hp S3) (QI Q)
    by_cases hc : x2 = 0
    · rw [if_pos hc] at hw
      refine wp_st (pc' := 23) (L' := [some (.ref 65), some (.int a1)]) (st' := []) (h' := Hp S3) 1 (fun Z => if_pos hc) ?_
      refine wp_st (pc' := 26) (L' := [some (.ref 65), some (.int (a1 + (-1)))]) (st' := []) (h' := Hp S3) 1 (fun Z => congrArg (fun v => Z (d + 1) m_m_isOpened 26 [some (.ref 65), some (.int (a1 + v))] [] (Hp S3)) (show Int32.ofInt (-1) = (-1) by decide)) ?_
      exact wp_st 1 (fun Z => rfl) (show wp E (d + 1) m_m_isOpened 7 [some (.ref 65), some (.int (a1 + (-1)))] [] (Hp S3) (QI Q) from hw)
    · rw [if_neg hc] at hw
      refine wp_st (pc' := 29) (L' := [some (.ref 65), some (.int a1)]) (st' := []) (h' := Hp S3) 1 (fun Z => if_neg hc) ?_
      refine wp_st (pc' := 30) (L' := [some (.ref 65), some (.int a1)]) (st' := [.int a1]) (h' := Hp S3) 1 (fun Z => rfl) ?_
      by_cases hc : a1 < 0
      · rw [if_pos hc] at hw
        refine wp_st (pc' := 37) (L' := [some (.ref 65), some (.int a1)]) (st' := []) (h' := Hp S3) 1 (fun Z => if_pos hc) ?_
        refine wp_st (pc' := 38) (L' := [some (.ref 65), some (.int a1)]) (st' := [.int 0]) (h' := Hp S3) 1 (fun Z => rfl) ?_
        exact wp_ret (fun Z => rfl) ⟨_, _, rfl, rfl, hw⟩
      · rw [if_neg hc] at hw
        refine wp_st (pc' := 33) (L' := [some (.ref 65), some (.int a1)]) (st' := []) (h' := Hp S3) 1 (fun Z => if_neg hc) ?_
        refine wp_st (pc' := 38) (L' := [some (.ref 65), some (.int a1)]) (st' := [.int 1]) (h' := Hp S3) 2 (fun Z => rfl) ?_
        exact wp_ret (fun Z => rfl) ⟨_, _, rfl, rfl, hw⟩
set_option maxRecDepth 4000 in
theorem w_m_closes {E : zX} {d : Nat} {S : St}  {Q : St → Prop} (hd : 1 ≤ d) 
    (hw : k_m_drops E (d - 1) S 0 (fun S2 =>
    ∀ S3, S3 = up S2 65 32 ((S2 65 32) - (1 : Int32)) →
    ∀ S4, S4 = up S3 65 33 ((S3 65 33) - (1 : Int32)) →
    k_m_goes E (d - 1) S4 (fun S6 =>
    Q S6))) :
    k_m_closes E d S Q := by
  obtain ⟨d, rfl⟩ := Nat.exists_eq_add_of_le' hd
  show wp E (d + 1) m_m_closes 0 [some (.ref 65)] [] (Hp S) (QV Q)
  refine wp_st (pc' := 2) (L' := [some (.ref 65)]) (st' := [.int 0, .ref 65]) (h' := Hp S) 2 (fun Z => rfl) ?_
  refine wp_call (pc' := 5) (rest := []) (fun Z => rfl) (isO_of sh65) hw ?_
  rintro o h1 ⟨S2, rfl, rfl, hw⟩
  refine ⟨_, rfl, ?_⟩
  show wp E (d + 1) m_m_closes 5 [some (.ref 65)] [] (Hp S2) (QV Q)
  refine wp_st (pc' := 7) (L' := [some (.ref 65)]) (st' := [.ref 65, .ref 65]) (h' := Hp S2) 2 (fun Z => rfl) ?_
  refine wp_st (pc' := 10) (L' := [some (.ref 65)]) (st' := [.int (S2 65 32), .ref 65]) (h' := Hp S2) 1 (fun Z => gfI (E := E) sh65 rfl _) ?_
  refine wp_st (pc' := 12) (L' := [some (.ref 65)]) (st' := [.int ((S2 65 32) - (1 : Int32)), .ref 65]) (h' := Hp S2) 2 (fun Z => rfl) ?_
  have hw := hw _ rfl
  refine wp_st (pc' := 15) (L' := [some (.ref 65)]) (st' := []) (h' := Hp (up S2 65 32 ((S2 65 32) - (1 : Int32)))) 1 (fun Z => pfI sh65 rfl (Nat.le_of_ble_eq_true rfl) rfl _) ?_
  generalize up S2 65 32 ((S2 65 32) - (1 : Int32)) = S3 at hw ⊢
  refine wp_st (pc' := 17) (L' := [some (.ref 65)]) (st' := [.ref 65, .ref 65]) (h' := Hp S3) 2 (fun Z => rfl) ?_
  refine wp_st (pc' := 20) (L' := [some (.ref 65)]) (st' := [.int (S3 65 33), .ref 65]) (h' := Hp S3) 1 (fun Z => gfI (E := E) sh65 rfl _) ?_
  refine wp_st (pc' := 22) (L' := [some (.ref 65)]) (st' := [.int ((S3 65 33) - (1 : Int32)), .ref 65]) (h' := Hp S3) 2 (fun Z => rfl) ?_
  have hw := hw _ rfl
  refine wp_st (pc' := 25) (L' := [some (.ref 65)]) (st' := []) (h' := Hp (up S3 65 33 ((S3 65 33) - (1 : Int32)))) 1 (fun Z => pfI sh65 rfl (Nat.le_of_ble_eq_true rfl) rfl _) ?_
  generalize up S3 65 33 ((S3 65 33) - (1 : Int32)) = S4 at hw ⊢
  refine wp_st (pc' := 26) (L' := [some (.ref 65)]) (st' := [.ref 65]) (h' := Hp S4) 1 (fun Z => rfl) ?_
  refine wp_call (pc' := 29) (rest := []) (fun Z => rfl) (isO_of sh65) hw ?_
  rintro o h1 ⟨S6, rfl, rfl, hw⟩
  refine ⟨_, rfl, ?_⟩
  show wp E (d + 1) m_m_closes 29 [some (.ref 65)] [] (Hp S6) (QV Q)
  exact wp_ret (fun Z => rfl) ⟨_, rfl, rfl, hw⟩
set_option maxRecDepth 4000 in
theorem w_m_copies {E : zX} {d : Nat} {S : St} {a1 : Nat} {a2 : Nat} {Q : St → Prop} {na1 : Nat} (ha1 : Ai a1 na1) (na1lt : na1 < 2 ^ 31) {na2 : Nat} (ha2 : Ai a2 na2) (na2lt : na2 < 2 ^ 31)
    (hw : k_m_copies_2 E d S a1 a2 0 Q) :
    k_m_copies E d S a1 a2 Q := by
  show wp E d m_m_copies 0 [some (.ref 65), some (.ref a1), some (.ref a2), none] [] (Hp S) (QV Q)
  exact wp_st 2 (fun Z => rfl) (show wp E d m_m_copies 2 [some (.ref 65), some (.ref a1), some (.ref a2), some (.int 0)] [] (Hp S) (QV Q) from (hw (some (.ref 65))))
set_option maxRecDepth 4000 in
theorem w_m_copies_2 {E : zX} {d : Nat} {S : St} {a1 : Nat} {a2 : Nat} {a3 : Nat} {Q : St → Prop} {na1 : Nat} (ha1 : Ai a1 na1) (na1lt : na1 < 2 ^ 31) {na2 : Nat} (ha2 : Ai a2 na2) (na2lt : na2 < 2 ^ 31)
    (hw : if (nI na1) ≤ (nI a3) then (
      Q S)
    else (
      a3 < na1 ∧
      a3 < na2 ∧
      ∀ S1, S1 = up S a2 a3 (S a1 a3) →
      k_m_copies_2 E d S1 a1 a2 (a3 + 1) Q)) :
    k_m_copies_2 E d S a1 a2 a3 Q := by
  intro j0
  show wp E d m_m_copies 2 [j0, some (.ref a1), some (.ref a2), some (.int (nI a3))] [] (Hp S) (QV Q)
  refine wp_st (pc' := 4) (L' := [j0, some (.ref a1), some (.ref a2), some (.int (nI a3))]) (st' := [.ref a1, .int (nI a3)]) (h' := Hp S) 2 (fun Z => rfl) ?_
  refine wp_st (pc' := 5) (L' := [j0, some (.ref a1), some (.ref a2), some (.int (nI a3))]) (st' := [.int (nI na1), .int (nI a3)]) (h' := Hp S) 1 (fun Z => lnX (E := E) ha1 [.int (nI a3)] (fun st => Z d m_m_copies 5 [j0, some (.ref a1), some (.ref a2), some (.int (nI a3))] st (Hp S))) ?_
  by_cases hc : (nI na1) ≤ (nI a3)
  · rw [if_pos hc] at hw
    refine wp_st (pc' := 20) (L' := [j0, some (.ref a1), some (.ref a2), some (.int (nI a3))]) (st' := []) (h' := Hp S) 1 (fun Z => if_pos hc) ?_
    exact wp_ret (fun Z => rfl) ⟨_, rfl, rfl, hw⟩
  · rw [if_neg hc] at hw
    refine wp_st (pc' := 8) (L' := [j0, some (.ref a1), some (.ref a2), some (.int (nI a3))]) (st' := []) (h' := Hp S) 1 (fun Z => if_neg hc) ?_
    refine wp_st (pc' := 12) (L' := [j0, some (.ref a1), some (.ref a2), some (.int (nI a3))]) (st' := [.int (nI a3), .ref a1, .int (nI a3), .ref a2]) (h' := Hp S) 4 (fun Z => rfl) ?_
    obtain ⟨hi, hw⟩ := hw
    refine wp_st (pc' := 13) (L' := [j0, some (.ref a1), some (.ref a2), some (.int (nI a3))]) (st' := [.int (S a1 a3), .int (nI a3), .ref a2]) (h' := Hp S) 1 (fun Z => ldN (E := E) ha1 na1lt hi [.int (nI a3), .ref a2] (fun st => Z d m_m_copies 13 [j0, some (.ref a1), some (.ref a2), some (.int (nI a3))] st (Hp S))) ?_
    obtain ⟨hi, hw⟩ := hw
    have hw := hw _ rfl
    refine wp_st (pc' := 14) (L' := [j0, some (.ref a1), some (.ref a2), some (.int (nI a3))]) (st' := []) (h' := Hp (up S a2 a3 (S a1 a3))) 1 (fun Z => stN ha2 na2lt hi _ _) ?_
    generalize up S a2 a3 (S a1 a3) = S1 at hw ⊢
    refine wp_st (pc' := 17) (L' := [j0, some (.ref a1), some (.ref a2), some (.int (nI (a3 + 1)))]) (st' := []) (h' := Hp S1) 1 (fun Z => by rw [← nI_add a3 1]; rfl) ?_
    exact wp_st 1 (fun Z => rfl) (show wp E d m_m_copies 2 [j0, some (.ref a1), some (.ref a2), some (.int (nI (a3 + 1)))] [] (Hp S1) (QV Q) from (hw j0))
set_option maxRecDepth 4000 in
theorem w_m_fault {E : zX} {d : Nat} {S : St}  {Q : Int32 → St → Prop} 
    (hw : ∀ S1, S1 = up S 65 0 0 →
    Q (S1 65 13) S1) :
    k_m_fault E d S Q := by
  show wp E d m_m_fault 0 [some (.ref 65)] [] (Hp S) (QI Q)
  refine wp_st (pc' := 2) (L' := [some (.ref 65)]) (st' := [.int 0, .ref 65]) (h' := Hp S) 2 (fun Z => rfl) ?_
  have hw := hw _ rfl
  refine wp_st (pc' := 5) (L' := [some (.ref 65)]) (st' := []) (h' := Hp (up S 65 0 0)) 1 (fun Z => pfI sh65 rfl (Nat.le_of_ble_eq_true rfl) rfl _) ?_
  generalize up S 65 0 0 = S1 at hw ⊢
  refine wp_st (pc' := 6) (L' := [some (.ref 65)]) (st' := [.ref 65]) (h' := Hp S1) 1 (fun Z => rfl) ?_
  refine wp_st (pc' := 9) (L' := [some (.ref 65)]) (st' := [.int (S1 65 13)]) (h' := Hp S1) 1 (fun Z => gfI (E := E) sh65 rfl _) ?_
  exact wp_ret (fun Z => rfl) ⟨_, _, rfl, rfl, hw⟩
set_option maxRecDepth 4000 in
theorem w_m_count {E : zX} {d : Nat} {S : St} {a1 : Int32} {Q : Int32 → St → Prop} (hd : 1 ≤ d) 
    (hw : ∀ S1, S1 = up S 65 0 0 →
    k_m_within E (d - 1) S1 a1 0 16 (fun x2 S3 =>
    k_m_right E (d - 1) S3 x2 1 (fun x4 S5 =>
    if x4 = 0 then (
      Q (0 : Int32) S5)
    else (
      if a1 = 0 then (
        Q (S5 65 3) S5)
      else if a1 = 1 then (
        Q (S5 65 4) S5)
      else if a1 = 2 then (
        Q (S5 65 1) S5)
      else if a1 = 3 then (
        Q (S5 65 2) S5)
      else if a1 = 4 then (
        Q (S5 77 0) S5)
      else if a1 = 5 then (
        k_m_heldOnes E (d - 1) S5 0 (fun x6 S7 =>
        Q ((((1 : Int32) <<< ((S5 65 4) &&& 31)) - (1 : Int32)) &&& (x6 ^^^ ((-1) : Int32))) S7))
      else if a1 = 6 then (
        k_m_guardedOnes E (d - 1) S5 0 (fun x8 S9 =>
        Q x8 S9))
      else if a1 = 7 then (
        k_m_sumOf E (d - 1) S5 0 39 (S5 65 4) (fun x10 S11 =>
        Q x10 S11))
      else if a1 = 8 then (
        k_m_sumOf E (d - 1) S5 0 1 (S5 65 3) (fun x12 S13 =>
        Q x12 S13))
      else if a1 = 9 then (
        k_m_sumOf E (d - 1) S5 0 8 (S5 65 3) (fun x14 S15 =>
        Q x14 S15))
      else if a1 = 10 then (
        k_m_allAtOnce E (d - 1) S5 (fun x16 S17 =>
        Q x16 S17))
      else if a1 = 11 then (
        Q (S5 65 42) S5)
      else if a1 = 12 then (
        Q (S5 65 53) S5)
      else if a1 = 13 then (
        Q (S5 65 11) S5)
      else (
        ∃ m18 : Nat, (a1 - (14 : Int32)) = nI m18 ∧ m18 < 3 ∧
      Q (S5 70 m18) S5))))) :
    k_m_count E d S a1 Q := by
  obtain ⟨d, rfl⟩ := Nat.exists_eq_add_of_le' hd
  show wp E (d + 1) m_m_count 0 [some (.ref 65), some (.int a1)] [] (Hp S) (QI Q)
  refine wp_st (pc' := 2) (L' := [some (.ref 65), some (.int a1)]) (st' := [.int 0, .ref 65]) (h' := Hp S) 2 (fun Z => rfl) ?_
  have hw := hw _ rfl
  refine wp_st (pc' := 5) (L' := [some (.ref 65), some (.int a1)]) (st' := []) (h' := Hp (up S 65 0 0)) 1 (fun Z => pfI sh65 rfl (Nat.le_of_ble_eq_true rfl) rfl _) ?_
  generalize up S 65 0 0 = S1 at hw ⊢
  refine wp_st (pc' := 10) (L' := [some (.ref 65), some (.int a1)]) (st' := [.int 16, .int 0, .int a1, .ref 65]) (h' := Hp S1) 4 (fun Z => rfl) ?_
  refine wp_call (pc' := 13) (rest := [.ref 65]) (fun Z => rfl) rfl hw ?_
  rintro o h1 ⟨x2, S3, rfl, rfl, hw⟩
  refine ⟨_, rfl, ?_⟩
  show wp E (d + 1) m_m_count 13 [some (.ref 65), some (.int a1)] [.int x2, .ref 65] (Hp S3) (QI Q)
  refine wp_st (pc' := 14) (L' := [some (.ref 65), some (.int a1)]) (st' := [.int 1, .int x2, .ref 65]) (h' := Hp S3) 1 (fun Z => rfl) ?_
  refine wp_call (pc' := 17) (rest := []) (fun Z => rfl) (isO_of sh65) hw ?_
  rintro o h1 ⟨x4, S5, rfl, rfl, hw⟩
  refine ⟨_, rfl, ?_⟩
  show wp E (d + 1) m_m_count 17 [some (.ref 65), some (.int a1)] [.int x4] (Hp S5) (QI Q)
  by_cases hc : x4 = 0
  · rw [if_pos hc] at hw
    refine wp_st (pc' := 20) (L' := [some (.ref 65), some (.int a1)]) (st' := []) (h' := Hp S5) 1 (fun Z => if_pos hc) ?_
    refine wp_st (pc' := 21) (L' := [some (.ref 65), some (.int a1)]) (st' := [.int 0]) (h' := Hp S5) 1 (fun Z => rfl) ?_
    exact wp_ret (fun Z => rfl) ⟨_, _, rfl, rfl, hw⟩
  · rw [if_neg hc] at hw
    refine wp_st (pc' := 22) (L' := [some (.ref 65), some (.int a1)]) (st' := []) (h' := Hp S5) 1 (fun Z => if_neg hc) ?_
    refine wp_st (pc' := 23) (L' := [some (.ref 65), some (.int a1)]) (st' := [.int a1]) (h' := Hp S5) 1 (fun Z => rfl) ?_
    by_cases c0 : a1 = 0
    · rw [if_pos c0] at hw
      refine wp_st (pc' := 92) (L' := [some (.ref 65), some (.int a1)]) (st' := []) (h' := Hp S5) 1 (fun Z => (show zsw (.tableswitch 174 0 13 #[69, 74, 79, 84, 89, 96, 113, 119, 131, 142, 154, 159, 164, 169]) 23 (.int a1 :: []) (fun t st1 => Z (d + 1) m_m_count t [some (.ref 65), some (.int a1)] st1 (Hp S5)) = _ from zsw_at (c := 0) (by rw [c0]; decide) (by decide) rfl rfl)) ?_
      refine wp_st (pc' := 93) (L' := [some (.ref 65), some (.int a1)]) (st' := [.ref 65]) (h' := Hp S5) 1 (fun Z => rfl) ?_
      refine wp_st (pc' := 96) (L' := [some (.ref 65), some (.int a1)]) (st' := [.int (S5 65 3)]) (h' := Hp S5) 1 (fun Z => gfI (E := E) sh65 rfl _) ?_
      exact wp_ret (fun Z => rfl) ⟨_, _, rfl, rfl, hw⟩
    rw [if_neg c0] at hw
    by_cases c1 : a1 = 1
    · rw [if_pos c1] at hw
      refine wp_st (pc' := 97) (L' := [some (.ref 65), some (.int a1)]) (st' := []) (h' := Hp S5) 1 (fun Z => (show zsw (.tableswitch 174 0 13 #[69, 74, 79, 84, 89, 96, 113, 119, 131, 142, 154, 159, 164, 169]) 23 (.int a1 :: []) (fun t st1 => Z (d + 1) m_m_count t [some (.ref 65), some (.int a1)] st1 (Hp S5)) = _ from zsw_at (c := 1) (by rw [c1]; decide) (by decide) rfl rfl)) ?_
      refine wp_st (pc' := 98) (L' := [some (.ref 65), some (.int a1)]) (st' := [.ref 65]) (h' := Hp S5) 1 (fun Z => rfl) ?_
      refine wp_st (pc' := 101) (L' := [some (.ref 65), some (.int a1)]) (st' := [.int (S5 65 4)]) (h' := Hp S5) 1 (fun Z => gfI (E := E) sh65 rfl _) ?_
      exact wp_ret (fun Z => rfl) ⟨_, _, rfl, rfl, hw⟩
    rw [if_neg c1] at hw
    by_cases c2 : a1 = 2
    · rw [if_pos c2] at hw
      refine wp_st (pc' := 102) (L' := [some (.ref 65), some (.int a1)]) (st' := []) (h' := Hp S5) 1 (fun Z => (show zsw (.tableswitch 174 0 13 #[69, 74, 79, 84, 89, 96, 113, 119, 131, 142, 154, 159, 164, 169]) 23 (.int a1 :: []) (fun t st1 => Z (d + 1) m_m_count t [some (.ref 65), some (.int a1)] st1 (Hp S5)) = _ from zsw_at (c := 2) (by rw [c2]; decide) (by decide) rfl rfl)) ?_
      refine wp_st (pc' := 103) (L' := [some (.ref 65), some (.int a1)]) (st' := [.ref 65]) (h' := Hp S5) 1 (fun Z => rfl) ?_
      refine wp_st (pc' := 106) (L' := [some (.ref 65), some (.int a1)]) (st' := [.int (S5 65 1)]) (h' := Hp S5) 1 (fun Z => gfI (E := E) sh65 rfl _) ?_
      exact wp_ret (fun Z => rfl) ⟨_, _, rfl, rfl, hw⟩
    rw [if_neg c2] at hw
    by_cases c3 : a1 = 3
    · rw [if_pos c3] at hw
      refine wp_st (pc' := 107) (L' := [some (.ref 65), some (.int a1)]) (st' := []) (h' := Hp S5) 1 (fun Z => (show zsw (.tableswitch 174 0 13 #[69, 74, 79, 84, 89, 96, 113, 119, 131, 142, 154, 159, 164, 169]) 23 (.int a1 :: []) (fun t st1 => Z (d + 1) m_m_count t [some (.ref 65), some (.int a1)] st1 (Hp S5)) = _ from zsw_at (c := 3) (by rw [c3]; decide) (by decide) rfl rfl)) ?_
      refine wp_st (pc' := 108) (L' := [some (.ref 65), some (.int a1)]) (st' := [.ref 65]) (h' := Hp S5) 1 (fun Z => rfl) ?_
      refine wp_st (pc' := 111) (L' := [some (.ref 65), some (.int a1)]) (st' := [.int (S5 65 2)]) (h' := Hp S5) 1 (fun Z => gfI (E := E) sh65 rfl _) ?_
      exact wp_ret (fun Z => rfl) ⟨_, _, rfl, rfl, hw⟩
    rw [if_neg c3] at hw
    by_cases c4 : a1 = 4
    · rw [if_pos c4] at hw
      refine wp_st (pc' := 112) (L' := [some (.ref 65), some (.int a1)]) (st' := []) (h' := Hp S5) 1 (fun Z => (show zsw (.tableswitch 174 0 13 #[69, 74, 79, 84, 89, 96, 113, 119, 131, 142, 154, 159, 164, 169]) 23 (.int a1 :: []) (fun t st1 => Z (d + 1) m_m_count t [some (.ref 65), some (.int a1)] st1 (Hp S5)) = _ from zsw_at (c := 4) (by rw [c4]; decide) (by decide) rfl rfl)) ?_
      refine wp_st (pc' := 113) (L' := [some (.ref 65), some (.int a1)]) (st' := [.ref 65]) (h' := Hp S5) 1 (fun Z => rfl) ?_
      refine wp_st (pc' := 116) (L' := [some (.ref 65), some (.int a1)]) (st' := [.ref 77]) (h' := Hp S5) 1 (fun Z => gfR (E := E) sh65 rfl _) ?_
      refine wp_st (pc' := 117) (L' := [some (.ref 65), some (.int a1)]) (st' := [.int 0, .ref 77]) (h' := Hp S5) 1 (fun Z => rfl) ?_
      refine wp_st (pc' := 118) (L' := [some (.ref 65), some (.int a1)]) (st' := [.int (S5 77 0)]) (h' := Hp S5) 1 (fun Z => ldN (E := E) sh77 (by decide) (by decide) [] (fun st => Z (d + 1) m_m_count 118 [some (.ref 65), some (.int a1)] st (Hp S5))) ?_
      exact wp_ret (fun Z => rfl) ⟨_, _, rfl, rfl, hw⟩
    rw [if_neg c4] at hw
    by_cases c5 : a1 = 5
    · rw [if_pos c5] at hw
      refine wp_st (pc' := 119) (L' := [some (.ref 65), some (.int a1)]) (st' := []) (h' := Hp S5) 1 (fun Z => (show zsw (.tableswitch 174 0 13 #[69, 74, 79, 84, 89, 96, 113, 119, 131, 142, 154, 159, 164, 169]) 23 (.int a1 :: []) (fun t st1 => Z (d + 1) m_m_count t [some (.ref 65), some (.int a1)] st1 (Hp S5)) = _ from zsw_at (c := 5) (by rw [c5]; decide) (by decide) rfl rfl)) ?_
      refine wp_st (pc' := 121) (L' := [some (.ref 65), some (.int a1)]) (st' := [.ref 65, .int 1]) (h' := Hp S5) 2 (fun Z => rfl) ?_
      refine wp_st (pc' := 124) (L' := [some (.ref 65), some (.int a1)]) (st' := [.int (S5 65 4), .int 1]) (h' := Hp S5) 1 (fun Z => gfI (E := E) sh65 rfl _) ?_
      refine wp_st (pc' := 129) (L' := [some (.ref 65), some (.int a1)]) (st' := [.int 0, .ref 65, .int (((1 : Int32) <<< ((S5 65 4) &&& 31)) - (1 : Int32))]) (h' := Hp S5) 5 (fun Z => rfl) ?_
      refine wp_call (pc' := 132) (rest := [.int (((1 : Int32) <<< ((S5 65 4) &&& 31)) - (1 : Int32))]) (fun Z => rfl) (isO_of sh65) hw ?_
      rintro o h1 ⟨x6, S7, rfl, rfl, hw⟩
      refine ⟨_, rfl, ?_⟩
      show wp E (d + 1) m_m_count 132 [some (.ref 65), some (.int a1)] [.int x6, .int (((1 : Int32) <<< ((S5 65 4) &&& 31)) - (1 : Int32))] (Hp S7) (QI Q)
      refine wp_st (pc' := 133) (L' := [some (.ref 65), some (.int a1)]) (st' := [.int (-1), .int x6, .int (((1 : Int32) <<< ((S5 65 4) &&& 31)) - (1 : Int32))]) (h' := Hp S7) 1 (fun Z => congrArg (fun v => Z (d + 1) m_m_count 133 [some (.ref 65), some (.int a1)] [.int v, .int x6, .int (((1 : Int32) <<< ((S5 65 4) &&& 31)) - (1 : Int32))] (Hp S7)) (show Int32.ofInt (-1) = (-1) by decide)) ?_
      refine wp_st (pc' := 135) (L' := [some (.ref 65), some (.int a1)]) (st' := [.int ((((1 : Int32) <<< ((S5 65 4) &&& 31)) - (1 : Int32)) &&& (x6 ^^^ ((-1) : Int32)))]) (h' := Hp S7) 2 (fun Z => rfl) ?_
      exact wp_ret (fun Z => rfl) ⟨_, _, rfl, rfl, hw⟩
    rw [if_neg c5] at hw
    by_cases c6 : a1 = 6
    · rw [if_pos c6] at hw
      refine wp_st (pc' := 136) (L' := [some (.ref 65), some (.int a1)]) (st' := []) (h' := Hp S5) 1 (fun Z => (show zsw (.tableswitch 174 0 13 #[69, 74, 79, 84, 89, 96, 113, 119, 131, 142, 154, 159, 164, 169]) 23 (.int a1 :: []) (fun t st1 => Z (d + 1) m_m_count t [some (.ref 65), some (.int a1)] st1 (Hp S5)) = _ from zsw_at (c := 6) (by rw [c6]; decide) (by decide) rfl rfl)) ?_
      refine wp_st (pc' := 138) (L' := [some (.ref 65), some (.int a1)]) (st' := [.int 0, .ref 65]) (h' := Hp S5) 2 (fun Z => rfl) ?_
      refine wp_call (pc' := 141) (rest := []) (fun Z => rfl) (isO_of sh65) hw ?_
      rintro o h1 ⟨x8, S9, rfl, rfl, hw⟩
      refine ⟨_, rfl, ?_⟩
      show wp E (d + 1) m_m_count 141 [some (.ref 65), some (.int a1)] [.int x8] (Hp S9) (QI Q)
      exact wp_ret (fun Z => rfl) ⟨_, _, rfl, rfl, hw⟩
    rw [if_neg c6] at hw
    by_cases c7 : a1 = 7
    · rw [if_pos c7] at hw
      refine wp_st (pc' := 142) (L' := [some (.ref 65), some (.int a1)]) (st' := []) (h' := Hp S5) 1 (fun Z => (show zsw (.tableswitch 174 0 13 #[69, 74, 79, 84, 89, 96, 113, 119, 131, 142, 154, 159, 164, 169]) 23 (.int a1 :: []) (fun t st1 => Z (d + 1) m_m_count t [some (.ref 65), some (.int a1)] st1 (Hp S5)) = _ from zsw_at (c := 7) (by rw [c7]; decide) (by decide) rfl rfl)) ?_
      refine wp_st (pc' := 147) (L' := [some (.ref 65), some (.int a1)]) (st' := [.ref 65, .int 39, .int 0, .ref 65]) (h' := Hp S5) 4 (fun Z => rfl) ?_
      refine wp_st (pc' := 150) (L' := [some (.ref 65), some (.int a1)]) (st' := [.int (S5 65 4), .int 39, .int 0, .ref 65]) (h' := Hp S5) 1 (fun Z => gfI (E := E) sh65 rfl _) ?_
      refine wp_call (pc' := 153) (rest := []) (fun Z => rfl) (isO_of sh65) hw ?_
      rintro o h1 ⟨x10, S11, rfl, rfl, hw⟩
      refine ⟨_, rfl, ?_⟩
      show wp E (d + 1) m_m_count 153 [some (.ref 65), some (.int a1)] [.int x10] (Hp S11) (QI Q)
      exact wp_ret (fun Z => rfl) ⟨_, _, rfl, rfl, hw⟩
    rw [if_neg c7] at hw
    by_cases c8 : a1 = 8
    · rw [if_pos c8] at hw
      refine wp_st (pc' := 154) (L' := [some (.ref 65), some (.int a1)]) (st' := []) (h' := Hp S5) 1 (fun Z => (show zsw (.tableswitch 174 0 13 #[69, 74, 79, 84, 89, 96, 113, 119, 131, 142, 154, 159, 164, 169]) 23 (.int a1 :: []) (fun t st1 => Z (d + 1) m_m_count t [some (.ref 65), some (.int a1)] st1 (Hp S5)) = _ from zsw_at (c := 8) (by rw [c8]; decide) (by decide) rfl rfl)) ?_
      refine wp_st (pc' := 158) (L' := [some (.ref 65), some (.int a1)]) (st' := [.ref 65, .int 1, .int 0, .ref 65]) (h' := Hp S5) 4 (fun Z => rfl) ?_
      refine wp_st (pc' := 161) (L' := [some (.ref 65), some (.int a1)]) (st' := [.int (S5 65 3), .int 1, .int 0, .ref 65]) (h' := Hp S5) 1 (fun Z => gfI (E := E) sh65 rfl _) ?_
      refine wp_call (pc' := 164) (rest := []) (fun Z => rfl) (isO_of sh65) hw ?_
      rintro o h1 ⟨x12, S13, rfl, rfl, hw⟩
      refine ⟨_, rfl, ?_⟩
      show wp E (d + 1) m_m_count 164 [some (.ref 65), some (.int a1)] [.int x12] (Hp S13) (QI Q)
      exact wp_ret (fun Z => rfl) ⟨_, _, rfl, rfl, hw⟩
    rw [if_neg c8] at hw
    by_cases c9 : a1 = 9
    · rw [if_pos c9] at hw
      refine wp_st (pc' := 165) (L' := [some (.ref 65), some (.int a1)]) (st' := []) (h' := Hp S5) 1 (fun Z => (show zsw (.tableswitch 174 0 13 #[69, 74, 79, 84, 89, 96, 113, 119, 131, 142, 154, 159, 164, 169]) 23 (.int a1 :: []) (fun t st1 => Z (d + 1) m_m_count t [some (.ref 65), some (.int a1)] st1 (Hp S5)) = _ from zsw_at (c := 9) (by rw [c9]; decide) (by decide) rfl rfl)) ?_
      refine wp_st (pc' := 170) (L' := [some (.ref 65), some (.int a1)]) (st' := [.ref 65, .int 8, .int 0, .ref 65]) (h' := Hp S5) 4 (fun Z => rfl) ?_
      refine wp_st (pc' := 173) (L' := [some (.ref 65), some (.int a1)]) (st' := [.int (S5 65 3), .int 8, .int 0, .ref 65]) (h' := Hp S5) 1 (fun Z => gfI (E := E) sh65 rfl _) ?_
      refine wp_call (pc' := 176) (rest := []) (fun Z => rfl) (isO_of sh65) hw ?_
      rintro o h1 ⟨x14, S15, rfl, rfl, hw⟩
      refine ⟨_, rfl, ?_⟩
      show wp E (d + 1) m_m_count 176 [some (.ref 65), some (.int a1)] [.int x14] (Hp S15) (QI Q)
      exact wp_ret (fun Z => rfl) ⟨_, _, rfl, rfl, hw⟩
    rw [if_neg c9] at hw
    by_cases c10 : a1 = 10
    · rw [if_pos c10] at hw
      refine wp_st (pc' := 177) (L' := [some (.ref 65), some (.int a1)]) (st' := []) (h' := Hp S5) 1 (fun Z => (show zsw (.tableswitch 174 0 13 #[69, 74, 79, 84, 89, 96, 113, 119, 131, 142, 154, 159, 164, 169]) 23 (.int a1 :: []) (fun t st1 => Z (d + 1) m_m_count t [some (.ref 65), some (.int a1)] st1 (Hp S5)) = _ from zsw_at (c := 10) (by rw [c10]; decide) (by decide) rfl rfl)) ?_
      refine wp_st (pc' := 178) (L' := [some (.ref 65), some (.int a1)]) (st' := [.ref 65]) (h' := Hp S5) 1 (fun Z => rfl) ?_
      refine wp_call (pc' := 181) (rest := []) (fun Z => rfl) (isO_of sh65) hw ?_
      rintro o h1 ⟨x16, S17, rfl, rfl, hw⟩
      refine ⟨_, rfl, ?_⟩
      show wp E (d + 1) m_m_count 181 [some (.ref 65), some (.int a1)] [.int x16] (Hp S17) (QI Q)
      exact wp_ret (fun Z => rfl) ⟨_, _, rfl, rfl, hw⟩
    rw [if_neg c10] at hw
    by_cases c11 : a1 = 11
    · rw [if_pos c11] at hw
      refine wp_st (pc' := 182) (L' := [some (.ref 65), some (.int a1)]) (st' := []) (h' := Hp S5) 1 (fun Z => (show zsw (.tableswitch 174 0 13 #[69, 74, 79, 84, 89, 96, 113, 119, 131, 142, 154, 159, 164, 169]) 23 (.int a1 :: []) (fun t st1 => Z (d + 1) m_m_count t [some (.ref 65), some (.int a1)] st1 (Hp S5)) = _ from zsw_at (c := 11) (by rw [c11]; decide) (by decide) rfl rfl)) ?_
      refine wp_st (pc' := 183) (L' := [some (.ref 65), some (.int a1)]) (st' := [.ref 65]) (h' := Hp S5) 1 (fun Z => rfl) ?_
      refine wp_st (pc' := 186) (L' := [some (.ref 65), some (.int a1)]) (st' := [.int (S5 65 42)]) (h' := Hp S5) 1 (fun Z => gfI (E := E) sh65 rfl _) ?_
      exact wp_ret (fun Z => rfl) ⟨_, _, rfl, rfl, hw⟩
    rw [if_neg c11] at hw
    by_cases c12 : a1 = 12
    · rw [if_pos c12] at hw
      refine wp_st (pc' := 187) (L' := [some (.ref 65), some (.int a1)]) (st' := []) (h' := Hp S5) 1 (fun Z => (show zsw (.tableswitch 174 0 13 #[69, 74, 79, 84, 89, 96, 113, 119, 131, 142, 154, 159, 164, 169]) 23 (.int a1 :: []) (fun t st1 => Z (d + 1) m_m_count t [some (.ref 65), some (.int a1)] st1 (Hp S5)) = _ from zsw_at (c := 12) (by rw [c12]; decide) (by decide) rfl rfl)) ?_
      refine wp_st (pc' := 188) (L' := [some (.ref 65), some (.int a1)]) (st' := [.ref 65]) (h' := Hp S5) 1 (fun Z => rfl) ?_
      refine wp_st (pc' := 191) (L' := [some (.ref 65), some (.int a1)]) (st' := [.int (S5 65 53)]) (h' := Hp S5) 1 (fun Z => gfI (E := E) sh65 rfl _) ?_
      exact wp_ret (fun Z => rfl) ⟨_, _, rfl, rfl, hw⟩
    rw [if_neg c12] at hw
    by_cases c13 : a1 = 13
    · rw [if_pos c13] at hw
      refine wp_st (pc' := 192) (L' := [some (.ref 65), some (.int a1)]) (st' := []) (h' := Hp S5) 1 (fun Z => (show zsw (.tableswitch 174 0 13 #[69, 74, 79, 84, 89, 96, 113, 119, 131, 142, 154, 159, 164, 169]) 23 (.int a1 :: []) (fun t st1 => Z (d + 1) m_m_count t [some (.ref 65), some (.int a1)] st1 (Hp S5)) = _ from zsw_at (c := 13) (by rw [c13]; decide) (by decide) rfl rfl)) ?_
      refine wp_st (pc' := 193) (L' := [some (.ref 65), some (.int a1)]) (st' := [.ref 65]) (h' := Hp S5) 1 (fun Z => rfl) ?_
      refine wp_st (pc' := 196) (L' := [some (.ref 65), some (.int a1)]) (st' := [.int (S5 65 11)]) (h' := Hp S5) 1 (fun Z => gfI (E := E) sh65 rfl _) ?_
      exact wp_ret (fun Z => rfl) ⟨_, _, rfl, rfl, hw⟩
    rw [if_neg c13] at hw
    have hs : (a1).toInt < (0 : Int) ∨ (13 : Int) < (a1).toInt := by
      refine zoutG (n := 14) (by decide) (by decide) (by decide) ?_
      intro k hk
      rcases k with _ | _ | _ | _ | _ | _ | _ | _ | _ | _ | _ | _ | _ | _ | k
      · exact c0
      · exact c1
      · exact c2
      · exact c3
      · exact c4
      · exact c5
      · exact c6
      · exact c7
      · exact c8
      · exact c9
      · exact c10
      · exact c11
      · exact c12
      · exact c13
      · omega
    refine wp_st (pc' := 197) (L' := [some (.ref 65), some (.int a1)]) (st' := []) (h' := Hp S5) 1 (fun Z => (show zsw (.tableswitch 174 0 13 #[69, 74, 79, 84, 89, 96, 113, 119, 131, 142, 154, 159, 164, 169]) 23 (.int a1 :: []) (fun t st1 => Z (d + 1) m_m_count t [some (.ref 65), some (.int a1)] st1 (Hp S5)) = _ from zsw_out hs rfl)) ?_
    refine wp_st (pc' := 198) (L' := [some (.ref 65), some (.int a1)]) (st' := [.ref 65]) (h' := Hp S5) 1 (fun Z => rfl) ?_
    refine wp_st (pc' := 201) (L' := [some (.ref 65), some (.int a1)]) (st' := [.ref 70]) (h' := Hp S5) 1 (fun Z => gfR (E := E) sh65 rfl _) ?_
    refine wp_st (pc' := 205) (L' := [some (.ref 65), some (.int a1)]) (st' := [.int (a1 - (14 : Int32)), .ref 70]) (h' := Hp S5) 3 (fun Z => rfl) ?_
    obtain ⟨m18, em, hi, hw⟩ := hw
    refine wp_st (pc' := 206) (L' := [some (.ref 65), some (.int a1)]) (st' := [.int (S5 70 m18)]) (h' := Hp S5) 1 (fun Z => (congrArg (fun v => zit E 1 Z (d + 1) m_m_count 205 [some (.ref 65), some (.int a1)] [.int v, .ref 70] (Hp S5)) em).trans (ldN (E := E) sh70 (by decide) hi [] (fun st => Z (d + 1) m_m_count 206 [some (.ref 65), some (.int a1)] st (Hp S5)))) ?_
    exact wp_ret (fun Z => rfl) ⟨_, _, rfl, rfl, hw⟩
set_option maxRecDepth 4000 in
theorem w_m_heldOnes {E : zX} {d : Nat} {S : St} {a1 : Nat} {Q : Int32 → St → Prop} (hd : 1 ≤ d) 
    (hw : k_m_heldOnes_4 E d S a1 0 0 Q) :
    k_m_heldOnes E d S (nI a1) Q := by
  obtain ⟨d, rfl⟩ := Nat.exists_eq_add_of_le' hd
  show wp E (d + 1) m_m_heldOnes 0 [some (.ref 65), some (.int (nI a1)), none, none] [] (Hp S) (QI Q)
  exact wp_st 4 (fun Z => rfl) (show wp E (d + 1) m_m_heldOnes 4 [some (.ref 65), some (.int (nI a1)), some (.int 0), some (.int 0)] [] (Hp S) (QI Q) from hw)
set_option maxRecDepth 4000 in
theorem w_m_heldOnes_4 {E : zX} {d : Nat} {S : St} {a1 : Nat} {a2 : Int32} {a3 : Nat} {Q : Int32 → St → Prop} (hd : 1 ≤ d) 
    (hw : if (S 65 4) ≤ (nI a3) then (
      Q a2 S)
    else (
      k_m_isWhite E (d - 1) S (nI a1) (nI a3) (fun x1 S2 =>
      if x1 = 0 then (
        k_m_heldOnes_4 E d S2 a1 (a2 ||| (bt a3)) (a3 + 1) Q)
      else (
        k_m_heldOnes_4 E d S2 a1 (a2 ||| (0 : Int32)) (a3 + 1) Q)))) :
    k_m_heldOnes_4 E d S a1 a2 a3 Q := by
  obtain ⟨d, rfl⟩ := Nat.exists_eq_add_of_le' hd
  show wp E (d + 1) m_m_heldOnes 4 [some (.ref 65), some (.int (nI a1)), some (.int a2), some (.int (nI a3))] [] (Hp S) (QI Q)
  refine wp_st (pc' := 6) (L' := [some (.ref 65), some (.int (nI a1)), some (.int a2), some (.int (nI a3))]) (st' := [.ref 65, .int (nI a3)]) (h' := Hp S) 2 (fun Z => rfl) ?_
  refine wp_st (pc' := 9) (L' := [some (.ref 65), some (.int (nI a1)), some (.int a2), some (.int (nI a3))]) (st' := [.int (S 65 4), .int (nI a3)]) (h' := Hp S) 1 (fun Z => gfI (E := E) sh65 rfl _) ?_
  by_cases hc : (S 65 4) ≤ (nI a3)
  · rw [if_pos hc] at hw
    refine wp_st (pc' := 37) (L' := [some (.ref 65), some (.int (nI a1)), some (.int a2), some (.int (nI a3))]) (st' := []) (h' := Hp S) 1 (fun Z => if_pos hc) ?_
    refine wp_st (pc' := 38) (L' := [some (.ref 65), some (.int (nI a1)), some (.int a2), some (.int (nI a3))]) (st' := [.int a2]) (h' := Hp S) 1 (fun Z => rfl) ?_
    exact wp_ret (fun Z => rfl) ⟨_, _, rfl, rfl, hw⟩
  · rw [if_neg hc] at hw
    refine wp_st (pc' := 12) (L' := [some (.ref 65), some (.int (nI a1)), some (.int a2), some (.int (nI a3))]) (st' := []) (h' := Hp S) 1 (fun Z => if_neg hc) ?_
    refine wp_st (pc' := 16) (L' := [some (.ref 65), some (.int (nI a1)), some (.int a2), some (.int (nI a3))]) (st' := [.int (nI a3), .int (nI a1), .ref 65, .int a2]) (h' := Hp S) 4 (fun Z => rfl) ?_
    refine wp_call (pc' := 19) (rest := [.int a2]) (fun Z => rfl) (isO_of sh65) hw ?_
    rintro o h1 ⟨x1, S2, rfl, rfl, hw⟩
    refine ⟨_, rfl, ?_⟩
    show wp E (d + 1) m_m_heldOnes 19 [some (.ref 65), some (.int (nI a1)), some (.int a2), some (.int (nI a3))] [.int x1, .int a2] (Hp S2) (QI Q)
    by_cases hc : x1 = 0
    · rw [if_pos hc] at hw
      refine wp_st (pc' := 26) (L' := [some (.ref 65), some (.int (nI a1)), some (.int a2), some (.int (nI a3))]) (st' := [.int a2]) (h' := Hp S2) 1 (fun Z => if_pos hc) ?_
      refine wp_st (pc' := 31) (L' := [some (.ref 65), some (.int (nI a1)), some (.int (a2 ||| (bt a3))), some (.int (nI a3))]) (st' := []) (h' := Hp S2) 5 (fun Z => rfl) ?_
      refine wp_st (pc' := 34) (L' := [some (.ref 65), some (.int (nI a1)), some (.int (a2 ||| (bt a3))), some (.int (nI (a3 + 1)))]) (st' := []) (h' := Hp S2) 1 (fun Z => by rw [← nI_add a3 1]; rfl) ?_
      exact wp_st 1 (fun Z => rfl) (show wp E (d + 1) m_m_heldOnes 4 [some (.ref 65), some (.int (nI a1)), some (.int (a2 ||| (bt a3))), some (.int (nI (a3 + 1)))] [] (Hp S2) (QI Q) from hw)
    · rw [if_neg hc] at hw
      refine wp_st (pc' := 22) (L' := [some (.ref 65), some (.int (nI a1)), some (.int a2), some (.int (nI a3))]) (st' := [.int a2]) (h' := Hp S2) 1 (fun Z => if_neg hc) ?_
      refine wp_st (pc' := 31) (L' := [some (.ref 65), some (.int (nI a1)), some (.int (a2 ||| (0 : Int32))), some (.int (nI a3))]) (st' := []) (h' := Hp S2) 4 (fun Z => rfl) ?_
      refine wp_st (pc' := 34) (L' := [some (.ref 65), some (.int (nI a1)), some (.int (a2 ||| (0 : Int32))), some (.int (nI (a3 + 1)))]) (st' := []) (h' := Hp S2) 1 (fun Z => by rw [← nI_add a3 1]; rfl) ?_
      exact wp_st 1 (fun Z => rfl) (show wp E (d + 1) m_m_heldOnes 4 [some (.ref 65), some (.int (nI a1)), some (.int (a2 ||| (0 : Int32))), some (.int (nI (a3 + 1)))] [] (Hp S2) (QI Q) from hw)
set_option maxRecDepth 4000 in
theorem w_m_isWhite {E : zX} {d : Nat} {S : St} {a1 : Nat} {a2 : Nat} {Q : Int32 → St → Prop} 
    (hw : ((a1 + 39) + a2) < 158 ∧
    if (S 77 ((a1 + 39) + a2)) = 0 then (
      Q (1 : Int32) S)
    else (
      Q (0 : Int32) S)) :
    k_m_isWhite E d S (nI a1) (nI a2) Q := by
  show wp E d m_m_isWhite 0 [some (.ref 65), some (.int (nI a1)), some (.int (nI a2))] [] (Hp S) (QI Q)
  refine wp_st (pc' := 1) (L' := [some (.ref 65), some (.int (nI a1)), some (.int (nI a2))]) (st' := [.ref 65]) (h' := Hp S) 1 (fun Z => rfl) ?_
  refine wp_st (pc' := 4) (L' := [some (.ref 65), some (.int (nI a1)), some (.int (nI a2))]) (st' := [.ref 77]) (h' := Hp S) 1 (fun Z => gfR (E := E) sh65 rfl _) ?_
  refine wp_st (pc' := 7) (L' := [some (.ref 65), some (.int (nI a1)), some (.int (nI a2))]) (st' := [.int 39, .int (nI a1), .ref 77]) (h' := Hp S) 2 (fun Z => rfl) ?_
  refine wp_st (pc' := 8) (L' := [some (.ref 65), some (.int (nI a1)), some (.int (nI a2))]) (st' := [.int (nI (a1 + 39)), .ref 77]) (h' := Hp S) 1 (fun Z => by rw [← nI_add a1 39]; rfl) ?_
  refine wp_st (pc' := 9) (L' := [some (.ref 65), some (.int (nI a1)), some (.int (nI a2))]) (st' := [.int (nI a2), .int (nI (a1 + 39)), .ref 77]) (h' := Hp S) 1 (fun Z => rfl) ?_
  refine wp_st (pc' := 10) (L' := [some (.ref 65), some (.int (nI a1)), some (.int (nI a2))]) (st' := [.int (nI ((a1 + 39) + a2)), .ref 77]) (h' := Hp S) 1 (fun Z => by rw [← nI_add (a1 + 39) a2]; rfl) ?_
  obtain ⟨hi, hw⟩ := hw
  refine wp_st (pc' := 11) (L' := [some (.ref 65), some (.int (nI a1)), some (.int (nI a2))]) (st' := [.int (S 77 ((a1 + 39) + a2))]) (h' := Hp S) 1 (fun Z => ldN (E := E) sh77 (by decide) hi [] (fun st => Z d m_m_isWhite 11 [some (.ref 65), some (.int (nI a1)), some (.int (nI a2))] st (Hp S))) ?_
  by_cases hc : (S 77 ((a1 + 39) + a2)) = 0
  · rw [if_pos hc] at hw
    refine wp_st (pc' := 14) (L' := [some (.ref 65), some (.int (nI a1)), some (.int (nI a2))]) (st' := []) (h' := Hp S) 1 (fun Z => if_pos hc) ?_
    refine wp_st (pc' := 19) (L' := [some (.ref 65), some (.int (nI a1)), some (.int (nI a2))]) (st' := [.int 1]) (h' := Hp S) 2 (fun Z => rfl) ?_
    exact wp_ret (fun Z => rfl) ⟨_, _, rfl, rfl, hw⟩
  · rw [if_neg hc] at hw
    refine wp_st (pc' := 18) (L' := [some (.ref 65), some (.int (nI a1)), some (.int (nI a2))]) (st' := []) (h' := Hp S) 1 (fun Z => if_neg hc) ?_
    refine wp_st (pc' := 19) (L' := [some (.ref 65), some (.int (nI a1)), some (.int (nI a2))]) (st' := [.int 0]) (h' := Hp S) 1 (fun Z => rfl) ?_
    exact wp_ret (fun Z => rfl) ⟨_, _, rfl, rfl, hw⟩
set_option maxRecDepth 4000 in
theorem w_m_guardedOnes {E : zX} {d : Nat} {S : St} {a1 : Nat} {Q : Int32 → St → Prop} 
    (hw : k_m_guardedOnes_4 E d S a1 0 0 Q) :
    k_m_guardedOnes E d S (nI a1) Q := by
  show wp E d m_m_guardedOnes 0 [some (.ref 65), some (.int (nI a1)), none, none] [] (Hp S) (QI Q)
  exact wp_st 4 (fun Z => rfl) (show wp E d m_m_guardedOnes 4 [some (.ref 65), some (.int (nI a1)), some (.int 0), some (.int 0)] [] (Hp S) (QI Q) from hw)
set_option maxRecDepth 4000 in
theorem w_m_guardedOnes_4 {E : zX} {d : Nat} {S : St} {a1 : Nat} {a2 : Int32} {a3 : Nat} {Q : Int32 → St → Prop} 
    (hw : if (S 65 4) ≤ (nI a3) then (
      Q a2 S)
    else (
      ((a1 + 69) + a3) < 158 ∧
      k_m_guardedOnes_4 E d S a1 (a2 ||| ((S 77 ((a1 + 69) + a3)) <<< ((nI a3) &&& 31))) (a3 + 1) Q)) :
    k_m_guardedOnes_4 E d S a1 a2 a3 Q := by
  show wp E d m_m_guardedOnes 4 [some (.ref 65), some (.int (nI a1)), some (.int a2), some (.int (nI a3))] [] (Hp S) (QI Q)
  refine wp_st (pc' := 6) (L' := [some (.ref 65), some (.int (nI a1)), some (.int a2), some (.int (nI a3))]) (st' := [.ref 65, .int (nI a3)]) (h' := Hp S) 2 (fun Z => rfl) ?_
  refine wp_st (pc' := 9) (L' := [some (.ref 65), some (.int (nI a1)), some (.int a2), some (.int (nI a3))]) (st' := [.int (S 65 4), .int (nI a3)]) (h' := Hp S) 1 (fun Z => gfI (E := E) sh65 rfl _) ?_
  by_cases hc : (S 65 4) ≤ (nI a3)
  · rw [if_pos hc] at hw
    refine wp_st (pc' := 34) (L' := [some (.ref 65), some (.int (nI a1)), some (.int a2), some (.int (nI a3))]) (st' := []) (h' := Hp S) 1 (fun Z => if_pos hc) ?_
    refine wp_st (pc' := 35) (L' := [some (.ref 65), some (.int (nI a1)), some (.int a2), some (.int (nI a3))]) (st' := [.int a2]) (h' := Hp S) 1 (fun Z => rfl) ?_
    exact wp_ret (fun Z => rfl) ⟨_, _, rfl, rfl, hw⟩
  · rw [if_neg hc] at hw
    refine wp_st (pc' := 12) (L' := [some (.ref 65), some (.int (nI a1)), some (.int a2), some (.int (nI a3))]) (st' := []) (h' := Hp S) 1 (fun Z => if_neg hc) ?_
    refine wp_st (pc' := 14) (L' := [some (.ref 65), some (.int (nI a1)), some (.int a2), some (.int (nI a3))]) (st' := [.ref 65, .int a2]) (h' := Hp S) 2 (fun Z => rfl) ?_
    refine wp_st (pc' := 17) (L' := [some (.ref 65), some (.int (nI a1)), some (.int a2), some (.int (nI a3))]) (st' := [.ref 77, .int a2]) (h' := Hp S) 1 (fun Z => gfR (E := E) sh65 rfl _) ?_
    refine wp_st (pc' := 20) (L' := [some (.ref 65), some (.int (nI a1)), some (.int a2), some (.int (nI a3))]) (st' := [.int 69, .int (nI a1), .ref 77, .int a2]) (h' := Hp S) 2 (fun Z => rfl) ?_
    refine wp_st (pc' := 21) (L' := [some (.ref 65), some (.int (nI a1)), some (.int a2), some (.int (nI a3))]) (st' := [.int (nI (a1 + 69)), .ref 77, .int a2]) (h' := Hp S) 1 (fun Z => by rw [← nI_add a1 69]; rfl) ?_
    refine wp_st (pc' := 22) (L' := [some (.ref 65), some (.int (nI a1)), some (.int a2), some (.int (nI a3))]) (st' := [.int (nI a3), .int (nI (a1 + 69)), .ref 77, .int a2]) (h' := Hp S) 1 (fun Z => rfl) ?_
    refine wp_st (pc' := 23) (L' := [some (.ref 65), some (.int (nI a1)), some (.int a2), some (.int (nI a3))]) (st' := [.int (nI ((a1 + 69) + a3)), .ref 77, .int a2]) (h' := Hp S) 1 (fun Z => by rw [← nI_add (a1 + 69) a3]; rfl) ?_
    obtain ⟨hi, hw⟩ := hw
    refine wp_st (pc' := 24) (L' := [some (.ref 65), some (.int (nI a1)), some (.int a2), some (.int (nI a3))]) (st' := [.int (S 77 ((a1 + 69) + a3)), .int a2]) (h' := Hp S) 1 (fun Z => ldN (E := E) sh77 (by decide) hi [.int a2] (fun st => Z d m_m_guardedOnes 24 [some (.ref 65), some (.int (nI a1)), some (.int a2), some (.int (nI a3))] st (Hp S))) ?_
    refine wp_st (pc' := 28) (L' := [some (.ref 65), some (.int (nI a1)), some (.int (a2 ||| ((S 77 ((a1 + 69) + a3)) <<< ((nI a3) &&& 31)))), some (.int (nI a3))]) (st' := []) (h' := Hp S) 4 (fun Z => rfl) ?_
    refine wp_st (pc' := 31) (L' := [some (.ref 65), some (.int (nI a1)), some (.int (a2 ||| ((S 77 ((a1 + 69) + a3)) <<< ((nI a3) &&& 31)))), some (.int (nI (a3 + 1)))]) (st' := []) (h' := Hp S) 1 (fun Z => by rw [← nI_add a3 1]; rfl) ?_
    exact wp_st 1 (fun Z => rfl) (show wp E d m_m_guardedOnes 4 [some (.ref 65), some (.int (nI a1)), some (.int (a2 ||| ((S 77 ((a1 + 69) + a3)) <<< ((nI a3) &&& 31)))), some (.int (nI (a3 + 1)))] [] (Hp S) (QI Q) from hw)
set_option maxRecDepth 4000 in
theorem w_m_allAtOnce {E : zX} {d : Nat} {S : St}  {Q : Int32 → St → Prop} (hd : 1 ≤ d) 
    (hw : k_m_free E (d - 1) S 0 (fun x1 S2 =>
    k_m_allAtOnce_10 E d S2 x1 (-1) 0 Q)) :
    k_m_allAtOnce E d S Q := by
  obtain ⟨d, rfl⟩ := Nat.exists_eq_add_of_le' hd
  show wp E (d + 1) m_m_allAtOnce 0 [some (.ref 65), none, none, none] [] (Hp S) (QI Q)
  refine wp_st (pc' := 2) (L' := [some (.ref 65), none, none, none]) (st' := [.int 0, .ref 65]) (h' := Hp S) 2 (fun Z => rfl) ?_
  refine wp_call (pc' := 5) (rest := []) (fun Z => rfl) (isO_of sh65) hw ?_
  rintro o h1 ⟨x1, S2, rfl, rfl, hw⟩
  refine ⟨_, rfl, ?_⟩
  show wp E (d + 1) m_m_allAtOnce 5 [some (.ref 65), none, none, none] [.int x1] (Hp S2) (QI Q)
  refine wp_st (pc' := 6) (L' := [some (.ref 65), some (.int x1), none, none]) (st' := []) (h' := Hp S2) 1 (fun Z => rfl) ?_
  refine wp_st (pc' := 7) (L' := [some (.ref 65), some (.int x1), none, none]) (st' := [.int (-1)]) (h' := Hp S2) 1 (fun Z => congrArg (fun v => Z (d + 1) m_m_allAtOnce 7 [some (.ref 65), some (.int x1), none, none] [.int v] (Hp S2)) (show Int32.ofInt (-1) = (-1) by decide)) ?_
  exact wp_st 3 (fun Z => rfl) (show wp E (d + 1) m_m_allAtOnce 10 [some (.ref 65), some (.int x1), some (.int (-1)), some (.int 0)] [] (Hp S2) (QI Q) from hw)
set_option maxRecDepth 4000 in
theorem w_m_allAtOnce_10 {E : zX} {d : Nat} {S : St} {a1 : Int32} {a2 : Int32} {a3 : Nat} {Q : Int32 → St → Prop} (hd : 1 ≤ d) 
    (hw : if ((1 : Int32) <<< ((S 65 4) &&& 31)) ≤ (nI a3) then (
      Q a2 S)
    else (
      if ((nI a3) &&& (a1 ^^^ ((-1) : Int32))) = 0 then (
        if a2 = (-1) then (
          k_m_allAtOnce_44 E d S a1 a2 a3 Q)
        else (
          k_m_bits E (d - 1) S (nI a3) (fun x1 S2 =>
          k_m_bits E (d - 1) S2 a2 (fun x3 S4 =>
          if x3 ≤ x1 then (
            k_m_allAtOnce_10 E d S4 a1 a2 (a3 + 1) Q)
          else (
            k_m_allAtOnce_44 E d S4 a1 a2 a3 Q)))))
      else (
        k_m_allAtOnce_10 E d S a1 a2 (a3 + 1) Q))) :
    k_m_allAtOnce_10 E d S a1 a2 a3 Q := by
  obtain ⟨d, rfl⟩ := Nat.exists_eq_add_of_le' hd
  show wp E (d + 1) m_m_allAtOnce 10 [some (.ref 65), some (.int a1), some (.int a2), some (.int (nI a3))] [] (Hp S) (QI Q)
  refine wp_st (pc' := 13) (L' := [some (.ref 65), some (.int a1), some (.int a2), some (.int (nI a3))]) (st' := [.ref 65, .int 1, .int (nI a3)]) (h' := Hp S) 3 (fun Z => rfl) ?_
  refine wp_st (pc' := 16) (L' := [some (.ref 65), some (.int a1), some (.int a2), some (.int (nI a3))]) (st' := [.int (S 65 4), .int 1, .int (nI a3)]) (h' := Hp S) 1 (fun Z => gfI (E := E) sh65 rfl _) ?_
  refine wp_st (pc' := 17) (L' := [some (.ref 65), some (.int a1), some (.int a2), some (.int (nI a3))]) (st' := [.int ((1 : Int32) <<< ((S 65 4) &&& 31)), .int (nI a3)]) (h' := Hp S) 1 (fun Z => rfl) ?_
  by_cases hc : ((1 : Int32) <<< ((S 65 4) &&& 31)) ≤ (nI a3)
  · rw [if_pos hc] at hw
    refine wp_st (pc' := 63) (L' := [some (.ref 65), some (.int a1), some (.int a2), some (.int (nI a3))]) (st' := []) (h' := Hp S) 1 (fun Z => if_pos hc) ?_
    refine wp_st (pc' := 64) (L' := [some (.ref 65), some (.int a1), some (.int a2), some (.int (nI a3))]) (st' := [.int a2]) (h' := Hp S) 1 (fun Z => rfl) ?_
    exact wp_ret (fun Z => rfl) ⟨_, _, rfl, rfl, hw⟩
  · rw [if_neg hc] at hw
    refine wp_st (pc' := 20) (L' := [some (.ref 65), some (.int a1), some (.int a2), some (.int (nI a3))]) (st' := []) (h' := Hp S) 1 (fun Z => if_neg hc) ?_
    refine wp_st (pc' := 22) (L' := [some (.ref 65), some (.int a1), some (.int a2), some (.int (nI a3))]) (st' := [.int a1, .int (nI a3)]) (h' := Hp S) 2 (fun Z => rfl) ?_
    refine wp_st (pc' := 23) (L' := [some (.ref 65), some (.int a1), some (.int a2), some (.int (nI a3))]) (st' := [.int (-1), .int a1, .int (nI a3)]) (h' := Hp S) 1 (fun Z => congrArg (fun v => Z (d + 1) m_m_allAtOnce 23 [some (.ref 65), some (.int a1), some (.int a2), some (.int (nI a3))] [.int v, .int a1, .int (nI a3)] (Hp S)) (show Int32.ofInt (-1) = (-1) by decide)) ?_
    refine wp_st (pc' := 25) (L' := [some (.ref 65), some (.int a1), some (.int a2), some (.int (nI a3))]) (st' := [.int ((nI a3) &&& (a1 ^^^ ((-1) : Int32)))]) (h' := Hp S) 2 (fun Z => rfl) ?_
    by_cases hc : ((nI a3) &&& (a1 ^^^ ((-1) : Int32))) = 0
    · rw [if_pos hc] at hw
      refine wp_st (pc' := 28) (L' := [some (.ref 65), some (.int a1), some (.int a2), some (.int (nI a3))]) (st' := []) (h' := Hp S) 1 (fun Z => if_pos hc) ?_
      refine wp_st (pc' := 29) (L' := [some (.ref 65), some (.int a1), some (.int a2), some (.int (nI a3))]) (st' := [.int a2]) (h' := Hp S) 1 (fun Z => rfl) ?_
      refine wp_st (pc' := 30) (L' := [some (.ref 65), some (.int a1), some (.int a2), some (.int (nI a3))]) (st' := [.int (-1), .int a2]) (h' := Hp S) 1 (fun Z => congrArg (fun v => Z (d + 1) m_m_allAtOnce 30 [some (.ref 65), some (.int a1), some (.int a2), some (.int (nI a3))] [.int v, .int a2] (Hp S)) (show Int32.ofInt (-1) = (-1) by decide)) ?_
      by_cases hc : a2 = (-1)
      · rw [if_pos hc] at hw
        refine wp_st (pc' := 44) (L' := [some (.ref 65), some (.int a1), some (.int a2), some (.int (nI a3))]) (st' := []) (h' := Hp S) 1 (fun Z => if_pos hc) ?_
        exact (show wp E (d + 1) m_m_allAtOnce 44 [some (.ref 65), some (.int a1), some (.int a2), some (.int (nI a3))] [] (Hp S) (QI Q) from hw)
      · rw [if_neg hc] at hw
        refine wp_st (pc' := 33) (L' := [some (.ref 65), some (.int a1), some (.int a2), some (.int (nI a3))]) (st' := []) (h' := Hp S) 1 (fun Z => if_neg hc) ?_
        refine wp_st (pc' := 34) (L' := [some (.ref 65), some (.int a1), some (.int a2), some (.int (nI a3))]) (st' := [.int (nI a3)]) (h' := Hp S) 1 (fun Z => rfl) ?_
        refine wp_call (pc' := 37) (rest := []) (fun Z => rfl) rfl hw ?_
        rintro o h1 ⟨x1, S2, rfl, rfl, hw⟩
        refine ⟨_, rfl, ?_⟩
        show wp E (d + 1) m_m_allAtOnce 37 [some (.ref 65), some (.int a1), some (.int a2), some (.int (nI a3))] [.int x1] (Hp S2) (QI Q)
        refine wp_st (pc' := 38) (L' := [some (.ref 65), some (.int a1), some (.int a2), some (.int (nI a3))]) (st' := [.int a2, .int x1]) (h' := Hp S2) 1 (fun Z => rfl) ?_
        refine wp_call (pc' := 41) (rest := [.int x1]) (fun Z => rfl) rfl hw ?_
        rintro o h1 ⟨x3, S4, rfl, rfl, hw⟩
        refine ⟨_, rfl, ?_⟩
        show wp E (d + 1) m_m_allAtOnce 41 [some (.ref 65), some (.int a1), some (.int a2), some (.int (nI a3))] [.int x3, .int x1] (Hp S4) (QI Q)
        by_cases hc : x3 ≤ x1
        · rw [if_pos hc] at hw
          refine wp_st (pc' := 57) (L' := [some (.ref 65), some (.int a1), some (.int a2), some (.int (nI a3))]) (st' := []) (h' := Hp S4) 1 (fun Z => if_pos hc) ?_
          refine wp_st (pc' := 60) (L' := [some (.ref 65), some (.int a1), some (.int a2), some (.int (nI (a3 + 1)))]) (st' := []) (h' := Hp S4) 1 (fun Z => by rw [← nI_add a3 1]; rfl) ?_
          exact wp_st 1 (fun Z => rfl) (show wp E (d + 1) m_m_allAtOnce 10 [some (.ref 65), some (.int a1), some (.int a2), some (.int (nI (a3 + 1)))] [] (Hp S4) (QI Q) from hw)
        · rw [if_neg hc] at hw
          refine wp_st (pc' := 44) (L' := [some (.ref 65), some (.int a1), some (.int a2), some (.int (nI a3))]) (st' := []) (h' := Hp S4) 1 (fun Z => if_neg hc) ?_
          exact (show wp E (d + 1) m_m_allAtOnce 44 [some (.ref 65), some (.int a1), some (.int a2), some (.int (nI a3))] [] (Hp S4) (QI Q) from hw)
    · rw [if_neg hc] at hw
      refine wp_st (pc' := 57) (L' := [some (.ref 65), some (.int a1), some (.int a2), some (.int (nI a3))]) (st' := []) (h' := Hp S) 1 (fun Z => if_neg hc) ?_
      refine wp_st (pc' := 60) (L' := [some (.ref 65), some (.int a1), some (.int a2), some (.int (nI (a3 + 1)))]) (st' := []) (h' := Hp S) 1 (fun Z => by rw [← nI_add a3 1]; rfl) ?_
      exact wp_st 1 (fun Z => rfl) (show wp E (d + 1) m_m_allAtOnce 10 [some (.ref 65), some (.int a1), some (.int a2), some (.int (nI (a3 + 1)))] [] (Hp S) (QI Q) from hw)
set_option maxRecDepth 4000 in
theorem w_m_allAtOnce_44 {E : zX} {d : Nat} {S : St} {a1 : Int32} {a2 : Int32} {a3 : Nat} {Q : Int32 → St → Prop} (hd : 1 ≤ d) 
    (hw : k_m_setOff E (d - 1) S 0 (nI a3) a1 (fun x1 S2 =>
    if x1 = a1 then (
      k_m_allAtOnce_10 E d S2 a1 (nI a3) (a3 + 1) Q)
    else (
      k_m_allAtOnce_10 E d S2 a1 a2 (a3 + 1) Q))) :
    k_m_allAtOnce_44 E d S a1 a2 a3 Q := by
  obtain ⟨d, rfl⟩ := Nat.exists_eq_add_of_le' hd
  show wp E (d + 1) m_m_allAtOnce 44 [some (.ref 65), some (.int a1), some (.int a2), some (.int (nI a3))] [] (Hp S) (QI Q)
  refine wp_st (pc' := 48) (L' := [some (.ref 65), some (.int a1), some (.int a2), some (.int (nI a3))]) (st' := [.int a1, .int (nI a3), .int 0, .ref 65]) (h' := Hp S) 4 (fun Z => rfl) ?_
  refine wp_call (pc' := 51) (rest := []) (fun Z => rfl) (isO_of sh65) hw ?_
  rintro o h1 ⟨x1, S2, rfl, rfl, hw⟩
  refine ⟨_, rfl, ?_⟩
  show wp E (d + 1) m_m_allAtOnce 51 [some (.ref 65), some (.int a1), some (.int a2), some (.int (nI a3))] [.int x1] (Hp S2) (QI Q)
  refine wp_st (pc' := 52) (L' := [some (.ref 65), some (.int a1), some (.int a2), some (.int (nI a3))]) (st' := [.int a1, .int x1]) (h' := Hp S2) 1 (fun Z => rfl) ?_
  by_cases hc : x1 = a1
  · rw [if_pos hc] at hw
    refine wp_st (pc' := 55) (L' := [some (.ref 65), some (.int a1), some (.int a2), some (.int (nI a3))]) (st' := []) (h' := Hp S2) 1 (fun Z => if_pos hc) ?_
    refine wp_st (pc' := 57) (L' := [some (.ref 65), some (.int a1), some (.int (nI a3)), some (.int (nI a3))]) (st' := []) (h' := Hp S2) 2 (fun Z => rfl) ?_
    refine wp_st (pc' := 60) (L' := [some (.ref 65), some (.int a1), some (.int (nI a3)), some (.int (nI (a3 + 1)))]) (st' := []) (h' := Hp S2) 1 (fun Z => by rw [← nI_add a3 1]; rfl) ?_
    exact wp_st 1 (fun Z => rfl) (show wp E (d + 1) m_m_allAtOnce 10 [some (.ref 65), some (.int a1), some (.int (nI a3)), some (.int (nI (a3 + 1)))] [] (Hp S2) (QI Q) from hw)
  · rw [if_neg hc] at hw
    refine wp_st (pc' := 57) (L' := [some (.ref 65), some (.int a1), some (.int a2), some (.int (nI a3))]) (st' := []) (h' := Hp S2) 1 (fun Z => if_neg hc) ?_
    refine wp_st (pc' := 60) (L' := [some (.ref 65), some (.int a1), some (.int a2), some (.int (nI (a3 + 1)))]) (st' := []) (h' := Hp S2) 1 (fun Z => by rw [← nI_add a3 1]; rfl) ?_
    exact wp_st 1 (fun Z => rfl) (show wp E (d + 1) m_m_allAtOnce 10 [some (.ref 65), some (.int a1), some (.int a2), some (.int (nI (a3 + 1)))] [] (Hp S2) (QI Q) from hw)
set_option maxRecDepth 4000 in
theorem w_m_free {E : zX} {d : Nat} {S : St} {a1 : Nat} {Q : Int32 → St → Prop} (hd : 1 ≤ d) 
    (hw : k_m_heldOnes E (d - 1) S (nI a1) (fun x1 S2 =>
    k_m_guardedOnes E (d - 1) S2 (nI a1) (fun x3 S4 =>
    Q (x1 &&& (x3 ^^^ ((-1) : Int32))) S4))) :
    k_m_free E d S (nI a1) Q := by
  obtain ⟨d, rfl⟩ := Nat.exists_eq_add_of_le' hd
  show wp E (d + 1) m_m_free 0 [some (.ref 65), some (.int (nI a1))] [] (Hp S) (QI Q)
  refine wp_st (pc' := 2) (L' := [some (.ref 65), some (.int (nI a1))]) (st' := [.int (nI a1), .ref 65]) (h' := Hp S) 2 (fun Z => rfl) ?_
  refine wp_call (pc' := 5) (rest := []) (fun Z => rfl) (isO_of sh65) hw ?_
  rintro o h1 ⟨x1, S2, rfl, rfl, hw⟩
  refine ⟨_, rfl, ?_⟩
  show wp E (d + 1) m_m_free 5 [some (.ref 65), some (.int (nI a1))] [.int x1] (Hp S2) (QI Q)
  refine wp_st (pc' := 7) (L' := [some (.ref 65), some (.int (nI a1))]) (st' := [.int (nI a1), .ref 65, .int x1]) (h' := Hp S2) 2 (fun Z => rfl) ?_
  refine wp_call (pc' := 10) (rest := [.int x1]) (fun Z => rfl) (isO_of sh65) hw ?_
  rintro o h1 ⟨x3, S4, rfl, rfl, hw⟩
  refine ⟨_, rfl, ?_⟩
  show wp E (d + 1) m_m_free 10 [some (.ref 65), some (.int (nI a1))] [.int x3, .int x1] (Hp S4) (QI Q)
  refine wp_st (pc' := 11) (L' := [some (.ref 65), some (.int (nI a1))]) (st' := [.int (-1), .int x3, .int x1]) (h' := Hp S4) 1 (fun Z => congrArg (fun v => Z (d + 1) m_m_free 11 [some (.ref 65), some (.int (nI a1))] [.int v, .int x3, .int x1] (Hp S4)) (show Int32.ofInt (-1) = (-1) by decide)) ?_
  refine wp_st (pc' := 13) (L' := [some (.ref 65), some (.int (nI a1))]) (st' := [.int (x1 &&& (x3 ^^^ ((-1) : Int32)))]) (h' := Hp S4) 2 (fun Z => rfl) ?_
  exact wp_ret (fun Z => rfl) ⟨_, _, rfl, rfl, hw⟩
set_option maxRecDepth 4000 in
theorem w_m_bits {E : zX} {d : Nat} {S : St} {a0 : Int32} {Q : Int32 → St → Prop} 
    (hw : k_m_bits_4 E d S a0 0 0 Q) :
    k_m_bits E d S a0 Q := by
  show wp E d m_m_bits 0 [some (.int a0), none, none] [] (Hp S) (QI Q)
  exact wp_st 4 (fun Z => rfl) (show wp E d m_m_bits 4 [some (.int a0), some (.int 0), some (.int 0)] [] (Hp S) (QI Q) from hw)
set_option maxRecDepth 4000 in
theorem w_m_bits_4 {E : zX} {d : Nat} {S : St} {a0 : Int32} {a1 : Int32} {a2 : Nat} {Q : Int32 → St → Prop} 
    (hw : if nI 10 ≤ (nI a2) then (
      Q a1 S)
    else (
      k_m_bits_4 E d S a0 (a1 + ((a0 >>> ((nI a2) &&& 31)) &&& (1 : Int32))) (a2 + 1) Q)) :
    k_m_bits_4 E d S a0 a1 a2 Q := by
  show wp E d m_m_bits 4 [some (.int a0), some (.int a1), some (.int (nI a2))] [] (Hp S) (QI Q)
  refine wp_st (pc' := 7) (L' := [some (.int a0), some (.int a1), some (.int (nI a2))]) (st' := [.int 10, .int (nI a2)]) (h' := Hp S) 2 (fun Z => rfl) ?_
  by_cases hc : nI 10 ≤ (nI a2)
  · rw [if_pos hc] at hw
    refine wp_st (pc' := 24) (L' := [some (.int a0), some (.int a1), some (.int (nI a2))]) (st' := []) (h' := Hp S) 1 (fun Z => if_pos hc) ?_
    refine wp_st (pc' := 25) (L' := [some (.int a0), some (.int a1), some (.int (nI a2))]) (st' := [.int a1]) (h' := Hp S) 1 (fun Z => rfl) ?_
    exact wp_ret (fun Z => rfl) ⟨_, _, rfl, rfl, hw⟩
  · rw [if_neg hc] at hw
    refine wp_st (pc' := 10) (L' := [some (.int a0), some (.int a1), some (.int (nI a2))]) (st' := []) (h' := Hp S) 1 (fun Z => if_neg hc) ?_
    refine wp_st (pc' := 18) (L' := [some (.int a0), some (.int (a1 + ((a0 >>> ((nI a2) &&& 31)) &&& (1 : Int32)))), some (.int (nI a2))]) (st' := []) (h' := Hp S) 8 (fun Z => rfl) ?_
    refine wp_st (pc' := 21) (L' := [some (.int a0), some (.int (a1 + ((a0 >>> ((nI a2) &&& 31)) &&& (1 : Int32)))), some (.int (nI (a2 + 1)))]) (st' := []) (h' := Hp S) 1 (fun Z => by rw [← nI_add a2 1]; rfl) ?_
    exact wp_st 1 (fun Z => rfl) (show wp E d m_m_bits 4 [some (.int a0), some (.int (a1 + ((a0 >>> ((nI a2) &&& 31)) &&& (1 : Int32)))), some (.int (nI (a2 + 1)))] [] (Hp S) (QI Q) from hw)
set_option maxRecDepth 4000 in
theorem w_m_isIn {E : zX} {d : Nat} {S : St} {a1 : Nat} {a2 : Nat} {a3 : Int32} {Q : Int32 → St → Prop} (hd : 1 ≤ d) 
    (hw : ((a1 + 29) + a2) < 158 ∧
    k_m_farOf E (d - 1) S (S 77 ((a1 + 29) + a2)) a3 (fun x1 S2 =>
    ((a1 + 39) + a2) < 158 ∧
    if ((S2 77 ((a1 + 39) + a2)) / 10) < x1 then (
      Q (0 : Int32) S2)
    else (
      Q (1 : Int32) S2))) :
    k_m_isIn E d S (nI a1) (nI a2) a3 Q := by
  obtain ⟨d, rfl⟩ := Nat.exists_eq_add_of_le' hd
  show wp E (d + 1) m_m_isIn 0 [some (.ref 65), some (.int (nI a1)), some (.int (nI a2)), some (.int a3)] [] (Hp S) (QI Q)
  refine wp_st (pc' := 2) (L' := [some (.ref 65), some (.int (nI a1)), some (.int (nI a2)), some (.int a3)]) (st' := [.ref 65, .ref 65]) (h' := Hp S) 2 (fun Z => rfl) ?_
  refine wp_st (pc' := 5) (L' := [some (.ref 65), some (.int (nI a1)), some (.int (nI a2)), some (.int a3)]) (st' := [.ref 77, .ref 65]) (h' := Hp S) 1 (fun Z => gfR (E := E) sh65 rfl _) ?_
  refine wp_st (pc' := 8) (L' := [some (.ref 65), some (.int (nI a1)), some (.int (nI a2)), some (.int a3)]) (st' := [.int 29, .int (nI a1), .ref 77, .ref 65]) (h' := Hp S) 2 (fun Z => rfl) ?_
  refine wp_st (pc' := 9) (L' := [some (.ref 65), some (.int (nI a1)), some (.int (nI a2)), some (.int a3)]) (st' := [.int (nI (a1 + 29)), .ref 77, .ref 65]) (h' := Hp S) 1 (fun Z => by rw [← nI_add a1 29]; rfl) ?_
  refine wp_st (pc' := 10) (L' := [some (.ref 65), some (.int (nI a1)), some (.int (nI a2)), some (.int a3)]) (st' := [.int (nI a2), .int (nI (a1 + 29)), .ref 77, .ref 65]) (h' := Hp S) 1 (fun Z => rfl) ?_
  refine wp_st (pc' := 11) (L' := [some (.ref 65), some (.int (nI a1)), some (.int (nI a2)), some (.int a3)]) (st' := [.int (nI ((a1 + 29) + a2)), .ref 77, .ref 65]) (h' := Hp S) 1 (fun Z => by rw [← nI_add (a1 + 29) a2]; rfl) ?_
  obtain ⟨hi, hw⟩ := hw
  refine wp_st (pc' := 12) (L' := [some (.ref 65), some (.int (nI a1)), some (.int (nI a2)), some (.int a3)]) (st' := [.int (S 77 ((a1 + 29) + a2)), .ref 65]) (h' := Hp S) 1 (fun Z => ldN (E := E) sh77 (by decide) hi [.ref 65] (fun st => Z (d + 1) m_m_isIn 12 [some (.ref 65), some (.int (nI a1)), some (.int (nI a2)), some (.int a3)] st (Hp S))) ?_
  refine wp_st (pc' := 13) (L' := [some (.ref 65), some (.int (nI a1)), some (.int (nI a2)), some (.int a3)]) (st' := [.int a3, .int (S 77 ((a1 + 29) + a2)), .ref 65]) (h' := Hp S) 1 (fun Z => rfl) ?_
  refine wp_call (pc' := 16) (rest := []) (fun Z => rfl) (isO_of sh65) hw ?_
  rintro o h1 ⟨x1, S2, rfl, rfl, hw⟩
  refine ⟨_, rfl, ?_⟩
  show wp E (d + 1) m_m_isIn 16 [some (.ref 65), some (.int (nI a1)), some (.int (nI a2)), some (.int a3)] [.int x1] (Hp S2) (QI Q)
  refine wp_st (pc' := 17) (L' := [some (.ref 65), some (.int (nI a1)), some (.int (nI a2)), some (.int a3)]) (st' := [.ref 65, .int x1]) (h' := Hp S2) 1 (fun Z => rfl) ?_
  refine wp_st (pc' := 20) (L' := [some (.ref 65), some (.int (nI a1)), some (.int (nI a2)), some (.int a3)]) (st' := [.ref 77, .int x1]) (h' := Hp S2) 1 (fun Z => gfR (E := E) sh65 rfl _) ?_
  refine wp_st (pc' := 23) (L' := [some (.ref 65), some (.int (nI a1)), some (.int (nI a2)), some (.int a3)]) (st' := [.int 39, .int (nI a1), .ref 77, .int x1]) (h' := Hp S2) 2 (fun Z => rfl) ?_
  refine wp_st (pc' := 24) (L' := [some (.ref 65), some (.int (nI a1)), some (.int (nI a2)), some (.int a3)]) (st' := [.int (nI (a1 + 39)), .ref 77, .int x1]) (h' := Hp S2) 1 (fun Z => by rw [← nI_add a1 39]; rfl) ?_
  refine wp_st (pc' := 25) (L' := [some (.ref 65), some (.int (nI a1)), some (.int (nI a2)), some (.int a3)]) (st' := [.int (nI a2), .int (nI (a1 + 39)), .ref 77, .int x1]) (h' := Hp S2) 1 (fun Z => rfl) ?_
  refine wp_st (pc' := 26) (L' := [some (.ref 65), some (.int (nI a1)), some (.int (nI a2)), some (.int a3)]) (st' := [.int (nI ((a1 + 39) + a2)), .ref 77, .int x1]) (h' := Hp S2) 1 (fun Z => by rw [← nI_add (a1 + 39) a2]; rfl) ?_
  obtain ⟨hi, hw⟩ := hw
  refine wp_st (pc' := 27) (L' := [some (.ref 65), some (.int (nI a1)), some (.int (nI a2)), some (.int a3)]) (st' := [.int (S2 77 ((a1 + 39) + a2)), .int x1]) (h' := Hp S2) 1 (fun Z => ldN (E := E) sh77 (by decide) hi [.int x1] (fun st => Z (d + 1) m_m_isIn 27 [some (.ref 65), some (.int (nI a1)), some (.int (nI a2)), some (.int a3)] st (Hp S2))) ?_
  refine wp_st (pc' := 29) (L' := [some (.ref 65), some (.int (nI a1)), some (.int (nI a2)), some (.int a3)]) (st' := [.int 10, .int (S2 77 ((a1 + 39) + a2)), .int x1]) (h' := Hp S2) 1 (fun Z => rfl) ?_
  refine wp_st (pc' := 30) (L' := [some (.ref 65), some (.int (nI a1)), some (.int (nI a2)), some (.int a3)]) (st' := [.int ((S2 77 ((a1 + 39) + a2)) / 10), .int x1]) (h' := Hp S2) 1 (fun Z => rfl) ?_
  by_cases hc : ((S2 77 ((a1 + 39) + a2)) / 10) < x1
  · rw [if_pos hc] at hw
    refine wp_st (pc' := 37) (L' := [some (.ref 65), some (.int (nI a1)), some (.int (nI a2)), some (.int a3)]) (st' := []) (h' := Hp S2) 1 (fun Z => if_pos hc) ?_
    refine wp_st (pc' := 38) (L' := [some (.ref 65), some (.int (nI a1)), some (.int (nI a2)), some (.int a3)]) (st' := [.int 0]) (h' := Hp S2) 1 (fun Z => rfl) ?_
    exact wp_ret (fun Z => rfl) ⟨_, _, rfl, rfl, hw⟩
  · rw [if_neg hc] at hw
    refine wp_st (pc' := 33) (L' := [some (.ref 65), some (.int (nI a1)), some (.int (nI a2)), some (.int a3)]) (st' := []) (h' := Hp S2) 1 (fun Z => if_neg hc) ?_
    refine wp_st (pc' := 38) (L' := [some (.ref 65), some (.int (nI a1)), some (.int (nI a2)), some (.int a3)]) (st' := [.int 1]) (h' := Hp S2) 2 (fun Z => rfl) ?_
    exact wp_ret (fun Z => rfl) ⟨_, _, rfl, rfl, hw⟩
set_option maxRecDepth 4000 in
theorem w_m_farOf {E : zX} {d : Nat} {S : St} {a1 : Int32} {a2 : Int32} {Q : Int32 → St → Prop} (hd : 1 ≤ d) 
    (hw : ¬ (S 65 1) = 0 ∧
    ¬ (S 65 1) = 0 ∧
    k_m_apart E (d - 1) S (zrem a1 (S 65 1)) (zrem a2 (S 65 1)) (fun x1 S2 =>
    ¬ (S2 65 1) = 0 ∧
    ¬ (S2 65 1) = 0 ∧
    k_m_apart E (d - 1) S2 (a1 / (S2 65 1)) (a2 / (S2 65 1)) (fun x3 S4 =>
    Q (x1 + x3) S4))) :
    k_m_farOf E d S a1 a2 Q := by
  obtain ⟨d, rfl⟩ := Nat.exists_eq_add_of_le' hd
  show wp E (d + 1) m_m_farOf 0 [some (.ref 65), some (.int a1), some (.int a2)] [] (Hp S) (QI Q)
  refine wp_st (pc' := 2) (L' := [some (.ref 65), some (.int a1), some (.int a2)]) (st' := [.ref 65, .int a1]) (h' := Hp S) 2 (fun Z => rfl) ?_
  refine wp_st (pc' := 5) (L' := [some (.ref 65), some (.int a1), some (.int a2)]) (st' := [.int (S 65 1), .int a1]) (h' := Hp S) 1 (fun Z => gfI (E := E) sh65 rfl _) ?_
  obtain ⟨hz, hw⟩ := hw
  refine wp_st (pc' := 6) (L' := [some (.ref 65), some (.int a1), some (.int a2)]) (st' := [.int (zrem a1 (S 65 1))]) (h' := Hp S) 1 (fun Z => if_neg hz) ?_
  refine wp_st (pc' := 8) (L' := [some (.ref 65), some (.int a1), some (.int a2)]) (st' := [.ref 65, .int a2, .int (zrem a1 (S 65 1))]) (h' := Hp S) 2 (fun Z => rfl) ?_
  refine wp_st (pc' := 11) (L' := [some (.ref 65), some (.int a1), some (.int a2)]) (st' := [.int (S 65 1), .int a2, .int (zrem a1 (S 65 1))]) (h' := Hp S) 1 (fun Z => gfI (E := E) sh65 rfl _) ?_
  obtain ⟨hz, hw⟩ := hw
  refine wp_st (pc' := 12) (L' := [some (.ref 65), some (.int a1), some (.int a2)]) (st' := [.int (zrem a2 (S 65 1)), .int (zrem a1 (S 65 1))]) (h' := Hp S) 1 (fun Z => if_neg hz) ?_
  refine wp_call (pc' := 15) (rest := []) (fun Z => rfl) rfl hw ?_
  rintro o h1 ⟨x1, S2, rfl, rfl, hw⟩
  refine ⟨_, rfl, ?_⟩
  show wp E (d + 1) m_m_farOf 15 [some (.ref 65), some (.int a1), some (.int a2)] [.int x1] (Hp S2) (QI Q)
  refine wp_st (pc' := 17) (L' := [some (.ref 65), some (.int a1), some (.int a2)]) (st' := [.ref 65, .int a1, .int x1]) (h' := Hp S2) 2 (fun Z => rfl) ?_
  refine wp_st (pc' := 20) (L' := [some (.ref 65), some (.int a1), some (.int a2)]) (st' := [.int (S2 65 1), .int a1, .int x1]) (h' := Hp S2) 1 (fun Z => gfI (E := E) sh65 rfl _) ?_
  obtain ⟨hz, hw⟩ := hw
  refine wp_st (pc' := 21) (L' := [some (.ref 65), some (.int a1), some (.int a2)]) (st' := [.int (a1 / (S2 65 1)), .int x1]) (h' := Hp S2) 1 (fun Z => if_neg hz) ?_
  refine wp_st (pc' := 23) (L' := [some (.ref 65), some (.int a1), some (.int a2)]) (st' := [.ref 65, .int a2, .int (a1 / (S2 65 1)), .int x1]) (h' := Hp S2) 2 (fun Z => rfl) ?_
  refine wp_st (pc' := 26) (L' := [some (.ref 65), some (.int a1), some (.int a2)]) (st' := [.int (S2 65 1), .int a2, .int (a1 / (S2 65 1)), .int x1]) (h' := Hp S2) 1 (fun Z => gfI (E := E) sh65 rfl _) ?_
  obtain ⟨hz, hw⟩ := hw
  refine wp_st (pc' := 27) (L' := [some (.ref 65), some (.int a1), some (.int a2)]) (st' := [.int (a2 / (S2 65 1)), .int (a1 / (S2 65 1)), .int x1]) (h' := Hp S2) 1 (fun Z => if_neg hz) ?_
  refine wp_call (pc' := 30) (rest := [.int x1]) (fun Z => rfl) rfl hw ?_
  rintro o h1 ⟨x3, S4, rfl, rfl, hw⟩
  refine ⟨_, rfl, ?_⟩
  show wp E (d + 1) m_m_farOf 30 [some (.ref 65), some (.int a1), some (.int a2)] [.int x3, .int x1] (Hp S4) (QI Q)
  refine wp_st (pc' := 31) (L' := [some (.ref 65), some (.int a1), some (.int a2)]) (st' := [.int (x1 + x3)]) (h' := Hp S4) 1 (fun Z => rfl) ?_
  exact wp_ret (fun Z => rfl) ⟨_, _, rfl, rfl, hw⟩
set_option maxRecDepth 4000 in
theorem w_m_apart {E : zX} {d : Nat} {S : St} {a0 : Int32} {a1 : Int32} {Q : Int32 → St → Prop} 
    (hw : if a1 ≤ a0 then (
      Q (a0 - a1) S)
    else (
      Q (a1 - a0) S)) :
    k_m_apart E d S a0 a1 Q := by
  show wp E d m_m_apart 0 [some (.int a0), some (.int a1)] [] (Hp S) (QI Q)
  refine wp_st (pc' := 2) (L' := [some (.int a0), some (.int a1)]) (st' := [.int a1, .int a0]) (h' := Hp S) 2 (fun Z => rfl) ?_
  by_cases hc : a1 ≤ a0
  · rw [if_pos hc] at hw
    refine wp_st (pc' := 11) (L' := [some (.int a0), some (.int a1)]) (st' := []) (h' := Hp S) 1 (fun Z => if_pos hc) ?_
    refine wp_st (pc' := 14) (L' := [some (.int a0), some (.int a1)]) (st' := [.int (a0 - a1)]) (h' := Hp S) 3 (fun Z => rfl) ?_
    exact wp_ret (fun Z => rfl) ⟨_, _, rfl, rfl, hw⟩
  · rw [if_neg hc] at hw
    refine wp_st (pc' := 5) (L' := [some (.int a0), some (.int a1)]) (st' := []) (h' := Hp S) 1 (fun Z => if_neg hc) ?_
    refine wp_st (pc' := 14) (L' := [some (.int a0), some (.int a1)]) (st' := [.int (a1 - a0)]) (h' := Hp S) 4 (fun Z => rfl) ?_
    exact wp_ret (fun Z => rfl) ⟨_, _, rfl, rfl, hw⟩
set_option maxRecDepth 4000 in
theorem w_m_isPerson {E : zX} {d : Nat} {S : St} {a1 : Int32} {Q : Int32 → St → Prop} (hd : 1 ≤ d) 
    (hw : if a1 < 0 then (
      k_m_right E (d - 1) S 0 1 (fun x1 S2 =>
      (x1 = 0 ∨ x1 = 1) ∧ Q x1 S2))
    else (
      if (S 65 3) ≤ a1 then (
        k_m_right E (d - 1) S 0 1 (fun x3 S4 =>
        (x3 = 0 ∨ x3 = 1) ∧ Q x3 S4))
      else (
        k_m_right E (d - 1) S 1 1 (fun x5 S6 =>
        (x5 = 0 ∨ x5 = 1) ∧ Q x5 S6)))) :
    k_m_isPerson E d S a1 Q := by
  obtain ⟨d, rfl⟩ := Nat.exists_eq_add_of_le' hd
  show wp E (d + 1) m_m_isPerson 0 [some (.ref 65), some (.int a1)] [] (Hp S) (QI Q)
  refine wp_st (pc' := 2) (L' := [some (.ref 65), some (.int a1)]) (st' := [.int a1, .ref 65]) (h' := Hp S) 2 (fun Z => rfl) ?_
  by_cases hc : a1 < 0
  · rw [if_pos hc] at hw
    refine wp_st (pc' := 17) (L' := [some (.ref 65), some (.int a1)]) (st' := [.ref 65]) (h' := Hp S) 1 (fun Z => if_pos hc) ?_
    refine wp_st (pc' := 19) (L' := [some (.ref 65), some (.int a1)]) (st' := [.int 1, .int 0, .ref 65]) (h' := Hp S) 2 (fun Z => rfl) ?_
    refine wp_call (pc' := 22) (rest := []) (fun Z => rfl) (isO_of sh65) hw ?_
    rintro o h1 ⟨x1, S2, rfl, rfl, hw⟩
    refine ⟨_, rfl, ?_⟩
    show wp E (d + 1) m_m_isPerson 22 [some (.ref 65), some (.int a1)] [.int x1] (Hp S2) (QI Q)
    obtain ⟨hz, hw⟩ := hw
    refine wp_ret (h' := Hp S2) (o := .inl (some (.int x1))) (fun Z => ?_) ⟨_, _, rfl, rfl, hw⟩
    show (bif zfr _ _ then _ else none) = _
    rcases hz with hz | hz <;> rw [hz] <;> rfl
  · rw [if_neg hc] at hw
    refine wp_st (pc' := 5) (L' := [some (.ref 65), some (.int a1)]) (st' := [.ref 65]) (h' := Hp S) 1 (fun Z => if_neg hc) ?_
    refine wp_st (pc' := 7) (L' := [some (.ref 65), some (.int a1)]) (st' := [.ref 65, .int a1, .ref 65]) (h' := Hp S) 2 (fun Z => rfl) ?_
    refine wp_st (pc' := 10) (L' := [some (.ref 65), some (.int a1)]) (st' := [.int (S 65 3), .int a1, .ref 65]) (h' := Hp S) 1 (fun Z => gfI (E := E) sh65 rfl _) ?_
    by_cases hc : (S 65 3) ≤ a1
    · rw [if_pos hc] at hw
      refine wp_st (pc' := 17) (L' := [some (.ref 65), some (.int a1)]) (st' := [.ref 65]) (h' := Hp S) 1 (fun Z => if_pos hc) ?_
      refine wp_st (pc' := 19) (L' := [some (.ref 65), some (.int a1)]) (st' := [.int 1, .int 0, .ref 65]) (h' := Hp S) 2 (fun Z => rfl) ?_
      refine wp_call (pc' := 22) (rest := []) (fun Z => rfl) (isO_of sh65) hw ?_
      rintro o h1 ⟨x3, S4, rfl, rfl, hw⟩
      refine ⟨_, rfl, ?_⟩
      show wp E (d + 1) m_m_isPerson 22 [some (.ref 65), some (.int a1)] [.int x3] (Hp S4) (QI Q)
      obtain ⟨hz, hw⟩ := hw
      refine wp_ret (h' := Hp S4) (o := .inl (some (.int x3))) (fun Z => ?_) ⟨_, _, rfl, rfl, hw⟩
      show (bif zfr _ _ then _ else none) = _
      rcases hz with hz | hz <;> rw [hz] <;> rfl
    · rw [if_neg hc] at hw
      refine wp_st (pc' := 13) (L' := [some (.ref 65), some (.int a1)]) (st' := [.ref 65]) (h' := Hp S) 1 (fun Z => if_neg hc) ?_
      refine wp_st (pc' := 19) (L' := [some (.ref 65), some (.int a1)]) (st' := [.int 1, .int 1, .ref 65]) (h' := Hp S) 3 (fun Z => rfl) ?_
      refine wp_call (pc' := 22) (rest := []) (fun Z => rfl) (isO_of sh65) hw ?_
      rintro o h1 ⟨x5, S6, rfl, rfl, hw⟩
      refine ⟨_, rfl, ?_⟩
      show wp E (d + 1) m_m_isPerson 22 [some (.ref 65), some (.int a1)] [.int x5] (Hp S6) (QI Q)
      obtain ⟨hz, hw⟩ := hw
      refine wp_ret (h' := Hp S6) (o := .inl (some (.int x5))) (fun Z => ?_) ⟨_, _, rfl, rfl, hw⟩
      show (bif zfr _ _ then _ else none) = _
      rcases hz with hz | hz <;> rw [hz] <;> rfl
set_option maxRecDepth 4000 in
theorem w_m_isWhat {E : zX} {d : Nat} {S : St} {a1 : Int32} {a2 : Int32} {Q : Int32 → St → Prop} (hd : 1 ≤ d) 
    (hw : k_m_within E (d - 1) S a1 0 a2 (fun x1 S2 =>
    k_m_right E (d - 1) S2 x1 1 (fun x3 S4 =>
    (x3 = 0 ∨ x3 = 1) ∧ Q x3 S4))) :
    k_m_isWhat E d S a1 a2 Q := by
  obtain ⟨d, rfl⟩ := Nat.exists_eq_add_of_le' hd
  show wp E (d + 1) m_m_isWhat 0 [some (.ref 65), some (.int a1), some (.int a2)] [] (Hp S) (QI Q)
  refine wp_st (pc' := 4) (L' := [some (.ref 65), some (.int a1), some (.int a2)]) (st' := [.int a2, .int 0, .int a1, .ref 65]) (h' := Hp S) 4 (fun Z => rfl) ?_
  refine wp_call (pc' := 7) (rest := [.ref 65]) (fun Z => rfl) rfl hw ?_
  rintro o h1 ⟨x1, S2, rfl, rfl, hw⟩
  refine ⟨_, rfl, ?_⟩
  show wp E (d + 1) m_m_isWhat 7 [some (.ref 65), some (.int a1), some (.int a2)] [.int x1, .ref 65] (Hp S2) (QI Q)
  refine wp_st (pc' := 8) (L' := [some (.ref 65), some (.int a1), some (.int a2)]) (st' := [.int 1, .int x1, .ref 65]) (h' := Hp S2) 1 (fun Z => rfl) ?_
  refine wp_call (pc' := 11) (rest := []) (fun Z => rfl) (isO_of sh65) hw ?_
  rintro o h1 ⟨x3, S4, rfl, rfl, hw⟩
  refine ⟨_, rfl, ?_⟩
  show wp E (d + 1) m_m_isWhat 11 [some (.ref 65), some (.int a1), some (.int a2)] [.int x3] (Hp S4) (QI Q)
  obtain ⟨hz, hw⟩ := hw
  refine wp_ret (h' := Hp S4) (o := .inl (some (.int x3))) (fun Z => ?_) ⟨_, _, rfl, rfl, hw⟩
  show (bif zfr _ _ then _ else none) = _
  rcases hz with hz | hz <;> rw [hz] <;> rfl
set_option maxRecDepth 4000 in
theorem w_m_ballFor {E : zX} {d : Nat} {S : St} {a1 : Nat} {a2 : Nat} {Q : Int32 → St → Prop} (hd : 1 ≤ d) 
    (hw : k_m_ballFor_5 E d S a1 a2 (-1) 0 Q) :
    k_m_ballFor E d S (nI a1) (nI a2) Q := by
  obtain ⟨d, rfl⟩ := Nat.exists_eq_add_of_le' hd
  show wp E (d + 1) m_m_ballFor 0 [some (.ref 65), some (.int (nI a1)), some (.int (nI a2)), none, none] [] (Hp S) (QI Q)
  refine wp_st (pc' := 1) (L' := [some (.ref 65), some (.int (nI a1)), some (.int (nI a2)), none, none]) (st' := [.int (-1)]) (h' := Hp S) 1 (fun Z => congrArg (fun v => Z (d + 1) m_m_ballFor 1 [some (.ref 65), some (.int (nI a1)), some (.int (nI a2)), none, none] [.int v] (Hp S)) (show Int32.ofInt (-1) = (-1) by decide)) ?_
  exact wp_st 3 (fun Z => rfl) (show wp E (d + 1) m_m_ballFor 5 [some (.ref 65), some (.int (nI a1)), some (.int (nI a2)), some (.int (-1)), some (.int 0)] [] (Hp S) (QI Q) from hw)
set_option maxRecDepth 4000 in
theorem w_m_ballFor_5 {E : zX} {d : Nat} {S : St} {a1 : Nat} {a2 : Nat} {a3 : Int32} {a4 : Nat} {Q : Int32 → St → Prop} (hd : 1 ≤ d) 
    (hw : if (S 65 4) ≤ (nI a4) then (
      Q a3 S)
    else (
      k_m_isWhite E (d - 1) S (nI a1) (nI a4) (fun x1 S2 =>
      if x1 = 0 then (
        k_m_ballFor_5 E d S2 a1 a2 a3 (a4 + 1) Q)
      else (
        a4 < 10 ∧
        ((a1 + 1) + a2) < 158 ∧
        if (S2 77 ((a1 + 1) + a2)) ≤ (S2 67 a4) then (
          if a3 = (-1) then (
            k_m_ballFor_5 E d S2 a1 a2 (nI a4) (a4 + 1) Q)
          else (
            ((a1 + 29) + a4) < 158 ∧
            a2 < 7 ∧
            k_m_farOf E (d - 1) S2 (S2 77 ((a1 + 29) + a4)) (S2 66 a2) (fun x3 S4 =>
            ∃ m5 : Nat, ((nI (a1 + 29)) + a3) = nI m5 ∧ m5 < 158 ∧
            a2 < 7 ∧
            k_m_farOf E (d - 1) S4 (S4 77 m5) (S4 66 a2) (fun x6 S7 =>
            if x6 ≤ x3 then (
              k_m_ballFor_5 E d S7 a1 a2 a3 (a4 + 1) Q)
            else (
              k_m_ballFor_5 E d S7 a1 a2 (nI a4) (a4 + 1) Q)))))
        else (
          k_m_ballFor_5 E d S2 a1 a2 a3 (a4 + 1) Q))))) :
    k_m_ballFor_5 E d S a1 a2 a3 a4 Q := by
  obtain ⟨d, rfl⟩ := Nat.exists_eq_add_of_le' hd
  show wp E (d + 1) m_m_ballFor 5 [some (.ref 65), some (.int (nI a1)), some (.int (nI a2)), some (.int a3), some (.int (nI a4))] [] (Hp S) (QI Q)
  refine wp_st (pc' := 8) (L' := [some (.ref 65), some (.int (nI a1)), some (.int (nI a2)), some (.int a3), some (.int (nI a4))]) (st' := [.ref 65, .int (nI a4)]) (h' := Hp S) 2 (fun Z => rfl) ?_
  refine wp_st (pc' := 11) (L' := [some (.ref 65), some (.int (nI a1)), some (.int (nI a2)), some (.int a3), some (.int (nI a4))]) (st' := [.int (S 65 4), .int (nI a4)]) (h' := Hp S) 1 (fun Z => gfI (E := E) sh65 rfl _) ?_
  by_cases hc : (S 65 4) ≤ (nI a4)
  · rw [if_pos hc] at hw
    refine wp_st (pc' := 107) (L' := [some (.ref 65), some (.int (nI a1)), some (.int (nI a2)), some (.int a3), some (.int (nI a4))]) (st' := []) (h' := Hp S) 1 (fun Z => if_pos hc) ?_
    refine wp_st (pc' := 108) (L' := [some (.ref 65), some (.int (nI a1)), some (.int (nI a2)), some (.int a3), some (.int (nI a4))]) (st' := [.int a3]) (h' := Hp S) 1 (fun Z => rfl) ?_
    exact wp_ret (fun Z => rfl) ⟨_, _, rfl, rfl, hw⟩
  · rw [if_neg hc] at hw
    refine wp_st (pc' := 14) (L' := [some (.ref 65), some (.int (nI a1)), some (.int (nI a2)), some (.int a3), some (.int (nI a4))]) (st' := []) (h' := Hp S) 1 (fun Z => if_neg hc) ?_
    refine wp_st (pc' := 18) (L' := [some (.ref 65), some (.int (nI a1)), some (.int (nI a2)), some (.int a3), some (.int (nI a4))]) (st' := [.int (nI a4), .int (nI a1), .ref 65]) (h' := Hp S) 3 (fun Z => rfl) ?_
    refine wp_call (pc' := 21) (rest := []) (fun Z => rfl) (isO_of sh65) hw ?_
    rintro o h1 ⟨x1, S2, rfl, rfl, hw⟩
    refine ⟨_, rfl, ?_⟩
    show wp E (d + 1) m_m_ballFor 21 [some (.ref 65), some (.int (nI a1)), some (.int (nI a2)), some (.int a3), some (.int (nI a4))] [.int x1] (Hp S2) (QI Q)
    by_cases hc : x1 = 0
    · rw [if_pos hc] at hw
      refine wp_st (pc' := 101) (L' := [some (.ref 65), some (.int (nI a1)), some (.int (nI a2)), some (.int a3), some (.int (nI a4))]) (st' := []) (h' := Hp S2) 1 (fun Z => if_pos hc) ?_
      refine wp_st (pc' := 104) (L' := [some (.ref 65), some (.int (nI a1)), some (.int (nI a2)), some (.int a3), some (.int (nI (a4 + 1)))]) (st' := []) (h' := Hp S2) 1 (fun Z => by rw [← nI_add a4 1]; rfl) ?_
      exact wp_st 1 (fun Z => rfl) (show wp E (d + 1) m_m_ballFor 5 [some (.ref 65), some (.int (nI a1)), some (.int (nI a2)), some (.int a3), some (.int (nI (a4 + 1)))] [] (Hp S2) (QI Q) from hw)
    · rw [if_neg hc] at hw
      refine wp_st (pc' := 24) (L' := [some (.ref 65), some (.int (nI a1)), some (.int (nI a2)), some (.int a3), some (.int (nI a4))]) (st' := []) (h' := Hp S2) 1 (fun Z => if_neg hc) ?_
      refine wp_st (pc' := 25) (L' := [some (.ref 65), some (.int (nI a1)), some (.int (nI a2)), some (.int a3), some (.int (nI a4))]) (st' := [.ref 65]) (h' := Hp S2) 1 (fun Z => rfl) ?_
      refine wp_st (pc' := 28) (L' := [some (.ref 65), some (.int (nI a1)), some (.int (nI a2)), some (.int a3), some (.int (nI a4))]) (st' := [.ref 67]) (h' := Hp S2) 1 (fun Z => gfR (E := E) sh65 rfl _) ?_
      refine wp_st (pc' := 30) (L' := [some (.ref 65), some (.int (nI a1)), some (.int (nI a2)), some (.int a3), some (.int (nI a4))]) (st' := [.int (nI a4), .ref 67]) (h' := Hp S2) 1 (fun Z => rfl) ?_
      obtain ⟨hi, hw⟩ := hw
      refine wp_st (pc' := 31) (L' := [some (.ref 65), some (.int (nI a1)), some (.int (nI a2)), some (.int a3), some (.int (nI a4))]) (st' := [.int (S2 67 a4)]) (h' := Hp S2) 1 (fun Z => ldN (E := E) sh67 (by decide) hi [] (fun st => Z (d + 1) m_m_ballFor 31 [some (.ref 65), some (.int (nI a1)), some (.int (nI a2)), some (.int a3), some (.int (nI a4))] st (Hp S2))) ?_
      refine wp_st (pc' := 32) (L' := [some (.ref 65), some (.int (nI a1)), some (.int (nI a2)), some (.int a3), some (.int (nI a4))]) (st' := [.ref 65, .int (S2 67 a4)]) (h' := Hp S2) 1 (fun Z => rfl) ?_
      refine wp_st (pc' := 35) (L' := [some (.ref 65), some (.int (nI a1)), some (.int (nI a2)), some (.int a3), some (.int (nI a4))]) (st' := [.ref 77, .int (S2 67 a4)]) (h' := Hp S2) 1 (fun Z => gfR (E := E) sh65 rfl _) ?_
      refine wp_st (pc' := 37) (L' := [some (.ref 65), some (.int (nI a1)), some (.int (nI a2)), some (.int a3), some (.int (nI a4))]) (st' := [.int 1, .int (nI a1), .ref 77, .int (S2 67 a4)]) (h' := Hp S2) 2 (fun Z => rfl) ?_
      refine wp_st (pc' := 38) (L' := [some (.ref 65), some (.int (nI a1)), some (.int (nI a2)), some (.int a3), some (.int (nI a4))]) (st' := [.int (nI (a1 + 1)), .ref 77, .int (S2 67 a4)]) (h' := Hp S2) 1 (fun Z => by rw [← nI_add a1 1]; rfl) ?_
      refine wp_st (pc' := 39) (L' := [some (.ref 65), some (.int (nI a1)), some (.int (nI a2)), some (.int a3), some (.int (nI a4))]) (st' := [.int (nI a2), .int (nI (a1 + 1)), .ref 77, .int (S2 67 a4)]) (h' := Hp S2) 1 (fun Z => rfl) ?_
      refine wp_st (pc' := 40) (L' := [some (.ref 65), some (.int (nI a1)), some (.int (nI a2)), some (.int a3), some (.int (nI a4))]) (st' := [.int (nI ((a1 + 1) + a2)), .ref 77, .int (S2 67 a4)]) (h' := Hp S2) 1 (fun Z => by rw [← nI_add (a1 + 1) a2]; rfl) ?_
      obtain ⟨hi, hw⟩ := hw
      refine wp_st (pc' := 41) (L' := [some (.ref 65), some (.int (nI a1)), some (.int (nI a2)), some (.int a3), some (.int (nI a4))]) (st' := [.int (S2 77 ((a1 + 1) + a2)), .int (S2 67 a4)]) (h' := Hp S2) 1 (fun Z => ldN (E := E) sh77 (by decide) hi [.int (S2 67 a4)] (fun st => Z (d + 1) m_m_ballFor 41 [some (.ref 65), some (.int (nI a1)), some (.int (nI a2)), some (.int a3), some (.int (nI a4))] st (Hp S2))) ?_
      by_cases hc : (S2 77 ((a1 + 1) + a2)) ≤ (S2 67 a4)
      · rw [if_pos hc] at hw
        refine wp_st (pc' := 47) (L' := [some (.ref 65), some (.int (nI a1)), some (.int (nI a2)), some (.int a3), some (.int (nI a4))]) (st' := []) (h' := Hp S2) 1 (fun Z => if_pos hc) ?_
        refine wp_st (pc' := 48) (L' := [some (.ref 65), some (.int (nI a1)), some (.int (nI a2)), some (.int a3), some (.int (nI a4))]) (st' := [.int a3]) (h' := Hp S2) 1 (fun Z => rfl) ?_
        refine wp_st (pc' := 49) (L' := [some (.ref 65), some (.int (nI a1)), some (.int (nI a2)), some (.int a3), some (.int (nI a4))]) (st' := [.int (-1), .int a3]) (h' := Hp S2) 1 (fun Z => congrArg (fun v => Z (d + 1) m_m_ballFor 49 [some (.ref 65), some (.int (nI a1)), some (.int (nI a2)), some (.int a3), some (.int (nI a4))] [.int v, .int a3] (Hp S2)) (show Int32.ofInt (-1) = (-1) by decide)) ?_
        by_cases hc : a3 = (-1)
        · rw [if_pos hc] at hw
          refine wp_st (pc' := 98) (L' := [some (.ref 65), some (.int (nI a1)), some (.int (nI a2)), some (.int a3), some (.int (nI a4))]) (st' := []) (h' := Hp S2) 1 (fun Z => if_pos hc) ?_
          refine wp_st (pc' := 101) (L' := [some (.ref 65), some (.int (nI a1)), some (.int (nI a2)), some (.int (nI a4)), some (.int (nI a4))]) (st' := []) (h' := Hp S2) 2 (fun Z => rfl) ?_
          refine wp_st (pc' := 104) (L' := [some (.ref 65), some (.int (nI a1)), some (.int (nI a2)), some (.int (nI a4)), some (.int (nI (a4 + 1)))]) (st' := []) (h' := Hp S2) 1 (fun Z => by rw [← nI_add a4 1]; rfl) ?_
          exact wp_st 1 (fun Z => rfl) (show wp E (d + 1) m_m_ballFor 5 [some (.ref 65), some (.int (nI a1)), some (.int (nI a2)), some (.int (nI a4)), some (.int (nI (a4 + 1)))] [] (Hp S2) (QI Q) from hw)
        · rw [if_neg hc] at hw
          refine wp_st (pc' := 52) (L' := [some (.ref 65), some (.int (nI a1)), some (.int (nI a2)), some (.int a3), some (.int (nI a4))]) (st' := []) (h' := Hp S2) 1 (fun Z => if_neg hc) ?_
          refine wp_st (pc' := 54) (L' := [some (.ref 65), some (.int (nI a1)), some (.int (nI a2)), some (.int a3), some (.int (nI a4))]) (st' := [.ref 65, .ref 65]) (h' := Hp S2) 2 (fun Z => rfl) ?_
          refine wp_st (pc' := 57) (L' := [some (.ref 65), some (.int (nI a1)), some (.int (nI a2)), some (.int a3), some (.int (nI a4))]) (st' := [.ref 77, .ref 65]) (h' := Hp S2) 1 (fun Z => gfR (E := E) sh65 rfl _) ?_
          refine wp_st (pc' := 60) (L' := [some (.ref 65), some (.int (nI a1)), some (.int (nI a2)), some (.int a3), some (.int (nI a4))]) (st' := [.int 29, .int (nI a1), .ref 77, .ref 65]) (h' := Hp S2) 2 (fun Z => rfl) ?_
          refine wp_st (pc' := 61) (L' := [some (.ref 65), some (.int (nI a1)), some (.int (nI a2)), some (.int a3), some (.int (nI a4))]) (st' := [.int (nI (a1 + 29)), .ref 77, .ref 65]) (h' := Hp S2) 1 (fun Z => by rw [← nI_add a1 29]; rfl) ?_
          refine wp_st (pc' := 63) (L' := [some (.ref 65), some (.int (nI a1)), some (.int (nI a2)), some (.int a3), some (.int (nI a4))]) (st' := [.int (nI a4), .int (nI (a1 + 29)), .ref 77, .ref 65]) (h' := Hp S2) 1 (fun Z => rfl) ?_
          refine wp_st (pc' := 64) (L' := [some (.ref 65), some (.int (nI a1)), some (.int (nI a2)), some (.int a3), some (.int (nI a4))]) (st' := [.int (nI ((a1 + 29) + a4)), .ref 77, .ref 65]) (h' := Hp S2) 1 (fun Z => by rw [← nI_add (a1 + 29) a4]; rfl) ?_
          obtain ⟨hi, hw⟩ := hw
          refine wp_st (pc' := 65) (L' := [some (.ref 65), some (.int (nI a1)), some (.int (nI a2)), some (.int a3), some (.int (nI a4))]) (st' := [.int (S2 77 ((a1 + 29) + a4)), .ref 65]) (h' := Hp S2) 1 (fun Z => ldN (E := E) sh77 (by decide) hi [.ref 65] (fun st => Z (d + 1) m_m_ballFor 65 [some (.ref 65), some (.int (nI a1)), some (.int (nI a2)), some (.int a3), some (.int (nI a4))] st (Hp S2))) ?_
          refine wp_st (pc' := 66) (L' := [some (.ref 65), some (.int (nI a1)), some (.int (nI a2)), some (.int a3), some (.int (nI a4))]) (st' := [.ref 65, .int (S2 77 ((a1 + 29) + a4)), .ref 65]) (h' := Hp S2) 1 (fun Z => rfl) ?_
          refine wp_st (pc' := 69) (L' := [some (.ref 65), some (.int (nI a1)), some (.int (nI a2)), some (.int a3), some (.int (nI a4))]) (st' := [.ref 66, .int (S2 77 ((a1 + 29) + a4)), .ref 65]) (h' := Hp S2) 1 (fun Z => gfR (E := E) sh65 rfl _) ?_
          refine wp_st (pc' := 70) (L' := [some (.ref 65), some (.int (nI a1)), some (.int (nI a2)), some (.int a3), some (.int (nI a4))]) (st' := [.int (nI a2), .ref 66, .int (S2 77 ((a1 + 29) + a4)), .ref 65]) (h' := Hp S2) 1 (fun Z => rfl) ?_
          obtain ⟨hi, hw⟩ := hw
          refine wp_st (pc' := 71) (L' := [some (.ref 65), some (.int (nI a1)), some (.int (nI a2)), some (.int a3), some (.int (nI a4))]) (st' := [.int (S2 66 a2), .int (S2 77 ((a1 + 29) + a4)), .ref 65]) (h' := Hp S2) 1 (fun Z => ldN (E := E) sh66 (by decide) hi [.int (S2 77 ((a1 + 29) + a4)), .ref 65] (fun st => Z (d + 1) m_m_ballFor 71 [some (.ref 65), some (.int (nI a1)), some (.int (nI a2)), some (.int a3), some (.int (nI a4))] st (Hp S2))) ?_
          refine wp_call (pc' := 74) (rest := []) (fun Z => rfl) (isO_of sh65) hw ?_
          rintro o h1 ⟨x3, S4, rfl, rfl, hw⟩
          refine ⟨_, rfl, ?_⟩
          show wp E (d + 1) m_m_ballFor 74 [some (.ref 65), some (.int (nI a1)), some (.int (nI a2)), some (.int a3), some (.int (nI a4))] [.int x3] (Hp S4) (QI Q)
          refine wp_st (pc' := 76) (L' := [some (.ref 65), some (.int (nI a1)), some (.int (nI a2)), some (.int a3), some (.int (nI a4))]) (st' := [.ref 65, .ref 65, .int x3]) (h' := Hp S4) 2 (fun Z => rfl) ?_
          refine wp_st (pc' := 79) (L' := [some (.ref 65), some (.int (nI a1)), some (.int (nI a2)), some (.int a3), some (.int (nI a4))]) (st' := [.ref 77, .ref 65, .int x3]) (h' := Hp S4) 1 (fun Z => gfR (E := E) sh65 rfl _) ?_
          refine wp_st (pc' := 82) (L' := [some (.ref 65), some (.int (nI a1)), some (.int (nI a2)), some (.int a3), some (.int (nI a4))]) (st' := [.int 29, .int (nI a1), .ref 77, .ref 65, .int x3]) (h' := Hp S4) 2 (fun Z => rfl) ?_
          refine wp_st (pc' := 83) (L' := [some (.ref 65), some (.int (nI a1)), some (.int (nI a2)), some (.int a3), some (.int (nI a4))]) (st' := [.int (nI (a1 + 29)), .ref 77, .ref 65, .int x3]) (h' := Hp S4) 1 (fun Z => by rw [← nI_add a1 29]; rfl) ?_
          refine wp_st (pc' := 85) (L' := [some (.ref 65), some (.int (nI a1)), some (.int (nI a2)), some (.int a3), some (.int (nI a4))]) (st' := [.int ((nI (a1 + 29)) + a3), .ref 77, .ref 65, .int x3]) (h' := Hp S4) 2 (fun Z => rfl) ?_
          obtain ⟨m5, em, hi, hw⟩ := hw
          refine wp_st (pc' := 86) (L' := [some (.ref 65), some (.int (nI a1)), some (.int (nI a2)), some (.int a3), some (.int (nI a4))]) (st' := [.int (S4 77 m5), .ref 65, .int x3]) (h' := Hp S4) 1 (fun Z => (congrArg (fun v => zit E 1 Z (d + 1) m_m_ballFor 85 [some (.ref 65), some (.int (nI a1)), some (.int (nI a2)), some (.int a3), some (.int (nI a4))] [.int v, .ref 77, .ref 65, .int x3] (Hp S4)) em).trans (ldN (E := E) sh77 (by decide) hi [.ref 65, .int x3] (fun st => Z (d + 1) m_m_ballFor 86 [some (.ref 65), some (.int (nI a1)), some (.int (nI a2)), some (.int a3), some (.int (nI a4))] st (Hp S4)))) ?_
          refine wp_st (pc' := 87) (L' := [some (.ref 65), some (.int (nI a1)), some (.int (nI a2)), some (.int a3), some (.int (nI a4))]) (st' := [.ref 65, .int (S4 77 m5), .ref 65, .int x3]) (h' := Hp S4) 1 (fun Z => rfl) ?_
          refine wp_st (pc' := 90) (L' := [some (.ref 65), some (.int (nI a1)), some (.int (nI a2)), some (.int a3), some (.int (nI a4))]) (st' := [.ref 66, .int (S4 77 m5), .ref 65, .int x3]) (h' := Hp S4) 1 (fun Z => gfR (E := E) sh65 rfl _) ?_
          refine wp_st (pc' := 91) (L' := [some (.ref 65), some (.int (nI a1)), some (.int (nI a2)), some (.int a3), some (.int (nI a4))]) (st' := [.int (nI a2), .ref 66, .int (S4 77 m5), .ref 65, .int x3]) (h' := Hp S4) 1 (fun Z => rfl) ?_
          obtain ⟨hi, hw⟩ := hw
          refine wp_st (pc' := 92) (L' := [some (.ref 65), some (.int (nI a1)), some (.int (nI a2)), some (.int a3), some (.int (nI a4))]) (st' := [.int (S4 66 a2), .int (S4 77 m5), .ref 65, .int x3]) (h' := Hp S4) 1 (fun Z => ldN (E := E) sh66 (by decide) hi [.int (S4 77 m5), .ref 65, .int x3] (fun st => Z (d + 1) m_m_ballFor 92 [some (.ref 65), some (.int (nI a1)), some (.int (nI a2)), some (.int a3), some (.int (nI a4))] st (Hp S4))) ?_
          refine wp_call (pc' := 95) (rest := [.int x3]) (fun Z => rfl) (isO_of sh65) hw ?_
          rintro o h1 ⟨x6, S7, rfl, rfl, hw⟩
          refine ⟨_, rfl, ?_⟩
          show wp E (d + 1) m_m_ballFor 95 [some (.ref 65), some (.int (nI a1)), some (.int (nI a2)), some (.int a3), some (.int (nI a4))] [.int x6, .int x3] (Hp S7) (QI Q)
          by_cases hc : x6 ≤ x3
          · rw [if_pos hc] at hw
            refine wp_st (pc' := 101) (L' := [some (.ref 65), some (.int (nI a1)), some (.int (nI a2)), some (.int a3), some (.int (nI a4))]) (st' := []) (h' := Hp S7) 1 (fun Z => if_pos hc) ?_
            refine wp_st (pc' := 104) (L' := [some (.ref 65), some (.int (nI a1)), some (.int (nI a2)), some (.int a3), some (.int (nI (a4 + 1)))]) (st' := []) (h' := Hp S7) 1 (fun Z => by rw [← nI_add a4 1]; rfl) ?_
            exact wp_st 1 (fun Z => rfl) (show wp E (d + 1) m_m_ballFor 5 [some (.ref 65), some (.int (nI a1)), some (.int (nI a2)), some (.int a3), some (.int (nI (a4 + 1)))] [] (Hp S7) (QI Q) from hw)
          · rw [if_neg hc] at hw
            refine wp_st (pc' := 98) (L' := [some (.ref 65), some (.int (nI a1)), some (.int (nI a2)), some (.int a3), some (.int (nI a4))]) (st' := []) (h' := Hp S7) 1 (fun Z => if_neg hc) ?_
            refine wp_st (pc' := 101) (L' := [some (.ref 65), some (.int (nI a1)), some (.int (nI a2)), some (.int (nI a4)), some (.int (nI a4))]) (st' := []) (h' := Hp S7) 2 (fun Z => rfl) ?_
            refine wp_st (pc' := 104) (L' := [some (.ref 65), some (.int (nI a1)), some (.int (nI a2)), some (.int (nI a4)), some (.int (nI (a4 + 1)))]) (st' := []) (h' := Hp S7) 1 (fun Z => by rw [← nI_add a4 1]; rfl) ?_
            exact wp_st 1 (fun Z => rfl) (show wp E (d + 1) m_m_ballFor 5 [some (.ref 65), some (.int (nI a1)), some (.int (nI a2)), some (.int (nI a4)), some (.int (nI (a4 + 1)))] [] (Hp S7) (QI Q) from hw)
      · rw [if_neg hc] at hw
        refine wp_st (pc' := 44) (L' := [some (.ref 65), some (.int (nI a1)), some (.int (nI a2)), some (.int a3), some (.int (nI a4))]) (st' := []) (h' := Hp S2) 1 (fun Z => if_neg hc) ?_
        refine wp_st (pc' := 101) (L' := [some (.ref 65), some (.int (nI a1)), some (.int (nI a2)), some (.int a3), some (.int (nI a4))]) (st' := []) (h' := Hp S2) 1 (fun Z => rfl) ?_
        refine wp_st (pc' := 104) (L' := [some (.ref 65), some (.int (nI a1)), some (.int (nI a2)), some (.int a3), some (.int (nI (a4 + 1)))]) (st' := []) (h' := Hp S2) 1 (fun Z => by rw [← nI_add a4 1]; rfl) ?_
        exact wp_st 1 (fun Z => rfl) (show wp E (d + 1) m_m_ballFor 5 [some (.ref 65), some (.int (nI a1)), some (.int (nI a2)), some (.int a3), some (.int (nI (a4 + 1)))] [] (Hp S2) (QI Q) from hw)
set_option maxRecDepth 4000 in
theorem w_m_ball {E : zX} {d : Nat} {S : St} {a1 : Int32} {a2 : Int32} {Q : Int32 → St → Prop} (hd : 1 ≤ d) 
    (hw : ∀ S1, S1 = up S 65 0 0 →
    k_m_isBall E (d - 1) S1 a1 (fun x2 S3 =>
    if x2 = 0 then (
      Q (0 : Int32) S3)
    else (
      k_m_isWhat E (d - 1) S3 a2 7 (fun x4 S5 =>
      if x4 = 0 then (
        Q (0 : Int32) S5)
      else (
        if a2 = 0 then (
          ∃ m6 : Nat, ((29 : Int32) + a1) = nI m6 ∧ m6 < 158 ∧
          Q (S5 77 m6) S5)
        else if a2 = 1 then (
          ∃ m7 : Nat, a1 = nI m7 ∧ m7 < 10 ∧
          Q (S5 67 m7) S5)
        else if a2 = 2 then (
          ∃ m8 : Nat, ((39 : Int32) + a1) = nI m8 ∧ m8 < 158 ∧
          Q (S5 77 m8) S5)
        else if a2 = 3 then (
          ∃ m9 : Nat, ((49 : Int32) + a1) = nI m9 ∧ m9 < 158 ∧
          Q (S5 77 m9) S5)
        else if a2 = 4 then (
          ∃ m10 : Nat, ((59 : Int32) + a1) = nI m10 ∧ m10 < 158 ∧
          Q (S5 77 m10) S5)
        else if a2 = 5 then (
          ∃ m11 : Nat, ((69 : Int32) + a1) = nI m11 ∧ m11 < 158 ∧
          Q (S5 77 m11) S5)
        else if a2 = 6 then (
          k_m_setOffBy E (d - 1) S5 a1 (fun x12 S13 =>
          Q x12 S13))
        else (
          k_m_setOffBy E (d - 1) S5 a1 (fun x14 S15 =>
        k_m_hearers E (d - 1) S15 x14 (fun x16 S17 =>
        Q x16 S17)))))))) :
    k_m_ball E d S a1 a2 Q := by
  obtain ⟨d, rfl⟩ := Nat.exists_eq_add_of_le' hd
  show wp E (d + 1) m_m_ball 0 [some (.ref 65), some (.int a1), some (.int a2)] [] (Hp S) (QI Q)
  refine wp_st (pc' := 2) (L' := [some (.ref 65), some (.int a1), some (.int a2)]) (st' := [.int 0, .ref 65]) (h' := Hp S) 2 (fun Z => rfl) ?_
  have hw := hw _ rfl
  refine wp_st (pc' := 5) (L' := [some (.ref 65), some (.int a1), some (.int a2)]) (st' := []) (h' := Hp (up S 65 0 0)) 1 (fun Z => pfI sh65 rfl (Nat.le_of_ble_eq_true rfl) rfl _) ?_
  generalize up S 65 0 0 = S1 at hw ⊢
  refine wp_st (pc' := 7) (L' := [some (.ref 65), some (.int a1), some (.int a2)]) (st' := [.int a1, .ref 65]) (h' := Hp S1) 2 (fun Z => rfl) ?_
  refine wp_call (pc' := 10) (rest := []) (fun Z => rfl) (isO_of sh65) hw ?_
  rintro o h1 ⟨x2, S3, rfl, rfl, hw⟩
  refine ⟨_, rfl, ?_⟩
  show wp E (d + 1) m_m_ball 10 [some (.ref 65), some (.int a1), some (.int a2)] [.int x2] (Hp S3) (QI Q)
  by_cases hc : x2 = 0
  · rw [if_pos hc] at hw
    refine wp_st (pc' := 23) (L' := [some (.ref 65), some (.int a1), some (.int a2)]) (st' := []) (h' := Hp S3) 1 (fun Z => if_pos hc) ?_
    refine wp_st (pc' := 24) (L' := [some (.ref 65), some (.int a1), some (.int a2)]) (st' := [.int 0]) (h' := Hp S3) 1 (fun Z => rfl) ?_
    exact wp_ret (fun Z => rfl) ⟨_, _, rfl, rfl, hw⟩
  · rw [if_neg hc] at hw
    refine wp_st (pc' := 13) (L' := [some (.ref 65), some (.int a1), some (.int a2)]) (st' := []) (h' := Hp S3) 1 (fun Z => if_neg hc) ?_
    refine wp_st (pc' := 17) (L' := [some (.ref 65), some (.int a1), some (.int a2)]) (st' := [.int 7, .int a2, .ref 65]) (h' := Hp S3) 3 (fun Z => rfl) ?_
    refine wp_call (pc' := 20) (rest := []) (fun Z => rfl) (isO_of sh65) hw ?_
    rintro o h1 ⟨x4, S5, rfl, rfl, hw⟩
    refine ⟨_, rfl, ?_⟩
    show wp E (d + 1) m_m_ball 20 [some (.ref 65), some (.int a1), some (.int a2)] [.int x4] (Hp S5) (QI Q)
    by_cases hc : x4 = 0
    · rw [if_pos hc] at hw
      refine wp_st (pc' := 23) (L' := [some (.ref 65), some (.int a1), some (.int a2)]) (st' := []) (h' := Hp S5) 1 (fun Z => if_pos hc) ?_
      refine wp_st (pc' := 24) (L' := [some (.ref 65), some (.int a1), some (.int a2)]) (st' := [.int 0]) (h' := Hp S5) 1 (fun Z => rfl) ?_
      exact wp_ret (fun Z => rfl) ⟨_, _, rfl, rfl, hw⟩
    · rw [if_neg hc] at hw
      refine wp_st (pc' := 25) (L' := [some (.ref 65), some (.int a1), some (.int a2)]) (st' := []) (h' := Hp S5) 1 (fun Z => if_neg hc) ?_
      refine wp_st (pc' := 26) (L' := [some (.ref 65), some (.int a1), some (.int a2)]) (st' := [.int a2]) (h' := Hp S5) 1 (fun Z => rfl) ?_
      by_cases c0 : a2 = 0
      · rw [if_pos c0] at hw
        refine wp_st (pc' := 68) (L' := [some (.ref 65), some (.int a1), some (.int a2)]) (st' := []) (h' := Hp S5) 1 (fun Z => (show zsw (.tableswitch 105 0 6 #[42, 52, 59, 69, 79, 89, 99]) 26 (.int a2 :: []) (fun t st1 => Z (d + 1) m_m_ball t [some (.ref 65), some (.int a1), some (.int a2)] st1 (Hp S5)) = _ from zsw_at (c := 0) (by rw [c0]; decide) (by decide) rfl rfl)) ?_
        refine wp_st (pc' := 69) (L' := [some (.ref 65), some (.int a1), some (.int a2)]) (st' := [.ref 65]) (h' := Hp S5) 1 (fun Z => rfl) ?_
        refine wp_st (pc' := 72) (L' := [some (.ref 65), some (.int a1), some (.int a2)]) (st' := [.ref 77]) (h' := Hp S5) 1 (fun Z => gfR (E := E) sh65 rfl _) ?_
        refine wp_st (pc' := 76) (L' := [some (.ref 65), some (.int a1), some (.int a2)]) (st' := [.int ((29 : Int32) + a1), .ref 77]) (h' := Hp S5) 3 (fun Z => rfl) ?_
        obtain ⟨m6, em, hi, hw⟩ := hw
        refine wp_st (pc' := 77) (L' := [some (.ref 65), some (.int a1), some (.int a2)]) (st' := [.int (S5 77 m6)]) (h' := Hp S5) 1 (fun Z => (congrArg (fun v => zit E 1 Z (d + 1) m_m_ball 76 [some (.ref 65), some (.int a1), some (.int a2)] [.int v, .ref 77] (Hp S5)) em).trans (ldN (E := E) sh77 (by decide) hi [] (fun st => Z (d + 1) m_m_ball 77 [some (.ref 65), some (.int a1), some (.int a2)] st (Hp S5)))) ?_
        exact wp_ret (fun Z => rfl) ⟨_, _, rfl, rfl, hw⟩
      rw [if_neg c0] at hw
      by_cases c1 : a2 = 1
      · rw [if_pos c1] at hw
        refine wp_st (pc' := 78) (L' := [some (.ref 65), some (.int a1), some (.int a2)]) (st' := []) (h' := Hp S5) 1 (fun Z => (show zsw (.tableswitch 105 0 6 #[42, 52, 59, 69, 79, 89, 99]) 26 (.int a2 :: []) (fun t st1 => Z (d + 1) m_m_ball t [some (.ref 65), some (.int a1), some (.int a2)] st1 (Hp S5)) = _ from zsw_at (c := 1) (by rw [c1]; decide) (by decide) rfl rfl)) ?_
        refine wp_st (pc' := 79) (L' := [some (.ref 65), some (.int a1), some (.int a2)]) (st' := [.ref 65]) (h' := Hp S5) 1 (fun Z => rfl) ?_
        refine wp_st (pc' := 82) (L' := [some (.ref 65), some (.int a1), some (.int a2)]) (st' := [.ref 67]) (h' := Hp S5) 1 (fun Z => gfR (E := E) sh65 rfl _) ?_
        refine wp_st (pc' := 83) (L' := [some (.ref 65), some (.int a1), some (.int a2)]) (st' := [.int a1, .ref 67]) (h' := Hp S5) 1 (fun Z => rfl) ?_
        obtain ⟨m7, em, hi, hw⟩ := hw
        refine wp_st (pc' := 84) (L' := [some (.ref 65), some (.int a1), some (.int a2)]) (st' := [.int (S5 67 m7)]) (h' := Hp S5) 1 (fun Z => (congrArg (fun v => zit E 1 Z (d + 1) m_m_ball 83 [some (.ref 65), some (.int a1), some (.int a2)] [.int v, .ref 67] (Hp S5)) em).trans (ldN (E := E) sh67 (by decide) hi [] (fun st => Z (d + 1) m_m_ball 84 [some (.ref 65), some (.int a1), some (.int a2)] st (Hp S5)))) ?_
        exact wp_ret (fun Z => rfl) ⟨_, _, rfl, rfl, hw⟩
      rw [if_neg c1] at hw
      by_cases c2 : a2 = 2
      · rw [if_pos c2] at hw
        refine wp_st (pc' := 85) (L' := [some (.ref 65), some (.int a1), some (.int a2)]) (st' := []) (h' := Hp S5) 1 (fun Z => (show zsw (.tableswitch 105 0 6 #[42, 52, 59, 69, 79, 89, 99]) 26 (.int a2 :: []) (fun t st1 => Z (d + 1) m_m_ball t [some (.ref 65), some (.int a1), some (.int a2)] st1 (Hp S5)) = _ from zsw_at (c := 2) (by rw [c2]; decide) (by decide) rfl rfl)) ?_
        refine wp_st (pc' := 86) (L' := [some (.ref 65), some (.int a1), some (.int a2)]) (st' := [.ref 65]) (h' := Hp S5) 1 (fun Z => rfl) ?_
        refine wp_st (pc' := 89) (L' := [some (.ref 65), some (.int a1), some (.int a2)]) (st' := [.ref 77]) (h' := Hp S5) 1 (fun Z => gfR (E := E) sh65 rfl _) ?_
        refine wp_st (pc' := 93) (L' := [some (.ref 65), some (.int a1), some (.int a2)]) (st' := [.int ((39 : Int32) + a1), .ref 77]) (h' := Hp S5) 3 (fun Z => rfl) ?_
        obtain ⟨m8, em, hi, hw⟩ := hw
        refine wp_st (pc' := 94) (L' := [some (.ref 65), some (.int a1), some (.int a2)]) (st' := [.int (S5 77 m8)]) (h' := Hp S5) 1 (fun Z => (congrArg (fun v => zit E 1 Z (d + 1) m_m_ball 93 [some (.ref 65), some (.int a1), some (.int a2)] [.int v, .ref 77] (Hp S5)) em).trans (ldN (E := E) sh77 (by decide) hi [] (fun st => Z (d + 1) m_m_ball 94 [some (.ref 65), some (.int a1), some (.int a2)] st (Hp S5)))) ?_
        exact wp_ret (fun Z => rfl) ⟨_, _, rfl, rfl, hw⟩
      rw [if_neg c2] at hw
      by_cases c3 : a2 = 3
      · rw [if_pos c3] at hw
        refine wp_st (pc' := 95) (L' := [some (.ref 65), some (.int a1), some (.int a2)]) (st' := []) (h' := Hp S5) 1 (fun Z => (show zsw (.tableswitch 105 0 6 #[42, 52, 59, 69, 79, 89, 99]) 26 (.int a2 :: []) (fun t st1 => Z (d + 1) m_m_ball t [some (.ref 65), some (.int a1), some (.int a2)] st1 (Hp S5)) = _ from zsw_at (c := 3) (by rw [c3]; decide) (by decide) rfl rfl)) ?_
        refine wp_st (pc' := 96) (L' := [some (.ref 65), some (.int a1), some (.int a2)]) (st' := [.ref 65]) (h' := Hp S5) 1 (fun Z => rfl) ?_
        refine wp_st (pc' := 99) (L' := [some (.ref 65), some (.int a1), some (.int a2)]) (st' := [.ref 77]) (h' := Hp S5) 1 (fun Z => gfR (E := E) sh65 rfl _) ?_
        refine wp_st (pc' := 103) (L' := [some (.ref 65), some (.int a1), some (.int a2)]) (st' := [.int ((49 : Int32) + a1), .ref 77]) (h' := Hp S5) 3 (fun Z => rfl) ?_
        obtain ⟨m9, em, hi, hw⟩ := hw
        refine wp_st (pc' := 104) (L' := [some (.ref 65), some (.int a1), some (.int a2)]) (st' := [.int (S5 77 m9)]) (h' := Hp S5) 1 (fun Z => (congrArg (fun v => zit E 1 Z (d + 1) m_m_ball 103 [some (.ref 65), some (.int a1), some (.int a2)] [.int v, .ref 77] (Hp S5)) em).trans (ldN (E := E) sh77 (by decide) hi [] (fun st => Z (d + 1) m_m_ball 104 [some (.ref 65), some (.int a1), some (.int a2)] st (Hp S5)))) ?_
        exact wp_ret (fun Z => rfl) ⟨_, _, rfl, rfl, hw⟩
      rw [if_neg c3] at hw
      by_cases c4 : a2 = 4
      · rw [if_pos c4] at hw
        refine wp_st (pc' := 105) (L' := [some (.ref 65), some (.int a1), some (.int a2)]) (st' := []) (h' := Hp S5) 1 (fun Z => (show zsw (.tableswitch 105 0 6 #[42, 52, 59, 69, 79, 89, 99]) 26 (.int a2 :: []) (fun t st1 => Z (d + 1) m_m_ball t [some (.ref 65), some (.int a1), some (.int a2)] st1 (Hp S5)) = _ from zsw_at (c := 4) (by rw [c4]; decide) (by decide) rfl rfl)) ?_
        refine wp_st (pc' := 106) (L' := [some (.ref 65), some (.int a1), some (.int a2)]) (st' := [.ref 65]) (h' := Hp S5) 1 (fun Z => rfl) ?_
        refine wp_st (pc' := 109) (L' := [some (.ref 65), some (.int a1), some (.int a2)]) (st' := [.ref 77]) (h' := Hp S5) 1 (fun Z => gfR (E := E) sh65 rfl _) ?_
        refine wp_st (pc' := 113) (L' := [some (.ref 65), some (.int a1), some (.int a2)]) (st' := [.int ((59 : Int32) + a1), .ref 77]) (h' := Hp S5) 3 (fun Z => rfl) ?_
        obtain ⟨m10, em, hi, hw⟩ := hw
        refine wp_st (pc' := 114) (L' := [some (.ref 65), some (.int a1), some (.int a2)]) (st' := [.int (S5 77 m10)]) (h' := Hp S5) 1 (fun Z => (congrArg (fun v => zit E 1 Z (d + 1) m_m_ball 113 [some (.ref 65), some (.int a1), some (.int a2)] [.int v, .ref 77] (Hp S5)) em).trans (ldN (E := E) sh77 (by decide) hi [] (fun st => Z (d + 1) m_m_ball 114 [some (.ref 65), some (.int a1), some (.int a2)] st (Hp S5)))) ?_
        exact wp_ret (fun Z => rfl) ⟨_, _, rfl, rfl, hw⟩
      rw [if_neg c4] at hw
      by_cases c5 : a2 = 5
      · rw [if_pos c5] at hw
        refine wp_st (pc' := 115) (L' := [some (.ref 65), some (.int a1), some (.int a2)]) (st' := []) (h' := Hp S5) 1 (fun Z => (show zsw (.tableswitch 105 0 6 #[42, 52, 59, 69, 79, 89, 99]) 26 (.int a2 :: []) (fun t st1 => Z (d + 1) m_m_ball t [some (.ref 65), some (.int a1), some (.int a2)] st1 (Hp S5)) = _ from zsw_at (c := 5) (by rw [c5]; decide) (by decide) rfl rfl)) ?_
        refine wp_st (pc' := 116) (L' := [some (.ref 65), some (.int a1), some (.int a2)]) (st' := [.ref 65]) (h' := Hp S5) 1 (fun Z => rfl) ?_
        refine wp_st (pc' := 119) (L' := [some (.ref 65), some (.int a1), some (.int a2)]) (st' := [.ref 77]) (h' := Hp S5) 1 (fun Z => gfR (E := E) sh65 rfl _) ?_
        refine wp_st (pc' := 123) (L' := [some (.ref 65), some (.int a1), some (.int a2)]) (st' := [.int ((69 : Int32) + a1), .ref 77]) (h' := Hp S5) 3 (fun Z => rfl) ?_
        obtain ⟨m11, em, hi, hw⟩ := hw
        refine wp_st (pc' := 124) (L' := [some (.ref 65), some (.int a1), some (.int a2)]) (st' := [.int (S5 77 m11)]) (h' := Hp S5) 1 (fun Z => (congrArg (fun v => zit E 1 Z (d + 1) m_m_ball 123 [some (.ref 65), some (.int a1), some (.int a2)] [.int v, .ref 77] (Hp S5)) em).trans (ldN (E := E) sh77 (by decide) hi [] (fun st => Z (d + 1) m_m_ball 124 [some (.ref 65), some (.int a1), some (.int a2)] st (Hp S5)))) ?_
        exact wp_ret (fun Z => rfl) ⟨_, _, rfl, rfl, hw⟩
      rw [if_neg c5] at hw
      by_cases c6 : a2 = 6
      · rw [if_pos c6] at hw
        refine wp_st (pc' := 125) (L' := [some (.ref 65), some (.int a1), some (.int a2)]) (st' := []) (h' := Hp S5) 1 (fun Z => (show zsw (.tableswitch 105 0 6 #[42, 52, 59, 69, 79, 89, 99]) 26 (.int a2 :: []) (fun t st1 => Z (d + 1) m_m_ball t [some (.ref 65), some (.int a1), some (.int a2)] st1 (Hp S5)) = _ from zsw_at (c := 6) (by rw [c6]; decide) (by decide) rfl rfl)) ?_
        refine wp_st (pc' := 127) (L' := [some (.ref 65), some (.int a1), some (.int a2)]) (st' := [.int a1, .ref 65]) (h' := Hp S5) 2 (fun Z => rfl) ?_
        refine wp_call (pc' := 130) (rest := []) (fun Z => rfl) (isO_of sh65) hw ?_
        rintro o h1 ⟨x12, S13, rfl, rfl, hw⟩
        refine ⟨_, rfl, ?_⟩
        show wp E (d + 1) m_m_ball 130 [some (.ref 65), some (.int a1), some (.int a2)] [.int x12] (Hp S13) (QI Q)
        exact wp_ret (fun Z => rfl) ⟨_, _, rfl, rfl, hw⟩
      rw [if_neg c6] at hw
      have hs : (a2).toInt < (0 : Int) ∨ (6 : Int) < (a2).toInt := by
        refine zoutG (n := 7) (by decide) (by decide) (by decide) ?_
        intro k hk
        rcases k with _ | _ | _ | _ | _ | _ | _ | k
        · exact c0
        · exact c1
        · exact c2
        · exact c3
        · exact c4
        · exact c5
        · exact c6
        · omega
      refine wp_st (pc' := 131) (L' := [some (.ref 65), some (.int a1), some (.int a2)]) (st' := []) (h' := Hp S5) 1 (fun Z => (show zsw (.tableswitch 105 0 6 #[42, 52, 59, 69, 79, 89, 99]) 26 (.int a2 :: []) (fun t st1 => Z (d + 1) m_m_ball t [some (.ref 65), some (.int a1), some (.int a2)] st1 (Hp S5)) = _ from zsw_out hs rfl)) ?_
      refine wp_st (pc' := 134) (L' := [some (.ref 65), some (.int a1), some (.int a2)]) (st' := [.int a1, .ref 65, .ref 65]) (h' := Hp S5) 3 (fun Z => rfl) ?_
      refine wp_call (pc' := 137) (rest := [.ref 65]) (fun Z => rfl) (isO_of sh65) hw ?_
      rintro o h1 ⟨x14, S15, rfl, rfl, hw⟩
      refine ⟨_, rfl, ?_⟩
      show wp E (d + 1) m_m_ball 137 [some (.ref 65), some (.int a1), some (.int a2)] [.int x14, .ref 65] (Hp S15) (QI Q)
      refine wp_call (pc' := 140) (rest := []) (fun Z => rfl) (isO_of sh65) hw ?_
      rintro o h1 ⟨x16, S17, rfl, rfl, hw⟩
      refine ⟨_, rfl, ?_⟩
      show wp E (d + 1) m_m_ball 140 [some (.ref 65), some (.int a1), some (.int a2)] [.int x16] (Hp S17) (QI Q)
      exact wp_ret (fun Z => rfl) ⟨_, _, rfl, rfl, hw⟩
set_option maxRecDepth 4000 in
theorem w_m_isBall {E : zX} {d : Nat} {S : St} {a1 : Int32} {Q : Int32 → St → Prop} (hd : 1 ≤ d) 
    (hw : if a1 < 0 then (
      k_m_right E (d - 1) S 0 1 (fun x1 S2 =>
      (x1 = 0 ∨ x1 = 1) ∧ Q x1 S2))
    else (
      if (S 65 4) ≤ a1 then (
        k_m_right E (d - 1) S 0 1 (fun x3 S4 =>
        (x3 = 0 ∨ x3 = 1) ∧ Q x3 S4))
      else (
        k_m_right E (d - 1) S 1 1 (fun x5 S6 =>
        (x5 = 0 ∨ x5 = 1) ∧ Q x5 S6)))) :
    k_m_isBall E d S a1 Q := by
  obtain ⟨d, rfl⟩ := Nat.exists_eq_add_of_le' hd
  show wp E (d + 1) m_m_isBall 0 [some (.ref 65), some (.int a1)] [] (Hp S) (QI Q)
  refine wp_st (pc' := 2) (L' := [some (.ref 65), some (.int a1)]) (st' := [.int a1, .ref 65]) (h' := Hp S) 2 (fun Z => rfl) ?_
  by_cases hc : a1 < 0
  · rw [if_pos hc] at hw
    refine wp_st (pc' := 17) (L' := [some (.ref 65), some (.int a1)]) (st' := [.ref 65]) (h' := Hp S) 1 (fun Z => if_pos hc) ?_
    refine wp_st (pc' := 19) (L' := [some (.ref 65), some (.int a1)]) (st' := [.int 1, .int 0, .ref 65]) (h' := Hp S) 2 (fun Z => rfl) ?_
    refine wp_call (pc' := 22) (rest := []) (fun Z => rfl) (isO_of sh65) hw ?_
    rintro o h1 ⟨x1, S2, rfl, rfl, hw⟩
    refine ⟨_, rfl, ?_⟩
    show wp E (d + 1) m_m_isBall 22 [some (.ref 65), some (.int a1)] [.int x1] (Hp S2) (QI Q)
    obtain ⟨hz, hw⟩ := hw
    refine wp_ret (h' := Hp S2) (o := .inl (some (.int x1))) (fun Z => ?_) ⟨_, _, rfl, rfl, hw⟩
    show (bif zfr _ _ then _ else none) = _
    rcases hz with hz | hz <;> rw [hz] <;> rfl
  · rw [if_neg hc] at hw
    refine wp_st (pc' := 5) (L' := [some (.ref 65), some (.int a1)]) (st' := [.ref 65]) (h' := Hp S) 1 (fun Z => if_neg hc) ?_
    refine wp_st (pc' := 7) (L' := [some (.ref 65), some (.int a1)]) (st' := [.ref 65, .int a1, .ref 65]) (h' := Hp S) 2 (fun Z => rfl) ?_
    refine wp_st (pc' := 10) (L' := [some (.ref 65), some (.int a1)]) (st' := [.int (S 65 4), .int a1, .ref 65]) (h' := Hp S) 1 (fun Z => gfI (E := E) sh65 rfl _) ?_
    by_cases hc : (S 65 4) ≤ a1
    · rw [if_pos hc] at hw
      refine wp_st (pc' := 17) (L' := [some (.ref 65), some (.int a1)]) (st' := [.ref 65]) (h' := Hp S) 1 (fun Z => if_pos hc) ?_
      refine wp_st (pc' := 19) (L' := [some (.ref 65), some (.int a1)]) (st' := [.int 1, .int 0, .ref 65]) (h' := Hp S) 2 (fun Z => rfl) ?_
      refine wp_call (pc' := 22) (rest := []) (fun Z => rfl) (isO_of sh65) hw ?_
      rintro o h1 ⟨x3, S4, rfl, rfl, hw⟩
      refine ⟨_, rfl, ?_⟩
      show wp E (d + 1) m_m_isBall 22 [some (.ref 65), some (.int a1)] [.int x3] (Hp S4) (QI Q)
      obtain ⟨hz, hw⟩ := hw
      refine wp_ret (h' := Hp S4) (o := .inl (some (.int x3))) (fun Z => ?_) ⟨_, _, rfl, rfl, hw⟩
      show (bif zfr _ _ then _ else none) = _
      rcases hz with hz | hz <;> rw [hz] <;> rfl
    · rw [if_neg hc] at hw
      refine wp_st (pc' := 13) (L' := [some (.ref 65), some (.int a1)]) (st' := [.ref 65]) (h' := Hp S) 1 (fun Z => if_neg hc) ?_
      refine wp_st (pc' := 19) (L' := [some (.ref 65), some (.int a1)]) (st' := [.int 1, .int 1, .ref 65]) (h' := Hp S) 3 (fun Z => rfl) ?_
      refine wp_call (pc' := 22) (rest := []) (fun Z => rfl) (isO_of sh65) hw ?_
      rintro o h1 ⟨x5, S6, rfl, rfl, hw⟩
      refine ⟨_, rfl, ?_⟩
      show wp E (d + 1) m_m_isBall 22 [some (.ref 65), some (.int a1)] [.int x5] (Hp S6) (QI Q)
      obtain ⟨hz, hw⟩ := hw
      refine wp_ret (h' := Hp S6) (o := .inl (some (.int x5))) (fun Z => ?_) ⟨_, _, rfl, rfl, hw⟩
      show (bif zfr _ _ then _ else none) = _
      rcases hz with hz | hz <;> rw [hz] <;> rfl
set_option maxRecDepth 4000 in
theorem w_m_hearers {E : zX} {d : Nat} {S : St} {a1 : Int32} {Q : Int32 → St → Prop} (hd : 1 ≤ d) 
    (hw : k_m_hearers_4 E d S a1 0 0 Q) :
    k_m_hearers E d S a1 Q := by
  obtain ⟨d, rfl⟩ := Nat.exists_eq_add_of_le' hd
  show wp E (d + 1) m_m_hearers 0 [some (.ref 65), some (.int a1), none, none, none] [] (Hp S) (QI Q)
  exact wp_st 4 (fun Z => rfl) (show wp E (d + 1) m_m_hearers 4 [some (.ref 65), some (.int a1), some (.int 0), some (.int 0), none] [] (Hp S) (QI Q) from (hw none))
set_option maxRecDepth 4000 in
theorem w_m_hearers_4 {E : zX} {d : Nat} {S : St} {a1 : Int32} {a2 : Int32} {a3 : Nat} {Q : Int32 → St → Prop} (hd : 1 ≤ d) 
    (hw : if (S 65 3) ≤ (nI a3) then (
      Q a2 S)
    else (
      k_m_hearers_15 E d S a1 a2 a3 0 Q)) :
    k_m_hearers_4 E d S a1 a2 a3 Q := by
  obtain ⟨d, rfl⟩ := Nat.exists_eq_add_of_le' hd
  intro j4
  show wp E (d + 1) m_m_hearers 4 [some (.ref 65), some (.int a1), some (.int a2), some (.int (nI a3)), j4] [] (Hp S) (QI Q)
  refine wp_st (pc' := 6) (L' := [some (.ref 65), some (.int a1), some (.int a2), some (.int (nI a3)), j4]) (st' := [.ref 65, .int (nI a3)]) (h' := Hp S) 2 (fun Z => rfl) ?_
  refine wp_st (pc' := 9) (L' := [some (.ref 65), some (.int a1), some (.int a2), some (.int (nI a3)), j4]) (st' := [.int (S 65 3), .int (nI a3)]) (h' := Hp S) 1 (fun Z => gfI (E := E) sh65 rfl _) ?_
  by_cases hc : (S 65 3) ≤ (nI a3)
  · rw [if_pos hc] at hw
    refine wp_st (pc' := 72) (L' := [some (.ref 65), some (.int a1), some (.int a2), some (.int (nI a3)), j4]) (st' := []) (h' := Hp S) 1 (fun Z => if_pos hc) ?_
    refine wp_st (pc' := 73) (L' := [some (.ref 65), some (.int a1), some (.int a2), some (.int (nI a3)), j4]) (st' := [.int a2]) (h' := Hp S) 1 (fun Z => rfl) ?_
    exact wp_ret (fun Z => rfl) ⟨_, _, rfl, rfl, hw⟩
  · rw [if_neg hc] at hw
    refine wp_st (pc' := 12) (L' := [some (.ref 65), some (.int a1), some (.int a2), some (.int (nI a3)), j4]) (st' := []) (h' := Hp S) 1 (fun Z => if_neg hc) ?_
    exact wp_st 2 (fun Z => rfl) (show wp E (d + 1) m_m_hearers 15 [some (.ref 65), some (.int a1), some (.int a2), some (.int (nI a3)), some (.int 0)] [] (Hp S) (QI Q) from hw)
set_option maxRecDepth 4000 in
theorem w_m_hearers_15 {E : zX} {d : Nat} {S : St} {a1 : Int32} {a2 : Int32} {a3 : Nat} {a4 : Nat} {Q : Int32 → St → Prop} (hd : 1 ≤ d) 
    (hw : if (S 65 4) ≤ (nI a4) then (
      k_m_hearers_4 E d S a1 a2 (a3 + 1) Q)
    else (
      if ((a1 >>> ((nI a4) &&& 31)) &&& (1 : Int32)) = 1 then (
        a3 < 7 ∧
        k_m_isIn E (d - 1) S 0 (nI a4) (S 66 a3) (fun x1 S2 =>
        if x1 = 0 then (
          k_m_hearers_15 E d S2 a1 (a2 ||| (0 : Int32)) a3 (a4 + 1) Q)
        else (
          k_m_hearers_15 E d S2 a1 (a2 ||| (bt a3)) a3 (a4 + 1) Q)))
      else (
        k_m_hearers_15 E d S a1 (a2 ||| (0 : Int32)) a3 (a4 + 1) Q))) :
    k_m_hearers_15 E d S a1 a2 a3 a4 Q := by
  obtain ⟨d, rfl⟩ := Nat.exists_eq_add_of_le' hd
  show wp E (d + 1) m_m_hearers 15 [some (.ref 65), some (.int a1), some (.int a2), some (.int (nI a3)), some (.int (nI a4))] [] (Hp S) (QI Q)
  refine wp_st (pc' := 18) (L' := [some (.ref 65), some (.int a1), some (.int a2), some (.int (nI a3)), some (.int (nI a4))]) (st' := [.ref 65, .int (nI a4)]) (h' := Hp S) 2 (fun Z => rfl) ?_
  refine wp_st (pc' := 21) (L' := [some (.ref 65), some (.int a1), some (.int a2), some (.int (nI a3)), some (.int (nI a4))]) (st' := [.int (S 65 4), .int (nI a4)]) (h' := Hp S) 1 (fun Z => gfI (E := E) sh65 rfl _) ?_
  by_cases hc : (S 65 4) ≤ (nI a4)
  · rw [if_pos hc] at hw
    refine wp_st (pc' := 66) (L' := [some (.ref 65), some (.int a1), some (.int a2), some (.int (nI a3)), some (.int (nI a4))]) (st' := []) (h' := Hp S) 1 (fun Z => if_pos hc) ?_
    refine wp_st (pc' := 69) (L' := [some (.ref 65), some (.int a1), some (.int a2), some (.int (nI (a3 + 1))), some (.int (nI a4))]) (st' := []) (h' := Hp S) 1 (fun Z => by rw [← nI_add a3 1]; rfl) ?_
    exact wp_st 1 (fun Z => rfl) (show wp E (d + 1) m_m_hearers 4 [some (.ref 65), some (.int a1), some (.int a2), some (.int (nI (a3 + 1))), some (.int (nI a4))] [] (Hp S) (QI Q) from (hw (some (.int (nI a4)))))
  · rw [if_neg hc] at hw
    refine wp_st (pc' := 24) (L' := [some (.ref 65), some (.int a1), some (.int a2), some (.int (nI a3)), some (.int (nI a4))]) (st' := []) (h' := Hp S) 1 (fun Z => if_neg hc) ?_
    refine wp_st (pc' := 32) (L' := [some (.ref 65), some (.int a1), some (.int a2), some (.int (nI a3)), some (.int (nI a4))]) (st' := [.int 1, .int ((a1 >>> ((nI a4) &&& 31)) &&& (1 : Int32)), .int a2]) (h' := Hp S) 7 (fun Z => rfl) ?_
    by_cases hc : ((a1 >>> ((nI a4) &&& 31)) &&& (1 : Int32)) = 1
    · rw [if_pos hc] at hw
      refine wp_st (pc' := 35) (L' := [some (.ref 65), some (.int a1), some (.int a2), some (.int (nI a3)), some (.int (nI a4))]) (st' := [.int a2]) (h' := Hp S) 1 (fun Z => if_pos hc) ?_
      refine wp_st (pc' := 40) (L' := [some (.ref 65), some (.int a1), some (.int a2), some (.int (nI a3)), some (.int (nI a4))]) (st' := [.ref 65, .int (nI a4), .int 0, .ref 65, .int a2]) (h' := Hp S) 4 (fun Z => rfl) ?_
      refine wp_st (pc' := 43) (L' := [some (.ref 65), some (.int a1), some (.int a2), some (.int (nI a3)), some (.int (nI a4))]) (st' := [.ref 66, .int (nI a4), .int 0, .ref 65, .int a2]) (h' := Hp S) 1 (fun Z => gfR (E := E) sh65 rfl _) ?_
      refine wp_st (pc' := 44) (L' := [some (.ref 65), some (.int a1), some (.int a2), some (.int (nI a3)), some (.int (nI a4))]) (st' := [.int (nI a3), .ref 66, .int (nI a4), .int 0, .ref 65, .int a2]) (h' := Hp S) 1 (fun Z => rfl) ?_
      obtain ⟨hi, hw⟩ := hw
      refine wp_st (pc' := 45) (L' := [some (.ref 65), some (.int a1), some (.int a2), some (.int (nI a3)), some (.int (nI a4))]) (st' := [.int (S 66 a3), .int (nI a4), .int 0, .ref 65, .int a2]) (h' := Hp S) 1 (fun Z => ldN (E := E) sh66 (by decide) hi [.int (nI a4), .int 0, .ref 65, .int a2] (fun st => Z (d + 1) m_m_hearers 45 [some (.ref 65), some (.int a1), some (.int a2), some (.int (nI a3)), some (.int (nI a4))] st (Hp S))) ?_
      refine wp_call (pc' := 48) (rest := [.int a2]) (fun Z => rfl) (isO_of sh65) hw ?_
      rintro o h1 ⟨x1, S2, rfl, rfl, hw⟩
      refine ⟨_, rfl, ?_⟩
      show wp E (d + 1) m_m_hearers 48 [some (.ref 65), some (.int a1), some (.int a2), some (.int (nI a3)), some (.int (nI a4))] [.int x1, .int a2] (Hp S2) (QI Q)
      by_cases hc : x1 = 0
      · rw [if_pos hc] at hw
        refine wp_st (pc' := 57) (L' := [some (.ref 65), some (.int a1), some (.int a2), some (.int (nI a3)), some (.int (nI a4))]) (st' := [.int a2]) (h' := Hp S2) 1 (fun Z => if_pos hc) ?_
        refine wp_st (pc' := 60) (L' := [some (.ref 65), some (.int a1), some (.int (a2 ||| (0 : Int32))), some (.int (nI a3)), some (.int (nI a4))]) (st' := []) (h' := Hp S2) 3 (fun Z => rfl) ?_
        refine wp_st (pc' := 63) (L' := [some (.ref 65), some (.int a1), some (.int (a2 ||| (0 : Int32))), some (.int (nI a3)), some (.int (nI (a4 + 1)))]) (st' := []) (h' := Hp S2) 1 (fun Z => by rw [← nI_add a4 1]; rfl) ?_
        exact wp_st 1 (fun Z => rfl) (show wp E (d + 1) m_m_hearers 15 [some (.ref 65), some (.int a1), some (.int (a2 ||| (0 : Int32))), some (.int (nI a3)), some (.int (nI (a4 + 1)))] [] (Hp S2) (QI Q) from hw)
      · rw [if_neg hc] at hw
        refine wp_st (pc' := 51) (L' := [some (.ref 65), some (.int a1), some (.int a2), some (.int (nI a3)), some (.int (nI a4))]) (st' := [.int a2]) (h' := Hp S2) 1 (fun Z => if_neg hc) ?_
        refine wp_st (pc' := 60) (L' := [some (.ref 65), some (.int a1), some (.int (a2 ||| (bt a3))), some (.int (nI a3)), some (.int (nI a4))]) (st' := []) (h' := Hp S2) 6 (fun Z => rfl) ?_
        refine wp_st (pc' := 63) (L' := [some (.ref 65), some (.int a1), some (.int (a2 ||| (bt a3))), some (.int (nI a3)), some (.int (nI (a4 + 1)))]) (st' := []) (h' := Hp S2) 1 (fun Z => by rw [← nI_add a4 1]; rfl) ?_
        exact wp_st 1 (fun Z => rfl) (show wp E (d + 1) m_m_hearers 15 [some (.ref 65), some (.int a1), some (.int (a2 ||| (bt a3))), some (.int (nI a3)), some (.int (nI (a4 + 1)))] [] (Hp S2) (QI Q) from hw)
    · rw [if_neg hc] at hw
      refine wp_st (pc' := 57) (L' := [some (.ref 65), some (.int a1), some (.int a2), some (.int (nI a3)), some (.int (nI a4))]) (st' := [.int a2]) (h' := Hp S) 1 (fun Z => if_neg hc) ?_
      refine wp_st (pc' := 60) (L' := [some (.ref 65), some (.int a1), some (.int (a2 ||| (0 : Int32))), some (.int (nI a3)), some (.int (nI a4))]) (st' := []) (h' := Hp S) 3 (fun Z => rfl) ?_
      refine wp_st (pc' := 63) (L' := [some (.ref 65), some (.int a1), some (.int (a2 ||| (0 : Int32))), some (.int (nI a3)), some (.int (nI (a4 + 1)))]) (st' := []) (h' := Hp S) 1 (fun Z => by rw [← nI_add a4 1]; rfl) ?_
      exact wp_st 1 (fun Z => rfl) (show wp E (d + 1) m_m_hearers 15 [some (.ref 65), some (.int a1), some (.int (a2 ||| (0 : Int32))), some (.int (nI a3)), some (.int (nI (a4 + 1)))] [] (Hp S) (QI Q) from hw)
set_option maxRecDepth 4000 in
theorem w_m_days {E : zX} {d : Nat} {S : St} {a1 : Int32} {Q : Int32 → St → Prop} (hd : 1 ≤ d) 
    (hw : ∀ S1, S1 = up S 65 0 0 →
    k_m_within E (d - 1) S1 a1 1 20 (fun x2 S3 =>
    if x2 = 0 then (
      k_m_refuses E (d - 1) S3 1 (fun x4 S5 =>
      Q x4 S5))
    else (
      if ((S3 77 0) + a1) ≤ 9999 then (
        k_m_keeps E (d - 1) S3 (fun S7 =>
        k_m_days_41 E d S7 a1 0 Q))
      else (
        k_m_refuses E (d - 1) S3 1 (fun x8 S9 =>
        Q x8 S9))))) :
    k_m_days E d S a1 Q := by
  obtain ⟨d, rfl⟩ := Nat.exists_eq_add_of_le' hd
  show wp E (d + 1) m_m_days 0 [some (.ref 65), some (.int a1), none] [] (Hp S) (QI Q)
  refine wp_st (pc' := 2) (L' := [some (.ref 65), some (.int a1), none]) (st' := [.int 0, .ref 65]) (h' := Hp S) 2 (fun Z => rfl) ?_
  have hw := hw _ rfl
  refine wp_st (pc' := 5) (L' := [some (.ref 65), some (.int a1), none]) (st' := []) (h' := Hp (up S 65 0 0)) 1 (fun Z => pfI sh65 rfl (Nat.le_of_ble_eq_true rfl) rfl _) ?_
  generalize up S 65 0 0 = S1 at hw ⊢
  refine wp_st (pc' := 9) (L' := [some (.ref 65), some (.int a1), none]) (st' := [.int 20, .int 1, .int a1]) (h' := Hp S1) 3 (fun Z => rfl) ?_
  refine wp_call (pc' := 12) (rest := []) (fun Z => rfl) rfl hw ?_
  rintro o h1 ⟨x2, S3, rfl, rfl, hw⟩
  refine ⟨_, rfl, ?_⟩
  show wp E (d + 1) m_m_days 12 [some (.ref 65), some (.int a1), none] [.int x2] (Hp S3) (QI Q)
  by_cases hc : x2 = 0
  · rw [if_pos hc] at hw
    refine wp_st (pc' := 29) (L' := [some (.ref 65), some (.int a1), none]) (st' := []) (h' := Hp S3) 1 (fun Z => if_pos hc) ?_
    refine wp_st (pc' := 31) (L' := [some (.ref 65), some (.int a1), none]) (st' := [.int 1, .ref 65]) (h' := Hp S3) 2 (fun Z => rfl) ?_
    refine wp_call (pc' := 34) (rest := []) (fun Z => rfl) (isO_of sh65) hw ?_
    rintro o h1 ⟨x4, S5, rfl, rfl, hw⟩
    refine ⟨_, rfl, ?_⟩
    show wp E (d + 1) m_m_days 34 [some (.ref 65), some (.int a1), none] [.int x4] (Hp S5) (QI Q)
    exact wp_ret (fun Z => rfl) ⟨_, _, rfl, rfl, hw⟩
  · rw [if_neg hc] at hw
    refine wp_st (pc' := 15) (L' := [some (.ref 65), some (.int a1), none]) (st' := []) (h' := Hp S3) 1 (fun Z => if_neg hc) ?_
    refine wp_st (pc' := 16) (L' := [some (.ref 65), some (.int a1), none]) (st' := [.ref 65]) (h' := Hp S3) 1 (fun Z => rfl) ?_
    refine wp_st (pc' := 19) (L' := [some (.ref 65), some (.int a1), none]) (st' := [.ref 77]) (h' := Hp S3) 1 (fun Z => gfR (E := E) sh65 rfl _) ?_
    refine wp_st (pc' := 20) (L' := [some (.ref 65), some (.int a1), none]) (st' := [.int 0, .ref 77]) (h' := Hp S3) 1 (fun Z => rfl) ?_
    refine wp_st (pc' := 21) (L' := [some (.ref 65), some (.int a1), none]) (st' := [.int (S3 77 0)]) (h' := Hp S3) 1 (fun Z => ldN (E := E) sh77 (by decide) (by decide) [] (fun st => Z (d + 1) m_m_days 21 [some (.ref 65), some (.int a1), none] st (Hp S3))) ?_
    refine wp_st (pc' := 26) (L' := [some (.ref 65), some (.int a1), none]) (st' := [.int 9999, .int ((S3 77 0) + a1)]) (h' := Hp S3) 3 (fun Z => rfl) ?_
    by_cases hc : ((S3 77 0) + a1) ≤ 9999
    · rw [if_pos hc] at hw
      refine wp_st (pc' := 35) (L' := [some (.ref 65), some (.int a1), none]) (st' := []) (h' := Hp S3) 1 (fun Z => if_pos hc) ?_
      refine wp_st (pc' := 36) (L' := [some (.ref 65), some (.int a1), none]) (st' := [.ref 65]) (h' := Hp S3) 1 (fun Z => rfl) ?_
      refine wp_call (pc' := 39) (rest := []) (fun Z => rfl) (isO_of sh65) hw ?_
      rintro o h1 ⟨S7, rfl, rfl, hw⟩
      refine ⟨_, rfl, ?_⟩
      show wp E (d + 1) m_m_days 39 [some (.ref 65), some (.int a1), none] [] (Hp S7) (QI Q)
      exact wp_st 2 (fun Z => rfl) (show wp E (d + 1) m_m_days 41 [some (.ref 65), some (.int a1), some (.int 0)] [] (Hp S7) (QI Q) from hw)
    · rw [if_neg hc] at hw
      refine wp_st (pc' := 29) (L' := [some (.ref 65), some (.int a1), none]) (st' := []) (h' := Hp S3) 1 (fun Z => if_neg hc) ?_
      refine wp_st (pc' := 31) (L' := [some (.ref 65), some (.int a1), none]) (st' := [.int 1, .ref 65]) (h' := Hp S3) 2 (fun Z => rfl) ?_
      refine wp_call (pc' := 34) (rest := []) (fun Z => rfl) (isO_of sh65) hw ?_
      rintro o h1 ⟨x8, S9, rfl, rfl, hw⟩
      refine ⟨_, rfl, ?_⟩
      show wp E (d + 1) m_m_days 34 [some (.ref 65), some (.int a1), none] [.int x8] (Hp S9) (QI Q)
      exact wp_ret (fun Z => rfl) ⟨_, _, rfl, rfl, hw⟩
set_option maxRecDepth 4000 in
theorem w_m_days_41 {E : zX} {d : Nat} {S : St} {a1 : Int32} {a2 : Nat} {Q : Int32 → St → Prop} (hd : 1 ≤ d) 
    (hw : if a1 ≤ (nI a2) then (
      Q (S 77 0) S)
    else (
      k_m_dayOf E (d - 1) S 0 (fun S2 =>
      k_m_days_41 E d S2 a1 (a2 + 1) Q))) :
    k_m_days_41 E d S a1 a2 Q := by
  obtain ⟨d, rfl⟩ := Nat.exists_eq_add_of_le' hd
  show wp E (d + 1) m_m_days 41 [some (.ref 65), some (.int a1), some (.int (nI a2))] [] (Hp S) (QI Q)
  refine wp_st (pc' := 43) (L' := [some (.ref 65), some (.int a1), some (.int (nI a2))]) (st' := [.int a1, .int (nI a2)]) (h' := Hp S) 2 (fun Z => rfl) ?_
  by_cases hc : a1 ≤ (nI a2)
  · rw [if_pos hc] at hw
    refine wp_st (pc' := 57) (L' := [some (.ref 65), some (.int a1), some (.int (nI a2))]) (st' := []) (h' := Hp S) 1 (fun Z => if_pos hc) ?_
    refine wp_st (pc' := 58) (L' := [some (.ref 65), some (.int a1), some (.int (nI a2))]) (st' := [.ref 65]) (h' := Hp S) 1 (fun Z => rfl) ?_
    refine wp_st (pc' := 61) (L' := [some (.ref 65), some (.int a1), some (.int (nI a2))]) (st' := [.ref 77]) (h' := Hp S) 1 (fun Z => gfR (E := E) sh65 rfl _) ?_
    refine wp_st (pc' := 62) (L' := [some (.ref 65), some (.int a1), some (.int (nI a2))]) (st' := [.int 0, .ref 77]) (h' := Hp S) 1 (fun Z => rfl) ?_
    refine wp_st (pc' := 63) (L' := [some (.ref 65), some (.int a1), some (.int (nI a2))]) (st' := [.int (S 77 0)]) (h' := Hp S) 1 (fun Z => ldN (E := E) sh77 (by decide) (by decide) [] (fun st => Z (d + 1) m_m_days 63 [some (.ref 65), some (.int a1), some (.int (nI a2))] st (Hp S))) ?_
    exact wp_ret (fun Z => rfl) ⟨_, _, rfl, rfl, hw⟩
  · rw [if_neg hc] at hw
    refine wp_st (pc' := 46) (L' := [some (.ref 65), some (.int a1), some (.int (nI a2))]) (st' := []) (h' := Hp S) 1 (fun Z => if_neg hc) ?_
    refine wp_st (pc' := 48) (L' := [some (.ref 65), some (.int a1), some (.int (nI a2))]) (st' := [.int 0, .ref 65]) (h' := Hp S) 2 (fun Z => rfl) ?_
    refine wp_call (pc' := 51) (rest := []) (fun Z => rfl) (isO_of sh65) hw ?_
    rintro o h1 ⟨S2, rfl, rfl, hw⟩
    refine ⟨_, rfl, ?_⟩
    show wp E (d + 1) m_m_days 51 [some (.ref 65), some (.int a1), some (.int (nI a2))] [] (Hp S2) (QI Q)
    refine wp_st (pc' := 54) (L' := [some (.ref 65), some (.int a1), some (.int (nI (a2 + 1)))]) (st' := []) (h' := Hp S2) 1 (fun Z => by rw [← nI_add a2 1]; rfl) ?_
    exact wp_st 1 (fun Z => rfl) (show wp E (d + 1) m_m_days 41 [some (.ref 65), some (.int a1), some (.int (nI (a2 + 1)))] [] (Hp S2) (QI Q) from hw)
set_option maxRecDepth 4000 in
theorem w_m_keeps {E : zX} {d : Nat} {S : St}  {Q : St → Prop} 
    (hw : if (S 65 42) = 40 then (
      k_m_keeps_12 E d S 79 Q)
    else (
      k_m_keeps_52 E d S 0 Q)) :
    k_m_keeps E d S Q := by
  show wp E d m_m_keeps 0 [some (.ref 65), none] [] (Hp S) (QV Q)
  refine wp_st (pc' := 1) (L' := [some (.ref 65), none]) (st' := [.ref 65]) (h' := Hp S) 1 (fun Z => rfl) ?_
  refine wp_st (pc' := 4) (L' := [some (.ref 65), none]) (st' := [.int (S 65 42)]) (h' := Hp S) 1 (fun Z => gfI (E := E) sh65 rfl _) ?_
  refine wp_st (pc' := 6) (L' := [some (.ref 65), none]) (st' := [.int 40, .int (S 65 42)]) (h' := Hp S) 1 (fun Z => rfl) ?_
  by_cases hc : (S 65 42) = 40
  · rw [if_pos hc] at hw
    refine wp_st (pc' := 9) (L' := [some (.ref 65), none]) (st' := []) (h' := Hp S) 1 (fun Z => if_pos hc) ?_
    exact wp_st 2 (fun Z => rfl) (show wp E d m_m_keeps 12 [some (.ref 65), some (.int 79)] [] (Hp S) (QV Q) from hw)
  · rw [if_neg hc] at hw
    refine wp_st (pc' := 50) (L' := [some (.ref 65), none]) (st' := []) (h' := Hp S) 1 (fun Z => if_neg hc) ?_
    exact wp_st 2 (fun Z => rfl) (show wp E d m_m_keeps 52 [some (.ref 65), some (.int 0)] [] (Hp S) (QV Q) from hw)
set_option maxRecDepth 4000 in
theorem w_m_keeps_12 {E : zX} {d : Nat} {S : St} {a1 : Nat} {Q : St → Prop} 
    (hw : if nI 3160 ≤ (nI a1) then (
      ∀ S1, S1 = up S 65 42 ((S 65 42) - (1 : Int32)) →
      k_m_keeps_52 E d S1 0 Q)
    else (
      a1 < 3160 ∧
      ∃ m3 : Nat, ((nI a1) - (79 : Int32)) = nI m3 ∧ m3 < 3160 ∧
      ∀ S2, S2 = up S 78 m3 (S 78 a1) →
      k_m_keeps_12 E d S2 (a1 + 1) Q)) :
    k_m_keeps_12 E d S a1 Q := by
  show wp E d m_m_keeps 12 [some (.ref 65), some (.int (nI a1))] [] (Hp S) (QV Q)
  refine wp_st (pc' := 16) (L' := [some (.ref 65), some (.int (nI a1))]) (st' := [.int 3160, .int (nI a1)]) (h' := Hp S) 2 (fun Z => rfl) ?_
  by_cases hc : nI 3160 ≤ (nI a1)
  · rw [if_pos hc] at hw
    refine wp_st (pc' := 40) (L' := [some (.ref 65), some (.int (nI a1))]) (st' := []) (h' := Hp S) 1 (fun Z => if_pos hc) ?_
    refine wp_st (pc' := 42) (L' := [some (.ref 65), some (.int (nI a1))]) (st' := [.ref 65, .ref 65]) (h' := Hp S) 2 (fun Z => rfl) ?_
    refine wp_st (pc' := 45) (L' := [some (.ref 65), some (.int (nI a1))]) (st' := [.int (S 65 42), .ref 65]) (h' := Hp S) 1 (fun Z => gfI (E := E) sh65 rfl _) ?_
    refine wp_st (pc' := 47) (L' := [some (.ref 65), some (.int (nI a1))]) (st' := [.int ((S 65 42) - (1 : Int32)), .ref 65]) (h' := Hp S) 2 (fun Z => rfl) ?_
    have hw := hw _ rfl
    refine wp_st (pc' := 50) (L' := [some (.ref 65), some (.int (nI a1))]) (st' := []) (h' := Hp (up S 65 42 ((S 65 42) - (1 : Int32)))) 1 (fun Z => pfI sh65 rfl (Nat.le_of_ble_eq_true rfl) rfl _) ?_
    generalize up S 65 42 ((S 65 42) - (1 : Int32)) = S1 at hw ⊢
    exact wp_st 2 (fun Z => rfl) (show wp E d m_m_keeps 52 [some (.ref 65), some (.int 0)] [] (Hp S1) (QV Q) from hw)
  · rw [if_neg hc] at hw
    refine wp_st (pc' := 19) (L' := [some (.ref 65), some (.int (nI a1))]) (st' := []) (h' := Hp S) 1 (fun Z => if_neg hc) ?_
    refine wp_st (pc' := 20) (L' := [some (.ref 65), some (.int (nI a1))]) (st' := [.ref 65]) (h' := Hp S) 1 (fun Z => rfl) ?_
    refine wp_st (pc' := 23) (L' := [some (.ref 65), some (.int (nI a1))]) (st' := [.ref 78]) (h' := Hp S) 1 (fun Z => gfR (E := E) sh65 rfl _) ?_
    refine wp_st (pc' := 28) (L' := [some (.ref 65), some (.int (nI a1))]) (st' := [.ref 65, .int ((nI a1) - (79 : Int32)), .ref 78]) (h' := Hp S) 4 (fun Z => rfl) ?_
    refine wp_st (pc' := 31) (L' := [some (.ref 65), some (.int (nI a1))]) (st' := [.ref 78, .int ((nI a1) - (79 : Int32)), .ref 78]) (h' := Hp S) 1 (fun Z => gfR (E := E) sh65 rfl _) ?_
    refine wp_st (pc' := 32) (L' := [some (.ref 65), some (.int (nI a1))]) (st' := [.int (nI a1), .ref 78, .int ((nI a1) - (79 : Int32)), .ref 78]) (h' := Hp S) 1 (fun Z => rfl) ?_
    obtain ⟨hi, hw⟩ := hw
    refine wp_st (pc' := 33) (L' := [some (.ref 65), some (.int (nI a1))]) (st' := [.int (S 78 a1), .int ((nI a1) - (79 : Int32)), .ref 78]) (h' := Hp S) 1 (fun Z => ldN (E := E) sh78 (by decide) hi [.int ((nI a1) - (79 : Int32)), .ref 78] (fun st => Z d m_m_keeps 33 [some (.ref 65), some (.int (nI a1))] st (Hp S))) ?_
    obtain ⟨m3, em, hi, hw⟩ := hw
    have hw := hw _ rfl
    refine wp_st (pc' := 34) (L' := [some (.ref 65), some (.int (nI a1))]) (st' := []) (h' := Hp (up S 78 m3 (S 78 a1))) 1 (fun Z => (congrArg (fun v => zit E 1 Z d m_m_keeps 33 [some (.ref 65), some (.int (nI a1))] [.int (S 78 a1), .int v, .ref 78] (Hp S)) em).trans (stN sh78 (by decide) hi _ _)) ?_
    generalize up S 78 m3 (S 78 a1) = S2 at hw ⊢
    refine wp_st (pc' := 37) (L' := [some (.ref 65), some (.int (nI (a1 + 1)))]) (st' := []) (h' := Hp S2) 1 (fun Z => by rw [← nI_add a1 1]; rfl) ?_
    exact wp_st 1 (fun Z => rfl) (show wp E d m_m_keeps 12 [some (.ref 65), some (.int (nI (a1 + 1)))] [] (Hp S2) (QV Q) from hw)
set_option maxRecDepth 4000 in
theorem w_m_keeps_52 {E : zX} {d : Nat} {S : St} {a1 : Nat} {Q : St → Prop} 
    (hw : if nI 79 ≤ (nI a1) then (
      ∀ S1, S1 = up S 65 42 ((S 65 42) + (1 : Int32)) →
      Q S1)
    else (
      a1 < 158 ∧
      ∃ m3 : Nat, (((79 : Int32) * (S 65 42)) + (nI a1)) = nI m3 ∧ m3 < 3160 ∧
      ∀ S2, S2 = up S 78 m3 (S 77 a1) →
      k_m_keeps_52 E d S2 (a1 + 1) Q)) :
    k_m_keeps_52 E d S a1 Q := by
  show wp E d m_m_keeps 52 [some (.ref 65), some (.int (nI a1))] [] (Hp S) (QV Q)
  refine wp_st (pc' := 55) (L' := [some (.ref 65), some (.int (nI a1))]) (st' := [.int 79, .int (nI a1)]) (h' := Hp S) 2 (fun Z => rfl) ?_
  by_cases hc : nI 79 ≤ (nI a1)
  · rw [if_pos hc] at hw
    refine wp_st (pc' := 84) (L' := [some (.ref 65), some (.int (nI a1))]) (st' := []) (h' := Hp S) 1 (fun Z => if_pos hc) ?_
    refine wp_st (pc' := 86) (L' := [some (.ref 65), some (.int (nI a1))]) (st' := [.ref 65, .ref 65]) (h' := Hp S) 2 (fun Z => rfl) ?_
    refine wp_st (pc' := 89) (L' := [some (.ref 65), some (.int (nI a1))]) (st' := [.int (S 65 42), .ref 65]) (h' := Hp S) 1 (fun Z => gfI (E := E) sh65 rfl _) ?_
    refine wp_st (pc' := 91) (L' := [some (.ref 65), some (.int (nI a1))]) (st' := [.int ((S 65 42) + (1 : Int32)), .ref 65]) (h' := Hp S) 2 (fun Z => rfl) ?_
    have hw := hw _ rfl
    refine wp_st (pc' := 94) (L' := [some (.ref 65), some (.int (nI a1))]) (st' := []) (h' := Hp (up S 65 42 ((S 65 42) + (1 : Int32)))) 1 (fun Z => pfI sh65 rfl (Nat.le_of_ble_eq_true rfl) rfl _) ?_
    generalize up S 65 42 ((S 65 42) + (1 : Int32)) = S1 at hw ⊢
    exact wp_ret (fun Z => rfl) ⟨_, rfl, rfl, hw⟩
  · rw [if_neg hc] at hw
    refine wp_st (pc' := 58) (L' := [some (.ref 65), some (.int (nI a1))]) (st' := []) (h' := Hp S) 1 (fun Z => if_neg hc) ?_
    refine wp_st (pc' := 59) (L' := [some (.ref 65), some (.int (nI a1))]) (st' := [.ref 65]) (h' := Hp S) 1 (fun Z => rfl) ?_
    refine wp_st (pc' := 62) (L' := [some (.ref 65), some (.int (nI a1))]) (st' := [.ref 78]) (h' := Hp S) 1 (fun Z => gfR (E := E) sh65 rfl _) ?_
    refine wp_st (pc' := 65) (L' := [some (.ref 65), some (.int (nI a1))]) (st' := [.ref 65, .int 79, .ref 78]) (h' := Hp S) 2 (fun Z => rfl) ?_
    refine wp_st (pc' := 68) (L' := [some (.ref 65), some (.int (nI a1))]) (st' := [.int (S 65 42), .int 79, .ref 78]) (h' := Hp S) 1 (fun Z => gfI (E := E) sh65 rfl _) ?_
    refine wp_st (pc' := 72) (L' := [some (.ref 65), some (.int (nI a1))]) (st' := [.ref 65, .int (((79 : Int32) * (S 65 42)) + (nI a1)), .ref 78]) (h' := Hp S) 4 (fun Z => rfl) ?_
    refine wp_st (pc' := 75) (L' := [some (.ref 65), some (.int (nI a1))]) (st' := [.ref 77, .int (((79 : Int32) * (S 65 42)) + (nI a1)), .ref 78]) (h' := Hp S) 1 (fun Z => gfR (E := E) sh65 rfl _) ?_
    refine wp_st (pc' := 76) (L' := [some (.ref 65), some (.int (nI a1))]) (st' := [.int (nI a1), .ref 77, .int (((79 : Int32) * (S 65 42)) + (nI a1)), .ref 78]) (h' := Hp S) 1 (fun Z => rfl) ?_
    obtain ⟨hi, hw⟩ := hw
    refine wp_st (pc' := 77) (L' := [some (.ref 65), some (.int (nI a1))]) (st' := [.int (S 77 a1), .int (((79 : Int32) * (S 65 42)) + (nI a1)), .ref 78]) (h' := Hp S) 1 (fun Z => ldN (E := E) sh77 (by decide) hi [.int (((79 : Int32) * (S 65 42)) + (nI a1)), .ref 78] (fun st => Z d m_m_keeps 77 [some (.ref 65), some (.int (nI a1))] st (Hp S))) ?_
    obtain ⟨m3, em, hi, hw⟩ := hw
    have hw := hw _ rfl
    refine wp_st (pc' := 78) (L' := [some (.ref 65), some (.int (nI a1))]) (st' := []) (h' := Hp (up S 78 m3 (S 77 a1))) 1 (fun Z => (congrArg (fun v => zit E 1 Z d m_m_keeps 77 [some (.ref 65), some (.int (nI a1))] [.int (S 77 a1), .int v, .ref 78] (Hp S)) em).trans (stN sh78 (by decide) hi _ _)) ?_
    generalize up S 78 m3 (S 77 a1) = S2 at hw ⊢
    refine wp_st (pc' := 81) (L' := [some (.ref 65), some (.int (nI (a1 + 1)))]) (st' := []) (h' := Hp S2) 1 (fun Z => by rw [← nI_add a1 1]; rfl) ?_
    exact wp_st 1 (fun Z => rfl) (show wp E d m_m_keeps 52 [some (.ref 65), some (.int (nI (a1 + 1)))] [] (Hp S2) (QV Q) from hw)
set_option maxRecDepth 4000 in
theorem w_m_dayOf {E : zX} {d : Nat} {S : St} {a1 : Nat} {Q : St → Prop} (hd : 1 ≤ d) 
    (hw : k_m_begins0 E (d - 1) S (fun S2 =>
    k_m_dayGoes E (d - 1) S2 (nI a1) (fun S4 =>
    Q S4))) :
    k_m_dayOf E d S (nI a1) Q := by
  obtain ⟨d, rfl⟩ := Nat.exists_eq_add_of_le' hd
  show wp E (d + 1) m_m_dayOf 0 [some (.ref 65), some (.int (nI a1))] [] (Hp S) (QV Q)
  refine wp_st (pc' := 1) (L' := [some (.ref 65), some (.int (nI a1))]) (st' := [.ref 65]) (h' := Hp S) 1 (fun Z => rfl) ?_
  refine wp_call (pc' := 4) (rest := []) (fun Z => rfl) (isO_of sh65) hw ?_
  rintro o h1 ⟨S2, rfl, rfl, hw⟩
  refine ⟨_, rfl, ?_⟩
  show wp E (d + 1) m_m_dayOf 4 [some (.ref 65), some (.int (nI a1))] [] (Hp S2) (QV Q)
  refine wp_st (pc' := 6) (L' := [some (.ref 65), some (.int (nI a1))]) (st' := [.int (nI a1), .ref 65]) (h' := Hp S2) 2 (fun Z => rfl) ?_
  refine wp_call (pc' := 9) (rest := []) (fun Z => rfl) (isO_of sh65) hw ?_
  rintro o h1 ⟨S4, rfl, rfl, hw⟩
  refine ⟨_, rfl, ?_⟩
  show wp E (d + 1) m_m_dayOf 9 [some (.ref 65), some (.int (nI a1))] [] (Hp S4) (QV Q)
  exact wp_ret (fun Z => rfl) ⟨_, rfl, rfl, hw⟩
set_option maxRecDepth 4000 in
theorem w_m_begins0 {E : zX} {d : Nat} {S : St}  {Q : St → Prop} 
    (hw : ∀ S1, S1 = up S 65 45 0 →
    ∀ S2, S2 = up S1 65 46 0 →
    ∀ S3, S3 = up S2 65 47 0 →
    ∀ S4, S4 = up S3 65 48 0 →
    Q S4) :
    k_m_begins0 E d S Q := by
  show wp E d m_m_begins0 0 [some (.ref 65)] [] (Hp S) (QV Q)
  refine wp_st (pc' := 2) (L' := [some (.ref 65)]) (st' := [.int 0, .ref 65]) (h' := Hp S) 2 (fun Z => rfl) ?_
  have hw := hw _ rfl
  refine wp_st (pc' := 5) (L' := [some (.ref 65)]) (st' := []) (h' := Hp (up S 65 45 0)) 1 (fun Z => pfI sh65 rfl (Nat.le_of_ble_eq_true rfl) rfl _) ?_
  generalize up S 65 45 0 = S1 at hw ⊢
  refine wp_st (pc' := 7) (L' := [some (.ref 65)]) (st' := [.int 0, .ref 65]) (h' := Hp S1) 2 (fun Z => rfl) ?_
  have hw := hw _ rfl
  refine wp_st (pc' := 10) (L' := [some (.ref 65)]) (st' := []) (h' := Hp (up S1 65 46 0)) 1 (fun Z => pfI sh65 rfl (Nat.le_of_ble_eq_true rfl) rfl _) ?_
  generalize up S1 65 46 0 = S2 at hw ⊢
  refine wp_st (pc' := 12) (L' := [some (.ref 65)]) (st' := [.int 0, .ref 65]) (h' := Hp S2) 2 (fun Z => rfl) ?_
  have hw := hw _ rfl
  refine wp_st (pc' := 15) (L' := [some (.ref 65)]) (st' := []) (h' := Hp (up S2 65 47 0)) 1 (fun Z => pfI sh65 rfl (Nat.le_of_ble_eq_true rfl) rfl _) ?_
  generalize up S2 65 47 0 = S3 at hw ⊢
  refine wp_st (pc' := 17) (L' := [some (.ref 65)]) (st' := [.int 0, .ref 65]) (h' := Hp S3) 2 (fun Z => rfl) ?_
  have hw := hw _ rfl
  refine wp_st (pc' := 20) (L' := [some (.ref 65)]) (st' := []) (h' := Hp (up S3 65 48 0)) 1 (fun Z => pfI sh65 rfl (Nat.le_of_ble_eq_true rfl) rfl _) ?_
  generalize up S3 65 48 0 = S4 at hw ⊢
  exact wp_ret (fun Z => rfl) ⟨_, rfl, rfl, hw⟩
set_option maxRecDepth 4000 in
theorem w_m_dayGoes {E : zX} {d : Nat} {S : St} {a1 : Nat} {Q : St → Prop} (hd : 1 ≤ d) 
    (hw : k_m_dayGoes_2 E d S a1 0 Q) :
    k_m_dayGoes E d S (nI a1) Q := by
  obtain ⟨d, rfl⟩ := Nat.exists_eq_add_of_le' hd
  show wp E (d + 1) m_m_dayGoes 0 [some (.ref 65), some (.int (nI a1)), none, none, none] [] (Hp S) (QV Q)
  exact wp_st 2 (fun Z => rfl) (show wp E (d + 1) m_m_dayGoes 2 [some (.ref 65), some (.int (nI a1)), some (.int 0), none, none] [] (Hp S) (QV Q) from (hw none none))
set_option maxRecDepth 4000 in
theorem w_m_dayGoes_2 {E : zX} {d : Nat} {S : St} {a1 : Nat} {a2 : Int32} {Q : St → Prop} (hd : 1 ≤ d) 
    (hw : if (S 65 3) ≤ a2 then (
      k_m_heldOnes E (d - 1) S (nI a1) (fun x1 S2 =>
      k_m_dayGoes_30 E d S2 a1 x1 0 Q))
    else (
      k_m_rises E (d - 1) S (nI a1) a2 (fun S4 =>
      k_m_dayGoes_2 E d S4 a1 (a2 + 1) Q))) :
    k_m_dayGoes_2 E d S a1 a2 Q := by
  obtain ⟨d, rfl⟩ := Nat.exists_eq_add_of_le' hd
  intro j3 j4
  show wp E (d + 1) m_m_dayGoes 2 [some (.ref 65), some (.int (nI a1)), some (.int a2), j3, j4] [] (Hp S) (QV Q)
  refine wp_st (pc' := 4) (L' := [some (.ref 65), some (.int (nI a1)), some (.int a2), j3, j4]) (st' := [.ref 65, .int a2]) (h' := Hp S) 2 (fun Z => rfl) ?_
  refine wp_st (pc' := 7) (L' := [some (.ref 65), some (.int (nI a1)), some (.int a2), j3, j4]) (st' := [.int (S 65 3), .int a2]) (h' := Hp S) 1 (fun Z => gfI (E := E) sh65 rfl _) ?_
  by_cases hc : (S 65 3) ≤ a2
  · rw [if_pos hc] at hw
    refine wp_st (pc' := 22) (L' := [some (.ref 65), some (.int (nI a1)), some (.int a2), j3, j4]) (st' := []) (h' := Hp S) 1 (fun Z => if_pos hc) ?_
    refine wp_st (pc' := 24) (L' := [some (.ref 65), some (.int (nI a1)), some (.int a2), j3, j4]) (st' := [.int (nI a1), .ref 65]) (h' := Hp S) 2 (fun Z => rfl) ?_
    refine wp_call (pc' := 27) (rest := []) (fun Z => rfl) (isO_of sh65) hw ?_
    rintro o h1 ⟨x1, S2, rfl, rfl, hw⟩
    refine ⟨_, rfl, ?_⟩
    show wp E (d + 1) m_m_dayGoes 27 [some (.ref 65), some (.int (nI a1)), some (.int a2), j3, j4] [.int x1] (Hp S2) (QV Q)
    exact wp_st 3 (fun Z => rfl) (show wp E (d + 1) m_m_dayGoes 30 [some (.ref 65), some (.int (nI a1)), some (.int x1), some (.int 0), j4] [] (Hp S2) (QV Q) from (hw j4))
  · rw [if_neg hc] at hw
    refine wp_st (pc' := 10) (L' := [some (.ref 65), some (.int (nI a1)), some (.int a2), j3, j4]) (st' := []) (h' := Hp S) 1 (fun Z => if_neg hc) ?_
    refine wp_st (pc' := 13) (L' := [some (.ref 65), some (.int (nI a1)), some (.int a2), j3, j4]) (st' := [.int a2, .int (nI a1), .ref 65]) (h' := Hp S) 3 (fun Z => rfl) ?_
    refine wp_call (pc' := 16) (rest := []) (fun Z => rfl) (isO_of sh65) hw ?_
    rintro o h1 ⟨S4, rfl, rfl, hw⟩
    refine ⟨_, rfl, ?_⟩
    show wp E (d + 1) m_m_dayGoes 16 [some (.ref 65), some (.int (nI a1)), some (.int a2), j3, j4] [] (Hp S4) (QV Q)
    refine wp_st (pc' := 19) (L' := [some (.ref 65), some (.int (nI a1)), some (.int (a2 + 1)), j3, j4]) (st' := []) (h' := Hp S4) 1 (fun Z => congrArg (fun v => Z (d + 1) m_m_dayGoes 19 [some (.ref 65), some (.int (nI a1)), some (.int (a2 + v)), j3, j4] [] (Hp S4)) (show Int32.ofInt (1) = (1) by decide)) ?_
    exact wp_st 1 (fun Z => rfl) (show wp E (d + 1) m_m_dayGoes 2 [some (.ref 65), some (.int (nI a1)), some (.int (a2 + 1)), j3, j4] [] (Hp S4) (QV Q) from (hw j3 j4))
set_option maxRecDepth 4000 in
theorem w_m_dayGoes_30 {E : zX} {d : Nat} {S : St} {a1 : Nat} {a2 : Int32} {a3 : Int32} {Q : St → Prop} (hd : 1 ≤ d) 
    (hw : if (S 65 4) ≤ a3 then (
      k_m_dayGoes_68 E d S a1 a2 0 0 Q)
    else (
      ∃ m1 : Nat, ((nI (a1 + 49)) + a3) = nI m1 ∧ m1 < 158 ∧
      ∃ m3 : Nat, ((nI (a1 + 49)) + a3) = nI m3 ∧ m3 < 158 ∧
      ∀ S2, S2 = up S 77 m3 ((S 77 m1) + ((a2 >>> (a3 &&& 31)) &&& (1 : Int32))) →
      k_m_dayGoes_30 E d S2 a1 a2 (a3 + 1) Q)) :
    k_m_dayGoes_30 E d S a1 a2 a3 Q := by
  obtain ⟨d, rfl⟩ := Nat.exists_eq_add_of_le' hd
  intro j4
  show wp E (d + 1) m_m_dayGoes 30 [some (.ref 65), some (.int (nI a1)), some (.int a2), some (.int a3), j4] [] (Hp S) (QV Q)
  refine wp_st (pc' := 32) (L' := [some (.ref 65), some (.int (nI a1)), some (.int a2), some (.int a3), j4]) (st' := [.ref 65, .int a3]) (h' := Hp S) 2 (fun Z => rfl) ?_
  refine wp_st (pc' := 35) (L' := [some (.ref 65), some (.int (nI a1)), some (.int a2), some (.int a3), j4]) (st' := [.int (S 65 4), .int a3]) (h' := Hp S) 1 (fun Z => gfI (E := E) sh65 rfl _) ?_
  by_cases hc : (S 65 4) ≤ a3
  · rw [if_pos hc] at hw
    refine wp_st (pc' := 63) (L' := [some (.ref 65), some (.int (nI a1)), some (.int a2), some (.int a3), j4]) (st' := []) (h' := Hp S) 1 (fun Z => if_pos hc) ?_
    exact wp_st 4 (fun Z => rfl) (show wp E (d + 1) m_m_dayGoes 68 [some (.ref 65), some (.int (nI a1)), some (.int a2), some (.int 0), some (.int 0)] [] (Hp S) (QV Q) from hw)
  · rw [if_neg hc] at hw
    refine wp_st (pc' := 38) (L' := [some (.ref 65), some (.int (nI a1)), some (.int a2), some (.int a3), j4]) (st' := []) (h' := Hp S) 1 (fun Z => if_neg hc) ?_
    refine wp_st (pc' := 39) (L' := [some (.ref 65), some (.int (nI a1)), some (.int a2), some (.int a3), j4]) (st' := [.ref 65]) (h' := Hp S) 1 (fun Z => rfl) ?_
    refine wp_st (pc' := 42) (L' := [some (.ref 65), some (.int (nI a1)), some (.int a2), some (.int a3), j4]) (st' := [.ref 77]) (h' := Hp S) 1 (fun Z => gfR (E := E) sh65 rfl _) ?_
    refine wp_st (pc' := 45) (L' := [some (.ref 65), some (.int (nI a1)), some (.int a2), some (.int a3), j4]) (st' := [.int 49, .int (nI a1), .ref 77]) (h' := Hp S) 2 (fun Z => rfl) ?_
    refine wp_st (pc' := 46) (L' := [some (.ref 65), some (.int (nI a1)), some (.int a2), some (.int a3), j4]) (st' := [.int (nI (a1 + 49)), .ref 77]) (h' := Hp S) 1 (fun Z => by rw [← nI_add a1 49]; rfl) ?_
    refine wp_st (pc' := 49) (L' := [some (.ref 65), some (.int (nI a1)), some (.int a2), some (.int a3), j4]) (st' := [.int ((nI (a1 + 49)) + a3), .ref 77, .int ((nI (a1 + 49)) + a3), .ref 77]) (h' := Hp S) 3 (fun Z => rfl) ?_
    obtain ⟨m1, em, hi, hw⟩ := hw
    refine wp_st (pc' := 50) (L' := [some (.ref 65), some (.int (nI a1)), some (.int a2), some (.int a3), j4]) (st' := [.int (S 77 m1), .int ((nI (a1 + 49)) + a3), .ref 77]) (h' := Hp S) 1 (fun Z => (congrArg (fun v => zit E 1 Z (d + 1) m_m_dayGoes 49 [some (.ref 65), some (.int (nI a1)), some (.int a2), some (.int a3), j4] [.int v, .ref 77, .int ((nI (a1 + 49)) + a3), .ref 77] (Hp S)) em).trans (ldN (E := E) sh77 (by decide) hi [.int ((nI (a1 + 49)) + a3), .ref 77] (fun st => Z (d + 1) m_m_dayGoes 50 [some (.ref 65), some (.int (nI a1)), some (.int a2), some (.int a3), j4] st (Hp S)))) ?_
    refine wp_st (pc' := 56) (L' := [some (.ref 65), some (.int (nI a1)), some (.int a2), some (.int a3), j4]) (st' := [.int ((S 77 m1) + ((a2 >>> (a3 &&& 31)) &&& (1 : Int32))), .int ((nI (a1 + 49)) + a3), .ref 77]) (h' := Hp S) 6 (fun Z => rfl) ?_
    obtain ⟨m3, em, hi, hw⟩ := hw
    have hw := hw _ rfl
    refine wp_st (pc' := 57) (L' := [some (.ref 65), some (.int (nI a1)), some (.int a2), some (.int a3), j4]) (st' := []) (h' := Hp (up S 77 m3 ((S 77 m1) + ((a2 >>> (a3 &&& 31)) &&& (1 : Int32))))) 1 (fun Z => (congrArg (fun v => zit E 1 Z (d + 1) m_m_dayGoes 56 [some (.ref 65), some (.int (nI a1)), some (.int a2), some (.int a3), j4] [.int ((S 77 m1) + ((a2 >>> (a3 &&& 31)) &&& (1 : Int32))), .int v, .ref 77] (Hp S)) em).trans (stN sh77 (by decide) hi _ _)) ?_
    generalize up S 77 m3 ((S 77 m1) + ((a2 >>> (a3 &&& 31)) &&& (1 : Int32))) = S2 at hw ⊢
    refine wp_st (pc' := 60) (L' := [some (.ref 65), some (.int (nI a1)), some (.int a2), some (.int (a3 + 1)), j4]) (st' := []) (h' := Hp S2) 1 (fun Z => congrArg (fun v => Z (d + 1) m_m_dayGoes 60 [some (.ref 65), some (.int (nI a1)), some (.int a2), some (.int (a3 + v)), j4] [] (Hp S2)) (show Int32.ofInt (1) = (1) by decide)) ?_
    exact wp_st 1 (fun Z => rfl) (show wp E (d + 1) m_m_dayGoes 30 [some (.ref 65), some (.int (nI a1)), some (.int a2), some (.int (a3 + 1)), j4] [] (Hp S2) (QV Q) from (hw j4))
set_option maxRecDepth 4000 in
theorem w_m_dayGoes_68 {E : zX} {d : Nat} {S : St} {a1 : Nat} {a2 : Int32} {a3 : Int32} {a4 : Nat} {Q : St → Prop} (hd : 1 ≤ d) 
    (hw : if (S 65 4) ≤ (nI a4) then (
      if a3 = 0 then (
        k_m_dayGoes_125 E d S a1 Q)
      else (
        k_m_goOff E (d - 1) S (nI a1) a3 (fun x1 S2 =>
        k_m_dayGoes_125 E d S2 a1 Q)))
    else (
      if ((a2 >>> ((nI a4) &&& 31)) &&& (1 : Int32)) = 1 then (
        k_m_bursts E (d - 1) S (nI a1) (nI a4) (fun x3 S4 =>
        if x3 = 0 then (
          k_m_dayGoes_68 E d S4 a1 a2 (a3 ||| (0 : Int32)) (a4 + 1) Q)
        else (
          k_m_dayGoes_68 E d S4 a1 a2 (a3 ||| (bt a4)) (a4 + 1) Q)))
      else (
        k_m_dayGoes_68 E d S a1 a2 (a3 ||| (0 : Int32)) (a4 + 1) Q))) :
    k_m_dayGoes_68 E d S a1 a2 a3 a4 Q := by
  obtain ⟨d, rfl⟩ := Nat.exists_eq_add_of_le' hd
  show wp E (d + 1) m_m_dayGoes 68 [some (.ref 65), some (.int (nI a1)), some (.int a2), some (.int a3), some (.int (nI a4))] [] (Hp S) (QV Q)
  refine wp_st (pc' := 71) (L' := [some (.ref 65), some (.int (nI a1)), some (.int a2), some (.int a3), some (.int (nI a4))]) (st' := [.ref 65, .int (nI a4)]) (h' := Hp S) 2 (fun Z => rfl) ?_
  refine wp_st (pc' := 74) (L' := [some (.ref 65), some (.int (nI a1)), some (.int a2), some (.int a3), some (.int (nI a4))]) (st' := [.int (S 65 4), .int (nI a4)]) (h' := Hp S) 1 (fun Z => gfI (E := E) sh65 rfl _) ?_
  by_cases hc : (S 65 4) ≤ (nI a4)
  · rw [if_pos hc] at hw
    refine wp_st (pc' := 114) (L' := [some (.ref 65), some (.int (nI a1)), some (.int a2), some (.int a3), some (.int (nI a4))]) (st' := []) (h' := Hp S) 1 (fun Z => if_pos hc) ?_
    refine wp_st (pc' := 115) (L' := [some (.ref 65), some (.int (nI a1)), some (.int a2), some (.int a3), some (.int (nI a4))]) (st' := [.int a3]) (h' := Hp S) 1 (fun Z => rfl) ?_
    by_cases hc : a3 = 0
    · rw [if_pos hc] at hw
      refine wp_st (pc' := 125) (L' := [some (.ref 65), some (.int (nI a1)), some (.int a2), some (.int a3), some (.int (nI a4))]) (st' := []) (h' := Hp S) 1 (fun Z => if_pos hc) ?_
      exact (show wp E (d + 1) m_m_dayGoes 125 [some (.ref 65), some (.int (nI a1)), some (.int a2), some (.int a3), some (.int (nI a4))] [] (Hp S) (QV Q) from (hw (some (.int a2)) (some (.int a3)) (some (.int (nI a4)))))
    · rw [if_neg hc] at hw
      refine wp_st (pc' := 118) (L' := [some (.ref 65), some (.int (nI a1)), some (.int a2), some (.int a3), some (.int (nI a4))]) (st' := []) (h' := Hp S) 1 (fun Z => if_neg hc) ?_
      refine wp_st (pc' := 121) (L' := [some (.ref 65), some (.int (nI a1)), some (.int a2), some (.int a3), some (.int (nI a4))]) (st' := [.int a3, .int (nI a1), .ref 65]) (h' := Hp S) 3 (fun Z => rfl) ?_
      refine wp_call (pc' := 124) (rest := []) (fun Z => rfl) (isO_of sh65) hw ?_
      rintro o h1 ⟨x1, S2, rfl, rfl, hw⟩
      refine ⟨_, rfl, ?_⟩
      show wp E (d + 1) m_m_dayGoes 124 [some (.ref 65), some (.int (nI a1)), some (.int a2), some (.int a3), some (.int (nI a4))] [.int x1] (Hp S2) (QV Q)
      exact wp_st 1 (fun Z => rfl) (show wp E (d + 1) m_m_dayGoes 125 [some (.ref 65), some (.int (nI a1)), some (.int a2), some (.int a3), some (.int (nI a4))] [] (Hp S2) (QV Q) from (hw (some (.int a2)) (some (.int a3)) (some (.int (nI a4)))))
  · rw [if_neg hc] at hw
    refine wp_st (pc' := 77) (L' := [some (.ref 65), some (.int (nI a1)), some (.int a2), some (.int a3), some (.int (nI a4))]) (st' := []) (h' := Hp S) 1 (fun Z => if_neg hc) ?_
    refine wp_st (pc' := 85) (L' := [some (.ref 65), some (.int (nI a1)), some (.int a2), some (.int a3), some (.int (nI a4))]) (st' := [.int 1, .int ((a2 >>> ((nI a4) &&& 31)) &&& (1 : Int32)), .int a3]) (h' := Hp S) 7 (fun Z => rfl) ?_
    by_cases hc : ((a2 >>> ((nI a4) &&& 31)) &&& (1 : Int32)) = 1
    · rw [if_pos hc] at hw
      refine wp_st (pc' := 88) (L' := [some (.ref 65), some (.int (nI a1)), some (.int a2), some (.int a3), some (.int (nI a4))]) (st' := [.int a3]) (h' := Hp S) 1 (fun Z => if_pos hc) ?_
      refine wp_st (pc' := 92) (L' := [some (.ref 65), some (.int (nI a1)), some (.int a2), some (.int a3), some (.int (nI a4))]) (st' := [.int (nI a4), .int (nI a1), .ref 65, .int a3]) (h' := Hp S) 3 (fun Z => rfl) ?_
      refine wp_call (pc' := 95) (rest := [.int a3]) (fun Z => rfl) (isO_of sh65) hw ?_
      rintro o h1 ⟨x3, S4, rfl, rfl, hw⟩
      refine ⟨_, rfl, ?_⟩
      show wp E (d + 1) m_m_dayGoes 95 [some (.ref 65), some (.int (nI a1)), some (.int a2), some (.int a3), some (.int (nI a4))] [.int x3, .int a3] (Hp S4) (QV Q)
      by_cases hc : x3 = 0
      · rw [if_pos hc] at hw
        refine wp_st (pc' := 105) (L' := [some (.ref 65), some (.int (nI a1)), some (.int a2), some (.int a3), some (.int (nI a4))]) (st' := [.int a3]) (h' := Hp S4) 1 (fun Z => if_pos hc) ?_
        refine wp_st (pc' := 108) (L' := [some (.ref 65), some (.int (nI a1)), some (.int a2), some (.int (a3 ||| (0 : Int32))), some (.int (nI a4))]) (st' := []) (h' := Hp S4) 3 (fun Z => rfl) ?_
        refine wp_st (pc' := 111) (L' := [some (.ref 65), some (.int (nI a1)), some (.int a2), some (.int (a3 ||| (0 : Int32))), some (.int (nI (a4 + 1)))]) (st' := []) (h' := Hp S4) 1 (fun Z => by rw [← nI_add a4 1]; rfl) ?_
        exact wp_st 1 (fun Z => rfl) (show wp E (d + 1) m_m_dayGoes 68 [some (.ref 65), some (.int (nI a1)), some (.int a2), some (.int (a3 ||| (0 : Int32))), some (.int (nI (a4 + 1)))] [] (Hp S4) (QV Q) from hw)
      · rw [if_neg hc] at hw
        refine wp_st (pc' := 98) (L' := [some (.ref 65), some (.int (nI a1)), some (.int a2), some (.int a3), some (.int (nI a4))]) (st' := [.int a3]) (h' := Hp S4) 1 (fun Z => if_neg hc) ?_
        refine wp_st (pc' := 108) (L' := [some (.ref 65), some (.int (nI a1)), some (.int a2), some (.int (a3 ||| (bt a4))), some (.int (nI a4))]) (st' := []) (h' := Hp S4) 6 (fun Z => rfl) ?_
        refine wp_st (pc' := 111) (L' := [some (.ref 65), some (.int (nI a1)), some (.int a2), some (.int (a3 ||| (bt a4))), some (.int (nI (a4 + 1)))]) (st' := []) (h' := Hp S4) 1 (fun Z => by rw [← nI_add a4 1]; rfl) ?_
        exact wp_st 1 (fun Z => rfl) (show wp E (d + 1) m_m_dayGoes 68 [some (.ref 65), some (.int (nI a1)), some (.int a2), some (.int (a3 ||| (bt a4))), some (.int (nI (a4 + 1)))] [] (Hp S4) (QV Q) from hw)
    · rw [if_neg hc] at hw
      refine wp_st (pc' := 105) (L' := [some (.ref 65), some (.int (nI a1)), some (.int a2), some (.int a3), some (.int (nI a4))]) (st' := [.int a3]) (h' := Hp S) 1 (fun Z => if_neg hc) ?_
      refine wp_st (pc' := 108) (L' := [some (.ref 65), some (.int (nI a1)), some (.int a2), some (.int (a3 ||| (0 : Int32))), some (.int (nI a4))]) (st' := []) (h' := Hp S) 3 (fun Z => rfl) ?_
      refine wp_st (pc' := 111) (L' := [some (.ref 65), some (.int (nI a1)), some (.int a2), some (.int (a3 ||| (0 : Int32))), some (.int (nI (a4 + 1)))]) (st' := []) (h' := Hp S) 1 (fun Z => by rw [← nI_add a4 1]; rfl) ?_
      exact wp_st 1 (fun Z => rfl) (show wp E (d + 1) m_m_dayGoes 68 [some (.ref 65), some (.int (nI a1)), some (.int a2), some (.int (a3 ||| (0 : Int32))), some (.int (nI (a4 + 1)))] [] (Hp S) (QV Q) from hw)
set_option maxRecDepth 4000 in
theorem w_m_dayGoes_125 {E : zX} {d : Nat} {S : St} {a1 : Nat} {Q : St → Prop} (hd : 1 ≤ d) 
    (hw : (a1 + 0) < 158 ∧
    (a1 + 0) < 158 ∧
    ∀ S1, S1 = up S 77 (a1 + 0) ((S 77 (a1 + 0)) + (1 : Int32)) →
    Q S1) :
    k_m_dayGoes_125 E d S a1 Q := by
  obtain ⟨d, rfl⟩ := Nat.exists_eq_add_of_le' hd
  intro j2 j3 j4
  show wp E (d + 1) m_m_dayGoes 125 [some (.ref 65), some (.int (nI a1)), j2, j3, j4] [] (Hp S) (QV Q)
  refine wp_st (pc' := 126) (L' := [some (.ref 65), some (.int (nI a1)), j2, j3, j4]) (st' := [.ref 65]) (h' := Hp S) 1 (fun Z => rfl) ?_
  refine wp_st (pc' := 129) (L' := [some (.ref 65), some (.int (nI a1)), j2, j3, j4]) (st' := [.ref 77]) (h' := Hp S) 1 (fun Z => gfR (E := E) sh65 rfl _) ?_
  refine wp_st (pc' := 131) (L' := [some (.ref 65), some (.int (nI a1)), j2, j3, j4]) (st' := [.int 0, .int (nI a1), .ref 77]) (h' := Hp S) 2 (fun Z => rfl) ?_
  refine wp_st (pc' := 132) (L' := [some (.ref 65), some (.int (nI a1)), j2, j3, j4]) (st' := [.int (nI (a1 + 0)), .ref 77]) (h' := Hp S) 1 (fun Z => by rw [← nI_add a1 0]; rfl) ?_
  refine wp_st (pc' := 133) (L' := [some (.ref 65), some (.int (nI a1)), j2, j3, j4]) (st' := [.int (nI (a1 + 0)), .ref 77, .int (nI (a1 + 0)), .ref 77]) (h' := Hp S) 1 (fun Z => rfl) ?_
  obtain ⟨hi, hw⟩ := hw
  refine wp_st (pc' := 134) (L' := [some (.ref 65), some (.int (nI a1)), j2, j3, j4]) (st' := [.int (S 77 (a1 + 0)), .int (nI (a1 + 0)), .ref 77]) (h' := Hp S) 1 (fun Z => ldN (E := E) sh77 (by decide) hi [.int (nI (a1 + 0)), .ref 77] (fun st => Z (d + 1) m_m_dayGoes 134 [some (.ref 65), some (.int (nI a1)), j2, j3, j4] st (Hp S))) ?_
  refine wp_st (pc' := 136) (L' := [some (.ref 65), some (.int (nI a1)), j2, j3, j4]) (st' := [.int ((S 77 (a1 + 0)) + (1 : Int32)), .int (nI (a1 + 0)), .ref 77]) (h' := Hp S) 2 (fun Z => rfl) ?_
  obtain ⟨hi, hw⟩ := hw
  have hw := hw _ rfl
  refine wp_st (pc' := 137) (L' := [some (.ref 65), some (.int (nI a1)), j2, j3, j4]) (st' := []) (h' := Hp (up S 77 (a1 + 0) ((S 77 (a1 + 0)) + (1 : Int32)))) 1 (fun Z => stN sh77 (by decide) hi _ _) ?_
  generalize up S 77 (a1 + 0) ((S 77 (a1 + 0)) + (1 : Int32)) = S1 at hw ⊢
  exact wp_ret (fun Z => rfl) ⟨_, rfl, rfl, hw⟩
set_option maxRecDepth 4000 in
theorem w_m_bounded {E : zX} {d : Nat} {S : St} {a0 : Int32} {a1 : Int32} {a2 : Int32} {Q : Int32 → St → Prop} 
    (hw : if a1 ≤ a0 then (
      if a0 ≤ a2 then (
        Q a0 S)
      else (
        Q a2 S))
    else (
      Q a1 S)) :
    k_m_bounded E d S a0 a1 a2 Q := by
  show wp E d m_m_bounded 0 [some (.int a0), some (.int a1), some (.int a2)] [] (Hp S) (QI Q)
  refine wp_st (pc' := 2) (L' := [some (.int a0), some (.int a1), some (.int a2)]) (st' := [.int a1, .int a0]) (h' := Hp S) 2 (fun Z => rfl) ?_
  by_cases hc : a1 ≤ a0
  · rw [if_pos hc] at hw
    refine wp_st (pc' := 9) (L' := [some (.int a0), some (.int a1), some (.int a2)]) (st' := []) (h' := Hp S) 1 (fun Z => if_pos hc) ?_
    refine wp_st (pc' := 11) (L' := [some (.int a0), some (.int a1), some (.int a2)]) (st' := [.int a2, .int a0]) (h' := Hp S) 2 (fun Z => rfl) ?_
    by_cases hc : a0 ≤ a2
    · rw [if_pos hc] at hw
      refine wp_st (pc' := 18) (L' := [some (.int a0), some (.int a1), some (.int a2)]) (st' := []) (h' := Hp S) 1 (fun Z => if_pos hc) ?_
      refine wp_st (pc' := 19) (L' := [some (.int a0), some (.int a1), some (.int a2)]) (st' := [.int a0]) (h' := Hp S) 1 (fun Z => rfl) ?_
      exact wp_ret (fun Z => rfl) ⟨_, _, rfl, rfl, hw⟩
    · rw [if_neg hc] at hw
      refine wp_st (pc' := 14) (L' := [some (.int a0), some (.int a1), some (.int a2)]) (st' := []) (h' := Hp S) 1 (fun Z => if_neg hc) ?_
      refine wp_st (pc' := 19) (L' := [some (.int a0), some (.int a1), some (.int a2)]) (st' := [.int a2]) (h' := Hp S) 2 (fun Z => rfl) ?_
      exact wp_ret (fun Z => rfl) ⟨_, _, rfl, rfl, hw⟩
  · rw [if_neg hc] at hw
    refine wp_st (pc' := 5) (L' := [some (.int a0), some (.int a1), some (.int a2)]) (st' := []) (h' := Hp S) 1 (fun Z => if_neg hc) ?_
    refine wp_st (pc' := 19) (L' := [some (.int a0), some (.int a1), some (.int a2)]) (st' := [.int a1]) (h' := Hp S) 2 (fun Z => rfl) ?_
    exact wp_ret (fun Z => rfl) ⟨_, _, rfl, rfl, hw⟩
set_option maxRecDepth 4000 in
theorem w_m_goesOut {E : zX} {d : Nat} {S : St} {a1 : Nat} {a2 : Nat} {Q : Int32 → St → Prop} (hd : 1 ≤ d) 
    (hw : k_m_ballFor E (d - 1) S (nI a1) (nI a2) (fun x1 S2 =>
    if x1 = (-1) then (
      Q (0 : Int32) S2)
    else (
      ((a1 + 1) + a2) < 158 ∧
      ∃ m4 : Nat, ((nI (a1 + 39)) + x1) = nI m4 ∧ m4 < 158 ∧
      ∀ S3, S3 = up S2 77 m4 (S2 77 ((a1 + 1) + a2)) →
      ∃ m6 : Nat, ((nI (a1 + 59)) + x1) = nI m6 ∧ m6 < 158 ∧
      ∀ S5, S5 = up S3 77 m6 (nI a2) →
      ∃ m8 : Nat, ((nI (a1 + 49)) + x1) = nI m8 ∧ m8 < 158 ∧
      ∀ S7, S7 = up S5 77 m8 0 →
      ((a1 + 1) + a2) < 158 ∧
      ∀ S9, S9 = up S7 77 ((a1 + 1) + a2) 0 →
      Q (1 : Int32) S9))) :
    k_m_goesOut E d S (nI a1) (nI a2) Q := by
  obtain ⟨d, rfl⟩ := Nat.exists_eq_add_of_le' hd
  show wp E (d + 1) m_m_goesOut 0 [some (.ref 65), some (.int (nI a1)), some (.int (nI a2)), none] [] (Hp S) (QI Q)
  refine wp_st (pc' := 3) (L' := [some (.ref 65), some (.int (nI a1)), some (.int (nI a2)), none]) (st' := [.int (nI a2), .int (nI a1), .ref 65]) (h' := Hp S) 3 (fun Z => rfl) ?_
  refine wp_call (pc' := 6) (rest := []) (fun Z => rfl) (isO_of sh65) hw ?_
  rintro o h1 ⟨x1, S2, rfl, rfl, hw⟩
  refine ⟨_, rfl, ?_⟩
  show wp E (d + 1) m_m_goesOut 6 [some (.ref 65), some (.int (nI a1)), some (.int (nI a2)), none] [.int x1] (Hp S2) (QI Q)
  refine wp_st (pc' := 8) (L' := [some (.ref 65), some (.int (nI a1)), some (.int (nI a2)), some (.int x1)]) (st' := [.int x1]) (h' := Hp S2) 2 (fun Z => rfl) ?_
  refine wp_st (pc' := 9) (L' := [some (.ref 65), some (.int (nI a1)), some (.int (nI a2)), some (.int x1)]) (st' := [.int (-1), .int x1]) (h' := Hp S2) 1 (fun Z => congrArg (fun v => Z (d + 1) m_m_goesOut 9 [some (.ref 65), some (.int (nI a1)), some (.int (nI a2)), some (.int x1)] [.int v, .int x1] (Hp S2)) (show Int32.ofInt (-1) = (-1) by decide)) ?_
  by_cases hc : x1 = (-1)
  · rw [if_pos hc] at hw
    refine wp_st (pc' := 12) (L' := [some (.ref 65), some (.int (nI a1)), some (.int (nI a2)), some (.int x1)]) (st' := []) (h' := Hp S2) 1 (fun Z => if_pos hc) ?_
    refine wp_st (pc' := 13) (L' := [some (.ref 65), some (.int (nI a1)), some (.int (nI a2)), some (.int x1)]) (st' := [.int 0]) (h' := Hp S2) 1 (fun Z => rfl) ?_
    exact wp_ret (fun Z => rfl) ⟨_, _, rfl, rfl, hw⟩
  · rw [if_neg hc] at hw
    refine wp_st (pc' := 14) (L' := [some (.ref 65), some (.int (nI a1)), some (.int (nI a2)), some (.int x1)]) (st' := []) (h' := Hp S2) 1 (fun Z => if_neg hc) ?_
    refine wp_st (pc' := 15) (L' := [some (.ref 65), some (.int (nI a1)), some (.int (nI a2)), some (.int x1)]) (st' := [.ref 65]) (h' := Hp S2) 1 (fun Z => rfl) ?_
    refine wp_st (pc' := 18) (L' := [some (.ref 65), some (.int (nI a1)), some (.int (nI a2)), some (.int x1)]) (st' := [.ref 77]) (h' := Hp S2) 1 (fun Z => gfR (E := E) sh65 rfl _) ?_
    refine wp_st (pc' := 21) (L' := [some (.ref 65), some (.int (nI a1)), some (.int (nI a2)), some (.int x1)]) (st' := [.int 39, .int (nI a1), .ref 77]) (h' := Hp S2) 2 (fun Z => rfl) ?_
    refine wp_st (pc' := 22) (L' := [some (.ref 65), some (.int (nI a1)), some (.int (nI a2)), some (.int x1)]) (st' := [.int (nI (a1 + 39)), .ref 77]) (h' := Hp S2) 1 (fun Z => by rw [← nI_add a1 39]; rfl) ?_
    refine wp_st (pc' := 25) (L' := [some (.ref 65), some (.int (nI a1)), some (.int (nI a2)), some (.int x1)]) (st' := [.ref 65, .int ((nI (a1 + 39)) + x1), .ref 77]) (h' := Hp S2) 3 (fun Z => rfl) ?_
    refine wp_st (pc' := 28) (L' := [some (.ref 65), some (.int (nI a1)), some (.int (nI a2)), some (.int x1)]) (st' := [.ref 77, .int ((nI (a1 + 39)) + x1), .ref 77]) (h' := Hp S2) 1 (fun Z => gfR (E := E) sh65 rfl _) ?_
    refine wp_st (pc' := 30) (L' := [some (.ref 65), some (.int (nI a1)), some (.int (nI a2)), some (.int x1)]) (st' := [.int 1, .int (nI a1), .ref 77, .int ((nI (a1 + 39)) + x1), .ref 77]) (h' := Hp S2) 2 (fun Z => rfl) ?_
    refine wp_st (pc' := 31) (L' := [some (.ref 65), some (.int (nI a1)), some (.int (nI a2)), some (.int x1)]) (st' := [.int (nI (a1 + 1)), .ref 77, .int ((nI (a1 + 39)) + x1), .ref 77]) (h' := Hp S2) 1 (fun Z => by rw [← nI_add a1 1]; rfl) ?_
    refine wp_st (pc' := 32) (L' := [some (.ref 65), some (.int (nI a1)), some (.int (nI a2)), some (.int x1)]) (st' := [.int (nI a2), .int (nI (a1 + 1)), .ref 77, .int ((nI (a1 + 39)) + x1), .ref 77]) (h' := Hp S2) 1 (fun Z => rfl) ?_
    refine wp_st (pc' := 33) (L' := [some (.ref 65), some (.int (nI a1)), some (.int (nI a2)), some (.int x1)]) (st' := [.int (nI ((a1 + 1) + a2)), .ref 77, .int ((nI (a1 + 39)) + x1), .ref 77]) (h' := Hp S2) 1 (fun Z => by rw [← nI_add (a1 + 1) a2]; rfl) ?_
    obtain ⟨hi, hw⟩ := hw
    refine wp_st (pc' := 34) (L' := [some (.ref 65), some (.int (nI a1)), some (.int (nI a2)), some (.int x1)]) (st' := [.int (S2 77 ((a1 + 1) + a2)), .int ((nI (a1 + 39)) + x1), .ref 77]) (h' := Hp S2) 1 (fun Z => ldN (E := E) sh77 (by decide) hi [.int ((nI (a1 + 39)) + x1), .ref 77] (fun st => Z (d + 1) m_m_goesOut 34 [some (.ref 65), some (.int (nI a1)), some (.int (nI a2)), some (.int x1)] st (Hp S2))) ?_
    obtain ⟨m4, em, hi, hw⟩ := hw
    have hw := hw _ rfl
    refine wp_st (pc' := 35) (L' := [some (.ref 65), some (.int (nI a1)), some (.int (nI a2)), some (.int x1)]) (st' := []) (h' := Hp (up S2 77 m4 (S2 77 ((a1 + 1) + a2)))) 1 (fun Z => (congrArg (fun v => zit E 1 Z (d + 1) m_m_goesOut 34 [some (.ref 65), some (.int (nI a1)), some (.int (nI a2)), some (.int x1)] [.int (S2 77 ((a1 + 1) + a2)), .int v, .ref 77] (Hp S2)) em).trans (stN sh77 (by decide) hi _ _)) ?_
    generalize up S2 77 m4 (S2 77 ((a1 + 1) + a2)) = S3 at hw ⊢
    refine wp_st (pc' := 36) (L' := [some (.ref 65), some (.int (nI a1)), some (.int (nI a2)), some (.int x1)]) (st' := [.ref 65]) (h' := Hp S3) 1 (fun Z => rfl) ?_
    refine wp_st (pc' := 39) (L' := [some (.ref 65), some (.int (nI a1)), some (.int (nI a2)), some (.int x1)]) (st' := [.ref 77]) (h' := Hp S3) 1 (fun Z => gfR (E := E) sh65 rfl _) ?_
    refine wp_st (pc' := 42) (L' := [some (.ref 65), some (.int (nI a1)), some (.int (nI a2)), some (.int x1)]) (st' := [.int 59, .int (nI a1), .ref 77]) (h' := Hp S3) 2 (fun Z => rfl) ?_
    refine wp_st (pc' := 43) (L' := [some (.ref 65), some (.int (nI a1)), some (.int (nI a2)), some (.int x1)]) (st' := [.int (nI (a1 + 59)), .ref 77]) (h' := Hp S3) 1 (fun Z => by rw [← nI_add a1 59]; rfl) ?_
    refine wp_st (pc' := 46) (L' := [some (.ref 65), some (.int (nI a1)), some (.int (nI a2)), some (.int x1)]) (st' := [.int (nI a2), .int ((nI (a1 + 59)) + x1), .ref 77]) (h' := Hp S3) 3 (fun Z => rfl) ?_
    obtain ⟨m6, em, hi, hw⟩ := hw
    have hw := hw _ rfl
    refine wp_st (pc' := 47) (L' := [some (.ref 65), some (.int (nI a1)), some (.int (nI a2)), some (.int x1)]) (st' := []) (h' := Hp (up S3 77 m6 (nI a2))) 1 (fun Z => (congrArg (fun v => zit E 1 Z (d + 1) m_m_goesOut 46 [some (.ref 65), some (.int (nI a1)), some (.int (nI a2)), some (.int x1)] [.int (nI a2), .int v, .ref 77] (Hp S3)) em).trans (stN sh77 (by decide) hi _ _)) ?_
    generalize up S3 77 m6 (nI a2) = S5 at hw ⊢
    refine wp_st (pc' := 48) (L' := [some (.ref 65), some (.int (nI a1)), some (.int (nI a2)), some (.int x1)]) (st' := [.ref 65]) (h' := Hp S5) 1 (fun Z => rfl) ?_
    refine wp_st (pc' := 51) (L' := [some (.ref 65), some (.int (nI a1)), some (.int (nI a2)), some (.int x1)]) (st' := [.ref 77]) (h' := Hp S5) 1 (fun Z => gfR (E := E) sh65 rfl _) ?_
    refine wp_st (pc' := 54) (L' := [some (.ref 65), some (.int (nI a1)), some (.int (nI a2)), some (.int x1)]) (st' := [.int 49, .int (nI a1), .ref 77]) (h' := Hp S5) 2 (fun Z => rfl) ?_
    refine wp_st (pc' := 55) (L' := [some (.ref 65), some (.int (nI a1)), some (.int (nI a2)), some (.int x1)]) (st' := [.int (nI (a1 + 49)), .ref 77]) (h' := Hp S5) 1 (fun Z => by rw [← nI_add a1 49]; rfl) ?_
    refine wp_st (pc' := 58) (L' := [some (.ref 65), some (.int (nI a1)), some (.int (nI a2)), some (.int x1)]) (st' := [.int 0, .int ((nI (a1 + 49)) + x1), .ref 77]) (h' := Hp S5) 3 (fun Z => rfl) ?_
    obtain ⟨m8, em, hi, hw⟩ := hw
    have hw := hw _ rfl
    refine wp_st (pc' := 59) (L' := [some (.ref 65), some (.int (nI a1)), some (.int (nI a2)), some (.int x1)]) (st' := []) (h' := Hp (up S5 77 m8 0)) 1 (fun Z => (congrArg (fun v => zit E 1 Z (d + 1) m_m_goesOut 58 [some (.ref 65), some (.int (nI a1)), some (.int (nI a2)), some (.int x1)] [.int 0, .int v, .ref 77] (Hp S5)) em).trans (stN sh77 (by decide) hi _ _)) ?_
    generalize up S5 77 m8 0 = S7 at hw ⊢
    refine wp_st (pc' := 60) (L' := [some (.ref 65), some (.int (nI a1)), some (.int (nI a2)), some (.int x1)]) (st' := [.ref 65]) (h' := Hp S7) 1 (fun Z => rfl) ?_
    refine wp_st (pc' := 63) (L' := [some (.ref 65), some (.int (nI a1)), some (.int (nI a2)), some (.int x1)]) (st' := [.ref 77]) (h' := Hp S7) 1 (fun Z => gfR (E := E) sh65 rfl _) ?_
    refine wp_st (pc' := 65) (L' := [some (.ref 65), some (.int (nI a1)), some (.int (nI a2)), some (.int x1)]) (st' := [.int 1, .int (nI a1), .ref 77]) (h' := Hp S7) 2 (fun Z => rfl) ?_
    refine wp_st (pc' := 66) (L' := [some (.ref 65), some (.int (nI a1)), some (.int (nI a2)), some (.int x1)]) (st' := [.int (nI (a1 + 1)), .ref 77]) (h' := Hp S7) 1 (fun Z => by rw [← nI_add a1 1]; rfl) ?_
    refine wp_st (pc' := 67) (L' := [some (.ref 65), some (.int (nI a1)), some (.int (nI a2)), some (.int x1)]) (st' := [.int (nI a2), .int (nI (a1 + 1)), .ref 77]) (h' := Hp S7) 1 (fun Z => rfl) ?_
    refine wp_st (pc' := 68) (L' := [some (.ref 65), some (.int (nI a1)), some (.int (nI a2)), some (.int x1)]) (st' := [.int (nI ((a1 + 1) + a2)), .ref 77]) (h' := Hp S7) 1 (fun Z => by rw [← nI_add (a1 + 1) a2]; rfl) ?_
    refine wp_st (pc' := 69) (L' := [some (.ref 65), some (.int (nI a1)), some (.int (nI a2)), some (.int x1)]) (st' := [.int 0, .int (nI ((a1 + 1) + a2)), .ref 77]) (h' := Hp S7) 1 (fun Z => rfl) ?_
    obtain ⟨hi, hw⟩ := hw
    have hw := hw _ rfl
    refine wp_st (pc' := 70) (L' := [some (.ref 65), some (.int (nI a1)), some (.int (nI a2)), some (.int x1)]) (st' := []) (h' := Hp (up S7 77 ((a1 + 1) + a2) 0)) 1 (fun Z => stN sh77 (by decide) hi _ _) ?_
    generalize up S7 77 ((a1 + 1) + a2) 0 = S9 at hw ⊢
    refine wp_st (pc' := 71) (L' := [some (.ref 65), some (.int (nI a1)), some (.int (nI a2)), some (.int x1)]) (st' := [.int 1]) (h' := Hp S9) 1 (fun Z => rfl) ?_
    exact wp_ret (fun Z => rfl) ⟨_, _, rfl, rfl, hw⟩
set_option maxRecDepth 4000 in
theorem w_m_bursts {E : zX} {d : Nat} {S : St} {a1 : Nat} {a2 : Nat} {Q : Int32 → St → Prop} (hd : 1 ≤ d) 
    (hw : if (S 65 6) = (-1) then (
      ((a1 + 49) + a2) < 158 ∧
      if (S 77 ((a1 + 49) + a2)) < 10 then (
        Q (0 : Int32) S)
      else (
        Q (1 : Int32) S))
    else (
      k_m_bursts_35 E d S a1 a2 0 0 Q)) :
    k_m_bursts E d S (nI a1) (nI a2) Q := by
  obtain ⟨d, rfl⟩ := Nat.exists_eq_add_of_le' hd
  show wp E (d + 1) m_m_bursts 0 [some (.ref 65), some (.int (nI a1)), some (.int (nI a2)), none, none] [] (Hp S) (QI Q)
  refine wp_st (pc' := 1) (L' := [some (.ref 65), some (.int (nI a1)), some (.int (nI a2)), none, none]) (st' := [.ref 65]) (h' := Hp S) 1 (fun Z => rfl) ?_
  refine wp_st (pc' := 4) (L' := [some (.ref 65), some (.int (nI a1)), some (.int (nI a2)), none, none]) (st' := [.int (S 65 6)]) (h' := Hp S) 1 (fun Z => gfI (E := E) sh65 rfl _) ?_
  refine wp_st (pc' := 5) (L' := [some (.ref 65), some (.int (nI a1)), some (.int (nI a2)), none, none]) (st' := [.int (-1), .int (S 65 6)]) (h' := Hp S) 1 (fun Z => congrArg (fun v => Z (d + 1) m_m_bursts 5 [some (.ref 65), some (.int (nI a1)), some (.int (nI a2)), none, none] [.int v, .int (S 65 6)] (Hp S)) (show Int32.ofInt (-1) = (-1) by decide)) ?_
  by_cases hc : (S 65 6) = (-1)
  · rw [if_pos hc] at hw
    refine wp_st (pc' := 8) (L' := [some (.ref 65), some (.int (nI a1)), some (.int (nI a2)), none, none]) (st' := []) (h' := Hp S) 1 (fun Z => if_pos hc) ?_
    refine wp_st (pc' := 9) (L' := [some (.ref 65), some (.int (nI a1)), some (.int (nI a2)), none, none]) (st' := [.ref 65]) (h' := Hp S) 1 (fun Z => rfl) ?_
    refine wp_st (pc' := 12) (L' := [some (.ref 65), some (.int (nI a1)), some (.int (nI a2)), none, none]) (st' := [.ref 77]) (h' := Hp S) 1 (fun Z => gfR (E := E) sh65 rfl _) ?_
    refine wp_st (pc' := 15) (L' := [some (.ref 65), some (.int (nI a1)), some (.int (nI a2)), none, none]) (st' := [.int 49, .int (nI a1), .ref 77]) (h' := Hp S) 2 (fun Z => rfl) ?_
    refine wp_st (pc' := 16) (L' := [some (.ref 65), some (.int (nI a1)), some (.int (nI a2)), none, none]) (st' := [.int (nI (a1 + 49)), .ref 77]) (h' := Hp S) 1 (fun Z => by rw [← nI_add a1 49]; rfl) ?_
    refine wp_st (pc' := 17) (L' := [some (.ref 65), some (.int (nI a1)), some (.int (nI a2)), none, none]) (st' := [.int (nI a2), .int (nI (a1 + 49)), .ref 77]) (h' := Hp S) 1 (fun Z => rfl) ?_
    refine wp_st (pc' := 18) (L' := [some (.ref 65), some (.int (nI a1)), some (.int (nI a2)), none, none]) (st' := [.int (nI ((a1 + 49) + a2)), .ref 77]) (h' := Hp S) 1 (fun Z => by rw [← nI_add (a1 + 49) a2]; rfl) ?_
    obtain ⟨hi, hw⟩ := hw
    refine wp_st (pc' := 19) (L' := [some (.ref 65), some (.int (nI a1)), some (.int (nI a2)), none, none]) (st' := [.int (S 77 ((a1 + 49) + a2))]) (h' := Hp S) 1 (fun Z => ldN (E := E) sh77 (by decide) hi [] (fun st => Z (d + 1) m_m_bursts 19 [some (.ref 65), some (.int (nI a1)), some (.int (nI a2)), none, none] st (Hp S))) ?_
    refine wp_st (pc' := 21) (L' := [some (.ref 65), some (.int (nI a1)), some (.int (nI a2)), none, none]) (st' := [.int 10, .int (S 77 ((a1 + 49) + a2))]) (h' := Hp S) 1 (fun Z => rfl) ?_
    by_cases hc : (S 77 ((a1 + 49) + a2)) < 10
    · rw [if_pos hc] at hw
      refine wp_st (pc' := 28) (L' := [some (.ref 65), some (.int (nI a1)), some (.int (nI a2)), none, none]) (st' := []) (h' := Hp S) 1 (fun Z => if_pos hc) ?_
      refine wp_st (pc' := 29) (L' := [some (.ref 65), some (.int (nI a1)), some (.int (nI a2)), none, none]) (st' := [.int 0]) (h' := Hp S) 1 (fun Z => rfl) ?_
      exact wp_ret (fun Z => rfl) ⟨_, _, rfl, rfl, hw⟩
    · rw [if_neg hc] at hw
      refine wp_st (pc' := 24) (L' := [some (.ref 65), some (.int (nI a1)), some (.int (nI a2)), none, none]) (st' := []) (h' := Hp S) 1 (fun Z => if_neg hc) ?_
      refine wp_st (pc' := 29) (L' := [some (.ref 65), some (.int (nI a1)), some (.int (nI a2)), none, none]) (st' := [.int 1]) (h' := Hp S) 2 (fun Z => rfl) ?_
      exact wp_ret (fun Z => rfl) ⟨_, _, rfl, rfl, hw⟩
  · rw [if_neg hc] at hw
    refine wp_st (pc' := 30) (L' := [some (.ref 65), some (.int (nI a1)), some (.int (nI a2)), none, none]) (st' := []) (h' := Hp S) 1 (fun Z => if_neg hc) ?_
    exact wp_st 4 (fun Z => rfl) (show wp E (d + 1) m_m_bursts 35 [some (.ref 65), some (.int (nI a1)), some (.int (nI a2)), some (.int 0), some (.int 0)] [] (Hp S) (QI Q) from hw)
set_option maxRecDepth 4000 in
theorem w_m_bursts_35 {E : zX} {d : Nat} {S : St} {a1 : Nat} {a2 : Nat} {a3 : Int32} {a4 : Nat} {Q : Int32 → St → Prop} (hd : 1 ≤ d) 
    (hw : if (S 65 4) ≤ (nI a4) then (
      ((a1 + 39) + a2) < 158 ∧
      ∀ S1, S1 = up S 79 5 (S 77 ((a1 + 39) + a2)) →
      a2 < 10 ∧
      ∀ S2, S2 = up S1 79 6 (S1 67 a2) →
      ((a1 + 49) + a2) < 158 ∧
      ∀ S3, S3 = up S2 79 7 (S2 77 ((a1 + 49) + a2)) →
      ∀ S4, S4 = up S3 79 8 a3 →
      (a1 + 0) < 158 ∧
      ∀ S5, S5 = up S4 79 4 (S4 77 (a1 + 0)) →
      k_m_reckons E (d - 1) S5 (S5 65 6) (fun x6 S7 =>
      if x6 ≤ 0 then (
        Q (0 : Int32) S7)
      else (
        Q (1 : Int32) S7)))
    else (
      if (nI a4) = (nI a2) then (
        k_m_bursts_35 E d S a1 a2 (a3 + (0 : Int32)) (a4 + 1) Q)
      else (
        k_m_isWhite E (d - 1) S (nI a1) (nI a4) (fun x8 S9 =>
        if x8 = 0 then (
          ((a1 + 29) + a4) < 158 ∧
          k_m_isIn E (d - 1) S9 (nI a1) (nI a2) (S9 77 ((a1 + 29) + a4)) (fun x10 S11 =>
          if x10 = 0 then (
            k_m_bursts_35 E d S11 a1 a2 (a3 + (0 : Int32)) (a4 + 1) Q)
          else (
            k_m_bursts_35 E d S11 a1 a2 (a3 + (1 : Int32)) (a4 + 1) Q)))
        else (
          k_m_bursts_35 E d S9 a1 a2 (a3 + (0 : Int32)) (a4 + 1) Q))))) :
    k_m_bursts_35 E d S a1 a2 a3 a4 Q := by
  obtain ⟨d, rfl⟩ := Nat.exists_eq_add_of_le' hd
  show wp E (d + 1) m_m_bursts 35 [some (.ref 65), some (.int (nI a1)), some (.int (nI a2)), some (.int a3), some (.int (nI a4))] [] (Hp S) (QI Q)
  refine wp_st (pc' := 38) (L' := [some (.ref 65), some (.int (nI a1)), some (.int (nI a2)), some (.int a3), some (.int (nI a4))]) (st' := [.ref 65, .int (nI a4)]) (h' := Hp S) 2 (fun Z => rfl) ?_
  refine wp_st (pc' := 41) (L' := [some (.ref 65), some (.int (nI a1)), some (.int (nI a2)), some (.int a3), some (.int (nI a4))]) (st' := [.int (S 65 4), .int (nI a4)]) (h' := Hp S) 1 (fun Z => gfI (E := E) sh65 rfl _) ?_
  by_cases hc : (S 65 4) ≤ (nI a4)
  · rw [if_pos hc] at hw
    refine wp_st (pc' := 95) (L' := [some (.ref 65), some (.int (nI a1)), some (.int (nI a2)), some (.int a3), some (.int (nI a4))]) (st' := []) (h' := Hp S) 1 (fun Z => if_pos hc) ?_
    refine wp_st (pc' := 96) (L' := [some (.ref 65), some (.int (nI a1)), some (.int (nI a2)), some (.int a3), some (.int (nI a4))]) (st' := [.ref 65]) (h' := Hp S) 1 (fun Z => rfl) ?_
    refine wp_st (pc' := 99) (L' := [some (.ref 65), some (.int (nI a1)), some (.int (nI a2)), some (.int a3), some (.int (nI a4))]) (st' := [.ref 79]) (h' := Hp S) 1 (fun Z => gfR (E := E) sh65 rfl _) ?_
    refine wp_st (pc' := 101) (L' := [some (.ref 65), some (.int (nI a1)), some (.int (nI a2)), some (.int a3), some (.int (nI a4))]) (st' := [.ref 65, .int 5, .ref 79]) (h' := Hp S) 2 (fun Z => rfl) ?_
    refine wp_st (pc' := 104) (L' := [some (.ref 65), some (.int (nI a1)), some (.int (nI a2)), some (.int a3), some (.int (nI a4))]) (st' := [.ref 77, .int 5, .ref 79]) (h' := Hp S) 1 (fun Z => gfR (E := E) sh65 rfl _) ?_
    refine wp_st (pc' := 107) (L' := [some (.ref 65), some (.int (nI a1)), some (.int (nI a2)), some (.int a3), some (.int (nI a4))]) (st' := [.int 39, .int (nI a1), .ref 77, .int 5, .ref 79]) (h' := Hp S) 2 (fun Z => rfl) ?_
    refine wp_st (pc' := 108) (L' := [some (.ref 65), some (.int (nI a1)), some (.int (nI a2)), some (.int a3), some (.int (nI a4))]) (st' := [.int (nI (a1 + 39)), .ref 77, .int 5, .ref 79]) (h' := Hp S) 1 (fun Z => by rw [← nI_add a1 39]; rfl) ?_
    refine wp_st (pc' := 109) (L' := [some (.ref 65), some (.int (nI a1)), some (.int (nI a2)), some (.int a3), some (.int (nI a4))]) (st' := [.int (nI a2), .int (nI (a1 + 39)), .ref 77, .int 5, .ref 79]) (h' := Hp S) 1 (fun Z => rfl) ?_
    refine wp_st (pc' := 110) (L' := [some (.ref 65), some (.int (nI a1)), some (.int (nI a2)), some (.int a3), some (.int (nI a4))]) (st' := [.int (nI ((a1 + 39) + a2)), .ref 77, .int 5, .ref 79]) (h' := Hp S) 1 (fun Z => by rw [← nI_add (a1 + 39) a2]; rfl) ?_
    obtain ⟨hi, hw⟩ := hw
    refine wp_st (pc' := 111) (L' := [some (.ref 65), some (.int (nI a1)), some (.int (nI a2)), some (.int a3), some (.int (nI a4))]) (st' := [.int (S 77 ((a1 + 39) + a2)), .int 5, .ref 79]) (h' := Hp S) 1 (fun Z => ldN (E := E) sh77 (by decide) hi [.int 5, .ref 79] (fun st => Z (d + 1) m_m_bursts 111 [some (.ref 65), some (.int (nI a1)), some (.int (nI a2)), some (.int a3), some (.int (nI a4))] st (Hp S))) ?_
    have hw := hw _ rfl
    refine wp_st (pc' := 112) (L' := [some (.ref 65), some (.int (nI a1)), some (.int (nI a2)), some (.int a3), some (.int (nI a4))]) (st' := []) (h' := Hp (up S 79 5 (S 77 ((a1 + 39) + a2)))) 1 (fun Z => stN sh79 (by decide) (by decide) _ _) ?_
    generalize up S 79 5 (S 77 ((a1 + 39) + a2)) = S1 at hw ⊢
    refine wp_st (pc' := 113) (L' := [some (.ref 65), some (.int (nI a1)), some (.int (nI a2)), some (.int a3), some (.int (nI a4))]) (st' := [.ref 65]) (h' := Hp S1) 1 (fun Z => rfl) ?_
    refine wp_st (pc' := 116) (L' := [some (.ref 65), some (.int (nI a1)), some (.int (nI a2)), some (.int a3), some (.int (nI a4))]) (st' := [.ref 79]) (h' := Hp S1) 1 (fun Z => gfR (E := E) sh65 rfl _) ?_
    refine wp_st (pc' := 119) (L' := [some (.ref 65), some (.int (nI a1)), some (.int (nI a2)), some (.int a3), some (.int (nI a4))]) (st' := [.ref 65, .int 6, .ref 79]) (h' := Hp S1) 2 (fun Z => rfl) ?_
    refine wp_st (pc' := 122) (L' := [some (.ref 65), some (.int (nI a1)), some (.int (nI a2)), some (.int a3), some (.int (nI a4))]) (st' := [.ref 67, .int 6, .ref 79]) (h' := Hp S1) 1 (fun Z => gfR (E := E) sh65 rfl _) ?_
    refine wp_st (pc' := 123) (L' := [some (.ref 65), some (.int (nI a1)), some (.int (nI a2)), some (.int a3), some (.int (nI a4))]) (st' := [.int (nI a2), .ref 67, .int 6, .ref 79]) (h' := Hp S1) 1 (fun Z => rfl) ?_
    obtain ⟨hi, hw⟩ := hw
    refine wp_st (pc' := 124) (L' := [some (.ref 65), some (.int (nI a1)), some (.int (nI a2)), some (.int a3), some (.int (nI a4))]) (st' := [.int (S1 67 a2), .int 6, .ref 79]) (h' := Hp S1) 1 (fun Z => ldN (E := E) sh67 (by decide) hi [.int 6, .ref 79] (fun st => Z (d + 1) m_m_bursts 124 [some (.ref 65), some (.int (nI a1)), some (.int (nI a2)), some (.int a3), some (.int (nI a4))] st (Hp S1))) ?_
    have hw := hw _ rfl
    refine wp_st (pc' := 125) (L' := [some (.ref 65), some (.int (nI a1)), some (.int (nI a2)), some (.int a3), some (.int (nI a4))]) (st' := []) (h' := Hp (up S1 79 6 (S1 67 a2))) 1 (fun Z => stN sh79 (by decide) (by decide) _ _) ?_
    generalize up S1 79 6 (S1 67 a2) = S2 at hw ⊢
    refine wp_st (pc' := 126) (L' := [some (.ref 65), some (.int (nI a1)), some (.int (nI a2)), some (.int a3), some (.int (nI a4))]) (st' := [.ref 65]) (h' := Hp S2) 1 (fun Z => rfl) ?_
    refine wp_st (pc' := 129) (L' := [some (.ref 65), some (.int (nI a1)), some (.int (nI a2)), some (.int a3), some (.int (nI a4))]) (st' := [.ref 79]) (h' := Hp S2) 1 (fun Z => gfR (E := E) sh65 rfl _) ?_
    refine wp_st (pc' := 132) (L' := [some (.ref 65), some (.int (nI a1)), some (.int (nI a2)), some (.int a3), some (.int (nI a4))]) (st' := [.ref 65, .int 7, .ref 79]) (h' := Hp S2) 2 (fun Z => rfl) ?_
    refine wp_st (pc' := 135) (L' := [some (.ref 65), some (.int (nI a1)), some (.int (nI a2)), some (.int a3), some (.int (nI a4))]) (st' := [.ref 77, .int 7, .ref 79]) (h' := Hp S2) 1 (fun Z => gfR (E := E) sh65 rfl _) ?_
    refine wp_st (pc' := 138) (L' := [some (.ref 65), some (.int (nI a1)), some (.int (nI a2)), some (.int a3), some (.int (nI a4))]) (st' := [.int 49, .int (nI a1), .ref 77, .int 7, .ref 79]) (h' := Hp S2) 2 (fun Z => rfl) ?_
    refine wp_st (pc' := 139) (L' := [some (.ref 65), some (.int (nI a1)), some (.int (nI a2)), some (.int a3), some (.int (nI a4))]) (st' := [.int (nI (a1 + 49)), .ref 77, .int 7, .ref 79]) (h' := Hp S2) 1 (fun Z => by rw [← nI_add a1 49]; rfl) ?_
    refine wp_st (pc' := 140) (L' := [some (.ref 65), some (.int (nI a1)), some (.int (nI a2)), some (.int a3), some (.int (nI a4))]) (st' := [.int (nI a2), .int (nI (a1 + 49)), .ref 77, .int 7, .ref 79]) (h' := Hp S2) 1 (fun Z => rfl) ?_
    refine wp_st (pc' := 141) (L' := [some (.ref 65), some (.int (nI a1)), some (.int (nI a2)), some (.int a3), some (.int (nI a4))]) (st' := [.int (nI ((a1 + 49) + a2)), .ref 77, .int 7, .ref 79]) (h' := Hp S2) 1 (fun Z => by rw [← nI_add (a1 + 49) a2]; rfl) ?_
    obtain ⟨hi, hw⟩ := hw
    refine wp_st (pc' := 142) (L' := [some (.ref 65), some (.int (nI a1)), some (.int (nI a2)), some (.int a3), some (.int (nI a4))]) (st' := [.int (S2 77 ((a1 + 49) + a2)), .int 7, .ref 79]) (h' := Hp S2) 1 (fun Z => ldN (E := E) sh77 (by decide) hi [.int 7, .ref 79] (fun st => Z (d + 1) m_m_bursts 142 [some (.ref 65), some (.int (nI a1)), some (.int (nI a2)), some (.int a3), some (.int (nI a4))] st (Hp S2))) ?_
    have hw := hw _ rfl
    refine wp_st (pc' := 143) (L' := [some (.ref 65), some (.int (nI a1)), some (.int (nI a2)), some (.int a3), some (.int (nI a4))]) (st' := []) (h' := Hp (up S2 79 7 (S2 77 ((a1 + 49) + a2)))) 1 (fun Z => stN sh79 (by decide) (by decide) _ _) ?_
    generalize up S2 79 7 (S2 77 ((a1 + 49) + a2)) = S3 at hw ⊢
    refine wp_st (pc' := 144) (L' := [some (.ref 65), some (.int (nI a1)), some (.int (nI a2)), some (.int a3), some (.int (nI a4))]) (st' := [.ref 65]) (h' := Hp S3) 1 (fun Z => rfl) ?_
    refine wp_st (pc' := 147) (L' := [some (.ref 65), some (.int (nI a1)), some (.int (nI a2)), some (.int a3), some (.int (nI a4))]) (st' := [.ref 79]) (h' := Hp S3) 1 (fun Z => gfR (E := E) sh65 rfl _) ?_
    refine wp_st (pc' := 150) (L' := [some (.ref 65), some (.int (nI a1)), some (.int (nI a2)), some (.int a3), some (.int (nI a4))]) (st' := [.int a3, .int 8, .ref 79]) (h' := Hp S3) 2 (fun Z => rfl) ?_
    have hw := hw _ rfl
    refine wp_st (pc' := 151) (L' := [some (.ref 65), some (.int (nI a1)), some (.int (nI a2)), some (.int a3), some (.int (nI a4))]) (st' := []) (h' := Hp (up S3 79 8 a3)) 1 (fun Z => stN sh79 (by decide) (by decide) _ _) ?_
    generalize up S3 79 8 a3 = S4 at hw ⊢
    refine wp_st (pc' := 152) (L' := [some (.ref 65), some (.int (nI a1)), some (.int (nI a2)), some (.int a3), some (.int (nI a4))]) (st' := [.ref 65]) (h' := Hp S4) 1 (fun Z => rfl) ?_
    refine wp_st (pc' := 155) (L' := [some (.ref 65), some (.int (nI a1)), some (.int (nI a2)), some (.int a3), some (.int (nI a4))]) (st' := [.ref 79]) (h' := Hp S4) 1 (fun Z => gfR (E := E) sh65 rfl _) ?_
    refine wp_st (pc' := 157) (L' := [some (.ref 65), some (.int (nI a1)), some (.int (nI a2)), some (.int a3), some (.int (nI a4))]) (st' := [.ref 65, .int 4, .ref 79]) (h' := Hp S4) 2 (fun Z => rfl) ?_
    refine wp_st (pc' := 160) (L' := [some (.ref 65), some (.int (nI a1)), some (.int (nI a2)), some (.int a3), some (.int (nI a4))]) (st' := [.ref 77, .int 4, .ref 79]) (h' := Hp S4) 1 (fun Z => gfR (E := E) sh65 rfl _) ?_
    refine wp_st (pc' := 162) (L' := [some (.ref 65), some (.int (nI a1)), some (.int (nI a2)), some (.int a3), some (.int (nI a4))]) (st' := [.int 0, .int (nI a1), .ref 77, .int 4, .ref 79]) (h' := Hp S4) 2 (fun Z => rfl) ?_
    refine wp_st (pc' := 163) (L' := [some (.ref 65), some (.int (nI a1)), some (.int (nI a2)), some (.int a3), some (.int (nI a4))]) (st' := [.int (nI (a1 + 0)), .ref 77, .int 4, .ref 79]) (h' := Hp S4) 1 (fun Z => by rw [← nI_add a1 0]; rfl) ?_
    obtain ⟨hi, hw⟩ := hw
    refine wp_st (pc' := 164) (L' := [some (.ref 65), some (.int (nI a1)), some (.int (nI a2)), some (.int a3), some (.int (nI a4))]) (st' := [.int (S4 77 (a1 + 0)), .int 4, .ref 79]) (h' := Hp S4) 1 (fun Z => ldN (E := E) sh77 (by decide) hi [.int 4, .ref 79] (fun st => Z (d + 1) m_m_bursts 164 [some (.ref 65), some (.int (nI a1)), some (.int (nI a2)), some (.int a3), some (.int (nI a4))] st (Hp S4))) ?_
    have hw := hw _ rfl
    refine wp_st (pc' := 165) (L' := [some (.ref 65), some (.int (nI a1)), some (.int (nI a2)), some (.int a3), some (.int (nI a4))]) (st' := []) (h' := Hp (up S4 79 4 (S4 77 (a1 + 0)))) 1 (fun Z => stN sh79 (by decide) (by decide) _ _) ?_
    generalize up S4 79 4 (S4 77 (a1 + 0)) = S5 at hw ⊢
    refine wp_st (pc' := 167) (L' := [some (.ref 65), some (.int (nI a1)), some (.int (nI a2)), some (.int a3), some (.int (nI a4))]) (st' := [.ref 65, .ref 65]) (h' := Hp S5) 2 (fun Z => rfl) ?_
    refine wp_st (pc' := 170) (L' := [some (.ref 65), some (.int (nI a1)), some (.int (nI a2)), some (.int a3), some (.int (nI a4))]) (st' := [.int (S5 65 6), .ref 65]) (h' := Hp S5) 1 (fun Z => gfI (E := E) sh65 rfl _) ?_
    refine wp_call (pc' := 173) (rest := []) (fun Z => rfl) (isO_of sh65) hw ?_
    rintro o h1 ⟨x6, S7, rfl, rfl, hw⟩
    refine ⟨_, rfl, ?_⟩
    show wp E (d + 1) m_m_bursts 173 [some (.ref 65), some (.int (nI a1)), some (.int (nI a2)), some (.int a3), some (.int (nI a4))] [.int x6] (Hp S7) (QI Q)
    by_cases hc : x6 ≤ 0
    · rw [if_pos hc] at hw
      refine wp_st (pc' := 180) (L' := [some (.ref 65), some (.int (nI a1)), some (.int (nI a2)), some (.int a3), some (.int (nI a4))]) (st' := []) (h' := Hp S7) 1 (fun Z => if_pos hc) ?_
      refine wp_st (pc' := 181) (L' := [some (.ref 65), some (.int (nI a1)), some (.int (nI a2)), some (.int a3), some (.int (nI a4))]) (st' := [.int 0]) (h' := Hp S7) 1 (fun Z => rfl) ?_
      exact wp_ret (fun Z => rfl) ⟨_, _, rfl, rfl, hw⟩
    · rw [if_neg hc] at hw
      refine wp_st (pc' := 176) (L' := [some (.ref 65), some (.int (nI a1)), some (.int (nI a2)), some (.int a3), some (.int (nI a4))]) (st' := []) (h' := Hp S7) 1 (fun Z => if_neg hc) ?_
      refine wp_st (pc' := 181) (L' := [some (.ref 65), some (.int (nI a1)), some (.int (nI a2)), some (.int a3), some (.int (nI a4))]) (st' := [.int 1]) (h' := Hp S7) 2 (fun Z => rfl) ?_
      exact wp_ret (fun Z => rfl) ⟨_, _, rfl, rfl, hw⟩
  · rw [if_neg hc] at hw
    refine wp_st (pc' := 44) (L' := [some (.ref 65), some (.int (nI a1)), some (.int (nI a2)), some (.int a3), some (.int (nI a4))]) (st' := []) (h' := Hp S) 1 (fun Z => if_neg hc) ?_
    refine wp_st (pc' := 48) (L' := [some (.ref 65), some (.int (nI a1)), some (.int (nI a2)), some (.int a3), some (.int (nI a4))]) (st' := [.int (nI a2), .int (nI a4), .int a3]) (h' := Hp S) 3 (fun Z => rfl) ?_
    by_cases hc : (nI a4) = (nI a2)
    · rw [if_pos hc] at hw
      refine wp_st (pc' := 86) (L' := [some (.ref 65), some (.int (nI a1)), some (.int (nI a2)), some (.int a3), some (.int (nI a4))]) (st' := [.int a3]) (h' := Hp S) 1 (fun Z => if_pos hc) ?_
      refine wp_st (pc' := 89) (L' := [some (.ref 65), some (.int (nI a1)), some (.int (nI a2)), some (.int (a3 + (0 : Int32))), some (.int (nI a4))]) (st' := []) (h' := Hp S) 3 (fun Z => rfl) ?_
      refine wp_st (pc' := 92) (L' := [some (.ref 65), some (.int (nI a1)), some (.int (nI a2)), some (.int (a3 + (0 : Int32))), some (.int (nI (a4 + 1)))]) (st' := []) (h' := Hp S) 1 (fun Z => by rw [← nI_add a4 1]; rfl) ?_
      exact wp_st 1 (fun Z => rfl) (show wp E (d + 1) m_m_bursts 35 [some (.ref 65), some (.int (nI a1)), some (.int (nI a2)), some (.int (a3 + (0 : Int32))), some (.int (nI (a4 + 1)))] [] (Hp S) (QI Q) from hw)
    · rw [if_neg hc] at hw
      refine wp_st (pc' := 51) (L' := [some (.ref 65), some (.int (nI a1)), some (.int (nI a2)), some (.int a3), some (.int (nI a4))]) (st' := [.int a3]) (h' := Hp S) 1 (fun Z => if_neg hc) ?_
      refine wp_st (pc' := 55) (L' := [some (.ref 65), some (.int (nI a1)), some (.int (nI a2)), some (.int a3), some (.int (nI a4))]) (st' := [.int (nI a4), .int (nI a1), .ref 65, .int a3]) (h' := Hp S) 3 (fun Z => rfl) ?_
      refine wp_call (pc' := 58) (rest := [.int a3]) (fun Z => rfl) (isO_of sh65) hw ?_
      rintro o h1 ⟨x8, S9, rfl, rfl, hw⟩
      refine ⟨_, rfl, ?_⟩
      show wp E (d + 1) m_m_bursts 58 [some (.ref 65), some (.int (nI a1)), some (.int (nI a2)), some (.int a3), some (.int (nI a4))] [.int x8, .int a3] (Hp S9) (QI Q)
      by_cases hc : x8 = 0
      · rw [if_pos hc] at hw
        refine wp_st (pc' := 61) (L' := [some (.ref 65), some (.int (nI a1)), some (.int (nI a2)), some (.int a3), some (.int (nI a4))]) (st' := [.int a3]) (h' := Hp S9) 1 (fun Z => if_pos hc) ?_
        refine wp_st (pc' := 65) (L' := [some (.ref 65), some (.int (nI a1)), some (.int (nI a2)), some (.int a3), some (.int (nI a4))]) (st' := [.ref 65, .int (nI a2), .int (nI a1), .ref 65, .int a3]) (h' := Hp S9) 4 (fun Z => rfl) ?_
        refine wp_st (pc' := 68) (L' := [some (.ref 65), some (.int (nI a1)), some (.int (nI a2)), some (.int a3), some (.int (nI a4))]) (st' := [.ref 77, .int (nI a2), .int (nI a1), .ref 65, .int a3]) (h' := Hp S9) 1 (fun Z => gfR (E := E) sh65 rfl _) ?_
        refine wp_st (pc' := 71) (L' := [some (.ref 65), some (.int (nI a1)), some (.int (nI a2)), some (.int a3), some (.int (nI a4))]) (st' := [.int 29, .int (nI a1), .ref 77, .int (nI a2), .int (nI a1), .ref 65, .int a3]) (h' := Hp S9) 2 (fun Z => rfl) ?_
        refine wp_st (pc' := 72) (L' := [some (.ref 65), some (.int (nI a1)), some (.int (nI a2)), some (.int a3), some (.int (nI a4))]) (st' := [.int (nI (a1 + 29)), .ref 77, .int (nI a2), .int (nI a1), .ref 65, .int a3]) (h' := Hp S9) 1 (fun Z => by rw [← nI_add a1 29]; rfl) ?_
        refine wp_st (pc' := 74) (L' := [some (.ref 65), some (.int (nI a1)), some (.int (nI a2)), some (.int a3), some (.int (nI a4))]) (st' := [.int (nI a4), .int (nI (a1 + 29)), .ref 77, .int (nI a2), .int (nI a1), .ref 65, .int a3]) (h' := Hp S9) 1 (fun Z => rfl) ?_
        refine wp_st (pc' := 75) (L' := [some (.ref 65), some (.int (nI a1)), some (.int (nI a2)), some (.int a3), some (.int (nI a4))]) (st' := [.int (nI ((a1 + 29) + a4)), .ref 77, .int (nI a2), .int (nI a1), .ref 65, .int a3]) (h' := Hp S9) 1 (fun Z => by rw [← nI_add (a1 + 29) a4]; rfl) ?_
        obtain ⟨hi, hw⟩ := hw
        refine wp_st (pc' := 76) (L' := [some (.ref 65), some (.int (nI a1)), some (.int (nI a2)), some (.int a3), some (.int (nI a4))]) (st' := [.int (S9 77 ((a1 + 29) + a4)), .int (nI a2), .int (nI a1), .ref 65, .int a3]) (h' := Hp S9) 1 (fun Z => ldN (E := E) sh77 (by decide) hi [.int (nI a2), .int (nI a1), .ref 65, .int a3] (fun st => Z (d + 1) m_m_bursts 76 [some (.ref 65), some (.int (nI a1)), some (.int (nI a2)), some (.int a3), some (.int (nI a4))] st (Hp S9))) ?_
        refine wp_call (pc' := 79) (rest := [.int a3]) (fun Z => rfl) (isO_of sh65) hw ?_
        rintro o h1 ⟨x10, S11, rfl, rfl, hw⟩
        refine ⟨_, rfl, ?_⟩
        show wp E (d + 1) m_m_bursts 79 [some (.ref 65), some (.int (nI a1)), some (.int (nI a2)), some (.int a3), some (.int (nI a4))] [.int x10, .int a3] (Hp S11) (QI Q)
        by_cases hc : x10 = 0
        · rw [if_pos hc] at hw
          refine wp_st (pc' := 86) (L' := [some (.ref 65), some (.int (nI a1)), some (.int (nI a2)), some (.int a3), some (.int (nI a4))]) (st' := [.int a3]) (h' := Hp S11) 1 (fun Z => if_pos hc) ?_
          refine wp_st (pc' := 89) (L' := [some (.ref 65), some (.int (nI a1)), some (.int (nI a2)), some (.int (a3 + (0 : Int32))), some (.int (nI a4))]) (st' := []) (h' := Hp S11) 3 (fun Z => rfl) ?_
          refine wp_st (pc' := 92) (L' := [some (.ref 65), some (.int (nI a1)), some (.int (nI a2)), some (.int (a3 + (0 : Int32))), some (.int (nI (a4 + 1)))]) (st' := []) (h' := Hp S11) 1 (fun Z => by rw [← nI_add a4 1]; rfl) ?_
          exact wp_st 1 (fun Z => rfl) (show wp E (d + 1) m_m_bursts 35 [some (.ref 65), some (.int (nI a1)), some (.int (nI a2)), some (.int (a3 + (0 : Int32))), some (.int (nI (a4 + 1)))] [] (Hp S11) (QI Q) from hw)
        · rw [if_neg hc] at hw
          refine wp_st (pc' := 82) (L' := [some (.ref 65), some (.int (nI a1)), some (.int (nI a2)), some (.int a3), some (.int (nI a4))]) (st' := [.int a3]) (h' := Hp S11) 1 (fun Z => if_neg hc) ?_
          refine wp_st (pc' := 89) (L' := [some (.ref 65), some (.int (nI a1)), some (.int (nI a2)), some (.int (a3 + (1 : Int32))), some (.int (nI a4))]) (st' := []) (h' := Hp S11) 4 (fun Z => rfl) ?_
          refine wp_st (pc' := 92) (L' := [some (.ref 65), some (.int (nI a1)), some (.int (nI a2)), some (.int (a3 + (1 : Int32))), some (.int (nI (a4 + 1)))]) (st' := []) (h' := Hp S11) 1 (fun Z => by rw [← nI_add a4 1]; rfl) ?_
          exact wp_st 1 (fun Z => rfl) (show wp E (d + 1) m_m_bursts 35 [some (.ref 65), some (.int (nI a1)), some (.int (nI a2)), some (.int (a3 + (1 : Int32))), some (.int (nI (a4 + 1)))] [] (Hp S11) (QI Q) from hw)
      · rw [if_neg hc] at hw
        refine wp_st (pc' := 86) (L' := [some (.ref 65), some (.int (nI a1)), some (.int (nI a2)), some (.int a3), some (.int (nI a4))]) (st' := [.int a3]) (h' := Hp S9) 1 (fun Z => if_neg hc) ?_
        refine wp_st (pc' := 89) (L' := [some (.ref 65), some (.int (nI a1)), some (.int (nI a2)), some (.int (a3 + (0 : Int32))), some (.int (nI a4))]) (st' := []) (h' := Hp S9) 3 (fun Z => rfl) ?_
        refine wp_st (pc' := 92) (L' := [some (.ref 65), some (.int (nI a1)), some (.int (nI a2)), some (.int (a3 + (0 : Int32))), some (.int (nI (a4 + 1)))]) (st' := []) (h' := Hp S9) 1 (fun Z => by rw [← nI_add a4 1]; rfl) ?_
        exact wp_st 1 (fun Z => rfl) (show wp E (d + 1) m_m_bursts 35 [some (.ref 65), some (.int (nI a1)), some (.int (nI a2)), some (.int (a3 + (0 : Int32))), some (.int (nI (a4 + 1)))] [] (Hp S9) (QI Q) from hw)
set_option maxRecDepth 4000 in
theorem w_m_goOff {E : zX} {d : Nat} {S : St} {a1 : Nat} {a2 : Int32} {Q : Int32 → St → Prop} (hd : 1 ≤ d) 
    (hw : k_m_free E (d - 1) S (nI a1) (fun x1 S2 =>
    k_m_setOff E (d - 1) S2 (nI a1) a2 x1 (fun x3 S4 =>
    k_m_goOff_15 E d S4 a1 x3 0 Q))) :
    k_m_goOff E d S (nI a1) a2 Q := by
  obtain ⟨d, rfl⟩ := Nat.exists_eq_add_of_le' hd
  show wp E (d + 1) m_m_goOff 0 [some (.ref 65), some (.int (nI a1)), some (.int a2), none, none, none, none] [] (Hp S) (QI Q)
  refine wp_st (pc' := 5) (L' := [some (.ref 65), some (.int (nI a1)), some (.int a2), none, none, none, none]) (st' := [.int (nI a1), .ref 65, .int a2, .int (nI a1), .ref 65]) (h' := Hp S) 5 (fun Z => rfl) ?_
  refine wp_call (pc' := 8) (rest := [.int a2, .int (nI a1), .ref 65]) (fun Z => rfl) (isO_of sh65) hw ?_
  rintro o h1 ⟨x1, S2, rfl, rfl, hw⟩
  refine ⟨_, rfl, ?_⟩
  show wp E (d + 1) m_m_goOff 8 [some (.ref 65), some (.int (nI a1)), some (.int a2), none, none, none, none] [.int x1, .int a2, .int (nI a1), .ref 65] (Hp S2) (QI Q)
  refine wp_call (pc' := 11) (rest := []) (fun Z => rfl) (isO_of sh65) hw ?_
  rintro o h1 ⟨x3, S4, rfl, rfl, hw⟩
  refine ⟨_, rfl, ?_⟩
  show wp E (d + 1) m_m_goOff 11 [some (.ref 65), some (.int (nI a1)), some (.int a2), none, none, none, none] [.int x3] (Hp S4) (QI Q)
  exact wp_st 3 (fun Z => rfl) (show wp E (d + 1) m_m_goOff 15 [some (.ref 65), some (.int (nI a1)), some (.int a2), some (.int x3), some (.int 0), none, none] [] (Hp S4) (QI Q) from (hw (some (.int a2)) none none))
set_option maxRecDepth 4000 in
theorem w_m_goOff_15 {E : zX} {d : Nat} {S : St} {a1 : Nat} {a3 : Int32} {a4 : Nat} {Q : Int32 → St → Prop} (hd : 1 ≤ d) 
    (hw : if (S 65 3) ≤ (nI a4) then (
      k_m_goOff_156 E d S a1 a3 0 Q)
    else (
      k_m_goOff_30 E d S a1 a3 a4 0 0 Q)) :
    k_m_goOff_15 E d S a1 a3 a4 Q := by
  obtain ⟨d, rfl⟩ := Nat.exists_eq_add_of_le' hd
  intro j2 j5 j6
  show wp E (d + 1) m_m_goOff 15 [some (.ref 65), some (.int (nI a1)), j2, some (.int a3), some (.int (nI a4)), j5, j6] [] (Hp S) (QI Q)
  refine wp_st (pc' := 18) (L' := [some (.ref 65), some (.int (nI a1)), j2, some (.int a3), some (.int (nI a4)), j5, j6]) (st' := [.ref 65, .int (nI a4)]) (h' := Hp S) 2 (fun Z => rfl) ?_
  refine wp_st (pc' := 21) (L' := [some (.ref 65), some (.int (nI a1)), j2, some (.int a3), some (.int (nI a4)), j5, j6]) (st' := [.int (S 65 3), .int (nI a4)]) (h' := Hp S) 1 (fun Z => gfI (E := E) sh65 rfl _) ?_
  by_cases hc : (S 65 3) ≤ (nI a4)
  · rw [if_pos hc] at hw
    refine wp_st (pc' := 153) (L' := [some (.ref 65), some (.int (nI a1)), j2, some (.int a3), some (.int (nI a4)), j5, j6]) (st' := []) (h' := Hp S) 1 (fun Z => if_pos hc) ?_
    exact wp_st 2 (fun Z => rfl) (show wp E (d + 1) m_m_goOff 156 [some (.ref 65), some (.int (nI a1)), j2, some (.int a3), some (.int 0), j5, j6] [] (Hp S) (QI Q) from (hw j2 j5 j6))
  · rw [if_neg hc] at hw
    refine wp_st (pc' := 24) (L' := [some (.ref 65), some (.int (nI a1)), j2, some (.int a3), some (.int (nI a4)), j5, j6]) (st' := []) (h' := Hp S) 1 (fun Z => if_neg hc) ?_
    exact wp_st 4 (fun Z => rfl) (show wp E (d + 1) m_m_goOff 30 [some (.ref 65), some (.int (nI a1)), j2, some (.int a3), some (.int (nI a4)), some (.int 0), some (.int 0)] [] (Hp S) (QI Q) from (hw j2))
set_option maxRecDepth 4000 in
theorem w_m_goOff_30 {E : zX} {d : Nat} {S : St} {a1 : Nat} {a3 : Int32} {a4 : Nat} {a5 : Int32} {a6 : Nat} {Q : Int32 → St → Prop} (hd : 1 ≤ d) 
    (hw : if (S 65 4) ≤ (nI a6) then (
      ((a1 + 15) + a4) < 158 ∧
      k_m_lesser E (d - 1) S 9999 ((S 77 ((a1 + 15) + a4)) + a5) (fun x1 S2 =>
      ((a1 + 15) + a4) < 158 ∧
      ∀ S3, S3 = up S2 77 ((a1 + 15) + a4) x1 →
      ((a1 + 1) + a4) < 158 ∧
      k_m_lesser E (d - 1) S3 99 ((S3 77 ((a1 + 1) + a4)) + ((5 : Int32) * a5)) (fun x4 S5 =>
      ((a1 + 1) + a4) < 158 ∧
      ∀ S6, S6 = up S5 77 ((a1 + 1) + a4) x4 →
      k_m_goOff_15 E d S6 a1 a3 (a4 + 1) Q)))
    else (
      if ((a3 >>> ((nI a6) &&& 31)) &&& (1 : Int32)) = 1 then (
        a4 < 7 ∧
        k_m_isIn E (d - 1) S (nI a1) (nI a6) (S 66 a4) (fun x7 S8 =>
        if x7 = 0 then (
          k_m_goOff_30 E d S8 a1 a3 a4 (a5 + (0 : Int32)) (a6 + 1) Q)
        else (
          k_m_goOff_30 E d S8 a1 a3 a4 (a5 + (1 : Int32)) (a6 + 1) Q)))
      else (
        k_m_goOff_30 E d S a1 a3 a4 (a5 + (0 : Int32)) (a6 + 1) Q))) :
    k_m_goOff_30 E d S a1 a3 a4 a5 a6 Q := by
  obtain ⟨d, rfl⟩ := Nat.exists_eq_add_of_le' hd
  intro j2
  show wp E (d + 1) m_m_goOff 30 [some (.ref 65), some (.int (nI a1)), j2, some (.int a3), some (.int (nI a4)), some (.int a5), some (.int (nI a6))] [] (Hp S) (QI Q)
  refine wp_st (pc' := 33) (L' := [some (.ref 65), some (.int (nI a1)), j2, some (.int a3), some (.int (nI a4)), some (.int a5), some (.int (nI a6))]) (st' := [.ref 65, .int (nI a6)]) (h' := Hp S) 2 (fun Z => rfl) ?_
  refine wp_st (pc' := 36) (L' := [some (.ref 65), some (.int (nI a1)), j2, some (.int a3), some (.int (nI a4)), some (.int a5), some (.int (nI a6))]) (st' := [.int (S 65 4), .int (nI a6)]) (h' := Hp S) 1 (fun Z => gfI (E := E) sh65 rfl _) ?_
  by_cases hc : (S 65 4) ≤ (nI a6)
  · rw [if_pos hc] at hw
    refine wp_st (pc' := 82) (L' := [some (.ref 65), some (.int (nI a1)), j2, some (.int a3), some (.int (nI a4)), some (.int a5), some (.int (nI a6))]) (st' := []) (h' := Hp S) 1 (fun Z => if_pos hc) ?_
    refine wp_st (pc' := 83) (L' := [some (.ref 65), some (.int (nI a1)), j2, some (.int a3), some (.int (nI a4)), some (.int a5), some (.int (nI a6))]) (st' := [.ref 65]) (h' := Hp S) 1 (fun Z => rfl) ?_
    refine wp_st (pc' := 86) (L' := [some (.ref 65), some (.int (nI a1)), j2, some (.int a3), some (.int (nI a4)), some (.int a5), some (.int (nI a6))]) (st' := [.ref 77]) (h' := Hp S) 1 (fun Z => gfR (E := E) sh65 rfl _) ?_
    refine wp_st (pc' := 89) (L' := [some (.ref 65), some (.int (nI a1)), j2, some (.int a3), some (.int (nI a4)), some (.int a5), some (.int (nI a6))]) (st' := [.int 15, .int (nI a1), .ref 77]) (h' := Hp S) 2 (fun Z => rfl) ?_
    refine wp_st (pc' := 90) (L' := [some (.ref 65), some (.int (nI a1)), j2, some (.int a3), some (.int (nI a4)), some (.int a5), some (.int (nI a6))]) (st' := [.int (nI (a1 + 15)), .ref 77]) (h' := Hp S) 1 (fun Z => by rw [← nI_add a1 15]; rfl) ?_
    refine wp_st (pc' := 92) (L' := [some (.ref 65), some (.int (nI a1)), j2, some (.int a3), some (.int (nI a4)), some (.int a5), some (.int (nI a6))]) (st' := [.int (nI a4), .int (nI (a1 + 15)), .ref 77]) (h' := Hp S) 1 (fun Z => rfl) ?_
    refine wp_st (pc' := 93) (L' := [some (.ref 65), some (.int (nI a1)), j2, some (.int a3), some (.int (nI a4)), some (.int a5), some (.int (nI a6))]) (st' := [.int (nI ((a1 + 15) + a4)), .ref 77]) (h' := Hp S) 1 (fun Z => by rw [← nI_add (a1 + 15) a4]; rfl) ?_
    refine wp_st (pc' := 97) (L' := [some (.ref 65), some (.int (nI a1)), j2, some (.int a3), some (.int (nI a4)), some (.int a5), some (.int (nI a6))]) (st' := [.ref 65, .int 9999, .int (nI ((a1 + 15) + a4)), .ref 77]) (h' := Hp S) 2 (fun Z => rfl) ?_
    refine wp_st (pc' := 100) (L' := [some (.ref 65), some (.int (nI a1)), j2, some (.int a3), some (.int (nI a4)), some (.int a5), some (.int (nI a6))]) (st' := [.ref 77, .int 9999, .int (nI ((a1 + 15) + a4)), .ref 77]) (h' := Hp S) 1 (fun Z => gfR (E := E) sh65 rfl _) ?_
    refine wp_st (pc' := 103) (L' := [some (.ref 65), some (.int (nI a1)), j2, some (.int a3), some (.int (nI a4)), some (.int a5), some (.int (nI a6))]) (st' := [.int 15, .int (nI a1), .ref 77, .int 9999, .int (nI ((a1 + 15) + a4)), .ref 77]) (h' := Hp S) 2 (fun Z => rfl) ?_
    refine wp_st (pc' := 104) (L' := [some (.ref 65), some (.int (nI a1)), j2, some (.int a3), some (.int (nI a4)), some (.int a5), some (.int (nI a6))]) (st' := [.int (nI (a1 + 15)), .ref 77, .int 9999, .int (nI ((a1 + 15) + a4)), .ref 77]) (h' := Hp S) 1 (fun Z => by rw [← nI_add a1 15]; rfl) ?_
    refine wp_st (pc' := 106) (L' := [some (.ref 65), some (.int (nI a1)), j2, some (.int a3), some (.int (nI a4)), some (.int a5), some (.int (nI a6))]) (st' := [.int (nI a4), .int (nI (a1 + 15)), .ref 77, .int 9999, .int (nI ((a1 + 15) + a4)), .ref 77]) (h' := Hp S) 1 (fun Z => rfl) ?_
    refine wp_st (pc' := 107) (L' := [some (.ref 65), some (.int (nI a1)), j2, some (.int a3), some (.int (nI a4)), some (.int a5), some (.int (nI a6))]) (st' := [.int (nI ((a1 + 15) + a4)), .ref 77, .int 9999, .int (nI ((a1 + 15) + a4)), .ref 77]) (h' := Hp S) 1 (fun Z => by rw [← nI_add (a1 + 15) a4]; rfl) ?_
    obtain ⟨hi, hw⟩ := hw
    refine wp_st (pc' := 108) (L' := [some (.ref 65), some (.int (nI a1)), j2, some (.int a3), some (.int (nI a4)), some (.int a5), some (.int (nI a6))]) (st' := [.int (S 77 ((a1 + 15) + a4)), .int 9999, .int (nI ((a1 + 15) + a4)), .ref 77]) (h' := Hp S) 1 (fun Z => ldN (E := E) sh77 (by decide) hi [.int 9999, .int (nI ((a1 + 15) + a4)), .ref 77] (fun st => Z (d + 1) m_m_goOff 108 [some (.ref 65), some (.int (nI a1)), j2, some (.int a3), some (.int (nI a4)), some (.int a5), some (.int (nI a6))] st (Hp S))) ?_
    refine wp_st (pc' := 111) (L' := [some (.ref 65), some (.int (nI a1)), j2, some (.int a3), some (.int (nI a4)), some (.int a5), some (.int (nI a6))]) (st' := [.int ((S 77 ((a1 + 15) + a4)) + a5), .int 9999, .int (nI ((a1 + 15) + a4)), .ref 77]) (h' := Hp S) 2 (fun Z => rfl) ?_
    refine wp_call (pc' := 114) (rest := [.int (nI ((a1 + 15) + a4)), .ref 77]) (fun Z => rfl) rfl hw ?_
    rintro o h1 ⟨x1, S2, rfl, rfl, hw⟩
    refine ⟨_, rfl, ?_⟩
    show wp E (d + 1) m_m_goOff 114 [some (.ref 65), some (.int (nI a1)), j2, some (.int a3), some (.int (nI a4)), some (.int a5), some (.int (nI a6))] [.int x1, .int (nI ((a1 + 15) + a4)), .ref 77] (Hp S2) (QI Q)
    obtain ⟨hi, hw⟩ := hw
    have hw := hw _ rfl
    refine wp_st (pc' := 115) (L' := [some (.ref 65), some (.int (nI a1)), j2, some (.int a3), some (.int (nI a4)), some (.int a5), some (.int (nI a6))]) (st' := []) (h' := Hp (up S2 77 ((a1 + 15) + a4) x1)) 1 (fun Z => stN sh77 (by decide) hi _ _) ?_
    generalize up S2 77 ((a1 + 15) + a4) x1 = S3 at hw ⊢
    refine wp_st (pc' := 116) (L' := [some (.ref 65), some (.int (nI a1)), j2, some (.int a3), some (.int (nI a4)), some (.int a5), some (.int (nI a6))]) (st' := [.ref 65]) (h' := Hp S3) 1 (fun Z => rfl) ?_
    refine wp_st (pc' := 119) (L' := [some (.ref 65), some (.int (nI a1)), j2, some (.int a3), some (.int (nI a4)), some (.int a5), some (.int (nI a6))]) (st' := [.ref 77]) (h' := Hp S3) 1 (fun Z => gfR (E := E) sh65 rfl _) ?_
    refine wp_st (pc' := 121) (L' := [some (.ref 65), some (.int (nI a1)), j2, some (.int a3), some (.int (nI a4)), some (.int a5), some (.int (nI a6))]) (st' := [.int 1, .int (nI a1), .ref 77]) (h' := Hp S3) 2 (fun Z => rfl) ?_
    refine wp_st (pc' := 122) (L' := [some (.ref 65), some (.int (nI a1)), j2, some (.int a3), some (.int (nI a4)), some (.int a5), some (.int (nI a6))]) (st' := [.int (nI (a1 + 1)), .ref 77]) (h' := Hp S3) 1 (fun Z => by rw [← nI_add a1 1]; rfl) ?_
    refine wp_st (pc' := 124) (L' := [some (.ref 65), some (.int (nI a1)), j2, some (.int a3), some (.int (nI a4)), some (.int a5), some (.int (nI a6))]) (st' := [.int (nI a4), .int (nI (a1 + 1)), .ref 77]) (h' := Hp S3) 1 (fun Z => rfl) ?_
    refine wp_st (pc' := 125) (L' := [some (.ref 65), some (.int (nI a1)), j2, some (.int a3), some (.int (nI a4)), some (.int a5), some (.int (nI a6))]) (st' := [.int (nI ((a1 + 1) + a4)), .ref 77]) (h' := Hp S3) 1 (fun Z => by rw [← nI_add (a1 + 1) a4]; rfl) ?_
    refine wp_st (pc' := 128) (L' := [some (.ref 65), some (.int (nI a1)), j2, some (.int a3), some (.int (nI a4)), some (.int a5), some (.int (nI a6))]) (st' := [.ref 65, .int 99, .int (nI ((a1 + 1) + a4)), .ref 77]) (h' := Hp S3) 2 (fun Z => rfl) ?_
    refine wp_st (pc' := 131) (L' := [some (.ref 65), some (.int (nI a1)), j2, some (.int a3), some (.int (nI a4)), some (.int a5), some (.int (nI a6))]) (st' := [.ref 77, .int 99, .int (nI ((a1 + 1) + a4)), .ref 77]) (h' := Hp S3) 1 (fun Z => gfR (E := E) sh65 rfl _) ?_
    refine wp_st (pc' := 133) (L' := [some (.ref 65), some (.int (nI a1)), j2, some (.int a3), some (.int (nI a4)), some (.int a5), some (.int (nI a6))]) (st' := [.int 1, .int (nI a1), .ref 77, .int 99, .int (nI ((a1 + 1) + a4)), .ref 77]) (h' := Hp S3) 2 (fun Z => rfl) ?_
    refine wp_st (pc' := 134) (L' := [some (.ref 65), some (.int (nI a1)), j2, some (.int a3), some (.int (nI a4)), some (.int a5), some (.int (nI a6))]) (st' := [.int (nI (a1 + 1)), .ref 77, .int 99, .int (nI ((a1 + 1) + a4)), .ref 77]) (h' := Hp S3) 1 (fun Z => by rw [← nI_add a1 1]; rfl) ?_
    refine wp_st (pc' := 136) (L' := [some (.ref 65), some (.int (nI a1)), j2, some (.int a3), some (.int (nI a4)), some (.int a5), some (.int (nI a6))]) (st' := [.int (nI a4), .int (nI (a1 + 1)), .ref 77, .int 99, .int (nI ((a1 + 1) + a4)), .ref 77]) (h' := Hp S3) 1 (fun Z => rfl) ?_
    refine wp_st (pc' := 137) (L' := [some (.ref 65), some (.int (nI a1)), j2, some (.int a3), some (.int (nI a4)), some (.int a5), some (.int (nI a6))]) (st' := [.int (nI ((a1 + 1) + a4)), .ref 77, .int 99, .int (nI ((a1 + 1) + a4)), .ref 77]) (h' := Hp S3) 1 (fun Z => by rw [← nI_add (a1 + 1) a4]; rfl) ?_
    obtain ⟨hi, hw⟩ := hw
    refine wp_st (pc' := 138) (L' := [some (.ref 65), some (.int (nI a1)), j2, some (.int a3), some (.int (nI a4)), some (.int a5), some (.int (nI a6))]) (st' := [.int (S3 77 ((a1 + 1) + a4)), .int 99, .int (nI ((a1 + 1) + a4)), .ref 77]) (h' := Hp S3) 1 (fun Z => ldN (E := E) sh77 (by decide) hi [.int 99, .int (nI ((a1 + 1) + a4)), .ref 77] (fun st => Z (d + 1) m_m_goOff 138 [some (.ref 65), some (.int (nI a1)), j2, some (.int a3), some (.int (nI a4)), some (.int a5), some (.int (nI a6))] st (Hp S3))) ?_
    refine wp_st (pc' := 143) (L' := [some (.ref 65), some (.int (nI a1)), j2, some (.int a3), some (.int (nI a4)), some (.int a5), some (.int (nI a6))]) (st' := [.int ((S3 77 ((a1 + 1) + a4)) + ((5 : Int32) * a5)), .int 99, .int (nI ((a1 + 1) + a4)), .ref 77]) (h' := Hp S3) 4 (fun Z => rfl) ?_
    refine wp_call (pc' := 146) (rest := [.int (nI ((a1 + 1) + a4)), .ref 77]) (fun Z => rfl) rfl hw ?_
    rintro o h1 ⟨x4, S5, rfl, rfl, hw⟩
    refine ⟨_, rfl, ?_⟩
    show wp E (d + 1) m_m_goOff 146 [some (.ref 65), some (.int (nI a1)), j2, some (.int a3), some (.int (nI a4)), some (.int a5), some (.int (nI a6))] [.int x4, .int (nI ((a1 + 1) + a4)), .ref 77] (Hp S5) (QI Q)
    obtain ⟨hi, hw⟩ := hw
    have hw := hw _ rfl
    refine wp_st (pc' := 147) (L' := [some (.ref 65), some (.int (nI a1)), j2, some (.int a3), some (.int (nI a4)), some (.int a5), some (.int (nI a6))]) (st' := []) (h' := Hp (up S5 77 ((a1 + 1) + a4) x4)) 1 (fun Z => stN sh77 (by decide) hi _ _) ?_
    generalize up S5 77 ((a1 + 1) + a4) x4 = S6 at hw ⊢
    refine wp_st (pc' := 150) (L' := [some (.ref 65), some (.int (nI a1)), j2, some (.int a3), some (.int (nI (a4 + 1))), some (.int a5), some (.int (nI a6))]) (st' := []) (h' := Hp S6) 1 (fun Z => by rw [← nI_add a4 1]; rfl) ?_
    exact wp_st 1 (fun Z => rfl) (show wp E (d + 1) m_m_goOff 15 [some (.ref 65), some (.int (nI a1)), j2, some (.int a3), some (.int (nI (a4 + 1))), some (.int a5), some (.int (nI a6))] [] (Hp S6) (QI Q) from (hw j2 (some (.int a5)) (some (.int (nI a6)))))
  · rw [if_neg hc] at hw
    refine wp_st (pc' := 39) (L' := [some (.ref 65), some (.int (nI a1)), j2, some (.int a3), some (.int (nI a4)), some (.int a5), some (.int (nI a6))]) (st' := []) (h' := Hp S) 1 (fun Z => if_neg hc) ?_
    refine wp_st (pc' := 48) (L' := [some (.ref 65), some (.int (nI a1)), j2, some (.int a3), some (.int (nI a4)), some (.int a5), some (.int (nI a6))]) (st' := [.int 1, .int ((a3 >>> ((nI a6) &&& 31)) &&& (1 : Int32)), .int a5]) (h' := Hp S) 7 (fun Z => rfl) ?_
    by_cases hc : ((a3 >>> ((nI a6) &&& 31)) &&& (1 : Int32)) = 1
    · rw [if_pos hc] at hw
      refine wp_st (pc' := 51) (L' := [some (.ref 65), some (.int (nI a1)), j2, some (.int a3), some (.int (nI a4)), some (.int a5), some (.int (nI a6))]) (st' := [.int a5]) (h' := Hp S) 1 (fun Z => if_pos hc) ?_
      refine wp_st (pc' := 56) (L' := [some (.ref 65), some (.int (nI a1)), j2, some (.int a3), some (.int (nI a4)), some (.int a5), some (.int (nI a6))]) (st' := [.ref 65, .int (nI a6), .int (nI a1), .ref 65, .int a5]) (h' := Hp S) 4 (fun Z => rfl) ?_
      refine wp_st (pc' := 59) (L' := [some (.ref 65), some (.int (nI a1)), j2, some (.int a3), some (.int (nI a4)), some (.int a5), some (.int (nI a6))]) (st' := [.ref 66, .int (nI a6), .int (nI a1), .ref 65, .int a5]) (h' := Hp S) 1 (fun Z => gfR (E := E) sh65 rfl _) ?_
      refine wp_st (pc' := 61) (L' := [some (.ref 65), some (.int (nI a1)), j2, some (.int a3), some (.int (nI a4)), some (.int a5), some (.int (nI a6))]) (st' := [.int (nI a4), .ref 66, .int (nI a6), .int (nI a1), .ref 65, .int a5]) (h' := Hp S) 1 (fun Z => rfl) ?_
      obtain ⟨hi, hw⟩ := hw
      refine wp_st (pc' := 62) (L' := [some (.ref 65), some (.int (nI a1)), j2, some (.int a3), some (.int (nI a4)), some (.int a5), some (.int (nI a6))]) (st' := [.int (S 66 a4), .int (nI a6), .int (nI a1), .ref 65, .int a5]) (h' := Hp S) 1 (fun Z => ldN (E := E) sh66 (by decide) hi [.int (nI a6), .int (nI a1), .ref 65, .int a5] (fun st => Z (d + 1) m_m_goOff 62 [some (.ref 65), some (.int (nI a1)), j2, some (.int a3), some (.int (nI a4)), some (.int a5), some (.int (nI a6))] st (Hp S))) ?_
      refine wp_call (pc' := 65) (rest := [.int a5]) (fun Z => rfl) (isO_of sh65) hw ?_
      rintro o h1 ⟨x7, S8, rfl, rfl, hw⟩
      refine ⟨_, rfl, ?_⟩
      show wp E (d + 1) m_m_goOff 65 [some (.ref 65), some (.int (nI a1)), j2, some (.int a3), some (.int (nI a4)), some (.int a5), some (.int (nI a6))] [.int x7, .int a5] (Hp S8) (QI Q)
      by_cases hc : x7 = 0
      · rw [if_pos hc] at hw
        refine wp_st (pc' := 72) (L' := [some (.ref 65), some (.int (nI a1)), j2, some (.int a3), some (.int (nI a4)), some (.int a5), some (.int (nI a6))]) (st' := [.int a5]) (h' := Hp S8) 1 (fun Z => if_pos hc) ?_
        refine wp_st (pc' := 76) (L' := [some (.ref 65), some (.int (nI a1)), j2, some (.int a3), some (.int (nI a4)), some (.int (a5 + (0 : Int32))), some (.int (nI a6))]) (st' := []) (h' := Hp S8) 3 (fun Z => rfl) ?_
        refine wp_st (pc' := 79) (L' := [some (.ref 65), some (.int (nI a1)), j2, some (.int a3), some (.int (nI a4)), some (.int (a5 + (0 : Int32))), some (.int (nI (a6 + 1)))]) (st' := []) (h' := Hp S8) 1 (fun Z => by rw [← nI_add a6 1]; rfl) ?_
        exact wp_st 1 (fun Z => rfl) (show wp E (d + 1) m_m_goOff 30 [some (.ref 65), some (.int (nI a1)), j2, some (.int a3), some (.int (nI a4)), some (.int (a5 + (0 : Int32))), some (.int (nI (a6 + 1)))] [] (Hp S8) (QI Q) from (hw j2))
      · rw [if_neg hc] at hw
        refine wp_st (pc' := 68) (L' := [some (.ref 65), some (.int (nI a1)), j2, some (.int a3), some (.int (nI a4)), some (.int a5), some (.int (nI a6))]) (st' := [.int a5]) (h' := Hp S8) 1 (fun Z => if_neg hc) ?_
        refine wp_st (pc' := 76) (L' := [some (.ref 65), some (.int (nI a1)), j2, some (.int a3), some (.int (nI a4)), some (.int (a5 + (1 : Int32))), some (.int (nI a6))]) (st' := []) (h' := Hp S8) 4 (fun Z => rfl) ?_
        refine wp_st (pc' := 79) (L' := [some (.ref 65), some (.int (nI a1)), j2, some (.int a3), some (.int (nI a4)), some (.int (a5 + (1 : Int32))), some (.int (nI (a6 + 1)))]) (st' := []) (h' := Hp S8) 1 (fun Z => by rw [← nI_add a6 1]; rfl) ?_
        exact wp_st 1 (fun Z => rfl) (show wp E (d + 1) m_m_goOff 30 [some (.ref 65), some (.int (nI a1)), j2, some (.int a3), some (.int (nI a4)), some (.int (a5 + (1 : Int32))), some (.int (nI (a6 + 1)))] [] (Hp S8) (QI Q) from (hw j2))
    · rw [if_neg hc] at hw
      refine wp_st (pc' := 72) (L' := [some (.ref 65), some (.int (nI a1)), j2, some (.int a3), some (.int (nI a4)), some (.int a5), some (.int (nI a6))]) (st' := [.int a5]) (h' := Hp S) 1 (fun Z => if_neg hc) ?_
      refine wp_st (pc' := 76) (L' := [some (.ref 65), some (.int (nI a1)), j2, some (.int a3), some (.int (nI a4)), some (.int (a5 + (0 : Int32))), some (.int (nI a6))]) (st' := []) (h' := Hp S) 3 (fun Z => rfl) ?_
      refine wp_st (pc' := 79) (L' := [some (.ref 65), some (.int (nI a1)), j2, some (.int a3), some (.int (nI a4)), some (.int (a5 + (0 : Int32))), some (.int (nI (a6 + 1)))]) (st' := []) (h' := Hp S) 1 (fun Z => by rw [← nI_add a6 1]; rfl) ?_
      exact wp_st 1 (fun Z => rfl) (show wp E (d + 1) m_m_goOff 30 [some (.ref 65), some (.int (nI a1)), j2, some (.int a3), some (.int (nI a4)), some (.int (a5 + (0 : Int32))), some (.int (nI (a6 + 1)))] [] (Hp S) (QI Q) from (hw j2))
set_option maxRecDepth 4000 in
theorem w_m_goOff_156 {E : zX} {d : Nat} {S : St} {a1 : Nat} {a3 : Int32} {a4 : Nat} {Q : Int32 → St → Prop} (hd : 1 ≤ d) 
    (hw : if (S 65 4) ≤ (nI a4) then (
      ∀ S1, S1 = up S 65 45 ((S 65 45) ||| a3) →
      k_m_bits E (d - 1) S1 a3 (fun x2 S3 =>
      ∀ S4, S4 = up S3 65 46 ((S1 65 46) + x2) →
      k_m_bits E (d - 1) S4 a3 (fun x5 S6 =>
      Q x5 S6)))
    else (
      if ((a3 >>> ((nI a4) &&& 31)) &&& (1 : Int32)) = 0 then (
        k_m_goOff_156 E d S a1 a3 (a4 + 1) Q)
      else (
        ((a1 + 39) + a4) < 158 ∧
        ∀ S7, S7 = up S 77 ((a1 + 39) + a4) 0 →
        ((a1 + 49) + a4) < 158 ∧
        ∀ S8, S8 = up S7 77 ((a1 + 49) + a4) 0 →
        ((a1 + 59) + a4) < 158 ∧
        ∀ S9, S9 = up S8 77 ((a1 + 59) + a4) (-1) →
        k_m_goOff_156 E d S9 a1 a3 (a4 + 1) Q))) :
    k_m_goOff_156 E d S a1 a3 a4 Q := by
  obtain ⟨d, rfl⟩ := Nat.exists_eq_add_of_le' hd
  intro j2 j5 j6
  show wp E (d + 1) m_m_goOff 156 [some (.ref 65), some (.int (nI a1)), j2, some (.int a3), some (.int (nI a4)), j5, j6] [] (Hp S) (QI Q)
  refine wp_st (pc' := 159) (L' := [some (.ref 65), some (.int (nI a1)), j2, some (.int a3), some (.int (nI a4)), j5, j6]) (st' := [.ref 65, .int (nI a4)]) (h' := Hp S) 2 (fun Z => rfl) ?_
  refine wp_st (pc' := 162) (L' := [some (.ref 65), some (.int (nI a1)), j2, some (.int a3), some (.int (nI a4)), j5, j6]) (st' := [.int (S 65 4), .int (nI a4)]) (h' := Hp S) 1 (fun Z => gfI (E := E) sh65 rfl _) ?_
  by_cases hc : (S 65 4) ≤ (nI a4)
  · rw [if_pos hc] at hw
    refine wp_st (pc' := 222) (L' := [some (.ref 65), some (.int (nI a1)), j2, some (.int a3), some (.int (nI a4)), j5, j6]) (st' := []) (h' := Hp S) 1 (fun Z => if_pos hc) ?_
    refine wp_st (pc' := 224) (L' := [some (.ref 65), some (.int (nI a1)), j2, some (.int a3), some (.int (nI a4)), j5, j6]) (st' := [.ref 65, .ref 65]) (h' := Hp S) 2 (fun Z => rfl) ?_
    refine wp_st (pc' := 227) (L' := [some (.ref 65), some (.int (nI a1)), j2, some (.int a3), some (.int (nI a4)), j5, j6]) (st' := [.int (S 65 45), .ref 65]) (h' := Hp S) 1 (fun Z => gfI (E := E) sh65 rfl _) ?_
    refine wp_st (pc' := 229) (L' := [some (.ref 65), some (.int (nI a1)), j2, some (.int a3), some (.int (nI a4)), j5, j6]) (st' := [.int ((S 65 45) ||| a3), .ref 65]) (h' := Hp S) 2 (fun Z => rfl) ?_
    have hw := hw _ rfl
    refine wp_st (pc' := 232) (L' := [some (.ref 65), some (.int (nI a1)), j2, some (.int a3), some (.int (nI a4)), j5, j6]) (st' := []) (h' := Hp (up S 65 45 ((S 65 45) ||| a3))) 1 (fun Z => pfI sh65 rfl (Nat.le_of_ble_eq_true rfl) rfl _) ?_
    generalize up S 65 45 ((S 65 45) ||| a3) = S1 at hw ⊢
    refine wp_st (pc' := 234) (L' := [some (.ref 65), some (.int (nI a1)), j2, some (.int a3), some (.int (nI a4)), j5, j6]) (st' := [.ref 65, .ref 65]) (h' := Hp S1) 2 (fun Z => rfl) ?_
    refine wp_st (pc' := 237) (L' := [some (.ref 65), some (.int (nI a1)), j2, some (.int a3), some (.int (nI a4)), j5, j6]) (st' := [.int (S1 65 46), .ref 65]) (h' := Hp S1) 1 (fun Z => gfI (E := E) sh65 rfl _) ?_
    refine wp_st (pc' := 238) (L' := [some (.ref 65), some (.int (nI a1)), j2, some (.int a3), some (.int (nI a4)), j5, j6]) (st' := [.int a3, .int (S1 65 46), .ref 65]) (h' := Hp S1) 1 (fun Z => rfl) ?_
    refine wp_call (pc' := 241) (rest := [.int (S1 65 46), .ref 65]) (fun Z => rfl) rfl hw ?_
    rintro o h1 ⟨x2, S3, rfl, rfl, hw⟩
    refine ⟨_, rfl, ?_⟩
    show wp E (d + 1) m_m_goOff 241 [some (.ref 65), some (.int (nI a1)), j2, some (.int a3), some (.int (nI a4)), j5, j6] [.int x2, .int (S1 65 46), .ref 65] (Hp S3) (QI Q)
    refine wp_st (pc' := 242) (L' := [some (.ref 65), some (.int (nI a1)), j2, some (.int a3), some (.int (nI a4)), j5, j6]) (st' := [.int ((S1 65 46) + x2), .ref 65]) (h' := Hp S3) 1 (fun Z => rfl) ?_
    have hw := hw _ rfl
    refine wp_st (pc' := 245) (L' := [some (.ref 65), some (.int (nI a1)), j2, some (.int a3), some (.int (nI a4)), j5, j6]) (st' := []) (h' := Hp (up S3 65 46 ((S1 65 46) + x2))) 1 (fun Z => pfI sh65 rfl (Nat.le_of_ble_eq_true rfl) rfl _) ?_
    generalize up S3 65 46 ((S1 65 46) + x2) = S4 at hw ⊢
    refine wp_st (pc' := 246) (L' := [some (.ref 65), some (.int (nI a1)), j2, some (.int a3), some (.int (nI a4)), j5, j6]) (st' := [.int a3]) (h' := Hp S4) 1 (fun Z => rfl) ?_
    refine wp_call (pc' := 249) (rest := []) (fun Z => rfl) rfl hw ?_
    rintro o h1 ⟨x5, S6, rfl, rfl, hw⟩
    refine ⟨_, rfl, ?_⟩
    show wp E (d + 1) m_m_goOff 249 [some (.ref 65), some (.int (nI a1)), j2, some (.int a3), some (.int (nI a4)), j5, j6] [.int x5] (Hp S6) (QI Q)
    exact wp_ret (fun Z => rfl) ⟨_, _, rfl, rfl, hw⟩
  · rw [if_neg hc] at hw
    refine wp_st (pc' := 165) (L' := [some (.ref 65), some (.int (nI a1)), j2, some (.int a3), some (.int (nI a4)), j5, j6]) (st' := []) (h' := Hp S) 1 (fun Z => if_neg hc) ?_
    refine wp_st (pc' := 171) (L' := [some (.ref 65), some (.int (nI a1)), j2, some (.int a3), some (.int (nI a4)), j5, j6]) (st' := [.int ((a3 >>> ((nI a4) &&& 31)) &&& (1 : Int32))]) (h' := Hp S) 5 (fun Z => rfl) ?_
    by_cases hc : ((a3 >>> ((nI a4) &&& 31)) &&& (1 : Int32)) = 0
    · rw [if_pos hc] at hw
      refine wp_st (pc' := 174) (L' := [some (.ref 65), some (.int (nI a1)), j2, some (.int a3), some (.int (nI a4)), j5, j6]) (st' := []) (h' := Hp S) 1 (fun Z => if_pos hc) ?_
      refine wp_st (pc' := 216) (L' := [some (.ref 65), some (.int (nI a1)), j2, some (.int a3), some (.int (nI a4)), j5, j6]) (st' := []) (h' := Hp S) 1 (fun Z => rfl) ?_
      refine wp_st (pc' := 219) (L' := [some (.ref 65), some (.int (nI a1)), j2, some (.int a3), some (.int (nI (a4 + 1))), j5, j6]) (st' := []) (h' := Hp S) 1 (fun Z => by rw [← nI_add a4 1]; rfl) ?_
      exact wp_st 1 (fun Z => rfl) (show wp E (d + 1) m_m_goOff 156 [some (.ref 65), some (.int (nI a1)), j2, some (.int a3), some (.int (nI (a4 + 1))), j5, j6] [] (Hp S) (QI Q) from (hw j2 j5 j6))
    · rw [if_neg hc] at hw
      refine wp_st (pc' := 177) (L' := [some (.ref 65), some (.int (nI a1)), j2, some (.int a3), some (.int (nI a4)), j5, j6]) (st' := []) (h' := Hp S) 1 (fun Z => if_neg hc) ?_
      refine wp_st (pc' := 178) (L' := [some (.ref 65), some (.int (nI a1)), j2, some (.int a3), some (.int (nI a4)), j5, j6]) (st' := [.ref 65]) (h' := Hp S) 1 (fun Z => rfl) ?_
      refine wp_st (pc' := 181) (L' := [some (.ref 65), some (.int (nI a1)), j2, some (.int a3), some (.int (nI a4)), j5, j6]) (st' := [.ref 77]) (h' := Hp S) 1 (fun Z => gfR (E := E) sh65 rfl _) ?_
      refine wp_st (pc' := 184) (L' := [some (.ref 65), some (.int (nI a1)), j2, some (.int a3), some (.int (nI a4)), j5, j6]) (st' := [.int 39, .int (nI a1), .ref 77]) (h' := Hp S) 2 (fun Z => rfl) ?_
      refine wp_st (pc' := 185) (L' := [some (.ref 65), some (.int (nI a1)), j2, some (.int a3), some (.int (nI a4)), j5, j6]) (st' := [.int (nI (a1 + 39)), .ref 77]) (h' := Hp S) 1 (fun Z => by rw [← nI_add a1 39]; rfl) ?_
      refine wp_st (pc' := 187) (L' := [some (.ref 65), some (.int (nI a1)), j2, some (.int a3), some (.int (nI a4)), j5, j6]) (st' := [.int (nI a4), .int (nI (a1 + 39)), .ref 77]) (h' := Hp S) 1 (fun Z => rfl) ?_
      refine wp_st (pc' := 188) (L' := [some (.ref 65), some (.int (nI a1)), j2, some (.int a3), some (.int (nI a4)), j5, j6]) (st' := [.int (nI ((a1 + 39) + a4)), .ref 77]) (h' := Hp S) 1 (fun Z => by rw [← nI_add (a1 + 39) a4]; rfl) ?_
      refine wp_st (pc' := 189) (L' := [some (.ref 65), some (.int (nI a1)), j2, some (.int a3), some (.int (nI a4)), j5, j6]) (st' := [.int 0, .int (nI ((a1 + 39) + a4)), .ref 77]) (h' := Hp S) 1 (fun Z => rfl) ?_
      obtain ⟨hi, hw⟩ := hw
      have hw := hw _ rfl
      refine wp_st (pc' := 190) (L' := [some (.ref 65), some (.int (nI a1)), j2, some (.int a3), some (.int (nI a4)), j5, j6]) (st' := []) (h' := Hp (up S 77 ((a1 + 39) + a4) 0)) 1 (fun Z => stN sh77 (by decide) hi _ _) ?_
      generalize up S 77 ((a1 + 39) + a4) 0 = S7 at hw ⊢
      refine wp_st (pc' := 191) (L' := [some (.ref 65), some (.int (nI a1)), j2, some (.int a3), some (.int (nI a4)), j5, j6]) (st' := [.ref 65]) (h' := Hp S7) 1 (fun Z => rfl) ?_
      refine wp_st (pc' := 194) (L' := [some (.ref 65), some (.int (nI a1)), j2, some (.int a3), some (.int (nI a4)), j5, j6]) (st' := [.ref 77]) (h' := Hp S7) 1 (fun Z => gfR (E := E) sh65 rfl _) ?_
      refine wp_st (pc' := 197) (L' := [some (.ref 65), some (.int (nI a1)), j2, some (.int a3), some (.int (nI a4)), j5, j6]) (st' := [.int 49, .int (nI a1), .ref 77]) (h' := Hp S7) 2 (fun Z => rfl) ?_
      refine wp_st (pc' := 198) (L' := [some (.ref 65), some (.int (nI a1)), j2, some (.int a3), some (.int (nI a4)), j5, j6]) (st' := [.int (nI (a1 + 49)), .ref 77]) (h' := Hp S7) 1 (fun Z => by rw [← nI_add a1 49]; rfl) ?_
      refine wp_st (pc' := 200) (L' := [some (.ref 65), some (.int (nI a1)), j2, some (.int a3), some (.int (nI a4)), j5, j6]) (st' := [.int (nI a4), .int (nI (a1 + 49)), .ref 77]) (h' := Hp S7) 1 (fun Z => rfl) ?_
      refine wp_st (pc' := 201) (L' := [some (.ref 65), some (.int (nI a1)), j2, some (.int a3), some (.int (nI a4)), j5, j6]) (st' := [.int (nI ((a1 + 49) + a4)), .ref 77]) (h' := Hp S7) 1 (fun Z => by rw [← nI_add (a1 + 49) a4]; rfl) ?_
      refine wp_st (pc' := 202) (L' := [some (.ref 65), some (.int (nI a1)), j2, some (.int a3), some (.int (nI a4)), j5, j6]) (st' := [.int 0, .int (nI ((a1 + 49) + a4)), .ref 77]) (h' := Hp S7) 1 (fun Z => rfl) ?_
      obtain ⟨hi, hw⟩ := hw
      have hw := hw _ rfl
      refine wp_st (pc' := 203) (L' := [some (.ref 65), some (.int (nI a1)), j2, some (.int a3), some (.int (nI a4)), j5, j6]) (st' := []) (h' := Hp (up S7 77 ((a1 + 49) + a4) 0)) 1 (fun Z => stN sh77 (by decide) hi _ _) ?_
      generalize up S7 77 ((a1 + 49) + a4) 0 = S8 at hw ⊢
      refine wp_st (pc' := 204) (L' := [some (.ref 65), some (.int (nI a1)), j2, some (.int a3), some (.int (nI a4)), j5, j6]) (st' := [.ref 65]) (h' := Hp S8) 1 (fun Z => rfl) ?_
      refine wp_st (pc' := 207) (L' := [some (.ref 65), some (.int (nI a1)), j2, some (.int a3), some (.int (nI a4)), j5, j6]) (st' := [.ref 77]) (h' := Hp S8) 1 (fun Z => gfR (E := E) sh65 rfl _) ?_
      refine wp_st (pc' := 210) (L' := [some (.ref 65), some (.int (nI a1)), j2, some (.int a3), some (.int (nI a4)), j5, j6]) (st' := [.int 59, .int (nI a1), .ref 77]) (h' := Hp S8) 2 (fun Z => rfl) ?_
      refine wp_st (pc' := 211) (L' := [some (.ref 65), some (.int (nI a1)), j2, some (.int a3), some (.int (nI a4)), j5, j6]) (st' := [.int (nI (a1 + 59)), .ref 77]) (h' := Hp S8) 1 (fun Z => by rw [← nI_add a1 59]; rfl) ?_
      refine wp_st (pc' := 213) (L' := [some (.ref 65), some (.int (nI a1)), j2, some (.int a3), some (.int (nI a4)), j5, j6]) (st' := [.int (nI a4), .int (nI (a1 + 59)), .ref 77]) (h' := Hp S8) 1 (fun Z => rfl) ?_
      refine wp_st (pc' := 214) (L' := [some (.ref 65), some (.int (nI a1)), j2, some (.int a3), some (.int (nI a4)), j5, j6]) (st' := [.int (nI ((a1 + 59) + a4)), .ref 77]) (h' := Hp S8) 1 (fun Z => by rw [← nI_add (a1 + 59) a4]; rfl) ?_
      refine wp_st (pc' := 215) (L' := [some (.ref 65), some (.int (nI a1)), j2, some (.int a3), some (.int (nI a4)), j5, j6]) (st' := [.int (-1), .int (nI ((a1 + 59) + a4)), .ref 77]) (h' := Hp S8) 1 (fun Z => congrArg (fun v => Z (d + 1) m_m_goOff 215 [some (.ref 65), some (.int (nI a1)), j2, some (.int a3), some (.int (nI a4)), j5, j6] [.int v, .int (nI ((a1 + 59) + a4)), .ref 77] (Hp S8)) (show Int32.ofInt (-1) = (-1) by decide)) ?_
      obtain ⟨hi, hw⟩ := hw
      have hw := hw _ rfl
      refine wp_st (pc' := 216) (L' := [some (.ref 65), some (.int (nI a1)), j2, some (.int a3), some (.int (nI a4)), j5, j6]) (st' := []) (h' := Hp (up S8 77 ((a1 + 59) + a4) (-1))) 1 (fun Z => stN sh77 (by decide) hi _ _) ?_
      generalize up S8 77 ((a1 + 59) + a4) (-1) = S9 at hw ⊢
      refine wp_st (pc' := 219) (L' := [some (.ref 65), some (.int (nI a1)), j2, some (.int a3), some (.int (nI (a4 + 1))), j5, j6]) (st' := []) (h' := Hp S9) 1 (fun Z => by rw [← nI_add a4 1]; rfl) ?_
      exact wp_st 1 (fun Z => rfl) (show wp E (d + 1) m_m_goOff 156 [some (.ref 65), some (.int (nI a1)), j2, some (.int a3), some (.int (nI (a4 + 1))), j5, j6] [] (Hp S9) (QI Q) from (hw j2 j5 j6))
set_option maxRecDepth 4000 in
theorem w_m_carry {E : zX} {d : Nat} {S : St} {a1 : Int32} {a2 : Int32} {Q : Int32 → St → Prop} (hd : 1 ≤ d) 
    (hw : ∀ S1, S1 = up S 65 0 0 →
    k_m_isBall E (d - 1) S1 a1 (fun x2 S3 =>
    if x2 = 0 then (
      Q (0 : Int32) S3)
    else (
      k_m_isCell E (d - 1) S3 a2 (fun x4 S5 =>
      if x4 = 0 then (
        Q (0 : Int32) S5)
      else (
        ∃ m6 : Nat, ((29 : Int32) + a1) = nI m6 ∧ m6 < 158 ∧
        if (S5 77 m6) = a2 then (
          k_m_refuses E (d - 1) S5 1 (fun x7 S8 =>
          Q x7 S8))
        else (
          k_m_keeps E (d - 1) S5 (fun S10 =>
          ∃ m12 : Nat, ((29 : Int32) + a1) = nI m12 ∧ m12 < 158 ∧
          ∀ S11, S11 = up S10 77 m12 a2 →
          Q (S5 77 m6) S11))))))) :
    k_m_carry E d S a1 a2 Q := by
  obtain ⟨d, rfl⟩ := Nat.exists_eq_add_of_le' hd
  show wp E (d + 1) m_m_carry 0 [some (.ref 65), some (.int a1), some (.int a2), none] [] (Hp S) (QI Q)
  refine wp_st (pc' := 2) (L' := [some (.ref 65), some (.int a1), some (.int a2), none]) (st' := [.int 0, .ref 65]) (h' := Hp S) 2 (fun Z => rfl) ?_
  have hw := hw _ rfl
  refine wp_st (pc' := 5) (L' := [some (.ref 65), some (.int a1), some (.int a2), none]) (st' := []) (h' := Hp (up S 65 0 0)) 1 (fun Z => pfI sh65 rfl (Nat.le_of_ble_eq_true rfl) rfl _) ?_
  generalize up S 65 0 0 = S1 at hw ⊢
  refine wp_st (pc' := 7) (L' := [some (.ref 65), some (.int a1), some (.int a2), none]) (st' := [.int a1, .ref 65]) (h' := Hp S1) 2 (fun Z => rfl) ?_
  refine wp_call (pc' := 10) (rest := []) (fun Z => rfl) (isO_of sh65) hw ?_
  rintro o h1 ⟨x2, S3, rfl, rfl, hw⟩
  refine ⟨_, rfl, ?_⟩
  show wp E (d + 1) m_m_carry 10 [some (.ref 65), some (.int a1), some (.int a2), none] [.int x2] (Hp S3) (QI Q)
  by_cases hc : x2 = 0
  · rw [if_pos hc] at hw
    refine wp_st (pc' := 21) (L' := [some (.ref 65), some (.int a1), some (.int a2), none]) (st' := []) (h' := Hp S3) 1 (fun Z => if_pos hc) ?_
    refine wp_st (pc' := 22) (L' := [some (.ref 65), some (.int a1), some (.int a2), none]) (st' := [.int 0]) (h' := Hp S3) 1 (fun Z => rfl) ?_
    exact wp_ret (fun Z => rfl) ⟨_, _, rfl, rfl, hw⟩
  · rw [if_neg hc] at hw
    refine wp_st (pc' := 13) (L' := [some (.ref 65), some (.int a1), some (.int a2), none]) (st' := []) (h' := Hp S3) 1 (fun Z => if_neg hc) ?_
    refine wp_st (pc' := 15) (L' := [some (.ref 65), some (.int a1), some (.int a2), none]) (st' := [.int a2, .ref 65]) (h' := Hp S3) 2 (fun Z => rfl) ?_
    refine wp_call (pc' := 18) (rest := []) (fun Z => rfl) (isO_of sh65) hw ?_
    rintro o h1 ⟨x4, S5, rfl, rfl, hw⟩
    refine ⟨_, rfl, ?_⟩
    show wp E (d + 1) m_m_carry 18 [some (.ref 65), some (.int a1), some (.int a2), none] [.int x4] (Hp S5) (QI Q)
    by_cases hc : x4 = 0
    · rw [if_pos hc] at hw
      refine wp_st (pc' := 21) (L' := [some (.ref 65), some (.int a1), some (.int a2), none]) (st' := []) (h' := Hp S5) 1 (fun Z => if_pos hc) ?_
      refine wp_st (pc' := 22) (L' := [some (.ref 65), some (.int a1), some (.int a2), none]) (st' := [.int 0]) (h' := Hp S5) 1 (fun Z => rfl) ?_
      exact wp_ret (fun Z => rfl) ⟨_, _, rfl, rfl, hw⟩
    · rw [if_neg hc] at hw
      refine wp_st (pc' := 23) (L' := [some (.ref 65), some (.int a1), some (.int a2), none]) (st' := []) (h' := Hp S5) 1 (fun Z => if_neg hc) ?_
      refine wp_st (pc' := 24) (L' := [some (.ref 65), some (.int a1), some (.int a2), none]) (st' := [.ref 65]) (h' := Hp S5) 1 (fun Z => rfl) ?_
      refine wp_st (pc' := 27) (L' := [some (.ref 65), some (.int a1), some (.int a2), none]) (st' := [.ref 77]) (h' := Hp S5) 1 (fun Z => gfR (E := E) sh65 rfl _) ?_
      refine wp_st (pc' := 31) (L' := [some (.ref 65), some (.int a1), some (.int a2), none]) (st' := [.int ((29 : Int32) + a1), .ref 77]) (h' := Hp S5) 3 (fun Z => rfl) ?_
      obtain ⟨m6, em, hi, hw⟩ := hw
      refine wp_st (pc' := 32) (L' := [some (.ref 65), some (.int a1), some (.int a2), none]) (st' := [.int (S5 77 m6)]) (h' := Hp S5) 1 (fun Z => (congrArg (fun v => zit E 1 Z (d + 1) m_m_carry 31 [some (.ref 65), some (.int a1), some (.int a2), none] [.int v, .ref 77] (Hp S5)) em).trans (ldN (E := E) sh77 (by decide) hi [] (fun st => Z (d + 1) m_m_carry 32 [some (.ref 65), some (.int a1), some (.int a2), none] st (Hp S5)))) ?_
      refine wp_st (pc' := 35) (L' := [some (.ref 65), some (.int a1), some (.int a2), some (.int (S5 77 m6))]) (st' := [.int a2, .int (S5 77 m6)]) (h' := Hp S5) 3 (fun Z => rfl) ?_
      by_cases hc : (S5 77 m6) = a2
      · rw [if_pos hc] at hw
        refine wp_st (pc' := 38) (L' := [some (.ref 65), some (.int a1), some (.int a2), some (.int (S5 77 m6))]) (st' := []) (h' := Hp S5) 1 (fun Z => if_pos hc) ?_
        refine wp_st (pc' := 40) (L' := [some (.ref 65), some (.int a1), some (.int a2), some (.int (S5 77 m6))]) (st' := [.int 1, .ref 65]) (h' := Hp S5) 2 (fun Z => rfl) ?_
        refine wp_call (pc' := 43) (rest := []) (fun Z => rfl) (isO_of sh65) hw ?_
        rintro o h1 ⟨x7, S8, rfl, rfl, hw⟩
        refine ⟨_, rfl, ?_⟩
        show wp E (d + 1) m_m_carry 43 [some (.ref 65), some (.int a1), some (.int a2), some (.int (S5 77 m6))] [.int x7] (Hp S8) (QI Q)
        exact wp_ret (fun Z => rfl) ⟨_, _, rfl, rfl, hw⟩
      · rw [if_neg hc] at hw
        refine wp_st (pc' := 44) (L' := [some (.ref 65), some (.int a1), some (.int a2), some (.int (S5 77 m6))]) (st' := []) (h' := Hp S5) 1 (fun Z => if_neg hc) ?_
        refine wp_st (pc' := 45) (L' := [some (.ref 65), some (.int a1), some (.int a2), some (.int (S5 77 m6))]) (st' := [.ref 65]) (h' := Hp S5) 1 (fun Z => rfl) ?_
        refine wp_call (pc' := 48) (rest := []) (fun Z => rfl) (isO_of sh65) hw ?_
        rintro o h1 ⟨S10, rfl, rfl, hw⟩
        refine ⟨_, rfl, ?_⟩
        show wp E (d + 1) m_m_carry 48 [some (.ref 65), some (.int a1), some (.int a2), some (.int (S5 77 m6))] [] (Hp S10) (QI Q)
        refine wp_st (pc' := 49) (L' := [some (.ref 65), some (.int a1), some (.int a2), some (.int (S5 77 m6))]) (st' := [.ref 65]) (h' := Hp S10) 1 (fun Z => rfl) ?_
        refine wp_st (pc' := 52) (L' := [some (.ref 65), some (.int a1), some (.int a2), some (.int (S5 77 m6))]) (st' := [.ref 77]) (h' := Hp S10) 1 (fun Z => gfR (E := E) sh65 rfl _) ?_
        refine wp_st (pc' := 57) (L' := [some (.ref 65), some (.int a1), some (.int a2), some (.int (S5 77 m6))]) (st' := [.int a2, .int ((29 : Int32) + a1), .ref 77]) (h' := Hp S10) 4 (fun Z => rfl) ?_
        obtain ⟨m12, em, hi, hw⟩ := hw
        have hw := hw _ rfl
        refine wp_st (pc' := 58) (L' := [some (.ref 65), some (.int a1), some (.int a2), some (.int (S5 77 m6))]) (st' := []) (h' := Hp (up S10 77 m12 a2)) 1 (fun Z => (congrArg (fun v => zit E 1 Z (d + 1) m_m_carry 57 [some (.ref 65), some (.int a1), some (.int a2), some (.int (S5 77 m6))] [.int a2, .int v, .ref 77] (Hp S10)) em).trans (stN sh77 (by decide) hi _ _)) ?_
        generalize up S10 77 m12 a2 = S11 at hw ⊢
        refine wp_st (pc' := 59) (L' := [some (.ref 65), some (.int a1), some (.int a2), some (.int (S5 77 m6))]) (st' := [.int (S5 77 m6)]) (h' := Hp S11) 1 (fun Z => rfl) ?_
        exact wp_ret (fun Z => rfl) ⟨_, _, rfl, rfl, hw⟩
set_option maxRecDepth 4000 in
theorem w_m_isCell {E : zX} {d : Nat} {S : St} {a1 : Int32} {Q : Int32 → St → Prop} (hd : 1 ≤ d) 
    (hw : if a1 < 0 then (
      k_m_right E (d - 1) S 0 1 (fun x1 S2 =>
      (x1 = 0 ∨ x1 = 1) ∧ Q x1 S2))
    else (
      if ((S 65 1) * (S 65 2)) ≤ a1 then (
        k_m_right E (d - 1) S 0 1 (fun x3 S4 =>
        (x3 = 0 ∨ x3 = 1) ∧ Q x3 S4))
      else (
        k_m_right E (d - 1) S 1 1 (fun x5 S6 =>
        (x5 = 0 ∨ x5 = 1) ∧ Q x5 S6)))) :
    k_m_isCell E d S a1 Q := by
  obtain ⟨d, rfl⟩ := Nat.exists_eq_add_of_le' hd
  show wp E (d + 1) m_m_isCell 0 [some (.ref 65), some (.int a1)] [] (Hp S) (QI Q)
  refine wp_st (pc' := 2) (L' := [some (.ref 65), some (.int a1)]) (st' := [.int a1, .ref 65]) (h' := Hp S) 2 (fun Z => rfl) ?_
  by_cases hc : a1 < 0
  · rw [if_pos hc] at hw
    refine wp_st (pc' := 22) (L' := [some (.ref 65), some (.int a1)]) (st' := [.ref 65]) (h' := Hp S) 1 (fun Z => if_pos hc) ?_
    refine wp_st (pc' := 24) (L' := [some (.ref 65), some (.int a1)]) (st' := [.int 1, .int 0, .ref 65]) (h' := Hp S) 2 (fun Z => rfl) ?_
    refine wp_call (pc' := 27) (rest := []) (fun Z => rfl) (isO_of sh65) hw ?_
    rintro o h1 ⟨x1, S2, rfl, rfl, hw⟩
    refine ⟨_, rfl, ?_⟩
    show wp E (d + 1) m_m_isCell 27 [some (.ref 65), some (.int a1)] [.int x1] (Hp S2) (QI Q)
    obtain ⟨hz, hw⟩ := hw
    refine wp_ret (h' := Hp S2) (o := .inl (some (.int x1))) (fun Z => ?_) ⟨_, _, rfl, rfl, hw⟩
    show (bif zfr _ _ then _ else none) = _
    rcases hz with hz | hz <;> rw [hz] <;> rfl
  · rw [if_neg hc] at hw
    refine wp_st (pc' := 5) (L' := [some (.ref 65), some (.int a1)]) (st' := [.ref 65]) (h' := Hp S) 1 (fun Z => if_neg hc) ?_
    refine wp_st (pc' := 7) (L' := [some (.ref 65), some (.int a1)]) (st' := [.ref 65, .int a1, .ref 65]) (h' := Hp S) 2 (fun Z => rfl) ?_
    refine wp_st (pc' := 10) (L' := [some (.ref 65), some (.int a1)]) (st' := [.int (S 65 1), .int a1, .ref 65]) (h' := Hp S) 1 (fun Z => gfI (E := E) sh65 rfl _) ?_
    refine wp_st (pc' := 11) (L' := [some (.ref 65), some (.int a1)]) (st' := [.ref 65, .int (S 65 1), .int a1, .ref 65]) (h' := Hp S) 1 (fun Z => rfl) ?_
    refine wp_st (pc' := 14) (L' := [some (.ref 65), some (.int a1)]) (st' := [.int (S 65 2), .int (S 65 1), .int a1, .ref 65]) (h' := Hp S) 1 (fun Z => gfI (E := E) sh65 rfl _) ?_
    refine wp_st (pc' := 15) (L' := [some (.ref 65), some (.int a1)]) (st' := [.int ((S 65 1) * (S 65 2)), .int a1, .ref 65]) (h' := Hp S) 1 (fun Z => rfl) ?_
    by_cases hc : ((S 65 1) * (S 65 2)) ≤ a1
    · rw [if_pos hc] at hw
      refine wp_st (pc' := 22) (L' := [some (.ref 65), some (.int a1)]) (st' := [.ref 65]) (h' := Hp S) 1 (fun Z => if_pos hc) ?_
      refine wp_st (pc' := 24) (L' := [some (.ref 65), some (.int a1)]) (st' := [.int 1, .int 0, .ref 65]) (h' := Hp S) 2 (fun Z => rfl) ?_
      refine wp_call (pc' := 27) (rest := []) (fun Z => rfl) (isO_of sh65) hw ?_
      rintro o h1 ⟨x3, S4, rfl, rfl, hw⟩
      refine ⟨_, rfl, ?_⟩
      show wp E (d + 1) m_m_isCell 27 [some (.ref 65), some (.int a1)] [.int x3] (Hp S4) (QI Q)
      obtain ⟨hz, hw⟩ := hw
      refine wp_ret (h' := Hp S4) (o := .inl (some (.int x3))) (fun Z => ?_) ⟨_, _, rfl, rfl, hw⟩
      show (bif zfr _ _ then _ else none) = _
      rcases hz with hz | hz <;> rw [hz] <;> rfl
    · rw [if_neg hc] at hw
      refine wp_st (pc' := 18) (L' := [some (.ref 65), some (.int a1)]) (st' := [.ref 65]) (h' := Hp S) 1 (fun Z => if_neg hc) ?_
      refine wp_st (pc' := 24) (L' := [some (.ref 65), some (.int a1)]) (st' := [.int 1, .int 1, .ref 65]) (h' := Hp S) 3 (fun Z => rfl) ?_
      refine wp_call (pc' := 27) (rest := []) (fun Z => rfl) (isO_of sh65) hw ?_
      rintro o h1 ⟨x5, S6, rfl, rfl, hw⟩
      refine ⟨_, rfl, ?_⟩
      show wp E (d + 1) m_m_isCell 27 [some (.ref 65), some (.int a1)] [.int x5] (Hp S6) (QI Q)
      obtain ⟨hz, hw⟩ := hw
      refine wp_ret (h' := Hp S6) (o := .inl (some (.int x5))) (fun Z => ?_) ⟨_, _, rfl, rfl, hw⟩
      show (bif zfr _ _ then _ else none) = _
      rcases hz with hz | hz <;> rw [hz] <;> rfl
set_option maxRecDepth 4000 in
theorem w_m_guard {E : zX} {d : Nat} {S : St} {a1 : Int32} {a2 : Int32} {Q : Int32 → St → Prop} (hd : 1 ≤ d) 
    (hw : ∀ S1, S1 = up S 65 0 0 →
    k_m_isBall E (d - 1) S1 a1 (fun x2 S3 =>
    if x2 = 0 then (
      Q (0 : Int32) S3)
    else (
      ∃ m4 : Nat, ((69 : Int32) + a1) = nI m4 ∧ m4 < 158 ∧
      if (S3 77 m4) = 1 then (
        k_m_guard_33 E d S3 a1 a2 1 Q)
      else (
        k_m_guard_33 E d S3 a1 a2 0 Q)))) :
    k_m_guard E d S a1 a2 Q := by
  obtain ⟨d, rfl⟩ := Nat.exists_eq_add_of_le' hd
  show wp E (d + 1) m_m_guard 0 [some (.ref 65), some (.int a1), some (.int a2)] [] (Hp S) (QI Q)
  refine wp_st (pc' := 2) (L' := [some (.ref 65), some (.int a1), some (.int a2)]) (st' := [.int 0, .ref 65]) (h' := Hp S) 2 (fun Z => rfl) ?_
  have hw := hw _ rfl
  refine wp_st (pc' := 5) (L' := [some (.ref 65), some (.int a1), some (.int a2)]) (st' := []) (h' := Hp (up S 65 0 0)) 1 (fun Z => pfI sh65 rfl (Nat.le_of_ble_eq_true rfl) rfl _) ?_
  generalize up S 65 0 0 = S1 at hw ⊢
  refine wp_st (pc' := 7) (L' := [some (.ref 65), some (.int a1), some (.int a2)]) (st' := [.int a1, .ref 65]) (h' := Hp S1) 2 (fun Z => rfl) ?_
  refine wp_call (pc' := 10) (rest := []) (fun Z => rfl) (isO_of sh65) hw ?_
  rintro o h1 ⟨x2, S3, rfl, rfl, hw⟩
  refine ⟨_, rfl, ?_⟩
  show wp E (d + 1) m_m_guard 10 [some (.ref 65), some (.int a1), some (.int a2)] [.int x2] (Hp S3) (QI Q)
  by_cases hc : x2 = 0
  · rw [if_pos hc] at hw
    refine wp_st (pc' := 13) (L' := [some (.ref 65), some (.int a1), some (.int a2)]) (st' := []) (h' := Hp S3) 1 (fun Z => if_pos hc) ?_
    refine wp_st (pc' := 14) (L' := [some (.ref 65), some (.int a1), some (.int a2)]) (st' := [.int 0]) (h' := Hp S3) 1 (fun Z => rfl) ?_
    exact wp_ret (fun Z => rfl) ⟨_, _, rfl, rfl, hw⟩
  · rw [if_neg hc] at hw
    refine wp_st (pc' := 15) (L' := [some (.ref 65), some (.int a1), some (.int a2)]) (st' := []) (h' := Hp S3) 1 (fun Z => if_neg hc) ?_
    refine wp_st (pc' := 16) (L' := [some (.ref 65), some (.int a1), some (.int a2)]) (st' := [.ref 65]) (h' := Hp S3) 1 (fun Z => rfl) ?_
    refine wp_st (pc' := 19) (L' := [some (.ref 65), some (.int a1), some (.int a2)]) (st' := [.ref 77]) (h' := Hp S3) 1 (fun Z => gfR (E := E) sh65 rfl _) ?_
    refine wp_st (pc' := 23) (L' := [some (.ref 65), some (.int a1), some (.int a2)]) (st' := [.int ((69 : Int32) + a1), .ref 77]) (h' := Hp S3) 3 (fun Z => rfl) ?_
    obtain ⟨m4, em, hi, hw⟩ := hw
    refine wp_st (pc' := 24) (L' := [some (.ref 65), some (.int a1), some (.int a2)]) (st' := [.int (S3 77 m4)]) (h' := Hp S3) 1 (fun Z => (congrArg (fun v => zit E 1 Z (d + 1) m_m_guard 23 [some (.ref 65), some (.int a1), some (.int a2)] [.int v, .ref 77] (Hp S3)) em).trans (ldN (E := E) sh77 (by decide) hi [] (fun st => Z (d + 1) m_m_guard 24 [some (.ref 65), some (.int a1), some (.int a2)] st (Hp S3)))) ?_
    refine wp_st (pc' := 25) (L' := [some (.ref 65), some (.int a1), some (.int a2)]) (st' := [.int 1, .int (S3 77 m4)]) (h' := Hp S3) 1 (fun Z => rfl) ?_
    by_cases hc : (S3 77 m4) = 1
    · rw [if_pos hc] at hw
      refine wp_st (pc' := 28) (L' := [some (.ref 65), some (.int a1), some (.int a2)]) (st' := []) (h' := Hp S3) 1 (fun Z => if_pos hc) ?_
      exact wp_st 2 (fun Z => rfl) (show wp E (d + 1) m_m_guard 33 [some (.ref 65), some (.int a1), some (.int a2)] [.int 1] (Hp S3) (QI Q) from hw)
    · rw [if_neg hc] at hw
      refine wp_st (pc' := 32) (L' := [some (.ref 65), some (.int a1), some (.int a2)]) (st' := []) (h' := Hp S3) 1 (fun Z => if_neg hc) ?_
      exact wp_st 1 (fun Z => rfl) (show wp E (d + 1) m_m_guard 33 [some (.ref 65), some (.int a1), some (.int a2)] [.int 0] (Hp S3) (QI Q) from hw)
set_option maxRecDepth 4000 in
theorem w_m_guard_33 {E : zX} {d : Nat} {S : St} {a1 : Int32} {a2 : Int32} {s0 : Int32} {Q : Int32 → St → Prop} (hd : 1 ≤ d) 
    (hw : if s0 = a2 then (
      k_m_refuses E (d - 1) S 1 (fun x1 S2 =>
      if x1 ≤ 0 then (
        Q (0 : Int32) S2)
      else (
        Q (1 : Int32) S2)))
    else (
      k_m_keeps E (d - 1) S (fun S4 =>
      if a2 = 0 then (
        ∃ m6 : Nat, ((69 : Int32) + a1) = nI m6 ∧ m6 < 158 ∧
        ∀ S5, S5 = up S4 77 m6 0 →
        Q (1 : Int32) S5)
      else (
        ∃ m8 : Nat, ((69 : Int32) + a1) = nI m8 ∧ m8 < 158 ∧
        ∀ S7, S7 = up S4 77 m8 1 →
        Q (1 : Int32) S7)))) :
    k_m_guard_33 E d S a1 a2 s0 Q := by
  obtain ⟨d, rfl⟩ := Nat.exists_eq_add_of_le' hd
  show wp E (d + 1) m_m_guard 33 [some (.ref 65), some (.int a1), some (.int a2)] [.int s0] (Hp S) (QI Q)
  refine wp_st (pc' := 34) (L' := [some (.ref 65), some (.int a1), some (.int a2)]) (st' := [.int a2, .int s0]) (h' := Hp S) 1 (fun Z => rfl) ?_
  by_cases hc : s0 = a2
  · rw [if_pos hc] at hw
    refine wp_st (pc' := 37) (L' := [some (.ref 65), some (.int a1), some (.int a2)]) (st' := []) (h' := Hp S) 1 (fun Z => if_pos hc) ?_
    refine wp_st (pc' := 39) (L' := [some (.ref 65), some (.int a1), some (.int a2)]) (st' := [.int 1, .ref 65]) (h' := Hp S) 2 (fun Z => rfl) ?_
    refine wp_call (pc' := 42) (rest := []) (fun Z => rfl) (isO_of sh65) hw ?_
    rintro o h1 ⟨x1, S2, rfl, rfl, hw⟩
    refine ⟨_, rfl, ?_⟩
    show wp E (d + 1) m_m_guard 42 [some (.ref 65), some (.int a1), some (.int a2)] [.int x1] (Hp S2) (QI Q)
    by_cases hc : x1 ≤ 0
    · rw [if_pos hc] at hw
      refine wp_st (pc' := 49) (L' := [some (.ref 65), some (.int a1), some (.int a2)]) (st' := []) (h' := Hp S2) 1 (fun Z => if_pos hc) ?_
      refine wp_st (pc' := 50) (L' := [some (.ref 65), some (.int a1), some (.int a2)]) (st' := [.int 0]) (h' := Hp S2) 1 (fun Z => rfl) ?_
      exact wp_ret (fun Z => rfl) ⟨_, _, rfl, rfl, hw⟩
    · rw [if_neg hc] at hw
      refine wp_st (pc' := 45) (L' := [some (.ref 65), some (.int a1), some (.int a2)]) (st' := []) (h' := Hp S2) 1 (fun Z => if_neg hc) ?_
      refine wp_st (pc' := 50) (L' := [some (.ref 65), some (.int a1), some (.int a2)]) (st' := [.int 1]) (h' := Hp S2) 2 (fun Z => rfl) ?_
      exact wp_ret (fun Z => rfl) ⟨_, _, rfl, rfl, hw⟩
  · rw [if_neg hc] at hw
    refine wp_st (pc' := 51) (L' := [some (.ref 65), some (.int a1), some (.int a2)]) (st' := []) (h' := Hp S) 1 (fun Z => if_neg hc) ?_
    refine wp_st (pc' := 52) (L' := [some (.ref 65), some (.int a1), some (.int a2)]) (st' := [.ref 65]) (h' := Hp S) 1 (fun Z => rfl) ?_
    refine wp_call (pc' := 55) (rest := []) (fun Z => rfl) (isO_of sh65) hw ?_
    rintro o h1 ⟨S4, rfl, rfl, hw⟩
    refine ⟨_, rfl, ?_⟩
    show wp E (d + 1) m_m_guard 55 [some (.ref 65), some (.int a1), some (.int a2)] [] (Hp S4) (QI Q)
    refine wp_st (pc' := 56) (L' := [some (.ref 65), some (.int a1), some (.int a2)]) (st' := [.ref 65]) (h' := Hp S4) 1 (fun Z => rfl) ?_
    refine wp_st (pc' := 59) (L' := [some (.ref 65), some (.int a1), some (.int a2)]) (st' := [.ref 77]) (h' := Hp S4) 1 (fun Z => gfR (E := E) sh65 rfl _) ?_
    refine wp_st (pc' := 64) (L' := [some (.ref 65), some (.int a1), some (.int a2)]) (st' := [.int a2, .int ((69 : Int32) + a1), .ref 77]) (h' := Hp S4) 4 (fun Z => rfl) ?_
    by_cases hc : a2 = 0
    · rw [if_pos hc] at hw
      refine wp_st (pc' := 71) (L' := [some (.ref 65), some (.int a1), some (.int a2)]) (st' := [.int ((69 : Int32) + a1), .ref 77]) (h' := Hp S4) 1 (fun Z => if_pos hc) ?_
      refine wp_st (pc' := 72) (L' := [some (.ref 65), some (.int a1), some (.int a2)]) (st' := [.int 0, .int ((69 : Int32) + a1), .ref 77]) (h' := Hp S4) 1 (fun Z => rfl) ?_
      obtain ⟨m6, em, hi, hw⟩ := hw
      have hw := hw _ rfl
      refine wp_st (pc' := 73) (L' := [some (.ref 65), some (.int a1), some (.int a2)]) (st' := []) (h' := Hp (up S4 77 m6 0)) 1 (fun Z => (congrArg (fun v => zit E 1 Z (d + 1) m_m_guard 72 [some (.ref 65), some (.int a1), some (.int a2)] [.int 0, .int v, .ref 77] (Hp S4)) em).trans (stN sh77 (by decide) hi _ _)) ?_
      generalize up S4 77 m6 0 = S5 at hw ⊢
      refine wp_st (pc' := 74) (L' := [some (.ref 65), some (.int a1), some (.int a2)]) (st' := [.int 1]) (h' := Hp S5) 1 (fun Z => rfl) ?_
      exact wp_ret (fun Z => rfl) ⟨_, _, rfl, rfl, hw⟩
    · rw [if_neg hc] at hw
      refine wp_st (pc' := 67) (L' := [some (.ref 65), some (.int a1), some (.int a2)]) (st' := [.int ((69 : Int32) + a1), .ref 77]) (h' := Hp S4) 1 (fun Z => if_neg hc) ?_
      refine wp_st (pc' := 72) (L' := [some (.ref 65), some (.int a1), some (.int a2)]) (st' := [.int 1, .int ((69 : Int32) + a1), .ref 77]) (h' := Hp S4) 2 (fun Z => rfl) ?_
      obtain ⟨m8, em, hi, hw⟩ := hw
      have hw := hw _ rfl
      refine wp_st (pc' := 73) (L' := [some (.ref 65), some (.int a1), some (.int a2)]) (st' := []) (h' := Hp (up S4 77 m8 1)) 1 (fun Z => (congrArg (fun v => zit E 1 Z (d + 1) m_m_guard 72 [some (.ref 65), some (.int a1), some (.int a2)] [.int 1, .int v, .ref 77] (Hp S4)) em).trans (stN sh77 (by decide) hi _ _)) ?_
      generalize up S4 77 m8 1 = S7 at hw ⊢
      refine wp_st (pc' := 74) (L' := [some (.ref 65), some (.int a1), some (.int a2)]) (st' := [.int 1]) (h' := Hp S7) 1 (fun Z => rfl) ?_
      exact wp_ret (fun Z => rfl) ⟨_, _, rfl, rfl, hw⟩
set_option maxRecDepth 4000 in
theorem w_m_isSoon {E : zX} {d : Nat} {S : St} {a1 : Int32} {a2 : Int32} {a3 : Int32} {Q : Int32 → St → Prop} (hd : 1 ≤ d) 
    (hw : k_m_within E (d - 1) S a1 a2 60 (fun x1 S2 =>
    k_m_right E (d - 1) S2 x1 a3 (fun x3 S4 =>
    (x3 = 0 ∨ x3 = 1) ∧ Q x3 S4))) :
    k_m_isSoon E d S a1 a2 a3 Q := by
  obtain ⟨d, rfl⟩ := Nat.exists_eq_add_of_le' hd
  show wp E (d + 1) m_m_isSoon 0 [some (.ref 65), some (.int a1), some (.int a2), some (.int a3)] [] (Hp S) (QI Q)
  refine wp_st (pc' := 5) (L' := [some (.ref 65), some (.int a1), some (.int a2), some (.int a3)]) (st' := [.int 60, .int a2, .int a1, .ref 65]) (h' := Hp S) 4 (fun Z => rfl) ?_
  refine wp_call (pc' := 8) (rest := [.ref 65]) (fun Z => rfl) rfl hw ?_
  rintro o h1 ⟨x1, S2, rfl, rfl, hw⟩
  refine ⟨_, rfl, ?_⟩
  show wp E (d + 1) m_m_isSoon 8 [some (.ref 65), some (.int a1), some (.int a2), some (.int a3)] [.int x1, .ref 65] (Hp S2) (QI Q)
  refine wp_st (pc' := 9) (L' := [some (.ref 65), some (.int a1), some (.int a2), some (.int a3)]) (st' := [.int a3, .int x1, .ref 65]) (h' := Hp S2) 1 (fun Z => rfl) ?_
  refine wp_call (pc' := 12) (rest := []) (fun Z => rfl) (isO_of sh65) hw ?_
  rintro o h1 ⟨x3, S4, rfl, rfl, hw⟩
  refine ⟨_, rfl, ?_⟩
  show wp E (d + 1) m_m_isSoon 12 [some (.ref 65), some (.int a1), some (.int a2), some (.int a3)] [.int x3] (Hp S4) (QI Q)
  obtain ⟨hz, hw⟩ := hw
  refine wp_ret (h' := Hp S4) (o := .inl (some (.int x3))) (fun Z => ?_) ⟨_, _, rfl, rfl, hw⟩
  show (bif zfr _ _ then _ else none) = _
  rcases hz with hz | hz <;> rw [hz] <;> rfl
set_option maxRecDepth 4000 in
theorem w_m_goesTo {E : zX} {d : Nat} {S : St} {a1 : Int32} {Q : St → Prop} (hd : 1 ≤ d) 
    (hw : k_m_tries E (d - 1) S (fun S2 =>
    k_m_daysGo E (d - 1) S2 a1 (fun S4 =>
    Q S4))) :
    k_m_goesTo E d S a1 Q := by
  obtain ⟨d, rfl⟩ := Nat.exists_eq_add_of_le' hd
  show wp E (d + 1) m_m_goesTo 0 [some (.ref 65), some (.int a1)] [] (Hp S) (QV Q)
  refine wp_st (pc' := 1) (L' := [some (.ref 65), some (.int a1)]) (st' := [.ref 65]) (h' := Hp S) 1 (fun Z => rfl) ?_
  refine wp_call (pc' := 4) (rest := []) (fun Z => rfl) (isO_of sh65) hw ?_
  rintro o h1 ⟨S2, rfl, rfl, hw⟩
  refine ⟨_, rfl, ?_⟩
  show wp E (d + 1) m_m_goesTo 4 [some (.ref 65), some (.int a1)] [] (Hp S2) (QV Q)
  refine wp_st (pc' := 6) (L' := [some (.ref 65), some (.int a1)]) (st' := [.int a1, .ref 65]) (h' := Hp S2) 2 (fun Z => rfl) ?_
  refine wp_call (pc' := 9) (rest := []) (fun Z => rfl) (isO_of sh65) hw ?_
  rintro o h1 ⟨S4, rfl, rfl, hw⟩
  refine ⟨_, rfl, ?_⟩
  show wp E (d + 1) m_m_goesTo 9 [some (.ref 65), some (.int a1)] [] (Hp S4) (QV Q)
  exact wp_ret (fun Z => rfl) ⟨_, rfl, rfl, hw⟩
set_option maxRecDepth 4000 in
theorem w_m_daysGo {E : zX} {d : Nat} {S : St} {a1 : Int32} {Q : St → Prop} (hd : 1 ≤ d) 
    (hw : k_m_daysGo_2 E d S a1 0 Q) :
    k_m_daysGo E d S a1 Q := by
  obtain ⟨d, rfl⟩ := Nat.exists_eq_add_of_le' hd
  show wp E (d + 1) m_m_daysGo 0 [some (.ref 65), some (.int a1), none] [] (Hp S) (QV Q)
  exact wp_st 2 (fun Z => rfl) (show wp E (d + 1) m_m_daysGo 2 [some (.ref 65), some (.int a1), some (.int 0)] [] (Hp S) (QV Q) from hw)
set_option maxRecDepth 4000 in
theorem w_m_daysGo_2 {E : zX} {d : Nat} {S : St} {a1 : Int32} {a2 : Nat} {Q : St → Prop} (hd : 1 ≤ d) 
    (hw : if a1 ≤ (nI a2) then (
      Q S)
    else (
      k_m_dayOf E (d - 1) S 79 (fun S2 =>
      k_m_daysGo_2 E d S2 a1 (a2 + 1) Q))) :
    k_m_daysGo_2 E d S a1 a2 Q := by
  obtain ⟨d, rfl⟩ := Nat.exists_eq_add_of_le' hd
  show wp E (d + 1) m_m_daysGo 2 [some (.ref 65), some (.int a1), some (.int (nI a2))] [] (Hp S) (QV Q)
  refine wp_st (pc' := 4) (L' := [some (.ref 65), some (.int a1), some (.int (nI a2))]) (st' := [.int a1, .int (nI a2)]) (h' := Hp S) 2 (fun Z => rfl) ?_
  by_cases hc : a1 ≤ (nI a2)
  · rw [if_pos hc] at hw
    refine wp_st (pc' := 19) (L' := [some (.ref 65), some (.int a1), some (.int (nI a2))]) (st' := []) (h' := Hp S) 1 (fun Z => if_pos hc) ?_
    exact wp_ret (fun Z => rfl) ⟨_, rfl, rfl, hw⟩
  · rw [if_neg hc] at hw
    refine wp_st (pc' := 7) (L' := [some (.ref 65), some (.int a1), some (.int (nI a2))]) (st' := []) (h' := Hp S) 1 (fun Z => if_neg hc) ?_
    refine wp_st (pc' := 10) (L' := [some (.ref 65), some (.int a1), some (.int (nI a2))]) (st' := [.int 79, .ref 65]) (h' := Hp S) 2 (fun Z => rfl) ?_
    refine wp_call (pc' := 13) (rest := []) (fun Z => rfl) (isO_of sh65) hw ?_
    rintro o h1 ⟨S2, rfl, rfl, hw⟩
    refine ⟨_, rfl, ?_⟩
    show wp E (d + 1) m_m_daysGo 13 [some (.ref 65), some (.int a1), some (.int (nI a2))] [] (Hp S2) (QV Q)
    refine wp_st (pc' := 16) (L' := [some (.ref 65), some (.int a1), some (.int (nI (a2 + 1)))]) (st' := []) (h' := Hp S2) 1 (fun Z => by rw [← nI_add a2 1]; rfl) ?_
    exact wp_st 1 (fun Z => rfl) (show wp E (d + 1) m_m_daysGo 2 [some (.ref 65), some (.int a1), some (.int (nI (a2 + 1)))] [] (Hp S2) (QV Q) from hw)
set_option maxRecDepth 4000 in
theorem w_m_first {E : zX} {d : Nat} {S : St}  {Q : Int32 → St → Prop} (hd : 1 ≤ d) 
    (hw : ∀ S1, S1 = up S 65 0 0 →
    k_m_tries E (d - 1) S1 (fun S3 =>
    k_m_first_11 E d S3 1 Q)) :
    k_m_first E d S Q := by
  obtain ⟨d, rfl⟩ := Nat.exists_eq_add_of_le' hd
  show wp E (d + 1) m_m_first 0 [some (.ref 65), none] [] (Hp S) (QI Q)
  refine wp_st (pc' := 2) (L' := [some (.ref 65), none]) (st' := [.int 0, .ref 65]) (h' := Hp S) 2 (fun Z => rfl) ?_
  have hw := hw _ rfl
  refine wp_st (pc' := 5) (L' := [some (.ref 65), none]) (st' := []) (h' := Hp (up S 65 0 0)) 1 (fun Z => pfI sh65 rfl (Nat.le_of_ble_eq_true rfl) rfl _) ?_
  generalize up S 65 0 0 = S1 at hw ⊢
  refine wp_st (pc' := 6) (L' := [some (.ref 65), none]) (st' := [.ref 65]) (h' := Hp S1) 1 (fun Z => rfl) ?_
  refine wp_call (pc' := 9) (rest := []) (fun Z => rfl) (isO_of sh65) hw ?_
  rintro o h1 ⟨S3, rfl, rfl, hw⟩
  refine ⟨_, rfl, ?_⟩
  show wp E (d + 1) m_m_first 9 [some (.ref 65), none] [] (Hp S3) (QI Q)
  exact wp_st 2 (fun Z => rfl) (show wp E (d + 1) m_m_first 11 [some (.ref 65), some (.int 1)] [] (Hp S3) (QI Q) from hw)
set_option maxRecDepth 4000 in
theorem w_m_first_11 {E : zX} {d : Nat} {S : St} {a1 : Nat} {Q : Int32 → St → Prop} (hd : 1 ≤ d) 
    (hw : if nI 60 < (nI a1) then (
      Q ((-1) : Int32) S)
    else (
      k_m_dayOf E (d - 1) S 79 (fun S2 =>
      if (S2 65 45) = 0 then (
        k_m_first_11 E d S2 (a1 + 1) Q)
      else (
        k_m_lowest E (d - 1) S2 (S2 65 45) (fun x3 S4 =>
        Q x3 S4))))) :
    k_m_first_11 E d S a1 Q := by
  obtain ⟨d, rfl⟩ := Nat.exists_eq_add_of_le' hd
  show wp E (d + 1) m_m_first 11 [some (.ref 65), some (.int (nI a1))] [] (Hp S) (QI Q)
  refine wp_st (pc' := 14) (L' := [some (.ref 65), some (.int (nI a1))]) (st' := [.int 60, .int (nI a1)]) (h' := Hp S) 2 (fun Z => rfl) ?_
  by_cases hc : nI 60 < (nI a1)
  · rw [if_pos hc] at hw
    refine wp_st (pc' := 44) (L' := [some (.ref 65), some (.int (nI a1))]) (st' := []) (h' := Hp S) 1 (fun Z => if_pos hc) ?_
    refine wp_st (pc' := 45) (L' := [some (.ref 65), some (.int (nI a1))]) (st' := [.int (-1)]) (h' := Hp S) 1 (fun Z => congrArg (fun v => Z (d + 1) m_m_first 45 [some (.ref 65), some (.int (nI a1))] [.int v] (Hp S)) (show Int32.ofInt (-1) = (-1) by decide)) ?_
    exact wp_ret (fun Z => rfl) ⟨_, _, rfl, rfl, hw⟩
  · rw [if_neg hc] at hw
    refine wp_st (pc' := 17) (L' := [some (.ref 65), some (.int (nI a1))]) (st' := []) (h' := Hp S) 1 (fun Z => if_neg hc) ?_
    refine wp_st (pc' := 20) (L' := [some (.ref 65), some (.int (nI a1))]) (st' := [.int 79, .ref 65]) (h' := Hp S) 2 (fun Z => rfl) ?_
    refine wp_call (pc' := 23) (rest := []) (fun Z => rfl) (isO_of sh65) hw ?_
    rintro o h1 ⟨S2, rfl, rfl, hw⟩
    refine ⟨_, rfl, ?_⟩
    show wp E (d + 1) m_m_first 23 [some (.ref 65), some (.int (nI a1))] [] (Hp S2) (QI Q)
    refine wp_st (pc' := 24) (L' := [some (.ref 65), some (.int (nI a1))]) (st' := [.ref 65]) (h' := Hp S2) 1 (fun Z => rfl) ?_
    refine wp_st (pc' := 27) (L' := [some (.ref 65), some (.int (nI a1))]) (st' := [.int (S2 65 45)]) (h' := Hp S2) 1 (fun Z => gfI (E := E) sh65 rfl _) ?_
    by_cases hc : (S2 65 45) = 0
    · rw [if_pos hc] at hw
      refine wp_st (pc' := 38) (L' := [some (.ref 65), some (.int (nI a1))]) (st' := []) (h' := Hp S2) 1 (fun Z => if_pos hc) ?_
      refine wp_st (pc' := 41) (L' := [some (.ref 65), some (.int (nI (a1 + 1)))]) (st' := []) (h' := Hp S2) 1 (fun Z => by rw [← nI_add a1 1]; rfl) ?_
      exact wp_st 1 (fun Z => rfl) (show wp E (d + 1) m_m_first 11 [some (.ref 65), some (.int (nI (a1 + 1)))] [] (Hp S2) (QI Q) from hw)
    · rw [if_neg hc] at hw
      refine wp_st (pc' := 30) (L' := [some (.ref 65), some (.int (nI a1))]) (st' := []) (h' := Hp S2) 1 (fun Z => if_neg hc) ?_
      refine wp_st (pc' := 31) (L' := [some (.ref 65), some (.int (nI a1))]) (st' := [.ref 65]) (h' := Hp S2) 1 (fun Z => rfl) ?_
      refine wp_st (pc' := 34) (L' := [some (.ref 65), some (.int (nI a1))]) (st' := [.int (S2 65 45)]) (h' := Hp S2) 1 (fun Z => gfI (E := E) sh65 rfl _) ?_
      refine wp_call (pc' := 37) (rest := []) (fun Z => rfl) rfl hw ?_
      rintro o h1 ⟨x3, S4, rfl, rfl, hw⟩
      refine ⟨_, rfl, ?_⟩
      show wp E (d + 1) m_m_first 37 [some (.ref 65), some (.int (nI a1))] [.int x3] (Hp S4) (QI Q)
      exact wp_ret (fun Z => rfl) ⟨_, _, rfl, rfl, hw⟩
set_option maxRecDepth 4000 in
theorem w_m_ahead {E : zX} {d : Nat} {S : St} {a1 : Int32} {a2 : Int32} {Q : Int32 → St → Prop} (hd : 1 ≤ d) 
    (hw : ∀ S1, S1 = up S 65 0 0 →
    k_m_isWhat E (d - 1) S1 a2 1 (fun x2 S3 =>
    if x2 = 0 then (
      Q (0 : Int32) S3)
    else (
      if a2 = 0 then (
        k_m_ahead_25 E d S3 a1 a2 a1 1 Q)
      else (
        k_m_ahead_25 E d S3 a1 a2 a1 0 Q)))) :
    k_m_ahead E d S a1 a2 Q := by
  obtain ⟨d, rfl⟩ := Nat.exists_eq_add_of_le' hd
  show wp E (d + 1) m_m_ahead 0 [some (.ref 65), some (.int a1), some (.int a2), none, none, none] [] (Hp S) (QI Q)
  refine wp_st (pc' := 2) (L' := [some (.ref 65), some (.int a1), some (.int a2), none, none, none]) (st' := [.int 0, .ref 65]) (h' := Hp S) 2 (fun Z => rfl) ?_
  have hw := hw _ rfl
  refine wp_st (pc' := 5) (L' := [some (.ref 65), some (.int a1), some (.int a2), none, none, none]) (st' := []) (h' := Hp (up S 65 0 0)) 1 (fun Z => pfI sh65 rfl (Nat.le_of_ble_eq_true rfl) rfl _) ?_
  generalize up S 65 0 0 = S1 at hw ⊢
  refine wp_st (pc' := 8) (L' := [some (.ref 65), some (.int a1), some (.int a2), none, none, none]) (st' := [.int 1, .int a2, .ref 65]) (h' := Hp S1) 3 (fun Z => rfl) ?_
  refine wp_call (pc' := 11) (rest := []) (fun Z => rfl) (isO_of sh65) hw ?_
  rintro o h1 ⟨x2, S3, rfl, rfl, hw⟩
  refine ⟨_, rfl, ?_⟩
  show wp E (d + 1) m_m_ahead 11 [some (.ref 65), some (.int a1), some (.int a2), none, none, none] [.int x2] (Hp S3) (QI Q)
  by_cases hc : x2 = 0
  · rw [if_pos hc] at hw
    refine wp_st (pc' := 32) (L' := [some (.ref 65), some (.int a1), some (.int a2), none, none, none]) (st' := []) (h' := Hp S3) 1 (fun Z => if_pos hc) ?_
    refine wp_st (pc' := 33) (L' := [some (.ref 65), some (.int a1), some (.int a2), none, none, none]) (st' := [.int 0]) (h' := Hp S3) 1 (fun Z => rfl) ?_
    exact wp_ret (fun Z => rfl) ⟨_, _, rfl, rfl, hw⟩
  · rw [if_neg hc] at hw
    refine wp_st (pc' := 14) (L' := [some (.ref 65), some (.int a1), some (.int a2), none, none, none]) (st' := []) (h' := Hp S3) 1 (fun Z => if_neg hc) ?_
    refine wp_st (pc' := 17) (L' := [some (.ref 65), some (.int a1), some (.int a2), none, none, none]) (st' := [.int a2, .int a1, .ref 65]) (h' := Hp S3) 3 (fun Z => rfl) ?_
    by_cases hc : a2 = 0
    · rw [if_pos hc] at hw
      refine wp_st (pc' := 20) (L' := [some (.ref 65), some (.int a1), some (.int a2), none, none, none]) (st' := [.int a1, .ref 65]) (h' := Hp S3) 1 (fun Z => if_pos hc) ?_
      exact wp_st 2 (fun Z => rfl) (show wp E (d + 1) m_m_ahead 25 [some (.ref 65), some (.int a1), some (.int a2), none, none, none] [.int 1, .int a1, .ref 65] (Hp S3) (QI Q) from (hw none none none))
    · rw [if_neg hc] at hw
      refine wp_st (pc' := 24) (L' := [some (.ref 65), some (.int a1), some (.int a2), none, none, none]) (st' := [.int a1, .ref 65]) (h' := Hp S3) 1 (fun Z => if_neg hc) ?_
      exact wp_st 1 (fun Z => rfl) (show wp E (d + 1) m_m_ahead 25 [some (.ref 65), some (.int a1), some (.int a2), none, none, none] [.int 0, .int a1, .ref 65] (Hp S3) (QI Q) from (hw none none none))
set_option maxRecDepth 4000 in
theorem w_m_ahead_25 {E : zX} {d : Nat} {S : St} {a1 : Int32} {a2 : Int32} {s1 : Int32} {s2 : Int32} {Q : Int32 → St → Prop} (hd : 1 ≤ d) 
    (hw : k_m_isSoon E (d - 1) S s1 s2 2 (fun x1 S2 =>
    if x1 = 0 then (
      Q (0 : Int32) S2)
    else (
      k_m_tries E (d - 1) S2 (fun S4 =>
      k_m_ahead_43 E d S4 a1 a2 0 0 Q)))) :
    k_m_ahead_25 E d S a1 a2 s1 s2 Q := by
  obtain ⟨d, rfl⟩ := Nat.exists_eq_add_of_le' hd
  intro j3 j4 j5
  show wp E (d + 1) m_m_ahead 25 [some (.ref 65), some (.int a1), some (.int a2), j3, j4, j5] [.int s2, .int s1, .ref 65] (Hp S) (QI Q)
  refine wp_st (pc' := 26) (L' := [some (.ref 65), some (.int a1), some (.int a2), j3, j4, j5]) (st' := [.int 2, .int s2, .int s1, .ref 65]) (h' := Hp S) 1 (fun Z => rfl) ?_
  refine wp_call (pc' := 29) (rest := []) (fun Z => rfl) (isO_of sh65) hw ?_
  rintro o h1 ⟨x1, S2, rfl, rfl, hw⟩
  refine ⟨_, rfl, ?_⟩
  show wp E (d + 1) m_m_ahead 29 [some (.ref 65), some (.int a1), some (.int a2), j3, j4, j5] [.int x1] (Hp S2) (QI Q)
  by_cases hc : x1 = 0
  · rw [if_pos hc] at hw
    refine wp_st (pc' := 32) (L' := [some (.ref 65), some (.int a1), some (.int a2), j3, j4, j5]) (st' := []) (h' := Hp S2) 1 (fun Z => if_pos hc) ?_
    refine wp_st (pc' := 33) (L' := [some (.ref 65), some (.int a1), some (.int a2), j3, j4, j5]) (st' := [.int 0]) (h' := Hp S2) 1 (fun Z => rfl) ?_
    exact wp_ret (fun Z => rfl) ⟨_, _, rfl, rfl, hw⟩
  · rw [if_neg hc] at hw
    refine wp_st (pc' := 34) (L' := [some (.ref 65), some (.int a1), some (.int a2), j3, j4, j5]) (st' := []) (h' := Hp S2) 1 (fun Z => if_neg hc) ?_
    refine wp_st (pc' := 37) (L' := [some (.ref 65), some (.int a1), some (.int a2), some (.int 0), j4, j5]) (st' := [.ref 65]) (h' := Hp S2) 3 (fun Z => rfl) ?_
    refine wp_call (pc' := 40) (rest := []) (fun Z => rfl) (isO_of sh65) hw ?_
    rintro o h1 ⟨S4, rfl, rfl, hw⟩
    refine ⟨_, rfl, ?_⟩
    show wp E (d + 1) m_m_ahead 40 [some (.ref 65), some (.int a1), some (.int a2), some (.int 0), j4, j5] [] (Hp S4) (QI Q)
    exact wp_st 2 (fun Z => rfl) (show wp E (d + 1) m_m_ahead 43 [some (.ref 65), some (.int a1), some (.int a2), some (.int 0), some (.int 0), j5] [] (Hp S4) (QI Q) from (hw j5))
set_option maxRecDepth 4000 in
theorem w_m_ahead_43 {E : zX} {d : Nat} {S : St} {a1 : Int32} {a2 : Int32} {a3 : Int32} {a4 : Int32} {Q : Int32 → St → Prop} (hd : 1 ≤ d) 
    (hw : if a1 ≤ a4 then (
      k_m_ahead_89 E d S a2 a3 (-1) 0 Q)
    else (
      k_m_dayOf E (d - 1) S 79 (fun S2 =>
      if (S2 65 45) = 0 then (
        if (S2 65 48) = 0 then (
          k_m_ahead_43 E d S2 a1 a2 (a3 + (1 : Int32)) (a4 + 1) Q)
        else (
          k_m_ahead_43 E d S2 a1 a2 (a3 + (0 : Int32)) (a4 + 1) Q))
      else (
        k_m_ahead_43 E d S2 a1 a2 (a3 + (0 : Int32)) (a4 + 1) Q)))) :
    k_m_ahead_43 E d S a1 a2 a3 a4 Q := by
  obtain ⟨d, rfl⟩ := Nat.exists_eq_add_of_le' hd
  intro j5
  show wp E (d + 1) m_m_ahead 43 [some (.ref 65), some (.int a1), some (.int a2), some (.int a3), some (.int a4), j5] [] (Hp S) (QI Q)
  refine wp_st (pc' := 46) (L' := [some (.ref 65), some (.int a1), some (.int a2), some (.int a3), some (.int a4), j5]) (st' := [.int a1, .int a4]) (h' := Hp S) 2 (fun Z => rfl) ?_
  by_cases hc : a1 ≤ a4
  · rw [if_pos hc] at hw
    refine wp_st (pc' := 83) (L' := [some (.ref 65), some (.int a1), some (.int a2), some (.int a3), some (.int a4), j5]) (st' := []) (h' := Hp S) 1 (fun Z => if_pos hc) ?_
    refine wp_st (pc' := 84) (L' := [some (.ref 65), some (.int a1), some (.int a2), some (.int a3), some (.int a4), j5]) (st' := [.int (-1)]) (h' := Hp S) 1 (fun Z => congrArg (fun v => Z (d + 1) m_m_ahead 84 [some (.ref 65), some (.int a1), some (.int a2), some (.int a3), some (.int a4), j5] [.int v] (Hp S)) (show Int32.ofInt (-1) = (-1) by decide)) ?_
    exact wp_st 3 (fun Z => rfl) (show wp E (d + 1) m_m_ahead 89 [some (.ref 65), some (.int a1), some (.int a2), some (.int a3), some (.int (-1)), some (.int 0)] [] (Hp S) (QI Q) from (hw (some (.int a1))))
  · rw [if_neg hc] at hw
    refine wp_st (pc' := 49) (L' := [some (.ref 65), some (.int a1), some (.int a2), some (.int a3), some (.int a4), j5]) (st' := []) (h' := Hp S) 1 (fun Z => if_neg hc) ?_
    refine wp_st (pc' := 52) (L' := [some (.ref 65), some (.int a1), some (.int a2), some (.int a3), some (.int a4), j5]) (st' := [.int 79, .ref 65]) (h' := Hp S) 2 (fun Z => rfl) ?_
    refine wp_call (pc' := 55) (rest := []) (fun Z => rfl) (isO_of sh65) hw ?_
    rintro o h1 ⟨S2, rfl, rfl, hw⟩
    refine ⟨_, rfl, ?_⟩
    show wp E (d + 1) m_m_ahead 55 [some (.ref 65), some (.int a1), some (.int a2), some (.int a3), some (.int a4), j5] [] (Hp S2) (QI Q)
    refine wp_st (pc' := 57) (L' := [some (.ref 65), some (.int a1), some (.int a2), some (.int a3), some (.int a4), j5]) (st' := [.ref 65, .int a3]) (h' := Hp S2) 2 (fun Z => rfl) ?_
    refine wp_st (pc' := 60) (L' := [some (.ref 65), some (.int a1), some (.int a2), some (.int a3), some (.int a4), j5]) (st' := [.int (S2 65 45), .int a3]) (h' := Hp S2) 1 (fun Z => gfI (E := E) sh65 rfl _) ?_
    by_cases hc : (S2 65 45) = 0
    · rw [if_pos hc] at hw
      refine wp_st (pc' := 63) (L' := [some (.ref 65), some (.int a1), some (.int a2), some (.int a3), some (.int a4), j5]) (st' := [.int a3]) (h' := Hp S2) 1 (fun Z => if_pos hc) ?_
      refine wp_st (pc' := 64) (L' := [some (.ref 65), some (.int a1), some (.int a2), some (.int a3), some (.int a4), j5]) (st' := [.ref 65, .int a3]) (h' := Hp S2) 1 (fun Z => rfl) ?_
      refine wp_st (pc' := 67) (L' := [some (.ref 65), some (.int a1), some (.int a2), some (.int a3), some (.int a4), j5]) (st' := [.int (S2 65 48), .int a3]) (h' := Hp S2) 1 (fun Z => gfI (E := E) sh65 rfl _) ?_
      by_cases hc : (S2 65 48) = 0
      · rw [if_pos hc] at hw
        refine wp_st (pc' := 70) (L' := [some (.ref 65), some (.int a1), some (.int a2), some (.int a3), some (.int a4), j5]) (st' := [.int a3]) (h' := Hp S2) 1 (fun Z => if_pos hc) ?_
        refine wp_st (pc' := 77) (L' := [some (.ref 65), some (.int a1), some (.int a2), some (.int (a3 + (1 : Int32))), some (.int a4), j5]) (st' := []) (h' := Hp S2) 4 (fun Z => rfl) ?_
        refine wp_st (pc' := 80) (L' := [some (.ref 65), some (.int a1), some (.int a2), some (.int (a3 + (1 : Int32))), some (.int (a4 + 1)), j5]) (st' := []) (h' := Hp S2) 1 (fun Z => congrArg (fun v => Z (d + 1) m_m_ahead 80 [some (.ref 65), some (.int a1), some (.int a2), some (.int (a3 + (1 : Int32))), some (.int (a4 + v)), j5] [] (Hp S2)) (show Int32.ofInt (1) = (1) by decide)) ?_
        exact wp_st 1 (fun Z => rfl) (show wp E (d + 1) m_m_ahead 43 [some (.ref 65), some (.int a1), some (.int a2), some (.int (a3 + (1 : Int32))), some (.int (a4 + 1)), j5] [] (Hp S2) (QI Q) from (hw j5))
      · rw [if_neg hc] at hw
        refine wp_st (pc' := 74) (L' := [some (.ref 65), some (.int a1), some (.int a2), some (.int a3), some (.int a4), j5]) (st' := [.int a3]) (h' := Hp S2) 1 (fun Z => if_neg hc) ?_
        refine wp_st (pc' := 77) (L' := [some (.ref 65), some (.int a1), some (.int a2), some (.int (a3 + (0 : Int32))), some (.int a4), j5]) (st' := []) (h' := Hp S2) 3 (fun Z => rfl) ?_
        refine wp_st (pc' := 80) (L' := [some (.ref 65), some (.int a1), some (.int a2), some (.int (a3 + (0 : Int32))), some (.int (a4 + 1)), j5]) (st' := []) (h' := Hp S2) 1 (fun Z => congrArg (fun v => Z (d + 1) m_m_ahead 80 [some (.ref 65), some (.int a1), some (.int a2), some (.int (a3 + (0 : Int32))), some (.int (a4 + v)), j5] [] (Hp S2)) (show Int32.ofInt (1) = (1) by decide)) ?_
        exact wp_st 1 (fun Z => rfl) (show wp E (d + 1) m_m_ahead 43 [some (.ref 65), some (.int a1), some (.int a2), some (.int (a3 + (0 : Int32))), some (.int (a4 + 1)), j5] [] (Hp S2) (QI Q) from (hw j5))
    · rw [if_neg hc] at hw
      refine wp_st (pc' := 74) (L' := [some (.ref 65), some (.int a1), some (.int a2), some (.int a3), some (.int a4), j5]) (st' := [.int a3]) (h' := Hp S2) 1 (fun Z => if_neg hc) ?_
      refine wp_st (pc' := 77) (L' := [some (.ref 65), some (.int a1), some (.int a2), some (.int (a3 + (0 : Int32))), some (.int a4), j5]) (st' := []) (h' := Hp S2) 3 (fun Z => rfl) ?_
      refine wp_st (pc' := 80) (L' := [some (.ref 65), some (.int a1), some (.int a2), some (.int (a3 + (0 : Int32))), some (.int (a4 + 1)), j5]) (st' := []) (h' := Hp S2) 1 (fun Z => congrArg (fun v => Z (d + 1) m_m_ahead 80 [some (.ref 65), some (.int a1), some (.int a2), some (.int (a3 + (0 : Int32))), some (.int (a4 + v)), j5] [] (Hp S2)) (show Int32.ofInt (1) = (1) by decide)) ?_
      exact wp_st 1 (fun Z => rfl) (show wp E (d + 1) m_m_ahead 43 [some (.ref 65), some (.int a1), some (.int a2), some (.int (a3 + (0 : Int32))), some (.int (a4 + 1)), j5] [] (Hp S2) (QI Q) from (hw j5))
set_option maxRecDepth 4000 in
theorem w_m_ahead_89 {E : zX} {d : Nat} {S : St} {a2 : Int32} {a3 : Int32} {a4 : Int32} {a5 : Nat} {Q : Int32 → St → Prop} (hd : 1 ≤ d) 
    (hw : if (S 65 4) ≤ (nI a5) then (
      if a2 = 0 then (
        Q a3 S)
      else (
        Q a4 S))
    else (
      (118 + a5) < 158 ∧
      if a4 = (-1) then (
        if (S 77 (118 + a5)) ≤ 0 then (
          k_m_ahead_89 E d S a2 a3 a4 (a5 + 1) Q)
        else (
          k_m_ahead_89 E d S a2 a3 (nI a5) (a5 + 1) Q))
      else (
        ∃ m1 : Nat, ((118 : Int32) + a4) = nI m1 ∧ m1 < 158 ∧
        if (S 77 (118 + a5)) ≤ (S 77 m1) then (
          k_m_ahead_89 E d S a2 a3 a4 (a5 + 1) Q)
        else (
          k_m_ahead_89 E d S a2 a3 (nI a5) (a5 + 1) Q)))) :
    k_m_ahead_89 E d S a2 a3 a4 a5 Q := by
  obtain ⟨d, rfl⟩ := Nat.exists_eq_add_of_le' hd
  intro j1
  show wp E (d + 1) m_m_ahead 89 [some (.ref 65), j1, some (.int a2), some (.int a3), some (.int a4), some (.int (nI a5))] [] (Hp S) (QI Q)
  refine wp_st (pc' := 92) (L' := [some (.ref 65), j1, some (.int a2), some (.int a3), some (.int a4), some (.int (nI a5))]) (st' := [.ref 65, .int (nI a5)]) (h' := Hp S) 2 (fun Z => rfl) ?_
  refine wp_st (pc' := 95) (L' := [some (.ref 65), j1, some (.int a2), some (.int a3), some (.int a4), some (.int (nI a5))]) (st' := [.int (S 65 4), .int (nI a5)]) (h' := Hp S) 1 (fun Z => gfI (E := E) sh65 rfl _) ?_
  by_cases hc : (S 65 4) ≤ (nI a5)
  · rw [if_pos hc] at hw
    refine wp_st (pc' := 141) (L' := [some (.ref 65), j1, some (.int a2), some (.int a3), some (.int a4), some (.int (nI a5))]) (st' := []) (h' := Hp S) 1 (fun Z => if_pos hc) ?_
    refine wp_st (pc' := 142) (L' := [some (.ref 65), j1, some (.int a2), some (.int a3), some (.int a4), some (.int (nI a5))]) (st' := [.int a2]) (h' := Hp S) 1 (fun Z => rfl) ?_
    by_cases hc : a2 = 0
    · rw [if_pos hc] at hw
      refine wp_st (pc' := 145) (L' := [some (.ref 65), j1, some (.int a2), some (.int a3), some (.int a4), some (.int (nI a5))]) (st' := []) (h' := Hp S) 1 (fun Z => if_pos hc) ?_
      refine wp_st (pc' := 151) (L' := [some (.ref 65), j1, some (.int a2), some (.int a3), some (.int a4), some (.int (nI a5))]) (st' := [.int a3]) (h' := Hp S) 2 (fun Z => rfl) ?_
      exact wp_ret (fun Z => rfl) ⟨_, _, rfl, rfl, hw⟩
    · rw [if_neg hc] at hw
      refine wp_st (pc' := 149) (L' := [some (.ref 65), j1, some (.int a2), some (.int a3), some (.int a4), some (.int (nI a5))]) (st' := []) (h' := Hp S) 1 (fun Z => if_neg hc) ?_
      refine wp_st (pc' := 151) (L' := [some (.ref 65), j1, some (.int a2), some (.int a3), some (.int a4), some (.int (nI a5))]) (st' := [.int a4]) (h' := Hp S) 1 (fun Z => rfl) ?_
      exact wp_ret (fun Z => rfl) ⟨_, _, rfl, rfl, hw⟩
  · rw [if_neg hc] at hw
    refine wp_st (pc' := 98) (L' := [some (.ref 65), j1, some (.int a2), some (.int a3), some (.int a4), some (.int (nI a5))]) (st' := []) (h' := Hp S) 1 (fun Z => if_neg hc) ?_
    refine wp_st (pc' := 99) (L' := [some (.ref 65), j1, some (.int a2), some (.int a3), some (.int a4), some (.int (nI a5))]) (st' := [.ref 65]) (h' := Hp S) 1 (fun Z => rfl) ?_
    refine wp_st (pc' := 102) (L' := [some (.ref 65), j1, some (.int a2), some (.int a3), some (.int a4), some (.int (nI a5))]) (st' := [.ref 77]) (h' := Hp S) 1 (fun Z => gfR (E := E) sh65 rfl _) ?_
    refine wp_st (pc' := 106) (L' := [some (.ref 65), j1, some (.int a2), some (.int a3), some (.int a4), some (.int (nI a5))]) (st' := [.int (nI a5), .int 118, .ref 77]) (h' := Hp S) 2 (fun Z => rfl) ?_
    refine wp_st (pc' := 107) (L' := [some (.ref 65), j1, some (.int a2), some (.int a3), some (.int a4), some (.int (nI a5))]) (st' := [.int (nI (118 + a5)), .ref 77]) (h' := Hp S) 1 (fun Z => by rw [← nI_add 118 a5]; rfl) ?_
    obtain ⟨hi, hw⟩ := hw
    refine wp_st (pc' := 108) (L' := [some (.ref 65), j1, some (.int a2), some (.int a3), some (.int a4), some (.int (nI a5))]) (st' := [.int (S 77 (118 + a5))]) (h' := Hp S) 1 (fun Z => ldN (E := E) sh77 (by decide) hi [] (fun st => Z (d + 1) m_m_ahead 108 [some (.ref 65), j1, some (.int a2), some (.int a3), some (.int a4), some (.int (nI a5))] st (Hp S))) ?_
    refine wp_st (pc' := 110) (L' := [some (.ref 65), j1, some (.int a2), some (.int a3), some (.int a4), some (.int (nI a5))]) (st' := [.int a4, .int (S 77 (118 + a5))]) (h' := Hp S) 1 (fun Z => rfl) ?_
    refine wp_st (pc' := 111) (L' := [some (.ref 65), j1, some (.int a2), some (.int a3), some (.int a4), some (.int (nI a5))]) (st' := [.int (-1), .int a4, .int (S 77 (118 + a5))]) (h' := Hp S) 1 (fun Z => congrArg (fun v => Z (d + 1) m_m_ahead 111 [some (.ref 65), j1, some (.int a2), some (.int a3), some (.int a4), some (.int (nI a5))] [.int v, .int a4, .int (S 77 (118 + a5))] (Hp S)) (show Int32.ofInt (-1) = (-1) by decide)) ?_
    by_cases hc : a4 = (-1)
    · rw [if_pos hc] at hw
      refine wp_st (pc' := 114) (L' := [some (.ref 65), j1, some (.int a2), some (.int a3), some (.int a4), some (.int (nI a5))]) (st' := [.int (S 77 (118 + a5))]) (h' := Hp S) 1 (fun Z => if_pos hc) ?_
      refine wp_st (pc' := 128) (L' := [some (.ref 65), j1, some (.int a2), some (.int a3), some (.int a4), some (.int (nI a5))]) (st' := [.int 0, .int (S 77 (118 + a5))]) (h' := Hp S) 2 (fun Z => rfl) ?_
      by_cases hc : (S 77 (118 + a5)) ≤ 0
      · rw [if_pos hc] at hw
        refine wp_st (pc' := 135) (L' := [some (.ref 65), j1, some (.int a2), some (.int a3), some (.int a4), some (.int (nI a5))]) (st' := []) (h' := Hp S) 1 (fun Z => if_pos hc) ?_
        refine wp_st (pc' := 138) (L' := [some (.ref 65), j1, some (.int a2), some (.int a3), some (.int a4), some (.int (nI (a5 + 1)))]) (st' := []) (h' := Hp S) 1 (fun Z => by rw [← nI_add a5 1]; rfl) ?_
        exact wp_st 1 (fun Z => rfl) (show wp E (d + 1) m_m_ahead 89 [some (.ref 65), j1, some (.int a2), some (.int a3), some (.int a4), some (.int (nI (a5 + 1)))] [] (Hp S) (QI Q) from (hw j1))
      · rw [if_neg hc] at hw
        refine wp_st (pc' := 131) (L' := [some (.ref 65), j1, some (.int a2), some (.int a3), some (.int a4), some (.int (nI a5))]) (st' := []) (h' := Hp S) 1 (fun Z => if_neg hc) ?_
        refine wp_st (pc' := 135) (L' := [some (.ref 65), j1, some (.int a2), some (.int a3), some (.int (nI a5)), some (.int (nI a5))]) (st' := []) (h' := Hp S) 2 (fun Z => rfl) ?_
        refine wp_st (pc' := 138) (L' := [some (.ref 65), j1, some (.int a2), some (.int a3), some (.int (nI a5)), some (.int (nI (a5 + 1)))]) (st' := []) (h' := Hp S) 1 (fun Z => by rw [← nI_add a5 1]; rfl) ?_
        exact wp_st 1 (fun Z => rfl) (show wp E (d + 1) m_m_ahead 89 [some (.ref 65), j1, some (.int a2), some (.int a3), some (.int (nI a5)), some (.int (nI (a5 + 1)))] [] (Hp S) (QI Q) from (hw j1))
    · rw [if_neg hc] at hw
      refine wp_st (pc' := 118) (L' := [some (.ref 65), j1, some (.int a2), some (.int a3), some (.int a4), some (.int (nI a5))]) (st' := [.int (S 77 (118 + a5))]) (h' := Hp S) 1 (fun Z => if_neg hc) ?_
      refine wp_st (pc' := 119) (L' := [some (.ref 65), j1, some (.int a2), some (.int a3), some (.int a4), some (.int (nI a5))]) (st' := [.ref 65, .int (S 77 (118 + a5))]) (h' := Hp S) 1 (fun Z => rfl) ?_
      refine wp_st (pc' := 122) (L' := [some (.ref 65), j1, some (.int a2), some (.int a3), some (.int a4), some (.int (nI a5))]) (st' := [.ref 77, .int (S 77 (118 + a5))]) (h' := Hp S) 1 (fun Z => gfR (E := E) sh65 rfl _) ?_
      refine wp_st (pc' := 127) (L' := [some (.ref 65), j1, some (.int a2), some (.int a3), some (.int a4), some (.int (nI a5))]) (st' := [.int ((118 : Int32) + a4), .ref 77, .int (S 77 (118 + a5))]) (h' := Hp S) 3 (fun Z => rfl) ?_
      obtain ⟨m1, em, hi, hw⟩ := hw
      refine wp_st (pc' := 128) (L' := [some (.ref 65), j1, some (.int a2), some (.int a3), some (.int a4), some (.int (nI a5))]) (st' := [.int (S 77 m1), .int (S 77 (118 + a5))]) (h' := Hp S) 1 (fun Z => (congrArg (fun v => zit E 1 Z (d + 1) m_m_ahead 127 [some (.ref 65), j1, some (.int a2), some (.int a3), some (.int a4), some (.int (nI a5))] [.int v, .ref 77, .int (S 77 (118 + a5))] (Hp S)) em).trans (ldN (E := E) sh77 (by decide) hi [.int (S 77 (118 + a5))] (fun st => Z (d + 1) m_m_ahead 128 [some (.ref 65), j1, some (.int a2), some (.int a3), some (.int a4), some (.int (nI a5))] st (Hp S)))) ?_
      by_cases hc : (S 77 (118 + a5)) ≤ (S 77 m1)
      · rw [if_pos hc] at hw
        refine wp_st (pc' := 135) (L' := [some (.ref 65), j1, some (.int a2), some (.int a3), some (.int a4), some (.int (nI a5))]) (st' := []) (h' := Hp S) 1 (fun Z => if_pos hc) ?_
        refine wp_st (pc' := 138) (L' := [some (.ref 65), j1, some (.int a2), some (.int a3), some (.int a4), some (.int (nI (a5 + 1)))]) (st' := []) (h' := Hp S) 1 (fun Z => by rw [← nI_add a5 1]; rfl) ?_
        exact wp_st 1 (fun Z => rfl) (show wp E (d + 1) m_m_ahead 89 [some (.ref 65), j1, some (.int a2), some (.int a3), some (.int a4), some (.int (nI (a5 + 1)))] [] (Hp S) (QI Q) from (hw j1))
      · rw [if_neg hc] at hw
        refine wp_st (pc' := 131) (L' := [some (.ref 65), j1, some (.int a2), some (.int a3), some (.int a4), some (.int (nI a5))]) (st' := []) (h' := Hp S) 1 (fun Z => if_neg hc) ?_
        refine wp_st (pc' := 135) (L' := [some (.ref 65), j1, some (.int a2), some (.int a3), some (.int (nI a5)), some (.int (nI a5))]) (st' := []) (h' := Hp S) 2 (fun Z => rfl) ?_
        refine wp_st (pc' := 138) (L' := [some (.ref 65), j1, some (.int a2), some (.int a3), some (.int (nI a5)), some (.int (nI (a5 + 1)))]) (st' := []) (h' := Hp S) 1 (fun Z => by rw [← nI_add a5 1]; rfl) ?_
        exact wp_st 1 (fun Z => rfl) (show wp E (d + 1) m_m_ahead 89 [some (.ref 65), j1, some (.int a2), some (.int a3), some (.int (nI a5)), some (.int (nI (a5 + 1)))] [] (Hp S) (QI Q) from (hw j1))
set_option maxRecDepth 4000 in
theorem w_m_fire {E : zX} {d : Nat} {S : St} {a1 : Int32} {a2 : Int32} {Q : Int32 → St → Prop} (hd : 1 ≤ d) 
    (hw : ∀ S1, S1 = up S 65 0 0 →
    k_m_isBall E (d - 1) S1 a1 (fun x2 S3 =>
    if x2 = 0 then (
      Q (0 : Int32) S3)
    else (
      k_m_isWhat E (d - 1) S3 a2 1 (fun x4 S5 =>
      if x4 = 0 then (
        Q (0 : Int32) S5)
      else (
        ∃ m6 : Nat, ((29 : Int32) + a1) = nI m6 ∧ m6 < 158 ∧
        k_m_fire_40 E d S5 a1 a2 0 (S5 77 m6) 1 Q))))) :
    k_m_fire E d S a1 a2 Q := by
  obtain ⟨d, rfl⟩ := Nat.exists_eq_add_of_le' hd
  show wp E (d + 1) m_m_fire 0 [some (.ref 65), some (.int a1), some (.int a2), none, none, none, none] [] (Hp S) (QI Q)
  refine wp_st (pc' := 2) (L' := [some (.ref 65), some (.int a1), some (.int a2), none, none, none, none]) (st' := [.int 0, .ref 65]) (h' := Hp S) 2 (fun Z => rfl) ?_
  have hw := hw _ rfl
  refine wp_st (pc' := 5) (L' := [some (.ref 65), some (.int a1), some (.int a2), none, none, none, none]) (st' := []) (h' := Hp (up S 65 0 0)) 1 (fun Z => pfI sh65 rfl (Nat.le_of_ble_eq_true rfl) rfl _) ?_
  generalize up S 65 0 0 = S1 at hw ⊢
  refine wp_st (pc' := 7) (L' := [some (.ref 65), some (.int a1), some (.int a2), none, none, none, none]) (st' := [.int a1, .ref 65]) (h' := Hp S1) 2 (fun Z => rfl) ?_
  refine wp_call (pc' := 10) (rest := []) (fun Z => rfl) (isO_of sh65) hw ?_
  rintro o h1 ⟨x2, S3, rfl, rfl, hw⟩
  refine ⟨_, rfl, ?_⟩
  show wp E (d + 1) m_m_fire 10 [some (.ref 65), some (.int a1), some (.int a2), none, none, none, none] [.int x2] (Hp S3) (QI Q)
  by_cases hc : x2 = 0
  · rw [if_pos hc] at hw
    refine wp_st (pc' := 22) (L' := [some (.ref 65), some (.int a1), some (.int a2), none, none, none, none]) (st' := []) (h' := Hp S3) 1 (fun Z => if_pos hc) ?_
    refine wp_st (pc' := 23) (L' := [some (.ref 65), some (.int a1), some (.int a2), none, none, none, none]) (st' := [.int 0]) (h' := Hp S3) 1 (fun Z => rfl) ?_
    exact wp_ret (fun Z => rfl) ⟨_, _, rfl, rfl, hw⟩
  · rw [if_neg hc] at hw
    refine wp_st (pc' := 13) (L' := [some (.ref 65), some (.int a1), some (.int a2), none, none, none, none]) (st' := []) (h' := Hp S3) 1 (fun Z => if_neg hc) ?_
    refine wp_st (pc' := 16) (L' := [some (.ref 65), some (.int a1), some (.int a2), none, none, none, none]) (st' := [.int 1, .int a2, .ref 65]) (h' := Hp S3) 3 (fun Z => rfl) ?_
    refine wp_call (pc' := 19) (rest := []) (fun Z => rfl) (isO_of sh65) hw ?_
    rintro o h1 ⟨x4, S5, rfl, rfl, hw⟩
    refine ⟨_, rfl, ?_⟩
    show wp E (d + 1) m_m_fire 19 [some (.ref 65), some (.int a1), some (.int a2), none, none, none, none] [.int x4] (Hp S5) (QI Q)
    by_cases hc : x4 = 0
    · rw [if_pos hc] at hw
      refine wp_st (pc' := 22) (L' := [some (.ref 65), some (.int a1), some (.int a2), none, none, none, none]) (st' := []) (h' := Hp S5) 1 (fun Z => if_pos hc) ?_
      refine wp_st (pc' := 23) (L' := [some (.ref 65), some (.int a1), some (.int a2), none, none, none, none]) (st' := [.int 0]) (h' := Hp S5) 1 (fun Z => rfl) ?_
      exact wp_ret (fun Z => rfl) ⟨_, _, rfl, rfl, hw⟩
    · rw [if_neg hc] at hw
      refine wp_st (pc' := 24) (L' := [some (.ref 65), some (.int a1), some (.int a2), none, none, none, none]) (st' := []) (h' := Hp S5) 1 (fun Z => if_neg hc) ?_
      refine wp_st (pc' := 27) (L' := [some (.ref 65), some (.int a1), some (.int a2), some (.int 0), none, none, none]) (st' := [.ref 65]) (h' := Hp S5) 3 (fun Z => rfl) ?_
      refine wp_st (pc' := 30) (L' := [some (.ref 65), some (.int a1), some (.int a2), some (.int 0), none, none, none]) (st' := [.ref 77]) (h' := Hp S5) 1 (fun Z => gfR (E := E) sh65 rfl _) ?_
      refine wp_st (pc' := 34) (L' := [some (.ref 65), some (.int a1), some (.int a2), some (.int 0), none, none, none]) (st' := [.int ((29 : Int32) + a1), .ref 77]) (h' := Hp S5) 3 (fun Z => rfl) ?_
      obtain ⟨m6, em, hi, hw⟩ := hw
      refine wp_st (pc' := 35) (L' := [some (.ref 65), some (.int a1), some (.int a2), some (.int 0), none, none, none]) (st' := [.int (S5 77 m6)]) (h' := Hp S5) 1 (fun Z => (congrArg (fun v => zit E 1 Z (d + 1) m_m_fire 34 [some (.ref 65), some (.int a1), some (.int a2), some (.int 0), none, none, none] [.int v, .ref 77] (Hp S5)) em).trans (ldN (E := E) sh77 (by decide) hi [] (fun st => Z (d + 1) m_m_fire 35 [some (.ref 65), some (.int a1), some (.int a2), some (.int 0), none, none, none] st (Hp S5)))) ?_
      exact wp_st 3 (fun Z => rfl) (show wp E (d + 1) m_m_fire 40 [some (.ref 65), some (.int a1), some (.int a2), some (.int 0), some (.int (S5 77 m6)), some (.int 1), none] [] (Hp S5) (QI Q) from (hw none))
set_option maxRecDepth 4000 in
theorem w_m_fire_40 {E : zX} {d : Nat} {S : St} {a1 : Int32} {a2 : Int32} {a3 : Int32} {a4 : Int32} {a5 : Nat} {Q : Int32 → St → Prop} (hd : 1 ≤ d) 
    (hw : if ((S 65 1) * (S 65 2)) ≤ (nI a5) then (
      if a2 = 0 then (
        Q a3 S)
      else (
        k_m_homesBy E (d - 1) S a1 a3 (fun x1 S2 =>
        Q x1 S2)))
    else (
      k_m_homesBy E (d - 1) S a1 (nI a5) (fun x3 S4 =>
      k_m_homesBy E (d - 1) S4 a1 a3 (fun x5 S6 =>
      if (x3 - x5) < 0 then (
        k_m_fire_40 E d S6 a1 a2 (nI a5) a4 (a5 + 1) Q)
      else (
        if (x3 - x5) = 0 then (
          k_m_farOf E (d - 1) S6 (nI a5) a4 (fun x7 S8 =>
          k_m_farOf E (d - 1) S8 a3 a4 (fun x9 S10 =>
          if x9 ≤ x7 then (
            k_m_fire_40 E d S10 a1 a2 a3 a4 (a5 + 1) Q)
          else (
            k_m_fire_40 E d S10 a1 a2 (nI a5) a4 (a5 + 1) Q))))
        else (
          k_m_fire_40 E d S6 a1 a2 a3 a4 (a5 + 1) Q)))))) :
    k_m_fire_40 E d S a1 a2 a3 a4 a5 Q := by
  obtain ⟨d, rfl⟩ := Nat.exists_eq_add_of_le' hd
  intro j6
  show wp E (d + 1) m_m_fire 40 [some (.ref 65), some (.int a1), some (.int a2), some (.int a3), some (.int a4), some (.int (nI a5)), j6] [] (Hp S) (QI Q)
  refine wp_st (pc' := 43) (L' := [some (.ref 65), some (.int a1), some (.int a2), some (.int a3), some (.int a4), some (.int (nI a5)), j6]) (st' := [.ref 65, .int (nI a5)]) (h' := Hp S) 2 (fun Z => rfl) ?_
  refine wp_st (pc' := 46) (L' := [some (.ref 65), some (.int a1), some (.int a2), some (.int a3), some (.int a4), some (.int (nI a5)), j6]) (st' := [.int (S 65 1), .int (nI a5)]) (h' := Hp S) 1 (fun Z => gfI (E := E) sh65 rfl _) ?_
  refine wp_st (pc' := 47) (L' := [some (.ref 65), some (.int a1), some (.int a2), some (.int a3), some (.int a4), some (.int (nI a5)), j6]) (st' := [.ref 65, .int (S 65 1), .int (nI a5)]) (h' := Hp S) 1 (fun Z => rfl) ?_
  refine wp_st (pc' := 50) (L' := [some (.ref 65), some (.int a1), some (.int a2), some (.int a3), some (.int a4), some (.int (nI a5)), j6]) (st' := [.int (S 65 2), .int (S 65 1), .int (nI a5)]) (h' := Hp S) 1 (fun Z => gfI (E := E) sh65 rfl _) ?_
  refine wp_st (pc' := 51) (L' := [some (.ref 65), some (.int a1), some (.int a2), some (.int a3), some (.int a4), some (.int (nI a5)), j6]) (st' := [.int ((S 65 1) * (S 65 2)), .int (nI a5)]) (h' := Hp S) 1 (fun Z => rfl) ?_
  by_cases hc : ((S 65 1) * (S 65 2)) ≤ (nI a5)
  · rw [if_pos hc] at hw
    refine wp_st (pc' := 107) (L' := [some (.ref 65), some (.int a1), some (.int a2), some (.int a3), some (.int a4), some (.int (nI a5)), j6]) (st' := []) (h' := Hp S) 1 (fun Z => if_pos hc) ?_
    refine wp_st (pc' := 108) (L' := [some (.ref 65), some (.int a1), some (.int a2), some (.int a3), some (.int a4), some (.int (nI a5)), j6]) (st' := [.int a2]) (h' := Hp S) 1 (fun Z => rfl) ?_
    by_cases hc : a2 = 0
    · rw [if_pos hc] at hw
      refine wp_st (pc' := 111) (L' := [some (.ref 65), some (.int a1), some (.int a2), some (.int a3), some (.int a4), some (.int (nI a5)), j6]) (st' := []) (h' := Hp S) 1 (fun Z => if_pos hc) ?_
      refine wp_st (pc' := 121) (L' := [some (.ref 65), some (.int a1), some (.int a2), some (.int a3), some (.int a4), some (.int (nI a5)), j6]) (st' := [.int a3]) (h' := Hp S) 2 (fun Z => rfl) ?_
      exact wp_ret (fun Z => rfl) ⟨_, _, rfl, rfl, hw⟩
    · rw [if_neg hc] at hw
      refine wp_st (pc' := 115) (L' := [some (.ref 65), some (.int a1), some (.int a2), some (.int a3), some (.int a4), some (.int (nI a5)), j6]) (st' := []) (h' := Hp S) 1 (fun Z => if_neg hc) ?_
      refine wp_st (pc' := 118) (L' := [some (.ref 65), some (.int a1), some (.int a2), some (.int a3), some (.int a4), some (.int (nI a5)), j6]) (st' := [.int a3, .int a1, .ref 65]) (h' := Hp S) 3 (fun Z => rfl) ?_
      refine wp_call (pc' := 121) (rest := []) (fun Z => rfl) (isO_of sh65) hw ?_
      rintro o h1 ⟨x1, S2, rfl, rfl, hw⟩
      refine ⟨_, rfl, ?_⟩
      show wp E (d + 1) m_m_fire 121 [some (.ref 65), some (.int a1), some (.int a2), some (.int a3), some (.int a4), some (.int (nI a5)), j6] [.int x1] (Hp S2) (QI Q)
      exact wp_ret (fun Z => rfl) ⟨_, _, rfl, rfl, hw⟩
  · rw [if_neg hc] at hw
    refine wp_st (pc' := 54) (L' := [some (.ref 65), some (.int a1), some (.int a2), some (.int a3), some (.int a4), some (.int (nI a5)), j6]) (st' := []) (h' := Hp S) 1 (fun Z => if_neg hc) ?_
    refine wp_st (pc' := 58) (L' := [some (.ref 65), some (.int a1), some (.int a2), some (.int a3), some (.int a4), some (.int (nI a5)), j6]) (st' := [.int (nI a5), .int a1, .ref 65]) (h' := Hp S) 3 (fun Z => rfl) ?_
    refine wp_call (pc' := 61) (rest := []) (fun Z => rfl) (isO_of sh65) hw ?_
    rintro o h1 ⟨x3, S4, rfl, rfl, hw⟩
    refine ⟨_, rfl, ?_⟩
    show wp E (d + 1) m_m_fire 61 [some (.ref 65), some (.int a1), some (.int a2), some (.int a3), some (.int a4), some (.int (nI a5)), j6] [.int x3] (Hp S4) (QI Q)
    refine wp_st (pc' := 64) (L' := [some (.ref 65), some (.int a1), some (.int a2), some (.int a3), some (.int a4), some (.int (nI a5)), j6]) (st' := [.int a3, .int a1, .ref 65, .int x3]) (h' := Hp S4) 3 (fun Z => rfl) ?_
    refine wp_call (pc' := 67) (rest := [.int x3]) (fun Z => rfl) (isO_of sh65) hw ?_
    rintro o h1 ⟨x5, S6, rfl, rfl, hw⟩
    refine ⟨_, rfl, ?_⟩
    show wp E (d + 1) m_m_fire 67 [some (.ref 65), some (.int a1), some (.int a2), some (.int a3), some (.int a4), some (.int (nI a5)), j6] [.int x5, .int x3] (Hp S6) (QI Q)
    refine wp_st (pc' := 72) (L' := [some (.ref 65), some (.int a1), some (.int a2), some (.int a3), some (.int a4), some (.int (nI a5)), some (.int (x3 - x5))]) (st' := [.int (x3 - x5)]) (h' := Hp S6) 3 (fun Z => rfl) ?_
    by_cases hc : (x3 - x5) < 0
    · rw [if_pos hc] at hw
      refine wp_st (pc' := 98) (L' := [some (.ref 65), some (.int a1), some (.int a2), some (.int a3), some (.int a4), some (.int (nI a5)), some (.int (x3 - x5))]) (st' := []) (h' := Hp S6) 1 (fun Z => if_pos hc) ?_
      refine wp_st (pc' := 101) (L' := [some (.ref 65), some (.int a1), some (.int a2), some (.int (nI a5)), some (.int a4), some (.int (nI a5)), some (.int (x3 - x5))]) (st' := []) (h' := Hp S6) 2 (fun Z => rfl) ?_
      refine wp_st (pc' := 104) (L' := [some (.ref 65), some (.int a1), some (.int a2), some (.int (nI a5)), some (.int a4), some (.int (nI (a5 + 1))), some (.int (x3 - x5))]) (st' := []) (h' := Hp S6) 1 (fun Z => by rw [← nI_add a5 1]; rfl) ?_
      exact wp_st 1 (fun Z => rfl) (show wp E (d + 1) m_m_fire 40 [some (.ref 65), some (.int a1), some (.int a2), some (.int (nI a5)), some (.int a4), some (.int (nI (a5 + 1))), some (.int (x3 - x5))] [] (Hp S6) (QI Q) from (hw (some (.int (x3 - x5)))))
    · rw [if_neg hc] at hw
      refine wp_st (pc' := 75) (L' := [some (.ref 65), some (.int a1), some (.int a2), some (.int a3), some (.int a4), some (.int (nI a5)), some (.int (x3 - x5))]) (st' := []) (h' := Hp S6) 1 (fun Z => if_neg hc) ?_
      refine wp_st (pc' := 77) (L' := [some (.ref 65), some (.int a1), some (.int a2), some (.int a3), some (.int a4), some (.int (nI a5)), some (.int (x3 - x5))]) (st' := [.int (x3 - x5)]) (h' := Hp S6) 1 (fun Z => rfl) ?_
      by_cases hc : (x3 - x5) = 0
      · rw [if_pos hc] at hw
        refine wp_st (pc' := 80) (L' := [some (.ref 65), some (.int a1), some (.int a2), some (.int a3), some (.int a4), some (.int (nI a5)), some (.int (x3 - x5))]) (st' := []) (h' := Hp S6) 1 (fun Z => if_pos hc) ?_
        refine wp_st (pc' := 85) (L' := [some (.ref 65), some (.int a1), some (.int a2), some (.int a3), some (.int a4), some (.int (nI a5)), some (.int (x3 - x5))]) (st' := [.int a4, .int (nI a5), .ref 65]) (h' := Hp S6) 3 (fun Z => rfl) ?_
        refine wp_call (pc' := 88) (rest := []) (fun Z => rfl) (isO_of sh65) hw ?_
        rintro o h1 ⟨x7, S8, rfl, rfl, hw⟩
        refine ⟨_, rfl, ?_⟩
        show wp E (d + 1) m_m_fire 88 [some (.ref 65), some (.int a1), some (.int a2), some (.int a3), some (.int a4), some (.int (nI a5)), some (.int (x3 - x5))] [.int x7] (Hp S8) (QI Q)
        refine wp_st (pc' := 92) (L' := [some (.ref 65), some (.int a1), some (.int a2), some (.int a3), some (.int a4), some (.int (nI a5)), some (.int (x3 - x5))]) (st' := [.int a4, .int a3, .ref 65, .int x7]) (h' := Hp S8) 3 (fun Z => rfl) ?_
        refine wp_call (pc' := 95) (rest := [.int x7]) (fun Z => rfl) (isO_of sh65) hw ?_
        rintro o h1 ⟨x9, S10, rfl, rfl, hw⟩
        refine ⟨_, rfl, ?_⟩
        show wp E (d + 1) m_m_fire 95 [some (.ref 65), some (.int a1), some (.int a2), some (.int a3), some (.int a4), some (.int (nI a5)), some (.int (x3 - x5))] [.int x9, .int x7] (Hp S10) (QI Q)
        by_cases hc : x9 ≤ x7
        · rw [if_pos hc] at hw
          refine wp_st (pc' := 101) (L' := [some (.ref 65), some (.int a1), some (.int a2), some (.int a3), some (.int a4), some (.int (nI a5)), some (.int (x3 - x5))]) (st' := []) (h' := Hp S10) 1 (fun Z => if_pos hc) ?_
          refine wp_st (pc' := 104) (L' := [some (.ref 65), some (.int a1), some (.int a2), some (.int a3), some (.int a4), some (.int (nI (a5 + 1))), some (.int (x3 - x5))]) (st' := []) (h' := Hp S10) 1 (fun Z => by rw [← nI_add a5 1]; rfl) ?_
          exact wp_st 1 (fun Z => rfl) (show wp E (d + 1) m_m_fire 40 [some (.ref 65), some (.int a1), some (.int a2), some (.int a3), some (.int a4), some (.int (nI (a5 + 1))), some (.int (x3 - x5))] [] (Hp S10) (QI Q) from (hw (some (.int (x3 - x5)))))
        · rw [if_neg hc] at hw
          refine wp_st (pc' := 98) (L' := [some (.ref 65), some (.int a1), some (.int a2), some (.int a3), some (.int a4), some (.int (nI a5)), some (.int (x3 - x5))]) (st' := []) (h' := Hp S10) 1 (fun Z => if_neg hc) ?_
          refine wp_st (pc' := 101) (L' := [some (.ref 65), some (.int a1), some (.int a2), some (.int (nI a5)), some (.int a4), some (.int (nI a5)), some (.int (x3 - x5))]) (st' := []) (h' := Hp S10) 2 (fun Z => rfl) ?_
          refine wp_st (pc' := 104) (L' := [some (.ref 65), some (.int a1), some (.int a2), some (.int (nI a5)), some (.int a4), some (.int (nI (a5 + 1))), some (.int (x3 - x5))]) (st' := []) (h' := Hp S10) 1 (fun Z => by rw [← nI_add a5 1]; rfl) ?_
          exact wp_st 1 (fun Z => rfl) (show wp E (d + 1) m_m_fire 40 [some (.ref 65), some (.int a1), some (.int a2), some (.int (nI a5)), some (.int a4), some (.int (nI (a5 + 1))), some (.int (x3 - x5))] [] (Hp S10) (QI Q) from (hw (some (.int (x3 - x5)))))
      · rw [if_neg hc] at hw
        refine wp_st (pc' := 101) (L' := [some (.ref 65), some (.int a1), some (.int a2), some (.int a3), some (.int a4), some (.int (nI a5)), some (.int (x3 - x5))]) (st' := []) (h' := Hp S6) 1 (fun Z => if_neg hc) ?_
        refine wp_st (pc' := 104) (L' := [some (.ref 65), some (.int a1), some (.int a2), some (.int a3), some (.int a4), some (.int (nI (a5 + 1))), some (.int (x3 - x5))]) (st' := []) (h' := Hp S6) 1 (fun Z => by rw [← nI_add a5 1]; rfl) ?_
        exact wp_st 1 (fun Z => rfl) (show wp E (d + 1) m_m_fire 40 [some (.ref 65), some (.int a1), some (.int a2), some (.int a3), some (.int a4), some (.int (nI (a5 + 1))), some (.int (x3 - x5))] [] (Hp S6) (QI Q) from (hw (some (.int (x3 - x5)))))
set_option maxRecDepth 4000 in
theorem w_m_homesBy {E : zX} {d : Nat} {S : St} {a1 : Nat} {a2 : Int32} {Q : Int32 → St → Prop} (hd : 1 ≤ d) 
    (hw : k_m_homesBy_5 E d S a1 a2 0 0 Q) :
    k_m_homesBy E d S (nI a1) a2 Q := by
  obtain ⟨d, rfl⟩ := Nat.exists_eq_add_of_le' hd
  show wp E (d + 1) m_m_homesBy 0 [some (.ref 65), some (.int (nI a1)), some (.int a2), none, none] [] (Hp S) (QI Q)
  exact wp_st 4 (fun Z => rfl) (show wp E (d + 1) m_m_homesBy 5 [some (.ref 65), some (.int (nI a1)), some (.int a2), some (.int 0), some (.int 0)] [] (Hp S) (QI Q) from hw)
set_option maxRecDepth 4000 in
theorem w_m_homesBy_5 {E : zX} {d : Nat} {S : St} {a1 : Nat} {a2 : Int32} {a3 : Int32} {a4 : Nat} {Q : Int32 → St → Prop} (hd : 1 ≤ d) 
    (hw : if (S 65 3) ≤ (nI a4) then (
      Q a3 S)
    else (
      a4 < 7 ∧
      k_m_farOf E (d - 1) S a2 (S 66 a4) (fun x1 S2 =>
      (39 + a1) < 158 ∧
      if ((S2 77 (39 + a1)) / 10) < x1 then (
        k_m_homesBy_5 E d S2 a1 a2 (a3 + (0 : Int32)) (a4 + 1) Q)
      else (
        k_m_homesBy_5 E d S2 a1 a2 (a3 + (1 : Int32)) (a4 + 1) Q)))) :
    k_m_homesBy_5 E d S a1 a2 a3 a4 Q := by
  obtain ⟨d, rfl⟩ := Nat.exists_eq_add_of_le' hd
  show wp E (d + 1) m_m_homesBy 5 [some (.ref 65), some (.int (nI a1)), some (.int a2), some (.int a3), some (.int (nI a4))] [] (Hp S) (QI Q)
  refine wp_st (pc' := 8) (L' := [some (.ref 65), some (.int (nI a1)), some (.int a2), some (.int a3), some (.int (nI a4))]) (st' := [.ref 65, .int (nI a4)]) (h' := Hp S) 2 (fun Z => rfl) ?_
  refine wp_st (pc' := 11) (L' := [some (.ref 65), some (.int (nI a1)), some (.int a2), some (.int a3), some (.int (nI a4))]) (st' := [.int (S 65 3), .int (nI a4)]) (h' := Hp S) 1 (fun Z => gfI (E := E) sh65 rfl _) ?_
  by_cases hc : (S 65 3) ≤ (nI a4)
  · rw [if_pos hc] at hw
    refine wp_st (pc' := 55) (L' := [some (.ref 65), some (.int (nI a1)), some (.int a2), some (.int a3), some (.int (nI a4))]) (st' := []) (h' := Hp S) 1 (fun Z => if_pos hc) ?_
    refine wp_st (pc' := 56) (L' := [some (.ref 65), some (.int (nI a1)), some (.int a2), some (.int a3), some (.int (nI a4))]) (st' := [.int a3]) (h' := Hp S) 1 (fun Z => rfl) ?_
    exact wp_ret (fun Z => rfl) ⟨_, _, rfl, rfl, hw⟩
  · rw [if_neg hc] at hw
    refine wp_st (pc' := 14) (L' := [some (.ref 65), some (.int (nI a1)), some (.int a2), some (.int a3), some (.int (nI a4))]) (st' := []) (h' := Hp S) 1 (fun Z => if_neg hc) ?_
    refine wp_st (pc' := 18) (L' := [some (.ref 65), some (.int (nI a1)), some (.int a2), some (.int a3), some (.int (nI a4))]) (st' := [.ref 65, .int a2, .ref 65, .int a3]) (h' := Hp S) 4 (fun Z => rfl) ?_
    refine wp_st (pc' := 21) (L' := [some (.ref 65), some (.int (nI a1)), some (.int a2), some (.int a3), some (.int (nI a4))]) (st' := [.ref 66, .int a2, .ref 65, .int a3]) (h' := Hp S) 1 (fun Z => gfR (E := E) sh65 rfl _) ?_
    refine wp_st (pc' := 23) (L' := [some (.ref 65), some (.int (nI a1)), some (.int a2), some (.int a3), some (.int (nI a4))]) (st' := [.int (nI a4), .ref 66, .int a2, .ref 65, .int a3]) (h' := Hp S) 1 (fun Z => rfl) ?_
    obtain ⟨hi, hw⟩ := hw
    refine wp_st (pc' := 24) (L' := [some (.ref 65), some (.int (nI a1)), some (.int a2), some (.int a3), some (.int (nI a4))]) (st' := [.int (S 66 a4), .int a2, .ref 65, .int a3]) (h' := Hp S) 1 (fun Z => ldN (E := E) sh66 (by decide) hi [.int a2, .ref 65, .int a3] (fun st => Z (d + 1) m_m_homesBy 24 [some (.ref 65), some (.int (nI a1)), some (.int a2), some (.int a3), some (.int (nI a4))] st (Hp S))) ?_
    refine wp_call (pc' := 27) (rest := [.int a3]) (fun Z => rfl) (isO_of sh65) hw ?_
    rintro o h1 ⟨x1, S2, rfl, rfl, hw⟩
    refine ⟨_, rfl, ?_⟩
    show wp E (d + 1) m_m_homesBy 27 [some (.ref 65), some (.int (nI a1)), some (.int a2), some (.int a3), some (.int (nI a4))] [.int x1, .int a3] (Hp S2) (QI Q)
    refine wp_st (pc' := 28) (L' := [some (.ref 65), some (.int (nI a1)), some (.int a2), some (.int a3), some (.int (nI a4))]) (st' := [.ref 65, .int x1, .int a3]) (h' := Hp S2) 1 (fun Z => rfl) ?_
    refine wp_st (pc' := 31) (L' := [some (.ref 65), some (.int (nI a1)), some (.int a2), some (.int a3), some (.int (nI a4))]) (st' := [.ref 77, .int x1, .int a3]) (h' := Hp S2) 1 (fun Z => gfR (E := E) sh65 rfl _) ?_
    refine wp_st (pc' := 34) (L' := [some (.ref 65), some (.int (nI a1)), some (.int a2), some (.int a3), some (.int (nI a4))]) (st' := [.int (nI a1), .int 39, .ref 77, .int x1, .int a3]) (h' := Hp S2) 2 (fun Z => rfl) ?_
    refine wp_st (pc' := 35) (L' := [some (.ref 65), some (.int (nI a1)), some (.int a2), some (.int a3), some (.int (nI a4))]) (st' := [.int (nI (39 + a1)), .ref 77, .int x1, .int a3]) (h' := Hp S2) 1 (fun Z => by rw [← nI_add 39 a1]; rfl) ?_
    obtain ⟨hi, hw⟩ := hw
    refine wp_st (pc' := 36) (L' := [some (.ref 65), some (.int (nI a1)), some (.int a2), some (.int a3), some (.int (nI a4))]) (st' := [.int (S2 77 (39 + a1)), .int x1, .int a3]) (h' := Hp S2) 1 (fun Z => ldN (E := E) sh77 (by decide) hi [.int x1, .int a3] (fun st => Z (d + 1) m_m_homesBy 36 [some (.ref 65), some (.int (nI a1)), some (.int a2), some (.int a3), some (.int (nI a4))] st (Hp S2))) ?_
    refine wp_st (pc' := 38) (L' := [some (.ref 65), some (.int (nI a1)), some (.int a2), some (.int a3), some (.int (nI a4))]) (st' := [.int 10, .int (S2 77 (39 + a1)), .int x1, .int a3]) (h' := Hp S2) 1 (fun Z => rfl) ?_
    refine wp_st (pc' := 39) (L' := [some (.ref 65), some (.int (nI a1)), some (.int a2), some (.int a3), some (.int (nI a4))]) (st' := [.int ((S2 77 (39 + a1)) / 10), .int x1, .int a3]) (h' := Hp S2) 1 (fun Z => rfl) ?_
    by_cases hc : ((S2 77 (39 + a1)) / 10) < x1
    · rw [if_pos hc] at hw
      refine wp_st (pc' := 46) (L' := [some (.ref 65), some (.int (nI a1)), some (.int a2), some (.int a3), some (.int (nI a4))]) (st' := [.int a3]) (h' := Hp S2) 1 (fun Z => if_pos hc) ?_
      refine wp_st (pc' := 49) (L' := [some (.ref 65), some (.int (nI a1)), some (.int a2), some (.int (a3 + (0 : Int32))), some (.int (nI a4))]) (st' := []) (h' := Hp S2) 3 (fun Z => rfl) ?_
      refine wp_st (pc' := 52) (L' := [some (.ref 65), some (.int (nI a1)), some (.int a2), some (.int (a3 + (0 : Int32))), some (.int (nI (a4 + 1)))]) (st' := []) (h' := Hp S2) 1 (fun Z => by rw [← nI_add a4 1]; rfl) ?_
      exact wp_st 1 (fun Z => rfl) (show wp E (d + 1) m_m_homesBy 5 [some (.ref 65), some (.int (nI a1)), some (.int a2), some (.int (a3 + (0 : Int32))), some (.int (nI (a4 + 1)))] [] (Hp S2) (QI Q) from hw)
    · rw [if_neg hc] at hw
      refine wp_st (pc' := 42) (L' := [some (.ref 65), some (.int (nI a1)), some (.int a2), some (.int a3), some (.int (nI a4))]) (st' := [.int a3]) (h' := Hp S2) 1 (fun Z => if_neg hc) ?_
      refine wp_st (pc' := 49) (L' := [some (.ref 65), some (.int (nI a1)), some (.int a2), some (.int (a3 + (1 : Int32))), some (.int (nI a4))]) (st' := []) (h' := Hp S2) 4 (fun Z => rfl) ?_
      refine wp_st (pc' := 52) (L' := [some (.ref 65), some (.int (nI a1)), some (.int a2), some (.int (a3 + (1 : Int32))), some (.int (nI (a4 + 1)))]) (st' := []) (h' := Hp S2) 1 (fun Z => by rw [← nI_add a4 1]; rfl) ?_
      exact wp_st 1 (fun Z => rfl) (show wp E (d + 1) m_m_homesBy 5 [some (.ref 65), some (.int (nI a1)), some (.int a2), some (.int (a3 + (1 : Int32))), some (.int (nI (a4 + 1)))] [] (Hp S2) (QI Q) from hw)
set_option maxRecDepth 4000 in
theorem w_m_cell {E : zX} {d : Nat} {S : St} {a1 : Int32} {a2 : Int32} {Q : Int32 → St → Prop} (hd : 1 ≤ d) 
    (hw : ∀ S1, S1 = up S 65 0 0 →
    k_m_isCell E (d - 1) S1 a1 (fun x2 S3 =>
    if x2 = 0 then (
      Q (0 : Int32) S3)
    else (
      k_m_isWhat E (d - 1) S3 a2 1 (fun x4 S5 =>
      if x4 = 0 then (
        Q (0 : Int32) S5)
      else (
        k_m_cell_32 E d S5 a1 a2 0 (-1) 0 Q))))) :
    k_m_cell E d S a1 a2 Q := by
  obtain ⟨d, rfl⟩ := Nat.exists_eq_add_of_le' hd
  show wp E (d + 1) m_m_cell 0 [some (.ref 65), some (.int a1), some (.int a2), none, none, none] [] (Hp S) (QI Q)
  refine wp_st (pc' := 2) (L' := [some (.ref 65), some (.int a1), some (.int a2), none, none, none]) (st' := [.int 0, .ref 65]) (h' := Hp S) 2 (fun Z => rfl) ?_
  have hw := hw _ rfl
  refine wp_st (pc' := 5) (L' := [some (.ref 65), some (.int a1), some (.int a2), none, none, none]) (st' := []) (h' := Hp (up S 65 0 0)) 1 (fun Z => pfI sh65 rfl (Nat.le_of_ble_eq_true rfl) rfl _) ?_
  generalize up S 65 0 0 = S1 at hw ⊢
  refine wp_st (pc' := 7) (L' := [some (.ref 65), some (.int a1), some (.int a2), none, none, none]) (st' := [.int a1, .ref 65]) (h' := Hp S1) 2 (fun Z => rfl) ?_
  refine wp_call (pc' := 10) (rest := []) (fun Z => rfl) (isO_of sh65) hw ?_
  rintro o h1 ⟨x2, S3, rfl, rfl, hw⟩
  refine ⟨_, rfl, ?_⟩
  show wp E (d + 1) m_m_cell 10 [some (.ref 65), some (.int a1), some (.int a2), none, none, none] [.int x2] (Hp S3) (QI Q)
  by_cases hc : x2 = 0
  · rw [if_pos hc] at hw
    refine wp_st (pc' := 22) (L' := [some (.ref 65), some (.int a1), some (.int a2), none, none, none]) (st' := []) (h' := Hp S3) 1 (fun Z => if_pos hc) ?_
    refine wp_st (pc' := 23) (L' := [some (.ref 65), some (.int a1), some (.int a2), none, none, none]) (st' := [.int 0]) (h' := Hp S3) 1 (fun Z => rfl) ?_
    exact wp_ret (fun Z => rfl) ⟨_, _, rfl, rfl, hw⟩
  · rw [if_neg hc] at hw
    refine wp_st (pc' := 13) (L' := [some (.ref 65), some (.int a1), some (.int a2), none, none, none]) (st' := []) (h' := Hp S3) 1 (fun Z => if_neg hc) ?_
    refine wp_st (pc' := 16) (L' := [some (.ref 65), some (.int a1), some (.int a2), none, none, none]) (st' := [.int 1, .int a2, .ref 65]) (h' := Hp S3) 3 (fun Z => rfl) ?_
    refine wp_call (pc' := 19) (rest := []) (fun Z => rfl) (isO_of sh65) hw ?_
    rintro o h1 ⟨x4, S5, rfl, rfl, hw⟩
    refine ⟨_, rfl, ?_⟩
    show wp E (d + 1) m_m_cell 19 [some (.ref 65), some (.int a1), some (.int a2), none, none, none] [.int x4] (Hp S5) (QI Q)
    by_cases hc : x4 = 0
    · rw [if_pos hc] at hw
      refine wp_st (pc' := 22) (L' := [some (.ref 65), some (.int a1), some (.int a2), none, none, none]) (st' := []) (h' := Hp S5) 1 (fun Z => if_pos hc) ?_
      refine wp_st (pc' := 23) (L' := [some (.ref 65), some (.int a1), some (.int a2), none, none, none]) (st' := [.int 0]) (h' := Hp S5) 1 (fun Z => rfl) ?_
      exact wp_ret (fun Z => rfl) ⟨_, _, rfl, rfl, hw⟩
    · rw [if_neg hc] at hw
      refine wp_st (pc' := 24) (L' := [some (.ref 65), some (.int a1), some (.int a2), none, none, none]) (st' := []) (h' := Hp S5) 1 (fun Z => if_neg hc) ?_
      refine wp_st (pc' := 26) (L' := [some (.ref 65), some (.int a1), some (.int a2), some (.int 0), none, none]) (st' := []) (h' := Hp S5) 2 (fun Z => rfl) ?_
      refine wp_st (pc' := 27) (L' := [some (.ref 65), some (.int a1), some (.int a2), some (.int 0), none, none]) (st' := [.int (-1)]) (h' := Hp S5) 1 (fun Z => congrArg (fun v => Z (d + 1) m_m_cell 27 [some (.ref 65), some (.int a1), some (.int a2), some (.int 0), none, none] [.int v] (Hp S5)) (show Int32.ofInt (-1) = (-1) by decide)) ?_
      exact wp_st 3 (fun Z => rfl) (show wp E (d + 1) m_m_cell 32 [some (.ref 65), some (.int a1), some (.int a2), some (.int 0), some (.int (-1)), some (.int 0)] [] (Hp S5) (QI Q) from hw)
set_option maxRecDepth 4000 in
theorem w_m_cell_32 {E : zX} {d : Nat} {S : St} {a1 : Int32} {a2 : Int32} {a3 : Int32} {a4 : Int32} {a5 : Nat} {Q : Int32 → St → Prop} (hd : 1 ≤ d) 
    (hw : if (S 65 4) ≤ (nI a5) then (
      if a2 = 0 then (
        Q a3 S)
      else (
        Q a4 S))
    else (
      k_m_isWhite E (d - 1) S 0 (nI a5) (fun x1 S2 =>
      if x1 = 0 then (
        k_m_isIn E (d - 1) S2 0 (nI a5) a1 (fun x3 S4 =>
        if x3 = 0 then (
          k_m_cell_71 E d S4 a1 a2 a4 a5 a3 0 Q)
        else (
          k_m_cell_71 E d S4 a1 a2 a4 a5 a3 (bt a5) Q)))
      else (
        k_m_cell_71 E d S2 a1 a2 a4 a5 a3 0 Q)))) :
    k_m_cell_32 E d S a1 a2 a3 a4 a5 Q := by
  obtain ⟨d, rfl⟩ := Nat.exists_eq_add_of_le' hd
  show wp E (d + 1) m_m_cell 32 [some (.ref 65), some (.int a1), some (.int a2), some (.int a3), some (.int a4), some (.int (nI a5))] [] (Hp S) (QI Q)
  refine wp_st (pc' := 35) (L' := [some (.ref 65), some (.int a1), some (.int a2), some (.int a3), some (.int a4), some (.int (nI a5))]) (st' := [.ref 65, .int (nI a5)]) (h' := Hp S) 2 (fun Z => rfl) ?_
  refine wp_st (pc' := 38) (L' := [some (.ref 65), some (.int a1), some (.int a2), some (.int a3), some (.int a4), some (.int (nI a5))]) (st' := [.int (S 65 4), .int (nI a5)]) (h' := Hp S) 1 (fun Z => gfI (E := E) sh65 rfl _) ?_
  by_cases hc : (S 65 4) ≤ (nI a5)
  · rw [if_pos hc] at hw
    refine wp_st (pc' := 122) (L' := [some (.ref 65), some (.int a1), some (.int a2), some (.int a3), some (.int a4), some (.int (nI a5))]) (st' := []) (h' := Hp S) 1 (fun Z => if_pos hc) ?_
    refine wp_st (pc' := 123) (L' := [some (.ref 65), some (.int a1), some (.int a2), some (.int a3), some (.int a4), some (.int (nI a5))]) (st' := [.int a2]) (h' := Hp S) 1 (fun Z => rfl) ?_
    by_cases hc : a2 = 0
    · rw [if_pos hc] at hw
      refine wp_st (pc' := 126) (L' := [some (.ref 65), some (.int a1), some (.int a2), some (.int a3), some (.int a4), some (.int (nI a5))]) (st' := []) (h' := Hp S) 1 (fun Z => if_pos hc) ?_
      refine wp_st (pc' := 132) (L' := [some (.ref 65), some (.int a1), some (.int a2), some (.int a3), some (.int a4), some (.int (nI a5))]) (st' := [.int a3]) (h' := Hp S) 2 (fun Z => rfl) ?_
      exact wp_ret (fun Z => rfl) ⟨_, _, rfl, rfl, hw⟩
    · rw [if_neg hc] at hw
      refine wp_st (pc' := 130) (L' := [some (.ref 65), some (.int a1), some (.int a2), some (.int a3), some (.int a4), some (.int (nI a5))]) (st' := []) (h' := Hp S) 1 (fun Z => if_neg hc) ?_
      refine wp_st (pc' := 132) (L' := [some (.ref 65), some (.int a1), some (.int a2), some (.int a3), some (.int a4), some (.int (nI a5))]) (st' := [.int a4]) (h' := Hp S) 1 (fun Z => rfl) ?_
      exact wp_ret (fun Z => rfl) ⟨_, _, rfl, rfl, hw⟩
  · rw [if_neg hc] at hw
    refine wp_st (pc' := 41) (L' := [some (.ref 65), some (.int a1), some (.int a2), some (.int a3), some (.int a4), some (.int (nI a5))]) (st' := []) (h' := Hp S) 1 (fun Z => if_neg hc) ?_
    refine wp_st (pc' := 46) (L' := [some (.ref 65), some (.int a1), some (.int a2), some (.int a3), some (.int a4), some (.int (nI a5))]) (st' := [.int (nI a5), .int 0, .ref 65, .int a3]) (h' := Hp S) 4 (fun Z => rfl) ?_
    refine wp_call (pc' := 49) (rest := [.int a3]) (fun Z => rfl) (isO_of sh65) hw ?_
    rintro o h1 ⟨x1, S2, rfl, rfl, hw⟩
    refine ⟨_, rfl, ?_⟩
    show wp E (d + 1) m_m_cell 49 [some (.ref 65), some (.int a1), some (.int a2), some (.int a3), some (.int a4), some (.int (nI a5))] [.int x1, .int a3] (Hp S2) (QI Q)
    by_cases hc : x1 = 0
    · rw [if_pos hc] at hw
      refine wp_st (pc' := 52) (L' := [some (.ref 65), some (.int a1), some (.int a2), some (.int a3), some (.int a4), some (.int (nI a5))]) (st' := [.int a3]) (h' := Hp S2) 1 (fun Z => if_pos hc) ?_
      refine wp_st (pc' := 57) (L' := [some (.ref 65), some (.int a1), some (.int a2), some (.int a3), some (.int a4), some (.int (nI a5))]) (st' := [.int a1, .int (nI a5), .int 0, .ref 65, .int a3]) (h' := Hp S2) 4 (fun Z => rfl) ?_
      refine wp_call (pc' := 60) (rest := [.int a3]) (fun Z => rfl) (isO_of sh65) hw ?_
      rintro o h1 ⟨x3, S4, rfl, rfl, hw⟩
      refine ⟨_, rfl, ?_⟩
      show wp E (d + 1) m_m_cell 60 [some (.ref 65), some (.int a1), some (.int a2), some (.int a3), some (.int a4), some (.int (nI a5))] [.int x3, .int a3] (Hp S4) (QI Q)
      by_cases hc : x3 = 0
      · rw [if_pos hc] at hw
        refine wp_st (pc' := 70) (L' := [some (.ref 65), some (.int a1), some (.int a2), some (.int a3), some (.int a4), some (.int (nI a5))]) (st' := [.int a3]) (h' := Hp S4) 1 (fun Z => if_pos hc) ?_
        exact wp_st 1 (fun Z => rfl) (show wp E (d + 1) m_m_cell 71 [some (.ref 65), some (.int a1), some (.int a2), some (.int a3), some (.int a4), some (.int (nI a5))] [.int 0, .int a3] (Hp S4) (QI Q) from (hw (some (.int a3))))
      · rw [if_neg hc] at hw
        refine wp_st (pc' := 63) (L' := [some (.ref 65), some (.int a1), some (.int a2), some (.int a3), some (.int a4), some (.int (nI a5))]) (st' := [.int a3]) (h' := Hp S4) 1 (fun Z => if_neg hc) ?_
        exact wp_st 4 (fun Z => rfl) (show wp E (d + 1) m_m_cell 71 [some (.ref 65), some (.int a1), some (.int a2), some (.int a3), some (.int a4), some (.int (nI a5))] [.int (bt a5), .int a3] (Hp S4) (QI Q) from (hw (some (.int a3))))
    · rw [if_neg hc] at hw
      refine wp_st (pc' := 70) (L' := [some (.ref 65), some (.int a1), some (.int a2), some (.int a3), some (.int a4), some (.int (nI a5))]) (st' := [.int a3]) (h' := Hp S2) 1 (fun Z => if_neg hc) ?_
      exact wp_st 1 (fun Z => rfl) (show wp E (d + 1) m_m_cell 71 [some (.ref 65), some (.int a1), some (.int a2), some (.int a3), some (.int a4), some (.int (nI a5))] [.int 0, .int a3] (Hp S2) (QI Q) from (hw (some (.int a3))))
set_option maxRecDepth 4000 in
theorem w_m_cell_71 {E : zX} {d : Nat} {S : St} {a1 : Int32} {a2 : Int32} {a4 : Int32} {a5 : Nat} {s0 : Int32} {s1 : Int32} {Q : Int32 → St → Prop} (hd : 1 ≤ d) 
    (hw : if a4 = (-1) then (
      k_m_cell_32 E d S a1 a2 (s0 ||| s1) (nI a5) (a5 + 1) Q)
    else (
      (29 + a5) < 158 ∧
      k_m_farOf E (d - 1) S (S 77 (29 + a5)) a1 (fun x1 S2 =>
      ∃ m3 : Nat, ((29 : Int32) + a4) = nI m3 ∧ m3 < 158 ∧
      k_m_farOf E (d - 1) S2 (S2 77 m3) a1 (fun x4 S5 =>
      if x4 ≤ x1 then (
        k_m_cell_32 E d S5 a1 a2 (s0 ||| s1) a4 (a5 + 1) Q)
      else (
        k_m_cell_32 E d S5 a1 a2 (s0 ||| s1) (nI a5) (a5 + 1) Q))))) :
    k_m_cell_71 E d S a1 a2 a4 a5 s0 s1 Q := by
  obtain ⟨d, rfl⟩ := Nat.exists_eq_add_of_le' hd
  intro j3
  show wp E (d + 1) m_m_cell 71 [some (.ref 65), some (.int a1), some (.int a2), j3, some (.int a4), some (.int (nI a5))] [.int s1, .int s0] (Hp S) (QI Q)
  refine wp_st (pc' := 75) (L' := [some (.ref 65), some (.int a1), some (.int a2), some (.int (s0 ||| s1)), some (.int a4), some (.int (nI a5))]) (st' := [.int a4]) (h' := Hp S) 3 (fun Z => rfl) ?_
  refine wp_st (pc' := 76) (L' := [some (.ref 65), some (.int a1), some (.int a2), some (.int (s0 ||| s1)), some (.int a4), some (.int (nI a5))]) (st' := [.int (-1), .int a4]) (h' := Hp S) 1 (fun Z => congrArg (fun v => Z (d + 1) m_m_cell 76 [some (.ref 65), some (.int a1), some (.int a2), some (.int (s0 ||| s1)), some (.int a4), some (.int (nI a5))] [.int v, .int a4] (Hp S)) (show Int32.ofInt (-1) = (-1) by decide)) ?_
  by_cases hc : a4 = (-1)
  · rw [if_pos hc] at hw
    refine wp_st (pc' := 112) (L' := [some (.ref 65), some (.int a1), some (.int a2), some (.int (s0 ||| s1)), some (.int a4), some (.int (nI a5))]) (st' := []) (h' := Hp S) 1 (fun Z => if_pos hc) ?_
    refine wp_st (pc' := 116) (L' := [some (.ref 65), some (.int a1), some (.int a2), some (.int (s0 ||| s1)), some (.int (nI a5)), some (.int (nI a5))]) (st' := []) (h' := Hp S) 2 (fun Z => rfl) ?_
    refine wp_st (pc' := 119) (L' := [some (.ref 65), some (.int a1), some (.int a2), some (.int (s0 ||| s1)), some (.int (nI a5)), some (.int (nI (a5 + 1)))]) (st' := []) (h' := Hp S) 1 (fun Z => by rw [← nI_add a5 1]; rfl) ?_
    exact wp_st 1 (fun Z => rfl) (show wp E (d + 1) m_m_cell 32 [some (.ref 65), some (.int a1), some (.int a2), some (.int (s0 ||| s1)), some (.int (nI a5)), some (.int (nI (a5 + 1)))] [] (Hp S) (QI Q) from hw)
  · rw [if_neg hc] at hw
    refine wp_st (pc' := 79) (L' := [some (.ref 65), some (.int a1), some (.int a2), some (.int (s0 ||| s1)), some (.int a4), some (.int (nI a5))]) (st' := []) (h' := Hp S) 1 (fun Z => if_neg hc) ?_
    refine wp_st (pc' := 81) (L' := [some (.ref 65), some (.int a1), some (.int a2), some (.int (s0 ||| s1)), some (.int a4), some (.int (nI a5))]) (st' := [.ref 65, .ref 65]) (h' := Hp S) 2 (fun Z => rfl) ?_
    refine wp_st (pc' := 84) (L' := [some (.ref 65), some (.int a1), some (.int a2), some (.int (s0 ||| s1)), some (.int a4), some (.int (nI a5))]) (st' := [.ref 77, .ref 65]) (h' := Hp S) 1 (fun Z => gfR (E := E) sh65 rfl _) ?_
    refine wp_st (pc' := 88) (L' := [some (.ref 65), some (.int a1), some (.int a2), some (.int (s0 ||| s1)), some (.int a4), some (.int (nI a5))]) (st' := [.int (nI a5), .int 29, .ref 77, .ref 65]) (h' := Hp S) 2 (fun Z => rfl) ?_
    refine wp_st (pc' := 89) (L' := [some (.ref 65), some (.int a1), some (.int a2), some (.int (s0 ||| s1)), some (.int a4), some (.int (nI a5))]) (st' := [.int (nI (29 + a5)), .ref 77, .ref 65]) (h' := Hp S) 1 (fun Z => by rw [← nI_add 29 a5]; rfl) ?_
    obtain ⟨hi, hw⟩ := hw
    refine wp_st (pc' := 90) (L' := [some (.ref 65), some (.int a1), some (.int a2), some (.int (s0 ||| s1)), some (.int a4), some (.int (nI a5))]) (st' := [.int (S 77 (29 + a5)), .ref 65]) (h' := Hp S) 1 (fun Z => ldN (E := E) sh77 (by decide) hi [.ref 65] (fun st => Z (d + 1) m_m_cell 90 [some (.ref 65), some (.int a1), some (.int a2), some (.int (s0 ||| s1)), some (.int a4), some (.int (nI a5))] st (Hp S))) ?_
    refine wp_st (pc' := 91) (L' := [some (.ref 65), some (.int a1), some (.int a2), some (.int (s0 ||| s1)), some (.int a4), some (.int (nI a5))]) (st' := [.int a1, .int (S 77 (29 + a5)), .ref 65]) (h' := Hp S) 1 (fun Z => rfl) ?_
    refine wp_call (pc' := 94) (rest := []) (fun Z => rfl) (isO_of sh65) hw ?_
    rintro o h1 ⟨x1, S2, rfl, rfl, hw⟩
    refine ⟨_, rfl, ?_⟩
    show wp E (d + 1) m_m_cell 94 [some (.ref 65), some (.int a1), some (.int a2), some (.int (s0 ||| s1)), some (.int a4), some (.int (nI a5))] [.int x1] (Hp S2) (QI Q)
    refine wp_st (pc' := 96) (L' := [some (.ref 65), some (.int a1), some (.int a2), some (.int (s0 ||| s1)), some (.int a4), some (.int (nI a5))]) (st' := [.ref 65, .ref 65, .int x1]) (h' := Hp S2) 2 (fun Z => rfl) ?_
    refine wp_st (pc' := 99) (L' := [some (.ref 65), some (.int a1), some (.int a2), some (.int (s0 ||| s1)), some (.int a4), some (.int (nI a5))]) (st' := [.ref 77, .ref 65, .int x1]) (h' := Hp S2) 1 (fun Z => gfR (E := E) sh65 rfl _) ?_
    refine wp_st (pc' := 104) (L' := [some (.ref 65), some (.int a1), some (.int a2), some (.int (s0 ||| s1)), some (.int a4), some (.int (nI a5))]) (st' := [.int ((29 : Int32) + a4), .ref 77, .ref 65, .int x1]) (h' := Hp S2) 3 (fun Z => rfl) ?_
    obtain ⟨m3, em, hi, hw⟩ := hw
    refine wp_st (pc' := 105) (L' := [some (.ref 65), some (.int a1), some (.int a2), some (.int (s0 ||| s1)), some (.int a4), some (.int (nI a5))]) (st' := [.int (S2 77 m3), .ref 65, .int x1]) (h' := Hp S2) 1 (fun Z => (congrArg (fun v => zit E 1 Z (d + 1) m_m_cell 104 [some (.ref 65), some (.int a1), some (.int a2), some (.int (s0 ||| s1)), some (.int a4), some (.int (nI a5))] [.int v, .ref 77, .ref 65, .int x1] (Hp S2)) em).trans (ldN (E := E) sh77 (by decide) hi [.ref 65, .int x1] (fun st => Z (d + 1) m_m_cell 105 [some (.ref 65), some (.int a1), some (.int a2), some (.int (s0 ||| s1)), some (.int a4), some (.int (nI a5))] st (Hp S2)))) ?_
    refine wp_st (pc' := 106) (L' := [some (.ref 65), some (.int a1), some (.int a2), some (.int (s0 ||| s1)), some (.int a4), some (.int (nI a5))]) (st' := [.int a1, .int (S2 77 m3), .ref 65, .int x1]) (h' := Hp S2) 1 (fun Z => rfl) ?_
    refine wp_call (pc' := 109) (rest := [.int x1]) (fun Z => rfl) (isO_of sh65) hw ?_
    rintro o h1 ⟨x4, S5, rfl, rfl, hw⟩
    refine ⟨_, rfl, ?_⟩
    show wp E (d + 1) m_m_cell 109 [some (.ref 65), some (.int a1), some (.int a2), some (.int (s0 ||| s1)), some (.int a4), some (.int (nI a5))] [.int x4, .int x1] (Hp S5) (QI Q)
    by_cases hc : x4 ≤ x1
    · rw [if_pos hc] at hw
      refine wp_st (pc' := 116) (L' := [some (.ref 65), some (.int a1), some (.int a2), some (.int (s0 ||| s1)), some (.int a4), some (.int (nI a5))]) (st' := []) (h' := Hp S5) 1 (fun Z => if_pos hc) ?_
      refine wp_st (pc' := 119) (L' := [some (.ref 65), some (.int a1), some (.int a2), some (.int (s0 ||| s1)), some (.int a4), some (.int (nI (a5 + 1)))]) (st' := []) (h' := Hp S5) 1 (fun Z => by rw [← nI_add a5 1]; rfl) ?_
      exact wp_st 1 (fun Z => rfl) (show wp E (d + 1) m_m_cell 32 [some (.ref 65), some (.int a1), some (.int a2), some (.int (s0 ||| s1)), some (.int a4), some (.int (nI (a5 + 1)))] [] (Hp S5) (QI Q) from hw)
    · rw [if_neg hc] at hw
      refine wp_st (pc' := 112) (L' := [some (.ref 65), some (.int a1), some (.int a2), some (.int (s0 ||| s1)), some (.int a4), some (.int (nI a5))]) (st' := []) (h' := Hp S5) 1 (fun Z => if_neg hc) ?_
      refine wp_st (pc' := 116) (L' := [some (.ref 65), some (.int a1), some (.int a2), some (.int (s0 ||| s1)), some (.int (nI a5)), some (.int (nI a5))]) (st' := []) (h' := Hp S5) 2 (fun Z => rfl) ?_
      refine wp_st (pc' := 119) (L' := [some (.ref 65), some (.int a1), some (.int a2), some (.int (s0 ||| s1)), some (.int (nI a5)), some (.int (nI (a5 + 1)))]) (st' := []) (h' := Hp S5) 1 (fun Z => by rw [← nI_add a5 1]; rfl) ?_
      exact wp_st 1 (fun Z => rfl) (show wp E (d + 1) m_m_cell 32 [some (.ref 65), some (.int a1), some (.int a2), some (.int (s0 ||| s1)), some (.int (nI a5)), some (.int (nI (a5 + 1)))] [] (Hp S5) (QI Q) from hw)
set_option maxRecDepth 4000 in
theorem w_m_isShut {E : zX} {d : Nat} {S : St} {a1 : Int32} {Q : Int32 → St → Prop} (hd : 1 ≤ d) 
    (hw : k_m_isShut_4 E d S a1 0 0 Q) :
    k_m_isShut E d S a1 Q := by
  obtain ⟨d, rfl⟩ := Nat.exists_eq_add_of_le' hd
  show wp E (d + 1) m_m_isShut 0 [some (.ref 65), some (.int a1), none, none] [] (Hp S) (QI Q)
  exact wp_st 4 (fun Z => rfl) (show wp E (d + 1) m_m_isShut 4 [some (.ref 65), some (.int a1), some (.int 0), some (.int 0)] [] (Hp S) (QI Q) from hw)
set_option maxRecDepth 4000 in
theorem w_m_isShut_4 {E : zX} {d : Nat} {S : St} {a1 : Int32} {a2 : Int32} {a3 : Nat} {Q : Int32 → St → Prop} (hd : 1 ≤ d) 
    (hw : if (S 65 4) ≤ (nI a3) then (
      (a2 = 0 ∨ a2 = 1) ∧ Q a2 S)
    else (
      if a2 = 0 then (
        k_m_isWhite E (d - 1) S 0 (nI a3) (fun x1 S2 =>
        if x1 = 0 then (
          (29 + a3) < 158 ∧
          if (S2 77 (29 + a3)) = a1 then (
            k_m_isShut_4 E d S2 a1 1 (a3 + 1) Q)
          else (
            k_m_isShut_4 E d S2 a1 0 (a3 + 1) Q))
        else (
          k_m_isShut_4 E d S2 a1 0 (a3 + 1) Q)))
      else (
        k_m_isShut_4 E d S a1 1 (a3 + 1) Q))) :
    k_m_isShut_4 E d S a1 a2 a3 Q := by
  obtain ⟨d, rfl⟩ := Nat.exists_eq_add_of_le' hd
  show wp E (d + 1) m_m_isShut 4 [some (.ref 65), some (.int a1), some (.int a2), some (.int (nI a3))] [] (Hp S) (QI Q)
  refine wp_st (pc' := 6) (L' := [some (.ref 65), some (.int a1), some (.int a2), some (.int (nI a3))]) (st' := [.ref 65, .int (nI a3)]) (h' := Hp S) 2 (fun Z => rfl) ?_
  refine wp_st (pc' := 9) (L' := [some (.ref 65), some (.int a1), some (.int a2), some (.int (nI a3))]) (st' := [.int (S 65 4), .int (nI a3)]) (h' := Hp S) 1 (fun Z => gfI (E := E) sh65 rfl _) ?_
  by_cases hc : (S 65 4) ≤ (nI a3)
  · rw [if_pos hc] at hw
    refine wp_st (pc' := 50) (L' := [some (.ref 65), some (.int a1), some (.int a2), some (.int (nI a3))]) (st' := []) (h' := Hp S) 1 (fun Z => if_pos hc) ?_
    refine wp_st (pc' := 51) (L' := [some (.ref 65), some (.int a1), some (.int a2), some (.int (nI a3))]) (st' := [.int a2]) (h' := Hp S) 1 (fun Z => rfl) ?_
    obtain ⟨hz, hw⟩ := hw
    refine wp_ret (h' := Hp S) (o := .inl (some (.int a2))) (fun Z => ?_) ⟨_, _, rfl, rfl, hw⟩
    show (bif zfr _ _ then _ else none) = _
    rcases hz with hz | hz <;> rw [hz] <;> rfl
  · rw [if_neg hc] at hw
    refine wp_st (pc' := 12) (L' := [some (.ref 65), some (.int a1), some (.int a2), some (.int (nI a3))]) (st' := []) (h' := Hp S) 1 (fun Z => if_neg hc) ?_
    refine wp_st (pc' := 13) (L' := [some (.ref 65), some (.int a1), some (.int a2), some (.int (nI a3))]) (st' := [.int a2]) (h' := Hp S) 1 (fun Z => rfl) ?_
    by_cases hc : a2 = 0
    · rw [if_pos hc] at hw
      refine wp_st (pc' := 16) (L' := [some (.ref 65), some (.int a1), some (.int a2), some (.int (nI a3))]) (st' := []) (h' := Hp S) 1 (fun Z => if_pos hc) ?_
      refine wp_st (pc' := 19) (L' := [some (.ref 65), some (.int a1), some (.int a2), some (.int (nI a3))]) (st' := [.int (nI a3), .int 0, .ref 65]) (h' := Hp S) 3 (fun Z => rfl) ?_
      refine wp_call (pc' := 22) (rest := []) (fun Z => rfl) (isO_of sh65) hw ?_
      rintro o h1 ⟨x1, S2, rfl, rfl, hw⟩
      refine ⟨_, rfl, ?_⟩
      show wp E (d + 1) m_m_isShut 22 [some (.ref 65), some (.int a1), some (.int a2), some (.int (nI a3))] [.int x1] (Hp S2) (QI Q)
      by_cases hc : x1 = 0
      · rw [if_pos hc] at hw
        refine wp_st (pc' := 25) (L' := [some (.ref 65), some (.int a1), some (.int a2), some (.int (nI a3))]) (st' := []) (h' := Hp S2) 1 (fun Z => if_pos hc) ?_
        refine wp_st (pc' := 26) (L' := [some (.ref 65), some (.int a1), some (.int a2), some (.int (nI a3))]) (st' := [.ref 65]) (h' := Hp S2) 1 (fun Z => rfl) ?_
        refine wp_st (pc' := 29) (L' := [some (.ref 65), some (.int a1), some (.int a2), some (.int (nI a3))]) (st' := [.ref 77]) (h' := Hp S2) 1 (fun Z => gfR (E := E) sh65 rfl _) ?_
        refine wp_st (pc' := 32) (L' := [some (.ref 65), some (.int a1), some (.int a2), some (.int (nI a3))]) (st' := [.int (nI a3), .int 29, .ref 77]) (h' := Hp S2) 2 (fun Z => rfl) ?_
        refine wp_st (pc' := 33) (L' := [some (.ref 65), some (.int a1), some (.int a2), some (.int (nI a3))]) (st' := [.int (nI (29 + a3)), .ref 77]) (h' := Hp S2) 1 (fun Z => by rw [← nI_add 29 a3]; rfl) ?_
        obtain ⟨hi, hw⟩ := hw
        refine wp_st (pc' := 34) (L' := [some (.ref 65), some (.int a1), some (.int a2), some (.int (nI a3))]) (st' := [.int (S2 77 (29 + a3))]) (h' := Hp S2) 1 (fun Z => ldN (E := E) sh77 (by decide) hi [] (fun st => Z (d + 1) m_m_isShut 34 [some (.ref 65), some (.int a1), some (.int a2), some (.int (nI a3))] st (Hp S2))) ?_
        refine wp_st (pc' := 35) (L' := [some (.ref 65), some (.int a1), some (.int a2), some (.int (nI a3))]) (st' := [.int a1, .int (S2 77 (29 + a3))]) (h' := Hp S2) 1 (fun Z => rfl) ?_
        by_cases hc : (S2 77 (29 + a3)) = a1
        · rw [if_pos hc] at hw
          refine wp_st (pc' := 38) (L' := [some (.ref 65), some (.int a1), some (.int a2), some (.int (nI a3))]) (st' := []) (h' := Hp S2) 1 (fun Z => if_pos hc) ?_
          refine wp_st (pc' := 44) (L' := [some (.ref 65), some (.int a1), some (.int 1), some (.int (nI a3))]) (st' := []) (h' := Hp S2) 3 (fun Z => rfl) ?_
          refine wp_st (pc' := 47) (L' := [some (.ref 65), some (.int a1), some (.int 1), some (.int (nI (a3 + 1)))]) (st' := []) (h' := Hp S2) 1 (fun Z => by rw [← nI_add a3 1]; rfl) ?_
          exact wp_st 1 (fun Z => rfl) (show wp E (d + 1) m_m_isShut 4 [some (.ref 65), some (.int a1), some (.int 1), some (.int (nI (a3 + 1)))] [] (Hp S2) (QI Q) from hw)
        · rw [if_neg hc] at hw
          refine wp_st (pc' := 42) (L' := [some (.ref 65), some (.int a1), some (.int a2), some (.int (nI a3))]) (st' := []) (h' := Hp S2) 1 (fun Z => if_neg hc) ?_
          refine wp_st (pc' := 44) (L' := [some (.ref 65), some (.int a1), some (.int 0), some (.int (nI a3))]) (st' := []) (h' := Hp S2) 2 (fun Z => rfl) ?_
          refine wp_st (pc' := 47) (L' := [some (.ref 65), some (.int a1), some (.int 0), some (.int (nI (a3 + 1)))]) (st' := []) (h' := Hp S2) 1 (fun Z => by rw [← nI_add a3 1]; rfl) ?_
          exact wp_st 1 (fun Z => rfl) (show wp E (d + 1) m_m_isShut 4 [some (.ref 65), some (.int a1), some (.int 0), some (.int (nI (a3 + 1)))] [] (Hp S2) (QI Q) from hw)
      · rw [if_neg hc] at hw
        refine wp_st (pc' := 42) (L' := [some (.ref 65), some (.int a1), some (.int a2), some (.int (nI a3))]) (st' := []) (h' := Hp S2) 1 (fun Z => if_neg hc) ?_
        refine wp_st (pc' := 44) (L' := [some (.ref 65), some (.int a1), some (.int 0), some (.int (nI a3))]) (st' := []) (h' := Hp S2) 2 (fun Z => rfl) ?_
        refine wp_st (pc' := 47) (L' := [some (.ref 65), some (.int a1), some (.int 0), some (.int (nI (a3 + 1)))]) (st' := []) (h' := Hp S2) 1 (fun Z => by rw [← nI_add a3 1]; rfl) ?_
        exact wp_st 1 (fun Z => rfl) (show wp E (d + 1) m_m_isShut 4 [some (.ref 65), some (.int a1), some (.int 0), some (.int (nI (a3 + 1)))] [] (Hp S2) (QI Q) from hw)
    · rw [if_neg hc] at hw
      refine wp_st (pc' := 38) (L' := [some (.ref 65), some (.int a1), some (.int a2), some (.int (nI a3))]) (st' := []) (h' := Hp S) 1 (fun Z => if_neg hc) ?_
      refine wp_st (pc' := 44) (L' := [some (.ref 65), some (.int a1), some (.int 1), some (.int (nI a3))]) (st' := []) (h' := Hp S) 3 (fun Z => rfl) ?_
      refine wp_st (pc' := 47) (L' := [some (.ref 65), some (.int a1), some (.int 1), some (.int (nI (a3 + 1)))]) (st' := []) (h' := Hp S) 1 (fun Z => by rw [← nI_add a3 1]; rfl) ?_
      exact wp_st 1 (fun Z => rfl) (show wp E (d + 1) m_m_isShut 4 [some (.ref 65), some (.int a1), some (.int 1), some (.int (nI (a3 + 1)))] [] (Hp S) (QI Q) from hw)
set_option maxRecDepth 4000 in
theorem w_m_beside {E : zX} {d : Nat} {S : St} {a1 : Int32} {a2 : Int32} {Q : Int32 → St → Prop} 
    (hw : if a2 = 0 then (
      if a1 < (S 65 1) then (
        Q ((-1) : Int32) S)
      else (
        Q (a1 - (S 65 1)) S))
    else (
      if a2 = 1 then (
        ¬ (S 65 1) = 0 ∧
        if (S 65 1) ≤ ((zrem a1 (S 65 1)) + (1 : Int32)) then (
          Q ((-1) : Int32) S)
        else (
          Q (a1 + (1 : Int32)) S))
      else (
        if a2 = 2 then (
          ¬ (S 65 1) = 0 ∧
          if (S 65 2) ≤ ((a1 / (S 65 1)) + (1 : Int32)) then (
            Q ((-1) : Int32) S)
          else (
            Q (a1 + (S 65 1)) S))
        else (
          ¬ (S 65 1) = 0 ∧
          if (zrem a1 (S 65 1)) ≤ 0 then (
            Q ((-1) : Int32) S)
          else (
            Q (a1 - (1 : Int32)) S))))) :
    k_m_beside E d S a1 a2 Q := by
  show wp E d m_m_beside 0 [some (.ref 65), some (.int a1), some (.int a2)] [] (Hp S) (QI Q)
  refine wp_st (pc' := 1) (L' := [some (.ref 65), some (.int a1), some (.int a2)]) (st' := [.int a2]) (h' := Hp S) 1 (fun Z => rfl) ?_
  by_cases hc : a2 = 0
  · rw [if_pos hc] at hw
    refine wp_st (pc' := 4) (L' := [some (.ref 65), some (.int a1), some (.int a2)]) (st' := []) (h' := Hp S) 1 (fun Z => if_pos hc) ?_
    refine wp_st (pc' := 6) (L' := [some (.ref 65), some (.int a1), some (.int a2)]) (st' := [.ref 65, .int a1]) (h' := Hp S) 2 (fun Z => rfl) ?_
    refine wp_st (pc' := 9) (L' := [some (.ref 65), some (.int a1), some (.int a2)]) (st' := [.int (S 65 1), .int a1]) (h' := Hp S) 1 (fun Z => gfI (E := E) sh65 rfl _) ?_
    by_cases hc : a1 < (S 65 1)
    · rw [if_pos hc] at hw
      refine wp_st (pc' := 21) (L' := [some (.ref 65), some (.int a1), some (.int a2)]) (st' := []) (h' := Hp S) 1 (fun Z => if_pos hc) ?_
      refine wp_st (pc' := 22) (L' := [some (.ref 65), some (.int a1), some (.int a2)]) (st' := [.int (-1)]) (h' := Hp S) 1 (fun Z => congrArg (fun v => Z d m_m_beside 22 [some (.ref 65), some (.int a1), some (.int a2)] [.int v] (Hp S)) (show Int32.ofInt (-1) = (-1) by decide)) ?_
      exact wp_ret (fun Z => rfl) ⟨_, _, rfl, rfl, hw⟩
    · rw [if_neg hc] at hw
      refine wp_st (pc' := 12) (L' := [some (.ref 65), some (.int a1), some (.int a2)]) (st' := []) (h' := Hp S) 1 (fun Z => if_neg hc) ?_
      refine wp_st (pc' := 14) (L' := [some (.ref 65), some (.int a1), some (.int a2)]) (st' := [.ref 65, .int a1]) (h' := Hp S) 2 (fun Z => rfl) ?_
      refine wp_st (pc' := 17) (L' := [some (.ref 65), some (.int a1), some (.int a2)]) (st' := [.int (S 65 1), .int a1]) (h' := Hp S) 1 (fun Z => gfI (E := E) sh65 rfl _) ?_
      refine wp_st (pc' := 22) (L' := [some (.ref 65), some (.int a1), some (.int a2)]) (st' := [.int (a1 - (S 65 1))]) (h' := Hp S) 2 (fun Z => rfl) ?_
      exact wp_ret (fun Z => rfl) ⟨_, _, rfl, rfl, hw⟩
  · rw [if_neg hc] at hw
    refine wp_st (pc' := 23) (L' := [some (.ref 65), some (.int a1), some (.int a2)]) (st' := []) (h' := Hp S) 1 (fun Z => if_neg hc) ?_
    refine wp_st (pc' := 25) (L' := [some (.ref 65), some (.int a1), some (.int a2)]) (st' := [.int 1, .int a2]) (h' := Hp S) 2 (fun Z => rfl) ?_
    by_cases hc : a2 = 1
    · rw [if_pos hc] at hw
      refine wp_st (pc' := 28) (L' := [some (.ref 65), some (.int a1), some (.int a2)]) (st' := []) (h' := Hp S) 1 (fun Z => if_pos hc) ?_
      refine wp_st (pc' := 30) (L' := [some (.ref 65), some (.int a1), some (.int a2)]) (st' := [.ref 65, .int a1]) (h' := Hp S) 2 (fun Z => rfl) ?_
      refine wp_st (pc' := 33) (L' := [some (.ref 65), some (.int a1), some (.int a2)]) (st' := [.int (S 65 1), .int a1]) (h' := Hp S) 1 (fun Z => gfI (E := E) sh65 rfl _) ?_
      obtain ⟨hz, hw⟩ := hw
      refine wp_st (pc' := 34) (L' := [some (.ref 65), some (.int a1), some (.int a2)]) (st' := [.int (zrem a1 (S 65 1))]) (h' := Hp S) 1 (fun Z => if_neg hz) ?_
      refine wp_st (pc' := 37) (L' := [some (.ref 65), some (.int a1), some (.int a2)]) (st' := [.ref 65, .int ((zrem a1 (S 65 1)) + (1 : Int32))]) (h' := Hp S) 3 (fun Z => rfl) ?_
      refine wp_st (pc' := 40) (L' := [some (.ref 65), some (.int a1), some (.int a2)]) (st' := [.int (S 65 1), .int ((zrem a1 (S 65 1)) + (1 : Int32))]) (h' := Hp S) 1 (fun Z => gfI (E := E) sh65 rfl _) ?_
      by_cases hc : (S 65 1) ≤ ((zrem a1 (S 65 1)) + (1 : Int32))
      · rw [if_pos hc] at hw
        refine wp_st (pc' := 49) (L' := [some (.ref 65), some (.int a1), some (.int a2)]) (st' := []) (h' := Hp S) 1 (fun Z => if_pos hc) ?_
        refine wp_st (pc' := 50) (L' := [some (.ref 65), some (.int a1), some (.int a2)]) (st' := [.int (-1)]) (h' := Hp S) 1 (fun Z => congrArg (fun v => Z d m_m_beside 50 [some (.ref 65), some (.int a1), some (.int a2)] [.int v] (Hp S)) (show Int32.ofInt (-1) = (-1) by decide)) ?_
        exact wp_ret (fun Z => rfl) ⟨_, _, rfl, rfl, hw⟩
      · rw [if_neg hc] at hw
        refine wp_st (pc' := 43) (L' := [some (.ref 65), some (.int a1), some (.int a2)]) (st' := []) (h' := Hp S) 1 (fun Z => if_neg hc) ?_
        refine wp_st (pc' := 50) (L' := [some (.ref 65), some (.int a1), some (.int a2)]) (st' := [.int (a1 + (1 : Int32))]) (h' := Hp S) 4 (fun Z => rfl) ?_
        exact wp_ret (fun Z => rfl) ⟨_, _, rfl, rfl, hw⟩
    · rw [if_neg hc] at hw
      refine wp_st (pc' := 51) (L' := [some (.ref 65), some (.int a1), some (.int a2)]) (st' := []) (h' := Hp S) 1 (fun Z => if_neg hc) ?_
      refine wp_st (pc' := 53) (L' := [some (.ref 65), some (.int a1), some (.int a2)]) (st' := [.int 2, .int a2]) (h' := Hp S) 2 (fun Z => rfl) ?_
      by_cases hc : a2 = 2
      · rw [if_pos hc] at hw
        refine wp_st (pc' := 56) (L' := [some (.ref 65), some (.int a1), some (.int a2)]) (st' := []) (h' := Hp S) 1 (fun Z => if_pos hc) ?_
        refine wp_st (pc' := 58) (L' := [some (.ref 65), some (.int a1), some (.int a2)]) (st' := [.ref 65, .int a1]) (h' := Hp S) 2 (fun Z => rfl) ?_
        refine wp_st (pc' := 61) (L' := [some (.ref 65), some (.int a1), some (.int a2)]) (st' := [.int (S 65 1), .int a1]) (h' := Hp S) 1 (fun Z => gfI (E := E) sh65 rfl _) ?_
        obtain ⟨hz, hw⟩ := hw
        refine wp_st (pc' := 62) (L' := [some (.ref 65), some (.int a1), some (.int a2)]) (st' := [.int (a1 / (S 65 1))]) (h' := Hp S) 1 (fun Z => if_neg hz) ?_
        refine wp_st (pc' := 65) (L' := [some (.ref 65), some (.int a1), some (.int a2)]) (st' := [.ref 65, .int ((a1 / (S 65 1)) + (1 : Int32))]) (h' := Hp S) 3 (fun Z => rfl) ?_
        refine wp_st (pc' := 68) (L' := [some (.ref 65), some (.int a1), some (.int a2)]) (st' := [.int (S 65 2), .int ((a1 / (S 65 1)) + (1 : Int32))]) (h' := Hp S) 1 (fun Z => gfI (E := E) sh65 rfl _) ?_
        by_cases hc : (S 65 2) ≤ ((a1 / (S 65 1)) + (1 : Int32))
        · rw [if_pos hc] at hw
          refine wp_st (pc' := 80) (L' := [some (.ref 65), some (.int a1), some (.int a2)]) (st' := []) (h' := Hp S) 1 (fun Z => if_pos hc) ?_
          refine wp_st (pc' := 81) (L' := [some (.ref 65), some (.int a1), some (.int a2)]) (st' := [.int (-1)]) (h' := Hp S) 1 (fun Z => congrArg (fun v => Z d m_m_beside 81 [some (.ref 65), some (.int a1), some (.int a2)] [.int v] (Hp S)) (show Int32.ofInt (-1) = (-1) by decide)) ?_
          exact wp_ret (fun Z => rfl) ⟨_, _, rfl, rfl, hw⟩
        · rw [if_neg hc] at hw
          refine wp_st (pc' := 71) (L' := [some (.ref 65), some (.int a1), some (.int a2)]) (st' := []) (h' := Hp S) 1 (fun Z => if_neg hc) ?_
          refine wp_st (pc' := 73) (L' := [some (.ref 65), some (.int a1), some (.int a2)]) (st' := [.ref 65, .int a1]) (h' := Hp S) 2 (fun Z => rfl) ?_
          refine wp_st (pc' := 76) (L' := [some (.ref 65), some (.int a1), some (.int a2)]) (st' := [.int (S 65 1), .int a1]) (h' := Hp S) 1 (fun Z => gfI (E := E) sh65 rfl _) ?_
          refine wp_st (pc' := 81) (L' := [some (.ref 65), some (.int a1), some (.int a2)]) (st' := [.int (a1 + (S 65 1))]) (h' := Hp S) 2 (fun Z => rfl) ?_
          exact wp_ret (fun Z => rfl) ⟨_, _, rfl, rfl, hw⟩
      · rw [if_neg hc] at hw
        refine wp_st (pc' := 82) (L' := [some (.ref 65), some (.int a1), some (.int a2)]) (st' := []) (h' := Hp S) 1 (fun Z => if_neg hc) ?_
        refine wp_st (pc' := 84) (L' := [some (.ref 65), some (.int a1), some (.int a2)]) (st' := [.ref 65, .int a1]) (h' := Hp S) 2 (fun Z => rfl) ?_
        refine wp_st (pc' := 87) (L' := [some (.ref 65), some (.int a1), some (.int a2)]) (st' := [.int (S 65 1), .int a1]) (h' := Hp S) 1 (fun Z => gfI (E := E) sh65 rfl _) ?_
        obtain ⟨hz, hw⟩ := hw
        refine wp_st (pc' := 88) (L' := [some (.ref 65), some (.int a1), some (.int a2)]) (st' := [.int (zrem a1 (S 65 1))]) (h' := Hp S) 1 (fun Z => if_neg hz) ?_
        by_cases hc : (zrem a1 (S 65 1)) ≤ 0
        · rw [if_pos hc] at hw
          refine wp_st (pc' := 97) (L' := [some (.ref 65), some (.int a1), some (.int a2)]) (st' := []) (h' := Hp S) 1 (fun Z => if_pos hc) ?_
          refine wp_st (pc' := 98) (L' := [some (.ref 65), some (.int a1), some (.int a2)]) (st' := [.int (-1)]) (h' := Hp S) 1 (fun Z => congrArg (fun v => Z d m_m_beside 98 [some (.ref 65), some (.int a1), some (.int a2)] [.int v] (Hp S)) (show Int32.ofInt (-1) = (-1) by decide)) ?_
          exact wp_ret (fun Z => rfl) ⟨_, _, rfl, rfl, hw⟩
        · rw [if_neg hc] at hw
          refine wp_st (pc' := 91) (L' := [some (.ref 65), some (.int a1), some (.int a2)]) (st' := []) (h' := Hp S) 1 (fun Z => if_neg hc) ?_
          refine wp_st (pc' := 98) (L' := [some (.ref 65), some (.int a1), some (.int a2)]) (st' := [.int (a1 - (1 : Int32))]) (h' := Hp S) 4 (fun Z => rfl) ?_
          exact wp_ret (fun Z => rfl) ⟨_, _, rfl, rfl, hw⟩
set_option maxRecDepth 4000 in
theorem w_m_canPut {E : zX} {d : Nat} {S : St} {a1 : Nat} {a2 : Nat} {a3 : Int32} {Q : Int32 → St → Prop} (hd : 1 ≤ d) 
    (hw : if ((a3 >>> ((nI a2) &&& 31)) &&& (1 : Int32)) = 0 then (
      (1 + a1) < 158 ∧
      if (S 77 (1 + a1)) ≤ 0 then (
        Q (0 : Int32) S)
      else (
        k_m_isWhite E (d - 1) S 0 (nI a2) (fun x1 S2 =>
        if x1 = 0 then (
          Q (0 : Int32) S2)
        else (
          a2 < 10 ∧
          (1 + a1) < 158 ∧
          if (S2 67 a2) < (S2 77 (1 + a1)) then (
            Q (0 : Int32) S2)
          else (
            Q (1 : Int32) S2)))))
    else (
      Q (0 : Int32) S)) :
    k_m_canPut E d S (nI a1) (nI a2) a3 Q := by
  obtain ⟨d, rfl⟩ := Nat.exists_eq_add_of_le' hd
  show wp E (d + 1) m_m_canPut 0 [some (.ref 65), some (.int (nI a1)), some (.int (nI a2)), some (.int a3)] [] (Hp S) (QI Q)
  refine wp_st (pc' := 5) (L' := [some (.ref 65), some (.int (nI a1)), some (.int (nI a2)), some (.int a3)]) (st' := [.int ((a3 >>> ((nI a2) &&& 31)) &&& (1 : Int32))]) (h' := Hp S) 5 (fun Z => rfl) ?_
  by_cases hc : ((a3 >>> ((nI a2) &&& 31)) &&& (1 : Int32)) = 0
  · rw [if_pos hc] at hw
    refine wp_st (pc' := 8) (L' := [some (.ref 65), some (.int (nI a1)), some (.int (nI a2)), some (.int a3)]) (st' := []) (h' := Hp S) 1 (fun Z => if_pos hc) ?_
    refine wp_st (pc' := 9) (L' := [some (.ref 65), some (.int (nI a1)), some (.int (nI a2)), some (.int a3)]) (st' := [.ref 65]) (h' := Hp S) 1 (fun Z => rfl) ?_
    refine wp_st (pc' := 12) (L' := [some (.ref 65), some (.int (nI a1)), some (.int (nI a2)), some (.int a3)]) (st' := [.ref 77]) (h' := Hp S) 1 (fun Z => gfR (E := E) sh65 rfl _) ?_
    refine wp_st (pc' := 14) (L' := [some (.ref 65), some (.int (nI a1)), some (.int (nI a2)), some (.int a3)]) (st' := [.int (nI a1), .int 1, .ref 77]) (h' := Hp S) 2 (fun Z => rfl) ?_
    refine wp_st (pc' := 15) (L' := [some (.ref 65), some (.int (nI a1)), some (.int (nI a2)), some (.int a3)]) (st' := [.int (nI (1 + a1)), .ref 77]) (h' := Hp S) 1 (fun Z => by rw [← nI_add 1 a1]; rfl) ?_
    obtain ⟨hi, hw⟩ := hw
    refine wp_st (pc' := 16) (L' := [some (.ref 65), some (.int (nI a1)), some (.int (nI a2)), some (.int a3)]) (st' := [.int (S 77 (1 + a1))]) (h' := Hp S) 1 (fun Z => ldN (E := E) sh77 (by decide) hi [] (fun st => Z (d + 1) m_m_canPut 16 [some (.ref 65), some (.int (nI a1)), some (.int (nI a2)), some (.int a3)] st (Hp S))) ?_
    by_cases hc : (S 77 (1 + a1)) ≤ 0
    · rw [if_pos hc] at hw
      refine wp_st (pc' := 49) (L' := [some (.ref 65), some (.int (nI a1)), some (.int (nI a2)), some (.int a3)]) (st' := []) (h' := Hp S) 1 (fun Z => if_pos hc) ?_
      refine wp_st (pc' := 50) (L' := [some (.ref 65), some (.int (nI a1)), some (.int (nI a2)), some (.int a3)]) (st' := [.int 0]) (h' := Hp S) 1 (fun Z => rfl) ?_
      exact wp_ret (fun Z => rfl) ⟨_, _, rfl, rfl, hw⟩
    · rw [if_neg hc] at hw
      refine wp_st (pc' := 19) (L' := [some (.ref 65), some (.int (nI a1)), some (.int (nI a2)), some (.int a3)]) (st' := []) (h' := Hp S) 1 (fun Z => if_neg hc) ?_
      refine wp_st (pc' := 22) (L' := [some (.ref 65), some (.int (nI a1)), some (.int (nI a2)), some (.int a3)]) (st' := [.int (nI a2), .int 0, .ref 65]) (h' := Hp S) 3 (fun Z => rfl) ?_
      refine wp_call (pc' := 25) (rest := []) (fun Z => rfl) (isO_of sh65) hw ?_
      rintro o h1 ⟨x1, S2, rfl, rfl, hw⟩
      refine ⟨_, rfl, ?_⟩
      show wp E (d + 1) m_m_canPut 25 [some (.ref 65), some (.int (nI a1)), some (.int (nI a2)), some (.int a3)] [.int x1] (Hp S2) (QI Q)
      by_cases hc : x1 = 0
      · rw [if_pos hc] at hw
        refine wp_st (pc' := 49) (L' := [some (.ref 65), some (.int (nI a1)), some (.int (nI a2)), some (.int a3)]) (st' := []) (h' := Hp S2) 1 (fun Z => if_pos hc) ?_
        refine wp_st (pc' := 50) (L' := [some (.ref 65), some (.int (nI a1)), some (.int (nI a2)), some (.int a3)]) (st' := [.int 0]) (h' := Hp S2) 1 (fun Z => rfl) ?_
        exact wp_ret (fun Z => rfl) ⟨_, _, rfl, rfl, hw⟩
      · rw [if_neg hc] at hw
        refine wp_st (pc' := 28) (L' := [some (.ref 65), some (.int (nI a1)), some (.int (nI a2)), some (.int a3)]) (st' := []) (h' := Hp S2) 1 (fun Z => if_neg hc) ?_
        refine wp_st (pc' := 29) (L' := [some (.ref 65), some (.int (nI a1)), some (.int (nI a2)), some (.int a3)]) (st' := [.ref 65]) (h' := Hp S2) 1 (fun Z => rfl) ?_
        refine wp_st (pc' := 32) (L' := [some (.ref 65), some (.int (nI a1)), some (.int (nI a2)), some (.int a3)]) (st' := [.ref 67]) (h' := Hp S2) 1 (fun Z => gfR (E := E) sh65 rfl _) ?_
        refine wp_st (pc' := 33) (L' := [some (.ref 65), some (.int (nI a1)), some (.int (nI a2)), some (.int a3)]) (st' := [.int (nI a2), .ref 67]) (h' := Hp S2) 1 (fun Z => rfl) ?_
        obtain ⟨hi, hw⟩ := hw
        refine wp_st (pc' := 34) (L' := [some (.ref 65), some (.int (nI a1)), some (.int (nI a2)), some (.int a3)]) (st' := [.int (S2 67 a2)]) (h' := Hp S2) 1 (fun Z => ldN (E := E) sh67 (by decide) hi [] (fun st => Z (d + 1) m_m_canPut 34 [some (.ref 65), some (.int (nI a1)), some (.int (nI a2)), some (.int a3)] st (Hp S2))) ?_
        refine wp_st (pc' := 35) (L' := [some (.ref 65), some (.int (nI a1)), some (.int (nI a2)), some (.int a3)]) (st' := [.ref 65, .int (S2 67 a2)]) (h' := Hp S2) 1 (fun Z => rfl) ?_
        refine wp_st (pc' := 38) (L' := [some (.ref 65), some (.int (nI a1)), some (.int (nI a2)), some (.int a3)]) (st' := [.ref 77, .int (S2 67 a2)]) (h' := Hp S2) 1 (fun Z => gfR (E := E) sh65 rfl _) ?_
        refine wp_st (pc' := 40) (L' := [some (.ref 65), some (.int (nI a1)), some (.int (nI a2)), some (.int a3)]) (st' := [.int (nI a1), .int 1, .ref 77, .int (S2 67 a2)]) (h' := Hp S2) 2 (fun Z => rfl) ?_
        refine wp_st (pc' := 41) (L' := [some (.ref 65), some (.int (nI a1)), some (.int (nI a2)), some (.int a3)]) (st' := [.int (nI (1 + a1)), .ref 77, .int (S2 67 a2)]) (h' := Hp S2) 1 (fun Z => by rw [← nI_add 1 a1]; rfl) ?_
        obtain ⟨hi, hw⟩ := hw
        refine wp_st (pc' := 42) (L' := [some (.ref 65), some (.int (nI a1)), some (.int (nI a2)), some (.int a3)]) (st' := [.int (S2 77 (1 + a1)), .int (S2 67 a2)]) (h' := Hp S2) 1 (fun Z => ldN (E := E) sh77 (by decide) hi [.int (S2 67 a2)] (fun st => Z (d + 1) m_m_canPut 42 [some (.ref 65), some (.int (nI a1)), some (.int (nI a2)), some (.int a3)] st (Hp S2))) ?_
        by_cases hc : (S2 67 a2) < (S2 77 (1 + a1))
        · rw [if_pos hc] at hw
          refine wp_st (pc' := 49) (L' := [some (.ref 65), some (.int (nI a1)), some (.int (nI a2)), some (.int a3)]) (st' := []) (h' := Hp S2) 1 (fun Z => if_pos hc) ?_
          refine wp_st (pc' := 50) (L' := [some (.ref 65), some (.int (nI a1)), some (.int (nI a2)), some (.int a3)]) (st' := [.int 0]) (h' := Hp S2) 1 (fun Z => rfl) ?_
          exact wp_ret (fun Z => rfl) ⟨_, _, rfl, rfl, hw⟩
        · rw [if_neg hc] at hw
          refine wp_st (pc' := 45) (L' := [some (.ref 65), some (.int (nI a1)), some (.int (nI a2)), some (.int a3)]) (st' := []) (h' := Hp S2) 1 (fun Z => if_neg hc) ?_
          refine wp_st (pc' := 50) (L' := [some (.ref 65), some (.int (nI a1)), some (.int (nI a2)), some (.int a3)]) (st' := [.int 1]) (h' := Hp S2) 2 (fun Z => rfl) ?_
          exact wp_ret (fun Z => rfl) ⟨_, _, rfl, rfl, hw⟩
  · rw [if_neg hc] at hw
    refine wp_st (pc' := 49) (L' := [some (.ref 65), some (.int (nI a1)), some (.int (nI a2)), some (.int a3)]) (st' := []) (h' := Hp S) 1 (fun Z => if_neg hc) ?_
    refine wp_st (pc' := 50) (L' := [some (.ref 65), some (.int (nI a1)), some (.int (nI a2)), some (.int a3)]) (st' := [.int 0]) (h' := Hp S) 1 (fun Z => rfl) ?_
    exact wp_ret (fun Z => rfl) ⟨_, _, rfl, rfl, hw⟩
set_option maxRecDepth 4000 in
theorem w_m_forget {E : zX} {d : Nat} {S : St}  {Q : St → Prop} 
    (hw : ∀ S1, S1 = up S 65 0 0 →
    ∀ S2, S2 = up S1 65 53 0 →
    Q S2) :
    k_m_forget E d S Q := by
  show wp E d m_m_forget 0 [some (.ref 65)] [] (Hp S) (QV Q)
  refine wp_st (pc' := 2) (L' := [some (.ref 65)]) (st' := [.int 0, .ref 65]) (h' := Hp S) 2 (fun Z => rfl) ?_
  have hw := hw _ rfl
  refine wp_st (pc' := 5) (L' := [some (.ref 65)]) (st' := []) (h' := Hp (up S 65 0 0)) 1 (fun Z => pfI sh65 rfl (Nat.le_of_ble_eq_true rfl) rfl _) ?_
  generalize up S 65 0 0 = S1 at hw ⊢
  refine wp_st (pc' := 7) (L' := [some (.ref 65)]) (st' := [.int 0, .ref 65]) (h' := Hp S1) 2 (fun Z => rfl) ?_
  have hw := hw _ rfl
  refine wp_st (pc' := 10) (L' := [some (.ref 65)]) (st' := []) (h' := Hp (up S1 65 53 0)) 1 (fun Z => pfI sh65 rfl (Nat.le_of_ble_eq_true rfl) rfl _) ?_
  generalize up S1 65 53 0 = S2 at hw ⊢
  exact wp_ret (fun Z => rfl) ⟨_, rfl, rfl, hw⟩
set_option maxRecDepth 4000 in
theorem w_m_isSeen {E : zX} {d : Nat} {S : St}  {Q : Int32 → St → Prop} (hd : 1 ≤ d) 
    (hw : k_m_isSeen_2 E d S 0 Q) :
    k_m_isSeen E d S Q := by
  obtain ⟨d, rfl⟩ := Nat.exists_eq_add_of_le' hd
  show wp E (d + 1) m_m_isSeen 0 [some (.ref 65), none, none] [] (Hp S) (QI Q)
  exact wp_st 2 (fun Z => rfl) (show wp E (d + 1) m_m_isSeen 2 [some (.ref 65), some (.int 0), none] [] (Hp S) (QI Q) from (hw none))
set_option maxRecDepth 4000 in
theorem w_m_isSeen_2 {E : zX} {d : Nat} {S : St} {a1 : Nat} {Q : Int32 → St → Prop} (hd : 1 ≤ d) 
    (hw : if nI 20 < (nI a1) then (
      Q (1 : Int32) S)
    else (
      k_m_isSeen_10 E d S a1 0 Q)) :
    k_m_isSeen_2 E d S a1 Q := by
  obtain ⟨d, rfl⟩ := Nat.exists_eq_add_of_le' hd
  intro j2
  show wp E (d + 1) m_m_isSeen 2 [some (.ref 65), some (.int (nI a1)), j2] [] (Hp S) (QI Q)
  refine wp_st (pc' := 5) (L' := [some (.ref 65), some (.int (nI a1)), j2]) (st' := [.int 20, .int (nI a1)]) (h' := Hp S) 2 (fun Z => rfl) ?_
  by_cases hc : nI 20 < (nI a1)
  · rw [if_pos hc] at hw
    refine wp_st (pc' := 124) (L' := [some (.ref 65), some (.int (nI a1)), j2]) (st' := []) (h' := Hp S) 1 (fun Z => if_pos hc) ?_
    refine wp_st (pc' := 125) (L' := [some (.ref 65), some (.int (nI a1)), j2]) (st' := [.int 1]) (h' := Hp S) 1 (fun Z => rfl) ?_
    exact wp_ret (fun Z => rfl) ⟨_, _, rfl, rfl, hw⟩
  · rw [if_neg hc] at hw
    refine wp_st (pc' := 8) (L' := [some (.ref 65), some (.int (nI a1)), j2]) (st' := []) (h' := Hp S) 1 (fun Z => if_neg hc) ?_
    exact wp_st 2 (fun Z => rfl) (show wp E (d + 1) m_m_isSeen 10 [some (.ref 65), some (.int (nI a1)), some (.int 0)] [] (Hp S) (QI Q) from hw)
set_option maxRecDepth 4000 in
theorem w_m_isSeen_10 {E : zX} {d : Nat} {S : St} {a1 : Nat} {a2 : Nat} {Q : Int32 → St → Prop} (hd : 1 ≤ d) 
    (hw : if (S 65 53) ≤ (nI a2) then (
      if (nI a1) = nI 8 then (
        k_m_isSeen_83 E d S a1 0 Q)
      else (
        k_m_dayOf E (d - 1) S 79 (fun S2 =>
        k_m_isSeen_2 E d S2 (a1 + 1) Q)))
    else (
      ((3 * a2) + 1) < 24 ∧
      if (S 85 ((3 * a2) + 1)) = (nI a1) then (
        (3 * a2) < 24 ∧
        k_m_isWhite E (d - 1) S 79 (S 85 (3 * a2)) (fun x3 S4 =>
        if x3 = 0 then (
          k_m_isSeen_54 E d S4 a1 a2 0 Q)
        else (
          k_m_isSeen_54 E d S4 a1 a2 1 Q)))
      else (
        k_m_isSeen_10 E d S a1 (a2 + 1) Q))) :
    k_m_isSeen_10 E d S a1 a2 Q := by
  obtain ⟨d, rfl⟩ := Nat.exists_eq_add_of_le' hd
  show wp E (d + 1) m_m_isSeen 10 [some (.ref 65), some (.int (nI a1)), some (.int (nI a2))] [] (Hp S) (QI Q)
  refine wp_st (pc' := 12) (L' := [some (.ref 65), some (.int (nI a1)), some (.int (nI a2))]) (st' := [.ref 65, .int (nI a2)]) (h' := Hp S) 2 (fun Z => rfl) ?_
  refine wp_st (pc' := 15) (L' := [some (.ref 65), some (.int (nI a1)), some (.int (nI a2))]) (st' := [.int (S 65 53), .int (nI a2)]) (h' := Hp S) 1 (fun Z => gfI (E := E) sh65 rfl _) ?_
  by_cases hc : (S 65 53) ≤ (nI a2)
  · rw [if_pos hc] at hw
    refine wp_st (pc' := 75) (L' := [some (.ref 65), some (.int (nI a1)), some (.int (nI a2))]) (st' := []) (h' := Hp S) 1 (fun Z => if_pos hc) ?_
    refine wp_st (pc' := 78) (L' := [some (.ref 65), some (.int (nI a1)), some (.int (nI a2))]) (st' := [.int 8, .int (nI a1)]) (h' := Hp S) 2 (fun Z => rfl) ?_
    by_cases hc : (nI a1) = nI 8
    · rw [if_pos hc] at hw
      refine wp_st (pc' := 81) (L' := [some (.ref 65), some (.int (nI a1)), some (.int (nI a2))]) (st' := []) (h' := Hp S) 1 (fun Z => if_pos hc) ?_
      exact wp_st 2 (fun Z => rfl) (show wp E (d + 1) m_m_isSeen 83 [some (.ref 65), some (.int (nI a1)), some (.int 0)] [] (Hp S) (QI Q) from hw)
    · rw [if_neg hc] at hw
      refine wp_st (pc' := 112) (L' := [some (.ref 65), some (.int (nI a1)), some (.int (nI a2))]) (st' := []) (h' := Hp S) 1 (fun Z => if_neg hc) ?_
      refine wp_st (pc' := 115) (L' := [some (.ref 65), some (.int (nI a1)), some (.int (nI a2))]) (st' := [.int 79, .ref 65]) (h' := Hp S) 2 (fun Z => rfl) ?_
      refine wp_call (pc' := 118) (rest := []) (fun Z => rfl) (isO_of sh65) hw ?_
      rintro o h1 ⟨S2, rfl, rfl, hw⟩
      refine ⟨_, rfl, ?_⟩
      show wp E (d + 1) m_m_isSeen 118 [some (.ref 65), some (.int (nI a1)), some (.int (nI a2))] [] (Hp S2) (QI Q)
      refine wp_st (pc' := 121) (L' := [some (.ref 65), some (.int (nI (a1 + 1))), some (.int (nI a2))]) (st' := []) (h' := Hp S2) 1 (fun Z => by rw [← nI_add a1 1]; rfl) ?_
      exact wp_st 1 (fun Z => rfl) (show wp E (d + 1) m_m_isSeen 2 [some (.ref 65), some (.int (nI (a1 + 1))), some (.int (nI a2))] [] (Hp S2) (QI Q) from (hw (some (.int (nI a2)))))
  · rw [if_neg hc] at hw
    refine wp_st (pc' := 18) (L' := [some (.ref 65), some (.int (nI a1)), some (.int (nI a2))]) (st' := []) (h' := Hp S) 1 (fun Z => if_neg hc) ?_
    refine wp_st (pc' := 19) (L' := [some (.ref 65), some (.int (nI a1)), some (.int (nI a2))]) (st' := [.ref 65]) (h' := Hp S) 1 (fun Z => rfl) ?_
    refine wp_st (pc' := 22) (L' := [some (.ref 65), some (.int (nI a1)), some (.int (nI a2))]) (st' := [.ref 85]) (h' := Hp S) 1 (fun Z => gfR (E := E) sh65 rfl _) ?_
    refine wp_st (pc' := 24) (L' := [some (.ref 65), some (.int (nI a1)), some (.int (nI a2))]) (st' := [.int (nI a2), .int 3, .ref 85]) (h' := Hp S) 2 (fun Z => rfl) ?_
    refine wp_st (pc' := 25) (L' := [some (.ref 65), some (.int (nI a1)), some (.int (nI a2))]) (st' := [.int (nI (3 * a2)), .ref 85]) (h' := Hp S) 1 (fun Z => by rw [← pk_mul 3 a2]; rfl) ?_
    refine wp_st (pc' := 26) (L' := [some (.ref 65), some (.int (nI a1)), some (.int (nI a2))]) (st' := [.int 1, .int (nI (3 * a2)), .ref 85]) (h' := Hp S) 1 (fun Z => rfl) ?_
    refine wp_st (pc' := 27) (L' := [some (.ref 65), some (.int (nI a1)), some (.int (nI a2))]) (st' := [.int (nI ((3 * a2) + 1)), .ref 85]) (h' := Hp S) 1 (fun Z => by rw [← nI_add (3 * a2) 1]; rfl) ?_
    obtain ⟨hi, hw⟩ := hw
    refine wp_st (pc' := 28) (L' := [some (.ref 65), some (.int (nI a1)), some (.int (nI a2))]) (st' := [.int (S 85 ((3 * a2) + 1))]) (h' := Hp S) 1 (fun Z => ldN (E := E) sh85 (by decide) hi [] (fun st => Z (d + 1) m_m_isSeen 28 [some (.ref 65), some (.int (nI a1)), some (.int (nI a2))] st (Hp S))) ?_
    refine wp_st (pc' := 29) (L' := [some (.ref 65), some (.int (nI a1)), some (.int (nI a2))]) (st' := [.int (nI a1), .int (S 85 ((3 * a2) + 1))]) (h' := Hp S) 1 (fun Z => rfl) ?_
    by_cases hc : (S 85 ((3 * a2) + 1)) = (nI a1)
    · rw [if_pos hc] at hw
      refine wp_st (pc' := 32) (L' := [some (.ref 65), some (.int (nI a1)), some (.int (nI a2))]) (st' := []) (h' := Hp S) 1 (fun Z => if_pos hc) ?_
      refine wp_st (pc' := 36) (L' := [some (.ref 65), some (.int (nI a1)), some (.int (nI a2))]) (st' := [.ref 65, .int 79, .ref 65]) (h' := Hp S) 3 (fun Z => rfl) ?_
      refine wp_st (pc' := 39) (L' := [some (.ref 65), some (.int (nI a1)), some (.int (nI a2))]) (st' := [.ref 85, .int 79, .ref 65]) (h' := Hp S) 1 (fun Z => gfR (E := E) sh65 rfl _) ?_
      refine wp_st (pc' := 41) (L' := [some (.ref 65), some (.int (nI a1)), some (.int (nI a2))]) (st' := [.int (nI a2), .int 3, .ref 85, .int 79, .ref 65]) (h' := Hp S) 2 (fun Z => rfl) ?_
      refine wp_st (pc' := 42) (L' := [some (.ref 65), some (.int (nI a1)), some (.int (nI a2))]) (st' := [.int (nI (3 * a2)), .ref 85, .int 79, .ref 65]) (h' := Hp S) 1 (fun Z => by rw [← pk_mul 3 a2]; rfl) ?_
      obtain ⟨hi, hw⟩ := hw
      refine wp_st (pc' := 43) (L' := [some (.ref 65), some (.int (nI a1)), some (.int (nI a2))]) (st' := [.int (S 85 (3 * a2)), .int 79, .ref 65]) (h' := Hp S) 1 (fun Z => ldN (E := E) sh85 (by decide) hi [.int 79, .ref 65] (fun st => Z (d + 1) m_m_isSeen 43 [some (.ref 65), some (.int (nI a1)), some (.int (nI a2))] st (Hp S))) ?_
      refine wp_call (pc' := 46) (rest := []) (fun Z => rfl) (isO_of sh65) hw ?_
      rintro o h1 ⟨x3, S4, rfl, rfl, hw⟩
      refine ⟨_, rfl, ?_⟩
      show wp E (d + 1) m_m_isSeen 46 [some (.ref 65), some (.int (nI a1)), some (.int (nI a2))] [.int x3] (Hp S4) (QI Q)
      by_cases hc : x3 = 0
      · rw [if_pos hc] at hw
        refine wp_st (pc' := 53) (L' := [some (.ref 65), some (.int (nI a1)), some (.int (nI a2))]) (st' := []) (h' := Hp S4) 1 (fun Z => if_pos hc) ?_
        exact wp_st 1 (fun Z => rfl) (show wp E (d + 1) m_m_isSeen 54 [some (.ref 65), some (.int (nI a1)), some (.int (nI a2))] [.int 0] (Hp S4) (QI Q) from hw)
      · rw [if_neg hc] at hw
        refine wp_st (pc' := 49) (L' := [some (.ref 65), some (.int (nI a1)), some (.int (nI a2))]) (st' := []) (h' := Hp S4) 1 (fun Z => if_neg hc) ?_
        exact wp_st 2 (fun Z => rfl) (show wp E (d + 1) m_m_isSeen 54 [some (.ref 65), some (.int (nI a1)), some (.int (nI a2))] [.int 1] (Hp S4) (QI Q) from hw)
    · rw [if_neg hc] at hw
      refine wp_st (pc' := 69) (L' := [some (.ref 65), some (.int (nI a1)), some (.int (nI a2))]) (st' := []) (h' := Hp S) 1 (fun Z => if_neg hc) ?_
      refine wp_st (pc' := 72) (L' := [some (.ref 65), some (.int (nI a1)), some (.int (nI (a2 + 1)))]) (st' := []) (h' := Hp S) 1 (fun Z => by rw [← nI_add a2 1]; rfl) ?_
      exact wp_st 1 (fun Z => rfl) (show wp E (d + 1) m_m_isSeen 10 [some (.ref 65), some (.int (nI a1)), some (.int (nI (a2 + 1)))] [] (Hp S) (QI Q) from hw)
set_option maxRecDepth 4000 in
theorem w_m_isSeen_54 {E : zX} {d : Nat} {S : St} {a1 : Nat} {a2 : Nat} {s0 : Int32} {Q : Int32 → St → Prop} (hd : 1 ≤ d) 
    (hw : ((3 * a2) + 2) < 24 ∧
    if s0 = (S 85 ((3 * a2) + 2)) then (
      k_m_isSeen_10 E d S a1 (a2 + 1) Q)
    else (
      Q (0 : Int32) S)) :
    k_m_isSeen_54 E d S a1 a2 s0 Q := by
  obtain ⟨d, rfl⟩ := Nat.exists_eq_add_of_le' hd
  show wp E (d + 1) m_m_isSeen 54 [some (.ref 65), some (.int (nI a1)), some (.int (nI a2))] [.int s0] (Hp S) (QI Q)
  refine wp_st (pc' := 55) (L' := [some (.ref 65), some (.int (nI a1)), some (.int (nI a2))]) (st' := [.ref 65, .int s0]) (h' := Hp S) 1 (fun Z => rfl) ?_
  refine wp_st (pc' := 58) (L' := [some (.ref 65), some (.int (nI a1)), some (.int (nI a2))]) (st' := [.ref 85, .int s0]) (h' := Hp S) 1 (fun Z => gfR (E := E) sh65 rfl _) ?_
  refine wp_st (pc' := 60) (L' := [some (.ref 65), some (.int (nI a1)), some (.int (nI a2))]) (st' := [.int (nI a2), .int 3, .ref 85, .int s0]) (h' := Hp S) 2 (fun Z => rfl) ?_
  refine wp_st (pc' := 61) (L' := [some (.ref 65), some (.int (nI a1)), some (.int (nI a2))]) (st' := [.int (nI (3 * a2)), .ref 85, .int s0]) (h' := Hp S) 1 (fun Z => by rw [← pk_mul 3 a2]; rfl) ?_
  refine wp_st (pc' := 62) (L' := [some (.ref 65), some (.int (nI a1)), some (.int (nI a2))]) (st' := [.int 2, .int (nI (3 * a2)), .ref 85, .int s0]) (h' := Hp S) 1 (fun Z => rfl) ?_
  refine wp_st (pc' := 63) (L' := [some (.ref 65), some (.int (nI a1)), some (.int (nI a2))]) (st' := [.int (nI ((3 * a2) + 2)), .ref 85, .int s0]) (h' := Hp S) 1 (fun Z => by rw [← nI_add (3 * a2) 2]; rfl) ?_
  obtain ⟨hi, hw⟩ := hw
  refine wp_st (pc' := 64) (L' := [some (.ref 65), some (.int (nI a1)), some (.int (nI a2))]) (st' := [.int (S 85 ((3 * a2) + 2)), .int s0]) (h' := Hp S) 1 (fun Z => ldN (E := E) sh85 (by decide) hi [.int s0] (fun st => Z (d + 1) m_m_isSeen 64 [some (.ref 65), some (.int (nI a1)), some (.int (nI a2))] st (Hp S))) ?_
  by_cases hc : s0 = (S 85 ((3 * a2) + 2))
  · rw [if_pos hc] at hw
    refine wp_st (pc' := 69) (L' := [some (.ref 65), some (.int (nI a1)), some (.int (nI a2))]) (st' := []) (h' := Hp S) 1 (fun Z => if_pos hc) ?_
    refine wp_st (pc' := 72) (L' := [some (.ref 65), some (.int (nI a1)), some (.int (nI (a2 + 1)))]) (st' := []) (h' := Hp S) 1 (fun Z => by rw [← nI_add a2 1]; rfl) ?_
    exact wp_st 1 (fun Z => rfl) (show wp E (d + 1) m_m_isSeen 10 [some (.ref 65), some (.int (nI a1)), some (.int (nI (a2 + 1)))] [] (Hp S) (QI Q) from hw)
  · rw [if_neg hc] at hw
    refine wp_st (pc' := 67) (L' := [some (.ref 65), some (.int (nI a1)), some (.int (nI a2))]) (st' := []) (h' := Hp S) 1 (fun Z => if_neg hc) ?_
    refine wp_st (pc' := 68) (L' := [some (.ref 65), some (.int (nI a1)), some (.int (nI a2))]) (st' := [.int 0]) (h' := Hp S) 1 (fun Z => rfl) ?_
    exact wp_ret (fun Z => rfl) ⟨_, _, rfl, rfl, hw⟩
set_option maxRecDepth 4000 in
theorem w_m_isSeen_83 {E : zX} {d : Nat} {S : St} {a1 : Nat} {a2 : Nat} {Q : Int32 → St → Prop} (hd : 1 ≤ d) 
    (hw : if (S 65 4) ≤ (nI a2) then (
      k_m_dayOf E (d - 1) S 79 (fun S2 =>
      k_m_isSeen_2 E d S2 (a1 + 1) Q))
    else (
      (118 + a2) < 158 ∧
      a2 < 10 ∧
      ∀ S3, S3 = up S 86 a2 (S 77 (118 + a2)) →
      k_m_isSeen_83 E d S3 a1 (a2 + 1) Q)) :
    k_m_isSeen_83 E d S a1 a2 Q := by
  obtain ⟨d, rfl⟩ := Nat.exists_eq_add_of_le' hd
  show wp E (d + 1) m_m_isSeen 83 [some (.ref 65), some (.int (nI a1)), some (.int (nI a2))] [] (Hp S) (QI Q)
  refine wp_st (pc' := 85) (L' := [some (.ref 65), some (.int (nI a1)), some (.int (nI a2))]) (st' := [.ref 65, .int (nI a2)]) (h' := Hp S) 2 (fun Z => rfl) ?_
  refine wp_st (pc' := 88) (L' := [some (.ref 65), some (.int (nI a1)), some (.int (nI a2))]) (st' := [.int (S 65 4), .int (nI a2)]) (h' := Hp S) 1 (fun Z => gfI (E := E) sh65 rfl _) ?_
  by_cases hc : (S 65 4) ≤ (nI a2)
  · rw [if_pos hc] at hw
    refine wp_st (pc' := 112) (L' := [some (.ref 65), some (.int (nI a1)), some (.int (nI a2))]) (st' := []) (h' := Hp S) 1 (fun Z => if_pos hc) ?_
    refine wp_st (pc' := 115) (L' := [some (.ref 65), some (.int (nI a1)), some (.int (nI a2))]) (st' := [.int 79, .ref 65]) (h' := Hp S) 2 (fun Z => rfl) ?_
    refine wp_call (pc' := 118) (rest := []) (fun Z => rfl) (isO_of sh65) hw ?_
    rintro o h1 ⟨S2, rfl, rfl, hw⟩
    refine ⟨_, rfl, ?_⟩
    show wp E (d + 1) m_m_isSeen 118 [some (.ref 65), some (.int (nI a1)), some (.int (nI a2))] [] (Hp S2) (QI Q)
    refine wp_st (pc' := 121) (L' := [some (.ref 65), some (.int (nI (a1 + 1))), some (.int (nI a2))]) (st' := []) (h' := Hp S2) 1 (fun Z => by rw [← nI_add a1 1]; rfl) ?_
    exact wp_st 1 (fun Z => rfl) (show wp E (d + 1) m_m_isSeen 2 [some (.ref 65), some (.int (nI (a1 + 1))), some (.int (nI a2))] [] (Hp S2) (QI Q) from (hw (some (.int (nI a2)))))
  · rw [if_neg hc] at hw
    refine wp_st (pc' := 91) (L' := [some (.ref 65), some (.int (nI a1)), some (.int (nI a2))]) (st' := []) (h' := Hp S) 1 (fun Z => if_neg hc) ?_
    refine wp_st (pc' := 92) (L' := [some (.ref 65), some (.int (nI a1)), some (.int (nI a2))]) (st' := [.ref 65]) (h' := Hp S) 1 (fun Z => rfl) ?_
    refine wp_st (pc' := 95) (L' := [some (.ref 65), some (.int (nI a1)), some (.int (nI a2))]) (st' := [.ref 86]) (h' := Hp S) 1 (fun Z => gfR (E := E) sh65 rfl _) ?_
    refine wp_st (pc' := 97) (L' := [some (.ref 65), some (.int (nI a1)), some (.int (nI a2))]) (st' := [.ref 65, .int (nI a2), .ref 86]) (h' := Hp S) 2 (fun Z => rfl) ?_
    refine wp_st (pc' := 100) (L' := [some (.ref 65), some (.int (nI a1)), some (.int (nI a2))]) (st' := [.ref 77, .int (nI a2), .ref 86]) (h' := Hp S) 1 (fun Z => gfR (E := E) sh65 rfl _) ?_
    refine wp_st (pc' := 103) (L' := [some (.ref 65), some (.int (nI a1)), some (.int (nI a2))]) (st' := [.int (nI a2), .int 118, .ref 77, .int (nI a2), .ref 86]) (h' := Hp S) 2 (fun Z => rfl) ?_
    refine wp_st (pc' := 104) (L' := [some (.ref 65), some (.int (nI a1)), some (.int (nI a2))]) (st' := [.int (nI (118 + a2)), .ref 77, .int (nI a2), .ref 86]) (h' := Hp S) 1 (fun Z => by rw [← nI_add 118 a2]; rfl) ?_
    obtain ⟨hi, hw⟩ := hw
    refine wp_st (pc' := 105) (L' := [some (.ref 65), some (.int (nI a1)), some (.int (nI a2))]) (st' := [.int (S 77 (118 + a2)), .int (nI a2), .ref 86]) (h' := Hp S) 1 (fun Z => ldN (E := E) sh77 (by decide) hi [.int (nI a2), .ref 86] (fun st => Z (d + 1) m_m_isSeen 105 [some (.ref 65), some (.int (nI a1)), some (.int (nI a2))] st (Hp S))) ?_
    obtain ⟨hi, hw⟩ := hw
    have hw := hw _ rfl
    refine wp_st (pc' := 106) (L' := [some (.ref 65), some (.int (nI a1)), some (.int (nI a2))]) (st' := []) (h' := Hp (up S 86 a2 (S 77 (118 + a2)))) 1 (fun Z => stN sh86 (by decide) hi _ _) ?_
    generalize up S 86 a2 (S 77 (118 + a2)) = S3 at hw ⊢
    refine wp_st (pc' := 109) (L' := [some (.ref 65), some (.int (nI a1)), some (.int (nI (a2 + 1)))]) (st' := []) (h' := Hp S3) 1 (fun Z => by rw [← nI_add a2 1]; rfl) ?_
    exact wp_st 1 (fun Z => rfl) (show wp E (d + 1) m_m_isSeen 83 [some (.ref 65), some (.int (nI a1)), some (.int (nI (a2 + 1)))] [] (Hp S3) (QI Q) from hw)
set_option maxRecDepth 4000 in
theorem w_m_isGuess {E : zX} {d : Nat} {S : St} {a1 : Int32} {Q : Int32 → St → Prop} (hd : 1 ≤ d) 
    (hw : ∃ m1 : Nat, ((22 : Int32) + (a1 / 10)) = nI m1 ∧ m1 < 158 ∧
    if (S 77 m1) = (zrem a1 10) then (
      Q (0 : Int32) S)
    else (
      k_m_tries E (d - 1) S (fun S3 =>
      ∃ m5 : Nat, ((101 : Int32) + (a1 / 10)) = nI m5 ∧ m5 < 158 ∧
      ∀ S4, S4 = up S3 77 m5 (zrem a1 10) →
      k_m_isSeen E (d - 1) S4 (fun x6 S7 =>
      (x6 = 0 ∨ x6 = 1) ∧ Q x6 S7)))) :
    k_m_isGuess E d S a1 Q := by
  obtain ⟨d, rfl⟩ := Nat.exists_eq_add_of_le' hd
  show wp E (d + 1) m_m_isGuess 0 [some (.ref 65), some (.int a1), none] [] (Hp S) (QI Q)
  refine wp_st (pc' := 3) (L' := [some (.ref 65), some (.int a1), none]) (st' := [.int 10, .int a1]) (h' := Hp S) 2 (fun Z => rfl) ?_
  refine wp_st (pc' := 4) (L' := [some (.ref 65), some (.int a1), none]) (st' := [.int (a1 / 10)]) (h' := Hp S) 1 (fun Z => rfl) ?_
  refine wp_st (pc' := 6) (L' := [some (.ref 65), some (.int a1), some (.int (a1 / 10))]) (st' := [.ref 65]) (h' := Hp S) 2 (fun Z => rfl) ?_
  refine wp_st (pc' := 9) (L' := [some (.ref 65), some (.int a1), some (.int (a1 / 10))]) (st' := [.ref 77]) (h' := Hp S) 1 (fun Z => gfR (E := E) sh65 rfl _) ?_
  refine wp_st (pc' := 13) (L' := [some (.ref 65), some (.int a1), some (.int (a1 / 10))]) (st' := [.int ((22 : Int32) + (a1 / 10)), .ref 77]) (h' := Hp S) 3 (fun Z => rfl) ?_
  obtain ⟨m1, em, hi, hw⟩ := hw
  refine wp_st (pc' := 14) (L' := [some (.ref 65), some (.int a1), some (.int (a1 / 10))]) (st' := [.int (S 77 m1)]) (h' := Hp S) 1 (fun Z => (congrArg (fun v => zit E 1 Z (d + 1) m_m_isGuess 13 [some (.ref 65), some (.int a1), some (.int (a1 / 10))] [.int v, .ref 77] (Hp S)) em).trans (ldN (E := E) sh77 (by decide) hi [] (fun st => Z (d + 1) m_m_isGuess 14 [some (.ref 65), some (.int a1), some (.int (a1 / 10))] st (Hp S)))) ?_
  refine wp_st (pc' := 17) (L' := [some (.ref 65), some (.int a1), some (.int (a1 / 10))]) (st' := [.int 10, .int a1, .int (S 77 m1)]) (h' := Hp S) 2 (fun Z => rfl) ?_
  refine wp_st (pc' := 18) (L' := [some (.ref 65), some (.int a1), some (.int (a1 / 10))]) (st' := [.int (zrem a1 10), .int (S 77 m1)]) (h' := Hp S) 1 (fun Z => rfl) ?_
  by_cases hc : (S 77 m1) = (zrem a1 10)
  · rw [if_pos hc] at hw
    refine wp_st (pc' := 21) (L' := [some (.ref 65), some (.int a1), some (.int (a1 / 10))]) (st' := []) (h' := Hp S) 1 (fun Z => if_pos hc) ?_
    refine wp_st (pc' := 22) (L' := [some (.ref 65), some (.int a1), some (.int (a1 / 10))]) (st' := [.int 0]) (h' := Hp S) 1 (fun Z => rfl) ?_
    exact wp_ret (fun Z => rfl) ⟨_, _, rfl, rfl, hw⟩
  · rw [if_neg hc] at hw
    refine wp_st (pc' := 23) (L' := [some (.ref 65), some (.int a1), some (.int (a1 / 10))]) (st' := []) (h' := Hp S) 1 (fun Z => if_neg hc) ?_
    refine wp_st (pc' := 24) (L' := [some (.ref 65), some (.int a1), some (.int (a1 / 10))]) (st' := [.ref 65]) (h' := Hp S) 1 (fun Z => rfl) ?_
    refine wp_call (pc' := 27) (rest := []) (fun Z => rfl) (isO_of sh65) hw ?_
    rintro o h1 ⟨S3, rfl, rfl, hw⟩
    refine ⟨_, rfl, ?_⟩
    show wp E (d + 1) m_m_isGuess 27 [some (.ref 65), some (.int a1), some (.int (a1 / 10))] [] (Hp S3) (QI Q)
    refine wp_st (pc' := 28) (L' := [some (.ref 65), some (.int a1), some (.int (a1 / 10))]) (st' := [.ref 65]) (h' := Hp S3) 1 (fun Z => rfl) ?_
    refine wp_st (pc' := 31) (L' := [some (.ref 65), some (.int a1), some (.int (a1 / 10))]) (st' := [.ref 77]) (h' := Hp S3) 1 (fun Z => gfR (E := E) sh65 rfl _) ?_
    refine wp_st (pc' := 38) (L' := [some (.ref 65), some (.int a1), some (.int (a1 / 10))]) (st' := [.int 10, .int a1, .int ((101 : Int32) + (a1 / 10)), .ref 77]) (h' := Hp S3) 5 (fun Z => rfl) ?_
    refine wp_st (pc' := 39) (L' := [some (.ref 65), some (.int a1), some (.int (a1 / 10))]) (st' := [.int (zrem a1 10), .int ((101 : Int32) + (a1 / 10)), .ref 77]) (h' := Hp S3) 1 (fun Z => rfl) ?_
    obtain ⟨m5, em, hi, hw⟩ := hw
    have hw := hw _ rfl
    refine wp_st (pc' := 40) (L' := [some (.ref 65), some (.int a1), some (.int (a1 / 10))]) (st' := []) (h' := Hp (up S3 77 m5 (zrem a1 10))) 1 (fun Z => (congrArg (fun v => zit E 1 Z (d + 1) m_m_isGuess 39 [some (.ref 65), some (.int a1), some (.int (a1 / 10))] [.int (zrem a1 10), .int v, .ref 77] (Hp S3)) em).trans (stN sh77 (by decide) hi _ _)) ?_
    generalize up S3 77 m5 (zrem a1 10) = S4 at hw ⊢
    refine wp_st (pc' := 41) (L' := [some (.ref 65), some (.int a1), some (.int (a1 / 10))]) (st' := [.ref 65]) (h' := Hp S4) 1 (fun Z => rfl) ?_
    refine wp_call (pc' := 44) (rest := []) (fun Z => rfl) (isO_of sh65) hw ?_
    rintro o h1 ⟨x6, S7, rfl, rfl, hw⟩
    refine ⟨_, rfl, ?_⟩
    show wp E (d + 1) m_m_isGuess 44 [some (.ref 65), some (.int a1), some (.int (a1 / 10))] [.int x6] (Hp S7) (QI Q)
    obtain ⟨hz, hw⟩ := hw
    refine wp_ret (h' := Hp S7) (o := .inl (some (.int x6))) (fun Z => ?_) ⟨_, _, rfl, rfl, hw⟩
    show (bif zfr _ _ then _ else none) = _
    rcases hz with hz | hz <;> rw [hz] <;> rfl
set_option maxRecDepth 4000 in
theorem w_m_boys {E : zX} {d : Nat} {S : St} {a1 : Int32} {a2 : Int32} {a3 : Int32} {Q : Int32 → St → Prop} (hd : 1 ≤ d) 
    (hw : ∀ S1, S1 = up S 65 0 0 →
    k_m_isBall E (d - 1) S1 a1 (fun x2 S3 =>
    if x2 = 0 then (
      Q (0 : Int32) S3)
    else (
      k_m_within E (d - 1) S3 a2 1 5 (fun x4 S5 =>
      if x4 = 0 then (
        k_m_boys_37 E d S5 a1 a2 a3 Q)
      else (
        k_m_within E (d - 1) S5 a3 0 10 (fun x6 S7 =>
        if x6 = 0 then (
          k_m_boys_37 E d S7 a1 a2 a3 Q)
        else (
          k_m_right E (d - 1) S7 1 2 (fun x8 S9 =>
          if x8 = 0 then (
            Q (0 : Int32) S9)
          else (
            k_m_boys_53 E d S9 a1 a2 a3 0 0 Q))))))))) :
    k_m_boys E d S a1 a2 a3 Q := by
  obtain ⟨d, rfl⟩ := Nat.exists_eq_add_of_le' hd
  show wp E (d + 1) m_m_boys 0 [some (.ref 65), some (.int a1), some (.int a2), some (.int a3), none, none, none, none, none] [] (Hp S) (QI Q)
  refine wp_st (pc' := 2) (L' := [some (.ref 65), some (.int a1), some (.int a2), some (.int a3), none, none, none, none, none]) (st' := [.int 0, .ref 65]) (h' := Hp S) 2 (fun Z => rfl) ?_
  have hw := hw _ rfl
  refine wp_st (pc' := 5) (L' := [some (.ref 65), some (.int a1), some (.int a2), some (.int a3), none, none, none, none, none]) (st' := []) (h' := Hp (up S 65 0 0)) 1 (fun Z => pfI sh65 rfl (Nat.le_of_ble_eq_true rfl) rfl _) ?_
  generalize up S 65 0 0 = S1 at hw ⊢
  refine wp_st (pc' := 7) (L' := [some (.ref 65), some (.int a1), some (.int a2), some (.int a3), none, none, none, none, none]) (st' := [.int a1, .ref 65]) (h' := Hp S1) 2 (fun Z => rfl) ?_
  refine wp_call (pc' := 10) (rest := []) (fun Z => rfl) (isO_of sh65) hw ?_
  rintro o h1 ⟨x2, S3, rfl, rfl, hw⟩
  refine ⟨_, rfl, ?_⟩
  show wp E (d + 1) m_m_boys 10 [some (.ref 65), some (.int a1), some (.int a2), some (.int a3), none, none, none, none, none] [.int x2] (Hp S3) (QI Q)
  by_cases hc : x2 = 0
  · rw [if_pos hc] at hw
    refine wp_st (pc' := 45) (L' := [some (.ref 65), some (.int a1), some (.int a2), some (.int a3), none, none, none, none, none]) (st' := []) (h' := Hp S3) 1 (fun Z => if_pos hc) ?_
    refine wp_st (pc' := 46) (L' := [some (.ref 65), some (.int a1), some (.int a2), some (.int a3), none, none, none, none, none]) (st' := [.int 0]) (h' := Hp S3) 1 (fun Z => rfl) ?_
    exact wp_ret (fun Z => rfl) ⟨_, _, rfl, rfl, hw⟩
  · rw [if_neg hc] at hw
    refine wp_st (pc' := 13) (L' := [some (.ref 65), some (.int a1), some (.int a2), some (.int a3), none, none, none, none, none]) (st' := []) (h' := Hp S3) 1 (fun Z => if_neg hc) ?_
    refine wp_st (pc' := 17) (L' := [some (.ref 65), some (.int a1), some (.int a2), some (.int a3), none, none, none, none, none]) (st' := [.int 5, .int 1, .int a2, .ref 65]) (h' := Hp S3) 4 (fun Z => rfl) ?_
    refine wp_call (pc' := 20) (rest := [.ref 65]) (fun Z => rfl) rfl hw ?_
    rintro o h1 ⟨x4, S5, rfl, rfl, hw⟩
    refine ⟨_, rfl, ?_⟩
    show wp E (d + 1) m_m_boys 20 [some (.ref 65), some (.int a1), some (.int a2), some (.int a3), none, none, none, none, none] [.int x4, .ref 65] (Hp S5) (QI Q)
    by_cases hc : x4 = 0
    · rw [if_pos hc] at hw
      refine wp_st (pc' := 37) (L' := [some (.ref 65), some (.int a1), some (.int a2), some (.int a3), none, none, none, none, none]) (st' := [.ref 65]) (h' := Hp S5) 1 (fun Z => if_pos hc) ?_
      exact (show wp E (d + 1) m_m_boys 37 [some (.ref 65), some (.int a1), some (.int a2), some (.int a3), none, none, none, none, none] [.ref 65] (Hp S5) (QI Q) from (hw none none none none none))
    · rw [if_neg hc] at hw
      refine wp_st (pc' := 23) (L' := [some (.ref 65), some (.int a1), some (.int a2), some (.int a3), none, none, none, none, none]) (st' := [.ref 65]) (h' := Hp S5) 1 (fun Z => if_neg hc) ?_
      refine wp_st (pc' := 27) (L' := [some (.ref 65), some (.int a1), some (.int a2), some (.int a3), none, none, none, none, none]) (st' := [.int 10, .int 0, .int a3, .ref 65]) (h' := Hp S5) 3 (fun Z => rfl) ?_
      refine wp_call (pc' := 30) (rest := [.ref 65]) (fun Z => rfl) rfl hw ?_
      rintro o h1 ⟨x6, S7, rfl, rfl, hw⟩
      refine ⟨_, rfl, ?_⟩
      show wp E (d + 1) m_m_boys 30 [some (.ref 65), some (.int a1), some (.int a2), some (.int a3), none, none, none, none, none] [.int x6, .ref 65] (Hp S7) (QI Q)
      by_cases hc : x6 = 0
      · rw [if_pos hc] at hw
        refine wp_st (pc' := 37) (L' := [some (.ref 65), some (.int a1), some (.int a2), some (.int a3), none, none, none, none, none]) (st' := [.ref 65]) (h' := Hp S7) 1 (fun Z => if_pos hc) ?_
        exact (show wp E (d + 1) m_m_boys 37 [some (.ref 65), some (.int a1), some (.int a2), some (.int a3), none, none, none, none, none] [.ref 65] (Hp S7) (QI Q) from (hw none none none none none))
      · rw [if_neg hc] at hw
        refine wp_st (pc' := 33) (L' := [some (.ref 65), some (.int a1), some (.int a2), some (.int a3), none, none, none, none, none]) (st' := [.ref 65]) (h' := Hp S7) 1 (fun Z => if_neg hc) ?_
        refine wp_st (pc' := 39) (L' := [some (.ref 65), some (.int a1), some (.int a2), some (.int a3), none, none, none, none, none]) (st' := [.int 2, .int 1, .ref 65]) (h' := Hp S7) 3 (fun Z => rfl) ?_
        refine wp_call (pc' := 42) (rest := []) (fun Z => rfl) (isO_of sh65) hw ?_
        rintro o h1 ⟨x8, S9, rfl, rfl, hw⟩
        refine ⟨_, rfl, ?_⟩
        show wp E (d + 1) m_m_boys 42 [some (.ref 65), some (.int a1), some (.int a2), some (.int a3), none, none, none, none, none] [.int x8] (Hp S9) (QI Q)
        by_cases hc : x8 = 0
        · rw [if_pos hc] at hw
          refine wp_st (pc' := 45) (L' := [some (.ref 65), some (.int a1), some (.int a2), some (.int a3), none, none, none, none, none]) (st' := []) (h' := Hp S9) 1 (fun Z => if_pos hc) ?_
          refine wp_st (pc' := 46) (L' := [some (.ref 65), some (.int a1), some (.int a2), some (.int a3), none, none, none, none, none]) (st' := [.int 0]) (h' := Hp S9) 1 (fun Z => rfl) ?_
          exact wp_ret (fun Z => rfl) ⟨_, _, rfl, rfl, hw⟩
        · rw [if_neg hc] at hw
          refine wp_st (pc' := 47) (L' := [some (.ref 65), some (.int a1), some (.int a2), some (.int a3), none, none, none, none, none]) (st' := []) (h' := Hp S9) 1 (fun Z => if_neg hc) ?_
          exact wp_st 4 (fun Z => rfl) (show wp E (d + 1) m_m_boys 53 [some (.ref 65), some (.int a1), some (.int a2), some (.int a3), some (.int 0), some (.int 0), none, none, none] [] (Hp S9) (QI Q) from (hw none none none))
set_option maxRecDepth 4000 in
theorem w_m_boys_37 {E : zX} {d : Nat} {S : St} {a1 : Int32} {a2 : Int32} {a3 : Int32} {Q : Int32 → St → Prop} (hd : 1 ≤ d) 
    (hw : k_m_right E (d - 1) S 0 2 (fun x1 S2 =>
    if x1 = 0 then (
      Q (0 : Int32) S2)
    else (
      k_m_boys_53 E d S2 a1 a2 a3 0 0 Q))) :
    k_m_boys_37 E d S a1 a2 a3 Q := by
  obtain ⟨d, rfl⟩ := Nat.exists_eq_add_of_le' hd
  intro j4 j5 j6 j7 j8
  show wp E (d + 1) m_m_boys 37 [some (.ref 65), some (.int a1), some (.int a2), some (.int a3), j4, j5, j6, j7, j8] [.ref 65] (Hp S) (QI Q)
  refine wp_st (pc' := 39) (L' := [some (.ref 65), some (.int a1), some (.int a2), some (.int a3), j4, j5, j6, j7, j8]) (st' := [.int 2, .int 0, .ref 65]) (h' := Hp S) 2 (fun Z => rfl) ?_
  refine wp_call (pc' := 42) (rest := []) (fun Z => rfl) (isO_of sh65) hw ?_
  rintro o h1 ⟨x1, S2, rfl, rfl, hw⟩
  refine ⟨_, rfl, ?_⟩
  show wp E (d + 1) m_m_boys 42 [some (.ref 65), some (.int a1), some (.int a2), some (.int a3), j4, j5, j6, j7, j8] [.int x1] (Hp S2) (QI Q)
  by_cases hc : x1 = 0
  · rw [if_pos hc] at hw
    refine wp_st (pc' := 45) (L' := [some (.ref 65), some (.int a1), some (.int a2), some (.int a3), j4, j5, j6, j7, j8]) (st' := []) (h' := Hp S2) 1 (fun Z => if_pos hc) ?_
    refine wp_st (pc' := 46) (L' := [some (.ref 65), some (.int a1), some (.int a2), some (.int a3), j4, j5, j6, j7, j8]) (st' := [.int 0]) (h' := Hp S2) 1 (fun Z => rfl) ?_
    exact wp_ret (fun Z => rfl) ⟨_, _, rfl, rfl, hw⟩
  · rw [if_neg hc] at hw
    refine wp_st (pc' := 47) (L' := [some (.ref 65), some (.int a1), some (.int a2), some (.int a3), j4, j5, j6, j7, j8]) (st' := []) (h' := Hp S2) 1 (fun Z => if_neg hc) ?_
    exact wp_st 4 (fun Z => rfl) (show wp E (d + 1) m_m_boys 53 [some (.ref 65), some (.int a1), some (.int a2), some (.int a3), some (.int 0), some (.int 0), j6, j7, j8] [] (Hp S2) (QI Q) from (hw j6 j7 j8))
set_option maxRecDepth 4000 in
theorem w_m_boys_53 {E : zX} {d : Nat} {S : St} {a1 : Int32} {a2 : Int32} {a3 : Int32} {a4 : Int32} {a5 : Nat} {Q : Int32 → St → Prop} (hd : 1 ≤ d) 
    (hw : if ((1 : Int32) <<< (a2 &&& 31)) ≤ (nI a5) then (
      Q a4 S)
    else (
      k_m_tries E (d - 1) S (fun S2 =>
      k_m_boys_71 E d S2 a1 a2 a3 a4 a5 1 0 Q))) :
    k_m_boys_53 E d S a1 a2 a3 a4 a5 Q := by
  obtain ⟨d, rfl⟩ := Nat.exists_eq_add_of_le' hd
  intro j6 j7 j8
  show wp E (d + 1) m_m_boys 53 [some (.ref 65), some (.int a1), some (.int a2), some (.int a3), some (.int a4), some (.int (nI a5)), j6, j7, j8] [] (Hp S) (QI Q)
  refine wp_st (pc' := 58) (L' := [some (.ref 65), some (.int a1), some (.int a2), some (.int a3), some (.int a4), some (.int (nI a5)), j6, j7, j8]) (st' := [.int ((1 : Int32) <<< (a2 &&& 31)), .int (nI a5)]) (h' := Hp S) 4 (fun Z => rfl) ?_
  by_cases hc : ((1 : Int32) <<< (a2 &&& 31)) ≤ (nI a5)
  · rw [if_pos hc] at hw
    refine wp_st (pc' := 161) (L' := [some (.ref 65), some (.int a1), some (.int a2), some (.int a3), some (.int a4), some (.int (nI a5)), j6, j7, j8]) (st' := []) (h' := Hp S) 1 (fun Z => if_pos hc) ?_
    refine wp_st (pc' := 163) (L' := [some (.ref 65), some (.int a1), some (.int a2), some (.int a3), some (.int a4), some (.int (nI a5)), j6, j7, j8]) (st' := [.int a4]) (h' := Hp S) 1 (fun Z => rfl) ?_
    exact wp_ret (fun Z => rfl) ⟨_, _, rfl, rfl, hw⟩
  · rw [if_neg hc] at hw
    refine wp_st (pc' := 61) (L' := [some (.ref 65), some (.int a1), some (.int a2), some (.int a3), some (.int a4), some (.int (nI a5)), j6, j7, j8]) (st' := []) (h' := Hp S) 1 (fun Z => if_neg hc) ?_
    refine wp_st (pc' := 65) (L' := [some (.ref 65), some (.int a1), some (.int a2), some (.int a3), some (.int a4), some (.int (nI a5)), some (.int 1), j7, j8]) (st' := [.ref 65]) (h' := Hp S) 3 (fun Z => rfl) ?_
    refine wp_call (pc' := 68) (rest := []) (fun Z => rfl) (isO_of sh65) hw ?_
    rintro o h1 ⟨S2, rfl, rfl, hw⟩
    refine ⟨_, rfl, ?_⟩
    show wp E (d + 1) m_m_boys 68 [some (.ref 65), some (.int a1), some (.int a2), some (.int a3), some (.int a4), some (.int (nI a5)), some (.int 1), j7, j8] [] (Hp S2) (QI Q)
    exact wp_st 2 (fun Z => rfl) (show wp E (d + 1) m_m_boys 71 [some (.ref 65), some (.int a1), some (.int a2), some (.int a3), some (.int a4), some (.int (nI a5)), some (.int 1), some (.int 0), j8] [] (Hp S2) (QI Q) from (hw j8))
set_option maxRecDepth 4000 in
theorem w_m_boys_71 {E : zX} {d : Nat} {S : St} {a1 : Int32} {a2 : Int32} {a3 : Int32} {a4 : Int32} {a5 : Nat} {a6 : Int32} {a7 : Nat} {Q : Int32 → St → Prop} (hd : 1 ≤ d) 
    (hw : if a2 ≤ (nI a7) then (
      k_m_isWhite E (d - 1) S 79 a1 (fun x1 S2 =>
      if x1 = 0 then (
        k_m_boys_53 E d S2 a1 a2 a3 (a4 + (0 : Int32)) (a5 + 1) Q)
      else (
        k_m_boys_53 E d S2 a1 a2 a3 (a4 + a6) (a5 + 1) Q)))
    else (
      if (((nI a5) >>> ((nI a7) &&& 31)) &&& (1 : Int32)) = 1 then (
        k_m_boys_110 E d S a1 a2 a3 a4 a5 a7 1 a6 a3 Q)
      else (
        k_m_boys_110 E d S a1 a2 a3 a4 a5 a7 0 a6 ((10 : Int32) - a3) Q))) :
    k_m_boys_71 E d S a1 a2 a3 a4 a5 a6 a7 Q := by
  obtain ⟨d, rfl⟩ := Nat.exists_eq_add_of_le' hd
  intro j8
  show wp E (d + 1) m_m_boys 71 [some (.ref 65), some (.int a1), some (.int a2), some (.int a3), some (.int a4), some (.int (nI a5)), some (.int a6), some (.int (nI a7)), j8] [] (Hp S) (QI Q)
  refine wp_st (pc' := 74) (L' := [some (.ref 65), some (.int a1), some (.int a2), some (.int a3), some (.int a4), some (.int (nI a5)), some (.int a6), some (.int (nI a7)), j8]) (st' := [.int a2, .int (nI a7)]) (h' := Hp S) 2 (fun Z => rfl) ?_
  by_cases hc : a2 ≤ (nI a7)
  · rw [if_pos hc] at hw
    refine wp_st (pc' := 134) (L' := [some (.ref 65), some (.int a1), some (.int a2), some (.int a3), some (.int a4), some (.int (nI a5)), some (.int a6), some (.int (nI a7)), j8]) (st' := []) (h' := Hp S) 1 (fun Z => if_pos hc) ?_
    refine wp_st (pc' := 140) (L' := [some (.ref 65), some (.int a1), some (.int a2), some (.int a3), some (.int a4), some (.int (nI a5)), some (.int a6), some (.int (nI a7)), j8]) (st' := [.int a1, .int 79, .ref 65, .int a4]) (h' := Hp S) 4 (fun Z => rfl) ?_
    refine wp_call (pc' := 143) (rest := [.int a4]) (fun Z => rfl) (isO_of sh65) hw ?_
    rintro o h1 ⟨x1, S2, rfl, rfl, hw⟩
    refine ⟨_, rfl, ?_⟩
    show wp E (d + 1) m_m_boys 143 [some (.ref 65), some (.int a1), some (.int a2), some (.int a3), some (.int a4), some (.int (nI a5)), some (.int a6), some (.int (nI a7)), j8] [.int x1, .int a4] (Hp S2) (QI Q)
    by_cases hc : x1 = 0
    · rw [if_pos hc] at hw
      refine wp_st (pc' := 151) (L' := [some (.ref 65), some (.int a1), some (.int a2), some (.int a3), some (.int a4), some (.int (nI a5)), some (.int a6), some (.int (nI a7)), j8]) (st' := [.int a4]) (h' := Hp S2) 1 (fun Z => if_pos hc) ?_
      refine wp_st (pc' := 155) (L' := [some (.ref 65), some (.int a1), some (.int a2), some (.int a3), some (.int (a4 + (0 : Int32))), some (.int (nI a5)), some (.int a6), some (.int (nI a7)), j8]) (st' := []) (h' := Hp S2) 3 (fun Z => rfl) ?_
      refine wp_st (pc' := 158) (L' := [some (.ref 65), some (.int a1), some (.int a2), some (.int a3), some (.int (a4 + (0 : Int32))), some (.int (nI (a5 + 1))), some (.int a6), some (.int (nI a7)), j8]) (st' := []) (h' := Hp S2) 1 (fun Z => by rw [← nI_add a5 1]; rfl) ?_
      exact wp_st 1 (fun Z => rfl) (show wp E (d + 1) m_m_boys 53 [some (.ref 65), some (.int a1), some (.int a2), some (.int a3), some (.int (a4 + (0 : Int32))), some (.int (nI (a5 + 1))), some (.int a6), some (.int (nI a7)), j8] [] (Hp S2) (QI Q) from (hw (some (.int a6)) (some (.int (nI a7))) j8))
    · rw [if_neg hc] at hw
      refine wp_st (pc' := 146) (L' := [some (.ref 65), some (.int a1), some (.int a2), some (.int a3), some (.int a4), some (.int (nI a5)), some (.int a6), some (.int (nI a7)), j8]) (st' := [.int a4]) (h' := Hp S2) 1 (fun Z => if_neg hc) ?_
      refine wp_st (pc' := 155) (L' := [some (.ref 65), some (.int a1), some (.int a2), some (.int a3), some (.int (a4 + a6)), some (.int (nI a5)), some (.int a6), some (.int (nI a7)), j8]) (st' := []) (h' := Hp S2) 4 (fun Z => rfl) ?_
      refine wp_st (pc' := 158) (L' := [some (.ref 65), some (.int a1), some (.int a2), some (.int a3), some (.int (a4 + a6)), some (.int (nI (a5 + 1))), some (.int a6), some (.int (nI a7)), j8]) (st' := []) (h' := Hp S2) 1 (fun Z => by rw [← nI_add a5 1]; rfl) ?_
      exact wp_st 1 (fun Z => rfl) (show wp E (d + 1) m_m_boys 53 [some (.ref 65), some (.int a1), some (.int a2), some (.int a3), some (.int (a4 + a6)), some (.int (nI (a5 + 1))), some (.int a6), some (.int (nI a7)), j8] [] (Hp S2) (QI Q) from (hw (some (.int a6)) (some (.int (nI a7))) j8))
  · rw [if_neg hc] at hw
    refine wp_st (pc' := 77) (L' := [some (.ref 65), some (.int a1), some (.int a2), some (.int a3), some (.int a4), some (.int (nI a5)), some (.int a6), some (.int (nI a7)), j8]) (st' := []) (h' := Hp S) 1 (fun Z => if_neg hc) ?_
    refine wp_st (pc' := 85) (L' := [some (.ref 65), some (.int a1), some (.int a2), some (.int a3), some (.int a4), some (.int (nI a5)), some (.int a6), some (.int (nI a7)), j8]) (st' := [.int 1, .int (((nI a5) >>> ((nI a7) &&& 31)) &&& (1 : Int32))]) (h' := Hp S) 6 (fun Z => rfl) ?_
    by_cases hc : (((nI a5) >>> ((nI a7) &&& 31)) &&& (1 : Int32)) = 1
    · rw [if_pos hc] at hw
      refine wp_st (pc' := 88) (L' := [some (.ref 65), some (.int a1), some (.int a2), some (.int a3), some (.int a4), some (.int (nI a5)), some (.int a6), some (.int (nI a7)), j8]) (st' := []) (h' := Hp S) 1 (fun Z => if_pos hc) ?_
      refine wp_st (pc' := 99) (L' := [some (.ref 65), some (.int a1), some (.int a2), some (.int a3), some (.int a4), some (.int (nI a5)), some (.int a6), some (.int (nI a7)), some (.int 1)]) (st' := [.int 1, .int a6]) (h' := Hp S) 5 (fun Z => rfl) ?_
      refine wp_st (pc' := 102) (L' := [some (.ref 65), some (.int a1), some (.int a2), some (.int a3), some (.int a4), some (.int (nI a5)), some (.int a6), some (.int (nI a7)), some (.int 1)]) (st' := [.int a6]) (h' := Hp S) 1 (fun Z => rfl) ?_
      exact wp_st 2 (fun Z => rfl) (show wp E (d + 1) m_m_boys 110 [some (.ref 65), some (.int a1), some (.int a2), some (.int a3), some (.int a4), some (.int (nI a5)), some (.int a6), some (.int (nI a7)), some (.int 1)] [.int a3, .int a6] (Hp S) (QI Q) from (hw (some (.int a6))))
    · rw [if_neg hc] at hw
      refine wp_st (pc' := 92) (L' := [some (.ref 65), some (.int a1), some (.int a2), some (.int a3), some (.int a4), some (.int (nI a5)), some (.int a6), some (.int (nI a7)), j8]) (st' := []) (h' := Hp S) 1 (fun Z => if_neg hc) ?_
      refine wp_st (pc' := 99) (L' := [some (.ref 65), some (.int a1), some (.int a2), some (.int a3), some (.int a4), some (.int (nI a5)), some (.int a6), some (.int (nI a7)), some (.int 0)]) (st' := [.int 0, .int a6]) (h' := Hp S) 4 (fun Z => rfl) ?_
      refine wp_st (pc' := 106) (L' := [some (.ref 65), some (.int a1), some (.int a2), some (.int a3), some (.int a4), some (.int (nI a5)), some (.int a6), some (.int (nI a7)), some (.int 0)]) (st' := [.int a6]) (h' := Hp S) 1 (fun Z => rfl) ?_
      exact wp_st 3 (fun Z => rfl) (show wp E (d + 1) m_m_boys 110 [some (.ref 65), some (.int a1), some (.int a2), some (.int a3), some (.int a4), some (.int (nI a5)), some (.int a6), some (.int (nI a7)), some (.int 0)] [.int ((10 : Int32) - a3), .int a6] (Hp S) (QI Q) from (hw (some (.int a6))))
set_option maxRecDepth 4000 in
theorem w_m_boys_110 {E : zX} {d : Nat} {S : St} {a1 : Int32} {a2 : Int32} {a3 : Int32} {a4 : Int32} {a5 : Nat} {a7 : Nat} {a8 : Int32} {s0 : Int32} {s1 : Int32} {Q : Int32 → St → Prop} (hd : 1 ≤ d) 
    (hw : if a8 = 0 then (
      k_m_dayOf E (d - 1) S 79 (fun S2 =>
      k_m_boys_71 E d S2 a1 a2 a3 a4 a5 (s0 * s1) (a7 + 1) Q))
    else (
      k_m_treads E (d - 1) S (fun S4 =>
      k_m_dayOf E (d - 1) S4 79 (fun S6 =>
      k_m_boys_71 E d S6 a1 a2 a3 a4 a5 (s0 * s1) (a7 + 1) Q)))) :
    k_m_boys_110 E d S a1 a2 a3 a4 a5 a7 a8 s0 s1 Q := by
  obtain ⟨d, rfl⟩ := Nat.exists_eq_add_of_le' hd
  intro j6
  show wp E (d + 1) m_m_boys 110 [some (.ref 65), some (.int a1), some (.int a2), some (.int a3), some (.int a4), some (.int (nI a5)), j6, some (.int (nI a7)), some (.int a8)] [.int s1, .int s0] (Hp S) (QI Q)
  refine wp_st (pc' := 115) (L' := [some (.ref 65), some (.int a1), some (.int a2), some (.int a3), some (.int a4), some (.int (nI a5)), some (.int (s0 * s1)), some (.int (nI a7)), some (.int a8)]) (st' := [.int a8]) (h' := Hp S) 3 (fun Z => rfl) ?_
  by_cases hc : a8 = 0
  · rw [if_pos hc] at hw
    refine wp_st (pc' := 122) (L' := [some (.ref 65), some (.int a1), some (.int a2), some (.int a3), some (.int a4), some (.int (nI a5)), some (.int (s0 * s1)), some (.int (nI a7)), some (.int a8)]) (st' := []) (h' := Hp S) 1 (fun Z => if_pos hc) ?_
    refine wp_st (pc' := 125) (L' := [some (.ref 65), some (.int a1), some (.int a2), some (.int a3), some (.int a4), some (.int (nI a5)), some (.int (s0 * s1)), some (.int (nI a7)), some (.int a8)]) (st' := [.int 79, .ref 65]) (h' := Hp S) 2 (fun Z => rfl) ?_
    refine wp_call (pc' := 128) (rest := []) (fun Z => rfl) (isO_of sh65) hw ?_
    rintro o h1 ⟨S2, rfl, rfl, hw⟩
    refine ⟨_, rfl, ?_⟩
    show wp E (d + 1) m_m_boys 128 [some (.ref 65), some (.int a1), some (.int a2), some (.int a3), some (.int a4), some (.int (nI a5)), some (.int (s0 * s1)), some (.int (nI a7)), some (.int a8)] [] (Hp S2) (QI Q)
    refine wp_st (pc' := 131) (L' := [some (.ref 65), some (.int a1), some (.int a2), some (.int a3), some (.int a4), some (.int (nI a5)), some (.int (s0 * s1)), some (.int (nI (a7 + 1))), some (.int a8)]) (st' := []) (h' := Hp S2) 1 (fun Z => by rw [← nI_add a7 1]; rfl) ?_
    exact wp_st 1 (fun Z => rfl) (show wp E (d + 1) m_m_boys 71 [some (.ref 65), some (.int a1), some (.int a2), some (.int a3), some (.int a4), some (.int (nI a5)), some (.int (s0 * s1)), some (.int (nI (a7 + 1))), some (.int a8)] [] (Hp S2) (QI Q) from (hw (some (.int a8))))
  · rw [if_neg hc] at hw
    refine wp_st (pc' := 118) (L' := [some (.ref 65), some (.int a1), some (.int a2), some (.int a3), some (.int a4), some (.int (nI a5)), some (.int (s0 * s1)), some (.int (nI a7)), some (.int a8)]) (st' := []) (h' := Hp S) 1 (fun Z => if_neg hc) ?_
    refine wp_st (pc' := 119) (L' := [some (.ref 65), some (.int a1), some (.int a2), some (.int a3), some (.int a4), some (.int (nI a5)), some (.int (s0 * s1)), some (.int (nI a7)), some (.int a8)]) (st' := [.ref 65]) (h' := Hp S) 1 (fun Z => rfl) ?_
    refine wp_call (pc' := 122) (rest := []) (fun Z => rfl) (isO_of sh65) hw ?_
    rintro o h1 ⟨S4, rfl, rfl, hw⟩
    refine ⟨_, rfl, ?_⟩
    show wp E (d + 1) m_m_boys 122 [some (.ref 65), some (.int a1), some (.int a2), some (.int a3), some (.int a4), some (.int (nI a5)), some (.int (s0 * s1)), some (.int (nI a7)), some (.int a8)] [] (Hp S4) (QI Q)
    refine wp_st (pc' := 125) (L' := [some (.ref 65), some (.int a1), some (.int a2), some (.int a3), some (.int a4), some (.int (nI a5)), some (.int (s0 * s1)), some (.int (nI a7)), some (.int a8)]) (st' := [.int 79, .ref 65]) (h' := Hp S4) 2 (fun Z => rfl) ?_
    refine wp_call (pc' := 128) (rest := []) (fun Z => rfl) (isO_of sh65) hw ?_
    rintro o h1 ⟨S6, rfl, rfl, hw⟩
    refine ⟨_, rfl, ?_⟩
    show wp E (d + 1) m_m_boys 128 [some (.ref 65), some (.int a1), some (.int a2), some (.int a3), some (.int a4), some (.int (nI a5)), some (.int (s0 * s1)), some (.int (nI a7)), some (.int a8)] [] (Hp S6) (QI Q)
    refine wp_st (pc' := 131) (L' := [some (.ref 65), some (.int a1), some (.int a2), some (.int a3), some (.int a4), some (.int (nI a5)), some (.int (s0 * s1)), some (.int (nI (a7 + 1))), some (.int a8)]) (st' := []) (h' := Hp S6) 1 (fun Z => by rw [← nI_add a7 1]; rfl) ?_
    exact wp_st 1 (fun Z => rfl) (show wp E (d + 1) m_m_boys 71 [some (.ref 65), some (.int a1), some (.int a2), some (.int a3), some (.int a4), some (.int (nI a5)), some (.int (s0 * s1)), some (.int (nI (a7 + 1))), some (.int a8)] [] (Hp S6) (QI Q) from (hw (some (.int a8))))
set_option maxRecDepth 4000 in
theorem w_m_game {E : zX} {d : Nat} {S : St} {a1 : Int32} {a2 : Int32} {a3 : Int32} {Q : Int32 → St → Prop} (hd : 1 ≤ d) 
    (hw : ∀ S1, S1 = up S 65 0 0 →
    k_m_isPerson E (d - 1) S1 a1 (fun x2 S3 =>
    if x2 = 0 then (
      Q (0 : Int32) S3)
    else (
      k_m_isPerson E (d - 1) S3 a2 (fun x4 S5 =>
      if x4 = 0 then (
        Q (0 : Int32) S5)
      else (
        k_m_isWhat E (d - 1) S5 a3 1 (fun x6 S7 =>
        if x6 = 0 then (
          Q (0 : Int32) S7)
        else (
          if a1 = a2 then (
            k_m_game_41 E d S7 a1 a2 a3 0 Q)
          else (
            k_m_game_41 E d S7 a1 a2 a3 1 Q)))))))) :
    k_m_game E d S a1 a2 a3 Q := by
  obtain ⟨d, rfl⟩ := Nat.exists_eq_add_of_le' hd
  show wp E (d + 1) m_m_game 0 [some (.ref 65), some (.int a1), some (.int a2), some (.int a3), none, none, none, none, none] [] (Hp S) (QI Q)
  refine wp_st (pc' := 2) (L' := [some (.ref 65), some (.int a1), some (.int a2), some (.int a3), none, none, none, none, none]) (st' := [.int 0, .ref 65]) (h' := Hp S) 2 (fun Z => rfl) ?_
  have hw := hw _ rfl
  refine wp_st (pc' := 5) (L' := [some (.ref 65), some (.int a1), some (.int a2), some (.int a3), none, none, none, none, none]) (st' := []) (h' := Hp (up S 65 0 0)) 1 (fun Z => pfI sh65 rfl (Nat.le_of_ble_eq_true rfl) rfl _) ?_
  generalize up S 65 0 0 = S1 at hw ⊢
  refine wp_st (pc' := 7) (L' := [some (.ref 65), some (.int a1), some (.int a2), some (.int a3), none, none, none, none, none]) (st' := [.int a1, .ref 65]) (h' := Hp S1) 2 (fun Z => rfl) ?_
  refine wp_call (pc' := 10) (rest := []) (fun Z => rfl) (isO_of sh65) hw ?_
  rintro o h1 ⟨x2, S3, rfl, rfl, hw⟩
  refine ⟨_, rfl, ?_⟩
  show wp E (d + 1) m_m_game 10 [some (.ref 65), some (.int a1), some (.int a2), some (.int a3), none, none, none, none, none] [.int x2] (Hp S3) (QI Q)
  by_cases hc : x2 = 0
  · rw [if_pos hc] at hw
    refine wp_st (pc' := 48) (L' := [some (.ref 65), some (.int a1), some (.int a2), some (.int a3), none, none, none, none, none]) (st' := []) (h' := Hp S3) 1 (fun Z => if_pos hc) ?_
    refine wp_st (pc' := 49) (L' := [some (.ref 65), some (.int a1), some (.int a2), some (.int a3), none, none, none, none, none]) (st' := [.int 0]) (h' := Hp S3) 1 (fun Z => rfl) ?_
    exact wp_ret (fun Z => rfl) ⟨_, _, rfl, rfl, hw⟩
  · rw [if_neg hc] at hw
    refine wp_st (pc' := 13) (L' := [some (.ref 65), some (.int a1), some (.int a2), some (.int a3), none, none, none, none, none]) (st' := []) (h' := Hp S3) 1 (fun Z => if_neg hc) ?_
    refine wp_st (pc' := 15) (L' := [some (.ref 65), some (.int a1), some (.int a2), some (.int a3), none, none, none, none, none]) (st' := [.int a2, .ref 65]) (h' := Hp S3) 2 (fun Z => rfl) ?_
    refine wp_call (pc' := 18) (rest := []) (fun Z => rfl) (isO_of sh65) hw ?_
    rintro o h1 ⟨x4, S5, rfl, rfl, hw⟩
    refine ⟨_, rfl, ?_⟩
    show wp E (d + 1) m_m_game 18 [some (.ref 65), some (.int a1), some (.int a2), some (.int a3), none, none, none, none, none] [.int x4] (Hp S5) (QI Q)
    by_cases hc : x4 = 0
    · rw [if_pos hc] at hw
      refine wp_st (pc' := 48) (L' := [some (.ref 65), some (.int a1), some (.int a2), some (.int a3), none, none, none, none, none]) (st' := []) (h' := Hp S5) 1 (fun Z => if_pos hc) ?_
      refine wp_st (pc' := 49) (L' := [some (.ref 65), some (.int a1), some (.int a2), some (.int a3), none, none, none, none, none]) (st' := [.int 0]) (h' := Hp S5) 1 (fun Z => rfl) ?_
      exact wp_ret (fun Z => rfl) ⟨_, _, rfl, rfl, hw⟩
    · rw [if_neg hc] at hw
      refine wp_st (pc' := 21) (L' := [some (.ref 65), some (.int a1), some (.int a2), some (.int a3), none, none, none, none, none]) (st' := []) (h' := Hp S5) 1 (fun Z => if_neg hc) ?_
      refine wp_st (pc' := 24) (L' := [some (.ref 65), some (.int a1), some (.int a2), some (.int a3), none, none, none, none, none]) (st' := [.int 1, .int a3, .ref 65]) (h' := Hp S5) 3 (fun Z => rfl) ?_
      refine wp_call (pc' := 27) (rest := []) (fun Z => rfl) (isO_of sh65) hw ?_
      rintro o h1 ⟨x6, S7, rfl, rfl, hw⟩
      refine ⟨_, rfl, ?_⟩
      show wp E (d + 1) m_m_game 27 [some (.ref 65), some (.int a1), some (.int a2), some (.int a3), none, none, none, none, none] [.int x6] (Hp S7) (QI Q)
      by_cases hc : x6 = 0
      · rw [if_pos hc] at hw
        refine wp_st (pc' := 48) (L' := [some (.ref 65), some (.int a1), some (.int a2), some (.int a3), none, none, none, none, none]) (st' := []) (h' := Hp S7) 1 (fun Z => if_pos hc) ?_
        refine wp_st (pc' := 49) (L' := [some (.ref 65), some (.int a1), some (.int a2), some (.int a3), none, none, none, none, none]) (st' := [.int 0]) (h' := Hp S7) 1 (fun Z => rfl) ?_
        exact wp_ret (fun Z => rfl) ⟨_, _, rfl, rfl, hw⟩
      · rw [if_neg hc] at hw
        refine wp_st (pc' := 30) (L' := [some (.ref 65), some (.int a1), some (.int a2), some (.int a3), none, none, none, none, none]) (st' := []) (h' := Hp S7) 1 (fun Z => if_neg hc) ?_
        refine wp_st (pc' := 33) (L' := [some (.ref 65), some (.int a1), some (.int a2), some (.int a3), none, none, none, none, none]) (st' := [.int a2, .int a1, .ref 65]) (h' := Hp S7) 3 (fun Z => rfl) ?_
        by_cases hc : a1 = a2
        · rw [if_pos hc] at hw
          refine wp_st (pc' := 40) (L' := [some (.ref 65), some (.int a1), some (.int a2), some (.int a3), none, none, none, none, none]) (st' := [.ref 65]) (h' := Hp S7) 1 (fun Z => if_pos hc) ?_
          exact wp_st 1 (fun Z => rfl) (show wp E (d + 1) m_m_game 41 [some (.ref 65), some (.int a1), some (.int a2), some (.int a3), none, none, none, none, none] [.int 0, .ref 65] (Hp S7) (QI Q) from (hw none none none none none))
        · rw [if_neg hc] at hw
          refine wp_st (pc' := 36) (L' := [some (.ref 65), some (.int a1), some (.int a2), some (.int a3), none, none, none, none, none]) (st' := [.ref 65]) (h' := Hp S7) 1 (fun Z => if_neg hc) ?_
          exact wp_st 2 (fun Z => rfl) (show wp E (d + 1) m_m_game 41 [some (.ref 65), some (.int a1), some (.int a2), some (.int a3), none, none, none, none, none] [.int 1, .ref 65] (Hp S7) (QI Q) from (hw none none none none none))
set_option maxRecDepth 4000 in
theorem w_m_game_41 {E : zX} {d : Nat} {S : St} {a1 : Int32} {a2 : Int32} {a3 : Int32} {s1 : Int32} {Q : Int32 → St → Prop} (hd : 1 ≤ d) 
    (hw : k_m_right E (d - 1) S s1 2 (fun x1 S2 =>
    if x1 = 0 then (
      Q (0 : Int32) S2)
    else (
      ∃ m3 : Nat, ((1 : Int32) + a1) = nI m3 ∧ m3 < 158 ∧
      if (S2 77 m3) = 0 then (
        Q ((-1) : Int32) S2)
      else (
        ∃ m4 : Nat, ((1 : Int32) + a2) = nI m4 ∧ m4 < 158 ∧
        if (S2 77 m4) = 0 then (
          Q ((-1) : Int32) S2)
        else (
          k_m_game_83 E d S2 a1 a2 a3 0 (-1) 0 Q))))) :
    k_m_game_41 E d S a1 a2 a3 s1 Q := by
  obtain ⟨d, rfl⟩ := Nat.exists_eq_add_of_le' hd
  intro j4 j5 j6 j7 j8
  show wp E (d + 1) m_m_game 41 [some (.ref 65), some (.int a1), some (.int a2), some (.int a3), j4, j5, j6, j7, j8] [.int s1, .ref 65] (Hp S) (QI Q)
  refine wp_st (pc' := 42) (L' := [some (.ref 65), some (.int a1), some (.int a2), some (.int a3), j4, j5, j6, j7, j8]) (st' := [.int 2, .int s1, .ref 65]) (h' := Hp S) 1 (fun Z => rfl) ?_
  refine wp_call (pc' := 45) (rest := []) (fun Z => rfl) (isO_of sh65) hw ?_
  rintro o h1 ⟨x1, S2, rfl, rfl, hw⟩
  refine ⟨_, rfl, ?_⟩
  show wp E (d + 1) m_m_game 45 [some (.ref 65), some (.int a1), some (.int a2), some (.int a3), j4, j5, j6, j7, j8] [.int x1] (Hp S2) (QI Q)
  by_cases hc : x1 = 0
  · rw [if_pos hc] at hw
    refine wp_st (pc' := 48) (L' := [some (.ref 65), some (.int a1), some (.int a2), some (.int a3), j4, j5, j6, j7, j8]) (st' := []) (h' := Hp S2) 1 (fun Z => if_pos hc) ?_
    refine wp_st (pc' := 49) (L' := [some (.ref 65), some (.int a1), some (.int a2), some (.int a3), j4, j5, j6, j7, j8]) (st' := [.int 0]) (h' := Hp S2) 1 (fun Z => rfl) ?_
    exact wp_ret (fun Z => rfl) ⟨_, _, rfl, rfl, hw⟩
  · rw [if_neg hc] at hw
    refine wp_st (pc' := 50) (L' := [some (.ref 65), some (.int a1), some (.int a2), some (.int a3), j4, j5, j6, j7, j8]) (st' := []) (h' := Hp S2) 1 (fun Z => if_neg hc) ?_
    refine wp_st (pc' := 51) (L' := [some (.ref 65), some (.int a1), some (.int a2), some (.int a3), j4, j5, j6, j7, j8]) (st' := [.ref 65]) (h' := Hp S2) 1 (fun Z => rfl) ?_
    refine wp_st (pc' := 54) (L' := [some (.ref 65), some (.int a1), some (.int a2), some (.int a3), j4, j5, j6, j7, j8]) (st' := [.ref 77]) (h' := Hp S2) 1 (fun Z => gfR (E := E) sh65 rfl _) ?_
    refine wp_st (pc' := 57) (L' := [some (.ref 65), some (.int a1), some (.int a2), some (.int a3), j4, j5, j6, j7, j8]) (st' := [.int ((1 : Int32) + a1), .ref 77]) (h' := Hp S2) 3 (fun Z => rfl) ?_
    obtain ⟨m3, em, hi, hw⟩ := hw
    refine wp_st (pc' := 58) (L' := [some (.ref 65), some (.int a1), some (.int a2), some (.int a3), j4, j5, j6, j7, j8]) (st' := [.int (S2 77 m3)]) (h' := Hp S2) 1 (fun Z => (congrArg (fun v => zit E 1 Z (d + 1) m_m_game 57 [some (.ref 65), some (.int a1), some (.int a2), some (.int a3), j4, j5, j6, j7, j8] [.int v, .ref 77] (Hp S2)) em).trans (ldN (E := E) sh77 (by decide) hi [] (fun st => Z (d + 1) m_m_game 58 [some (.ref 65), some (.int a1), some (.int a2), some (.int a3), j4, j5, j6, j7, j8] st (Hp S2)))) ?_
    by_cases hc : (S2 77 m3) = 0
    · rw [if_pos hc] at hw
      refine wp_st (pc' := 72) (L' := [some (.ref 65), some (.int a1), some (.int a2), some (.int a3), j4, j5, j6, j7, j8]) (st' := []) (h' := Hp S2) 1 (fun Z => if_pos hc) ?_
      refine wp_st (pc' := 73) (L' := [some (.ref 65), some (.int a1), some (.int a2), some (.int a3), j4, j5, j6, j7, j8]) (st' := [.int (-1)]) (h' := Hp S2) 1 (fun Z => congrArg (fun v => Z (d + 1) m_m_game 73 [some (.ref 65), some (.int a1), some (.int a2), some (.int a3), j4, j5, j6, j7, j8] [.int v] (Hp S2)) (show Int32.ofInt (-1) = (-1) by decide)) ?_
      exact wp_ret (fun Z => rfl) ⟨_, _, rfl, rfl, hw⟩
    · rw [if_neg hc] at hw
      refine wp_st (pc' := 61) (L' := [some (.ref 65), some (.int a1), some (.int a2), some (.int a3), j4, j5, j6, j7, j8]) (st' := []) (h' := Hp S2) 1 (fun Z => if_neg hc) ?_
      refine wp_st (pc' := 62) (L' := [some (.ref 65), some (.int a1), some (.int a2), some (.int a3), j4, j5, j6, j7, j8]) (st' := [.ref 65]) (h' := Hp S2) 1 (fun Z => rfl) ?_
      refine wp_st (pc' := 65) (L' := [some (.ref 65), some (.int a1), some (.int a2), some (.int a3), j4, j5, j6, j7, j8]) (st' := [.ref 77]) (h' := Hp S2) 1 (fun Z => gfR (E := E) sh65 rfl _) ?_
      refine wp_st (pc' := 68) (L' := [some (.ref 65), some (.int a1), some (.int a2), some (.int a3), j4, j5, j6, j7, j8]) (st' := [.int ((1 : Int32) + a2), .ref 77]) (h' := Hp S2) 3 (fun Z => rfl) ?_
      obtain ⟨m4, em, hi, hw⟩ := hw
      refine wp_st (pc' := 69) (L' := [some (.ref 65), some (.int a1), some (.int a2), some (.int a3), j4, j5, j6, j7, j8]) (st' := [.int (S2 77 m4)]) (h' := Hp S2) 1 (fun Z => (congrArg (fun v => zit E 1 Z (d + 1) m_m_game 68 [some (.ref 65), some (.int a1), some (.int a2), some (.int a3), j4, j5, j6, j7, j8] [.int v, .ref 77] (Hp S2)) em).trans (ldN (E := E) sh77 (by decide) hi [] (fun st => Z (d + 1) m_m_game 69 [some (.ref 65), some (.int a1), some (.int a2), some (.int a3), j4, j5, j6, j7, j8] st (Hp S2)))) ?_
      by_cases hc : (S2 77 m4) = 0
      · rw [if_pos hc] at hw
        refine wp_st (pc' := 72) (L' := [some (.ref 65), some (.int a1), some (.int a2), some (.int a3), j4, j5, j6, j7, j8]) (st' := []) (h' := Hp S2) 1 (fun Z => if_pos hc) ?_
        refine wp_st (pc' := 73) (L' := [some (.ref 65), some (.int a1), some (.int a2), some (.int a3), j4, j5, j6, j7, j8]) (st' := [.int (-1)]) (h' := Hp S2) 1 (fun Z => congrArg (fun v => Z (d + 1) m_m_game 73 [some (.ref 65), some (.int a1), some (.int a2), some (.int a3), j4, j5, j6, j7, j8] [.int v] (Hp S2)) (show Int32.ofInt (-1) = (-1) by decide)) ?_
        exact wp_ret (fun Z => rfl) ⟨_, _, rfl, rfl, hw⟩
      · rw [if_neg hc] at hw
        refine wp_st (pc' := 74) (L' := [some (.ref 65), some (.int a1), some (.int a2), some (.int a3), j4, j5, j6, j7, j8]) (st' := []) (h' := Hp S2) 1 (fun Z => if_neg hc) ?_
        refine wp_st (pc' := 77) (L' := [some (.ref 65), some (.int a1), some (.int a2), some (.int a3), some (.int 0), j5, j6, j7, j8]) (st' := []) (h' := Hp S2) 2 (fun Z => rfl) ?_
        refine wp_st (pc' := 78) (L' := [some (.ref 65), some (.int a1), some (.int a2), some (.int a3), some (.int 0), j5, j6, j7, j8]) (st' := [.int (-1)]) (h' := Hp S2) 1 (fun Z => congrArg (fun v => Z (d + 1) m_m_game 78 [some (.ref 65), some (.int a1), some (.int a2), some (.int a3), some (.int 0), j5, j6, j7, j8] [.int v] (Hp S2)) (show Int32.ofInt (-1) = (-1) by decide)) ?_
        exact wp_st 3 (fun Z => rfl) (show wp E (d + 1) m_m_game 83 [some (.ref 65), some (.int a1), some (.int a2), some (.int a3), some (.int 0), some (.int (-1)), some (.int 0), j7, j8] [] (Hp S2) (QI Q) from (hw j7 j8))
set_option maxRecDepth 4000 in
theorem w_m_game_83 {E : zX} {d : Nat} {S : St} {a1 : Int32} {a2 : Int32} {a3 : Int32} {a4 : Nat} {a5 : Int32} {a6 : Nat} {Q : Int32 → St → Prop} (hd : 1 ≤ d) 
    (hw : if nI 4 ≤ (nI a6) then (
      if a3 = 0 then (
        Q (nI a4) S)
      else (
        Q a5 S))
    else (
      k_m_gains E (d - 1) S a1 a2 ((1 : Int32) - ((nI a6) / 2)) (zrem (nI a6) 2) (fun x1 S2 =>
      k_m_gains E (d - 1) S2 a1 a2 ((nI a6) / 2) (zrem (nI a6) 2) (fun x3 S4 =>
      if x3 < x1 then (
        k_m_game_83 E d S4 a1 a2 a3 a4 a5 (a6 + 1) Q)
      else (
        k_m_gains E (d - 1) S4 a2 a1 ((1 : Int32) - (zrem (nI a6) 2)) ((nI a6) / 2) (fun x5 S6 =>
        k_m_gains E (d - 1) S6 a2 a1 (zrem (nI a6) 2) ((nI a6) / 2) (fun x7 S8 =>
        if x5 ≤ x7 then (
          if a5 = (-1) then (
            k_m_game_83 E d S8 a1 a2 a3 (a4 + 1) (((10 : Int32) * ((nI a6) / 2)) + (zrem (nI a6) 2)) (a6 + 1) Q)
          else (
            k_m_game_83 E d S8 a1 a2 a3 (a4 + 1) a5 (a6 + 1) Q))
        else (
          k_m_game_83 E d S8 a1 a2 a3 a4 a5 (a6 + 1) Q)))))))) :
    k_m_game_83 E d S a1 a2 a3 a4 a5 a6 Q := by
  obtain ⟨d, rfl⟩ := Nat.exists_eq_add_of_le' hd
  intro j7 j8
  show wp E (d + 1) m_m_game 83 [some (.ref 65), some (.int a1), some (.int a2), some (.int a3), some (.int (nI a4)), some (.int a5), some (.int (nI a6)), j7, j8] [] (Hp S) (QI Q)
  refine wp_st (pc' := 86) (L' := [some (.ref 65), some (.int a1), some (.int a2), some (.int a3), some (.int (nI a4)), some (.int a5), some (.int (nI a6)), j7, j8]) (st' := [.int 4, .int (nI a6)]) (h' := Hp S) 2 (fun Z => rfl) ?_
  by_cases hc : nI 4 ≤ (nI a6)
  · rw [if_pos hc] at hw
    refine wp_st (pc' := 179) (L' := [some (.ref 65), some (.int a1), some (.int a2), some (.int a3), some (.int (nI a4)), some (.int a5), some (.int (nI a6)), j7, j8]) (st' := []) (h' := Hp S) 1 (fun Z => if_pos hc) ?_
    refine wp_st (pc' := 180) (L' := [some (.ref 65), some (.int a1), some (.int a2), some (.int a3), some (.int (nI a4)), some (.int a5), some (.int (nI a6)), j7, j8]) (st' := [.int a3]) (h' := Hp S) 1 (fun Z => rfl) ?_
    by_cases hc : a3 = 0
    · rw [if_pos hc] at hw
      refine wp_st (pc' := 183) (L' := [some (.ref 65), some (.int a1), some (.int a2), some (.int a3), some (.int (nI a4)), some (.int a5), some (.int (nI a6)), j7, j8]) (st' := []) (h' := Hp S) 1 (fun Z => if_pos hc) ?_
      refine wp_st (pc' := 190) (L' := [some (.ref 65), some (.int a1), some (.int a2), some (.int a3), some (.int (nI a4)), some (.int a5), some (.int (nI a6)), j7, j8]) (st' := [.int (nI a4)]) (h' := Hp S) 2 (fun Z => rfl) ?_
      exact wp_ret (fun Z => rfl) ⟨_, _, rfl, rfl, hw⟩
    · rw [if_neg hc] at hw
      refine wp_st (pc' := 188) (L' := [some (.ref 65), some (.int a1), some (.int a2), some (.int a3), some (.int (nI a4)), some (.int a5), some (.int (nI a6)), j7, j8]) (st' := []) (h' := Hp S) 1 (fun Z => if_neg hc) ?_
      refine wp_st (pc' := 190) (L' := [some (.ref 65), some (.int a1), some (.int a2), some (.int a3), some (.int (nI a4)), some (.int a5), some (.int (nI a6)), j7, j8]) (st' := [.int a5]) (h' := Hp S) 1 (fun Z => rfl) ?_
      exact wp_ret (fun Z => rfl) ⟨_, _, rfl, rfl, hw⟩
  · rw [if_neg hc] at hw
    refine wp_st (pc' := 89) (L' := [some (.ref 65), some (.int a1), some (.int a2), some (.int a3), some (.int (nI a4)), some (.int a5), some (.int (nI a6)), j7, j8]) (st' := []) (h' := Hp S) 1 (fun Z => if_neg hc) ?_
    refine wp_st (pc' := 92) (L' := [some (.ref 65), some (.int a1), some (.int a2), some (.int a3), some (.int (nI a4)), some (.int a5), some (.int (nI a6)), j7, j8]) (st' := [.int 2, .int (nI a6)]) (h' := Hp S) 2 (fun Z => rfl) ?_
    refine wp_st (pc' := 93) (L' := [some (.ref 65), some (.int a1), some (.int a2), some (.int a3), some (.int (nI a4)), some (.int a5), some (.int (nI a6)), j7, j8]) (st' := [.int ((nI a6) / 2)]) (h' := Hp S) 1 (fun Z => rfl) ?_
    refine wp_st (pc' := 98) (L' := [some (.ref 65), some (.int a1), some (.int a2), some (.int a3), some (.int (nI a4)), some (.int a5), some (.int (nI a6)), some (.int ((nI a6) / 2)), j8]) (st' := [.int 2, .int (nI a6)]) (h' := Hp S) 3 (fun Z => rfl) ?_
    refine wp_st (pc' := 99) (L' := [some (.ref 65), some (.int a1), some (.int a2), some (.int a3), some (.int (nI a4)), some (.int a5), some (.int (nI a6)), some (.int ((nI a6) / 2)), j8]) (st' := [.int (zrem (nI a6) 2)]) (h' := Hp S) 1 (fun Z => rfl) ?_
    refine wp_st (pc' := 110) (L' := [some (.ref 65), some (.int a1), some (.int a2), some (.int a3), some (.int (nI a4)), some (.int a5), some (.int (nI a6)), some (.int ((nI a6) / 2)), some (.int (zrem (nI a6) 2))]) (st' := [.int (zrem (nI a6) 2), .int ((1 : Int32) - ((nI a6) / 2)), .int a2, .int a1, .ref 65]) (h' := Hp S) 8 (fun Z => rfl) ?_
    refine wp_call (pc' := 113) (rest := []) (fun Z => rfl) (isO_of sh65) hw ?_
    rintro o h1 ⟨x1, S2, rfl, rfl, hw⟩
    refine ⟨_, rfl, ?_⟩
    show wp E (d + 1) m_m_game 113 [some (.ref 65), some (.int a1), some (.int a2), some (.int a3), some (.int (nI a4)), some (.int a5), some (.int (nI a6)), some (.int ((nI a6) / 2)), some (.int (zrem (nI a6) 2))] [.int x1] (Hp S2) (QI Q)
    refine wp_st (pc' := 120) (L' := [some (.ref 65), some (.int a1), some (.int a2), some (.int a3), some (.int (nI a4)), some (.int a5), some (.int (nI a6)), some (.int ((nI a6) / 2)), some (.int (zrem (nI a6) 2))]) (st' := [.int (zrem (nI a6) 2), .int ((nI a6) / 2), .int a2, .int a1, .ref 65, .int x1]) (h' := Hp S2) 5 (fun Z => rfl) ?_
    refine wp_call (pc' := 123) (rest := [.int x1]) (fun Z => rfl) (isO_of sh65) hw ?_
    rintro o h1 ⟨x3, S4, rfl, rfl, hw⟩
    refine ⟨_, rfl, ?_⟩
    show wp E (d + 1) m_m_game 123 [some (.ref 65), some (.int a1), some (.int a2), some (.int a3), some (.int (nI a4)), some (.int a5), some (.int (nI a6)), some (.int ((nI a6) / 2)), some (.int (zrem (nI a6) 2))] [.int x3, .int x1] (Hp S4) (QI Q)
    by_cases hc : x3 < x1
    · rw [if_pos hc] at hw
      refine wp_st (pc' := 173) (L' := [some (.ref 65), some (.int a1), some (.int a2), some (.int a3), some (.int (nI a4)), some (.int a5), some (.int (nI a6)), some (.int ((nI a6) / 2)), some (.int (zrem (nI a6) 2))]) (st' := []) (h' := Hp S4) 1 (fun Z => if_pos hc) ?_
      refine wp_st (pc' := 176) (L' := [some (.ref 65), some (.int a1), some (.int a2), some (.int a3), some (.int (nI a4)), some (.int a5), some (.int (nI (a6 + 1))), some (.int ((nI a6) / 2)), some (.int (zrem (nI a6) 2))]) (st' := []) (h' := Hp S4) 1 (fun Z => by rw [← nI_add a6 1]; rfl) ?_
      exact wp_st 1 (fun Z => rfl) (show wp E (d + 1) m_m_game 83 [some (.ref 65), some (.int a1), some (.int a2), some (.int a3), some (.int (nI a4)), some (.int a5), some (.int (nI (a6 + 1))), some (.int ((nI a6) / 2)), some (.int (zrem (nI a6) 2))] [] (Hp S4) (QI Q) from (hw (some (.int ((nI a6) / 2))) (some (.int (zrem (nI a6) 2)))))
    · rw [if_neg hc] at hw
      refine wp_st (pc' := 126) (L' := [some (.ref 65), some (.int a1), some (.int a2), some (.int a3), some (.int (nI a4)), some (.int a5), some (.int (nI a6)), some (.int ((nI a6) / 2)), some (.int (zrem (nI a6) 2))]) (st' := []) (h' := Hp S4) 1 (fun Z => if_neg hc) ?_
      refine wp_st (pc' := 135) (L' := [some (.ref 65), some (.int a1), some (.int a2), some (.int a3), some (.int (nI a4)), some (.int a5), some (.int (nI a6)), some (.int ((nI a6) / 2)), some (.int (zrem (nI a6) 2))]) (st' := [.int ((nI a6) / 2), .int ((1 : Int32) - (zrem (nI a6) 2)), .int a1, .int a2, .ref 65]) (h' := Hp S4) 7 (fun Z => rfl) ?_
      refine wp_call (pc' := 138) (rest := []) (fun Z => rfl) (isO_of sh65) hw ?_
      rintro o h1 ⟨x5, S6, rfl, rfl, hw⟩
      refine ⟨_, rfl, ?_⟩
      show wp E (d + 1) m_m_game 138 [some (.ref 65), some (.int a1), some (.int a2), some (.int a3), some (.int (nI a4)), some (.int a5), some (.int (nI a6)), some (.int ((nI a6) / 2)), some (.int (zrem (nI a6) 2))] [.int x5] (Hp S6) (QI Q)
      refine wp_st (pc' := 145) (L' := [some (.ref 65), some (.int a1), some (.int a2), some (.int a3), some (.int (nI a4)), some (.int a5), some (.int (nI a6)), some (.int ((nI a6) / 2)), some (.int (zrem (nI a6) 2))]) (st' := [.int ((nI a6) / 2), .int (zrem (nI a6) 2), .int a1, .int a2, .ref 65, .int x5]) (h' := Hp S6) 5 (fun Z => rfl) ?_
      refine wp_call (pc' := 148) (rest := [.int x5]) (fun Z => rfl) (isO_of sh65) hw ?_
      rintro o h1 ⟨x7, S8, rfl, rfl, hw⟩
      refine ⟨_, rfl, ?_⟩
      show wp E (d + 1) m_m_game 148 [some (.ref 65), some (.int a1), some (.int a2), some (.int a3), some (.int (nI a4)), some (.int a5), some (.int (nI a6)), some (.int ((nI a6) / 2)), some (.int (zrem (nI a6) 2))] [.int x7, .int x5] (Hp S8) (QI Q)
      by_cases hc : x5 ≤ x7
      · rw [if_pos hc] at hw
        refine wp_st (pc' := 154) (L' := [some (.ref 65), some (.int a1), some (.int a2), some (.int a3), some (.int (nI a4)), some (.int a5), some (.int (nI a6)), some (.int ((nI a6) / 2)), some (.int (zrem (nI a6) 2))]) (st' := []) (h' := Hp S8) 1 (fun Z => if_pos hc) ?_
        refine wp_st (pc' := 157) (L' := [some (.ref 65), some (.int a1), some (.int a2), some (.int a3), some (.int (nI (a4 + 1))), some (.int a5), some (.int (nI a6)), some (.int ((nI a6) / 2)), some (.int (zrem (nI a6) 2))]) (st' := []) (h' := Hp S8) 1 (fun Z => by rw [← nI_add a4 1]; rfl) ?_
        refine wp_st (pc' := 159) (L' := [some (.ref 65), some (.int a1), some (.int a2), some (.int a3), some (.int (nI (a4 + 1))), some (.int a5), some (.int (nI a6)), some (.int ((nI a6) / 2)), some (.int (zrem (nI a6) 2))]) (st' := [.int a5]) (h' := Hp S8) 1 (fun Z => rfl) ?_
        refine wp_st (pc' := 160) (L' := [some (.ref 65), some (.int a1), some (.int a2), some (.int a3), some (.int (nI (a4 + 1))), some (.int a5), some (.int (nI a6)), some (.int ((nI a6) / 2)), some (.int (zrem (nI a6) 2))]) (st' := [.int (-1), .int a5]) (h' := Hp S8) 1 (fun Z => congrArg (fun v => Z (d + 1) m_m_game 160 [some (.ref 65), some (.int a1), some (.int a2), some (.int a3), some (.int (nI (a4 + 1))), some (.int a5), some (.int (nI a6)), some (.int ((nI a6) / 2)), some (.int (zrem (nI a6) 2))] [.int v, .int a5] (Hp S8)) (show Int32.ofInt (-1) = (-1) by decide)) ?_
        by_cases hc : a5 = (-1)
        · rw [if_pos hc] at hw
          refine wp_st (pc' := 163) (L' := [some (.ref 65), some (.int a1), some (.int a2), some (.int a3), some (.int (nI (a4 + 1))), some (.int a5), some (.int (nI a6)), some (.int ((nI a6) / 2)), some (.int (zrem (nI a6) 2))]) (st' := []) (h' := Hp S8) 1 (fun Z => if_pos hc) ?_
          refine wp_st (pc' := 173) (L' := [some (.ref 65), some (.int a1), some (.int a2), some (.int a3), some (.int (nI (a4 + 1))), some (.int (((10 : Int32) * ((nI a6) / 2)) + (zrem (nI a6) 2))), some (.int (nI a6)), some (.int ((nI a6) / 2)), some (.int (zrem (nI a6) 2))]) (st' := []) (h' := Hp S8) 6 (fun Z => rfl) ?_
          refine wp_st (pc' := 176) (L' := [some (.ref 65), some (.int a1), some (.int a2), some (.int a3), some (.int (nI (a4 + 1))), some (.int (((10 : Int32) * ((nI a6) / 2)) + (zrem (nI a6) 2))), some (.int (nI (a6 + 1))), some (.int ((nI a6) / 2)), some (.int (zrem (nI a6) 2))]) (st' := []) (h' := Hp S8) 1 (fun Z => by rw [← nI_add a6 1]; rfl) ?_
          exact wp_st 1 (fun Z => rfl) (show wp E (d + 1) m_m_game 83 [some (.ref 65), some (.int a1), some (.int a2), some (.int a3), some (.int (nI (a4 + 1))), some (.int (((10 : Int32) * ((nI a6) / 2)) + (zrem (nI a6) 2))), some (.int (nI (a6 + 1))), some (.int ((nI a6) / 2)), some (.int (zrem (nI a6) 2))] [] (Hp S8) (QI Q) from (hw (some (.int ((nI a6) / 2))) (some (.int (zrem (nI a6) 2)))))
        · rw [if_neg hc] at hw
          refine wp_st (pc' := 173) (L' := [some (.ref 65), some (.int a1), some (.int a2), some (.int a3), some (.int (nI (a4 + 1))), some (.int a5), some (.int (nI a6)), some (.int ((nI a6) / 2)), some (.int (zrem (nI a6) 2))]) (st' := []) (h' := Hp S8) 1 (fun Z => if_neg hc) ?_
          refine wp_st (pc' := 176) (L' := [some (.ref 65), some (.int a1), some (.int a2), some (.int a3), some (.int (nI (a4 + 1))), some (.int a5), some (.int (nI (a6 + 1))), some (.int ((nI a6) / 2)), some (.int (zrem (nI a6) 2))]) (st' := []) (h' := Hp S8) 1 (fun Z => by rw [← nI_add a6 1]; rfl) ?_
          exact wp_st 1 (fun Z => rfl) (show wp E (d + 1) m_m_game 83 [some (.ref 65), some (.int a1), some (.int a2), some (.int a3), some (.int (nI (a4 + 1))), some (.int a5), some (.int (nI (a6 + 1))), some (.int ((nI a6) / 2)), some (.int (zrem (nI a6) 2))] [] (Hp S8) (QI Q) from (hw (some (.int ((nI a6) / 2))) (some (.int (zrem (nI a6) 2)))))
      · rw [if_neg hc] at hw
        refine wp_st (pc' := 151) (L' := [some (.ref 65), some (.int a1), some (.int a2), some (.int a3), some (.int (nI a4)), some (.int a5), some (.int (nI a6)), some (.int ((nI a6) / 2)), some (.int (zrem (nI a6) 2))]) (st' := []) (h' := Hp S8) 1 (fun Z => if_neg hc) ?_
        refine wp_st (pc' := 173) (L' := [some (.ref 65), some (.int a1), some (.int a2), some (.int a3), some (.int (nI a4)), some (.int a5), some (.int (nI a6)), some (.int ((nI a6) / 2)), some (.int (zrem (nI a6) 2))]) (st' := []) (h' := Hp S8) 1 (fun Z => rfl) ?_
        refine wp_st (pc' := 176) (L' := [some (.ref 65), some (.int a1), some (.int a2), some (.int a3), some (.int (nI a4)), some (.int a5), some (.int (nI (a6 + 1))), some (.int ((nI a6) / 2)), some (.int (zrem (nI a6) 2))]) (st' := []) (h' := Hp S8) 1 (fun Z => by rw [← nI_add a6 1]; rfl) ?_
        exact wp_st 1 (fun Z => rfl) (show wp E (d + 1) m_m_game 83 [some (.ref 65), some (.int a1), some (.int a2), some (.int a3), some (.int (nI a4)), some (.int a5), some (.int (nI (a6 + 1))), some (.int ((nI a6) / 2)), some (.int (zrem (nI a6) 2))] [] (Hp S8) (QI Q) from (hw (some (.int ((nI a6) / 2))) (some (.int (zrem (nI a6) 2)))))
set_option maxRecDepth 4000 in
theorem w_m_gains {E : zX} {d : Nat} {S : St} {a1 : Nat} {a2 : Nat} {a3 : Int32} {a4 : Int32} {Q : Int32 → St → Prop} (hd : 1 ≤ d) 
    (hw : k_m_tries E (d - 1) S (fun S2 =>
    if a3 = 1 then (
      if (nI a2) ≤ (nI a1) then (
        if a4 = 1 then (
          k_m_goesOut E (d - 1) S2 79 (nI a2) (fun x3 S4 =>
          k_m_gains_36 E d S4 a1 a2 a3 Q))
        else (
          k_m_gains_36 E d S2 a1 a2 a3 Q))
      else (
        k_m_goesOut E (d - 1) S2 79 (nI a1) (fun x5 S6 =>
        if a4 = 1 then (
          k_m_goesOut E (d - 1) S6 79 (nI a2) (fun x7 S8 =>
          k_m_gains_36 E d S8 a1 a2 a3 Q))
        else (
          k_m_gains_36 E d S6 a1 a2 a3 Q))))
    else (
      if a4 = 1 then (
        k_m_goesOut E (d - 1) S2 79 (nI a2) (fun x9 S10 =>
        k_m_gains_36 E d S10 a1 a2 a3 Q))
      else (
        k_m_gains_36 E d S2 a1 a2 a3 Q)))) :
    k_m_gains E d S (nI a1) (nI a2) a3 a4 Q := by
  obtain ⟨d, rfl⟩ := Nat.exists_eq_add_of_le' hd
  show wp E (d + 1) m_m_gains 0 [some (.ref 65), some (.int (nI a1)), some (.int (nI a2)), some (.int a3), some (.int a4)] [] (Hp S) (QI Q)
  refine wp_st (pc' := 1) (L' := [some (.ref 65), some (.int (nI a1)), some (.int (nI a2)), some (.int a3), some (.int a4)]) (st' := [.ref 65]) (h' := Hp S) 1 (fun Z => rfl) ?_
  refine wp_call (pc' := 4) (rest := []) (fun Z => rfl) (isO_of sh65) hw ?_
  rintro o h1 ⟨S2, rfl, rfl, hw⟩
  refine ⟨_, rfl, ?_⟩
  show wp E (d + 1) m_m_gains 4 [some (.ref 65), some (.int (nI a1)), some (.int (nI a2)), some (.int a3), some (.int a4)] [] (Hp S2) (QI Q)
  refine wp_st (pc' := 6) (L' := [some (.ref 65), some (.int (nI a1)), some (.int (nI a2)), some (.int a3), some (.int a4)]) (st' := [.int 1, .int a3]) (h' := Hp S2) 2 (fun Z => rfl) ?_
  by_cases hc : a3 = 1
  · rw [if_pos hc] at hw
    refine wp_st (pc' := 9) (L' := [some (.ref 65), some (.int (nI a1)), some (.int (nI a2)), some (.int a3), some (.int a4)]) (st' := []) (h' := Hp S2) 1 (fun Z => if_pos hc) ?_
    refine wp_st (pc' := 11) (L' := [some (.ref 65), some (.int (nI a1)), some (.int (nI a2)), some (.int a3), some (.int a4)]) (st' := [.int (nI a2), .int (nI a1)]) (h' := Hp S2) 2 (fun Z => rfl) ?_
    by_cases hc : (nI a2) ≤ (nI a1)
    · rw [if_pos hc] at hw
      refine wp_st (pc' := 22) (L' := [some (.ref 65), some (.int (nI a1)), some (.int (nI a2)), some (.int a3), some (.int a4)]) (st' := []) (h' := Hp S2) 1 (fun Z => if_pos hc) ?_
      refine wp_st (pc' := 25) (L' := [some (.ref 65), some (.int (nI a1)), some (.int (nI a2)), some (.int a3), some (.int a4)]) (st' := [.int 1, .int a4]) (h' := Hp S2) 2 (fun Z => rfl) ?_
      by_cases hc : a4 = 1
      · rw [if_pos hc] at hw
        refine wp_st (pc' := 28) (L' := [some (.ref 65), some (.int (nI a1)), some (.int (nI a2)), some (.int a3), some (.int a4)]) (st' := []) (h' := Hp S2) 1 (fun Z => if_pos hc) ?_
        refine wp_st (pc' := 32) (L' := [some (.ref 65), some (.int (nI a1)), some (.int (nI a2)), some (.int a3), some (.int a4)]) (st' := [.int (nI a2), .int 79, .ref 65]) (h' := Hp S2) 3 (fun Z => rfl) ?_
        refine wp_call (pc' := 35) (rest := []) (fun Z => rfl) (isO_of sh65) hw ?_
        rintro o h1 ⟨x3, S4, rfl, rfl, hw⟩
        refine ⟨_, rfl, ?_⟩
        show wp E (d + 1) m_m_gains 35 [some (.ref 65), some (.int (nI a1)), some (.int (nI a2)), some (.int a3), some (.int a4)] [.int x3] (Hp S4) (QI Q)
        exact wp_st 1 (fun Z => rfl) (show wp E (d + 1) m_m_gains 36 [some (.ref 65), some (.int (nI a1)), some (.int (nI a2)), some (.int a3), some (.int a4)] [] (Hp S4) (QI Q) from (hw (some (.int a4))))
      · rw [if_neg hc] at hw
        refine wp_st (pc' := 36) (L' := [some (.ref 65), some (.int (nI a1)), some (.int (nI a2)), some (.int a3), some (.int a4)]) (st' := []) (h' := Hp S2) 1 (fun Z => if_neg hc) ?_
        exact (show wp E (d + 1) m_m_gains 36 [some (.ref 65), some (.int (nI a1)), some (.int (nI a2)), some (.int a3), some (.int a4)] [] (Hp S2) (QI Q) from (hw (some (.int a4))))
    · rw [if_neg hc] at hw
      refine wp_st (pc' := 14) (L' := [some (.ref 65), some (.int (nI a1)), some (.int (nI a2)), some (.int a3), some (.int a4)]) (st' := []) (h' := Hp S2) 1 (fun Z => if_neg hc) ?_
      refine wp_st (pc' := 18) (L' := [some (.ref 65), some (.int (nI a1)), some (.int (nI a2)), some (.int a3), some (.int a4)]) (st' := [.int (nI a1), .int 79, .ref 65]) (h' := Hp S2) 3 (fun Z => rfl) ?_
      refine wp_call (pc' := 21) (rest := []) (fun Z => rfl) (isO_of sh65) hw ?_
      rintro o h1 ⟨x5, S6, rfl, rfl, hw⟩
      refine ⟨_, rfl, ?_⟩
      show wp E (d + 1) m_m_gains 21 [some (.ref 65), some (.int (nI a1)), some (.int (nI a2)), some (.int a3), some (.int a4)] [.int x5] (Hp S6) (QI Q)
      refine wp_st (pc' := 25) (L' := [some (.ref 65), some (.int (nI a1)), some (.int (nI a2)), some (.int a3), some (.int a4)]) (st' := [.int 1, .int a4]) (h' := Hp S6) 3 (fun Z => rfl) ?_
      by_cases hc : a4 = 1
      · rw [if_pos hc] at hw
        refine wp_st (pc' := 28) (L' := [some (.ref 65), some (.int (nI a1)), some (.int (nI a2)), some (.int a3), some (.int a4)]) (st' := []) (h' := Hp S6) 1 (fun Z => if_pos hc) ?_
        refine wp_st (pc' := 32) (L' := [some (.ref 65), some (.int (nI a1)), some (.int (nI a2)), some (.int a3), some (.int a4)]) (st' := [.int (nI a2), .int 79, .ref 65]) (h' := Hp S6) 3 (fun Z => rfl) ?_
        refine wp_call (pc' := 35) (rest := []) (fun Z => rfl) (isO_of sh65) hw ?_
        rintro o h1 ⟨x7, S8, rfl, rfl, hw⟩
        refine ⟨_, rfl, ?_⟩
        show wp E (d + 1) m_m_gains 35 [some (.ref 65), some (.int (nI a1)), some (.int (nI a2)), some (.int a3), some (.int a4)] [.int x7] (Hp S8) (QI Q)
        exact wp_st 1 (fun Z => rfl) (show wp E (d + 1) m_m_gains 36 [some (.ref 65), some (.int (nI a1)), some (.int (nI a2)), some (.int a3), some (.int a4)] [] (Hp S8) (QI Q) from (hw (some (.int a4))))
      · rw [if_neg hc] at hw
        refine wp_st (pc' := 36) (L' := [some (.ref 65), some (.int (nI a1)), some (.int (nI a2)), some (.int a3), some (.int a4)]) (st' := []) (h' := Hp S6) 1 (fun Z => if_neg hc) ?_
        exact (show wp E (d + 1) m_m_gains 36 [some (.ref 65), some (.int (nI a1)), some (.int (nI a2)), some (.int a3), some (.int a4)] [] (Hp S6) (QI Q) from (hw (some (.int a4))))
  · rw [if_neg hc] at hw
    refine wp_st (pc' := 22) (L' := [some (.ref 65), some (.int (nI a1)), some (.int (nI a2)), some (.int a3), some (.int a4)]) (st' := []) (h' := Hp S2) 1 (fun Z => if_neg hc) ?_
    refine wp_st (pc' := 25) (L' := [some (.ref 65), some (.int (nI a1)), some (.int (nI a2)), some (.int a3), some (.int a4)]) (st' := [.int 1, .int a4]) (h' := Hp S2) 2 (fun Z => rfl) ?_
    by_cases hc : a4 = 1
    · rw [if_pos hc] at hw
      refine wp_st (pc' := 28) (L' := [some (.ref 65), some (.int (nI a1)), some (.int (nI a2)), some (.int a3), some (.int a4)]) (st' := []) (h' := Hp S2) 1 (fun Z => if_pos hc) ?_
      refine wp_st (pc' := 32) (L' := [some (.ref 65), some (.int (nI a1)), some (.int (nI a2)), some (.int a3), some (.int a4)]) (st' := [.int (nI a2), .int 79, .ref 65]) (h' := Hp S2) 3 (fun Z => rfl) ?_
      refine wp_call (pc' := 35) (rest := []) (fun Z => rfl) (isO_of sh65) hw ?_
      rintro o h1 ⟨x9, S10, rfl, rfl, hw⟩
      refine ⟨_, rfl, ?_⟩
      show wp E (d + 1) m_m_gains 35 [some (.ref 65), some (.int (nI a1)), some (.int (nI a2)), some (.int a3), some (.int a4)] [.int x9] (Hp S10) (QI Q)
      exact wp_st 1 (fun Z => rfl) (show wp E (d + 1) m_m_gains 36 [some (.ref 65), some (.int (nI a1)), some (.int (nI a2)), some (.int a3), some (.int a4)] [] (Hp S10) (QI Q) from (hw (some (.int a4))))
    · rw [if_neg hc] at hw
      refine wp_st (pc' := 36) (L' := [some (.ref 65), some (.int (nI a1)), some (.int (nI a2)), some (.int a3), some (.int a4)]) (st' := []) (h' := Hp S2) 1 (fun Z => if_neg hc) ?_
      exact (show wp E (d + 1) m_m_gains 36 [some (.ref 65), some (.int (nI a1)), some (.int (nI a2)), some (.int a3), some (.int a4)] [] (Hp S2) (QI Q) from (hw (some (.int a4))))
set_option maxRecDepth 4000 in
theorem w_m_gains_36 {E : zX} {d : Nat} {S : St} {a1 : Nat} {a2 : Nat} {a3 : Int32} {Q : Int32 → St → Prop} (hd : 1 ≤ d) 
    (hw : if a3 = 1 then (
      if (nI a1) ≤ (nI a2) then (
        k_m_gains_54 E d S a1 a3 Q)
      else (
        k_m_goesOut E (d - 1) S 79 (nI a1) (fun x1 S2 =>
        k_m_gains_54 E d S2 a1 a3 Q)))
    else (
      k_m_gains_54 E d S a1 a3 Q)) :
    k_m_gains_36 E d S a1 a2 a3 Q := by
  obtain ⟨d, rfl⟩ := Nat.exists_eq_add_of_le' hd
  intro j4
  show wp E (d + 1) m_m_gains 36 [some (.ref 65), some (.int (nI a1)), some (.int (nI a2)), some (.int a3), j4] [] (Hp S) (QI Q)
  refine wp_st (pc' := 38) (L' := [some (.ref 65), some (.int (nI a1)), some (.int (nI a2)), some (.int a3), j4]) (st' := [.int 1, .int a3]) (h' := Hp S) 2 (fun Z => rfl) ?_
  by_cases hc : a3 = 1
  · rw [if_pos hc] at hw
    refine wp_st (pc' := 41) (L' := [some (.ref 65), some (.int (nI a1)), some (.int (nI a2)), some (.int a3), j4]) (st' := []) (h' := Hp S) 1 (fun Z => if_pos hc) ?_
    refine wp_st (pc' := 43) (L' := [some (.ref 65), some (.int (nI a1)), some (.int (nI a2)), some (.int a3), j4]) (st' := [.int (nI a2), .int (nI a1)]) (h' := Hp S) 2 (fun Z => rfl) ?_
    by_cases hc : (nI a1) ≤ (nI a2)
    · rw [if_pos hc] at hw
      refine wp_st (pc' := 54) (L' := [some (.ref 65), some (.int (nI a1)), some (.int (nI a2)), some (.int a3), j4]) (st' := []) (h' := Hp S) 1 (fun Z => if_pos hc) ?_
      exact (show wp E (d + 1) m_m_gains 54 [some (.ref 65), some (.int (nI a1)), some (.int (nI a2)), some (.int a3), j4] [] (Hp S) (QI Q) from (hw (some (.int (nI a2))) j4))
    · rw [if_neg hc] at hw
      refine wp_st (pc' := 46) (L' := [some (.ref 65), some (.int (nI a1)), some (.int (nI a2)), some (.int a3), j4]) (st' := []) (h' := Hp S) 1 (fun Z => if_neg hc) ?_
      refine wp_st (pc' := 50) (L' := [some (.ref 65), some (.int (nI a1)), some (.int (nI a2)), some (.int a3), j4]) (st' := [.int (nI a1), .int 79, .ref 65]) (h' := Hp S) 3 (fun Z => rfl) ?_
      refine wp_call (pc' := 53) (rest := []) (fun Z => rfl) (isO_of sh65) hw ?_
      rintro o h1 ⟨x1, S2, rfl, rfl, hw⟩
      refine ⟨_, rfl, ?_⟩
      show wp E (d + 1) m_m_gains 53 [some (.ref 65), some (.int (nI a1)), some (.int (nI a2)), some (.int a3), j4] [.int x1] (Hp S2) (QI Q)
      exact wp_st 1 (fun Z => rfl) (show wp E (d + 1) m_m_gains 54 [some (.ref 65), some (.int (nI a1)), some (.int (nI a2)), some (.int a3), j4] [] (Hp S2) (QI Q) from (hw (some (.int (nI a2))) j4))
  · rw [if_neg hc] at hw
    refine wp_st (pc' := 54) (L' := [some (.ref 65), some (.int (nI a1)), some (.int (nI a2)), some (.int a3), j4]) (st' := []) (h' := Hp S) 1 (fun Z => if_neg hc) ?_
    exact (show wp E (d + 1) m_m_gains 54 [some (.ref 65), some (.int (nI a1)), some (.int (nI a2)), some (.int a3), j4] [] (Hp S) (QI Q) from (hw (some (.int (nI a2))) j4))
set_option maxRecDepth 4000 in
theorem w_m_gains_54 {E : zX} {d : Nat} {S : St} {a1 : Nat} {a3 : Int32} {Q : Int32 → St → Prop} (hd : 1 ≤ d) 
    (hw : k_m_daysGo E (d - 1) S 10 (fun S2 =>
    (8 + a1) < 158 ∧
    (87 + a1) < 158 ∧
    (15 + a1) < 158 ∧
    (94 + a1) < 158 ∧
    Q (((((4 : Int32) * ((S2 77 (8 + a1)) - (S2 77 (87 + a1)))) + (S2 77 (15 + a1))) - (S2 77 (94 + a1))) - ((2 : Int32) * a3)) S2)) :
    k_m_gains_54 E d S a1 a3 Q := by
  obtain ⟨d, rfl⟩ := Nat.exists_eq_add_of_le' hd
  intro j2 j4
  show wp E (d + 1) m_m_gains 54 [some (.ref 65), some (.int (nI a1)), j2, some (.int a3), j4] [] (Hp S) (QI Q)
  refine wp_st (pc' := 57) (L' := [some (.ref 65), some (.int (nI a1)), j2, some (.int a3), j4]) (st' := [.int 10, .ref 65]) (h' := Hp S) 2 (fun Z => rfl) ?_
  refine wp_call (pc' := 60) (rest := []) (fun Z => rfl) (isO_of sh65) hw ?_
  rintro o h1 ⟨S2, rfl, rfl, hw⟩
  refine ⟨_, rfl, ?_⟩
  show wp E (d + 1) m_m_gains 60 [some (.ref 65), some (.int (nI a1)), j2, some (.int a3), j4] [] (Hp S2) (QI Q)
  refine wp_st (pc' := 62) (L' := [some (.ref 65), some (.int (nI a1)), j2, some (.int a3), j4]) (st' := [.ref 65, .int 4]) (h' := Hp S2) 2 (fun Z => rfl) ?_
  refine wp_st (pc' := 65) (L' := [some (.ref 65), some (.int (nI a1)), j2, some (.int a3), j4]) (st' := [.ref 77, .int 4]) (h' := Hp S2) 1 (fun Z => gfR (E := E) sh65 rfl _) ?_
  refine wp_st (pc' := 68) (L' := [some (.ref 65), some (.int (nI a1)), j2, some (.int a3), j4]) (st' := [.int (nI a1), .int 8, .ref 77, .int 4]) (h' := Hp S2) 2 (fun Z => rfl) ?_
  refine wp_st (pc' := 69) (L' := [some (.ref 65), some (.int (nI a1)), j2, some (.int a3), j4]) (st' := [.int (nI (8 + a1)), .ref 77, .int 4]) (h' := Hp S2) 1 (fun Z => by rw [← nI_add 8 a1]; rfl) ?_
  obtain ⟨hi, hw⟩ := hw
  refine wp_st (pc' := 70) (L' := [some (.ref 65), some (.int (nI a1)), j2, some (.int a3), j4]) (st' := [.int (S2 77 (8 + a1)), .int 4]) (h' := Hp S2) 1 (fun Z => ldN (E := E) sh77 (by decide) hi [.int 4] (fun st => Z (d + 1) m_m_gains 70 [some (.ref 65), some (.int (nI a1)), j2, some (.int a3), j4] st (Hp S2))) ?_
  refine wp_st (pc' := 71) (L' := [some (.ref 65), some (.int (nI a1)), j2, some (.int a3), j4]) (st' := [.ref 65, .int (S2 77 (8 + a1)), .int 4]) (h' := Hp S2) 1 (fun Z => rfl) ?_
  refine wp_st (pc' := 74) (L' := [some (.ref 65), some (.int (nI a1)), j2, some (.int a3), j4]) (st' := [.ref 77, .int (S2 77 (8 + a1)), .int 4]) (h' := Hp S2) 1 (fun Z => gfR (E := E) sh65 rfl _) ?_
  refine wp_st (pc' := 77) (L' := [some (.ref 65), some (.int (nI a1)), j2, some (.int a3), j4]) (st' := [.int (nI a1), .int 87, .ref 77, .int (S2 77 (8 + a1)), .int 4]) (h' := Hp S2) 2 (fun Z => rfl) ?_
  refine wp_st (pc' := 78) (L' := [some (.ref 65), some (.int (nI a1)), j2, some (.int a3), j4]) (st' := [.int (nI (87 + a1)), .ref 77, .int (S2 77 (8 + a1)), .int 4]) (h' := Hp S2) 1 (fun Z => by rw [← nI_add 87 a1]; rfl) ?_
  obtain ⟨hi, hw⟩ := hw
  refine wp_st (pc' := 79) (L' := [some (.ref 65), some (.int (nI a1)), j2, some (.int a3), j4]) (st' := [.int (S2 77 (87 + a1)), .int (S2 77 (8 + a1)), .int 4]) (h' := Hp S2) 1 (fun Z => ldN (E := E) sh77 (by decide) hi [.int (S2 77 (8 + a1)), .int 4] (fun st => Z (d + 1) m_m_gains 79 [some (.ref 65), some (.int (nI a1)), j2, some (.int a3), j4] st (Hp S2))) ?_
  refine wp_st (pc' := 82) (L' := [some (.ref 65), some (.int (nI a1)), j2, some (.int a3), j4]) (st' := [.ref 65, .int ((4 : Int32) * ((S2 77 (8 + a1)) - (S2 77 (87 + a1))))]) (h' := Hp S2) 3 (fun Z => rfl) ?_
  refine wp_st (pc' := 85) (L' := [some (.ref 65), some (.int (nI a1)), j2, some (.int a3), j4]) (st' := [.ref 77, .int ((4 : Int32) * ((S2 77 (8 + a1)) - (S2 77 (87 + a1))))]) (h' := Hp S2) 1 (fun Z => gfR (E := E) sh65 rfl _) ?_
  refine wp_st (pc' := 88) (L' := [some (.ref 65), some (.int (nI a1)), j2, some (.int a3), j4]) (st' := [.int (nI a1), .int 15, .ref 77, .int ((4 : Int32) * ((S2 77 (8 + a1)) - (S2 77 (87 + a1))))]) (h' := Hp S2) 2 (fun Z => rfl) ?_
  refine wp_st (pc' := 89) (L' := [some (.ref 65), some (.int (nI a1)), j2, some (.int a3), j4]) (st' := [.int (nI (15 + a1)), .ref 77, .int ((4 : Int32) * ((S2 77 (8 + a1)) - (S2 77 (87 + a1))))]) (h' := Hp S2) 1 (fun Z => by rw [← nI_add 15 a1]; rfl) ?_
  obtain ⟨hi, hw⟩ := hw
  refine wp_st (pc' := 90) (L' := [some (.ref 65), some (.int (nI a1)), j2, some (.int a3), j4]) (st' := [.int (S2 77 (15 + a1)), .int ((4 : Int32) * ((S2 77 (8 + a1)) - (S2 77 (87 + a1))))]) (h' := Hp S2) 1 (fun Z => ldN (E := E) sh77 (by decide) hi [.int ((4 : Int32) * ((S2 77 (8 + a1)) - (S2 77 (87 + a1))))] (fun st => Z (d + 1) m_m_gains 90 [some (.ref 65), some (.int (nI a1)), j2, some (.int a3), j4] st (Hp S2))) ?_
  refine wp_st (pc' := 92) (L' := [some (.ref 65), some (.int (nI a1)), j2, some (.int a3), j4]) (st' := [.ref 65, .int (((4 : Int32) * ((S2 77 (8 + a1)) - (S2 77 (87 + a1)))) + (S2 77 (15 + a1)))]) (h' := Hp S2) 2 (fun Z => rfl) ?_
  refine wp_st (pc' := 95) (L' := [some (.ref 65), some (.int (nI a1)), j2, some (.int a3), j4]) (st' := [.ref 77, .int (((4 : Int32) * ((S2 77 (8 + a1)) - (S2 77 (87 + a1)))) + (S2 77 (15 + a1)))]) (h' := Hp S2) 1 (fun Z => gfR (E := E) sh65 rfl _) ?_
  refine wp_st (pc' := 98) (L' := [some (.ref 65), some (.int (nI a1)), j2, some (.int a3), j4]) (st' := [.int (nI a1), .int 94, .ref 77, .int (((4 : Int32) * ((S2 77 (8 + a1)) - (S2 77 (87 + a1)))) + (S2 77 (15 + a1)))]) (h' := Hp S2) 2 (fun Z => rfl) ?_
  refine wp_st (pc' := 99) (L' := [some (.ref 65), some (.int (nI a1)), j2, some (.int a3), j4]) (st' := [.int (nI (94 + a1)), .ref 77, .int (((4 : Int32) * ((S2 77 (8 + a1)) - (S2 77 (87 + a1)))) + (S2 77 (15 + a1)))]) (h' := Hp S2) 1 (fun Z => by rw [← nI_add 94 a1]; rfl) ?_
  obtain ⟨hi, hw⟩ := hw
  refine wp_st (pc' := 100) (L' := [some (.ref 65), some (.int (nI a1)), j2, some (.int a3), j4]) (st' := [.int (S2 77 (94 + a1)), .int (((4 : Int32) * ((S2 77 (8 + a1)) - (S2 77 (87 + a1)))) + (S2 77 (15 + a1)))]) (h' := Hp S2) 1 (fun Z => ldN (E := E) sh77 (by decide) hi [.int (((4 : Int32) * ((S2 77 (8 + a1)) - (S2 77 (87 + a1)))) + (S2 77 (15 + a1)))] (fun st => Z (d + 1) m_m_gains 100 [some (.ref 65), some (.int (nI a1)), j2, some (.int a3), j4] st (Hp S2))) ?_
  refine wp_st (pc' := 105) (L' := [some (.ref 65), some (.int (nI a1)), j2, some (.int a3), j4]) (st' := [.int (((((4 : Int32) * ((S2 77 (8 + a1)) - (S2 77 (87 + a1)))) + (S2 77 (15 + a1))) - (S2 77 (94 + a1))) - ((2 : Int32) * a3))]) (h' := Hp S2) 5 (fun Z => rfl) ?_
  exact wp_ret (fun Z => rfl) ⟨_, _, rfl, rfl, hw⟩
set_option maxRecDepth 4000 in
theorem w_m_happens {E : zX} {d : Nat} {S : St}  {Q : St → Prop} (hd : 1 ≤ d) 
    (hw : k_m_draw E (d - 1) S 5 (fun x1 S2 =>
    if x1 = 0 then (
      if (S2 65 4) ≤ 0 then (
        k_m_happens_46 E d S2 x1 Q)
      else (
        k_m_draw E (d - 1) S2 (S2 65 4) (fun x3 S4 =>
        k_m_mayTread E (d - 1) S4 79 x3 (fun x5 S6 =>
        if x5 = 0 then (
          k_m_happens_46 E d S6 x1 Q)
        else (
          k_m_goOff E (d - 1) S6 79 ((1 : Int32) <<< (x3 &&& 31)) (fun x7 S8 =>
          k_m_happens_46 E d S8 x1 Q))))))
    else (
      k_m_happens_46 E d S2 x1 Q))) :
    k_m_happens E d S Q := by
  obtain ⟨d, rfl⟩ := Nat.exists_eq_add_of_le' hd
  show wp E (d + 1) m_m_happens 0 [some (.ref 65), none, none] [] (Hp S) (QV Q)
  refine wp_st (pc' := 2) (L' := [some (.ref 65), none, none]) (st' := [.int 5, .ref 65]) (h' := Hp S) 2 (fun Z => rfl) ?_
  refine wp_call (pc' := 5) (rest := []) (fun Z => rfl) (isO_of sh65) hw ?_
  rintro o h1 ⟨x1, S2, rfl, rfl, hw⟩
  refine ⟨_, rfl, ?_⟩
  show wp E (d + 1) m_m_happens 5 [some (.ref 65), none, none] [.int x1] (Hp S2) (QV Q)
  refine wp_st (pc' := 7) (L' := [some (.ref 65), some (.int x1), none]) (st' := [.int x1]) (h' := Hp S2) 2 (fun Z => rfl) ?_
  by_cases hc : x1 = 0
  · rw [if_pos hc] at hw
    refine wp_st (pc' := 10) (L' := [some (.ref 65), some (.int x1), none]) (st' := []) (h' := Hp S2) 1 (fun Z => if_pos hc) ?_
    refine wp_st (pc' := 11) (L' := [some (.ref 65), some (.int x1), none]) (st' := [.ref 65]) (h' := Hp S2) 1 (fun Z => rfl) ?_
    refine wp_st (pc' := 14) (L' := [some (.ref 65), some (.int x1), none]) (st' := [.int (S2 65 4)]) (h' := Hp S2) 1 (fun Z => gfI (E := E) sh65 rfl _) ?_
    by_cases hc : (S2 65 4) ≤ 0
    · rw [if_pos hc] at hw
      refine wp_st (pc' := 46) (L' := [some (.ref 65), some (.int x1), none]) (st' := []) (h' := Hp S2) 1 (fun Z => if_pos hc) ?_
      exact (show wp E (d + 1) m_m_happens 46 [some (.ref 65), some (.int x1), none] [] (Hp S2) (QV Q) from (hw none))
    · rw [if_neg hc] at hw
      refine wp_st (pc' := 17) (L' := [some (.ref 65), some (.int x1), none]) (st' := []) (h' := Hp S2) 1 (fun Z => if_neg hc) ?_
      refine wp_st (pc' := 19) (L' := [some (.ref 65), some (.int x1), none]) (st' := [.ref 65, .ref 65]) (h' := Hp S2) 2 (fun Z => rfl) ?_
      refine wp_st (pc' := 22) (L' := [some (.ref 65), some (.int x1), none]) (st' := [.int (S2 65 4), .ref 65]) (h' := Hp S2) 1 (fun Z => gfI (E := E) sh65 rfl _) ?_
      refine wp_call (pc' := 25) (rest := []) (fun Z => rfl) (isO_of sh65) hw ?_
      rintro o h1 ⟨x3, S4, rfl, rfl, hw⟩
      refine ⟨_, rfl, ?_⟩
      show wp E (d + 1) m_m_happens 25 [some (.ref 65), some (.int x1), none] [.int x3] (Hp S4) (QV Q)
      refine wp_st (pc' := 30) (L' := [some (.ref 65), some (.int x1), some (.int x3)]) (st' := [.int x3, .int 79, .ref 65]) (h' := Hp S4) 4 (fun Z => rfl) ?_
      refine wp_call (pc' := 33) (rest := []) (fun Z => rfl) (isO_of sh65) hw ?_
      rintro o h1 ⟨x5, S6, rfl, rfl, hw⟩
      refine ⟨_, rfl, ?_⟩
      show wp E (d + 1) m_m_happens 33 [some (.ref 65), some (.int x1), some (.int x3)] [.int x5] (Hp S6) (QV Q)
      by_cases hc : x5 = 0
      · rw [if_pos hc] at hw
        refine wp_st (pc' := 46) (L' := [some (.ref 65), some (.int x1), some (.int x3)]) (st' := []) (h' := Hp S6) 1 (fun Z => if_pos hc) ?_
        exact (show wp E (d + 1) m_m_happens 46 [some (.ref 65), some (.int x1), some (.int x3)] [] (Hp S6) (QV Q) from (hw (some (.int x3))))
      · rw [if_neg hc] at hw
        refine wp_st (pc' := 36) (L' := [some (.ref 65), some (.int x1), some (.int x3)]) (st' := []) (h' := Hp S6) 1 (fun Z => if_neg hc) ?_
        refine wp_st (pc' := 42) (L' := [some (.ref 65), some (.int x1), some (.int x3)]) (st' := [.int ((1 : Int32) <<< (x3 &&& 31)), .int 79, .ref 65]) (h' := Hp S6) 5 (fun Z => rfl) ?_
        refine wp_call (pc' := 45) (rest := []) (fun Z => rfl) (isO_of sh65) hw ?_
        rintro o h1 ⟨x7, S8, rfl, rfl, hw⟩
        refine ⟨_, rfl, ?_⟩
        show wp E (d + 1) m_m_happens 45 [some (.ref 65), some (.int x1), some (.int x3)] [.int x7] (Hp S8) (QV Q)
        exact wp_st 1 (fun Z => rfl) (show wp E (d + 1) m_m_happens 46 [some (.ref 65), some (.int x1), some (.int x3)] [] (Hp S8) (QV Q) from (hw (some (.int x3))))
  · rw [if_neg hc] at hw
    refine wp_st (pc' := 46) (L' := [some (.ref 65), some (.int x1), none]) (st' := []) (h' := Hp S2) 1 (fun Z => if_neg hc) ?_
    exact (show wp E (d + 1) m_m_happens 46 [some (.ref 65), some (.int x1), none] [] (Hp S2) (QV Q) from (hw none))
set_option maxRecDepth 4000 in
theorem w_m_happens_46 {E : zX} {d : Nat} {S : St} {a1 : Int32} {Q : St → Prop} (hd : 1 ≤ d) 
    (hw : if a1 = 1 then (
      if (S 65 3) ≤ 0 then (
        Q S)
      else (
        k_m_draw E (d - 1) S (S 65 3) (fun x1 S2 =>
        k_m_draw E (d - 1) S2 60 (fun x3 S4 =>
        ∃ m6 : Nat, ((80 : Int32) + x1) = nI m6 ∧ m6 < 158 ∧
        ∀ S5, S5 = up S4 77 m6 x3 →
        Q S5))))
    else (
      Q S)) :
    k_m_happens_46 E d S a1 Q := by
  obtain ⟨d, rfl⟩ := Nat.exists_eq_add_of_le' hd
  intro j2
  show wp E (d + 1) m_m_happens 46 [some (.ref 65), some (.int a1), j2] [] (Hp S) (QV Q)
  refine wp_st (pc' := 48) (L' := [some (.ref 65), some (.int a1), j2]) (st' := [.int 1, .int a1]) (h' := Hp S) 2 (fun Z => rfl) ?_
  by_cases hc : a1 = 1
  · rw [if_pos hc] at hw
    refine wp_st (pc' := 51) (L' := [some (.ref 65), some (.int a1), j2]) (st' := []) (h' := Hp S) 1 (fun Z => if_pos hc) ?_
    refine wp_st (pc' := 52) (L' := [some (.ref 65), some (.int a1), j2]) (st' := [.ref 65]) (h' := Hp S) 1 (fun Z => rfl) ?_
    refine wp_st (pc' := 55) (L' := [some (.ref 65), some (.int a1), j2]) (st' := [.int (S 65 3)]) (h' := Hp S) 1 (fun Z => gfI (E := E) sh65 rfl _) ?_
    by_cases hc : (S 65 3) ≤ 0
    · rw [if_pos hc] at hw
      refine wp_st (pc' := 82) (L' := [some (.ref 65), some (.int a1), j2]) (st' := []) (h' := Hp S) 1 (fun Z => if_pos hc) ?_
      exact wp_ret (fun Z => rfl) ⟨_, rfl, rfl, hw⟩
    · rw [if_neg hc] at hw
      refine wp_st (pc' := 58) (L' := [some (.ref 65), some (.int a1), j2]) (st' := []) (h' := Hp S) 1 (fun Z => if_neg hc) ?_
      refine wp_st (pc' := 60) (L' := [some (.ref 65), some (.int a1), j2]) (st' := [.ref 65, .ref 65]) (h' := Hp S) 2 (fun Z => rfl) ?_
      refine wp_st (pc' := 63) (L' := [some (.ref 65), some (.int a1), j2]) (st' := [.int (S 65 3), .ref 65]) (h' := Hp S) 1 (fun Z => gfI (E := E) sh65 rfl _) ?_
      refine wp_call (pc' := 66) (rest := []) (fun Z => rfl) (isO_of sh65) hw ?_
      rintro o h1 ⟨x1, S2, rfl, rfl, hw⟩
      refine ⟨_, rfl, ?_⟩
      show wp E (d + 1) m_m_happens 66 [some (.ref 65), some (.int a1), j2] [.int x1] (Hp S2) (QV Q)
      refine wp_st (pc' := 68) (L' := [some (.ref 65), some (.int a1), some (.int x1)]) (st' := [.ref 65]) (h' := Hp S2) 2 (fun Z => rfl) ?_
      refine wp_st (pc' := 71) (L' := [some (.ref 65), some (.int a1), some (.int x1)]) (st' := [.ref 77]) (h' := Hp S2) 1 (fun Z => gfR (E := E) sh65 rfl _) ?_
      refine wp_st (pc' := 78) (L' := [some (.ref 65), some (.int a1), some (.int x1)]) (st' := [.int 60, .ref 65, .int ((80 : Int32) + x1), .ref 77]) (h' := Hp S2) 5 (fun Z => rfl) ?_
      refine wp_call (pc' := 81) (rest := [.int ((80 : Int32) + x1), .ref 77]) (fun Z => rfl) (isO_of sh65) hw ?_
      rintro o h1 ⟨x3, S4, rfl, rfl, hw⟩
      refine ⟨_, rfl, ?_⟩
      show wp E (d + 1) m_m_happens 81 [some (.ref 65), some (.int a1), some (.int x1)] [.int x3, .int ((80 : Int32) + x1), .ref 77] (Hp S4) (QV Q)
      obtain ⟨m6, em, hi, hw⟩ := hw
      have hw := hw _ rfl
      refine wp_st (pc' := 82) (L' := [some (.ref 65), some (.int a1), some (.int x1)]) (st' := []) (h' := Hp (up S4 77 m6 x3)) 1 (fun Z => (congrArg (fun v => zit E 1 Z (d + 1) m_m_happens 81 [some (.ref 65), some (.int a1), some (.int x1)] [.int x3, .int v, .ref 77] (Hp S4)) em).trans (stN sh77 (by decide) hi _ _)) ?_
      generalize up S4 77 m6 x3 = S5 at hw ⊢
      exact wp_ret (fun Z => rfl) ⟨_, rfl, rfl, hw⟩
  · rw [if_neg hc] at hw
    refine wp_st (pc' := 82) (L' := [some (.ref 65), some (.int a1), j2]) (st' := []) (h' := Hp S) 1 (fun Z => if_neg hc) ?_
    exact wp_ret (fun Z => rfl) ⟨_, rfl, rfl, hw⟩
set_option maxRecDepth 4000 in
theorem w_m_draw {E : zX} {d : Nat} {S : St} {a1 : Int32} {Q : Int32 → St → Prop} 
    (hw : ∀ S1, S1 = up S 65 57 (((S 65 57) * (1103515245 : Int32)) + (12345 : Int32)) →
    ¬ a1 = 0 ∧
    Q (zrem (((S1 65 57) >>> ((16 : Int32) &&& 31)) &&& (32767 : Int32)) a1) S1) :
    k_m_draw E d S a1 Q := by
  show wp E d m_m_draw 0 [some (.ref 65), some (.int a1)] [] (Hp S) (QI Q)
  refine wp_st (pc' := 2) (L' := [some (.ref 65), some (.int a1)]) (st' := [.ref 65, .ref 65]) (h' := Hp S) 2 (fun Z => rfl) ?_
  refine wp_st (pc' := 5) (L' := [some (.ref 65), some (.int a1)]) (st' := [.int (S 65 57), .ref 65]) (h' := Hp S) 1 (fun Z => gfI (E := E) sh65 rfl _) ?_
  refine wp_st (pc' := 13) (L' := [some (.ref 65), some (.int a1)]) (st' := [.int (((S 65 57) * (1103515245 : Int32)) + (12345 : Int32)), .ref 65]) (h' := Hp S) 4 (fun Z => rfl) ?_
  have hw := hw _ rfl
  refine wp_st (pc' := 16) (L' := [some (.ref 65), some (.int a1)]) (st' := []) (h' := Hp (up S 65 57 (((S 65 57) * (1103515245 : Int32)) + (12345 : Int32)))) 1 (fun Z => pfI sh65 rfl (Nat.le_of_ble_eq_true rfl) rfl _) ?_
  generalize up S 65 57 (((S 65 57) * (1103515245 : Int32)) + (12345 : Int32)) = S1 at hw ⊢
  refine wp_st (pc' := 17) (L' := [some (.ref 65), some (.int a1)]) (st' := [.ref 65]) (h' := Hp S1) 1 (fun Z => rfl) ?_
  refine wp_st (pc' := 20) (L' := [some (.ref 65), some (.int a1)]) (st' := [.int (S1 65 57)]) (h' := Hp S1) 1 (fun Z => gfI (E := E) sh65 rfl _) ?_
  refine wp_st (pc' := 28) (L' := [some (.ref 65), some (.int a1)]) (st' := [.int a1, .int (((S1 65 57) >>> ((16 : Int32) &&& 31)) &&& (32767 : Int32))]) (h' := Hp S1) 5 (fun Z => rfl) ?_
  obtain ⟨hz, hw⟩ := hw
  refine wp_st (pc' := 29) (L' := [some (.ref 65), some (.int a1)]) (st' := [.int (zrem (((S1 65 57) >>> ((16 : Int32) &&& 31)) &&& (32767 : Int32)) a1)]) (h' := Hp S1) 1 (fun Z => if_neg hz) ?_
  exact wp_ret (fun Z => rfl) ⟨_, _, rfl, rfl, hw⟩
set_option maxRecDepth 4000 in
theorem w_m_image {E : zX} {d : Nat} {S : St}  {Q : St → Prop} (hd : 1 ≤ d) 
    (hw : ∀ S1, S1 = up S 65 0 0 →
    ∀ S2, S2 = up S1 65 58 1 →
    ∀ S3, S3 = up S2 65 59 (S2 65 42) →
    ∀ S4, S4 = up S3 65 60 (S3 65 53) →
    k_m_image_28 E d S4 0 Q) :
    k_m_image E d S Q := by
  obtain ⟨d, rfl⟩ := Nat.exists_eq_add_of_le' hd
  show wp E (d + 1) m_m_image 0 [some (.ref 65), none] [] (Hp S) (QV Q)
  refine wp_st (pc' := 2) (L' := [some (.ref 65), none]) (st' := [.int 0, .ref 65]) (h' := Hp S) 2 (fun Z => rfl) ?_
  have hw := hw _ rfl
  refine wp_st (pc' := 5) (L' := [some (.ref 65), none]) (st' := []) (h' := Hp (up S 65 0 0)) 1 (fun Z => pfI sh65 rfl (Nat.le_of_ble_eq_true rfl) rfl _) ?_
  generalize up S 65 0 0 = S1 at hw ⊢
  refine wp_st (pc' := 7) (L' := [some (.ref 65), none]) (st' := [.int 1, .ref 65]) (h' := Hp S1) 2 (fun Z => rfl) ?_
  have hw := hw _ rfl
  refine wp_st (pc' := 10) (L' := [some (.ref 65), none]) (st' := []) (h' := Hp (up S1 65 58 1)) 1 (fun Z => pfI sh65 rfl (Nat.le_of_ble_eq_true rfl) rfl _) ?_
  generalize up S1 65 58 1 = S2 at hw ⊢
  refine wp_st (pc' := 12) (L' := [some (.ref 65), none]) (st' := [.ref 65, .ref 65]) (h' := Hp S2) 2 (fun Z => rfl) ?_
  refine wp_st (pc' := 15) (L' := [some (.ref 65), none]) (st' := [.int (S2 65 42), .ref 65]) (h' := Hp S2) 1 (fun Z => gfI (E := E) sh65 rfl _) ?_
  have hw := hw _ rfl
  refine wp_st (pc' := 18) (L' := [some (.ref 65), none]) (st' := []) (h' := Hp (up S2 65 59 (S2 65 42))) 1 (fun Z => pfI sh65 rfl (Nat.le_of_ble_eq_true rfl) rfl _) ?_
  generalize up S2 65 59 (S2 65 42) = S3 at hw ⊢
  refine wp_st (pc' := 20) (L' := [some (.ref 65), none]) (st' := [.ref 65, .ref 65]) (h' := Hp S3) 2 (fun Z => rfl) ?_
  refine wp_st (pc' := 23) (L' := [some (.ref 65), none]) (st' := [.int (S3 65 53), .ref 65]) (h' := Hp S3) 1 (fun Z => gfI (E := E) sh65 rfl _) ?_
  have hw := hw _ rfl
  refine wp_st (pc' := 26) (L' := [some (.ref 65), none]) (st' := []) (h' := Hp (up S3 65 60 (S3 65 53))) 1 (fun Z => pfI sh65 rfl (Nat.le_of_ble_eq_true rfl) rfl _) ?_
  generalize up S3 65 60 (S3 65 53) = S4 at hw ⊢
  exact wp_st 2 (fun Z => rfl) (show wp E (d + 1) m_m_image 28 [some (.ref 65), some (.int 0)] [] (Hp S4) (QV Q) from hw)
set_option maxRecDepth 4000 in
theorem w_m_image_28 {E : zX} {d : Nat} {S : St} {a1 : Nat} {Q : St → Prop} (hd : 1 ≤ d) 
    (hw : if nI 79 ≤ (nI a1) then (
      k_m_copies E (d - 1) S 78 89 (fun S2 =>
      k_m_copies E (d - 1) S2 85 90 (fun S4 =>
      Q S4)))
    else (
      a1 < 158 ∧
      a1 < 79 ∧
      ∀ S5, S5 = up S 88 a1 (S 77 a1) →
      k_m_image_28 E d S5 (a1 + 1) Q)) :
    k_m_image_28 E d S a1 Q := by
  obtain ⟨d, rfl⟩ := Nat.exists_eq_add_of_le' hd
  show wp E (d + 1) m_m_image 28 [some (.ref 65), some (.int (nI a1))] [] (Hp S) (QV Q)
  refine wp_st (pc' := 31) (L' := [some (.ref 65), some (.int (nI a1))]) (st' := [.int 79, .int (nI a1)]) (h' := Hp S) 2 (fun Z => rfl) ?_
  by_cases hc : nI 79 ≤ (nI a1)
  · rw [if_pos hc] at hw
    refine wp_st (pc' := 52) (L' := [some (.ref 65), some (.int (nI a1))]) (st' := []) (h' := Hp S) 1 (fun Z => if_pos hc) ?_
    refine wp_st (pc' := 54) (L' := [some (.ref 65), some (.int (nI a1))]) (st' := [.ref 65, .ref 65]) (h' := Hp S) 2 (fun Z => rfl) ?_
    refine wp_st (pc' := 57) (L' := [some (.ref 65), some (.int (nI a1))]) (st' := [.ref 78, .ref 65]) (h' := Hp S) 1 (fun Z => gfR (E := E) sh65 rfl _) ?_
    refine wp_st (pc' := 58) (L' := [some (.ref 65), some (.int (nI a1))]) (st' := [.ref 65, .ref 78, .ref 65]) (h' := Hp S) 1 (fun Z => rfl) ?_
    refine wp_st (pc' := 61) (L' := [some (.ref 65), some (.int (nI a1))]) (st' := [.ref 89, .ref 78, .ref 65]) (h' := Hp S) 1 (fun Z => gfR (E := E) sh65 rfl _) ?_
    refine wp_call (pc' := 64) (rest := []) (fun Z => rfl) (isO_of sh65) hw ?_
    rintro o h1 ⟨S2, rfl, rfl, hw⟩
    refine ⟨_, rfl, ?_⟩
    show wp E (d + 1) m_m_image 64 [some (.ref 65), some (.int (nI a1))] [] (Hp S2) (QV Q)
    refine wp_st (pc' := 66) (L' := [some (.ref 65), some (.int (nI a1))]) (st' := [.ref 65, .ref 65]) (h' := Hp S2) 2 (fun Z => rfl) ?_
    refine wp_st (pc' := 69) (L' := [some (.ref 65), some (.int (nI a1))]) (st' := [.ref 85, .ref 65]) (h' := Hp S2) 1 (fun Z => gfR (E := E) sh65 rfl _) ?_
    refine wp_st (pc' := 70) (L' := [some (.ref 65), some (.int (nI a1))]) (st' := [.ref 65, .ref 85, .ref 65]) (h' := Hp S2) 1 (fun Z => rfl) ?_
    refine wp_st (pc' := 73) (L' := [some (.ref 65), some (.int (nI a1))]) (st' := [.ref 90, .ref 85, .ref 65]) (h' := Hp S2) 1 (fun Z => gfR (E := E) sh65 rfl _) ?_
    refine wp_call (pc' := 76) (rest := []) (fun Z => rfl) (isO_of sh65) hw ?_
    rintro o h1 ⟨S4, rfl, rfl, hw⟩
    refine ⟨_, rfl, ?_⟩
    show wp E (d + 1) m_m_image 76 [some (.ref 65), some (.int (nI a1))] [] (Hp S4) (QV Q)
    exact wp_ret (fun Z => rfl) ⟨_, rfl, rfl, hw⟩
  · rw [if_neg hc] at hw
    refine wp_st (pc' := 34) (L' := [some (.ref 65), some (.int (nI a1))]) (st' := []) (h' := Hp S) 1 (fun Z => if_neg hc) ?_
    refine wp_st (pc' := 35) (L' := [some (.ref 65), some (.int (nI a1))]) (st' := [.ref 65]) (h' := Hp S) 1 (fun Z => rfl) ?_
    refine wp_st (pc' := 38) (L' := [some (.ref 65), some (.int (nI a1))]) (st' := [.ref 88]) (h' := Hp S) 1 (fun Z => gfR (E := E) sh65 rfl _) ?_
    refine wp_st (pc' := 40) (L' := [some (.ref 65), some (.int (nI a1))]) (st' := [.ref 65, .int (nI a1), .ref 88]) (h' := Hp S) 2 (fun Z => rfl) ?_
    refine wp_st (pc' := 43) (L' := [some (.ref 65), some (.int (nI a1))]) (st' := [.ref 77, .int (nI a1), .ref 88]) (h' := Hp S) 1 (fun Z => gfR (E := E) sh65 rfl _) ?_
    refine wp_st (pc' := 44) (L' := [some (.ref 65), some (.int (nI a1))]) (st' := [.int (nI a1), .ref 77, .int (nI a1), .ref 88]) (h' := Hp S) 1 (fun Z => rfl) ?_
    obtain ⟨hi, hw⟩ := hw
    refine wp_st (pc' := 45) (L' := [some (.ref 65), some (.int (nI a1))]) (st' := [.int (S 77 a1), .int (nI a1), .ref 88]) (h' := Hp S) 1 (fun Z => ldN (E := E) sh77 (by decide) hi [.int (nI a1), .ref 88] (fun st => Z (d + 1) m_m_image 45 [some (.ref 65), some (.int (nI a1))] st (Hp S))) ?_
    obtain ⟨hi, hw⟩ := hw
    have hw := hw _ rfl
    refine wp_st (pc' := 46) (L' := [some (.ref 65), some (.int (nI a1))]) (st' := []) (h' := Hp (up S 88 a1 (S 77 a1))) 1 (fun Z => stN sh88 (by decide) hi _ _) ?_
    generalize up S 88 a1 (S 77 a1) = S5 at hw ⊢
    refine wp_st (pc' := 49) (L' := [some (.ref 65), some (.int (nI (a1 + 1)))]) (st' := []) (h' := Hp S5) 1 (fun Z => by rw [← nI_add a1 1]; rfl) ?_
    exact wp_st 1 (fun Z => rfl) (show wp E (d + 1) m_m_image 28 [some (.ref 65), some (.int (nI (a1 + 1)))] [] (Hp S5) (QV Q) from hw)
