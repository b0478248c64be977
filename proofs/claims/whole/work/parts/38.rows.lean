set_option maxRecDepth 4000 in
theorem w_m_thrown {E : zX} {d : Nat} {S : St}  {Q : Int32 → St → Prop} 
    (hw : Q (S 65 0) S) :
    k_m_thrown E d S Q := by
  show wp E d m_m_thrown 0 [some (.ref 65)] [] (Hp S) (QI Q)
  refine wp_st (pc' := 1) (L' := [some (.ref 65)]) (st' := [.ref 65]) (h' := Hp S) 1 (fun Z => rfl) ?_
  refine wp_st (pc' := 4) (L' := [some (.ref 65)]) (st' := [.int (S 65 0)]) (h' := Hp S) 1 (fun Z => gfI (E := E) sh65 rfl _) ?_
  exact wp_ret (fun Z => rfl) ⟨_, _, rfl, rfl, hw⟩
set_option maxRecDepth 4000 in
theorem w_m_lays {E : zX} {d : Nat} {S : St} {a1 : Int32} {Q : St → Prop} 
    (hw : k_m_lays_3 E d S a1 24 Q) :
    k_m_lays E d S a1 Q := by
  show wp E d m_m_lays 0 [some (.ref 65), some (.int a1), none] [] (Hp S) (QV Q)
  exact wp_st 2 (fun Z => rfl) (show wp E d m_m_lays 3 [some (.ref 65), some (.int a1), some (.int 24)] [] (Hp S) (QV Q) from hw)
set_option maxRecDepth 4000 in
theorem w_m_lays_3 {E : zX} {d : Nat} {S : St} {a1 : Int32} {a2 : Int32} {Q : St → Prop} 
    (hw : if a2 < 0 then (
      Q S)
    else (
      ∃ m2 : Nat, (S 65 11) = nI m2 ∧ m2 < 700 ∧
      ∀ S1, S1 = up S 69 m2 ((a1 >>> (a2 &&& 31)) &&& (255 : Int32)) →
      ∀ S3, S3 = up S1 65 11 ((S1 65 11) + (1 : Int32)) →
      k_m_lays_3 E d S3 a1 (a2 + (-8)) Q)) :
    k_m_lays_3 E d S a1 a2 Q := by
  show wp E d m_m_lays 3 [some (.ref 65), some (.int a1), some (.int a2)] [] (Hp S) (QV Q)
  refine wp_st (pc' := 4) (L' := [some (.ref 65), some (.int a1), some (.int a2)]) (st' := [.int a2]) (h' := Hp S) 1 (fun Z => rfl) ?_
  by_cases hc : a2 < 0
  · rw [if_pos hc] at hw
    refine wp_st (pc' := 39) (L' := [some (.ref 65), some (.int a1), some (.int a2)]) (st' := []) (h' := Hp S) 1 (fun Z => if_pos hc) ?_
    exact wp_ret (fun Z => rfl) ⟨_, rfl, rfl, hw⟩
  · rw [if_neg hc] at hw
    refine wp_st (pc' := 7) (L' := [some (.ref 65), some (.int a1), some (.int a2)]) (st' := []) (h' := Hp S) 1 (fun Z => if_neg hc) ?_
    refine wp_st (pc' := 8) (L' := [some (.ref 65), some (.int a1), some (.int a2)]) (st' := [.ref 65]) (h' := Hp S) 1 (fun Z => rfl) ?_
    refine wp_st (pc' := 11) (L' := [some (.ref 65), some (.int a1), some (.int a2)]) (st' := [.ref 69]) (h' := Hp S) 1 (fun Z => gfR (E := E) sh65 rfl _) ?_
    refine wp_st (pc' := 12) (L' := [some (.ref 65), some (.int a1), some (.int a2)]) (st' := [.ref 65, .ref 69]) (h' := Hp S) 1 (fun Z => rfl) ?_
    refine wp_st (pc' := 15) (L' := [some (.ref 65), some (.int a1), some (.int a2)]) (st' := [.int (S 65 11), .ref 69]) (h' := Hp S) 1 (fun Z => gfI (E := E) sh65 rfl _) ?_
    refine wp_st (pc' := 22) (L' := [some (.ref 65), some (.int a1), some (.int a2)]) (st' := [.int ((a1 >>> (a2 &&& 31)) &&& (255 : Int32)), .int (S 65 11), .ref 69]) (h' := Hp S) 5 (fun Z => rfl) ?_
    obtain ⟨m2, em, hi, hw⟩ := hw
    have hw := hw _ rfl
    refine wp_st (pc' := 23) (L' := [some (.ref 65), some (.int a1), some (.int a2)]) (st' := []) (h' := Hp (up S 69 m2 ((a1 >>> (a2 &&& 31)) &&& (255 : Int32)))) 1 (fun Z => (congrArg (fun v => zit E 1 Z d m_m_lays 22 [some (.ref 65), some (.int a1), some (.int a2)] [.int ((a1 >>> (a2 &&& 31)) &&& (255 : Int32)), .int v, .ref 69] (Hp S)) em).trans (stN sh69 (by decide) hi _ _)) ?_
    generalize up S 69 m2 ((a1 >>> (a2 &&& 31)) &&& (255 : Int32)) = S1 at hw ⊢
    refine wp_st (pc' := 25) (L' := [some (.ref 65), some (.int a1), some (.int a2)]) (st' := [.ref 65, .ref 65]) (h' := Hp S1) 2 (fun Z => rfl) ?_
    refine wp_st (pc' := 28) (L' := [some (.ref 65), some (.int a1), some (.int a2)]) (st' := [.int (S1 65 11), .ref 65]) (h' := Hp S1) 1 (fun Z => gfI (E := E) sh65 rfl _) ?_
    refine wp_st (pc' := 30) (L' := [some (.ref 65), some (.int a1), some (.int a2)]) (st' := [.int ((S1 65 11) + (1 : Int32)), .ref 65]) (h' := Hp S1) 2 (fun Z => rfl) ?_
    have hw := hw _ rfl
    refine wp_st (pc' := 33) (L' := [some (.ref 65), some (.int a1), some (.int a2)]) (st' := []) (h' := Hp (up S1 65 11 ((S1 65 11) + (1 : Int32)))) 1 (fun Z => pfI sh65 rfl (Nat.le_of_ble_eq_true rfl) rfl _) ?_
    generalize up S1 65 11 ((S1 65 11) + (1 : Int32)) = S3 at hw ⊢
    refine wp_st (pc' := 36) (L' := [some (.ref 65), some (.int a1), some (.int (a2 + (-8)))]) (st' := []) (h' := Hp S3) 1 (fun Z => congrArg (fun v => Z d m_m_lays 36 [some (.ref 65), some (.int a1), some (.int (a2 + v))] [] (Hp S3)) (show Int32.ofInt (-8) = (-8) by decide)) ?_
    exact wp_st 1 (fun Z => rfl) (show wp E d m_m_lays 3 [some (.ref 65), some (.int a1), some (.int (a2 + (-8)))] [] (Hp S3) (QV Q) from hw)
set_option maxRecDepth 4000 in
theorem w_m_right {E : zX} {d : Nat} {S : St} {a1 : Int32} {a2 : Int32} {Q : Int32 → St → Prop} 
    (hw : if (S 65 0) = 0 then (
      if a1 = 0 then (
        ∀ S1, S1 = up S 65 0 a2 →
        if (S1 65 0) = 0 then (
          Q (1 : Int32) S1)
        else (
          Q (0 : Int32) S1))
      else (
        if (S 65 0) = 0 then (
          Q (1 : Int32) S)
        else (
          Q (0 : Int32) S)))
    else (
      if (S 65 0) = 0 then (
        Q (1 : Int32) S)
      else (
        Q (0 : Int32) S))) :
    k_m_right E d S a1 a2 Q := by
  show wp E d m_m_right 0 [some (.ref 65), some (.int a1), some (.int a2)] [] (Hp S) (QI Q)
  refine wp_st (pc' := 1) (L' := [some (.ref 65), some (.int a1), some (.int a2)]) (st' := [.ref 65]) (h' := Hp S) 1 (fun Z => rfl) ?_
  refine wp_st (pc' := 4) (L' := [some (.ref 65), some (.int a1), some (.int a2)]) (st' := [.int (S 65 0)]) (h' := Hp S) 1 (fun Z => gfI (E := E) sh65 rfl _) ?_
  by_cases hc : (S 65 0) = 0
  · rw [if_pos hc] at hw
    refine wp_st (pc' := 7) (L' := [some (.ref 65), some (.int a1), some (.int a2)]) (st' := []) (h' := Hp S) 1 (fun Z => if_pos hc) ?_
    refine wp_st (pc' := 8) (L' := [some (.ref 65), some (.int a1), some (.int a2)]) (st' := [.int a1]) (h' := Hp S) 1 (fun Z => rfl) ?_
    by_cases hc : a1 = 0
    · rw [if_pos hc] at hw
      refine wp_st (pc' := 11) (L' := [some (.ref 65), some (.int a1), some (.int a2)]) (st' := []) (h' := Hp S) 1 (fun Z => if_pos hc) ?_
      refine wp_st (pc' := 13) (L' := [some (.ref 65), some (.int a1), some (.int a2)]) (st' := [.int a2, .ref 65]) (h' := Hp S) 2 (fun Z => rfl) ?_
      have hw := hw _ rfl
      refine wp_st (pc' := 16) (L' := [some (.ref 65), some (.int a1), some (.int a2)]) (st' := []) (h' := Hp (up S 65 0 a2)) 1 (fun Z => pfI sh65 rfl (Nat.le_of_ble_eq_true rfl) rfl _) ?_
      generalize up S 65 0 a2 = S1 at hw ⊢
      refine wp_st (pc' := 17) (L' := [some (.ref 65), some (.int a1), some (.int a2)]) (st' := [.ref 65]) (h' := Hp S1) 1 (fun Z => rfl) ?_
      refine wp_st (pc' := 20) (L' := [some (.ref 65), some (.int a1), some (.int a2)]) (st' := [.int (S1 65 0)]) (h' := Hp S1) 1 (fun Z => gfI (E := E) sh65 rfl _) ?_
      by_cases hc : (S1 65 0) = 0
      · rw [if_pos hc] at hw
        refine wp_st (pc' := 23) (L' := [some (.ref 65), some (.int a1), some (.int a2)]) (st' := []) (h' := Hp S1) 1 (fun Z => if_pos hc) ?_
        refine wp_st (pc' := 28) (L' := [some (.ref 65), some (.int a1), some (.int a2)]) (st' := [.int 1]) (h' := Hp S1) 2 (fun Z => rfl) ?_
        exact wp_ret (fun Z => rfl) ⟨_, _, rfl, rfl, hw⟩
      · rw [if_neg hc] at hw
        refine wp_st (pc' := 27) (L' := [some (.ref 65), some (.int a1), some (.int a2)]) (st' := []) (h' := Hp S1) 1 (fun Z => if_neg hc) ?_
        refine wp_st (pc' := 28) (L' := [some (.ref 65), some (.int a1), some (.int a2)]) (st' := [.int 0]) (h' := Hp S1) 1 (fun Z => rfl) ?_
        exact wp_ret (fun Z => rfl) ⟨_, _, rfl, rfl, hw⟩
    · rw [if_neg hc] at hw
      refine wp_st (pc' := 16) (L' := [some (.ref 65), some (.int a1), some (.int a2)]) (st' := []) (h' := Hp S) 1 (fun Z => if_neg hc) ?_
      refine wp_st (pc' := 17) (L' := [some (.ref 65), some (.int a1), some (.int a2)]) (st' := [.ref 65]) (h' := Hp S) 1 (fun Z => rfl) ?_
      refine wp_st (pc' := 20) (L' := [some (.ref 65), some (.int a1), some (.int a2)]) (st' := [.int (S 65 0)]) (h' := Hp S) 1 (fun Z => gfI (E := E) sh65 rfl _) ?_
      by_cases hc : (S 65 0) = 0
      · rw [if_pos hc] at hw
        refine wp_st (pc' := 23) (L' := [some (.ref 65), some (.int a1), some (.int a2)]) (st' := []) (h' := Hp S) 1 (fun Z => if_pos hc) ?_
        refine wp_st (pc' := 28) (L' := [some (.ref 65), some (.int a1), some (.int a2)]) (st' := [.int 1]) (h' := Hp S) 2 (fun Z => rfl) ?_
        exact wp_ret (fun Z => rfl) ⟨_, _, rfl, rfl, hw⟩
      · rw [if_neg hc] at hw
        refine wp_st (pc' := 27) (L' := [some (.ref 65), some (.int a1), some (.int a2)]) (st' := []) (h' := Hp S) 1 (fun Z => if_neg hc) ?_
        refine wp_st (pc' := 28) (L' := [some (.ref 65), some (.int a1), some (.int a2)]) (st' := [.int 0]) (h' := Hp S) 1 (fun Z => rfl) ?_
        exact wp_ret (fun Z => rfl) ⟨_, _, rfl, rfl, hw⟩
  · rw [if_neg hc] at hw
    refine wp_st (pc' := 16) (L' := [some (.ref 65), some (.int a1), some (.int a2)]) (st' := []) (h' := Hp S) 1 (fun Z => if_neg hc) ?_
    refine wp_st (pc' := 17) (L' := [some (.ref 65), some (.int a1), some (.int a2)]) (st' := [.ref 65]) (h' := Hp S) 1 (fun Z => rfl) ?_
    refine wp_st (pc' := 20) (L' := [some (.ref 65), some (.int a1), some (.int a2)]) (st' := [.int (S 65 0)]) (h' := Hp S) 1 (fun Z => gfI (E := E) sh65 rfl _) ?_
    by_cases hc : (S 65 0) = 0
    · rw [if_pos hc] at hw
      refine wp_st (pc' := 23) (L' := [some (.ref 65), some (.int a1), some (.int a2)]) (st' := []) (h' := Hp S) 1 (fun Z => if_pos hc) ?_
      refine wp_st (pc' := 28) (L' := [some (.ref 65), some (.int a1), some (.int a2)]) (st' := [.int 1]) (h' := Hp S) 2 (fun Z => rfl) ?_
      exact wp_ret (fun Z => rfl) ⟨_, _, rfl, rfl, hw⟩
    · rw [if_neg hc] at hw
      refine wp_st (pc' := 27) (L' := [some (.ref 65), some (.int a1), some (.int a2)]) (st' := []) (h' := Hp S) 1 (fun Z => if_neg hc) ?_
      refine wp_st (pc' := 28) (L' := [some (.ref 65), some (.int a1), some (.int a2)]) (st' := [.int 0]) (h' := Hp S) 1 (fun Z => rfl) ?_
      exact wp_ret (fun Z => rfl) ⟨_, _, rfl, rfl, hw⟩
set_option maxRecDepth 4000 in
theorem w_m_letters {E : zX} {d : Nat} {S : St} {a0 : Int32} {Q : Int64 → St → Prop} (hd : 1 ≤ d) 
    (hw : if a0 = 0 then (
      k_m_spelled E (d - 1) S 109 105 108 100 0 0 (fun l1 S2 =>
      Q l1 S2))
    else if a0 = 1 then (
      k_m_spelled E (d - 1) S 116 101 109 112 101 114 (fun l3 S4 =>
      Q l3 S4))
    else if a0 = 2 then (
      k_m_spelled E (d - 1) S 115 104 111 117 116 115 (fun l5 S6 =>
      Q l5 S6))
    else if a0 = 3 then (
      k_m_spelled E (d - 1) S 104 101 97 114 100 0 (fun l7 S8 =>
      Q l7 S8))
    else if a0 = 4 then (
      k_m_spelled E (d - 1) S 100 97 121 0 0 0 (fun l9 S10 =>
      Q l9 S10))
    else if a0 = 5 then (
      k_m_spelled E (d - 1) S 104 111 108 100 115 0 (fun l11 S12 =>
      Q l11 S12))
    else if a0 = 6 then (
      k_m_spelled E (d - 1) S 115 105 122 101 0 0 (fun l13 S14 =>
      Q l13 S14))
    else if a0 = 7 then (
      k_m_spelled E (d - 1) S 97 103 101 0 0 0 (fun l15 S16 =>
      Q l15 S16))
    else if a0 = 8 then (
      k_m_spelled E (d - 1) S 110 101 97 114 0 0 (fun l17 S18 =>
      Q l17 S18))
    else if a0 = 9 then (
      k_m_spelled E (d - 1) S 100 111 119 110 115 0 (fun l19 S20 =>
      Q l19 S20))
    else if a0 = 10 then (
      k_m_spelled E (d - 1) S 112 101 114 115 111 110 (fun l21 S22 =>
      Q l21 S22))
    else if a0 = 11 then (
      k_m_spelled E (d - 1) S 98 97 108 108 0 0 (fun l23 S24 =>
      Q l23 S24))
    else if a0 = 12 then (
      k_m_spelled E (d - 1) S 114 105 115 101 115 0 (fun l25 S26 =>
      Q l25 S26))
    else if a0 = 13 then (
      k_m_spelled E (d - 1) S 98 117 114 115 116 115 (fun l27 S28 =>
      Q l27 S28))
    else if a0 = 14 then (
      k_m_spelled E (d - 1) S 97 110 100 0 0 0 (fun l29 S30 =>
      Q l29 S30))
    else if a0 = 15 then (
      k_m_spelled E (d - 1) S 111 114 0 0 0 0 (fun l31 S32 =>
      Q l31 S32))
    else (
      k_m_spelled E (d - 1) S 110 111 116 0 0 0 (fun l33 S34 =>
    Q l33 S34))) :
    k_m_letters E d S a0 Q := by
  obtain ⟨d, rfl⟩ := Nat.exists_eq_add_of_le' hd
  show wp E (d + 1) m_m_letters 0 [some (.int a0)] [] (Hp S) (QJ Q)
  refine wp_st (pc' := 1) (L' := [some (.int a0)]) (st' := [.int a0]) (h' := Hp S) 1 (fun Z => rfl) ?_
  by_cases c0 : a0 = 0
  · rw [if_pos c0] at hw
    refine wp_st (pc' := 80) (L' := [some (.int a0)]) (st' := []) (h' := Hp S) 1 (fun Z => (show zsw (.tableswitch 310 0 15 #[79, 93, 109, 125, 140, 153, 168, 182, 195, 209, 224, 240, 254, 269, 285, 298]) 1 (.int a0 :: []) (fun t st1 => Z (d + 1) m_m_letters t [some (.int a0)] st1 (Hp S)) = _ from zsw_at (c := 0) (by rw [c0]; decide) (by decide) rfl rfl)) ?_
    refine wp_st (pc' := 90) (L' := [some (.int a0)]) (st' := [.int 0, .int 0, .int 100, .int 108, .int 105, .int 109]) (h' := Hp S) 6 (fun Z => rfl) ?_
    refine wp_call (pc' := 93) (rest := []) (fun Z => rfl) rfl hw ?_
    rintro o h1 ⟨l1, S2, rfl, rfl, hw⟩
    refine ⟨_, rfl, ?_⟩
    show wp E (d + 1) m_m_letters 93 [some (.int a0)] [.long l1] (Hp S2) (QJ Q)
    exact wp_ret (fun Z => rfl) ⟨_, _, rfl, rfl, hw⟩
  rw [if_neg c0] at hw
  by_cases c1 : a0 = 1
  · rw [if_pos c1] at hw
    refine wp_st (pc' := 94) (L' := [some (.int a0)]) (st' := []) (h' := Hp S) 1 (fun Z => (show zsw (.tableswitch 310 0 15 #[79, 93, 109, 125, 140, 153, 168, 182, 195, 209, 224, 240, 254, 269, 285, 298]) 1 (.int a0 :: []) (fun t st1 => Z (d + 1) m_m_letters t [some (.int a0)] st1 (Hp S)) = _ from zsw_at (c := 1) (by rw [c1]; decide) (by decide) rfl rfl)) ?_
    refine wp_st (pc' := 106) (L' := [some (.int a0)]) (st' := [.int 114, .int 101, .int 112, .int 109, .int 101, .int 116]) (h' := Hp S) 6 (fun Z => rfl) ?_
    refine wp_call (pc' := 109) (rest := []) (fun Z => rfl) rfl hw ?_
    rintro o h1 ⟨l3, S4, rfl, rfl, hw⟩
    refine ⟨_, rfl, ?_⟩
    show wp E (d + 1) m_m_letters 109 [some (.int a0)] [.long l3] (Hp S4) (QJ Q)
    exact wp_ret (fun Z => rfl) ⟨_, _, rfl, rfl, hw⟩
  rw [if_neg c1] at hw
  by_cases c2 : a0 = 2
  · rw [if_pos c2] at hw
    refine wp_st (pc' := 110) (L' := [some (.int a0)]) (st' := []) (h' := Hp S) 1 (fun Z => (show zsw (.tableswitch 310 0 15 #[79, 93, 109, 125, 140, 153, 168, 182, 195, 209, 224, 240, 254, 269, 285, 298]) 1 (.int a0 :: []) (fun t st1 => Z (d + 1) m_m_letters t [some (.int a0)] st1 (Hp S)) = _ from zsw_at (c := 2) (by rw [c2]; decide) (by decide) rfl rfl)) ?_
    refine wp_st (pc' := 122) (L' := [some (.int a0)]) (st' := [.int 115, .int 116, .int 117, .int 111, .int 104, .int 115]) (h' := Hp S) 6 (fun Z => rfl) ?_
    refine wp_call (pc' := 125) (rest := []) (fun Z => rfl) rfl hw ?_
    rintro o h1 ⟨l5, S6, rfl, rfl, hw⟩
    refine ⟨_, rfl, ?_⟩
    show wp E (d + 1) m_m_letters 125 [some (.int a0)] [.long l5] (Hp S6) (QJ Q)
    exact wp_ret (fun Z => rfl) ⟨_, _, rfl, rfl, hw⟩
  rw [if_neg c2] at hw
  by_cases c3 : a0 = 3
  · rw [if_pos c3] at hw
    refine wp_st (pc' := 126) (L' := [some (.int a0)]) (st' := []) (h' := Hp S) 1 (fun Z => (show zsw (.tableswitch 310 0 15 #[79, 93, 109, 125, 140, 153, 168, 182, 195, 209, 224, 240, 254, 269, 285, 298]) 1 (.int a0 :: []) (fun t st1 => Z (d + 1) m_m_letters t [some (.int a0)] st1 (Hp S)) = _ from zsw_at (c := 3) (by rw [c3]; decide) (by decide) rfl rfl)) ?_
    refine wp_st (pc' := 137) (L' := [some (.int a0)]) (st' := [.int 0, .int 100, .int 114, .int 97, .int 101, .int 104]) (h' := Hp S) 6 (fun Z => rfl) ?_
    refine wp_call (pc' := 140) (rest := []) (fun Z => rfl) rfl hw ?_
    rintro o h1 ⟨l7, S8, rfl, rfl, hw⟩
    refine ⟨_, rfl, ?_⟩
    show wp E (d + 1) m_m_letters 140 [some (.int a0)] [.long l7] (Hp S8) (QJ Q)
    exact wp_ret (fun Z => rfl) ⟨_, _, rfl, rfl, hw⟩
  rw [if_neg c3] at hw
  by_cases c4 : a0 = 4
  · rw [if_pos c4] at hw
    refine wp_st (pc' := 141) (L' := [some (.int a0)]) (st' := []) (h' := Hp S) 1 (fun Z => (show zsw (.tableswitch 310 0 15 #[79, 93, 109, 125, 140, 153, 168, 182, 195, 209, 224, 240, 254, 269, 285, 298]) 1 (.int a0 :: []) (fun t st1 => Z (d + 1) m_m_letters t [some (.int a0)] st1 (Hp S)) = _ from zsw_at (c := 4) (by rw [c4]; decide) (by decide) rfl rfl)) ?_
    refine wp_st (pc' := 150) (L' := [some (.int a0)]) (st' := [.int 0, .int 0, .int 0, .int 121, .int 97, .int 100]) (h' := Hp S) 6 (fun Z => rfl) ?_
    refine wp_call (pc' := 153) (rest := []) (fun Z => rfl) rfl hw ?_
    rintro o h1 ⟨l9, S10, rfl, rfl, hw⟩
    refine ⟨_, rfl, ?_⟩
    show wp E (d + 1) m_m_letters 153 [some (.int a0)] [.long l9] (Hp S10) (QJ Q)
    exact wp_ret (fun Z => rfl) ⟨_, _, rfl, rfl, hw⟩
  rw [if_neg c4] at hw
  by_cases c5 : a0 = 5
  · rw [if_pos c5] at hw
    refine wp_st (pc' := 154) (L' := [some (.int a0)]) (st' := []) (h' := Hp S) 1 (fun Z => (show zsw (.tableswitch 310 0 15 #[79, 93, 109, 125, 140, 153, 168, 182, 195, 209, 224, 240, 254, 269, 285, 298]) 1 (.int a0 :: []) (fun t st1 => Z (d + 1) m_m_letters t [some (.int a0)] st1 (Hp S)) = _ from zsw_at (c := 5) (by rw [c5]; decide) (by decide) rfl rfl)) ?_
    refine wp_st (pc' := 165) (L' := [some (.int a0)]) (st' := [.int 0, .int 115, .int 100, .int 108, .int 111, .int 104]) (h' := Hp S) 6 (fun Z => rfl) ?_
    refine wp_call (pc' := 168) (rest := []) (fun Z => rfl) rfl hw ?_
    rintro o h1 ⟨l11, S12, rfl, rfl, hw⟩
    refine ⟨_, rfl, ?_⟩
    show wp E (d + 1) m_m_letters 168 [some (.int a0)] [.long l11] (Hp S12) (QJ Q)
    exact wp_ret (fun Z => rfl) ⟨_, _, rfl, rfl, hw⟩
  rw [if_neg c5] at hw
  by_cases c6 : a0 = 6
  · rw [if_pos c6] at hw
    refine wp_st (pc' := 169) (L' := [some (.int a0)]) (st' := []) (h' := Hp S) 1 (fun Z => (show zsw (.tableswitch 310 0 15 #[79, 93, 109, 125, 140, 153, 168, 182, 195, 209, 224, 240, 254, 269, 285, 298]) 1 (.int a0 :: []) (fun t st1 => Z (d + 1) m_m_letters t [some (.int a0)] st1 (Hp S)) = _ from zsw_at (c := 6) (by rw [c6]; decide) (by decide) rfl rfl)) ?_
    refine wp_st (pc' := 179) (L' := [some (.int a0)]) (st' := [.int 0, .int 0, .int 101, .int 122, .int 105, .int 115]) (h' := Hp S) 6 (fun Z => rfl) ?_
    refine wp_call (pc' := 182) (rest := []) (fun Z => rfl) rfl hw ?_
    rintro o h1 ⟨l13, S14, rfl, rfl, hw⟩
    refine ⟨_, rfl, ?_⟩
    show wp E (d + 1) m_m_letters 182 [some (.int a0)] [.long l13] (Hp S14) (QJ Q)
    exact wp_ret (fun Z => rfl) ⟨_, _, rfl, rfl, hw⟩
  rw [if_neg c6] at hw
  by_cases c7 : a0 = 7
  · rw [if_pos c7] at hw
    refine wp_st (pc' := 183) (L' := [some (.int a0)]) (st' := []) (h' := Hp S) 1 (fun Z => (show zsw (.tableswitch 310 0 15 #[79, 93, 109, 125, 140, 153, 168, 182, 195, 209, 224, 240, 254, 269, 285, 298]) 1 (.int a0 :: []) (fun t st1 => Z (d + 1) m_m_letters t [some (.int a0)] st1 (Hp S)) = _ from zsw_at (c := 7) (by rw [c7]; decide) (by decide) rfl rfl)) ?_
    refine wp_st (pc' := 192) (L' := [some (.int a0)]) (st' := [.int 0, .int 0, .int 0, .int 101, .int 103, .int 97]) (h' := Hp S) 6 (fun Z => rfl) ?_
    refine wp_call (pc' := 195) (rest := []) (fun Z => rfl) rfl hw ?_
    rintro o h1 ⟨l15, S16, rfl, rfl, hw⟩
    refine ⟨_, rfl, ?_⟩
    show wp E (d + 1) m_m_letters 195 [some (.int a0)] [.long l15] (Hp S16) (QJ Q)
    exact wp_ret (fun Z => rfl) ⟨_, _, rfl, rfl, hw⟩
  rw [if_neg c7] at hw
  by_cases c8 : a0 = 8
  · rw [if_pos c8] at hw
    refine wp_st (pc' := 196) (L' := [some (.int a0)]) (st' := []) (h' := Hp S) 1 (fun Z => (show zsw (.tableswitch 310 0 15 #[79, 93, 109, 125, 140, 153, 168, 182, 195, 209, 224, 240, 254, 269, 285, 298]) 1 (.int a0 :: []) (fun t st1 => Z (d + 1) m_m_letters t [some (.int a0)] st1 (Hp S)) = _ from zsw_at (c := 8) (by rw [c8]; decide) (by decide) rfl rfl)) ?_
    refine wp_st (pc' := 206) (L' := [some (.int a0)]) (st' := [.int 0, .int 0, .int 114, .int 97, .int 101, .int 110]) (h' := Hp S) 6 (fun Z => rfl) ?_
    refine wp_call (pc' := 209) (rest := []) (fun Z => rfl) rfl hw ?_
    rintro o h1 ⟨l17, S18, rfl, rfl, hw⟩
    refine ⟨_, rfl, ?_⟩
    show wp E (d + 1) m_m_letters 209 [some (.int a0)] [.long l17] (Hp S18) (QJ Q)
    exact wp_ret (fun Z => rfl) ⟨_, _, rfl, rfl, hw⟩
  rw [if_neg c8] at hw
  by_cases c9 : a0 = 9
  · rw [if_pos c9] at hw
    refine wp_st (pc' := 210) (L' := [some (.int a0)]) (st' := []) (h' := Hp S) 1 (fun Z => (show zsw (.tableswitch 310 0 15 #[79, 93, 109, 125, 140, 153, 168, 182, 195, 209, 224, 240, 254, 269, 285, 298]) 1 (.int a0 :: []) (fun t st1 => Z (d + 1) m_m_letters t [some (.int a0)] st1 (Hp S)) = _ from zsw_at (c := 9) (by rw [c9]; decide) (by decide) rfl rfl)) ?_
    refine wp_st (pc' := 221) (L' := [some (.int a0)]) (st' := [.int 0, .int 115, .int 110, .int 119, .int 111, .int 100]) (h' := Hp S) 6 (fun Z => rfl) ?_
    refine wp_call (pc' := 224) (rest := []) (fun Z => rfl) rfl hw ?_
    rintro o h1 ⟨l19, S20, rfl, rfl, hw⟩
    refine ⟨_, rfl, ?_⟩
    show wp E (d + 1) m_m_letters 224 [some (.int a0)] [.long l19] (Hp S20) (QJ Q)
    exact wp_ret (fun Z => rfl) ⟨_, _, rfl, rfl, hw⟩
  rw [if_neg c9] at hw
  by_cases c10 : a0 = 10
  · rw [if_pos c10] at hw
    refine wp_st (pc' := 225) (L' := [some (.int a0)]) (st' := []) (h' := Hp S) 1 (fun Z => (show zsw (.tableswitch 310 0 15 #[79, 93, 109, 125, 140, 153, 168, 182, 195, 209, 224, 240, 254, 269, 285, 298]) 1 (.int a0 :: []) (fun t st1 => Z (d + 1) m_m_letters t [some (.int a0)] st1 (Hp S)) = _ from zsw_at (c := 10) (by rw [c10]; decide) (by decide) rfl rfl)) ?_
    refine wp_st (pc' := 237) (L' := [some (.int a0)]) (st' := [.int 110, .int 111, .int 115, .int 114, .int 101, .int 112]) (h' := Hp S) 6 (fun Z => rfl) ?_
    refine wp_call (pc' := 240) (rest := []) (fun Z => rfl) rfl hw ?_
    rintro o h1 ⟨l21, S22, rfl, rfl, hw⟩
    refine ⟨_, rfl, ?_⟩
    show wp E (d + 1) m_m_letters 240 [some (.int a0)] [.long l21] (Hp S22) (QJ Q)
    exact wp_ret (fun Z => rfl) ⟨_, _, rfl, rfl, hw⟩
  rw [if_neg c10] at hw
  by_cases c11 : a0 = 11
  · rw [if_pos c11] at hw
    refine wp_st (pc' := 241) (L' := [some (.int a0)]) (st' := []) (h' := Hp S) 1 (fun Z => (show zsw (.tableswitch 310 0 15 #[79, 93, 109, 125, 140, 153, 168, 182, 195, 209, 224, 240, 254, 269, 285, 298]) 1 (.int a0 :: []) (fun t st1 => Z (d + 1) m_m_letters t [some (.int a0)] st1 (Hp S)) = _ from zsw_at (c := 11) (by rw [c11]; decide) (by decide) rfl rfl)) ?_
    refine wp_st (pc' := 251) (L' := [some (.int a0)]) (st' := [.int 0, .int 0, .int 108, .int 108, .int 97, .int 98]) (h' := Hp S) 6 (fun Z => rfl) ?_
    refine wp_call (pc' := 254) (rest := []) (fun Z => rfl) rfl hw ?_
    rintro o h1 ⟨l23, S24, rfl, rfl, hw⟩
    refine ⟨_, rfl, ?_⟩
    show wp E (d + 1) m_m_letters 254 [some (.int a0)] [.long l23] (Hp S24) (QJ Q)
    exact wp_ret (fun Z => rfl) ⟨_, _, rfl, rfl, hw⟩
  rw [if_neg c11] at hw
  by_cases c12 : a0 = 12
  · rw [if_pos c12] at hw
    refine wp_st (pc' := 255) (L' := [some (.int a0)]) (st' := []) (h' := Hp S) 1 (fun Z => (show zsw (.tableswitch 310 0 15 #[79, 93, 109, 125, 140, 153, 168, 182, 195, 209, 224, 240, 254, 269, 285, 298]) 1 (.int a0 :: []) (fun t st1 => Z (d + 1) m_m_letters t [some (.int a0)] st1 (Hp S)) = _ from zsw_at (c := 12) (by rw [c12]; decide) (by decide) rfl rfl)) ?_
    refine wp_st (pc' := 266) (L' := [some (.int a0)]) (st' := [.int 0, .int 115, .int 101, .int 115, .int 105, .int 114]) (h' := Hp S) 6 (fun Z => rfl) ?_
    refine wp_call (pc' := 269) (rest := []) (fun Z => rfl) rfl hw ?_
    rintro o h1 ⟨l25, S26, rfl, rfl, hw⟩
    refine ⟨_, rfl, ?_⟩
    show wp E (d + 1) m_m_letters 269 [some (.int a0)] [.long l25] (Hp S26) (QJ Q)
    exact wp_ret (fun Z => rfl) ⟨_, _, rfl, rfl, hw⟩
  rw [if_neg c12] at hw
  by_cases c13 : a0 = 13
  · rw [if_pos c13] at hw
    refine wp_st (pc' := 270) (L' := [some (.int a0)]) (st' := []) (h' := Hp S) 1 (fun Z => (show zsw (.tableswitch 310 0 15 #[79, 93, 109, 125, 140, 153, 168, 182, 195, 209, 224, 240, 254, 269, 285, 298]) 1 (.int a0 :: []) (fun t st1 => Z (d + 1) m_m_letters t [some (.int a0)] st1 (Hp S)) = _ from zsw_at (c := 13) (by rw [c13]; decide) (by decide) rfl rfl)) ?_
    refine wp_st (pc' := 282) (L' := [some (.int a0)]) (st' := [.int 115, .int 116, .int 115, .int 114, .int 117, .int 98]) (h' := Hp S) 6 (fun Z => rfl) ?_
    refine wp_call (pc' := 285) (rest := []) (fun Z => rfl) rfl hw ?_
    rintro o h1 ⟨l27, S28, rfl, rfl, hw⟩
    refine ⟨_, rfl, ?_⟩
    show wp E (d + 1) m_m_letters 285 [some (.int a0)] [.long l27] (Hp S28) (QJ Q)
    exact wp_ret (fun Z => rfl) ⟨_, _, rfl, rfl, hw⟩
  rw [if_neg c13] at hw
  by_cases c14 : a0 = 14
  · rw [if_pos c14] at hw
    refine wp_st (pc' := 286) (L' := [some (.int a0)]) (st' := []) (h' := Hp S) 1 (fun Z => (show zsw (.tableswitch 310 0 15 #[79, 93, 109, 125, 140, 153, 168, 182, 195, 209, 224, 240, 254, 269, 285, 298]) 1 (.int a0 :: []) (fun t st1 => Z (d + 1) m_m_letters t [some (.int a0)] st1 (Hp S)) = _ from zsw_at (c := 14) (by rw [c14]; decide) (by decide) rfl rfl)) ?_
    refine wp_st (pc' := 295) (L' := [some (.int a0)]) (st' := [.int 0, .int 0, .int 0, .int 100, .int 110, .int 97]) (h' := Hp S) 6 (fun Z => rfl) ?_
    refine wp_call (pc' := 298) (rest := []) (fun Z => rfl) rfl hw ?_
    rintro o h1 ⟨l29, S30, rfl, rfl, hw⟩
    refine ⟨_, rfl, ?_⟩
    show wp E (d + 1) m_m_letters 298 [some (.int a0)] [.long l29] (Hp S30) (QJ Q)
    exact wp_ret (fun Z => rfl) ⟨_, _, rfl, rfl, hw⟩
  rw [if_neg c14] at hw
  by_cases c15 : a0 = 15
  · rw [if_pos c15] at hw
    refine wp_st (pc' := 299) (L' := [some (.int a0)]) (st' := []) (h' := Hp S) 1 (fun Z => (show zsw (.tableswitch 310 0 15 #[79, 93, 109, 125, 140, 153, 168, 182, 195, 209, 224, 240, 254, 269, 285, 298]) 1 (.int a0 :: []) (fun t st1 => Z (d + 1) m_m_letters t [some (.int a0)] st1 (Hp S)) = _ from zsw_at (c := 15) (by rw [c15]; decide) (by decide) rfl rfl)) ?_
    refine wp_st (pc' := 307) (L' := [some (.int a0)]) (st' := [.int 0, .int 0, .int 0, .int 0, .int 114, .int 111]) (h' := Hp S) 6 (fun Z => rfl) ?_
    refine wp_call (pc' := 310) (rest := []) (fun Z => rfl) rfl hw ?_
    rintro o h1 ⟨l31, S32, rfl, rfl, hw⟩
    refine ⟨_, rfl, ?_⟩
    show wp E (d + 1) m_m_letters 310 [some (.int a0)] [.long l31] (Hp S32) (QJ Q)
    exact wp_ret (fun Z => rfl) ⟨_, _, rfl, rfl, hw⟩
  rw [if_neg c15] at hw
  have hs : (a0).toInt < (0 : Int) ∨ (15 : Int) < (a0).toInt := by
    refine zoutG (n := 16) (by decide) (by decide) (by decide) ?_
    intro k hk
    rcases k with _ | _ | _ | _ | _ | _ | _ | _ | _ | _ | _ | _ | _ | _ | _ | _ | k
    · exact c0
    · exact c1
    · exact c2
    · exact c3
    · exact c4
    · exact c5
    · exact c6
    · exact c7
    · exact c8
    · exact c9
    · exact c10
    · exact c11
    · exact c12
    · exact c13
    · exact c14
    · exact c15
    · omega
  refine wp_st (pc' := 311) (L' := [some (.int a0)]) (st' := []) (h' := Hp S) 1 (fun Z => (show zsw (.tableswitch 310 0 15 #[79, 93, 109, 125, 140, 153, 168, 182, 195, 209, 224, 240, 254, 269, 285, 298]) 1 (.int a0 :: []) (fun t st1 => Z (d + 1) m_m_letters t [some (.int a0)] st1 (Hp S)) = _ from zsw_out hs rfl)) ?_
  refine wp_st (pc' := 320) (L' := [some (.int a0)]) (st' := [.int 0, .int 0, .int 0, .int 116, .int 111, .int 110]) (h' := Hp S) 6 (fun Z => rfl) ?_
  refine wp_call (pc' := 323) (rest := []) (fun Z => rfl) rfl hw ?_
  rintro o h1 ⟨l33, S34, rfl, rfl, hw⟩
  refine ⟨_, rfl, ?_⟩
  show wp E (d + 1) m_m_letters 323 [some (.int a0)] [.long l33] (Hp S34) (QJ Q)
  exact wp_ret (fun Z => rfl) ⟨_, _, rfl, rfl, hw⟩
set_option maxRecDepth 4000 in
theorem w_m_spelled {E : zX} {d : Nat} {S : St} {a0 : Int32} {a1 : Int32} {a2 : Int32} {a3 : Int32} {a4 : Int32} {a5 : Int32} {Q : Int64 → St → Prop} 
    (hw : if a2 = 0 then (
      k_m_spelled_32 E d S a3 a4 a5 ((((Int32.toInt64 a0) - 96) <<< (Int32.toInt64 5 &&& 63)) ||| (Int32.toInt64 (a1 - (96 : Int32)))) Q)
    else (
      k_m_spelled_32 E d S a3 a4 a5 ((((((Int32.toInt64 a0) - 96) <<< (Int32.toInt64 5 &&& 63)) ||| (Int32.toInt64 (a1 - (96 : Int32)))) <<< (Int32.toInt64 5 &&& 63)) ||| (Int32.toInt64 (a2 - (96 : Int32)))) Q)) :
    k_m_spelled E d S a0 a1 a2 a3 a4 a5 Q := by
  show wp E d m_m_spelled 0 [some (.int a0), some (.int a1), some (.int a2), some (.int a3), some (.int a4), some (.int a5), none, none] [] (Hp S) (QJ Q)
  refine wp_st (pc' := 17) (L' := [some (.int a0), some (.int a1), some (.int a2), some (.int a3), some (.int a4), some (.int a5), some (.long ((((Int32.toInt64 a0) - 96) <<< (Int32.toInt64 5 &&& 63)) ||| (Int32.toInt64 (a1 - (96 : Int32))))), none]) (st' := [.int a2]) (h' := Hp S) 13 (fun Z => rfl) ?_
  by_cases hc : a2 = 0
  · rw [if_pos hc] at hw
    refine wp_st (pc' := 32) (L' := [some (.int a0), some (.int a1), some (.int a2), some (.int a3), some (.int a4), some (.int a5), some (.long ((((Int32.toInt64 a0) - 96) <<< (Int32.toInt64 5 &&& 63)) ||| (Int32.toInt64 (a1 - (96 : Int32))))), none]) (st' := []) (h' := Hp S) 1 (fun Z => if_pos hc) ?_
    exact (show wp E d m_m_spelled 32 [some (.int a0), some (.int a1), some (.int a2), some (.int a3), some (.int a4), some (.int a5), some (.long ((((Int32.toInt64 a0) - 96) <<< (Int32.toInt64 5 &&& 63)) ||| (Int32.toInt64 (a1 - (96 : Int32))))), none] [] (Hp S) (QJ Q) from (hw (some (.int a0)) (some (.int a1)) (some (.int a2)) none))
  · rw [if_neg hc] at hw
    refine wp_st (pc' := 20) (L' := [some (.int a0), some (.int a1), some (.int a2), some (.int a3), some (.int a4), some (.int a5), some (.long ((((Int32.toInt64 a0) - 96) <<< (Int32.toInt64 5 &&& 63)) ||| (Int32.toInt64 (a1 - (96 : Int32))))), none]) (st' := []) (h' := Hp S) 1 (fun Z => if_neg hc) ?_
    exact wp_st 9 (fun Z => rfl) (show wp E d m_m_spelled 32 [some (.int a0), some (.int a1), some (.int a2), some (.int a3), some (.int a4), some (.int a5), some (.long ((((((Int32.toInt64 a0) - 96) <<< (Int32.toInt64 5 &&& 63)) ||| (Int32.toInt64 (a1 - (96 : Int32)))) <<< (Int32.toInt64 5 &&& 63)) ||| (Int32.toInt64 (a2 - (96 : Int32))))), none] [] (Hp S) (QJ Q) from (hw (some (.int a0)) (some (.int a1)) (some (.int a2)) none))
set_option maxRecDepth 4000 in
theorem w_m_spelled_32 {E : zX} {d : Nat} {S : St} {a3 : Int32} {a4 : Int32} {a5 : Int32} {a6 : Int64} {Q : Int64 → St → Prop} 
    (hw : if a3 = 0 then (
      k_m_spelled_48 E d S a4 a5 a6 Q)
    else (
      k_m_spelled_48 E d S a4 a5 ((a6 <<< (Int32.toInt64 5 &&& 63)) ||| (Int32.toInt64 (a3 - (96 : Int32)))) Q)) :
    k_m_spelled_32 E d S a3 a4 a5 a6 Q := by
  intro j0 j1 j2 j7
  show wp E d m_m_spelled 32 [j0, j1, j2, some (.int a3), some (.int a4), some (.int a5), some (.long a6), j7] [] (Hp S) (QJ Q)
  refine wp_st (pc' := 33) (L' := [j0, j1, j2, some (.int a3), some (.int a4), some (.int a5), some (.long a6), j7]) (st' := [.int a3]) (h' := Hp S) 1 (fun Z => rfl) ?_
  by_cases hc : a3 = 0
  · rw [if_pos hc] at hw
    refine wp_st (pc' := 48) (L' := [j0, j1, j2, some (.int a3), some (.int a4), some (.int a5), some (.long a6), j7]) (st' := []) (h' := Hp S) 1 (fun Z => if_pos hc) ?_
    exact (show wp E d m_m_spelled 48 [j0, j1, j2, some (.int a3), some (.int a4), some (.int a5), some (.long a6), j7] [] (Hp S) (QJ Q) from (hw j0 j1 j2 (some (.int a3)) j7))
  · rw [if_neg hc] at hw
    refine wp_st (pc' := 36) (L' := [j0, j1, j2, some (.int a3), some (.int a4), some (.int a5), some (.long a6), j7]) (st' := []) (h' := Hp S) 1 (fun Z => if_neg hc) ?_
    exact wp_st 9 (fun Z => rfl) (show wp E d m_m_spelled 48 [j0, j1, j2, some (.int a3), some (.int a4), some (.int a5), some (.long ((a6 <<< (Int32.toInt64 5 &&& 63)) ||| (Int32.toInt64 (a3 - (96 : Int32))))), none] [] (Hp S) (QJ Q) from (hw j0 j1 j2 (some (.int a3)) none))
set_option maxRecDepth 4000 in
theorem w_m_spelled_48 {E : zX} {d : Nat} {S : St} {a4 : Int32} {a5 : Int32} {a6 : Int64} {Q : Int64 → St → Prop} 
    (hw : if a4 = 0 then (
      k_m_spelled_66 E d S a5 a6 Q)
    else (
      k_m_spelled_66 E d S a5 ((a6 <<< (Int32.toInt64 5 &&& 63)) ||| (Int32.toInt64 (a4 - (96 : Int32)))) Q)) :
    k_m_spelled_48 E d S a4 a5 a6 Q := by
  intro j0 j1 j2 j3 j7
  show wp E d m_m_spelled 48 [j0, j1, j2, j3, some (.int a4), some (.int a5), some (.long a6), j7] [] (Hp S) (QJ Q)
  refine wp_st (pc' := 50) (L' := [j0, j1, j2, j3, some (.int a4), some (.int a5), some (.long a6), j7]) (st' := [.int a4]) (h' := Hp S) 1 (fun Z => rfl) ?_
  by_cases hc : a4 = 0
  · rw [if_pos hc] at hw
    refine wp_st (pc' := 66) (L' := [j0, j1, j2, j3, some (.int a4), some (.int a5), some (.long a6), j7]) (st' := []) (h' := Hp S) 1 (fun Z => if_pos hc) ?_
    exact (show wp E d m_m_spelled 66 [j0, j1, j2, j3, some (.int a4), some (.int a5), some (.long a6), j7] [] (Hp S) (QJ Q) from (hw j0 j1 j2 j3 (some (.int a4)) j7))
  · rw [if_neg hc] at hw
    refine wp_st (pc' := 53) (L' := [j0, j1, j2, j3, some (.int a4), some (.int a5), some (.long a6), j7]) (st' := []) (h' := Hp S) 1 (fun Z => if_neg hc) ?_
    exact wp_st 9 (fun Z => rfl) (show wp E d m_m_spelled 66 [j0, j1, j2, j3, some (.int a4), some (.int a5), some (.long ((a6 <<< (Int32.toInt64 5 &&& 63)) ||| (Int32.toInt64 (a4 - (96 : Int32))))), none] [] (Hp S) (QJ Q) from (hw j0 j1 j2 j3 (some (.int a4)) none))
set_option maxRecDepth 4000 in
theorem w_m_spelled_66 {E : zX} {d : Nat} {S : St} {a5 : Int32} {a6 : Int64} {Q : Int64 → St → Prop} 
    (hw : if a5 = 0 then (
      Q a6 S)
    else (
      Q ((a6 <<< (Int32.toInt64 5 &&& 63)) ||| (Int32.toInt64 (a5 - (96 : Int32)))) S)) :
    k_m_spelled_66 E d S a5 a6 Q := by
  intro j0 j1 j2 j3 j4 j7
  show wp E d m_m_spelled 66 [j0, j1, j2, j3, j4, some (.int a5), some (.long a6), j7] [] (Hp S) (QJ Q)
  refine wp_st (pc' := 68) (L' := [j0, j1, j2, j3, j4, some (.int a5), some (.long a6), j7]) (st' := [.int a5]) (h' := Hp S) 1 (fun Z => rfl) ?_
  by_cases hc : a5 = 0
  · rw [if_pos hc] at hw
    refine wp_st (pc' := 84) (L' := [j0, j1, j2, j3, j4, some (.int a5), some (.long a6), j7]) (st' := []) (h' := Hp S) 1 (fun Z => if_pos hc) ?_
    refine wp_st (pc' := 86) (L' := [j0, j1, j2, j3, j4, some (.int a5), some (.long a6), j7]) (st' := [.long a6]) (h' := Hp S) 1 (fun Z => rfl) ?_
    exact wp_ret (fun Z => rfl) ⟨_, _, rfl, rfl, hw⟩
  · rw [if_neg hc] at hw
    refine wp_st (pc' := 71) (L' := [j0, j1, j2, j3, j4, some (.int a5), some (.long a6), j7]) (st' := []) (h' := Hp S) 1 (fun Z => if_neg hc) ?_
    refine wp_st (pc' := 86) (L' := [j0, j1, j2, j3, j4, some (.int a5), some (.long ((a6 <<< (Int32.toInt64 5 &&& 63)) ||| (Int32.toInt64 (a5 - (96 : Int32))))), none]) (st' := [.long ((a6 <<< (Int32.toInt64 5 &&& 63)) ||| (Int32.toInt64 (a5 - (96 : Int32))))]) (h' := Hp S) 10 (fun Z => rfl) ?_
    exact wp_ret (fun Z => rfl) ⟨_, _, rfl, rfl, hw⟩
set_option maxRecDepth 4000 in
theorem w_m_number {E : zX} {d : Nat} {S : St} {a1 : Int32} {a2 : Int32} {Q : Int32 → St → Prop} (hd : 1 ≤ d) 
    (hw : k_m_isGood E (d - 1) S (fun x1 S2 =>
    if x1 = 0 then (
      Q (0 : Int32) S2)
    else (
      if (S2 65 17) = 2 then (
        if 4 < (S2 65 19) then (
          k_m_wrong E (d - 1) S2 2 (fun S4 =>
          k_m_number_54 E d S4 Q))
        else (
          if (S2 65 20) < a1 then (
            k_m_wrong E (d - 1) S2 2 (fun S6 =>
            k_m_number_54 E d S6 Q))
          else (
            if (S2 65 20) ≤ a2 then (
              k_m_number_54 E d S2 Q)
            else (
              k_m_wrong E (d - 1) S2 2 (fun S8 =>
              k_m_number_54 E d S8 Q)))))
      else (
        k_m_wrong E (d - 1) S2 1 (fun S10 =>
        k_m_number_54 E d S10 Q))))) :
    k_m_number E d S a1 a2 Q := by
  obtain ⟨d, rfl⟩ := Nat.exists_eq_add_of_le' hd
  show wp E (d + 1) m_m_number 0 [some (.ref 65), some (.int a1), some (.int a2), none] [] (Hp S) (QI Q)
  refine wp_st (pc' := 1) (L' := [some (.ref 65), some (.int a1), some (.int a2), none]) (st' := [.ref 65]) (h' := Hp S) 1 (fun Z => rfl) ?_
  refine wp_call (pc' := 4) (rest := []) (fun Z => rfl) (isO_of sh65) hw ?_
  rintro o h1 ⟨x1, S2, rfl, rfl, hw⟩
  refine ⟨_, rfl, ?_⟩
  show wp E (d + 1) m_m_number 4 [some (.ref 65), some (.int a1), some (.int a2), none] [.int x1] (Hp S2) (QI Q)
  by_cases hc : x1 = 0
  · rw [if_pos hc] at hw
    refine wp_st (pc' := 7) (L' := [some (.ref 65), some (.int a1), some (.int a2), none]) (st' := []) (h' := Hp S2) 1 (fun Z => if_pos hc) ?_
    refine wp_st (pc' := 8) (L' := [some (.ref 65), some (.int a1), some (.int a2), none]) (st' := [.int 0]) (h' := Hp S2) 1 (fun Z => rfl) ?_
    exact wp_ret (fun Z => rfl) ⟨_, _, rfl, rfl, hw⟩
  · rw [if_neg hc] at hw
    refine wp_st (pc' := 9) (L' := [some (.ref 65), some (.int a1), some (.int a2), none]) (st' := []) (h' := Hp S2) 1 (fun Z => if_neg hc) ?_
    refine wp_st (pc' := 10) (L' := [some (.ref 65), some (.int a1), some (.int a2), none]) (st' := [.ref 65]) (h' := Hp S2) 1 (fun Z => rfl) ?_
    refine wp_st (pc' := 13) (L' := [some (.ref 65), some (.int a1), some (.int a2), none]) (st' := [.int (S2 65 17)]) (h' := Hp S2) 1 (fun Z => gfI (E := E) sh65 rfl _) ?_
    refine wp_st (pc' := 14) (L' := [some (.ref 65), some (.int a1), some (.int a2), none]) (st' := [.int 2, .int (S2 65 17)]) (h' := Hp S2) 1 (fun Z => rfl) ?_
    by_cases hc : (S2 65 17) = 2
    · rw [if_pos hc] at hw
      refine wp_st (pc' := 25) (L' := [some (.ref 65), some (.int a1), some (.int a2), none]) (st' := []) (h' := Hp S2) 1 (fun Z => if_pos hc) ?_
      refine wp_st (pc' := 26) (L' := [some (.ref 65), some (.int a1), some (.int a2), none]) (st' := [.ref 65]) (h' := Hp S2) 1 (fun Z => rfl) ?_
      refine wp_st (pc' := 29) (L' := [some (.ref 65), some (.int a1), some (.int a2), none]) (st' := [.int (S2 65 19)]) (h' := Hp S2) 1 (fun Z => gfI (E := E) sh65 rfl _) ?_
      refine wp_st (pc' := 30) (L' := [some (.ref 65), some (.int a1), some (.int a2), none]) (st' := [.int 4, .int (S2 65 19)]) (h' := Hp S2) 1 (fun Z => rfl) ?_
      by_cases hc : 4 < (S2 65 19)
      · rw [if_pos hc] at hw
        refine wp_st (pc' := 49) (L' := [some (.ref 65), some (.int a1), some (.int a2), none]) (st' := []) (h' := Hp S2) 1 (fun Z => if_pos hc) ?_
        refine wp_st (pc' := 51) (L' := [some (.ref 65), some (.int a1), some (.int a2), none]) (st' := [.int 2, .ref 65]) (h' := Hp S2) 2 (fun Z => rfl) ?_
        refine wp_call (pc' := 54) (rest := []) (fun Z => rfl) (isO_of sh65) hw ?_
        rintro o h1 ⟨S4, rfl, rfl, hw⟩
        refine ⟨_, rfl, ?_⟩
        show wp E (d + 1) m_m_number 54 [some (.ref 65), some (.int a1), some (.int a2), none] [] (Hp S4) (QI Q)
        exact (show wp E (d + 1) m_m_number 54 [some (.ref 65), some (.int a1), some (.int a2), none] [] (Hp S4) (QI Q) from (hw (some (.int a1)) (some (.int a2)) none))
      · rw [if_neg hc] at hw
        refine wp_st (pc' := 33) (L' := [some (.ref 65), some (.int a1), some (.int a2), none]) (st' := []) (h' := Hp S2) 1 (fun Z => if_neg hc) ?_
        refine wp_st (pc' := 34) (L' := [some (.ref 65), some (.int a1), some (.int a2), none]) (st' := [.ref 65]) (h' := Hp S2) 1 (fun Z => rfl) ?_
        refine wp_st (pc' := 37) (L' := [some (.ref 65), some (.int a1), some (.int a2), none]) (st' := [.int (S2 65 20)]) (h' := Hp S2) 1 (fun Z => gfI (E := E) sh65 rfl _) ?_
        refine wp_st (pc' := 38) (L' := [some (.ref 65), some (.int a1), some (.int a2), none]) (st' := [.int a1, .int (S2 65 20)]) (h' := Hp S2) 1 (fun Z => rfl) ?_
        by_cases hc : (S2 65 20) < a1
        · rw [if_pos hc] at hw
          refine wp_st (pc' := 49) (L' := [some (.ref 65), some (.int a1), some (.int a2), none]) (st' := []) (h' := Hp S2) 1 (fun Z => if_pos hc) ?_
          refine wp_st (pc' := 51) (L' := [some (.ref 65), some (.int a1), some (.int a2), none]) (st' := [.int 2, .ref 65]) (h' := Hp S2) 2 (fun Z => rfl) ?_
          refine wp_call (pc' := 54) (rest := []) (fun Z => rfl) (isO_of sh65) hw ?_
          rintro o h1 ⟨S6, rfl, rfl, hw⟩
          refine ⟨_, rfl, ?_⟩
          show wp E (d + 1) m_m_number 54 [some (.ref 65), some (.int a1), some (.int a2), none] [] (Hp S6) (QI Q)
          exact (show wp E (d + 1) m_m_number 54 [some (.ref 65), some (.int a1), some (.int a2), none] [] (Hp S6) (QI Q) from (hw (some (.int a1)) (some (.int a2)) none))
        · rw [if_neg hc] at hw
          refine wp_st (pc' := 41) (L' := [some (.ref 65), some (.int a1), some (.int a2), none]) (st' := []) (h' := Hp S2) 1 (fun Z => if_neg hc) ?_
          refine wp_st (pc' := 42) (L' := [some (.ref 65), some (.int a1), some (.int a2), none]) (st' := [.ref 65]) (h' := Hp S2) 1 (fun Z => rfl) ?_
          refine wp_st (pc' := 45) (L' := [some (.ref 65), some (.int a1), some (.int a2), none]) (st' := [.int (S2 65 20)]) (h' := Hp S2) 1 (fun Z => gfI (E := E) sh65 rfl _) ?_
          refine wp_st (pc' := 46) (L' := [some (.ref 65), some (.int a1), some (.int a2), none]) (st' := [.int a2, .int (S2 65 20)]) (h' := Hp S2) 1 (fun Z => rfl) ?_
          by_cases hc : (S2 65 20) ≤ a2
          · rw [if_pos hc] at hw
            refine wp_st (pc' := 54) (L' := [some (.ref 65), some (.int a1), some (.int a2), none]) (st' := []) (h' := Hp S2) 1 (fun Z => if_pos hc) ?_
            exact (show wp E (d + 1) m_m_number 54 [some (.ref 65), some (.int a1), some (.int a2), none] [] (Hp S2) (QI Q) from (hw (some (.int a1)) (some (.int a2)) none))
          · rw [if_neg hc] at hw
            refine wp_st (pc' := 49) (L' := [some (.ref 65), some (.int a1), some (.int a2), none]) (st' := []) (h' := Hp S2) 1 (fun Z => if_neg hc) ?_
            refine wp_st (pc' := 51) (L' := [some (.ref 65), some (.int a1), some (.int a2), none]) (st' := [.int 2, .ref 65]) (h' := Hp S2) 2 (fun Z => rfl) ?_
            refine wp_call (pc' := 54) (rest := []) (fun Z => rfl) (isO_of sh65) hw ?_
            rintro o h1 ⟨S8, rfl, rfl, hw⟩
            refine ⟨_, rfl, ?_⟩
            show wp E (d + 1) m_m_number 54 [some (.ref 65), some (.int a1), some (.int a2), none] [] (Hp S8) (QI Q)
            exact (show wp E (d + 1) m_m_number 54 [some (.ref 65), some (.int a1), some (.int a2), none] [] (Hp S8) (QI Q) from (hw (some (.int a1)) (some (.int a2)) none))
    · rw [if_neg hc] at hw
      refine wp_st (pc' := 17) (L' := [some (.ref 65), some (.int a1), some (.int a2), none]) (st' := []) (h' := Hp S2) 1 (fun Z => if_neg hc) ?_
      refine wp_st (pc' := 19) (L' := [some (.ref 65), some (.int a1), some (.int a2), none]) (st' := [.int 1, .ref 65]) (h' := Hp S2) 2 (fun Z => rfl) ?_
      refine wp_call (pc' := 22) (rest := []) (fun Z => rfl) (isO_of sh65) hw ?_
      rintro o h1 ⟨S10, rfl, rfl, hw⟩
      refine ⟨_, rfl, ?_⟩
      show wp E (d + 1) m_m_number 22 [some (.ref 65), some (.int a1), some (.int a2), none] [] (Hp S10) (QI Q)
      exact wp_st 1 (fun Z => rfl) (show wp E (d + 1) m_m_number 54 [some (.ref 65), some (.int a1), some (.int a2), none] [] (Hp S10) (QI Q) from (hw (some (.int a1)) (some (.int a2)) none))
set_option maxRecDepth 4000 in
theorem w_m_number_54 {E : zX} {d : Nat} {S : St}  {Q : Int32 → St → Prop} (hd : 1 ≤ d) 
    (hw : k_m_isGood E (d - 1) S (fun x1 S2 =>
    if x1 = 0 then (
      Q (S 65 20) S2)
    else (
      k_m_goes E (d - 1) S2 (fun S4 =>
      Q (S 65 20) S4)))) :
    k_m_number_54 E d S Q := by
  obtain ⟨d, rfl⟩ := Nat.exists_eq_add_of_le' hd
  intro j1 j2 j3
  show wp E (d + 1) m_m_number 54 [some (.ref 65), j1, j2, j3] [] (Hp S) (QI Q)
  refine wp_st (pc' := 55) (L' := [some (.ref 65), j1, j2, j3]) (st' := [.ref 65]) (h' := Hp S) 1 (fun Z => rfl) ?_
  refine wp_st (pc' := 58) (L' := [some (.ref 65), j1, j2, j3]) (st' := [.int (S 65 20)]) (h' := Hp S) 1 (fun Z => gfI (E := E) sh65 rfl _) ?_
  refine wp_st (pc' := 60) (L' := [some (.ref 65), j1, j2, some (.int (S 65 20))]) (st' := [.ref 65]) (h' := Hp S) 2 (fun Z => rfl) ?_
  refine wp_call (pc' := 63) (rest := []) (fun Z => rfl) (isO_of sh65) hw ?_
  rintro o h1 ⟨x1, S2, rfl, rfl, hw⟩
  refine ⟨_, rfl, ?_⟩
  show wp E (d + 1) m_m_number 63 [some (.ref 65), j1, j2, some (.int (S 65 20))] [.int x1] (Hp S2) (QI Q)
  by_cases hc : x1 = 0
  · rw [if_pos hc] at hw
    refine wp_st (pc' := 70) (L' := [some (.ref 65), j1, j2, some (.int (S 65 20))]) (st' := []) (h' := Hp S2) 1 (fun Z => if_pos hc) ?_
    refine wp_st (pc' := 71) (L' := [some (.ref 65), j1, j2, some (.int (S 65 20))]) (st' := [.int (S 65 20)]) (h' := Hp S2) 1 (fun Z => rfl) ?_
    exact wp_ret (fun Z => rfl) ⟨_, _, rfl, rfl, hw⟩
  · rw [if_neg hc] at hw
    refine wp_st (pc' := 66) (L' := [some (.ref 65), j1, j2, some (.int (S 65 20))]) (st' := []) (h' := Hp S2) 1 (fun Z => if_neg hc) ?_
    refine wp_st (pc' := 67) (L' := [some (.ref 65), j1, j2, some (.int (S 65 20))]) (st' := [.ref 65]) (h' := Hp S2) 1 (fun Z => rfl) ?_
    refine wp_call (pc' := 70) (rest := []) (fun Z => rfl) (isO_of sh65) hw ?_
    rintro o h1 ⟨S4, rfl, rfl, hw⟩
    refine ⟨_, rfl, ?_⟩
    show wp E (d + 1) m_m_number 70 [some (.ref 65), j1, j2, some (.int (S 65 20))] [] (Hp S4) (QI Q)
    refine wp_st (pc' := 71) (L' := [some (.ref 65), j1, j2, some (.int (S 65 20))]) (st' := [.int (S 65 20)]) (h' := Hp S4) 1 (fun Z => rfl) ?_
    exact wp_ret (fun Z => rfl) ⟨_, _, rfl, rfl, hw⟩
set_option maxRecDepth 4000 in
theorem w_m_wrong {E : zX} {d : Nat} {S : St} {a1 : Int32} {Q : St → Prop} 
    (hw : if (S 65 12) = 0 then (
      ∀ S1, S1 = up S 65 12 a1 →
      ∀ S2, S2 = up S1 65 13 (S1 65 18) →
      Q S2)
    else (
      Q S)) :
    k_m_wrong E d S a1 Q := by
  show wp E d m_m_wrong 0 [some (.ref 65), some (.int a1)] [] (Hp S) (QV Q)
  refine wp_st (pc' := 1) (L' := [some (.ref 65), some (.int a1)]) (st' := [.ref 65]) (h' := Hp S) 1 (fun Z => rfl) ?_
  refine wp_st (pc' := 4) (L' := [some (.ref 65), some (.int a1)]) (st' := [.int (S 65 12)]) (h' := Hp S) 1 (fun Z => gfI (E := E) sh65 rfl _) ?_
  by_cases hc : (S 65 12) = 0
  · rw [if_pos hc] at hw
    refine wp_st (pc' := 8) (L' := [some (.ref 65), some (.int a1)]) (st' := []) (h' := Hp S) 1 (fun Z => if_pos hc) ?_
    refine wp_st (pc' := 10) (L' := [some (.ref 65), some (.int a1)]) (st' := [.int a1, .ref 65]) (h' := Hp S) 2 (fun Z => rfl) ?_
    have hw := hw _ rfl
    refine wp_st (pc' := 13) (L' := [some (.ref 65), some (.int a1)]) (st' := []) (h' := Hp (up S 65 12 a1)) 1 (fun Z => pfI sh65 rfl (Nat.le_of_ble_eq_true rfl) rfl _) ?_
    generalize up S 65 12 a1 = S1 at hw ⊢
    refine wp_st (pc' := 15) (L' := [some (.ref 65), some (.int a1)]) (st' := [.ref 65, .ref 65]) (h' := Hp S1) 2 (fun Z => rfl) ?_
    refine wp_st (pc' := 18) (L' := [some (.ref 65), some (.int a1)]) (st' := [.int (S1 65 18), .ref 65]) (h' := Hp S1) 1 (fun Z => gfI (E := E) sh65 rfl _) ?_
    have hw := hw _ rfl
    refine wp_st (pc' := 21) (L' := [some (.ref 65), some (.int a1)]) (st' := []) (h' := Hp (up S1 65 13 (S1 65 18))) 1 (fun Z => pfI sh65 rfl (Nat.le_of_ble_eq_true rfl) rfl _) ?_
    generalize up S1 65 13 (S1 65 18) = S2 at hw ⊢
    exact wp_ret (fun Z => rfl) ⟨_, rfl, rfl, hw⟩
  · rw [if_neg hc] at hw
    refine wp_st (pc' := 7) (L' := [some (.ref 65), some (.int a1)]) (st' := []) (h' := Hp S) 1 (fun Z => if_neg hc) ?_
    exact wp_ret (fun Z => rfl) ⟨_, rfl, rfl, hw⟩
set_option maxRecDepth 4000 in
theorem w_m_need {E : zX} {d : Nat} {S : St} {a1 : Int32} {Q : St → Prop} (hd : 1 ≤ d) 
    (hw : k_m_isGood E (d - 1) S (fun x1 S2 =>
    if x1 = 0 then (
      Q S2)
    else (
      if a1 = 0 then (
        k_m_wrong E (d - 1) S2 1 (fun S4 =>
        Q S4))
      else (
        k_m_goes E (d - 1) S2 (fun S6 =>
        Q S6))))) :
    k_m_need E d S a1 Q := by
  obtain ⟨d, rfl⟩ := Nat.exists_eq_add_of_le' hd
  show wp E (d + 1) m_m_need 0 [some (.ref 65), some (.int a1)] [] (Hp S) (QV Q)
  refine wp_st (pc' := 1) (L' := [some (.ref 65), some (.int a1)]) (st' := [.ref 65]) (h' := Hp S) 1 (fun Z => rfl) ?_
  refine wp_call (pc' := 4) (rest := []) (fun Z => rfl) (isO_of sh65) hw ?_
  rintro o h1 ⟨x1, S2, rfl, rfl, hw⟩
  refine ⟨_, rfl, ?_⟩
  show wp E (d + 1) m_m_need 4 [some (.ref 65), some (.int a1)] [.int x1] (Hp S2) (QV Q)
  by_cases hc : x1 = 0
  · rw [if_pos hc] at hw
    refine wp_st (pc' := 7) (L' := [some (.ref 65), some (.int a1)]) (st' := []) (h' := Hp S2) 1 (fun Z => if_pos hc) ?_
    exact wp_ret (fun Z => rfl) ⟨_, rfl, rfl, hw⟩
  · rw [if_neg hc] at hw
    refine wp_st (pc' := 8) (L' := [some (.ref 65), some (.int a1)]) (st' := []) (h' := Hp S2) 1 (fun Z => if_neg hc) ?_
    refine wp_st (pc' := 9) (L' := [some (.ref 65), some (.int a1)]) (st' := [.int a1]) (h' := Hp S2) 1 (fun Z => rfl) ?_
    by_cases hc : a1 = 0
    · rw [if_pos hc] at hw
      refine wp_st (pc' := 19) (L' := [some (.ref 65), some (.int a1)]) (st' := []) (h' := Hp S2) 1 (fun Z => if_pos hc) ?_
      refine wp_st (pc' := 21) (L' := [some (.ref 65), some (.int a1)]) (st' := [.int 1, .ref 65]) (h' := Hp S2) 2 (fun Z => rfl) ?_
      refine wp_call (pc' := 24) (rest := []) (fun Z => rfl) (isO_of sh65) hw ?_
      rintro o h1 ⟨S4, rfl, rfl, hw⟩
      refine ⟨_, rfl, ?_⟩
      show wp E (d + 1) m_m_need 24 [some (.ref 65), some (.int a1)] [] (Hp S4) (QV Q)
      exact wp_ret (fun Z => rfl) ⟨_, rfl, rfl, hw⟩
    · rw [if_neg hc] at hw
      refine wp_st (pc' := 12) (L' := [some (.ref 65), some (.int a1)]) (st' := []) (h' := Hp S2) 1 (fun Z => if_neg hc) ?_
      refine wp_st (pc' := 13) (L' := [some (.ref 65), some (.int a1)]) (st' := [.ref 65]) (h' := Hp S2) 1 (fun Z => rfl) ?_
      refine wp_call (pc' := 16) (rest := []) (fun Z => rfl) (isO_of sh65) hw ?_
      rintro o h1 ⟨S6, rfl, rfl, hw⟩
      refine ⟨_, rfl, ?_⟩
      show wp E (d + 1) m_m_need 16 [some (.ref 65), some (.int a1)] [] (Hp S6) (QV Q)
      refine wp_st (pc' := 24) (L' := [some (.ref 65), some (.int a1)]) (st' := []) (h' := Hp S6) 1 (fun Z => rfl) ?_
      exact wp_ret (fun Z => rfl) ⟨_, rfl, rfl, hw⟩
set_option maxRecDepth 4000 in
theorem w_m_line {E : zX} {d : Nat} {S : St}  {Q : St → Prop} (hd : 1 ≤ d) 
    (hw : k_m_knownWord E (d - 1) S (fun x1 S2 =>
    if x1 = 10 then (
      if (S2 65 25) = 7 then (
        k_m_line_26 E d S2 1 Q)
      else (
        k_m_line_26 E d S2 0 Q))
    else (
      if x1 = 11 then (
        if (S2 65 26) = 10 then (
          k_m_line_61 E d S2 1 Q)
        else (
          k_m_line_61 E d S2 0 Q))
      else (
        if x1 = 12 then (
          if (S2 65 27) = (-1) then (
            k_m_line_96 E d S2 0 0 Q)
          else (
            k_m_line_96 E d S2 0 1 Q))
        else (
          if x1 = 13 then (
            if (S2 65 28) = (-1) then (
              k_m_line_140 E d S2 0 0 Q)
            else (
              k_m_line_140 E d S2 0 1 Q))
          else (
            k_m_wrong E (d - 1) S2 1 (fun S4 =>
            k_m_isSign E (d - 1) S4 59 (fun x5 S6 =>
            k_m_need E (d - 1) S6 x5 (fun S8 =>
            Q S8))))))))) :
    k_m_line E d S Q := by
  obtain ⟨d, rfl⟩ := Nat.exists_eq_add_of_le' hd
  show wp E (d + 1) m_m_line 0 [some (.ref 65), none] [] (Hp S) (QV Q)
  refine wp_st (pc' := 1) (L' := [some (.ref 65), none]) (st' := [.ref 65]) (h' := Hp S) 1 (fun Z => rfl) ?_
  refine wp_call (pc' := 4) (rest := []) (fun Z => rfl) (isO_of sh65) hw ?_
  rintro o h1 ⟨x1, S2, rfl, rfl, hw⟩
  refine ⟨_, rfl, ?_⟩
  show wp E (d + 1) m_m_line 4 [some (.ref 65), none] [.int x1] (Hp S2) (QV Q)
  refine wp_st (pc' := 8) (L' := [some (.ref 65), some (.int x1)]) (st' := [.int 10, .int x1]) (h' := Hp S2) 3 (fun Z => rfl) ?_
  by_cases hc : x1 = 10
  · rw [if_pos hc] at hw
    refine wp_st (pc' := 11) (L' := [some (.ref 65), some (.int x1)]) (st' := []) (h' := Hp S2) 1 (fun Z => if_pos hc) ?_
    refine wp_st (pc' := 13) (L' := [some (.ref 65), some (.int x1)]) (st' := [.ref 65, .ref 65]) (h' := Hp S2) 2 (fun Z => rfl) ?_
    refine wp_st (pc' := 16) (L' := [some (.ref 65), some (.int x1)]) (st' := [.int (S2 65 25), .ref 65]) (h' := Hp S2) 1 (fun Z => gfI (E := E) sh65 rfl _) ?_
    refine wp_st (pc' := 18) (L' := [some (.ref 65), some (.int x1)]) (st' := [.int 7, .int (S2 65 25), .ref 65]) (h' := Hp S2) 1 (fun Z => rfl) ?_
    by_cases hc : (S2 65 25) = 7
    · rw [if_pos hc] at hw
      refine wp_st (pc' := 21) (L' := [some (.ref 65), some (.int x1)]) (st' := [.ref 65]) (h' := Hp S2) 1 (fun Z => if_pos hc) ?_
      exact wp_st 2 (fun Z => rfl) (show wp E (d + 1) m_m_line 26 [some (.ref 65), some (.int x1)] [.int 1, .ref 65] (Hp S2) (QV Q) from (hw (some (.int x1))))
    · rw [if_neg hc] at hw
      refine wp_st (pc' := 25) (L' := [some (.ref 65), some (.int x1)]) (st' := [.ref 65]) (h' := Hp S2) 1 (fun Z => if_neg hc) ?_
      exact wp_st 1 (fun Z => rfl) (show wp E (d + 1) m_m_line 26 [some (.ref 65), some (.int x1)] [.int 0, .ref 65] (Hp S2) (QV Q) from (hw (some (.int x1))))
  · rw [if_neg hc] at hw
    refine wp_st (pc' := 40) (L' := [some (.ref 65), some (.int x1)]) (st' := []) (h' := Hp S2) 1 (fun Z => if_neg hc) ?_
    refine wp_st (pc' := 43) (L' := [some (.ref 65), some (.int x1)]) (st' := [.int 11, .int x1]) (h' := Hp S2) 2 (fun Z => rfl) ?_
    by_cases hc : x1 = 11
    · rw [if_pos hc] at hw
      refine wp_st (pc' := 46) (L' := [some (.ref 65), some (.int x1)]) (st' := []) (h' := Hp S2) 1 (fun Z => if_pos hc) ?_
      refine wp_st (pc' := 48) (L' := [some (.ref 65), some (.int x1)]) (st' := [.ref 65, .ref 65]) (h' := Hp S2) 2 (fun Z => rfl) ?_
      refine wp_st (pc' := 51) (L' := [some (.ref 65), some (.int x1)]) (st' := [.int (S2 65 26), .ref 65]) (h' := Hp S2) 1 (fun Z => gfI (E := E) sh65 rfl _) ?_
      refine wp_st (pc' := 53) (L' := [some (.ref 65), some (.int x1)]) (st' := [.int 10, .int (S2 65 26), .ref 65]) (h' := Hp S2) 1 (fun Z => rfl) ?_
      by_cases hc : (S2 65 26) = 10
      · rw [if_pos hc] at hw
        refine wp_st (pc' := 56) (L' := [some (.ref 65), some (.int x1)]) (st' := [.ref 65]) (h' := Hp S2) 1 (fun Z => if_pos hc) ?_
        exact wp_st 2 (fun Z => rfl) (show wp E (d + 1) m_m_line 61 [some (.ref 65), some (.int x1)] [.int 1, .ref 65] (Hp S2) (QV Q) from (hw (some (.int x1))))
      · rw [if_neg hc] at hw
        refine wp_st (pc' := 60) (L' := [some (.ref 65), some (.int x1)]) (st' := [.ref 65]) (h' := Hp S2) 1 (fun Z => if_neg hc) ?_
        exact wp_st 1 (fun Z => rfl) (show wp E (d + 1) m_m_line 61 [some (.ref 65), some (.int x1)] [.int 0, .ref 65] (Hp S2) (QV Q) from (hw (some (.int x1))))
    · rw [if_neg hc] at hw
      refine wp_st (pc' := 75) (L' := [some (.ref 65), some (.int x1)]) (st' := []) (h' := Hp S2) 1 (fun Z => if_neg hc) ?_
      refine wp_st (pc' := 78) (L' := [some (.ref 65), some (.int x1)]) (st' := [.int 12, .int x1]) (h' := Hp S2) 2 (fun Z => rfl) ?_
      by_cases hc : x1 = 12
      · rw [if_pos hc] at hw
        refine wp_st (pc' := 81) (L' := [some (.ref 65), some (.int x1)]) (st' := []) (h' := Hp S2) 1 (fun Z => if_pos hc) ?_
        refine wp_st (pc' := 84) (L' := [some (.ref 65), some (.int x1)]) (st' := [.ref 65, .int 0, .ref 65]) (h' := Hp S2) 3 (fun Z => rfl) ?_
        refine wp_st (pc' := 87) (L' := [some (.ref 65), some (.int x1)]) (st' := [.int (S2 65 27), .int 0, .ref 65]) (h' := Hp S2) 1 (fun Z => gfI (E := E) sh65 rfl _) ?_
        refine wp_st (pc' := 88) (L' := [some (.ref 65), some (.int x1)]) (st' := [.int (-1), .int (S2 65 27), .int 0, .ref 65]) (h' := Hp S2) 1 (fun Z => congrArg (fun v => Z (d + 1) m_m_line 88 [some (.ref 65), some (.int x1)] [.int v, .int (S2 65 27), .int 0, .ref 65] (Hp S2)) (show Int32.ofInt (-1) = (-1) by decide)) ?_
        by_cases hc : (S2 65 27) = (-1)
        · rw [if_pos hc] at hw
          refine wp_st (pc' := 95) (L' := [some (.ref 65), some (.int x1)]) (st' := [.int 0, .ref 65]) (h' := Hp S2) 1 (fun Z => if_pos hc) ?_
          exact wp_st 1 (fun Z => rfl) (show wp E (d + 1) m_m_line 96 [some (.ref 65), some (.int x1)] [.int 0, .int 0, .ref 65] (Hp S2) (QV Q) from (hw (some (.int x1))))
        · rw [if_neg hc] at hw
          refine wp_st (pc' := 91) (L' := [some (.ref 65), some (.int x1)]) (st' := [.int 0, .ref 65]) (h' := Hp S2) 1 (fun Z => if_neg hc) ?_
          exact wp_st 2 (fun Z => rfl) (show wp E (d + 1) m_m_line 96 [some (.ref 65), some (.int x1)] [.int 1, .int 0, .ref 65] (Hp S2) (QV Q) from (hw (some (.int x1))))
      · rw [if_neg hc] at hw
        refine wp_st (pc' := 119) (L' := [some (.ref 65), some (.int x1)]) (st' := []) (h' := Hp S2) 1 (fun Z => if_neg hc) ?_
        refine wp_st (pc' := 122) (L' := [some (.ref 65), some (.int x1)]) (st' := [.int 13, .int x1]) (h' := Hp S2) 2 (fun Z => rfl) ?_
        by_cases hc : x1 = 13
        · rw [if_pos hc] at hw
          refine wp_st (pc' := 125) (L' := [some (.ref 65), some (.int x1)]) (st' := []) (h' := Hp S2) 1 (fun Z => if_pos hc) ?_
          refine wp_st (pc' := 128) (L' := [some (.ref 65), some (.int x1)]) (st' := [.ref 65, .int 0, .ref 65]) (h' := Hp S2) 3 (fun Z => rfl) ?_
          refine wp_st (pc' := 131) (L' := [some (.ref 65), some (.int x1)]) (st' := [.int (S2 65 28), .int 0, .ref 65]) (h' := Hp S2) 1 (fun Z => gfI (E := E) sh65 rfl _) ?_
          refine wp_st (pc' := 132) (L' := [some (.ref 65), some (.int x1)]) (st' := [.int (-1), .int (S2 65 28), .int 0, .ref 65]) (h' := Hp S2) 1 (fun Z => congrArg (fun v => Z (d + 1) m_m_line 132 [some (.ref 65), some (.int x1)] [.int v, .int (S2 65 28), .int 0, .ref 65] (Hp S2)) (show Int32.ofInt (-1) = (-1) by decide)) ?_
          by_cases hc : (S2 65 28) = (-1)
          · rw [if_pos hc] at hw
            refine wp_st (pc' := 139) (L' := [some (.ref 65), some (.int x1)]) (st' := [.int 0, .ref 65]) (h' := Hp S2) 1 (fun Z => if_pos hc) ?_
            exact wp_st 1 (fun Z => rfl) (show wp E (d + 1) m_m_line 140 [some (.ref 65), some (.int x1)] [.int 0, .int 0, .ref 65] (Hp S2) (QV Q) from (hw (some (.int x1))))
          · rw [if_neg hc] at hw
            refine wp_st (pc' := 135) (L' := [some (.ref 65), some (.int x1)]) (st' := [.int 0, .ref 65]) (h' := Hp S2) 1 (fun Z => if_neg hc) ?_
            exact wp_st 2 (fun Z => rfl) (show wp E (d + 1) m_m_line 140 [some (.ref 65), some (.int x1)] [.int 1, .int 0, .ref 65] (Hp S2) (QV Q) from (hw (some (.int x1))))
        · rw [if_neg hc] at hw
          refine wp_st (pc' := 164) (L' := [some (.ref 65), some (.int x1)]) (st' := []) (h' := Hp S2) 1 (fun Z => if_neg hc) ?_
          refine wp_st (pc' := 166) (L' := [some (.ref 65), some (.int x1)]) (st' := [.int 1, .ref 65]) (h' := Hp S2) 2 (fun Z => rfl) ?_
          refine wp_call (pc' := 169) (rest := []) (fun Z => rfl) (isO_of sh65) hw ?_
          rintro o h1 ⟨S4, rfl, rfl, hw⟩
          refine ⟨_, rfl, ?_⟩
          show wp E (d + 1) m_m_line 169 [some (.ref 65), some (.int x1)] [] (Hp S4) (QV Q)
          refine wp_st (pc' := 173) (L' := [some (.ref 65), some (.int x1)]) (st' := [.int 59, .ref 65, .ref 65]) (h' := Hp S4) 3 (fun Z => rfl) ?_
          refine wp_call (pc' := 176) (rest := [.ref 65]) (fun Z => rfl) (isO_of sh65) hw ?_
          rintro o h1 ⟨x5, S6, rfl, rfl, hw⟩
          refine ⟨_, rfl, ?_⟩
          show wp E (d + 1) m_m_line 176 [some (.ref 65), some (.int x1)] [.int x5, .ref 65] (Hp S6) (QV Q)
          refine wp_call (pc' := 179) (rest := []) (fun Z => rfl) (isO_of sh65) hw ?_
          rintro o h1 ⟨S8, rfl, rfl, hw⟩
          refine ⟨_, rfl, ?_⟩
          show wp E (d + 1) m_m_line 179 [some (.ref 65), some (.int x1)] [] (Hp S8) (QV Q)
          exact wp_ret (fun Z => rfl) ⟨_, rfl, rfl, hw⟩
set_option maxRecDepth 4000 in
theorem w_m_line_26 {E : zX} {d : Nat} {S : St} {s1 : Int32} {Q : St → Prop} (hd : 1 ≤ d) 
    (hw : k_m_begins E (d - 1) S s1 0 (fun x1 S2 =>
    if x1 = 0 then (
      k_m_isSign E (d - 1) S2 59 (fun x3 S4 =>
      k_m_need E (d - 1) S4 x3 (fun S6 =>
      Q S6)))
    else (
      k_m_readsPerson E (d - 1) S2 (fun S8 =>
      k_m_isSign E (d - 1) S8 59 (fun x9 S10 =>
      k_m_need E (d - 1) S10 x9 (fun S12 =>
      Q S12)))))) :
    k_m_line_26 E d S s1 Q := by
  obtain ⟨d, rfl⟩ := Nat.exists_eq_add_of_le' hd
  intro j1
  show wp E (d + 1) m_m_line 26 [some (.ref 65), j1] [.int s1, .ref 65] (Hp S) (QV Q)
  refine wp_st (pc' := 27) (L' := [some (.ref 65), j1]) (st' := [.int 0, .int s1, .ref 65]) (h' := Hp S) 1 (fun Z => rfl) ?_
  refine wp_call (pc' := 30) (rest := []) (fun Z => rfl) (isO_of sh65) hw ?_
  rintro o h1 ⟨x1, S2, rfl, rfl, hw⟩
  refine ⟨_, rfl, ?_⟩
  show wp E (d + 1) m_m_line 30 [some (.ref 65), j1] [.int x1] (Hp S2) (QV Q)
  by_cases hc : x1 = 0
  · rw [if_pos hc] at hw
    refine wp_st (pc' := 169) (L' := [some (.ref 65), j1]) (st' := []) (h' := Hp S2) 1 (fun Z => if_pos hc) ?_
    refine wp_st (pc' := 173) (L' := [some (.ref 65), j1]) (st' := [.int 59, .ref 65, .ref 65]) (h' := Hp S2) 3 (fun Z => rfl) ?_
    refine wp_call (pc' := 176) (rest := [.ref 65]) (fun Z => rfl) (isO_of sh65) hw ?_
    rintro o h1 ⟨x3, S4, rfl, rfl, hw⟩
    refine ⟨_, rfl, ?_⟩
    show wp E (d + 1) m_m_line 176 [some (.ref 65), j1] [.int x3, .ref 65] (Hp S4) (QV Q)
    refine wp_call (pc' := 179) (rest := []) (fun Z => rfl) (isO_of sh65) hw ?_
    rintro o h1 ⟨S6, rfl, rfl, hw⟩
    refine ⟨_, rfl, ?_⟩
    show wp E (d + 1) m_m_line 179 [some (.ref 65), j1] [] (Hp S6) (QV Q)
    exact wp_ret (fun Z => rfl) ⟨_, rfl, rfl, hw⟩
  · rw [if_neg hc] at hw
    refine wp_st (pc' := 33) (L' := [some (.ref 65), j1]) (st' := []) (h' := Hp S2) 1 (fun Z => if_neg hc) ?_
    refine wp_st (pc' := 34) (L' := [some (.ref 65), j1]) (st' := [.ref 65]) (h' := Hp S2) 1 (fun Z => rfl) ?_
    refine wp_call (pc' := 37) (rest := []) (fun Z => rfl) (isO_of sh65) hw ?_
    rintro o h1 ⟨S8, rfl, rfl, hw⟩
    refine ⟨_, rfl, ?_⟩
    show wp E (d + 1) m_m_line 37 [some (.ref 65), j1] [] (Hp S8) (QV Q)
    refine wp_st (pc' := 173) (L' := [some (.ref 65), j1]) (st' := [.int 59, .ref 65, .ref 65]) (h' := Hp S8) 4 (fun Z => rfl) ?_
    refine wp_call (pc' := 176) (rest := [.ref 65]) (fun Z => rfl) (isO_of sh65) hw ?_
    rintro o h1 ⟨x9, S10, rfl, rfl, hw⟩
    refine ⟨_, rfl, ?_⟩
    show wp E (d + 1) m_m_line 176 [some (.ref 65), j1] [.int x9, .ref 65] (Hp S10) (QV Q)
    refine wp_call (pc' := 179) (rest := []) (fun Z => rfl) (isO_of sh65) hw ?_
    rintro o h1 ⟨S12, rfl, rfl, hw⟩
    refine ⟨_, rfl, ?_⟩
    show wp E (d + 1) m_m_line 179 [some (.ref 65), j1] [] (Hp S12) (QV Q)
    exact wp_ret (fun Z => rfl) ⟨_, rfl, rfl, hw⟩
set_option maxRecDepth 4000 in
theorem w_m_line_61 {E : zX} {d : Nat} {S : St} {s1 : Int32} {Q : St → Prop} (hd : 1 ≤ d) 
    (hw : k_m_begins E (d - 1) S s1 0 (fun x1 S2 =>
    if x1 = 0 then (
      k_m_isSign E (d - 1) S2 59 (fun x3 S4 =>
      k_m_need E (d - 1) S4 x3 (fun S6 =>
      Q S6)))
    else (
      k_m_readsBall E (d - 1) S2 (fun S8 =>
      k_m_isSign E (d - 1) S8 59 (fun x9 S10 =>
      k_m_need E (d - 1) S10 x9 (fun S12 =>
      Q S12)))))) :
    k_m_line_61 E d S s1 Q := by
  obtain ⟨d, rfl⟩ := Nat.exists_eq_add_of_le' hd
  intro j1
  show wp E (d + 1) m_m_line 61 [some (.ref 65), j1] [.int s1, .ref 65] (Hp S) (QV Q)
  refine wp_st (pc' := 62) (L' := [some (.ref 65), j1]) (st' := [.int 0, .int s1, .ref 65]) (h' := Hp S) 1 (fun Z => rfl) ?_
  refine wp_call (pc' := 65) (rest := []) (fun Z => rfl) (isO_of sh65) hw ?_
  rintro o h1 ⟨x1, S2, rfl, rfl, hw⟩
  refine ⟨_, rfl, ?_⟩
  show wp E (d + 1) m_m_line 65 [some (.ref 65), j1] [.int x1] (Hp S2) (QV Q)
  by_cases hc : x1 = 0
  · rw [if_pos hc] at hw
    refine wp_st (pc' := 169) (L' := [some (.ref 65), j1]) (st' := []) (h' := Hp S2) 1 (fun Z => if_pos hc) ?_
    refine wp_st (pc' := 173) (L' := [some (.ref 65), j1]) (st' := [.int 59, .ref 65, .ref 65]) (h' := Hp S2) 3 (fun Z => rfl) ?_
    refine wp_call (pc' := 176) (rest := [.ref 65]) (fun Z => rfl) (isO_of sh65) hw ?_
    rintro o h1 ⟨x3, S4, rfl, rfl, hw⟩
    refine ⟨_, rfl, ?_⟩
    show wp E (d + 1) m_m_line 176 [some (.ref 65), j1] [.int x3, .ref 65] (Hp S4) (QV Q)
    refine wp_call (pc' := 179) (rest := []) (fun Z => rfl) (isO_of sh65) hw ?_
    rintro o h1 ⟨S6, rfl, rfl, hw⟩
    refine ⟨_, rfl, ?_⟩
    show wp E (d + 1) m_m_line 179 [some (.ref 65), j1] [] (Hp S6) (QV Q)
    exact wp_ret (fun Z => rfl) ⟨_, rfl, rfl, hw⟩
  · rw [if_neg hc] at hw
    refine wp_st (pc' := 68) (L' := [some (.ref 65), j1]) (st' := []) (h' := Hp S2) 1 (fun Z => if_neg hc) ?_
    refine wp_st (pc' := 69) (L' := [some (.ref 65), j1]) (st' := [.ref 65]) (h' := Hp S2) 1 (fun Z => rfl) ?_
    refine wp_call (pc' := 72) (rest := []) (fun Z => rfl) (isO_of sh65) hw ?_
    rintro o h1 ⟨S8, rfl, rfl, hw⟩
    refine ⟨_, rfl, ?_⟩
    show wp E (d + 1) m_m_line 72 [some (.ref 65), j1] [] (Hp S8) (QV Q)
    refine wp_st (pc' := 173) (L' := [some (.ref 65), j1]) (st' := [.int 59, .ref 65, .ref 65]) (h' := Hp S8) 4 (fun Z => rfl) ?_
    refine wp_call (pc' := 176) (rest := [.ref 65]) (fun Z => rfl) (isO_of sh65) hw ?_
    rintro o h1 ⟨x9, S10, rfl, rfl, hw⟩
    refine ⟨_, rfl, ?_⟩
    show wp E (d + 1) m_m_line 176 [some (.ref 65), j1] [.int x9, .ref 65] (Hp S10) (QV Q)
    refine wp_call (pc' := 179) (rest := []) (fun Z => rfl) (isO_of sh65) hw ?_
    rintro o h1 ⟨S12, rfl, rfl, hw⟩
    refine ⟨_, rfl, ?_⟩
    show wp E (d + 1) m_m_line 179 [some (.ref 65), j1] [] (Hp S12) (QV Q)
    exact wp_ret (fun Z => rfl) ⟨_, rfl, rfl, hw⟩
set_option maxRecDepth 4000 in
theorem w_m_line_96 {E : zX} {d : Nat} {S : St} {s1 : Int32} {s2 : Int32} {Q : St → Prop} (hd : 1 ≤ d) 
    (hw : k_m_begins E (d - 1) S s1 s2 (fun x1 S2 =>
    if x1 = 0 then (
      k_m_isSign E (d - 1) S2 59 (fun x3 S4 =>
      k_m_need E (d - 1) S4 x3 (fun S6 =>
      Q S6)))
    else (
      ∀ S7, S7 = up S2 65 27 (S2 65 29) →
      k_m_expression E (d - 1) S7 0 4 (fun S9 =>
      k_m_isSign E (d - 1) S9 59 (fun x10 S11 =>
      k_m_need E (d - 1) S11 x10 (fun S13 =>
      Q S13)))))) :
    k_m_line_96 E d S s1 s2 Q := by
  obtain ⟨d, rfl⟩ := Nat.exists_eq_add_of_le' hd
  intro j1
  show wp E (d + 1) m_m_line 96 [some (.ref 65), j1] [.int s2, .int s1, .ref 65] (Hp S) (QV Q)
  refine wp_call (pc' := 99) (rest := []) (fun Z => rfl) (isO_of sh65) hw ?_
  rintro o h1 ⟨x1, S2, rfl, rfl, hw⟩
  refine ⟨_, rfl, ?_⟩
  show wp E (d + 1) m_m_line 99 [some (.ref 65), j1] [.int x1] (Hp S2) (QV Q)
  by_cases hc : x1 = 0
  · rw [if_pos hc] at hw
    refine wp_st (pc' := 169) (L' := [some (.ref 65), j1]) (st' := []) (h' := Hp S2) 1 (fun Z => if_pos hc) ?_
    refine wp_st (pc' := 173) (L' := [some (.ref 65), j1]) (st' := [.int 59, .ref 65, .ref 65]) (h' := Hp S2) 3 (fun Z => rfl) ?_
    refine wp_call (pc' := 176) (rest := [.ref 65]) (fun Z => rfl) (isO_of sh65) hw ?_
    rintro o h1 ⟨x3, S4, rfl, rfl, hw⟩
    refine ⟨_, rfl, ?_⟩
    show wp E (d + 1) m_m_line 176 [some (.ref 65), j1] [.int x3, .ref 65] (Hp S4) (QV Q)
    refine wp_call (pc' := 179) (rest := []) (fun Z => rfl) (isO_of sh65) hw ?_
    rintro o h1 ⟨S6, rfl, rfl, hw⟩
    refine ⟨_, rfl, ?_⟩
    show wp E (d + 1) m_m_line 179 [some (.ref 65), j1] [] (Hp S6) (QV Q)
    exact wp_ret (fun Z => rfl) ⟨_, rfl, rfl, hw⟩
  · rw [if_neg hc] at hw
    refine wp_st (pc' := 102) (L' := [some (.ref 65), j1]) (st' := []) (h' := Hp S2) 1 (fun Z => if_neg hc) ?_
    refine wp_st (pc' := 104) (L' := [some (.ref 65), j1]) (st' := [.ref 65, .ref 65]) (h' := Hp S2) 2 (fun Z => rfl) ?_
    refine wp_st (pc' := 107) (L' := [some (.ref 65), j1]) (st' := [.int (S2 65 29), .ref 65]) (h' := Hp S2) 1 (fun Z => gfI (E := E) sh65 rfl _) ?_
    have hw := hw _ rfl
    refine wp_st (pc' := 110) (L' := [some (.ref 65), j1]) (st' := []) (h' := Hp (up S2 65 27 (S2 65 29))) 1 (fun Z => pfI sh65 rfl (Nat.le_of_ble_eq_true rfl) rfl _) ?_
    generalize up S2 65 27 (S2 65 29) = S7 at hw ⊢
    refine wp_st (pc' := 113) (L' := [some (.ref 65), j1]) (st' := [.int 4, .int 0, .ref 65]) (h' := Hp S7) 3 (fun Z => rfl) ?_
    refine wp_call (pc' := 116) (rest := []) (fun Z => rfl) (isO_of sh65) hw ?_
    rintro o h1 ⟨S9, rfl, rfl, hw⟩
    refine ⟨_, rfl, ?_⟩
    show wp E (d + 1) m_m_line 116 [some (.ref 65), j1] [] (Hp S9) (QV Q)
    refine wp_st (pc' := 173) (L' := [some (.ref 65), j1]) (st' := [.int 59, .ref 65, .ref 65]) (h' := Hp S9) 4 (fun Z => rfl) ?_
    refine wp_call (pc' := 176) (rest := [.ref 65]) (fun Z => rfl) (isO_of sh65) hw ?_
    rintro o h1 ⟨x10, S11, rfl, rfl, hw⟩
    refine ⟨_, rfl, ?_⟩
    show wp E (d + 1) m_m_line 176 [some (.ref 65), j1] [.int x10, .ref 65] (Hp S11) (QV Q)
    refine wp_call (pc' := 179) (rest := []) (fun Z => rfl) (isO_of sh65) hw ?_
    rintro o h1 ⟨S13, rfl, rfl, hw⟩
    refine ⟨_, rfl, ?_⟩
    show wp E (d + 1) m_m_line 179 [some (.ref 65), j1] [] (Hp S13) (QV Q)
    exact wp_ret (fun Z => rfl) ⟨_, rfl, rfl, hw⟩
set_option maxRecDepth 4000 in
theorem w_m_line_140 {E : zX} {d : Nat} {S : St} {s1 : Int32} {s2 : Int32} {Q : St → Prop} (hd : 1 ≤ d) 
    (hw : k_m_begins E (d - 1) S s1 s2 (fun x1 S2 =>
    if x1 = 0 then (
      k_m_isSign E (d - 1) S2 59 (fun x3 S4 =>
      k_m_need E (d - 1) S4 x3 (fun S6 =>
      Q S6)))
    else (
      ∀ S7, S7 = up S2 65 28 (S2 65 29) →
      k_m_expression E (d - 1) S7 4 8 (fun S9 =>
      k_m_isSign E (d - 1) S9 59 (fun x10 S11 =>
      k_m_need E (d - 1) S11 x10 (fun S13 =>
      Q S13)))))) :
    k_m_line_140 E d S s1 s2 Q := by
  obtain ⟨d, rfl⟩ := Nat.exists_eq_add_of_le' hd
  intro j1
  show wp E (d + 1) m_m_line 140 [some (.ref 65), j1] [.int s2, .int s1, .ref 65] (Hp S) (QV Q)
  refine wp_call (pc' := 143) (rest := []) (fun Z => rfl) (isO_of sh65) hw ?_
  rintro o h1 ⟨x1, S2, rfl, rfl, hw⟩
  refine ⟨_, rfl, ?_⟩
  show wp E (d + 1) m_m_line 143 [some (.ref 65), j1] [.int x1] (Hp S2) (QV Q)
  by_cases hc : x1 = 0
  · rw [if_pos hc] at hw
    refine wp_st (pc' := 169) (L' := [some (.ref 65), j1]) (st' := []) (h' := Hp S2) 1 (fun Z => if_pos hc) ?_
    refine wp_st (pc' := 173) (L' := [some (.ref 65), j1]) (st' := [.int 59, .ref 65, .ref 65]) (h' := Hp S2) 3 (fun Z => rfl) ?_
    refine wp_call (pc' := 176) (rest := [.ref 65]) (fun Z => rfl) (isO_of sh65) hw ?_
    rintro o h1 ⟨x3, S4, rfl, rfl, hw⟩
    refine ⟨_, rfl, ?_⟩
    show wp E (d + 1) m_m_line 176 [some (.ref 65), j1] [.int x3, .ref 65] (Hp S4) (QV Q)
    refine wp_call (pc' := 179) (rest := []) (fun Z => rfl) (isO_of sh65) hw ?_
    rintro o h1 ⟨S6, rfl, rfl, hw⟩
    refine ⟨_, rfl, ?_⟩
    show wp E (d + 1) m_m_line 179 [some (.ref 65), j1] [] (Hp S6) (QV Q)
    exact wp_ret (fun Z => rfl) ⟨_, rfl, rfl, hw⟩
  · rw [if_neg hc] at hw
    refine wp_st (pc' := 146) (L' := [some (.ref 65), j1]) (st' := []) (h' := Hp S2) 1 (fun Z => if_neg hc) ?_
    refine wp_st (pc' := 148) (L' := [some (.ref 65), j1]) (st' := [.ref 65, .ref 65]) (h' := Hp S2) 2 (fun Z => rfl) ?_
    refine wp_st (pc' := 151) (L' := [some (.ref 65), j1]) (st' := [.int (S2 65 29), .ref 65]) (h' := Hp S2) 1 (fun Z => gfI (E := E) sh65 rfl _) ?_
    have hw := hw _ rfl
    refine wp_st (pc' := 154) (L' := [some (.ref 65), j1]) (st' := []) (h' := Hp (up S2 65 28 (S2 65 29))) 1 (fun Z => pfI sh65 rfl (Nat.le_of_ble_eq_true rfl) rfl _) ?_
    generalize up S2 65 28 (S2 65 29) = S7 at hw ⊢
    refine wp_st (pc' := 158) (L' := [some (.ref 65), j1]) (st' := [.int 8, .int 4, .ref 65]) (h' := Hp S7) 3 (fun Z => rfl) ?_
    refine wp_call (pc' := 161) (rest := []) (fun Z => rfl) (isO_of sh65) hw ?_
    rintro o h1 ⟨S9, rfl, rfl, hw⟩
    refine ⟨_, rfl, ?_⟩
    show wp E (d + 1) m_m_line 161 [some (.ref 65), j1] [] (Hp S9) (QV Q)
    refine wp_st (pc' := 173) (L' := [some (.ref 65), j1]) (st' := [.int 59, .ref 65, .ref 65]) (h' := Hp S9) 4 (fun Z => rfl) ?_
    refine wp_call (pc' := 176) (rest := [.ref 65]) (fun Z => rfl) (isO_of sh65) hw ?_
    rintro o h1 ⟨x10, S11, rfl, rfl, hw⟩
    refine ⟨_, rfl, ?_⟩
    show wp E (d + 1) m_m_line 176 [some (.ref 65), j1] [.int x10, .ref 65] (Hp S11) (QV Q)
    refine wp_call (pc' := 179) (rest := []) (fun Z => rfl) (isO_of sh65) hw ?_
    rintro o h1 ⟨S13, rfl, rfl, hw⟩
    refine ⟨_, rfl, ?_⟩
    show wp E (d + 1) m_m_line 179 [some (.ref 65), j1] [] (Hp S13) (QV Q)
    exact wp_ret (fun Z => rfl) ⟨_, rfl, rfl, hw⟩
set_option maxRecDepth 4000 in
theorem w_m_readsPerson {E : zX} {d : Nat} {S : St}  {Q : St → Prop} (hd : 1 ≤ d) 
    (hw : k_m_cellHere E (d - 1) S (fun x1 S2 =>
    ∃ m4 : Nat, (S 65 25) = nI m4 ∧ m4 < 7 ∧
    ∀ S3, S3 = up S2 71 m4 x1 →
    k_m_number E (d - 1) S3 0 9 (fun x5 S6 =>
    ∃ m8 : Nat, ((22 : Int32) + (S 65 25)) = nI m8 ∧ m8 < 79 ∧
    ∀ S7, S7 = up S6 73 m8 x5 →
    k_m_number E (d - 1) S7 0 99 (fun x9 S10 =>
    ∃ m12 : Nat, ((1 : Int32) + (S 65 25)) = nI m12 ∧ m12 < 79 ∧
    ∀ S11, S11 = up S10 73 m12 x9 →
    k_m_isGood E (d - 1) S11 (fun x13 S14 =>
    if x13 = 0 then (
      Q S14)
    else (
      ∀ S15, S15 = up S14 65 25 ((S14 65 25) + (1 : Int32)) →
      Q S15)))))) :
    k_m_readsPerson E d S Q := by
  obtain ⟨d, rfl⟩ := Nat.exists_eq_add_of_le' hd
  show wp E (d + 1) m_m_readsPerson 0 [some (.ref 65), none] [] (Hp S) (QV Q)
  refine wp_st (pc' := 1) (L' := [some (.ref 65), none]) (st' := [.ref 65]) (h' := Hp S) 1 (fun Z => rfl) ?_
  refine wp_st (pc' := 4) (L' := [some (.ref 65), none]) (st' := [.int (S 65 25)]) (h' := Hp S) 1 (fun Z => gfI (E := E) sh65 rfl _) ?_
  refine wp_st (pc' := 6) (L' := [some (.ref 65), some (.int (S 65 25))]) (st' := [.ref 65]) (h' := Hp S) 2 (fun Z => rfl) ?_
  refine wp_st (pc' := 9) (L' := [some (.ref 65), some (.int (S 65 25))]) (st' := [.ref 71]) (h' := Hp S) 1 (fun Z => gfR (E := E) sh65 rfl _) ?_
  refine wp_st (pc' := 11) (L' := [some (.ref 65), some (.int (S 65 25))]) (st' := [.ref 65, .int (S 65 25), .ref 71]) (h' := Hp S) 2 (fun Z => rfl) ?_
  refine wp_call (pc' := 14) (rest := [.int (S 65 25), .ref 71]) (fun Z => rfl) (isO_of sh65) hw ?_
  rintro o h1 ⟨x1, S2, rfl, rfl, hw⟩
  refine ⟨_, rfl, ?_⟩
  show wp E (d + 1) m_m_readsPerson 14 [some (.ref 65), some (.int (S 65 25))] [.int x1, .int (S 65 25), .ref 71] (Hp S2) (QV Q)
  obtain ⟨m4, em, hi, hw⟩ := hw
  have hw := hw _ rfl
  refine wp_st (pc' := 15) (L' := [some (.ref 65), some (.int (S 65 25))]) (st' := []) (h' := Hp (up S2 71 m4 x1)) 1 (fun Z => (congrArg (fun v => zit E 1 Z (d + 1) m_m_readsPerson 14 [some (.ref 65), some (.int (S 65 25))] [.int x1, .int v, .ref 71] (Hp S2)) em).trans (stN sh71 (by decide) hi _ _)) ?_
  generalize up S2 71 m4 x1 = S3 at hw ⊢
  refine wp_st (pc' := 16) (L' := [some (.ref 65), some (.int (S 65 25))]) (st' := [.ref 65]) (h' := Hp S3) 1 (fun Z => rfl) ?_
  refine wp_st (pc' := 19) (L' := [some (.ref 65), some (.int (S 65 25))]) (st' := [.ref 73]) (h' := Hp S3) 1 (fun Z => gfR (E := E) sh65 rfl _) ?_
  refine wp_st (pc' := 27) (L' := [some (.ref 65), some (.int (S 65 25))]) (st' := [.int 9, .int 0, .ref 65, .int ((22 : Int32) + (S 65 25)), .ref 73]) (h' := Hp S3) 6 (fun Z => rfl) ?_
  refine wp_call (pc' := 30) (rest := [.int ((22 : Int32) + (S 65 25)), .ref 73]) (fun Z => rfl) (isO_of sh65) hw ?_
  rintro o h1 ⟨x5, S6, rfl, rfl, hw⟩
  refine ⟨_, rfl, ?_⟩
  show wp E (d + 1) m_m_readsPerson 30 [some (.ref 65), some (.int (S 65 25))] [.int x5, .int ((22 : Int32) + (S 65 25)), .ref 73] (Hp S6) (QV Q)
  obtain ⟨m8, em, hi, hw⟩ := hw
  have hw := hw _ rfl
  refine wp_st (pc' := 31) (L' := [some (.ref 65), some (.int (S 65 25))]) (st' := []) (h' := Hp (up S6 73 m8 x5)) 1 (fun Z => (congrArg (fun v => zit E 1 Z (d + 1) m_m_readsPerson 30 [some (.ref 65), some (.int (S 65 25))] [.int x5, .int v, .ref 73] (Hp S6)) em).trans (stN sh73 (by decide) hi _ _)) ?_
  generalize up S6 73 m8 x5 = S7 at hw ⊢
  refine wp_st (pc' := 32) (L' := [some (.ref 65), some (.int (S 65 25))]) (st' := [.ref 65]) (h' := Hp S7) 1 (fun Z => rfl) ?_
  refine wp_st (pc' := 35) (L' := [some (.ref 65), some (.int (S 65 25))]) (st' := [.ref 73]) (h' := Hp S7) 1 (fun Z => gfR (E := E) sh65 rfl _) ?_
  refine wp_st (pc' := 42) (L' := [some (.ref 65), some (.int (S 65 25))]) (st' := [.int 99, .int 0, .ref 65, .int ((1 : Int32) + (S 65 25)), .ref 73]) (h' := Hp S7) 6 (fun Z => rfl) ?_
  refine wp_call (pc' := 45) (rest := [.int ((1 : Int32) + (S 65 25)), .ref 73]) (fun Z => rfl) (isO_of sh65) hw ?_
  rintro o h1 ⟨x9, S10, rfl, rfl, hw⟩
  refine ⟨_, rfl, ?_⟩
  show wp E (d + 1) m_m_readsPerson 45 [some (.ref 65), some (.int (S 65 25))] [.int x9, .int ((1 : Int32) + (S 65 25)), .ref 73] (Hp S10) (QV Q)
  obtain ⟨m12, em, hi, hw⟩ := hw
  have hw := hw _ rfl
  refine wp_st (pc' := 46) (L' := [some (.ref 65), some (.int (S 65 25))]) (st' := []) (h' := Hp (up S10 73 m12 x9)) 1 (fun Z => (congrArg (fun v => zit E 1 Z (d + 1) m_m_readsPerson 45 [some (.ref 65), some (.int (S 65 25))] [.int x9, .int v, .ref 73] (Hp S10)) em).trans (stN sh73 (by decide) hi _ _)) ?_
  generalize up S10 73 m12 x9 = S11 at hw ⊢
  refine wp_st (pc' := 47) (L' := [some (.ref 65), some (.int (S 65 25))]) (st' := [.ref 65]) (h' := Hp S11) 1 (fun Z => rfl) ?_
  refine wp_call (pc' := 50) (rest := []) (fun Z => rfl) (isO_of sh65) hw ?_
  rintro o h1 ⟨x13, S14, rfl, rfl, hw⟩
  refine ⟨_, rfl, ?_⟩
  show wp E (d + 1) m_m_readsPerson 50 [some (.ref 65), some (.int (S 65 25))] [.int x13] (Hp S14) (QV Q)
  by_cases hc : x13 = 0
  · rw [if_pos hc] at hw
    refine wp_st (pc' := 63) (L' := [some (.ref 65), some (.int (S 65 25))]) (st' := []) (h' := Hp S14) 1 (fun Z => if_pos hc) ?_
    exact wp_ret (fun Z => rfl) ⟨_, rfl, rfl, hw⟩
  · rw [if_neg hc] at hw
    refine wp_st (pc' := 53) (L' := [some (.ref 65), some (.int (S 65 25))]) (st' := []) (h' := Hp S14) 1 (fun Z => if_neg hc) ?_
    refine wp_st (pc' := 55) (L' := [some (.ref 65), some (.int (S 65 25))]) (st' := [.ref 65, .ref 65]) (h' := Hp S14) 2 (fun Z => rfl) ?_
    refine wp_st (pc' := 58) (L' := [some (.ref 65), some (.int (S 65 25))]) (st' := [.int (S14 65 25), .ref 65]) (h' := Hp S14) 1 (fun Z => gfI (E := E) sh65 rfl _) ?_
    refine wp_st (pc' := 60) (L' := [some (.ref 65), some (.int (S 65 25))]) (st' := [.int ((S14 65 25) + (1 : Int32)), .ref 65]) (h' := Hp S14) 2 (fun Z => rfl) ?_
    have hw := hw _ rfl
    refine wp_st (pc' := 63) (L' := [some (.ref 65), some (.int (S 65 25))]) (st' := []) (h' := Hp (up S14 65 25 ((S14 65 25) + (1 : Int32)))) 1 (fun Z => pfI sh65 rfl (Nat.le_of_ble_eq_true rfl) rfl _) ?_
    generalize up S14 65 25 ((S14 65 25) + (1 : Int32)) = S15 at hw ⊢
    exact wp_ret (fun Z => rfl) ⟨_, rfl, rfl, hw⟩
set_option maxRecDepth 4000 in
theorem w_m_readsBall {E : zX} {d : Nat} {S : St}  {Q : St → Prop} (hd : 1 ≤ d) 
    (hw : k_m_cellHere E (d - 1) S (fun x1 S2 =>
    ∃ m4 : Nat, ((29 : Int32) + (S 65 26)) = nI m4 ∧ m4 < 79 ∧
    ∀ S3, S3 = up S2 73 m4 x1 →
    k_m_number E (d - 1) S3 1 99 (fun x5 S6 =>
    ∃ m8 : Nat, (S 65 26) = nI m8 ∧ m8 < 10 ∧
    ∀ S7, S7 = up S6 72 m8 x5 →
    ∃ m10 : Nat, ((39 : Int32) + (S 65 26)) = nI m10 ∧ m10 < 79 ∧
    ∀ S9, S9 = up S7 73 m10 0 →
    ∃ m12 : Nat, ((59 : Int32) + (S 65 26)) = nI m12 ∧ m12 < 79 ∧
    ∀ S11, S11 = up S9 73 m12 (-1) →
    k_m_isGood E (d - 1) S11 (fun x13 S14 =>
    if x13 = 0 then (
      k_m_readsBall_90 E d S14 Q)
    else (
      k_m_knownWord E (d - 1) S14 (fun x15 S16 =>
      if x15 = 5 then (
        k_m_goes E (d - 1) S16 (fun S18 =>
        ∃ m19 : Nat, (S 65 26) = nI m19 ∧ m19 < 10 ∧
        k_m_number E (d - 1) S18 1 (S18 72 m19) (fun x20 S21 =>
        ∃ m23 : Nat, ((39 : Int32) + (S 65 26)) = nI m23 ∧ m23 < 79 ∧
        ∀ S22, S22 = up S21 73 m23 x20 →
        k_m_readsBall_90 E d S22 Q)))
      else (
        k_m_readsBall_90 E d S16 Q))))))) :
    k_m_readsBall E d S Q := by
  obtain ⟨d, rfl⟩ := Nat.exists_eq_add_of_le' hd
  show wp E (d + 1) m_m_readsBall 0 [some (.ref 65), none] [] (Hp S) (QV Q)
  refine wp_st (pc' := 1) (L' := [some (.ref 65), none]) (st' := [.ref 65]) (h' := Hp S) 1 (fun Z => rfl) ?_
  refine wp_st (pc' := 4) (L' := [some (.ref 65), none]) (st' := [.int (S 65 26)]) (h' := Hp S) 1 (fun Z => gfI (E := E) sh65 rfl _) ?_
  refine wp_st (pc' := 6) (L' := [some (.ref 65), some (.int (S 65 26))]) (st' := [.ref 65]) (h' := Hp S) 2 (fun Z => rfl) ?_
  refine wp_st (pc' := 9) (L' := [some (.ref 65), some (.int (S 65 26))]) (st' := [.ref 73]) (h' := Hp S) 1 (fun Z => gfR (E := E) sh65 rfl _) ?_
  refine wp_st (pc' := 14) (L' := [some (.ref 65), some (.int (S 65 26))]) (st' := [.ref 65, .int ((29 : Int32) + (S 65 26)), .ref 73]) (h' := Hp S) 4 (fun Z => rfl) ?_
  refine wp_call (pc' := 17) (rest := [.int ((29 : Int32) + (S 65 26)), .ref 73]) (fun Z => rfl) (isO_of sh65) hw ?_
  rintro o h1 ⟨x1, S2, rfl, rfl, hw⟩
  refine ⟨_, rfl, ?_⟩
  show wp E (d + 1) m_m_readsBall 17 [some (.ref 65), some (.int (S 65 26))] [.int x1, .int ((29 : Int32) + (S 65 26)), .ref 73] (Hp S2) (QV Q)
  obtain ⟨m4, em, hi, hw⟩ := hw
  have hw := hw _ rfl
  refine wp_st (pc' := 18) (L' := [some (.ref 65), some (.int (S 65 26))]) (st' := []) (h' := Hp (up S2 73 m4 x1)) 1 (fun Z => (congrArg (fun v => zit E 1 Z (d + 1) m_m_readsBall 17 [some (.ref 65), some (.int (S 65 26))] [.int x1, .int v, .ref 73] (Hp S2)) em).trans (stN sh73 (by decide) hi _ _)) ?_
  generalize up S2 73 m4 x1 = S3 at hw ⊢
  refine wp_st (pc' := 19) (L' := [some (.ref 65), some (.int (S 65 26))]) (st' := [.ref 65]) (h' := Hp S3) 1 (fun Z => rfl) ?_
  refine wp_st (pc' := 22) (L' := [some (.ref 65), some (.int (S 65 26))]) (st' := [.ref 72]) (h' := Hp S3) 1 (fun Z => gfR (E := E) sh65 rfl _) ?_
  refine wp_st (pc' := 27) (L' := [some (.ref 65), some (.int (S 65 26))]) (st' := [.int 99, .int 1, .ref 65, .int (S 65 26), .ref 72]) (h' := Hp S3) 4 (fun Z => rfl) ?_
  refine wp_call (pc' := 30) (rest := [.int (S 65 26), .ref 72]) (fun Z => rfl) (isO_of sh65) hw ?_
  rintro o h1 ⟨x5, S6, rfl, rfl, hw⟩
  refine ⟨_, rfl, ?_⟩
  show wp E (d + 1) m_m_readsBall 30 [some (.ref 65), some (.int (S 65 26))] [.int x5, .int (S 65 26), .ref 72] (Hp S6) (QV Q)
  obtain ⟨m8, em, hi, hw⟩ := hw
  have hw := hw _ rfl
  refine wp_st (pc' := 31) (L' := [some (.ref 65), some (.int (S 65 26))]) (st' := []) (h' := Hp (up S6 72 m8 x5)) 1 (fun Z => (congrArg (fun v => zit E 1 Z (d + 1) m_m_readsBall 30 [some (.ref 65), some (.int (S 65 26))] [.int x5, .int v, .ref 72] (Hp S6)) em).trans (stN sh72 (by decide) hi _ _)) ?_
  generalize up S6 72 m8 x5 = S7 at hw ⊢
  refine wp_st (pc' := 32) (L' := [some (.ref 65), some (.int (S 65 26))]) (st' := [.ref 65]) (h' := Hp S7) 1 (fun Z => rfl) ?_
  refine wp_st (pc' := 35) (L' := [some (.ref 65), some (.int (S 65 26))]) (st' := [.ref 73]) (h' := Hp S7) 1 (fun Z => gfR (E := E) sh65 rfl _) ?_
  refine wp_st (pc' := 40) (L' := [some (.ref 65), some (.int (S 65 26))]) (st' := [.int 0, .int ((39 : Int32) + (S 65 26)), .ref 73]) (h' := Hp S7) 4 (fun Z => rfl) ?_
  obtain ⟨m10, em, hi, hw⟩ := hw
  have hw := hw _ rfl
  refine wp_st (pc' := 41) (L' := [some (.ref 65), some (.int (S 65 26))]) (st' := []) (h' := Hp (up S7 73 m10 0)) 1 (fun Z => (congrArg (fun v => zit E 1 Z (d + 1) m_m_readsBall 40 [some (.ref 65), some (.int (S 65 26))] [.int 0, .int v, .ref 73] (Hp S7)) em).trans (stN sh73 (by decide) hi _ _)) ?_
  generalize up S7 73 m10 0 = S9 at hw ⊢
  refine wp_st (pc' := 42) (L' := [some (.ref 65), some (.int (S 65 26))]) (st' := [.ref 65]) (h' := Hp S9) 1 (fun Z => rfl) ?_
  refine wp_st (pc' := 45) (L' := [some (.ref 65), some (.int (S 65 26))]) (st' := [.ref 73]) (h' := Hp S9) 1 (fun Z => gfR (E := E) sh65 rfl _) ?_
  refine wp_st (pc' := 49) (L' := [some (.ref 65), some (.int (S 65 26))]) (st' := [.int ((59 : Int32) + (S 65 26)), .ref 73]) (h' := Hp S9) 3 (fun Z => rfl) ?_
  refine wp_st (pc' := 50) (L' := [some (.ref 65), some (.int (S 65 26))]) (st' := [.int (-1), .int ((59 : Int32) + (S 65 26)), .ref 73]) (h' := Hp S9) 1 (fun Z => congrArg (fun v => Z (d + 1) m_m_readsBall 50 [some (.ref 65), some (.int (S 65 26))] [.int v, .int ((59 : Int32) + (S 65 26)), .ref 73] (Hp S9)) (show Int32.ofInt (-1) = (-1) by decide)) ?_
  obtain ⟨m12, em, hi, hw⟩ := hw
  have hw := hw _ rfl
  refine wp_st (pc' := 51) (L' := [some (.ref 65), some (.int (S 65 26))]) (st' := []) (h' := Hp (up S9 73 m12 (-1))) 1 (fun Z => (congrArg (fun v => zit E 1 Z (d + 1) m_m_readsBall 50 [some (.ref 65), some (.int (S 65 26))] [.int (-1), .int v, .ref 73] (Hp S9)) em).trans (stN sh73 (by decide) hi _ _)) ?_
  generalize up S9 73 m12 (-1) = S11 at hw ⊢
  refine wp_st (pc' := 52) (L' := [some (.ref 65), some (.int (S 65 26))]) (st' := [.ref 65]) (h' := Hp S11) 1 (fun Z => rfl) ?_
  refine wp_call (pc' := 55) (rest := []) (fun Z => rfl) (isO_of sh65) hw ?_
  rintro o h1 ⟨x13, S14, rfl, rfl, hw⟩
  refine ⟨_, rfl, ?_⟩
  show wp E (d + 1) m_m_readsBall 55 [some (.ref 65), some (.int (S 65 26))] [.int x13] (Hp S14) (QV Q)
  by_cases hc : x13 = 0
  · rw [if_pos hc] at hw
    refine wp_st (pc' := 90) (L' := [some (.ref 65), some (.int (S 65 26))]) (st' := []) (h' := Hp S14) 1 (fun Z => if_pos hc) ?_
    exact (show wp E (d + 1) m_m_readsBall 90 [some (.ref 65), some (.int (S 65 26))] [] (Hp S14) (QV Q) from (hw (some (.int (S 65 26)))))
  · rw [if_neg hc] at hw
    refine wp_st (pc' := 58) (L' := [some (.ref 65), some (.int (S 65 26))]) (st' := []) (h' := Hp S14) 1 (fun Z => if_neg hc) ?_
    refine wp_st (pc' := 59) (L' := [some (.ref 65), some (.int (S 65 26))]) (st' := [.ref 65]) (h' := Hp S14) 1 (fun Z => rfl) ?_
    refine wp_call (pc' := 62) (rest := []) (fun Z => rfl) (isO_of sh65) hw ?_
    rintro o h1 ⟨x15, S16, rfl, rfl, hw⟩
    refine ⟨_, rfl, ?_⟩
    show wp E (d + 1) m_m_readsBall 62 [some (.ref 65), some (.int (S 65 26))] [.int x15] (Hp S16) (QV Q)
    refine wp_st (pc' := 63) (L' := [some (.ref 65), some (.int (S 65 26))]) (st' := [.int 5, .int x15]) (h' := Hp S16) 1 (fun Z => rfl) ?_
    by_cases hc : x15 = 5
    · rw [if_pos hc] at hw
      refine wp_st (pc' := 66) (L' := [some (.ref 65), some (.int (S 65 26))]) (st' := []) (h' := Hp S16) 1 (fun Z => if_pos hc) ?_
      refine wp_st (pc' := 67) (L' := [some (.ref 65), some (.int (S 65 26))]) (st' := [.ref 65]) (h' := Hp S16) 1 (fun Z => rfl) ?_
      refine wp_call (pc' := 70) (rest := []) (fun Z => rfl) (isO_of sh65) hw ?_
      rintro o h1 ⟨S18, rfl, rfl, hw⟩
      refine ⟨_, rfl, ?_⟩
      show wp E (d + 1) m_m_readsBall 70 [some (.ref 65), some (.int (S 65 26))] [] (Hp S18) (QV Q)
      refine wp_st (pc' := 71) (L' := [some (.ref 65), some (.int (S 65 26))]) (st' := [.ref 65]) (h' := Hp S18) 1 (fun Z => rfl) ?_
      refine wp_st (pc' := 74) (L' := [some (.ref 65), some (.int (S 65 26))]) (st' := [.ref 73]) (h' := Hp S18) 1 (fun Z => gfR (E := E) sh65 rfl _) ?_
      refine wp_st (pc' := 81) (L' := [some (.ref 65), some (.int (S 65 26))]) (st' := [.ref 65, .int 1, .ref 65, .int ((39 : Int32) + (S 65 26)), .ref 73]) (h' := Hp S18) 6 (fun Z => rfl) ?_
      refine wp_st (pc' := 84) (L' := [some (.ref 65), some (.int (S 65 26))]) (st' := [.ref 72, .int 1, .ref 65, .int ((39 : Int32) + (S 65 26)), .ref 73]) (h' := Hp S18) 1 (fun Z => gfR (E := E) sh65 rfl _) ?_
      refine wp_st (pc' := 85) (L' := [some (.ref 65), some (.int (S 65 26))]) (st' := [.int (S 65 26), .ref 72, .int 1, .ref 65, .int ((39 : Int32) + (S 65 26)), .ref 73]) (h' := Hp S18) 1 (fun Z => rfl) ?_
      obtain ⟨m19, em, hi, hw⟩ := hw
      refine wp_st (pc' := 86) (L' := [some (.ref 65), some (.int (S 65 26))]) (st' := [.int (S18 72 m19), .int 1, .ref 65, .int ((39 : Int32) + (S 65 26)), .ref 73]) (h' := Hp S18) 1 (fun Z => (congrArg (fun v => zit E 1 Z (d + 1) m_m_readsBall 85 [some (.ref 65), some (.int (S 65 26))] [.int v, .ref 72, .int 1, .ref 65, .int ((39 : Int32) + (S 65 26)), .ref 73] (Hp S18)) em).trans (ldN (E := E) sh72 (by decide) hi [.int 1, .ref 65, .int ((39 : Int32) + (S 65 26)), .ref 73] (fun st => Z (d + 1) m_m_readsBall 86 [some (.ref 65), some (.int (S 65 26))] st (Hp S18)))) ?_
      refine wp_call (pc' := 89) (rest := [.int ((39 : Int32) + (S 65 26)), .ref 73]) (fun Z => rfl) (isO_of sh65) hw ?_
      rintro o h1 ⟨x20, S21, rfl, rfl, hw⟩
      refine ⟨_, rfl, ?_⟩
      show wp E (d + 1) m_m_readsBall 89 [some (.ref 65), some (.int (S 65 26))] [.int x20, .int ((39 : Int32) + (S 65 26)), .ref 73] (Hp S21) (QV Q)
      obtain ⟨m23, em, hi, hw⟩ := hw
      have hw := hw _ rfl
      refine wp_st (pc' := 90) (L' := [some (.ref 65), some (.int (S 65 26))]) (st' := []) (h' := Hp (up S21 73 m23 x20)) 1 (fun Z => (congrArg (fun v => zit E 1 Z (d + 1) m_m_readsBall 89 [some (.ref 65), some (.int (S 65 26))] [.int x20, .int v, .ref 73] (Hp S21)) em).trans (stN sh73 (by decide) hi _ _)) ?_
      generalize up S21 73 m23 x20 = S22 at hw ⊢
      exact (show wp E (d + 1) m_m_readsBall 90 [some (.ref 65), some (.int (S 65 26))] [] (Hp S22) (QV Q) from (hw (some (.int (S 65 26)))))
    · rw [if_neg hc] at hw
      refine wp_st (pc' := 90) (L' := [some (.ref 65), some (.int (S 65 26))]) (st' := []) (h' := Hp S16) 1 (fun Z => if_neg hc) ?_
      exact (show wp E (d + 1) m_m_readsBall 90 [some (.ref 65), some (.int (S 65 26))] [] (Hp S16) (QV Q) from (hw (some (.int (S 65 26)))))
set_option maxRecDepth 4000 in
theorem w_m_readsBall_90 {E : zX} {d : Nat} {S : St}  {Q : St → Prop} (hd : 1 ≤ d) 
    (hw : k_m_isGood E (d - 1) S (fun x1 S2 =>
    if x1 = 0 then (
      Q S2)
    else (
      ∀ S3, S3 = up S2 65 26 ((S2 65 26) + (1 : Int32)) →
      Q S3))) :
    k_m_readsBall_90 E d S Q := by
  obtain ⟨d, rfl⟩ := Nat.exists_eq_add_of_le' hd
  intro j1
  show wp E (d + 1) m_m_readsBall 90 [some (.ref 65), j1] [] (Hp S) (QV Q)
  refine wp_st (pc' := 91) (L' := [some (.ref 65), j1]) (st' := [.ref 65]) (h' := Hp S) 1 (fun Z => rfl) ?_
  refine wp_call (pc' := 94) (rest := []) (fun Z => rfl) (isO_of sh65) hw ?_
  rintro o h1 ⟨x1, S2, rfl, rfl, hw⟩
  refine ⟨_, rfl, ?_⟩
  show wp E (d + 1) m_m_readsBall 94 [some (.ref 65), j1] [.int x1] (Hp S2) (QV Q)
  by_cases hc : x1 = 0
  · rw [if_pos hc] at hw
    refine wp_st (pc' := 107) (L' := [some (.ref 65), j1]) (st' := []) (h' := Hp S2) 1 (fun Z => if_pos hc) ?_
    exact wp_ret (fun Z => rfl) ⟨_, rfl, rfl, hw⟩
  · rw [if_neg hc] at hw
    refine wp_st (pc' := 97) (L' := [some (.ref 65), j1]) (st' := []) (h' := Hp S2) 1 (fun Z => if_neg hc) ?_
    refine wp_st (pc' := 99) (L' := [some (.ref 65), j1]) (st' := [.ref 65, .ref 65]) (h' := Hp S2) 2 (fun Z => rfl) ?_
    refine wp_st (pc' := 102) (L' := [some (.ref 65), j1]) (st' := [.int (S2 65 26), .ref 65]) (h' := Hp S2) 1 (fun Z => gfI (E := E) sh65 rfl _) ?_
    refine wp_st (pc' := 104) (L' := [some (.ref 65), j1]) (st' := [.int ((S2 65 26) + (1 : Int32)), .ref 65]) (h' := Hp S2) 2 (fun Z => rfl) ?_
    have hw := hw _ rfl
    refine wp_st (pc' := 107) (L' := [some (.ref 65), j1]) (st' := []) (h' := Hp (up S2 65 26 ((S2 65 26) + (1 : Int32)))) 1 (fun Z => pfI sh65 rfl (Nat.le_of_ble_eq_true rfl) rfl _) ?_
    generalize up S2 65 26 ((S2 65 26) + (1 : Int32)) = S3 at hw ⊢
    exact wp_ret (fun Z => rfl) ⟨_, rfl, rfl, hw⟩
set_option maxRecDepth 4000 in
theorem w_m_operand {E : zX} {d : Nat} {S : St} {a1 : Int32} {Q : St → Prop} (hd : 1 ≤ d) 
    (hw : k_m_operand_4 E d S a1 1 Q) :
    k_m_operand E d S a1 Q := by
  obtain ⟨d, rfl⟩ := Nat.exists_eq_add_of_le' hd
  show wp E (d + 1) m_m_operand 0 [some (.ref 65), some (.int a1), none, none, none] [] (Hp S) (QV Q)
  exact wp_st 4 (fun Z => rfl) (show wp E (d + 1) m_m_operand 4 [some (.ref 65), some (.int a1), some (.int a1), some (.int 1), none] [] (Hp S) (QV Q) from (hw (some (.int a1)) none))
set_option maxRecDepth 4000 in
theorem w_m_operand_4 {E : zX} {d : Nat} {S : St} {a2 : Int32} {a3 : Int32} {Q : St → Prop} (hd : 1 ≤ d) 
    (hw : if a3 = 0 then (
      k_m_part E (d - 1) S (fun S2 =>
      Q S2))
    else (
      k_m_isGood E (d - 1) S (fun x3 S4 =>
      if x3 = 0 then (
        k_m_part E (d - 1) S4 (fun S6 =>
        Q S6))
      else (
        k_m_operand_18 E d S4 a2 0 Q)))) :
    k_m_operand_4 E d S a2 a3 Q := by
  obtain ⟨d, rfl⟩ := Nat.exists_eq_add_of_le' hd
  intro j1 j4
  show wp E (d + 1) m_m_operand 4 [some (.ref 65), j1, some (.int a2), some (.int a3), j4] [] (Hp S) (QV Q)
  refine wp_st (pc' := 5) (L' := [some (.ref 65), j1, some (.int a2), some (.int a3), j4]) (st' := [.int a3]) (h' := Hp S) 1 (fun Z => rfl) ?_
  by_cases hc : a3 = 0
  · rw [if_pos hc] at hw
    refine wp_st (pc' := 120) (L' := [some (.ref 65), j1, some (.int a2), some (.int a3), j4]) (st' := []) (h' := Hp S) 1 (fun Z => if_pos hc) ?_
    refine wp_st (pc' := 121) (L' := [some (.ref 65), j1, some (.int a2), some (.int a3), j4]) (st' := [.ref 65]) (h' := Hp S) 1 (fun Z => rfl) ?_
    refine wp_call (pc' := 124) (rest := []) (fun Z => rfl) (isO_of sh65) hw ?_
    rintro o h1 ⟨S2, rfl, rfl, hw⟩
    refine ⟨_, rfl, ?_⟩
    show wp E (d + 1) m_m_operand 124 [some (.ref 65), j1, some (.int a2), some (.int a3), j4] [] (Hp S2) (QV Q)
    exact wp_ret (fun Z => rfl) ⟨_, rfl, rfl, hw⟩
  · rw [if_neg hc] at hw
    refine wp_st (pc' := 8) (L' := [some (.ref 65), j1, some (.int a2), some (.int a3), j4]) (st' := []) (h' := Hp S) 1 (fun Z => if_neg hc) ?_
    refine wp_st (pc' := 9) (L' := [some (.ref 65), j1, some (.int a2), some (.int a3), j4]) (st' := [.ref 65]) (h' := Hp S) 1 (fun Z => rfl) ?_
    refine wp_call (pc' := 12) (rest := []) (fun Z => rfl) (isO_of sh65) hw ?_
    rintro o h1 ⟨x3, S4, rfl, rfl, hw⟩
    refine ⟨_, rfl, ?_⟩
    show wp E (d + 1) m_m_operand 12 [some (.ref 65), j1, some (.int a2), some (.int a3), j4] [.int x3] (Hp S4) (QV Q)
    by_cases hc : x3 = 0
    · rw [if_pos hc] at hw
      refine wp_st (pc' := 120) (L' := [some (.ref 65), j1, some (.int a2), some (.int a3), j4]) (st' := []) (h' := Hp S4) 1 (fun Z => if_pos hc) ?_
      refine wp_st (pc' := 121) (L' := [some (.ref 65), j1, some (.int a2), some (.int a3), j4]) (st' := [.ref 65]) (h' := Hp S4) 1 (fun Z => rfl) ?_
      refine wp_call (pc' := 124) (rest := []) (fun Z => rfl) (isO_of sh65) hw ?_
      rintro o h1 ⟨S6, rfl, rfl, hw⟩
      refine ⟨_, rfl, ?_⟩
      show wp E (d + 1) m_m_operand 124 [some (.ref 65), j1, some (.int a2), some (.int a3), j4] [] (Hp S6) (QV Q)
      exact wp_ret (fun Z => rfl) ⟨_, rfl, rfl, hw⟩
    · rw [if_neg hc] at hw
      refine wp_st (pc' := 15) (L' := [some (.ref 65), j1, some (.int a2), some (.int a3), j4]) (st' := []) (h' := Hp S4) 1 (fun Z => if_neg hc) ?_
      exact wp_st 2 (fun Z => rfl) (show wp E (d + 1) m_m_operand 18 [some (.ref 65), j1, some (.int a2), some (.int a3), some (.int 0)] [] (Hp S4) (QV Q) from (hw j1 (some (.int a3))))
set_option maxRecDepth 4000 in
theorem w_m_operand_18 {E : zX} {d : Nat} {S : St} {a2 : Int32} {a4 : Nat} {Q : St → Prop} (hd : 1 ≤ d) 
    (hw : k_m_isGood E (d - 1) S (fun x1 S2 =>
    if x1 = 0 then (
      k_m_operand_75 E d S2 a2 Q)
    else (
      if a2 = 0 then (
        k_m_operand_75 E d S2 a2 Q)
      else (
        k_m_knownWord E (d - 1) S2 (fun x3 S4 =>
        if x3 = 16 then (
          if (nI a4) = nI 6 then (
            k_m_wrong E (d - 1) S4 2 (fun S6 =>
            k_m_operand_50 E d S6 a2 a4 Q))
          else (
            k_m_operand_50 E d S4 a2 a4 Q))
        else (
          k_m_operand_75 E d S4 a2 Q)))))) :
    k_m_operand_18 E d S a2 a4 Q := by
  obtain ⟨d, rfl⟩ := Nat.exists_eq_add_of_le' hd
  intro j1 j3
  show wp E (d + 1) m_m_operand 18 [some (.ref 65), j1, some (.int a2), j3, some (.int (nI a4))] [] (Hp S) (QV Q)
  refine wp_st (pc' := 19) (L' := [some (.ref 65), j1, some (.int a2), j3, some (.int (nI a4))]) (st' := [.ref 65]) (h' := Hp S) 1 (fun Z => rfl) ?_
  refine wp_call (pc' := 22) (rest := []) (fun Z => rfl) (isO_of sh65) hw ?_
  rintro o h1 ⟨x1, S2, rfl, rfl, hw⟩
  refine ⟨_, rfl, ?_⟩
  show wp E (d + 1) m_m_operand 22 [some (.ref 65), j1, some (.int a2), j3, some (.int (nI a4))] [.int x1] (Hp S2) (QV Q)
  by_cases hc : x1 = 0
  · rw [if_pos hc] at hw
    refine wp_st (pc' := 75) (L' := [some (.ref 65), j1, some (.int a2), j3, some (.int (nI a4))]) (st' := []) (h' := Hp S2) 1 (fun Z => if_pos hc) ?_
    exact (show wp E (d + 1) m_m_operand 75 [some (.ref 65), j1, some (.int a2), j3, some (.int (nI a4))] [] (Hp S2) (QV Q) from (hw j1 j3 (some (.int (nI a4)))))
  · rw [if_neg hc] at hw
    refine wp_st (pc' := 25) (L' := [some (.ref 65), j1, some (.int a2), j3, some (.int (nI a4))]) (st' := []) (h' := Hp S2) 1 (fun Z => if_neg hc) ?_
    refine wp_st (pc' := 26) (L' := [some (.ref 65), j1, some (.int a2), j3, some (.int (nI a4))]) (st' := [.int a2]) (h' := Hp S2) 1 (fun Z => rfl) ?_
    by_cases hc : a2 = 0
    · rw [if_pos hc] at hw
      refine wp_st (pc' := 75) (L' := [some (.ref 65), j1, some (.int a2), j3, some (.int (nI a4))]) (st' := []) (h' := Hp S2) 1 (fun Z => if_pos hc) ?_
      exact (show wp E (d + 1) m_m_operand 75 [some (.ref 65), j1, some (.int a2), j3, some (.int (nI a4))] [] (Hp S2) (QV Q) from (hw j1 j3 (some (.int (nI a4)))))
    · rw [if_neg hc] at hw
      refine wp_st (pc' := 29) (L' := [some (.ref 65), j1, some (.int a2), j3, some (.int (nI a4))]) (st' := []) (h' := Hp S2) 1 (fun Z => if_neg hc) ?_
      refine wp_st (pc' := 30) (L' := [some (.ref 65), j1, some (.int a2), j3, some (.int (nI a4))]) (st' := [.ref 65]) (h' := Hp S2) 1 (fun Z => rfl) ?_
      refine wp_call (pc' := 33) (rest := []) (fun Z => rfl) (isO_of sh65) hw ?_
      rintro o h1 ⟨x3, S4, rfl, rfl, hw⟩
      refine ⟨_, rfl, ?_⟩
      show wp E (d + 1) m_m_operand 33 [some (.ref 65), j1, some (.int a2), j3, some (.int (nI a4))] [.int x3] (Hp S4) (QV Q)
      refine wp_st (pc' := 35) (L' := [some (.ref 65), j1, some (.int a2), j3, some (.int (nI a4))]) (st' := [.int 16, .int x3]) (h' := Hp S4) 1 (fun Z => rfl) ?_
      by_cases hc : x3 = 16
      · rw [if_pos hc] at hw
        refine wp_st (pc' := 38) (L' := [some (.ref 65), j1, some (.int a2), j3, some (.int (nI a4))]) (st' := []) (h' := Hp S4) 1 (fun Z => if_pos hc) ?_
        refine wp_st (pc' := 42) (L' := [some (.ref 65), j1, some (.int a2), j3, some (.int (nI a4))]) (st' := [.int 6, .int (nI a4)]) (h' := Hp S4) 2 (fun Z => rfl) ?_
        by_cases hc : (nI a4) = nI 6
        · rw [if_pos hc] at hw
          refine wp_st (pc' := 45) (L' := [some (.ref 65), j1, some (.int a2), j3, some (.int (nI a4))]) (st' := []) (h' := Hp S4) 1 (fun Z => if_pos hc) ?_
          refine wp_st (pc' := 47) (L' := [some (.ref 65), j1, some (.int a2), j3, some (.int (nI a4))]) (st' := [.int 2, .ref 65]) (h' := Hp S4) 2 (fun Z => rfl) ?_
          refine wp_call (pc' := 50) (rest := []) (fun Z => rfl) (isO_of sh65) hw ?_
          rintro o h1 ⟨S6, rfl, rfl, hw⟩
          refine ⟨_, rfl, ?_⟩
          show wp E (d + 1) m_m_operand 50 [some (.ref 65), j1, some (.int a2), j3, some (.int (nI a4))] [] (Hp S6) (QV Q)
          exact (show wp E (d + 1) m_m_operand 50 [some (.ref 65), j1, some (.int a2), j3, some (.int (nI a4))] [] (Hp S6) (QV Q) from (hw j1 j3))
        · rw [if_neg hc] at hw
          refine wp_st (pc' := 50) (L' := [some (.ref 65), j1, some (.int a2), j3, some (.int (nI a4))]) (st' := []) (h' := Hp S4) 1 (fun Z => if_neg hc) ?_
          exact (show wp E (d + 1) m_m_operand 50 [some (.ref 65), j1, some (.int a2), j3, some (.int (nI a4))] [] (Hp S4) (QV Q) from (hw j1 j3))
      · rw [if_neg hc] at hw
        refine wp_st (pc' := 75) (L' := [some (.ref 65), j1, some (.int a2), j3, some (.int (nI a4))]) (st' := []) (h' := Hp S4) 1 (fun Z => if_neg hc) ?_
        exact (show wp E (d + 1) m_m_operand 75 [some (.ref 65), j1, some (.int a2), j3, some (.int (nI a4))] [] (Hp S4) (QV Q) from (hw j1 j3 (some (.int (nI a4)))))
set_option maxRecDepth 4000 in
theorem w_m_operand_50 {E : zX} {d : Nat} {S : St} {a2 : Int32} {a4 : Nat} {Q : St → Prop} (hd : 1 ≤ d) 
    (hw : k_m_isGood E (d - 1) S (fun x1 S2 =>
    if x1 = 0 then (
      k_m_operand_18 E d S2 a2 (a4 + 1) Q)
    else (
      k_m_waitsFor E (d - 1) S2 3 (fun S4 =>
      k_m_goes E (d - 1) S4 (fun S6 =>
      k_m_operand_18 E d S6 a2 (a4 + 1) Q))))) :
    k_m_operand_50 E d S a2 a4 Q := by
  obtain ⟨d, rfl⟩ := Nat.exists_eq_add_of_le' hd
  intro j1 j3
  show wp E (d + 1) m_m_operand 50 [some (.ref 65), j1, some (.int a2), j3, some (.int (nI a4))] [] (Hp S) (QV Q)
  refine wp_st (pc' := 53) (L' := [some (.ref 65), j1, some (.int a2), j3, some (.int (nI (a4 + 1)))]) (st' := []) (h' := Hp S) 1 (fun Z => by rw [← nI_add a4 1]; rfl) ?_
  refine wp_st (pc' := 54) (L' := [some (.ref 65), j1, some (.int a2), j3, some (.int (nI (a4 + 1)))]) (st' := [.ref 65]) (h' := Hp S) 1 (fun Z => rfl) ?_
  refine wp_call (pc' := 57) (rest := []) (fun Z => rfl) (isO_of sh65) hw ?_
  rintro o h1 ⟨x1, S2, rfl, rfl, hw⟩
  refine ⟨_, rfl, ?_⟩
  show wp E (d + 1) m_m_operand 57 [some (.ref 65), j1, some (.int a2), j3, some (.int (nI (a4 + 1)))] [.int x1] (Hp S2) (QV Q)
  by_cases hc : x1 = 0
  · rw [if_pos hc] at hw
    refine wp_st (pc' := 60) (L' := [some (.ref 65), j1, some (.int a2), j3, some (.int (nI (a4 + 1)))]) (st' := []) (h' := Hp S2) 1 (fun Z => if_pos hc) ?_
    exact wp_st 1 (fun Z => rfl) (show wp E (d + 1) m_m_operand 18 [some (.ref 65), j1, some (.int a2), j3, some (.int (nI (a4 + 1)))] [] (Hp S2) (QV Q) from (hw j1 j3))
  · rw [if_neg hc] at hw
    refine wp_st (pc' := 63) (L' := [some (.ref 65), j1, some (.int a2), j3, some (.int (nI (a4 + 1)))]) (st' := []) (h' := Hp S2) 1 (fun Z => if_neg hc) ?_
    refine wp_st (pc' := 65) (L' := [some (.ref 65), j1, some (.int a2), j3, some (.int (nI (a4 + 1)))]) (st' := [.int 3, .ref 65]) (h' := Hp S2) 2 (fun Z => rfl) ?_
    refine wp_call (pc' := 68) (rest := []) (fun Z => rfl) (isO_of sh65) hw ?_
    rintro o h1 ⟨S4, rfl, rfl, hw⟩
    refine ⟨_, rfl, ?_⟩
    show wp E (d + 1) m_m_operand 68 [some (.ref 65), j1, some (.int a2), j3, some (.int (nI (a4 + 1)))] [] (Hp S4) (QV Q)
    refine wp_st (pc' := 69) (L' := [some (.ref 65), j1, some (.int a2), j3, some (.int (nI (a4 + 1)))]) (st' := [.ref 65]) (h' := Hp S4) 1 (fun Z => rfl) ?_
    refine wp_call (pc' := 72) (rest := []) (fun Z => rfl) (isO_of sh65) hw ?_
    rintro o h1 ⟨S6, rfl, rfl, hw⟩
    refine ⟨_, rfl, ?_⟩
    show wp E (d + 1) m_m_operand 72 [some (.ref 65), j1, some (.int a2), j3, some (.int (nI (a4 + 1)))] [] (Hp S6) (QV Q)
    exact wp_st 1 (fun Z => rfl) (show wp E (d + 1) m_m_operand 18 [some (.ref 65), j1, some (.int a2), j3, some (.int (nI (a4 + 1)))] [] (Hp S6) (QV Q) from (hw j1 j3))
set_option maxRecDepth 4000 in
theorem w_m_operand_75 {E : zX} {d : Nat} {S : St} {a2 : Int32} {Q : St → Prop} (hd : 1 ≤ d) 
    (hw : k_m_isGood E (d - 1) S (fun x1 S2 =>
    if x1 = 0 then (
      k_m_operand_96 E d S2 a2 0 Q)
    else (
      k_m_isSign E (d - 1) S2 40 (fun x3 S4 =>
      if x3 = 0 then (
        k_m_operand_96 E d S4 a2 0 Q)
      else (
        k_m_operand_96 E d S4 a2 1 Q))))) :
    k_m_operand_75 E d S a2 Q := by
  obtain ⟨d, rfl⟩ := Nat.exists_eq_add_of_le' hd
  intro j1 j3 j4
  show wp E (d + 1) m_m_operand 75 [some (.ref 65), j1, some (.int a2), j3, j4] [] (Hp S) (QV Q)
  refine wp_st (pc' := 76) (L' := [some (.ref 65), j1, some (.int a2), j3, j4]) (st' := [.ref 65]) (h' := Hp S) 1 (fun Z => rfl) ?_
  refine wp_call (pc' := 79) (rest := []) (fun Z => rfl) (isO_of sh65) hw ?_
  rintro o h1 ⟨x1, S2, rfl, rfl, hw⟩
  refine ⟨_, rfl, ?_⟩
  show wp E (d + 1) m_m_operand 79 [some (.ref 65), j1, some (.int a2), j3, j4] [.int x1] (Hp S2) (QV Q)
  by_cases hc : x1 = 0
  · rw [if_pos hc] at hw
    refine wp_st (pc' := 95) (L' := [some (.ref 65), j1, some (.int a2), j3, j4]) (st' := []) (h' := Hp S2) 1 (fun Z => if_pos hc) ?_
    exact wp_st 1 (fun Z => rfl) (show wp E (d + 1) m_m_operand 96 [some (.ref 65), j1, some (.int a2), j3, j4] [.int 0] (Hp S2) (QV Q) from (hw j1 j3 j4))
  · rw [if_neg hc] at hw
    refine wp_st (pc' := 82) (L' := [some (.ref 65), j1, some (.int a2), j3, j4]) (st' := []) (h' := Hp S2) 1 (fun Z => if_neg hc) ?_
    refine wp_st (pc' := 85) (L' := [some (.ref 65), j1, some (.int a2), j3, j4]) (st' := [.int 40, .ref 65]) (h' := Hp S2) 2 (fun Z => rfl) ?_
    refine wp_call (pc' := 88) (rest := []) (fun Z => rfl) (isO_of sh65) hw ?_
    rintro o h1 ⟨x3, S4, rfl, rfl, hw⟩
    refine ⟨_, rfl, ?_⟩
    show wp E (d + 1) m_m_operand 88 [some (.ref 65), j1, some (.int a2), j3, j4] [.int x3] (Hp S4) (QV Q)
    by_cases hc : x3 = 0
    · rw [if_pos hc] at hw
      refine wp_st (pc' := 95) (L' := [some (.ref 65), j1, some (.int a2), j3, j4]) (st' := []) (h' := Hp S4) 1 (fun Z => if_pos hc) ?_
      exact wp_st 1 (fun Z => rfl) (show wp E (d + 1) m_m_operand 96 [some (.ref 65), j1, some (.int a2), j3, j4] [.int 0] (Hp S4) (QV Q) from (hw j1 j3 j4))
    · rw [if_neg hc] at hw
      refine wp_st (pc' := 91) (L' := [some (.ref 65), j1, some (.int a2), j3, j4]) (st' := []) (h' := Hp S4) 1 (fun Z => if_neg hc) ?_
      exact wp_st 2 (fun Z => rfl) (show wp E (d + 1) m_m_operand 96 [some (.ref 65), j1, some (.int a2), j3, j4] [.int 1] (Hp S4) (QV Q) from (hw j1 j3 j4))
set_option maxRecDepth 4000 in
theorem w_m_operand_96 {E : zX} {d : Nat} {S : St} {a2 : Int32} {s0 : Int32} {Q : St → Prop} (hd : 1 ≤ d) 
    (hw : if s0 = 0 then (
      k_m_operand_4 E d S a2 s0 Q)
    else (
      k_m_waitsFor E (d - 1) S 14 (fun S2 =>
      k_m_goes E (d - 1) S2 (fun S4 =>
      k_m_deeper E (d - 1) S4 (fun S6 =>
      k_m_operand_4 E d S6 1 s0 Q))))) :
    k_m_operand_96 E d S a2 s0 Q := by
  obtain ⟨d, rfl⟩ := Nat.exists_eq_add_of_le' hd
  intro j1 j3 j4
  show wp E (d + 1) m_m_operand 96 [some (.ref 65), j1, some (.int a2), j3, j4] [.int s0] (Hp S) (QV Q)
  refine wp_st (pc' := 98) (L' := [some (.ref 65), j1, some (.int a2), some (.int s0), j4]) (st' := [.int s0]) (h' := Hp S) 2 (fun Z => rfl) ?_
  by_cases hc : s0 = 0
  · rw [if_pos hc] at hw
    refine wp_st (pc' := 117) (L' := [some (.ref 65), j1, some (.int a2), some (.int s0), j4]) (st' := []) (h' := Hp S) 1 (fun Z => if_pos hc) ?_
    exact wp_st 1 (fun Z => rfl) (show wp E (d + 1) m_m_operand 4 [some (.ref 65), j1, some (.int a2), some (.int s0), j4] [] (Hp S) (QV Q) from (hw j1 j4))
  · rw [if_neg hc] at hw
    refine wp_st (pc' := 101) (L' := [some (.ref 65), j1, some (.int a2), some (.int s0), j4]) (st' := []) (h' := Hp S) 1 (fun Z => if_neg hc) ?_
    refine wp_st (pc' := 104) (L' := [some (.ref 65), j1, some (.int a2), some (.int s0), j4]) (st' := [.int 14, .ref 65]) (h' := Hp S) 2 (fun Z => rfl) ?_
    refine wp_call (pc' := 107) (rest := []) (fun Z => rfl) (isO_of sh65) hw ?_
    rintro o h1 ⟨S2, rfl, rfl, hw⟩
    refine ⟨_, rfl, ?_⟩
    show wp E (d + 1) m_m_operand 107 [some (.ref 65), j1, some (.int a2), some (.int s0), j4] [] (Hp S2) (QV Q)
    refine wp_st (pc' := 108) (L' := [some (.ref 65), j1, some (.int a2), some (.int s0), j4]) (st' := [.ref 65]) (h' := Hp S2) 1 (fun Z => rfl) ?_
    refine wp_call (pc' := 111) (rest := []) (fun Z => rfl) (isO_of sh65) hw ?_
    rintro o h1 ⟨S4, rfl, rfl, hw⟩
    refine ⟨_, rfl, ?_⟩
    show wp E (d + 1) m_m_operand 111 [some (.ref 65), j1, some (.int a2), some (.int s0), j4] [] (Hp S4) (QV Q)
    refine wp_st (pc' := 112) (L' := [some (.ref 65), j1, some (.int a2), some (.int s0), j4]) (st' := [.ref 65]) (h' := Hp S4) 1 (fun Z => rfl) ?_
    refine wp_call (pc' := 115) (rest := []) (fun Z => rfl) (isO_of sh65) hw ?_
    rintro o h1 ⟨S6, rfl, rfl, hw⟩
    refine ⟨_, rfl, ?_⟩
    show wp E (d + 1) m_m_operand 115 [some (.ref 65), j1, some (.int a2), some (.int s0), j4] [] (Hp S6) (QV Q)
    exact wp_st 3 (fun Z => rfl) (show wp E (d + 1) m_m_operand 4 [some (.ref 65), j1, some (.int 1), some (.int s0), j4] [] (Hp S6) (QV Q) from (hw j1 j4))
set_option maxRecDepth 4000 in
theorem w_m_waitsFor {E : zX} {d : Nat} {S : St} {a1 : Int32} {Q : St → Prop} 
    (hw : ∃ m2 : Nat, (S 65 32) = nI m2 ∧ m2 < 950 ∧
    ∀ S1, S1 = up S 75 m2 a1 →
    ∀ S3, S3 = up S1 65 32 ((S1 65 32) + (1 : Int32)) →
    Q S3) :
    k_m_waitsFor E d S a1 Q := by
  show wp E d m_m_waitsFor 0 [some (.ref 65), some (.int a1)] [] (Hp S) (QV Q)
  refine wp_st (pc' := 1) (L' := [some (.ref 65), some (.int a1)]) (st' := [.ref 65]) (h' := Hp S) 1 (fun Z => rfl) ?_
  refine wp_st (pc' := 4) (L' := [some (.ref 65), some (.int a1)]) (st' := [.ref 75]) (h' := Hp S) 1 (fun Z => gfR (E := E) sh65 rfl _) ?_
  refine wp_st (pc' := 5) (L' := [some (.ref 65), some (.int a1)]) (st' := [.ref 65, .ref 75]) (h' := Hp S) 1 (fun Z => rfl) ?_
  refine wp_st (pc' := 8) (L' := [some (.ref 65), some (.int a1)]) (st' := [.int (S 65 32), .ref 75]) (h' := Hp S) 1 (fun Z => gfI (E := E) sh65 rfl _) ?_
  refine wp_st (pc' := 9) (L' := [some (.ref 65), some (.int a1)]) (st' := [.int a1, .int (S 65 32), .ref 75]) (h' := Hp S) 1 (fun Z => rfl) ?_
  obtain ⟨m2, em, hi, hw⟩ := hw
  have hw := hw _ rfl
  refine wp_st (pc' := 10) (L' := [some (.ref 65), some (.int a1)]) (st' := []) (h' := Hp (up S 75 m2 a1)) 1 (fun Z => (congrArg (fun v => zit E 1 Z d m_m_waitsFor 9 [some (.ref 65), some (.int a1)] [.int a1, .int v, .ref 75] (Hp S)) em).trans (stN sh75 (by decide) hi _ _)) ?_
  generalize up S 75 m2 a1 = S1 at hw ⊢
  refine wp_st (pc' := 12) (L' := [some (.ref 65), some (.int a1)]) (st' := [.ref 65, .ref 65]) (h' := Hp S1) 2 (fun Z => rfl) ?_
  refine wp_st (pc' := 15) (L' := [some (.ref 65), some (.int a1)]) (st' := [.int (S1 65 32), .ref 65]) (h' := Hp S1) 1 (fun Z => gfI (E := E) sh65 rfl _) ?_
  refine wp_st (pc' := 17) (L' := [some (.ref 65), some (.int a1)]) (st' := [.int ((S1 65 32) + (1 : Int32)), .ref 65]) (h' := Hp S1) 2 (fun Z => rfl) ?_
  have hw := hw _ rfl
  refine wp_st (pc' := 20) (L' := [some (.ref 65), some (.int a1)]) (st' := []) (h' := Hp (up S1 65 32 ((S1 65 32) + (1 : Int32)))) 1 (fun Z => pfI sh65 rfl (Nat.le_of_ble_eq_true rfl) rfl _) ?_
  generalize up S1 65 32 ((S1 65 32) + (1 : Int32)) = S3 at hw ⊢
  exact wp_ret (fun Z => rfl) ⟨_, rfl, rfl, hw⟩
set_option maxRecDepth 4000 in
theorem w_m_part {E : zX} {d : Nat} {S : St}  {Q : St → Prop} (hd : 1 ≤ d) 
    (hw : k_m_isGood E (d - 1) S (fun x1 S2 =>
    if x1 = 0 then (
      Q S2)
    else (
      if (S2 65 17) = 2 then (
        if (S2 65 19) ≤ 4 then (
          k_m_part_29 E d S2 Q)
        else (
          k_m_wrong E (d - 1) S2 2 (fun S4 =>
          k_m_part_29 E d S4 Q)))
      else (
        if (S2 65 17) = 1 then (
          k_m_knownWord E (d - 1) S2 (fun x5 S6 =>
          if x5 < (S6 65 30) then (
            k_m_wrong E (d - 1) S6 3 (fun S8 =>
            k_m_part_79 E d S8 x5 Q))
          else (
            if x5 ≤ (S6 65 31) then (
              k_m_part_79 E d S6 x5 Q)
            else (
              k_m_wrong E (d - 1) S6 3 (fun S10 =>
              k_m_part_79 E d S10 x5 Q)))))
        else (
          k_m_wrong E (d - 1) S2 1 (fun S12 =>
          k_m_isGood E (d - 1) S12 (fun x13 S14 =>
          if x13 = 0 then (
            Q S14)
          else (
            k_m_goes E (d - 1) S14 (fun S16 =>
            Q S16))))))))) :
    k_m_part E d S Q := by
  obtain ⟨d, rfl⟩ := Nat.exists_eq_add_of_le' hd
  show wp E (d + 1) m_m_part 0 [some (.ref 65), none] [] (Hp S) (QV Q)
  refine wp_st (pc' := 1) (L' := [some (.ref 65), none]) (st' := [.ref 65]) (h' := Hp S) 1 (fun Z => rfl) ?_
  refine wp_call (pc' := 4) (rest := []) (fun Z => rfl) (isO_of sh65) hw ?_
  rintro o h1 ⟨x1, S2, rfl, rfl, hw⟩
  refine ⟨_, rfl, ?_⟩
  show wp E (d + 1) m_m_part 4 [some (.ref 65), none] [.int x1] (Hp S2) (QV Q)
  by_cases hc : x1 = 0
  · rw [if_pos hc] at hw
    refine wp_st (pc' := 7) (L' := [some (.ref 65), none]) (st' := []) (h' := Hp S2) 1 (fun Z => if_pos hc) ?_
    exact wp_ret (fun Z => rfl) ⟨_, rfl, rfl, hw⟩
  · rw [if_neg hc] at hw
    refine wp_st (pc' := 8) (L' := [some (.ref 65), none]) (st' := []) (h' := Hp S2) 1 (fun Z => if_neg hc) ?_
    refine wp_st (pc' := 9) (L' := [some (.ref 65), none]) (st' := [.ref 65]) (h' := Hp S2) 1 (fun Z => rfl) ?_
    refine wp_st (pc' := 12) (L' := [some (.ref 65), none]) (st' := [.int (S2 65 17)]) (h' := Hp S2) 1 (fun Z => gfI (E := E) sh65 rfl _) ?_
    refine wp_st (pc' := 13) (L' := [some (.ref 65), none]) (st' := [.int 2, .int (S2 65 17)]) (h' := Hp S2) 1 (fun Z => rfl) ?_
    by_cases hc : (S2 65 17) = 2
    · rw [if_pos hc] at hw
      refine wp_st (pc' := 16) (L' := [some (.ref 65), none]) (st' := []) (h' := Hp S2) 1 (fun Z => if_pos hc) ?_
      refine wp_st (pc' := 17) (L' := [some (.ref 65), none]) (st' := [.ref 65]) (h' := Hp S2) 1 (fun Z => rfl) ?_
      refine wp_st (pc' := 20) (L' := [some (.ref 65), none]) (st' := [.int (S2 65 19)]) (h' := Hp S2) 1 (fun Z => gfI (E := E) sh65 rfl _) ?_
      refine wp_st (pc' := 21) (L' := [some (.ref 65), none]) (st' := [.int 4, .int (S2 65 19)]) (h' := Hp S2) 1 (fun Z => rfl) ?_
      by_cases hc : (S2 65 19) ≤ 4
      · rw [if_pos hc] at hw
        refine wp_st (pc' := 29) (L' := [some (.ref 65), none]) (st' := []) (h' := Hp S2) 1 (fun Z => if_pos hc) ?_
        exact (show wp E (d + 1) m_m_part 29 [some (.ref 65), none] [] (Hp S2) (QV Q) from (hw none))
      · rw [if_neg hc] at hw
        refine wp_st (pc' := 24) (L' := [some (.ref 65), none]) (st' := []) (h' := Hp S2) 1 (fun Z => if_neg hc) ?_
        refine wp_st (pc' := 26) (L' := [some (.ref 65), none]) (st' := [.int 2, .ref 65]) (h' := Hp S2) 2 (fun Z => rfl) ?_
        refine wp_call (pc' := 29) (rest := []) (fun Z => rfl) (isO_of sh65) hw ?_
        rintro o h1 ⟨S4, rfl, rfl, hw⟩
        refine ⟨_, rfl, ?_⟩
        show wp E (d + 1) m_m_part 29 [some (.ref 65), none] [] (Hp S4) (QV Q)
        exact (show wp E (d + 1) m_m_part 29 [some (.ref 65), none] [] (Hp S4) (QV Q) from (hw none))
    · rw [if_neg hc] at hw
      refine wp_st (pc' := 45) (L' := [some (.ref 65), none]) (st' := []) (h' := Hp S2) 1 (fun Z => if_neg hc) ?_
      refine wp_st (pc' := 46) (L' := [some (.ref 65), none]) (st' := [.ref 65]) (h' := Hp S2) 1 (fun Z => rfl) ?_
      refine wp_st (pc' := 49) (L' := [some (.ref 65), none]) (st' := [.int (S2 65 17)]) (h' := Hp S2) 1 (fun Z => gfI (E := E) sh65 rfl _) ?_
      refine wp_st (pc' := 50) (L' := [some (.ref 65), none]) (st' := [.int 1, .int (S2 65 17)]) (h' := Hp S2) 1 (fun Z => rfl) ?_
      by_cases hc : (S2 65 17) = 1
      · rw [if_pos hc] at hw
        refine wp_st (pc' := 53) (L' := [some (.ref 65), none]) (st' := []) (h' := Hp S2) 1 (fun Z => if_pos hc) ?_
        refine wp_st (pc' := 54) (L' := [some (.ref 65), none]) (st' := [.ref 65]) (h' := Hp S2) 1 (fun Z => rfl) ?_
        refine wp_call (pc' := 57) (rest := []) (fun Z => rfl) (isO_of sh65) hw ?_
        rintro o h1 ⟨x5, S6, rfl, rfl, hw⟩
        refine ⟨_, rfl, ?_⟩
        show wp E (d + 1) m_m_part 57 [some (.ref 65), none] [.int x5] (Hp S6) (QV Q)
        refine wp_st (pc' := 60) (L' := [some (.ref 65), some (.int x5)]) (st' := [.ref 65, .int x5]) (h' := Hp S6) 3 (fun Z => rfl) ?_
        refine wp_st (pc' := 63) (L' := [some (.ref 65), some (.int x5)]) (st' := [.int (S6 65 30), .int x5]) (h' := Hp S6) 1 (fun Z => gfI (E := E) sh65 rfl _) ?_
        by_cases hc : x5 < (S6 65 30)
        · rw [if_pos hc] at hw
          refine wp_st (pc' := 74) (L' := [some (.ref 65), some (.int x5)]) (st' := []) (h' := Hp S6) 1 (fun Z => if_pos hc) ?_
          refine wp_st (pc' := 76) (L' := [some (.ref 65), some (.int x5)]) (st' := [.int 3, .ref 65]) (h' := Hp S6) 2 (fun Z => rfl) ?_
          refine wp_call (pc' := 79) (rest := []) (fun Z => rfl) (isO_of sh65) hw ?_
          rintro o h1 ⟨S8, rfl, rfl, hw⟩
          refine ⟨_, rfl, ?_⟩
          show wp E (d + 1) m_m_part 79 [some (.ref 65), some (.int x5)] [] (Hp S8) (QV Q)
          exact (show wp E (d + 1) m_m_part 79 [some (.ref 65), some (.int x5)] [] (Hp S8) (QV Q) from hw)
        · rw [if_neg hc] at hw
          refine wp_st (pc' := 66) (L' := [some (.ref 65), some (.int x5)]) (st' := []) (h' := Hp S6) 1 (fun Z => if_neg hc) ?_
          refine wp_st (pc' := 68) (L' := [some (.ref 65), some (.int x5)]) (st' := [.ref 65, .int x5]) (h' := Hp S6) 2 (fun Z => rfl) ?_
          refine wp_st (pc' := 71) (L' := [some (.ref 65), some (.int x5)]) (st' := [.int (S6 65 31), .int x5]) (h' := Hp S6) 1 (fun Z => gfI (E := E) sh65 rfl _) ?_
          by_cases hc : x5 ≤ (S6 65 31)
          · rw [if_pos hc] at hw
            refine wp_st (pc' := 79) (L' := [some (.ref 65), some (.int x5)]) (st' := []) (h' := Hp S6) 1 (fun Z => if_pos hc) ?_
            exact (show wp E (d + 1) m_m_part 79 [some (.ref 65), some (.int x5)] [] (Hp S6) (QV Q) from hw)
          · rw [if_neg hc] at hw
            refine wp_st (pc' := 74) (L' := [some (.ref 65), some (.int x5)]) (st' := []) (h' := Hp S6) 1 (fun Z => if_neg hc) ?_
            refine wp_st (pc' := 76) (L' := [some (.ref 65), some (.int x5)]) (st' := [.int 3, .ref 65]) (h' := Hp S6) 2 (fun Z => rfl) ?_
            refine wp_call (pc' := 79) (rest := []) (fun Z => rfl) (isO_of sh65) hw ?_
            rintro o h1 ⟨S10, rfl, rfl, hw⟩
            refine ⟨_, rfl, ?_⟩
            show wp E (d + 1) m_m_part 79 [some (.ref 65), some (.int x5)] [] (Hp S10) (QV Q)
            exact (show wp E (d + 1) m_m_part 79 [some (.ref 65), some (.int x5)] [] (Hp S10) (QV Q) from hw)
      · rw [if_neg hc] at hw
        refine wp_st (pc' := 92) (L' := [some (.ref 65), none]) (st' := []) (h' := Hp S2) 1 (fun Z => if_neg hc) ?_
        refine wp_st (pc' := 94) (L' := [some (.ref 65), none]) (st' := [.int 1, .ref 65]) (h' := Hp S2) 2 (fun Z => rfl) ?_
        refine wp_call (pc' := 97) (rest := []) (fun Z => rfl) (isO_of sh65) hw ?_
        rintro o h1 ⟨S12, rfl, rfl, hw⟩
        refine ⟨_, rfl, ?_⟩
        show wp E (d + 1) m_m_part 97 [some (.ref 65), none] [] (Hp S12) (QV Q)
        refine wp_st (pc' := 98) (L' := [some (.ref 65), none]) (st' := [.ref 65]) (h' := Hp S12) 1 (fun Z => rfl) ?_
        refine wp_call (pc' := 101) (rest := []) (fun Z => rfl) (isO_of sh65) hw ?_
        rintro o h1 ⟨x13, S14, rfl, rfl, hw⟩
        refine ⟨_, rfl, ?_⟩
        show wp E (d + 1) m_m_part 101 [some (.ref 65), none] [.int x13] (Hp S14) (QV Q)
        by_cases hc : x13 = 0
        · rw [if_pos hc] at hw
          refine wp_st (pc' := 108) (L' := [some (.ref 65), none]) (st' := []) (h' := Hp S14) 1 (fun Z => if_pos hc) ?_
          exact wp_ret (fun Z => rfl) ⟨_, rfl, rfl, hw⟩
        · rw [if_neg hc] at hw
          refine wp_st (pc' := 104) (L' := [some (.ref 65), none]) (st' := []) (h' := Hp S14) 1 (fun Z => if_neg hc) ?_
          refine wp_st (pc' := 105) (L' := [some (.ref 65), none]) (st' := [.ref 65]) (h' := Hp S14) 1 (fun Z => rfl) ?_
          refine wp_call (pc' := 108) (rest := []) (fun Z => rfl) (isO_of sh65) hw ?_
          rintro o h1 ⟨S16, rfl, rfl, hw⟩
          refine ⟨_, rfl, ?_⟩
          show wp E (d + 1) m_m_part 108 [some (.ref 65), none] [] (Hp S16) (QV Q)
          exact wp_ret (fun Z => rfl) ⟨_, rfl, rfl, hw⟩
set_option maxRecDepth 4000 in
theorem w_m_part_29 {E : zX} {d : Nat} {S : St}  {Q : St → Prop} (hd : 1 ≤ d) 
    (hw : k_m_puts E (d - 1) S 1 (fun S2 =>
    k_m_puts E (d - 1) S2 (S2 65 20) (fun S4 =>
    k_m_isGood E (d - 1) S4 (fun x5 S6 =>
    if x5 = 0 then (
      Q S6)
    else (
      k_m_goes E (d - 1) S6 (fun S8 =>
      Q S8)))))) :
    k_m_part_29 E d S Q := by
  obtain ⟨d, rfl⟩ := Nat.exists_eq_add_of_le' hd
  intro j1
  show wp E (d + 1) m_m_part 29 [some (.ref 65), j1] [] (Hp S) (QV Q)
  refine wp_st (pc' := 31) (L' := [some (.ref 65), j1]) (st' := [.int 1, .ref 65]) (h' := Hp S) 2 (fun Z => rfl) ?_
  refine wp_call (pc' := 34) (rest := []) (fun Z => rfl) (isO_of sh65) hw ?_
  rintro o h1 ⟨S2, rfl, rfl, hw⟩
  refine ⟨_, rfl, ?_⟩
  show wp E (d + 1) m_m_part 34 [some (.ref 65), j1] [] (Hp S2) (QV Q)
  refine wp_st (pc' := 36) (L' := [some (.ref 65), j1]) (st' := [.ref 65, .ref 65]) (h' := Hp S2) 2 (fun Z => rfl) ?_
  refine wp_st (pc' := 39) (L' := [some (.ref 65), j1]) (st' := [.int (S2 65 20), .ref 65]) (h' := Hp S2) 1 (fun Z => gfI (E := E) sh65 rfl _) ?_
  refine wp_call (pc' := 42) (rest := []) (fun Z => rfl) (isO_of sh65) hw ?_
  rintro o h1 ⟨S4, rfl, rfl, hw⟩
  refine ⟨_, rfl, ?_⟩
  show wp E (d + 1) m_m_part 42 [some (.ref 65), j1] [] (Hp S4) (QV Q)
  refine wp_st (pc' := 98) (L' := [some (.ref 65), j1]) (st' := [.ref 65]) (h' := Hp S4) 2 (fun Z => rfl) ?_
  refine wp_call (pc' := 101) (rest := []) (fun Z => rfl) (isO_of sh65) hw ?_
  rintro o h1 ⟨x5, S6, rfl, rfl, hw⟩
  refine ⟨_, rfl, ?_⟩
  show wp E (d + 1) m_m_part 101 [some (.ref 65), j1] [.int x5] (Hp S6) (QV Q)
  by_cases hc : x5 = 0
  · rw [if_pos hc] at hw
    refine wp_st (pc' := 108) (L' := [some (.ref 65), j1]) (st' := []) (h' := Hp S6) 1 (fun Z => if_pos hc) ?_
    exact wp_ret (fun Z => rfl) ⟨_, rfl, rfl, hw⟩
  · rw [if_neg hc] at hw
    refine wp_st (pc' := 104) (L' := [some (.ref 65), j1]) (st' := []) (h' := Hp S6) 1 (fun Z => if_neg hc) ?_
    refine wp_st (pc' := 105) (L' := [some (.ref 65), j1]) (st' := [.ref 65]) (h' := Hp S6) 1 (fun Z => rfl) ?_
    refine wp_call (pc' := 108) (rest := []) (fun Z => rfl) (isO_of sh65) hw ?_
    rintro o h1 ⟨S8, rfl, rfl, hw⟩
    refine ⟨_, rfl, ?_⟩
    show wp E (d + 1) m_m_part 108 [some (.ref 65), j1] [] (Hp S8) (QV Q)
    exact wp_ret (fun Z => rfl) ⟨_, rfl, rfl, hw⟩
set_option maxRecDepth 4000 in
theorem w_m_part_79 {E : zX} {d : Nat} {S : St} {a1 : Int32} {Q : St → Prop} (hd : 1 ≤ d) 
    (hw : k_m_puts E (d - 1) S 2 (fun S2 =>
    k_m_puts E (d - 1) S2 a1 (fun S4 =>
    k_m_isGood E (d - 1) S4 (fun x5 S6 =>
    if x5 = 0 then (
      Q S6)
    else (
      k_m_goes E (d - 1) S6 (fun S8 =>
      Q S8)))))) :
    k_m_part_79 E d S a1 Q := by
  obtain ⟨d, rfl⟩ := Nat.exists_eq_add_of_le' hd
  show wp E (d + 1) m_m_part 79 [some (.ref 65), some (.int a1)] [] (Hp S) (QV Q)
  refine wp_st (pc' := 81) (L' := [some (.ref 65), some (.int a1)]) (st' := [.int 2, .ref 65]) (h' := Hp S) 2 (fun Z => rfl) ?_
  refine wp_call (pc' := 84) (rest := []) (fun Z => rfl) (isO_of sh65) hw ?_
  rintro o h1 ⟨S2, rfl, rfl, hw⟩
  refine ⟨_, rfl, ?_⟩
  show wp E (d + 1) m_m_part 84 [some (.ref 65), some (.int a1)] [] (Hp S2) (QV Q)
  refine wp_st (pc' := 86) (L' := [some (.ref 65), some (.int a1)]) (st' := [.int a1, .ref 65]) (h' := Hp S2) 2 (fun Z => rfl) ?_
  refine wp_call (pc' := 89) (rest := []) (fun Z => rfl) (isO_of sh65) hw ?_
  rintro o h1 ⟨S4, rfl, rfl, hw⟩
  refine ⟨_, rfl, ?_⟩
  show wp E (d + 1) m_m_part 89 [some (.ref 65), some (.int a1)] [] (Hp S4) (QV Q)
  refine wp_st (pc' := 98) (L' := [some (.ref 65), some (.int a1)]) (st' := [.ref 65]) (h' := Hp S4) 2 (fun Z => rfl) ?_
  refine wp_call (pc' := 101) (rest := []) (fun Z => rfl) (isO_of sh65) hw ?_
  rintro o h1 ⟨x5, S6, rfl, rfl, hw⟩
  refine ⟨_, rfl, ?_⟩
  show wp E (d + 1) m_m_part 101 [some (.ref 65), some (.int a1)] [.int x5] (Hp S6) (QV Q)
  by_cases hc : x5 = 0
  · rw [if_pos hc] at hw
    refine wp_st (pc' := 108) (L' := [some (.ref 65), some (.int a1)]) (st' := []) (h' := Hp S6) 1 (fun Z => if_pos hc) ?_
    exact wp_ret (fun Z => rfl) ⟨_, rfl, rfl, hw⟩
  · rw [if_neg hc] at hw
    refine wp_st (pc' := 104) (L' := [some (.ref 65), some (.int a1)]) (st' := []) (h' := Hp S6) 1 (fun Z => if_neg hc) ?_
    refine wp_st (pc' := 105) (L' := [some (.ref 65), some (.int a1)]) (st' := [.ref 65]) (h' := Hp S6) 1 (fun Z => rfl) ?_
    refine wp_call (pc' := 108) (rest := []) (fun Z => rfl) (isO_of sh65) hw ?_
    rintro o h1 ⟨S8, rfl, rfl, hw⟩
    refine ⟨_, rfl, ?_⟩
    show wp E (d + 1) m_m_part 108 [some (.ref 65), some (.int a1)] [] (Hp S8) (QV Q)
    exact wp_ret (fun Z => rfl) ⟨_, rfl, rfl, hw⟩
set_option maxRecDepth 4000 in
theorem w_m_puts {E : zX} {d : Nat} {S : St} {a1 : Int32} {Q : St → Prop} 
    (hw : ∃ m2 : Nat, (S 65 29) = nI m2 ∧ m2 < 1400 ∧
    ∀ S1, S1 = up S 74 m2 a1 →
    ∀ S3, S3 = up S1 65 29 ((S1 65 29) + (1 : Int32)) →
    Q S3) :
    k_m_puts E d S a1 Q := by
  show wp E d m_m_puts 0 [some (.ref 65), some (.int a1)] [] (Hp S) (QV Q)
  refine wp_st (pc' := 1) (L' := [some (.ref 65), some (.int a1)]) (st' := [.ref 65]) (h' := Hp S) 1 (fun Z => rfl) ?_
  refine wp_st (pc' := 4) (L' := [some (.ref 65), some (.int a1)]) (st' := [.ref 74]) (h' := Hp S) 1 (fun Z => gfR (E := E) sh65 rfl _) ?_
  refine wp_st (pc' := 5) (L' := [some (.ref 65), some (.int a1)]) (st' := [.ref 65, .ref 74]) (h' := Hp S) 1 (fun Z => rfl) ?_
  refine wp_st (pc' := 8) (L' := [some (.ref 65), some (.int a1)]) (st' := [.int (S 65 29), .ref 74]) (h' := Hp S) 1 (fun Z => gfI (E := E) sh65 rfl _) ?_
  refine wp_st (pc' := 9) (L' := [some (.ref 65), some (.int a1)]) (st' := [.int a1, .int (S 65 29), .ref 74]) (h' := Hp S) 1 (fun Z => rfl) ?_
  obtain ⟨m2, em, hi, hw⟩ := hw
  have hw := hw _ rfl
  refine wp_st (pc' := 10) (L' := [some (.ref 65), some (.int a1)]) (st' := []) (h' := Hp (up S 74 m2 a1)) 1 (fun Z => (congrArg (fun v => zit E 1 Z d m_m_puts 9 [some (.ref 65), some (.int a1)] [.int a1, .int v, .ref 74] (Hp S)) em).trans (stN sh74 (by decide) hi _ _)) ?_
  generalize up S 74 m2 a1 = S1 at hw ⊢
  refine wp_st (pc' := 12) (L' := [some (.ref 65), some (.int a1)]) (st' := [.ref 65, .ref 65]) (h' := Hp S1) 2 (fun Z => rfl) ?_
  refine wp_st (pc' := 15) (L' := [some (.ref 65), some (.int a1)]) (st' := [.int (S1 65 29), .ref 65]) (h' := Hp S1) 1 (fun Z => gfI (E := E) sh65 rfl _) ?_
  refine wp_st (pc' := 17) (L' := [some (.ref 65), some (.int a1)]) (st' := [.int ((S1 65 29) + (1 : Int32)), .ref 65]) (h' := Hp S1) 2 (fun Z => rfl) ?_
  have hw := hw _ rfl
  refine wp_st (pc' := 20) (L' := [some (.ref 65), some (.int a1)]) (st' := []) (h' := Hp (up S1 65 29 ((S1 65 29) + (1 : Int32)))) 1 (fun Z => pfI sh65 rfl (Nat.le_of_ble_eq_true rfl) rfl _) ?_
  generalize up S1 65 29 ((S1 65 29) + (1 : Int32)) = S3 at hw ⊢
  exact wp_ret (fun Z => rfl) ⟨_, rfl, rfl, hw⟩
set_option maxRecDepth 4000 in
theorem w_m_strength {E : zX} {d : Nat} {S : St} {a0 : Int32} {Q : Int32 → St → Prop} 
    (hw : if a0 = 5 then (
      Q (1 : Int32) S)
    else (
      if a0 = 4 then (
        Q (2 : Int32) S)
      else (
        if a0 = 3 then (
          Q (3 : Int32) S)
        else (
          if a0 = 6 then (
            Q (4 : Int32) S)
          else (
            if a0 = 7 then (
              Q (4 : Int32) S)
            else (
              if a0 = 8 then (
                Q (5 : Int32) S)
              else (
                if a0 = 9 then (
                  Q (5 : Int32) S)
                else (
                  Q (6 : Int32) S)))))))) :
    k_m_strength E d S a0 Q := by
  show wp E d m_m_strength 0 [some (.int a0)] [] (Hp S) (QI Q)
  refine wp_st (pc' := 2) (L' := [some (.int a0)]) (st' := [.int 5, .int a0]) (h' := Hp S) 2 (fun Z => rfl) ?_
  by_cases hc : a0 = 5
  · rw [if_pos hc] at hw
    refine wp_st (pc' := 5) (L' := [some (.int a0)]) (st' := []) (h' := Hp S) 1 (fun Z => if_pos hc) ?_
    refine wp_st (pc' := 61) (L' := [some (.int a0)]) (st' := [.int 1]) (h' := Hp S) 2 (fun Z => rfl) ?_
    exact wp_ret (fun Z => rfl) ⟨_, _, rfl, rfl, hw⟩
  · rw [if_neg hc] at hw
    refine wp_st (pc' := 9) (L' := [some (.int a0)]) (st' := []) (h' := Hp S) 1 (fun Z => if_neg hc) ?_
    refine wp_st (pc' := 11) (L' := [some (.int a0)]) (st' := [.int 4, .int a0]) (h' := Hp S) 2 (fun Z => rfl) ?_
    by_cases hc : a0 = 4
    · rw [if_pos hc] at hw
      refine wp_st (pc' := 14) (L' := [some (.int a0)]) (st' := []) (h' := Hp S) 1 (fun Z => if_pos hc) ?_
      refine wp_st (pc' := 61) (L' := [some (.int a0)]) (st' := [.int 2]) (h' := Hp S) 2 (fun Z => rfl) ?_
      exact wp_ret (fun Z => rfl) ⟨_, _, rfl, rfl, hw⟩
    · rw [if_neg hc] at hw
      refine wp_st (pc' := 18) (L' := [some (.int a0)]) (st' := []) (h' := Hp S) 1 (fun Z => if_neg hc) ?_
      refine wp_st (pc' := 20) (L' := [some (.int a0)]) (st' := [.int 3, .int a0]) (h' := Hp S) 2 (fun Z => rfl) ?_
      by_cases hc : a0 = 3
      · rw [if_pos hc] at hw
        refine wp_st (pc' := 23) (L' := [some (.int a0)]) (st' := []) (h' := Hp S) 1 (fun Z => if_pos hc) ?_
        refine wp_st (pc' := 61) (L' := [some (.int a0)]) (st' := [.int 3]) (h' := Hp S) 2 (fun Z => rfl) ?_
        exact wp_ret (fun Z => rfl) ⟨_, _, rfl, rfl, hw⟩
      · rw [if_neg hc] at hw
        refine wp_st (pc' := 27) (L' := [some (.int a0)]) (st' := []) (h' := Hp S) 1 (fun Z => if_neg hc) ?_
        refine wp_st (pc' := 30) (L' := [some (.int a0)]) (st' := [.int 6, .int a0]) (h' := Hp S) 2 (fun Z => rfl) ?_
        by_cases hc : a0 = 6
        · rw [if_pos hc] at hw
          refine wp_st (pc' := 39) (L' := [some (.int a0)]) (st' := []) (h' := Hp S) 1 (fun Z => if_pos hc) ?_
          refine wp_st (pc' := 61) (L' := [some (.int a0)]) (st' := [.int 4]) (h' := Hp S) 2 (fun Z => rfl) ?_
          exact wp_ret (fun Z => rfl) ⟨_, _, rfl, rfl, hw⟩
        · rw [if_neg hc] at hw
          refine wp_st (pc' := 33) (L' := [some (.int a0)]) (st' := []) (h' := Hp S) 1 (fun Z => if_neg hc) ?_
          refine wp_st (pc' := 36) (L' := [some (.int a0)]) (st' := [.int 7, .int a0]) (h' := Hp S) 2 (fun Z => rfl) ?_
          by_cases hc : a0 = 7
          · rw [if_pos hc] at hw
            refine wp_st (pc' := 39) (L' := [some (.int a0)]) (st' := []) (h' := Hp S) 1 (fun Z => if_pos hc) ?_
            refine wp_st (pc' := 61) (L' := [some (.int a0)]) (st' := [.int 4]) (h' := Hp S) 2 (fun Z => rfl) ?_
            exact wp_ret (fun Z => rfl) ⟨_, _, rfl, rfl, hw⟩
          · rw [if_neg hc] at hw
            refine wp_st (pc' := 43) (L' := [some (.int a0)]) (st' := []) (h' := Hp S) 1 (fun Z => if_neg hc) ?_
            refine wp_st (pc' := 46) (L' := [some (.int a0)]) (st' := [.int 8, .int a0]) (h' := Hp S) 2 (fun Z => rfl) ?_
            by_cases hc : a0 = 8
            · rw [if_pos hc] at hw
              refine wp_st (pc' := 55) (L' := [some (.int a0)]) (st' := []) (h' := Hp S) 1 (fun Z => if_pos hc) ?_
              refine wp_st (pc' := 61) (L' := [some (.int a0)]) (st' := [.int 5]) (h' := Hp S) 2 (fun Z => rfl) ?_
              exact wp_ret (fun Z => rfl) ⟨_, _, rfl, rfl, hw⟩
            · rw [if_neg hc] at hw
              refine wp_st (pc' := 49) (L' := [some (.int a0)]) (st' := []) (h' := Hp S) 1 (fun Z => if_neg hc) ?_
              refine wp_st (pc' := 52) (L' := [some (.int a0)]) (st' := [.int 9, .int a0]) (h' := Hp S) 2 (fun Z => rfl) ?_
              by_cases hc : a0 = 9
              · rw [if_pos hc] at hw
                refine wp_st (pc' := 55) (L' := [some (.int a0)]) (st' := []) (h' := Hp S) 1 (fun Z => if_pos hc) ?_
                refine wp_st (pc' := 61) (L' := [some (.int a0)]) (st' := [.int 5]) (h' := Hp S) 2 (fun Z => rfl) ?_
                exact wp_ret (fun Z => rfl) ⟨_, _, rfl, rfl, hw⟩
              · rw [if_neg hc] at hw
                refine wp_st (pc' := 59) (L' := [some (.int a0)]) (st' := []) (h' := Hp S) 1 (fun Z => if_neg hc) ?_
                refine wp_st (pc' := 61) (L' := [some (.int a0)]) (st' := [.int 6]) (h' := Hp S) 1 (fun Z => rfl) ?_
                exact wp_ret (fun Z => rfl) ⟨_, _, rfl, rfl, hw⟩
set_option maxRecDepth 4000 in
theorem w_m_undo {E : zX} {d : Nat} {S : St}  {Q : Int32 → St → Prop} 
    (hw : ∀ S1, S1 = up S 65 0 0 →
    if (S1 65 42) = 0 then (
      Q ((-1) : Int32) S1)
    else (
      ∀ S2, S2 = up S1 65 42 ((S1 65 42) - (1 : Int32)) →
      k_m_undo_26 E d S2 0 Q)) :
    k_m_undo E d S Q := by
  show wp E d m_m_undo 0 [some (.ref 65), none] [] (Hp S) (QI Q)
  refine wp_st (pc' := 2) (L' := [some (.ref 65), none]) (st' := [.int 0, .ref 65]) (h' := Hp S) 2 (fun Z => rfl) ?_
  have hw := hw _ rfl
  refine wp_st (pc' := 5) (L' := [some (.ref 65), none]) (st' := []) (h' := Hp (up S 65 0 0)) 1 (fun Z => pfI sh65 rfl (Nat.le_of_ble_eq_true rfl) rfl _) ?_
  generalize up S 65 0 0 = S1 at hw ⊢
  refine wp_st (pc' := 6) (L' := [some (.ref 65), none]) (st' := [.ref 65]) (h' := Hp S1) 1 (fun Z => rfl) ?_
  refine wp_st (pc' := 9) (L' := [some (.ref 65), none]) (st' := [.int (S1 65 42)]) (h' := Hp S1) 1 (fun Z => gfI (E := E) sh65 rfl _) ?_
  by_cases hc : (S1 65 42) = 0
  · rw [if_pos hc] at hw
    refine wp_st (pc' := 12) (L' := [some (.ref 65), none]) (st' := []) (h' := Hp S1) 1 (fun Z => if_pos hc) ?_
    refine wp_st (pc' := 13) (L' := [some (.ref 65), none]) (st' := [.int (-1)]) (h' := Hp S1) 1 (fun Z => congrArg (fun v => Z d m_m_undo 13 [some (.ref 65), none] [.int v] (Hp S1)) (show Int32.ofInt (-1) = (-1) by decide)) ?_
    exact wp_ret (fun Z => rfl) ⟨_, _, rfl, rfl, hw⟩
  · rw [if_neg hc] at hw
    refine wp_st (pc' := 14) (L' := [some (.ref 65), none]) (st' := []) (h' := Hp S1) 1 (fun Z => if_neg hc) ?_
    refine wp_st (pc' := 16) (L' := [some (.ref 65), none]) (st' := [.ref 65, .ref 65]) (h' := Hp S1) 2 (fun Z => rfl) ?_
    refine wp_st (pc' := 19) (L' := [some (.ref 65), none]) (st' := [.int (S1 65 42), .ref 65]) (h' := Hp S1) 1 (fun Z => gfI (E := E) sh65 rfl _) ?_
    refine wp_st (pc' := 21) (L' := [some (.ref 65), none]) (st' := [.int ((S1 65 42) - (1 : Int32)), .ref 65]) (h' := Hp S1) 2 (fun Z => rfl) ?_
    have hw := hw _ rfl
    refine wp_st (pc' := 24) (L' := [some (.ref 65), none]) (st' := []) (h' := Hp (up S1 65 42 ((S1 65 42) - (1 : Int32)))) 1 (fun Z => pfI sh65 rfl (Nat.le_of_ble_eq_true rfl) rfl _) ?_
    generalize up S1 65 42 ((S1 65 42) - (1 : Int32)) = S2 at hw ⊢
    exact wp_st 2 (fun Z => rfl) (show wp E d m_m_undo 26 [some (.ref 65), some (.int 0)] [] (Hp S2) (QI Q) from hw)
set_option maxRecDepth 4000 in
theorem w_m_undo_26 {E : zX} {d : Nat} {S : St} {a1 : Nat} {Q : Int32 → St → Prop} 
    (hw : if nI 79 ≤ (nI a1) then (
      Q (S 65 42) S)
    else (
      ∃ m1 : Nat, (((79 : Int32) * (S 65 42)) + (nI a1)) = nI m1 ∧ m1 < 3160 ∧
      a1 < 158 ∧
      ∀ S2, S2 = up S 77 a1 (S 78 m1) →
      k_m_undo_26 E d S2 (a1 + 1) Q)) :
    k_m_undo_26 E d S a1 Q := by
  show wp E d m_m_undo 26 [some (.ref 65), some (.int (nI a1))] [] (Hp S) (QI Q)
  refine wp_st (pc' := 29) (L' := [some (.ref 65), some (.int (nI a1))]) (st' := [.int 79, .int (nI a1)]) (h' := Hp S) 2 (fun Z => rfl) ?_
  by_cases hc : nI 79 ≤ (nI a1)
  · rw [if_pos hc] at hw
    refine wp_st (pc' := 58) (L' := [some (.ref 65), some (.int (nI a1))]) (st' := []) (h' := Hp S) 1 (fun Z => if_pos hc) ?_
    refine wp_st (pc' := 59) (L' := [some (.ref 65), some (.int (nI a1))]) (st' := [.ref 65]) (h' := Hp S) 1 (fun Z => rfl) ?_
    refine wp_st (pc' := 62) (L' := [some (.ref 65), some (.int (nI a1))]) (st' := [.int (S 65 42)]) (h' := Hp S) 1 (fun Z => gfI (E := E) sh65 rfl _) ?_
    exact wp_ret (fun Z => rfl) ⟨_, _, rfl, rfl, hw⟩
  · rw [if_neg hc] at hw
    refine wp_st (pc' := 32) (L' := [some (.ref 65), some (.int (nI a1))]) (st' := []) (h' := Hp S) 1 (fun Z => if_neg hc) ?_
    refine wp_st (pc' := 33) (L' := [some (.ref 65), some (.int (nI a1))]) (st' := [.ref 65]) (h' := Hp S) 1 (fun Z => rfl) ?_
    refine wp_st (pc' := 36) (L' := [some (.ref 65), some (.int (nI a1))]) (st' := [.ref 77]) (h' := Hp S) 1 (fun Z => gfR (E := E) sh65 rfl _) ?_
    refine wp_st (pc' := 38) (L' := [some (.ref 65), some (.int (nI a1))]) (st' := [.ref 65, .int (nI a1), .ref 77]) (h' := Hp S) 2 (fun Z => rfl) ?_
    refine wp_st (pc' := 41) (L' := [some (.ref 65), some (.int (nI a1))]) (st' := [.ref 78, .int (nI a1), .ref 77]) (h' := Hp S) 1 (fun Z => gfR (E := E) sh65 rfl _) ?_
    refine wp_st (pc' := 44) (L' := [some (.ref 65), some (.int (nI a1))]) (st' := [.ref 65, .int 79, .ref 78, .int (nI a1), .ref 77]) (h' := Hp S) 2 (fun Z => rfl) ?_
    refine wp_st (pc' := 47) (L' := [some (.ref 65), some (.int (nI a1))]) (st' := [.int (S 65 42), .int 79, .ref 78, .int (nI a1), .ref 77]) (h' := Hp S) 1 (fun Z => gfI (E := E) sh65 rfl _) ?_
    refine wp_st (pc' := 50) (L' := [some (.ref 65), some (.int (nI a1))]) (st' := [.int (((79 : Int32) * (S 65 42)) + (nI a1)), .ref 78, .int (nI a1), .ref 77]) (h' := Hp S) 3 (fun Z => rfl) ?_
    obtain ⟨m1, em, hi, hw⟩ := hw
    refine wp_st (pc' := 51) (L' := [some (.ref 65), some (.int (nI a1))]) (st' := [.int (S 78 m1), .int (nI a1), .ref 77]) (h' := Hp S) 1 (fun Z => (congrArg (fun v => zit E 1 Z d m_m_undo 50 [some (.ref 65), some (.int (nI a1))] [.int v, .ref 78, .int (nI a1), .ref 77] (Hp S)) em).trans (ldN (E := E) sh78 (by decide) hi [.int (nI a1), .ref 77] (fun st => Z d m_m_undo 51 [some (.ref 65), some (.int (nI a1))] st (Hp S)))) ?_
    obtain ⟨hi, hw⟩ := hw
    have hw := hw _ rfl
    refine wp_st (pc' := 52) (L' := [some (.ref 65), some (.int (nI a1))]) (st' := []) (h' := Hp (up S 77 a1 (S 78 m1))) 1 (fun Z => stN sh77 (by decide) hi _ _) ?_
    generalize up S 77 a1 (S 78 m1) = S2 at hw ⊢
    refine wp_st (pc' := 55) (L' := [some (.ref 65), some (.int (nI (a1 + 1)))]) (st' := []) (h' := Hp S2) 1 (fun Z => by rw [← nI_add a1 1]; rfl) ?_
    exact wp_st 1 (fun Z => rfl) (show wp E d m_m_undo 26 [some (.ref 65), some (.int (nI (a1 + 1)))] [] (Hp S2) (QI Q) from hw)
set_option maxRecDepth 4000 in
theorem w_m_within {E : zX} {d : Nat} {S : St} {a0 : Int32} {a1 : Int32} {a2 : Int32} {Q : Int32 → St → Prop} 
    (hw : if a0 < a1 then (
      Q (0 : Int32) S)
    else (
      if a2 < a0 then (
        Q (0 : Int32) S)
      else (
        Q (1 : Int32) S))) :
    k_m_within E d S a0 a1 a2 Q := by
  show wp E d m_m_within 0 [some (.int a0), some (.int a1), some (.int a2)] [] (Hp S) (QI Q)
  refine wp_st (pc' := 2) (L' := [some (.int a0), some (.int a1), some (.int a2)]) (st' := [.int a1, .int a0]) (h' := Hp S) 2 (fun Z => rfl) ?_
  by_cases hc : a0 < a1
  · rw [if_pos hc] at hw
    refine wp_st (pc' := 14) (L' := [some (.int a0), some (.int a1), some (.int a2)]) (st' := []) (h' := Hp S) 1 (fun Z => if_pos hc) ?_
    refine wp_st (pc' := 15) (L' := [some (.int a0), some (.int a1), some (.int a2)]) (st' := [.int 0]) (h' := Hp S) 1 (fun Z => rfl) ?_
    exact wp_ret (fun Z => rfl) ⟨_, _, rfl, rfl, hw⟩
  · rw [if_neg hc] at hw
    refine wp_st (pc' := 5) (L' := [some (.int a0), some (.int a1), some (.int a2)]) (st' := []) (h' := Hp S) 1 (fun Z => if_neg hc) ?_
    refine wp_st (pc' := 7) (L' := [some (.int a0), some (.int a1), some (.int a2)]) (st' := [.int a2, .int a0]) (h' := Hp S) 2 (fun Z => rfl) ?_
    by_cases hc : a2 < a0
    · rw [if_pos hc] at hw
      refine wp_st (pc' := 14) (L' := [some (.int a0), some (.int a1), some (.int a2)]) (st' := []) (h' := Hp S) 1 (fun Z => if_pos hc) ?_
      refine wp_st (pc' := 15) (L' := [some (.int a0), some (.int a1), some (.int a2)]) (st' := [.int 0]) (h' := Hp S) 1 (fun Z => rfl) ?_
      exact wp_ret (fun Z => rfl) ⟨_, _, rfl, rfl, hw⟩
    · rw [if_neg hc] at hw
      refine wp_st (pc' := 10) (L' := [some (.int a0), some (.int a1), some (.int a2)]) (st' := []) (h' := Hp S) 1 (fun Z => if_neg hc) ?_
      refine wp_st (pc' := 15) (L' := [some (.int a0), some (.int a1), some (.int a2)]) (st' := [.int 1]) (h' := Hp S) 2 (fun Z => rfl) ?_
      exact wp_ret (fun Z => rfl) ⟨_, _, rfl, rfl, hw⟩
set_option maxRecDepth 4000 in
theorem w_m_sumOf {E : zX} {d : Nat} {S : St} {a1 : Nat} {a2 : Nat} {a3 : Int32} {Q : Int32 → St → Prop} 
    (hw : k_m_sumOf_6 E d S a1 a2 a3 0 0 Q) :
    k_m_sumOf E d S (nI a1) (nI a2) a3 Q := by
  show wp E d m_m_sumOf 0 [some (.ref 65), some (.int (nI a1)), some (.int (nI a2)), some (.int a3), none, none] [] (Hp S) (QI Q)
  exact wp_st 4 (fun Z => rfl) (show wp E d m_m_sumOf 6 [some (.ref 65), some (.int (nI a1)), some (.int (nI a2)), some (.int a3), some (.int 0), some (.int 0)] [] (Hp S) (QI Q) from hw)
set_option maxRecDepth 4000 in
theorem w_m_sumOf_6 {E : zX} {d : Nat} {S : St} {a1 : Nat} {a2 : Nat} {a3 : Int32} {a4 : Int32} {a5 : Nat} {Q : Int32 → St → Prop} 
    (hw : if a3 ≤ (nI a5) then (
      Q a4 S)
    else (
      ((a1 + a2) + a5) < 158 ∧
      k_m_sumOf_6 E d S a1 a2 a3 (a4 + (S 77 ((a1 + a2) + a5))) (a5 + 1) Q)) :
    k_m_sumOf_6 E d S a1 a2 a3 a4 a5 Q := by
  show wp E d m_m_sumOf 6 [some (.ref 65), some (.int (nI a1)), some (.int (nI a2)), some (.int a3), some (.int a4), some (.int (nI a5))] [] (Hp S) (QI Q)
  refine wp_st (pc' := 9) (L' := [some (.ref 65), some (.int (nI a1)), some (.int (nI a2)), some (.int a3), some (.int a4), some (.int (nI a5))]) (st' := [.int a3, .int (nI a5)]) (h' := Hp S) 2 (fun Z => rfl) ?_
  by_cases hc : a3 ≤ (nI a5)
  · rw [if_pos hc] at hw
    refine wp_st (pc' := 34) (L' := [some (.ref 65), some (.int (nI a1)), some (.int (nI a2)), some (.int a3), some (.int a4), some (.int (nI a5))]) (st' := []) (h' := Hp S) 1 (fun Z => if_pos hc) ?_
    refine wp_st (pc' := 36) (L' := [some (.ref 65), some (.int (nI a1)), some (.int (nI a2)), some (.int a3), some (.int a4), some (.int (nI a5))]) (st' := [.int a4]) (h' := Hp S) 1 (fun Z => rfl) ?_
    exact wp_ret (fun Z => rfl) ⟨_, _, rfl, rfl, hw⟩
  · rw [if_neg hc] at hw
    refine wp_st (pc' := 12) (L' := [some (.ref 65), some (.int (nI a1)), some (.int (nI a2)), some (.int a3), some (.int a4), some (.int (nI a5))]) (st' := []) (h' := Hp S) 1 (fun Z => if_neg hc) ?_
    refine wp_st (pc' := 15) (L' := [some (.ref 65), some (.int (nI a1)), some (.int (nI a2)), some (.int a3), some (.int a4), some (.int (nI a5))]) (st' := [.ref 65, .int a4]) (h' := Hp S) 2 (fun Z => rfl) ?_
    refine wp_st (pc' := 18) (L' := [some (.ref 65), some (.int (nI a1)), some (.int (nI a2)), some (.int a3), some (.int a4), some (.int (nI a5))]) (st' := [.ref 77, .int a4]) (h' := Hp S) 1 (fun Z => gfR (E := E) sh65 rfl _) ?_
    refine wp_st (pc' := 20) (L' := [some (.ref 65), some (.int (nI a1)), some (.int (nI a2)), some (.int a3), some (.int a4), some (.int (nI a5))]) (st' := [.int (nI a2), .int (nI a1), .ref 77, .int a4]) (h' := Hp S) 2 (fun Z => rfl) ?_
    refine wp_st (pc' := 21) (L' := [some (.ref 65), some (.int (nI a1)), some (.int (nI a2)), some (.int a3), some (.int a4), some (.int (nI a5))]) (st' := [.int (nI (a1 + a2)), .ref 77, .int a4]) (h' := Hp S) 1 (fun Z => by rw [← nI_add a1 a2]; rfl) ?_
    refine wp_st (pc' := 23) (L' := [some (.ref 65), some (.int (nI a1)), some (.int (nI a2)), some (.int a3), some (.int a4), some (.int (nI a5))]) (st' := [.int (nI a5), .int (nI (a1 + a2)), .ref 77, .int a4]) (h' := Hp S) 1 (fun Z => rfl) ?_
    refine wp_st (pc' := 24) (L' := [some (.ref 65), some (.int (nI a1)), some (.int (nI a2)), some (.int a3), some (.int a4), some (.int (nI a5))]) (st' := [.int (nI ((a1 + a2) + a5)), .ref 77, .int a4]) (h' := Hp S) 1 (fun Z => by rw [← nI_add (a1 + a2) a5]; rfl) ?_
    obtain ⟨hi, hw⟩ := hw
    refine wp_st (pc' := 25) (L' := [some (.ref 65), some (.int (nI a1)), some (.int (nI a2)), some (.int a3), some (.int a4), some (.int (nI a5))]) (st' := [.int (S 77 ((a1 + a2) + a5)), .int a4]) (h' := Hp S) 1 (fun Z => ldN (E := E) sh77 (by decide) hi [.int a4] (fun st => Z d m_m_sumOf 25 [some (.ref 65), some (.int (nI a1)), some (.int (nI a2)), some (.int a3), some (.int a4), some (.int (nI a5))] st (Hp S))) ?_
    refine wp_st (pc' := 28) (L' := [some (.ref 65), some (.int (nI a1)), some (.int (nI a2)), some (.int a3), some (.int (a4 + (S 77 ((a1 + a2) + a5)))), some (.int (nI a5))]) (st' := []) (h' := Hp S) 2 (fun Z => rfl) ?_
    refine wp_st (pc' := 31) (L' := [some (.ref 65), some (.int (nI a1)), some (.int (nI a2)), some (.int a3), some (.int (a4 + (S 77 ((a1 + a2) + a5)))), some (.int (nI (a5 + 1)))]) (st' := []) (h' := Hp S) 1 (fun Z => by rw [← nI_add a5 1]; rfl) ?_
    exact wp_st 1 (fun Z => rfl) (show wp E d m_m_sumOf 6 [some (.ref 65), some (.int (nI a1)), some (.int (nI a2)), some (.int a3), some (.int (a4 + (S 77 ((a1 + a2) + a5)))), some (.int (nI (a5 + 1)))] [] (Hp S) (QI Q) from hw)
set_option maxRecDepth 4000 in
theorem w_m_setOff {E : zX} {d : Nat} {S : St} {a1 : Nat} {a2 : Int32} {a3 : Int32} {Q : Int32 → St → Prop} (hd : 1 ≤ d) 
    (hw : k_m_setOff_6 E d S a1 a3 a2 1 Q) :
    k_m_setOff E d S (nI a1) a2 a3 Q := by
  obtain ⟨d, rfl⟩ := Nat.exists_eq_add_of_le' hd
  show wp E (d + 1) m_m_setOff 0 [some (.ref 65), some (.int (nI a1)), some (.int a2), some (.int a3), none, none, none, none] [] (Hp S) (QI Q)
  exact wp_st 4 (fun Z => rfl) (show wp E (d + 1) m_m_setOff 6 [some (.ref 65), some (.int (nI a1)), some (.int a2), some (.int a3), some (.int a2), some (.int 1), none, none] [] (Hp S) (QI Q) from (hw (some (.int a2)) none none))
set_option maxRecDepth 4000 in
theorem w_m_setOff_6 {E : zX} {d : Nat} {S : St} {a1 : Nat} {a3 : Int32} {a4 : Int32} {a5 : Int32} {Q : Int32 → St → Prop} (hd : 1 ≤ d) 
    (hw : if a5 = 0 then (
      Q a4 S)
    else (
      k_m_setOff_17 E d S a1 a3 a4 0 0 Q)) :
    k_m_setOff_6 E d S a1 a3 a4 a5 Q := by
  obtain ⟨d, rfl⟩ := Nat.exists_eq_add_of_le' hd
  intro j2 j6 j7
  show wp E (d + 1) m_m_setOff 6 [some (.ref 65), some (.int (nI a1)), j2, some (.int a3), some (.int a4), some (.int a5), j6, j7] [] (Hp S) (QI Q)
  refine wp_st (pc' := 8) (L' := [some (.ref 65), some (.int (nI a1)), j2, some (.int a3), some (.int a4), some (.int a5), j6, j7]) (st' := [.int a5]) (h' := Hp S) 1 (fun Z => rfl) ?_
  by_cases hc : a5 = 0
  · rw [if_pos hc] at hw
    refine wp_st (pc' := 121) (L' := [some (.ref 65), some (.int (nI a1)), j2, some (.int a3), some (.int a4), some (.int a5), j6, j7]) (st' := []) (h' := Hp S) 1 (fun Z => if_pos hc) ?_
    refine wp_st (pc' := 123) (L' := [some (.ref 65), some (.int (nI a1)), j2, some (.int a3), some (.int a4), some (.int a5), j6, j7]) (st' := [.int a4]) (h' := Hp S) 1 (fun Z => rfl) ?_
    exact wp_ret (fun Z => rfl) ⟨_, _, rfl, rfl, hw⟩
  · rw [if_neg hc] at hw
    refine wp_st (pc' := 11) (L' := [some (.ref 65), some (.int (nI a1)), j2, some (.int a3), some (.int a4), some (.int a5), j6, j7]) (st' := []) (h' := Hp S) 1 (fun Z => if_neg hc) ?_
    exact wp_st 4 (fun Z => rfl) (show wp E (d + 1) m_m_setOff 17 [some (.ref 65), some (.int (nI a1)), j2, some (.int a3), some (.int a4), some (.int 0), some (.int 0), j7] [] (Hp S) (QI Q) from (hw j2 j7))
set_option maxRecDepth 4000 in
theorem w_m_setOff_17 {E : zX} {d : Nat} {S : St} {a1 : Nat} {a3 : Int32} {a4 : Int32} {a5 : Int32} {a6 : Nat} {Q : Int32 → St → Prop} (hd : 1 ≤ d) 
    (hw : if (S 65 4) ≤ (nI a6) then (
      k_m_setOff_6 E d S a1 a3 a4 a5 Q)
    else (
      k_m_setOff_29 E d S a1 a3 a4 a5 a6 0 Q)) :
    k_m_setOff_17 E d S a1 a3 a4 a5 a6 Q := by
  obtain ⟨d, rfl⟩ := Nat.exists_eq_add_of_le' hd
  intro j2 j7
  show wp E (d + 1) m_m_setOff 17 [some (.ref 65), some (.int (nI a1)), j2, some (.int a3), some (.int a4), some (.int a5), some (.int (nI a6)), j7] [] (Hp S) (QI Q)
  refine wp_st (pc' := 20) (L' := [some (.ref 65), some (.int (nI a1)), j2, some (.int a3), some (.int a4), some (.int a5), some (.int (nI a6)), j7]) (st' := [.ref 65, .int (nI a6)]) (h' := Hp S) 2 (fun Z => rfl) ?_
  refine wp_st (pc' := 23) (L' := [some (.ref 65), some (.int (nI a1)), j2, some (.int a3), some (.int a4), some (.int a5), some (.int (nI a6)), j7]) (st' := [.int (S 65 4), .int (nI a6)]) (h' := Hp S) 1 (fun Z => gfI (E := E) sh65 rfl _) ?_
  by_cases hc : (S 65 4) ≤ (nI a6)
  · rw [if_pos hc] at hw
    refine wp_st (pc' := 118) (L' := [some (.ref 65), some (.int (nI a1)), j2, some (.int a3), some (.int a4), some (.int a5), some (.int (nI a6)), j7]) (st' := []) (h' := Hp S) 1 (fun Z => if_pos hc) ?_
    exact wp_st 1 (fun Z => rfl) (show wp E (d + 1) m_m_setOff 6 [some (.ref 65), some (.int (nI a1)), j2, some (.int a3), some (.int a4), some (.int a5), some (.int (nI a6)), j7] [] (Hp S) (QI Q) from (hw j2 (some (.int (nI a6))) j7))
  · rw [if_neg hc] at hw
    refine wp_st (pc' := 26) (L' := [some (.ref 65), some (.int (nI a1)), j2, some (.int a3), some (.int a4), some (.int a5), some (.int (nI a6)), j7]) (st' := []) (h' := Hp S) 1 (fun Z => if_neg hc) ?_
    exact wp_st 2 (fun Z => rfl) (show wp E (d + 1) m_m_setOff 29 [some (.ref 65), some (.int (nI a1)), j2, some (.int a3), some (.int a4), some (.int a5), some (.int (nI a6)), some (.int 0)] [] (Hp S) (QI Q) from (hw j2))
set_option maxRecDepth 4000 in
theorem w_m_setOff_29 {E : zX} {d : Nat} {S : St} {a1 : Nat} {a3 : Int32} {a4 : Int32} {a5 : Int32} {a6 : Nat} {a7 : Nat} {Q : Int32 → St → Prop} (hd : 1 ≤ d) 
    (hw : if (S 65 4) ≤ (nI a7) then (
      k_m_setOff_17 E d S a1 a3 a4 a5 (a6 + 1) Q)
    else (
      if ((a4 >>> ((nI a6) &&& 31)) &&& (1 : Int32)) = 1 then (
        if ((a4 >>> ((nI a7) &&& 31)) &&& (1 : Int32)) = 1 then (
          k_m_setOff_29 E d S a1 a3 a4 a5 a6 (a7 + 1) Q)
        else (
          if ((a3 >>> ((nI a7) &&& 31)) &&& (1 : Int32)) = 0 then (
            k_m_setOff_29 E d S a1 a3 a4 a5 a6 (a7 + 1) Q)
          else (
            ((a1 + 29) + a7) < 158 ∧
            k_m_isIn E (d - 1) S (nI a1) (nI a6) (S 77 ((a1 + 29) + a7)) (fun x1 S2 =>
            if x1 = 0 then (
              k_m_setOff_29 E d S2 a1 a3 a4 a5 a6 (a7 + 1) Q)
            else (
              k_m_setOff_29 E d S2 a1 a3 (a4 ||| (bt a7)) 1 a6 (a7 + 1) Q)))))
      else (
        k_m_setOff_17 E d S a1 a3 a4 a5 (a6 + 1) Q))) :
    k_m_setOff_29 E d S a1 a3 a4 a5 a6 a7 Q := by
  obtain ⟨d, rfl⟩ := Nat.exists_eq_add_of_le' hd
  intro j2
  show wp E (d + 1) m_m_setOff 29 [some (.ref 65), some (.int (nI a1)), j2, some (.int a3), some (.int a4), some (.int a5), some (.int (nI a6)), some (.int (nI a7))] [] (Hp S) (QI Q)
  refine wp_st (pc' := 32) (L' := [some (.ref 65), some (.int (nI a1)), j2, some (.int a3), some (.int a4), some (.int a5), some (.int (nI a6)), some (.int (nI a7))]) (st' := [.ref 65, .int (nI a7)]) (h' := Hp S) 2 (fun Z => rfl) ?_
  refine wp_st (pc' := 35) (L' := [some (.ref 65), some (.int (nI a1)), j2, some (.int a3), some (.int a4), some (.int a5), some (.int (nI a6)), some (.int (nI a7))]) (st' := [.int (S 65 4), .int (nI a7)]) (h' := Hp S) 1 (fun Z => gfI (E := E) sh65 rfl _) ?_
  by_cases hc : (S 65 4) ≤ (nI a7)
  · rw [if_pos hc] at hw
    refine wp_st (pc' := 112) (L' := [some (.ref 65), some (.int (nI a1)), j2, some (.int a3), some (.int a4), some (.int a5), some (.int (nI a6)), some (.int (nI a7))]) (st' := []) (h' := Hp S) 1 (fun Z => if_pos hc) ?_
    refine wp_st (pc' := 115) (L' := [some (.ref 65), some (.int (nI a1)), j2, some (.int a3), some (.int a4), some (.int a5), some (.int (nI (a6 + 1))), some (.int (nI a7))]) (st' := []) (h' := Hp S) 1 (fun Z => by rw [← nI_add a6 1]; rfl) ?_
    exact wp_st 1 (fun Z => rfl) (show wp E (d + 1) m_m_setOff 17 [some (.ref 65), some (.int (nI a1)), j2, some (.int a3), some (.int a4), some (.int a5), some (.int (nI (a6 + 1))), some (.int (nI a7))] [] (Hp S) (QI Q) from (hw j2 (some (.int (nI a7)))))
  · rw [if_neg hc] at hw
    refine wp_st (pc' := 38) (L' := [some (.ref 65), some (.int (nI a1)), j2, some (.int a3), some (.int a4), some (.int a5), some (.int (nI a6)), some (.int (nI a7))]) (st' := []) (h' := Hp S) 1 (fun Z => if_neg hc) ?_
    refine wp_st (pc' := 46) (L' := [some (.ref 65), some (.int (nI a1)), j2, some (.int a3), some (.int a4), some (.int a5), some (.int (nI a6)), some (.int (nI a7))]) (st' := [.int 1, .int ((a4 >>> ((nI a6) &&& 31)) &&& (1 : Int32))]) (h' := Hp S) 6 (fun Z => rfl) ?_
    by_cases hc : ((a4 >>> ((nI a6) &&& 31)) &&& (1 : Int32)) = 1
    · rw [if_pos hc] at hw
      refine wp_st (pc' := 49) (L' := [some (.ref 65), some (.int (nI a1)), j2, some (.int a3), some (.int a4), some (.int a5), some (.int (nI a6)), some (.int (nI a7))]) (st' := []) (h' := Hp S) 1 (fun Z => if_pos hc) ?_
      refine wp_st (pc' := 57) (L' := [some (.ref 65), some (.int (nI a1)), j2, some (.int a3), some (.int a4), some (.int a5), some (.int (nI a6)), some (.int (nI a7))]) (st' := [.int 1, .int ((a4 >>> ((nI a7) &&& 31)) &&& (1 : Int32))]) (h' := Hp S) 6 (fun Z => rfl) ?_
      by_cases hc : ((a4 >>> ((nI a7) &&& 31)) &&& (1 : Int32)) = 1
      · rw [if_pos hc] at hw
        refine wp_st (pc' := 106) (L' := [some (.ref 65), some (.int (nI a1)), j2, some (.int a3), some (.int a4), some (.int a5), some (.int (nI a6)), some (.int (nI a7))]) (st' := []) (h' := Hp S) 1 (fun Z => if_pos hc) ?_
        refine wp_st (pc' := 109) (L' := [some (.ref 65), some (.int (nI a1)), j2, some (.int a3), some (.int a4), some (.int a5), some (.int (nI a6)), some (.int (nI (a7 + 1)))]) (st' := []) (h' := Hp S) 1 (fun Z => by rw [← nI_add a7 1]; rfl) ?_
        exact wp_st 1 (fun Z => rfl) (show wp E (d + 1) m_m_setOff 29 [some (.ref 65), some (.int (nI a1)), j2, some (.int a3), some (.int a4), some (.int a5), some (.int (nI a6)), some (.int (nI (a7 + 1)))] [] (Hp S) (QI Q) from (hw j2))
      · rw [if_neg hc] at hw
        refine wp_st (pc' := 60) (L' := [some (.ref 65), some (.int (nI a1)), j2, some (.int a3), some (.int a4), some (.int a5), some (.int (nI a6)), some (.int (nI a7))]) (st' := []) (h' := Hp S) 1 (fun Z => if_neg hc) ?_
        refine wp_st (pc' := 66) (L' := [some (.ref 65), some (.int (nI a1)), j2, some (.int a3), some (.int a4), some (.int a5), some (.int (nI a6)), some (.int (nI a7))]) (st' := [.int ((a3 >>> ((nI a7) &&& 31)) &&& (1 : Int32))]) (h' := Hp S) 5 (fun Z => rfl) ?_
        by_cases hc : ((a3 >>> ((nI a7) &&& 31)) &&& (1 : Int32)) = 0
        · rw [if_pos hc] at hw
          refine wp_st (pc' := 106) (L' := [some (.ref 65), some (.int (nI a1)), j2, some (.int a3), some (.int a4), some (.int a5), some (.int (nI a6)), some (.int (nI a7))]) (st' := []) (h' := Hp S) 1 (fun Z => if_pos hc) ?_
          refine wp_st (pc' := 109) (L' := [some (.ref 65), some (.int (nI a1)), j2, some (.int a3), some (.int a4), some (.int a5), some (.int (nI a6)), some (.int (nI (a7 + 1)))]) (st' := []) (h' := Hp S) 1 (fun Z => by rw [← nI_add a7 1]; rfl) ?_
          exact wp_st 1 (fun Z => rfl) (show wp E (d + 1) m_m_setOff 29 [some (.ref 65), some (.int (nI a1)), j2, some (.int a3), some (.int a4), some (.int a5), some (.int (nI a6)), some (.int (nI (a7 + 1)))] [] (Hp S) (QI Q) from (hw j2))
        · rw [if_neg hc] at hw
          refine wp_st (pc' := 69) (L' := [some (.ref 65), some (.int (nI a1)), j2, some (.int a3), some (.int a4), some (.int a5), some (.int (nI a6)), some (.int (nI a7))]) (st' := []) (h' := Hp S) 1 (fun Z => if_neg hc) ?_
          refine wp_st (pc' := 74) (L' := [some (.ref 65), some (.int (nI a1)), j2, some (.int a3), some (.int a4), some (.int a5), some (.int (nI a6)), some (.int (nI a7))]) (st' := [.ref 65, .int (nI a6), .int (nI a1), .ref 65]) (h' := Hp S) 4 (fun Z => rfl) ?_
          refine wp_st (pc' := 77) (L' := [some (.ref 65), some (.int (nI a1)), j2, some (.int a3), some (.int a4), some (.int a5), some (.int (nI a6)), some (.int (nI a7))]) (st' := [.ref 77, .int (nI a6), .int (nI a1), .ref 65]) (h' := Hp S) 1 (fun Z => gfR (E := E) sh65 rfl _) ?_
          refine wp_st (pc' := 80) (L' := [some (.ref 65), some (.int (nI a1)), j2, some (.int a3), some (.int a4), some (.int a5), some (.int (nI a6)), some (.int (nI a7))]) (st' := [.int 29, .int (nI a1), .ref 77, .int (nI a6), .int (nI a1), .ref 65]) (h' := Hp S) 2 (fun Z => rfl) ?_
          refine wp_st (pc' := 81) (L' := [some (.ref 65), some (.int (nI a1)), j2, some (.int a3), some (.int a4), some (.int a5), some (.int (nI a6)), some (.int (nI a7))]) (st' := [.int (nI (a1 + 29)), .ref 77, .int (nI a6), .int (nI a1), .ref 65]) (h' := Hp S) 1 (fun Z => by rw [← nI_add a1 29]; rfl) ?_
          refine wp_st (pc' := 83) (L' := [some (.ref 65), some (.int (nI a1)), j2, some (.int a3), some (.int a4), some (.int a5), some (.int (nI a6)), some (.int (nI a7))]) (st' := [.int (nI a7), .int (nI (a1 + 29)), .ref 77, .int (nI a6), .int (nI a1), .ref 65]) (h' := Hp S) 1 (fun Z => rfl) ?_
          refine wp_st (pc' := 84) (L' := [some (.ref 65), some (.int (nI a1)), j2, some (.int a3), some (.int a4), some (.int a5), some (.int (nI a6)), some (.int (nI a7))]) (st' := [.int (nI ((a1 + 29) + a7)), .ref 77, .int (nI a6), .int (nI a1), .ref 65]) (h' := Hp S) 1 (fun Z => by rw [← nI_add (a1 + 29) a7]; rfl) ?_
          obtain ⟨hi, hw⟩ := hw
          refine wp_st (pc' := 85) (L' := [some (.ref 65), some (.int (nI a1)), j2, some (.int a3), some (.int a4), some (.int a5), some (.int (nI a6)), some (.int (nI a7))]) (st' := [.int (S 77 ((a1 + 29) + a7)), .int (nI a6), .int (nI a1), .ref 65]) (h' := Hp S) 1 (fun Z => ldN (E := E) sh77 (by decide) hi [.int (nI a6), .int (nI a1), .ref 65] (fun st => Z (d + 1) m_m_setOff 85 [some (.ref 65), some (.int (nI a1)), j2, some (.int a3), some (.int a4), some (.int a5), some (.int (nI a6)), some (.int (nI a7))] st (Hp S))) ?_
          refine wp_call (pc' := 88) (rest := []) (fun Z => rfl) (isO_of sh65) hw ?_
          rintro o h1 ⟨x1, S2, rfl, rfl, hw⟩
          refine ⟨_, rfl, ?_⟩
          show wp E (d + 1) m_m_setOff 88 [some (.ref 65), some (.int (nI a1)), j2, some (.int a3), some (.int a4), some (.int a5), some (.int (nI a6)), some (.int (nI a7))] [.int x1] (Hp S2) (QI Q)
          by_cases hc : x1 = 0
          · rw [if_pos hc] at hw
            refine wp_st (pc' := 91) (L' := [some (.ref 65), some (.int (nI a1)), j2, some (.int a3), some (.int a4), some (.int a5), some (.int (nI a6)), some (.int (nI a7))]) (st' := []) (h' := Hp S2) 1 (fun Z => if_pos hc) ?_
            refine wp_st (pc' := 106) (L' := [some (.ref 65), some (.int (nI a1)), j2, some (.int a3), some (.int a4), some (.int a5), some (.int (nI a6)), some (.int (nI a7))]) (st' := []) (h' := Hp S2) 1 (fun Z => rfl) ?_
            refine wp_st (pc' := 109) (L' := [some (.ref 65), some (.int (nI a1)), j2, some (.int a3), some (.int a4), some (.int a5), some (.int (nI a6)), some (.int (nI (a7 + 1)))]) (st' := []) (h' := Hp S2) 1 (fun Z => by rw [← nI_add a7 1]; rfl) ?_
            exact wp_st 1 (fun Z => rfl) (show wp E (d + 1) m_m_setOff 29 [some (.ref 65), some (.int (nI a1)), j2, some (.int a3), some (.int a4), some (.int a5), some (.int (nI a6)), some (.int (nI (a7 + 1)))] [] (Hp S2) (QI Q) from (hw j2))
          · rw [if_neg hc] at hw
            refine wp_st (pc' := 94) (L' := [some (.ref 65), some (.int (nI a1)), j2, some (.int a3), some (.int a4), some (.int a5), some (.int (nI a6)), some (.int (nI a7))]) (st' := []) (h' := Hp S2) 1 (fun Z => if_neg hc) ?_
            refine wp_st (pc' := 106) (L' := [some (.ref 65), some (.int (nI a1)), j2, some (.int a3), some (.int (a4 ||| (bt a7))), some (.int 1), some (.int (nI a6)), some (.int (nI a7))]) (st' := []) (h' := Hp S2) 8 (fun Z => rfl) ?_
            refine wp_st (pc' := 109) (L' := [some (.ref 65), some (.int (nI a1)), j2, some (.int a3), some (.int (a4 ||| (bt a7))), some (.int 1), some (.int (nI a6)), some (.int (nI (a7 + 1)))]) (st' := []) (h' := Hp S2) 1 (fun Z => by rw [← nI_add a7 1]; rfl) ?_
            exact wp_st 1 (fun Z => rfl) (show wp E (d + 1) m_m_setOff 29 [some (.ref 65), some (.int (nI a1)), j2, some (.int a3), some (.int (a4 ||| (bt a7))), some (.int 1), some (.int (nI a6)), some (.int (nI (a7 + 1)))] [] (Hp S2) (QI Q) from (hw j2))
    · rw [if_neg hc] at hw
      refine wp_st (pc' := 112) (L' := [some (.ref 65), some (.int (nI a1)), j2, some (.int a3), some (.int a4), some (.int a5), some (.int (nI a6)), some (.int (nI a7))]) (st' := []) (h' := Hp S) 1 (fun Z => if_neg hc) ?_
      refine wp_st (pc' := 115) (L' := [some (.ref 65), some (.int (nI a1)), j2, some (.int a3), some (.int a4), some (.int a5), some (.int (nI (a6 + 1))), some (.int (nI a7))]) (st' := []) (h' := Hp S) 1 (fun Z => by rw [← nI_add a6 1]; rfl) ?_
      exact wp_st 1 (fun Z => rfl) (show wp E (d + 1) m_m_setOff 17 [some (.ref 65), some (.int (nI a1)), j2, some (.int a3), some (.int a4), some (.int a5), some (.int (nI (a6 + 1))), some (.int (nI a7))] [] (Hp S) (QI Q) from (hw j2 (some (.int (nI a7)))))
set_option maxRecDepth 4000 in
theorem w_m_person {E : zX} {d : Nat} {S : St} {a1 : Int32} {a2 : Int32} {Q : Int32 → St → Prop} (hd : 1 ≤ d) 
    (hw : ∀ S1, S1 = up S 65 0 0 →
    k_m_isPerson E (d - 1) S1 a1 (fun x2 S3 =>
    if x2 = 0 then (
      Q (0 : Int32) S3)
    else (
      k_m_isWhat E (d - 1) S3 a2 6 (fun x4 S5 =>
      if x4 = 0 then (
        Q (0 : Int32) S5)
      else (
        if a2 = 0 then (
          ∃ m6 : Nat, a1 = nI m6 ∧ m6 < 7 ∧
          Q (S5 66 m6) S5)
        else if a2 = 1 then (
          ∃ m7 : Nat, ((22 : Int32) + a1) = nI m7 ∧ m7 < 158 ∧
          Q (S5 77 m7) S5)
        else if a2 = 2 then (
          ∃ m8 : Nat, ((1 : Int32) + a1) = nI m8 ∧ m8 < 158 ∧
          Q (S5 77 m8) S5)
        else if a2 = 3 then (
          ∃ m9 : Nat, ((8 : Int32) + a1) = nI m9 ∧ m9 < 158 ∧
          Q (S5 77 m9) S5)
        else if a2 = 4 then (
          ∃ m10 : Nat, ((15 : Int32) + a1) = nI m10 ∧ m10 < 158 ∧
          Q (S5 77 m10) S5)
        else if a2 = 5 then (
          k_m_ownOnes E (d - 1) S5 0 a1 (fun x11 S12 =>
          Q x11 S12))
        else (
          k_m_ballFor E (d - 1) S5 0 a1 (fun x13 S14 =>
        Q x13 S14))))))) :
    k_m_person E d S a1 a2 Q := by
  obtain ⟨d, rfl⟩ := Nat.exists_eq_add_of_le' hd
  show wp E (d + 1) m_m_person 0 [some (.ref 65), some (.int a1), some (.int a2)] [] (Hp S) (QI Q)
  refine wp_st (pc' := 2) (L' := [some (.ref 65), some (.int a1), some (.int a2)]) (st' := [.int 0, .ref 65]) (h' := Hp S) 2 (fun Z => rfl) ?_
  have hw := hw _ rfl
  refine wp_st (pc' := 5) (L' := [some (.ref 65), some (.int a1), some (.int a2)]) (st' := []) (h' := Hp (up S 65 0 0)) 1 (fun Z => pfI sh65 rfl (Nat.le_of_ble_eq_true rfl) rfl _) ?_
  generalize up S 65 0 0 = S1 at hw ⊢
  refine wp_st (pc' := 7) (L' := [some (.ref 65), some (.int a1), some (.int a2)]) (st' := [.int a1, .ref 65]) (h' := Hp S1) 2 (fun Z => rfl) ?_
  refine wp_call (pc' := 10) (rest := []) (fun Z => rfl) (isO_of sh65) hw ?_
  rintro o h1 ⟨x2, S3, rfl, rfl, hw⟩
  refine ⟨_, rfl, ?_⟩
  show wp E (d + 1) m_m_person 10 [some (.ref 65), some (.int a1), some (.int a2)] [.int x2] (Hp S3) (QI Q)
  by_cases hc : x2 = 0
  · rw [if_pos hc] at hw
    refine wp_st (pc' := 23) (L' := [some (.ref 65), some (.int a1), some (.int a2)]) (st' := []) (h' := Hp S3) 1 (fun Z => if_pos hc) ?_
    refine wp_st (pc' := 24) (L' := [some (.ref 65), some (.int a1), some (.int a2)]) (st' := [.int 0]) (h' := Hp S3) 1 (fun Z => rfl) ?_
    exact wp_ret (fun Z => rfl) ⟨_, _, rfl, rfl, hw⟩
  · rw [if_neg hc] at hw
    refine wp_st (pc' := 13) (L' := [some (.ref 65), some (.int a1), some (.int a2)]) (st' := []) (h' := Hp S3) 1 (fun Z => if_neg hc) ?_
    refine wp_st (pc' := 17) (L' := [some (.ref 65), some (.int a1), some (.int a2)]) (st' := [.int 6, .int a2, .ref 65]) (h' := Hp S3) 3 (fun Z => rfl) ?_
    refine wp_call (pc' := 20) (rest := []) (fun Z => rfl) (isO_of sh65) hw ?_
    rintro o h1 ⟨x4, S5, rfl, rfl, hw⟩
    refine ⟨_, rfl, ?_⟩
    show wp E (d + 1) m_m_person 20 [some (.ref 65), some (.int a1), some (.int a2)] [.int x4] (Hp S5) (QI Q)
    by_cases hc : x4 = 0
    · rw [if_pos hc] at hw
      refine wp_st (pc' := 23) (L' := [some (.ref 65), some (.int a1), some (.int a2)]) (st' := []) (h' := Hp S5) 1 (fun Z => if_pos hc) ?_
      refine wp_st (pc' := 24) (L' := [some (.ref 65), some (.int a1), some (.int a2)]) (st' := [.int 0]) (h' := Hp S5) 1 (fun Z => rfl) ?_
      exact wp_ret (fun Z => rfl) ⟨_, _, rfl, rfl, hw⟩
    · rw [if_neg hc] at hw
      refine wp_st (pc' := 25) (L' := [some (.ref 65), some (.int a1), some (.int a2)]) (st' := []) (h' := Hp S5) 1 (fun Z => if_neg hc) ?_
      refine wp_st (pc' := 26) (L' := [some (.ref 65), some (.int a1), some (.int a2)]) (st' := [.int a2]) (h' := Hp S5) 1 (fun Z => rfl) ?_
      by_cases c0 : a2 = 0
      · rw [if_pos c0] at hw
        refine wp_st (pc' := 64) (L' := [some (.ref 65), some (.int a1), some (.int a2)]) (st' := []) (h' := Hp S5) 1 (fun Z => (show zsw (.tableswitch 91 0 5 #[38, 45, 55, 64, 74, 84]) 26 (.int a2 :: []) (fun t st1 => Z (d + 1) m_m_person t [some (.ref 65), some (.int a1), some (.int a2)] st1 (Hp S5)) = _ from zsw_at (c := 0) (by rw [c0]; decide) (by decide) rfl rfl)) ?_
        refine wp_st (pc' := 65) (L' := [some (.ref 65), some (.int a1), some (.int a2)]) (st' := [.ref 65]) (h' := Hp S5) 1 (fun Z => rfl) ?_
        refine wp_st (pc' := 68) (L' := [some (.ref 65), some (.int a1), some (.int a2)]) (st' := [.ref 66]) (h' := Hp S5) 1 (fun Z => gfR (E := E) sh65 rfl _) ?_
        refine wp_st (pc' := 69) (L' := [some (.ref 65), some (.int a1), some (.int a2)]) (st' := [.int a1, .ref 66]) (h' := Hp S5) 1 (fun Z => rfl) ?_
        obtain ⟨m6, em, hi, hw⟩ := hw
        refine wp_st (pc' := 70) (L' := [some (.ref 65), some (.int a1), some (.int a2)]) (st' := [.int (S5 66 m6)]) (h' := Hp S5) 1 (fun Z => (congrArg (fun v => zit E 1 Z (d + 1) m_m_person 69 [some (.ref 65), some (.int a1), some (.int a2)] [.int v, .ref 66] (Hp S5)) em).trans (ldN (E := E) sh66 (by decide) hi [] (fun st => Z (d + 1) m_m_person 70 [some (.ref 65), some (.int a1), some (.int a2)] st (Hp S5)))) ?_
        exact wp_ret (fun Z => rfl) ⟨_, _, rfl, rfl, hw⟩
      rw [if_neg c0] at hw
      by_cases c1 : a2 = 1
      · rw [if_pos c1] at hw
        refine wp_st (pc' := 71) (L' := [some (.ref 65), some (.int a1), some (.int a2)]) (st' := []) (h' := Hp S5) 1 (fun Z => (show zsw (.tableswitch 91 0 5 #[38, 45, 55, 64, 74, 84]) 26 (.int a2 :: []) (fun t st1 => Z (d + 1) m_m_person t [some (.ref 65), some (.int a1), some (.int a2)] st1 (Hp S5)) = _ from zsw_at (c := 1) (by rw [c1]; decide) (by decide) rfl rfl)) ?_
        refine wp_st (pc' := 72) (L' := [some (.ref 65), some (.int a1), some (.int a2)]) (st' := [.ref 65]) (h' := Hp S5) 1 (fun Z => rfl) ?_
        refine wp_st (pc' := 75) (L' := [some (.ref 65), some (.int a1), some (.int a2)]) (st' := [.ref 77]) (h' := Hp S5) 1 (fun Z => gfR (E := E) sh65 rfl _) ?_
        refine wp_st (pc' := 79) (L' := [some (.ref 65), some (.int a1), some (.int a2)]) (st' := [.int ((22 : Int32) + a1), .ref 77]) (h' := Hp S5) 3 (fun Z => rfl) ?_
        obtain ⟨m7, em, hi, hw⟩ := hw
        refine wp_st (pc' := 80) (L' := [some (.ref 65), some (.int a1), some (.int a2)]) (st' := [.int (S5 77 m7)]) (h' := Hp S5) 1 (fun Z => (congrArg (fun v => zit E 1 Z (d + 1) m_m_person 79 [some (.ref 65), some (.int a1), some (.int a2)] [.int v, .ref 77] (Hp S5)) em).trans (ldN (E := E) sh77 (by decide) hi [] (fun st => Z (d + 1) m_m_person 80 [some (.ref 65), some (.int a1), some (.int a2)] st (Hp S5)))) ?_
        exact wp_ret (fun Z => rfl) ⟨_, _, rfl, rfl, hw⟩
      rw [if_neg c1] at hw
      by_cases c2 : a2 = 2
      · rw [if_pos c2] at hw
        refine wp_st (pc' := 81) (L' := [some (.ref 65), some (.int a1), some (.int a2)]) (st' := []) (h' := Hp S5) 1 (fun Z => (show zsw (.tableswitch 91 0 5 #[38, 45, 55, 64, 74, 84]) 26 (.int a2 :: []) (fun t st1 => Z (d + 1) m_m_person t [some (.ref 65), some (.int a1), some (.int a2)] st1 (Hp S5)) = _ from zsw_at (c := 2) (by rw [c2]; decide) (by decide) rfl rfl)) ?_
        refine wp_st (pc' := 82) (L' := [some (.ref 65), some (.int a1), some (.int a2)]) (st' := [.ref 65]) (h' := Hp S5) 1 (fun Z => rfl) ?_
        refine wp_st (pc' := 85) (L' := [some (.ref 65), some (.int a1), some (.int a2)]) (st' := [.ref 77]) (h' := Hp S5) 1 (fun Z => gfR (E := E) sh65 rfl _) ?_
        refine wp_st (pc' := 88) (L' := [some (.ref 65), some (.int a1), some (.int a2)]) (st' := [.int ((1 : Int32) + a1), .ref 77]) (h' := Hp S5) 3 (fun Z => rfl) ?_
        obtain ⟨m8, em, hi, hw⟩ := hw
        refine wp_st (pc' := 89) (L' := [some (.ref 65), some (.int a1), some (.int a2)]) (st' := [.int (S5 77 m8)]) (h' := Hp S5) 1 (fun Z => (congrArg (fun v => zit E 1 Z (d + 1) m_m_person 88 [some (.ref 65), some (.int a1), some (.int a2)] [.int v, .ref 77] (Hp S5)) em).trans (ldN (E := E) sh77 (by decide) hi [] (fun st => Z (d + 1) m_m_person 89 [some (.ref 65), some (.int a1), some (.int a2)] st (Hp S5)))) ?_
        exact wp_ret (fun Z => rfl) ⟨_, _, rfl, rfl, hw⟩
      rw [if_neg c2] at hw
      by_cases c3 : a2 = 3
      · rw [if_pos c3] at hw
        refine wp_st (pc' := 90) (L' := [some (.ref 65), some (.int a1), some (.int a2)]) (st' := []) (h' := Hp S5) 1 (fun Z => (show zsw (.tableswitch 91 0 5 #[38, 45, 55, 64, 74, 84]) 26 (.int a2 :: []) (fun t st1 => Z (d + 1) m_m_person t [some (.ref 65), some (.int a1), some (.int a2)] st1 (Hp S5)) = _ from zsw_at (c := 3) (by rw [c3]; decide) (by decide) rfl rfl)) ?_
        refine wp_st (pc' := 91) (L' := [some (.ref 65), some (.int a1), some (.int a2)]) (st' := [.ref 65]) (h' := Hp S5) 1 (fun Z => rfl) ?_
        refine wp_st (pc' := 94) (L' := [some (.ref 65), some (.int a1), some (.int a2)]) (st' := [.ref 77]) (h' := Hp S5) 1 (fun Z => gfR (E := E) sh65 rfl _) ?_
        refine wp_st (pc' := 98) (L' := [some (.ref 65), some (.int a1), some (.int a2)]) (st' := [.int ((8 : Int32) + a1), .ref 77]) (h' := Hp S5) 3 (fun Z => rfl) ?_
        obtain ⟨m9, em, hi, hw⟩ := hw
        refine wp_st (pc' := 99) (L' := [some (.ref 65), some (.int a1), some (.int a2)]) (st' := [.int (S5 77 m9)]) (h' := Hp S5) 1 (fun Z => (congrArg (fun v => zit E 1 Z (d + 1) m_m_person 98 [some (.ref 65), some (.int a1), some (.int a2)] [.int v, .ref 77] (Hp S5)) em).trans (ldN (E := E) sh77 (by decide) hi [] (fun st => Z (d + 1) m_m_person 99 [some (.ref 65), some (.int a1), some (.int a2)] st (Hp S5)))) ?_
        exact wp_ret (fun Z => rfl) ⟨_, _, rfl, rfl, hw⟩
      rw [if_neg c3] at hw
      by_cases c4 : a2 = 4
      · rw [if_pos c4] at hw
        refine wp_st (pc' := 100) (L' := [some (.ref 65), some (.int a1), some (.int a2)]) (st' := []) (h' := Hp S5) 1 (fun Z => (show zsw (.tableswitch 91 0 5 #[38, 45, 55, 64, 74, 84]) 26 (.int a2 :: []) (fun t st1 => Z (d + 1) m_m_person t [some (.ref 65), some (.int a1), some (.int a2)] st1 (Hp S5)) = _ from zsw_at (c := 4) (by rw [c4]; decide) (by decide) rfl rfl)) ?_
        refine wp_st (pc' := 101) (L' := [some (.ref 65), some (.int a1), some (.int a2)]) (st' := [.ref 65]) (h' := Hp S5) 1 (fun Z => rfl) ?_
        refine wp_st (pc' := 104) (L' := [some (.ref 65), some (.int a1), some (.int a2)]) (st' := [.ref 77]) (h' := Hp S5) 1 (fun Z => gfR (E := E) sh65 rfl _) ?_
        refine wp_st (pc' := 108) (L' := [some (.ref 65), some (.int a1), some (.int a2)]) (st' := [.int ((15 : Int32) + a1), .ref 77]) (h' := Hp S5) 3 (fun Z => rfl) ?_
        obtain ⟨m10, em, hi, hw⟩ := hw
        refine wp_st (pc' := 109) (L' := [some (.ref 65), some (.int a1), some (.int a2)]) (st' := [.int (S5 77 m10)]) (h' := Hp S5) 1 (fun Z => (congrArg (fun v => zit E 1 Z (d + 1) m_m_person 108 [some (.ref 65), some (.int a1), some (.int a2)] [.int v, .ref 77] (Hp S5)) em).trans (ldN (E := E) sh77 (by decide) hi [] (fun st => Z (d + 1) m_m_person 109 [some (.ref 65), some (.int a1), some (.int a2)] st (Hp S5)))) ?_
        exact wp_ret (fun Z => rfl) ⟨_, _, rfl, rfl, hw⟩
      rw [if_neg c4] at hw
      by_cases c5 : a2 = 5
      · rw [if_pos c5] at hw
        refine wp_st (pc' := 110) (L' := [some (.ref 65), some (.int a1), some (.int a2)]) (st' := []) (h' := Hp S5) 1 (fun Z => (show zsw (.tableswitch 91 0 5 #[38, 45, 55, 64, 74, 84]) 26 (.int a2 :: []) (fun t st1 => Z (d + 1) m_m_person t [some (.ref 65), some (.int a1), some (.int a2)] st1 (Hp S5)) = _ from zsw_at (c := 5) (by rw [c5]; decide) (by decide) rfl rfl)) ?_
        refine wp_st (pc' := 113) (L' := [some (.ref 65), some (.int a1), some (.int a2)]) (st' := [.int a1, .int 0, .ref 65]) (h' := Hp S5) 3 (fun Z => rfl) ?_
        refine wp_call (pc' := 116) (rest := []) (fun Z => rfl) (isO_of sh65) hw ?_
        rintro o h1 ⟨x11, S12, rfl, rfl, hw⟩
        refine ⟨_, rfl, ?_⟩
        show wp E (d + 1) m_m_person 116 [some (.ref 65), some (.int a1), some (.int a2)] [.int x11] (Hp S12) (QI Q)
        exact wp_ret (fun Z => rfl) ⟨_, _, rfl, rfl, hw⟩
      rw [if_neg c5] at hw
      have hs : (a2).toInt < (0 : Int) ∨ (5 : Int) < (a2).toInt := by
        refine zoutG (n := 6) (by decide) (by decide) (by decide) ?_
        intro k hk
        rcases k with _ | _ | _ | _ | _ | _ | k
        · exact c0
        · exact c1
        · exact c2
        · exact c3
        · exact c4
        · exact c5
        · omega
      refine wp_st (pc' := 117) (L' := [some (.ref 65), some (.int a1), some (.int a2)]) (st' := []) (h' := Hp S5) 1 (fun Z => (show zsw (.tableswitch 91 0 5 #[38, 45, 55, 64, 74, 84]) 26 (.int a2 :: []) (fun t st1 => Z (d + 1) m_m_person t [some (.ref 65), some (.int a1), some (.int a2)] st1 (Hp S5)) = _ from zsw_out hs rfl)) ?_
      refine wp_st (pc' := 120) (L' := [some (.ref 65), some (.int a1), some (.int a2)]) (st' := [.int a1, .int 0, .ref 65]) (h' := Hp S5) 3 (fun Z => rfl) ?_
      refine wp_call (pc' := 123) (rest := []) (fun Z => rfl) (isO_of sh65) hw ?_
      rintro o h1 ⟨x13, S14, rfl, rfl, hw⟩
      refine ⟨_, rfl, ?_⟩
      show wp E (d + 1) m_m_person 123 [some (.ref 65), some (.int a1), some (.int a2)] [.int x13] (Hp S14) (QI Q)
      exact wp_ret (fun Z => rfl) ⟨_, _, rfl, rfl, hw⟩
set_option maxRecDepth 4000 in
theorem w_m_ownOnes {E : zX} {d : Nat} {S : St} {a1 : Nat} {a2 : Int32} {Q : Int32 → St → Prop} 
    (hw : k_m_ownOnes_5 E d S a1 a2 0 0 Q) :
    k_m_ownOnes E d S (nI a1) a2 Q := by
  show wp E d m_m_ownOnes 0 [some (.ref 65), some (.int (nI a1)), some (.int a2), none, none] [] (Hp S) (QI Q)
  exact wp_st 4 (fun Z => rfl) (show wp E d m_m_ownOnes 5 [some (.ref 65), some (.int (nI a1)), some (.int a2), some (.int 0), some (.int 0)] [] (Hp S) (QI Q) from hw)
set_option maxRecDepth 4000 in
theorem w_m_ownOnes_5 {E : zX} {d : Nat} {S : St} {a1 : Nat} {a2 : Int32} {a3 : Int32} {a4 : Nat} {Q : Int32 → St → Prop} 
    (hw : if (S 65 4) ≤ (nI a4) then (
      Q a3 S)
    else (
      ((a1 + 59) + a4) < 158 ∧
      if (S 77 ((a1 + 59) + a4)) = a2 then (
        k_m_ownOnes_5 E d S a1 a2 (a3 ||| (bt a4)) (a4 + 1) Q)
      else (
        k_m_ownOnes_5 E d S a1 a2 (a3 ||| (0 : Int32)) (a4 + 1) Q))) :
    k_m_ownOnes_5 E d S a1 a2 a3 a4 Q := by
  show wp E d m_m_ownOnes 5 [some (.ref 65), some (.int (nI a1)), some (.int a2), some (.int a3), some (.int (nI a4))] [] (Hp S) (QI Q)
  refine wp_st (pc' := 8) (L' := [some (.ref 65), some (.int (nI a1)), some (.int a2), some (.int a3), some (.int (nI a4))]) (st' := [.ref 65, .int (nI a4)]) (h' := Hp S) 2 (fun Z => rfl) ?_
  refine wp_st (pc' := 11) (L' := [some (.ref 65), some (.int (nI a1)), some (.int a2), some (.int a3), some (.int (nI a4))]) (st' := [.int (S 65 4), .int (nI a4)]) (h' := Hp S) 1 (fun Z => gfI (E := E) sh65 rfl _) ?_
  by_cases hc : (S 65 4) ≤ (nI a4)
  · rw [if_pos hc] at hw
    refine wp_st (pc' := 47) (L' := [some (.ref 65), some (.int (nI a1)), some (.int a2), some (.int a3), some (.int (nI a4))]) (st' := []) (h' := Hp S) 1 (fun Z => if_pos hc) ?_
    refine wp_st (pc' := 48) (L' := [some (.ref 65), some (.int (nI a1)), some (.int a2), some (.int a3), some (.int (nI a4))]) (st' := [.int a3]) (h' := Hp S) 1 (fun Z => rfl) ?_
    exact wp_ret (fun Z => rfl) ⟨_, _, rfl, rfl, hw⟩
  · rw [if_neg hc] at hw
    refine wp_st (pc' := 14) (L' := [some (.ref 65), some (.int (nI a1)), some (.int a2), some (.int a3), some (.int (nI a4))]) (st' := []) (h' := Hp S) 1 (fun Z => if_neg hc) ?_
    refine wp_st (pc' := 16) (L' := [some (.ref 65), some (.int (nI a1)), some (.int a2), some (.int a3), some (.int (nI a4))]) (st' := [.ref 65, .int a3]) (h' := Hp S) 2 (fun Z => rfl) ?_
    refine wp_st (pc' := 19) (L' := [some (.ref 65), some (.int (nI a1)), some (.int a2), some (.int a3), some (.int (nI a4))]) (st' := [.ref 77, .int a3]) (h' := Hp S) 1 (fun Z => gfR (E := E) sh65 rfl _) ?_
    refine wp_st (pc' := 22) (L' := [some (.ref 65), some (.int (nI a1)), some (.int a2), some (.int a3), some (.int (nI a4))]) (st' := [.int 59, .int (nI a1), .ref 77, .int a3]) (h' := Hp S) 2 (fun Z => rfl) ?_
    refine wp_st (pc' := 23) (L' := [some (.ref 65), some (.int (nI a1)), some (.int a2), some (.int a3), some (.int (nI a4))]) (st' := [.int (nI (a1 + 59)), .ref 77, .int a3]) (h' := Hp S) 1 (fun Z => by rw [← nI_add a1 59]; rfl) ?_
    refine wp_st (pc' := 25) (L' := [some (.ref 65), some (.int (nI a1)), some (.int a2), some (.int a3), some (.int (nI a4))]) (st' := [.int (nI a4), .int (nI (a1 + 59)), .ref 77, .int a3]) (h' := Hp S) 1 (fun Z => rfl) ?_
    refine wp_st (pc' := 26) (L' := [some (.ref 65), some (.int (nI a1)), some (.int a2), some (.int a3), some (.int (nI a4))]) (st' := [.int (nI ((a1 + 59) + a4)), .ref 77, .int a3]) (h' := Hp S) 1 (fun Z => by rw [← nI_add (a1 + 59) a4]; rfl) ?_
    obtain ⟨hi, hw⟩ := hw
    refine wp_st (pc' := 27) (L' := [some (.ref 65), some (.int (nI a1)), some (.int a2), some (.int a3), some (.int (nI a4))]) (st' := [.int (S 77 ((a1 + 59) + a4)), .int a3]) (h' := Hp S) 1 (fun Z => ldN (E := E) sh77 (by decide) hi [.int a3] (fun st => Z d m_m_ownOnes 27 [some (.ref 65), some (.int (nI a1)), some (.int a2), some (.int a3), some (.int (nI a4))] st (Hp S))) ?_
    refine wp_st (pc' := 28) (L' := [some (.ref 65), some (.int (nI a1)), some (.int a2), some (.int a3), some (.int (nI a4))]) (st' := [.int a2, .int (S 77 ((a1 + 59) + a4)), .int a3]) (h' := Hp S) 1 (fun Z => rfl) ?_
    by_cases hc : (S 77 ((a1 + 59) + a4)) = a2
    · rw [if_pos hc] at hw
      refine wp_st (pc' := 31) (L' := [some (.ref 65), some (.int (nI a1)), some (.int a2), some (.int a3), some (.int (nI a4))]) (st' := [.int a3]) (h' := Hp S) 1 (fun Z => if_pos hc) ?_
      refine wp_st (pc' := 41) (L' := [some (.ref 65), some (.int (nI a1)), some (.int a2), some (.int (a3 ||| (bt a4))), some (.int (nI a4))]) (st' := []) (h' := Hp S) 6 (fun Z => rfl) ?_
      refine wp_st (pc' := 44) (L' := [some (.ref 65), some (.int (nI a1)), some (.int a2), some (.int (a3 ||| (bt a4))), some (.int (nI (a4 + 1)))]) (st' := []) (h' := Hp S) 1 (fun Z => by rw [← nI_add a4 1]; rfl) ?_
      exact wp_st 1 (fun Z => rfl) (show wp E d m_m_ownOnes 5 [some (.ref 65), some (.int (nI a1)), some (.int a2), some (.int (a3 ||| (bt a4))), some (.int (nI (a4 + 1)))] [] (Hp S) (QI Q) from hw)
    · rw [if_neg hc] at hw
      refine wp_st (pc' := 38) (L' := [some (.ref 65), some (.int (nI a1)), some (.int a2), some (.int a3), some (.int (nI a4))]) (st' := [.int a3]) (h' := Hp S) 1 (fun Z => if_neg hc) ?_
      refine wp_st (pc' := 41) (L' := [some (.ref 65), some (.int (nI a1)), some (.int a2), some (.int (a3 ||| (0 : Int32))), some (.int (nI a4))]) (st' := []) (h' := Hp S) 3 (fun Z => rfl) ?_
      refine wp_st (pc' := 44) (L' := [some (.ref 65), some (.int (nI a1)), some (.int a2), some (.int (a3 ||| (0 : Int32))), some (.int (nI (a4 + 1)))]) (st' := []) (h' := Hp S) 1 (fun Z => by rw [← nI_add a4 1]; rfl) ?_
      exact wp_st 1 (fun Z => rfl) (show wp E d m_m_ownOnes 5 [some (.ref 65), some (.int (nI a1)), some (.int a2), some (.int (a3 ||| (0 : Int32))), some (.int (nI (a4 + 1)))] [] (Hp S) (QI Q) from hw)
set_option maxRecDepth 4000 in
theorem w_m_setOffBy {E : zX} {d : Nat} {S : St} {a1 : Nat} {Q : Int32 → St → Prop} (hd : 1 ≤ d) 
    (hw : k_m_isWhite E (d - 1) S 0 (nI a1) (fun x1 S2 =>
    if x1 = 0 then (
      k_m_free E (d - 1) S2 0 (fun x3 S4 =>
      k_m_setOff E (d - 1) S4 0 (bt a1) x3 (fun x5 S6 =>
      Q x5 S6)))
    else (
      Q (0 : Int32) S2))) :
    k_m_setOffBy E d S (nI a1) Q := by
  obtain ⟨d, rfl⟩ := Nat.exists_eq_add_of_le' hd
  show wp E (d + 1) m_m_setOffBy 0 [some (.ref 65), some (.int (nI a1))] [] (Hp S) (QI Q)
  refine wp_st (pc' := 3) (L' := [some (.ref 65), some (.int (nI a1))]) (st' := [.int (nI a1), .int 0, .ref 65]) (h' := Hp S) 3 (fun Z => rfl) ?_
  refine wp_call (pc' := 6) (rest := []) (fun Z => rfl) (isO_of sh65) hw ?_
  rintro o h1 ⟨x1, S2, rfl, rfl, hw⟩
  refine ⟨_, rfl, ?_⟩
  show wp E (d + 1) m_m_setOffBy 6 [some (.ref 65), some (.int (nI a1))] [.int x1] (Hp S2) (QI Q)
  by_cases hc : x1 = 0
  · rw [if_pos hc] at hw
    refine wp_st (pc' := 13) (L' := [some (.ref 65), some (.int (nI a1))]) (st' := []) (h' := Hp S2) 1 (fun Z => if_pos hc) ?_
    refine wp_st (pc' := 20) (L' := [some (.ref 65), some (.int (nI a1))]) (st' := [.int 0, .ref 65, .int (bt a1), .int 0, .ref 65]) (h' := Hp S2) 7 (fun Z => rfl) ?_
    refine wp_call (pc' := 23) (rest := [.int (bt a1), .int 0, .ref 65]) (fun Z => rfl) (isO_of sh65) hw ?_
    rintro o h1 ⟨x3, S4, rfl, rfl, hw⟩
    refine ⟨_, rfl, ?_⟩
    show wp E (d + 1) m_m_setOffBy 23 [some (.ref 65), some (.int (nI a1))] [.int x3, .int (bt a1), .int 0, .ref 65] (Hp S4) (QI Q)
    refine wp_call (pc' := 26) (rest := []) (fun Z => rfl) (isO_of sh65) hw ?_
    rintro o h1 ⟨x5, S6, rfl, rfl, hw⟩
    refine ⟨_, rfl, ?_⟩
    show wp E (d + 1) m_m_setOffBy 26 [some (.ref 65), some (.int (nI a1))] [.int x5] (Hp S6) (QI Q)
    exact wp_ret (fun Z => rfl) ⟨_, _, rfl, rfl, hw⟩
  · rw [if_neg hc] at hw
    refine wp_st (pc' := 9) (L' := [some (.ref 65), some (.int (nI a1))]) (st' := []) (h' := Hp S2) 1 (fun Z => if_neg hc) ?_
    refine wp_st (pc' := 26) (L' := [some (.ref 65), some (.int (nI a1))]) (st' := [.int 0]) (h' := Hp S2) 2 (fun Z => rfl) ?_
    exact wp_ret (fun Z => rfl) ⟨_, _, rfl, rfl, hw⟩
set_option maxRecDepth 4000 in
theorem w_m_refuses {E : zX} {d : Nat} {S : St} {a1 : Nat} {Q : Int32 → St → Prop} 
    (hw : a1 < 3 ∧
    a1 < 3 ∧
    ∀ S1, S1 = up S 70 a1 ((S 70 a1) + (1 : Int32)) →
    Q ((-1) : Int32) S1) :
    k_m_refuses E d S (nI a1) Q := by
  show wp E d m_m_refuses 0 [some (.ref 65), some (.int (nI a1))] [] (Hp S) (QI Q)
  refine wp_st (pc' := 1) (L' := [some (.ref 65), some (.int (nI a1))]) (st' := [.ref 65]) (h' := Hp S) 1 (fun Z => rfl) ?_
  refine wp_st (pc' := 4) (L' := [some (.ref 65), some (.int (nI a1))]) (st' := [.ref 70]) (h' := Hp S) 1 (fun Z => gfR (E := E) sh65 rfl _) ?_
  refine wp_st (pc' := 6) (L' := [some (.ref 65), some (.int (nI a1))]) (st' := [.int (nI a1), .ref 70, .int (nI a1), .ref 70]) (h' := Hp S) 2 (fun Z => rfl) ?_
  obtain ⟨hi, hw⟩ := hw
  refine wp_st (pc' := 7) (L' := [some (.ref 65), some (.int (nI a1))]) (st' := [.int (S 70 a1), .int (nI a1), .ref 70]) (h' := Hp S) 1 (fun Z => ldN (E := E) sh70 (by decide) hi [.int (nI a1), .ref 70] (fun st => Z d m_m_refuses 7 [some (.ref 65), some (.int (nI a1))] st (Hp S))) ?_
  refine wp_st (pc' := 9) (L' := [some (.ref 65), some (.int (nI a1))]) (st' := [.int ((S 70 a1) + (1 : Int32)), .int (nI a1), .ref 70]) (h' := Hp S) 2 (fun Z => rfl) ?_
  obtain ⟨hi, hw⟩ := hw
  have hw := hw _ rfl
  refine wp_st (pc' := 10) (L' := [some (.ref 65), some (.int (nI a1))]) (st' := []) (h' := Hp (up S 70 a1 ((S 70 a1) + (1 : Int32)))) 1 (fun Z => stN sh70 (by decide) hi _ _) ?_
  generalize up S 70 a1 ((S 70 a1) + (1 : Int32)) = S1 at hw ⊢
  refine wp_st (pc' := 11) (L' := [some (.ref 65), some (.int (nI a1))]) (st' := [.int (-1)]) (h' := Hp S1) 1 (fun Z => congrArg (fun v => Z d m_m_refuses 11 [some (.ref 65), some (.int (nI a1))] [.int v] (Hp S1)) (show Int32.ofInt (-1) = (-1) by decide)) ?_
  exact wp_ret (fun Z => rfl) ⟨_, _, rfl, rfl, hw⟩
set_option maxRecDepth 4000 in
theorem w_m_rises {E : zX} {d : Nat} {S : St} {a1 : Nat} {a2 : Nat} {Q : St → Prop} (hd : 1 ≤ d) 
    (hw : ((a1 + 1) + a2) < 158 ∧
    k_m_risesBy E (d - 1) S (nI a1) (nI a2) (fun x1 S2 =>
    k_m_lesser E (d - 1) S2 99 ((S 77 ((a1 + 1) + a2)) + x1) (fun x3 S4 =>
    ((a1 + 1) + a2) < 158 ∧
    ∀ S5, S5 = up S4 77 ((a1 + 1) + a2) x3 →
    ((a1 + 1) + a2) < 158 ∧
    if 20 ≤ (S5 77 ((a1 + 1) + a2)) then (
      k_m_goesOut E (d - 1) S5 (nI a1) (nI a2) (fun x6 S7 =>
      if x6 = 0 then (
        ((a1 + 1) + a2) < 158 ∧
        ((a1 + 1) + a2) < 158 ∧
        ∀ S8, S8 = up S7 77 ((a1 + 1) + a2) ((S7 77 ((a1 + 1) + a2)) / 2) →
        ((a1 + 8) + a2) < 158 ∧
        ((a1 + 8) + a2) < 158 ∧
        ∀ S9, S9 = up S8 77 ((a1 + 8) + a2) ((S8 77 ((a1 + 8) + a2)) + (1 : Int32)) →
        ∀ S10, S10 = up S9 65 48 ((S9 65 48) ||| (bt a2)) →
        Q S10)
      else (
        ∀ S11, S11 = up S7 65 47 ((S7 65 47) ||| (bt a2)) →
        Q S11)))
    else (
      Q S5)))) :
    k_m_rises E d S (nI a1) (nI a2) Q := by
  obtain ⟨d, rfl⟩ := Nat.exists_eq_add_of_le' hd
  show wp E (d + 1) m_m_rises 0 [some (.ref 65), some (.int (nI a1)), some (.int (nI a2))] [] (Hp S) (QV Q)
  refine wp_st (pc' := 1) (L' := [some (.ref 65), some (.int (nI a1)), some (.int (nI a2))]) (st' := [.ref 65]) (h' := Hp S) 1 (fun Z => rfl) ?_
  refine wp_st (pc' := 4) (L' := [some (.ref 65), some (.int (nI a1)), some (.int (nI a2))]) (st' := [.ref 77]) (h' := Hp S) 1 (fun Z => gfR (E := E) sh65 rfl _) ?_
  refine wp_st (pc' := 6) (L' := [some (.ref 65), some (.int (nI a1)), some (.int (nI a2))]) (st' := [.int 1, .int (nI a1), .ref 77]) (h' := Hp S) 2 (fun Z => rfl) ?_
  refine wp_st (pc' := 7) (L' := [some (.ref 65), some (.int (nI a1)), some (.int (nI a2))]) (st' := [.int (nI (a1 + 1)), .ref 77]) (h' := Hp S) 1 (fun Z => by rw [← nI_add a1 1]; rfl) ?_
  refine wp_st (pc' := 8) (L' := [some (.ref 65), some (.int (nI a1)), some (.int (nI a2))]) (st' := [.int (nI a2), .int (nI (a1 + 1)), .ref 77]) (h' := Hp S) 1 (fun Z => rfl) ?_
  refine wp_st (pc' := 9) (L' := [some (.ref 65), some (.int (nI a1)), some (.int (nI a2))]) (st' := [.int (nI ((a1 + 1) + a2)), .ref 77]) (h' := Hp S) 1 (fun Z => by rw [← nI_add (a1 + 1) a2]; rfl) ?_
  refine wp_st (pc' := 12) (L' := [some (.ref 65), some (.int (nI a1)), some (.int (nI a2))]) (st' := [.ref 65, .int 99, .int (nI ((a1 + 1) + a2)), .ref 77]) (h' := Hp S) 2 (fun Z => rfl) ?_
  refine wp_st (pc' := 15) (L' := [some (.ref 65), some (.int (nI a1)), some (.int (nI a2))]) (st' := [.ref 77, .int 99, .int (nI ((a1 + 1) + a2)), .ref 77]) (h' := Hp S) 1 (fun Z => gfR (E := E) sh65 rfl _) ?_
  refine wp_st (pc' := 17) (L' := [some (.ref 65), some (.int (nI a1)), some (.int (nI a2))]) (st' := [.int 1, .int (nI a1), .ref 77, .int 99, .int (nI ((a1 + 1) + a2)), .ref 77]) (h' := Hp S) 2 (fun Z => rfl) ?_
  refine wp_st (pc' := 18) (L' := [some (.ref 65), some (.int (nI a1)), some (.int (nI a2))]) (st' := [.int (nI (a1 + 1)), .ref 77, .int 99, .int (nI ((a1 + 1) + a2)), .ref 77]) (h' := Hp S) 1 (fun Z => by rw [← nI_add a1 1]; rfl) ?_
  refine wp_st (pc' := 19) (L' := [some (.ref 65), some (.int (nI a1)), some (.int (nI a2))]) (st' := [.int (nI a2), .int (nI (a1 + 1)), .ref 77, .int 99, .int (nI ((a1 + 1) + a2)), .ref 77]) (h' := Hp S) 1 (fun Z => rfl) ?_
  refine wp_st (pc' := 20) (L' := [some (.ref 65), some (.int (nI a1)), some (.int (nI a2))]) (st' := [.int (nI ((a1 + 1) + a2)), .ref 77, .int 99, .int (nI ((a1 + 1) + a2)), .ref 77]) (h' := Hp S) 1 (fun Z => by rw [← nI_add (a1 + 1) a2]; rfl) ?_
  obtain ⟨hi, hw⟩ := hw
  refine wp_st (pc' := 21) (L' := [some (.ref 65), some (.int (nI a1)), some (.int (nI a2))]) (st' := [.int (S 77 ((a1 + 1) + a2)), .int 99, .int (nI ((a1 + 1) + a2)), .ref 77]) (h' := Hp S) 1 (fun Z => ldN (E := E) sh77 (by decide) hi [.int 99, .int (nI ((a1 + 1) + a2)), .ref 77] (fun st => Z (d + 1) m_m_rises 21 [some (.ref 65), some (.int (nI a1)), some (.int (nI a2))] st (Hp S))) ?_
  refine wp_st (pc' := 24) (L' := [some (.ref 65), some (.int (nI a1)), some (.int (nI a2))]) (st' := [.int (nI a2), .int (nI a1), .ref 65, .int (S 77 ((a1 + 1) + a2)), .int 99, .int (nI ((a1 + 1) + a2)), .ref 77]) (h' := Hp S) 3 (fun Z => rfl) ?_
  refine wp_call (pc' := 27) (rest := [.int (S 77 ((a1 + 1) + a2)), .int 99, .int (nI ((a1 + 1) + a2)), .ref 77]) (fun Z => rfl) (isO_of sh65) hw ?_
  rintro o h1 ⟨x1, S2, rfl, rfl, hw⟩
  refine ⟨_, rfl, ?_⟩
  show wp E (d + 1) m_m_rises 27 [some (.ref 65), some (.int (nI a1)), some (.int (nI a2))] [.int x1, .int (S 77 ((a1 + 1) + a2)), .int 99, .int (nI ((a1 + 1) + a2)), .ref 77] (Hp S2) (QV Q)
  refine wp_st (pc' := 28) (L' := [some (.ref 65), some (.int (nI a1)), some (.int (nI a2))]) (st' := [.int ((S 77 ((a1 + 1) + a2)) + x1), .int 99, .int (nI ((a1 + 1) + a2)), .ref 77]) (h' := Hp S2) 1 (fun Z => rfl) ?_
  refine wp_call (pc' := 31) (rest := [.int (nI ((a1 + 1) + a2)), .ref 77]) (fun Z => rfl) rfl hw ?_
  rintro o h1 ⟨x3, S4, rfl, rfl, hw⟩
  refine ⟨_, rfl, ?_⟩
  show wp E (d + 1) m_m_rises 31 [some (.ref 65), some (.int (nI a1)), some (.int (nI a2))] [.int x3, .int (nI ((a1 + 1) + a2)), .ref 77] (Hp S4) (QV Q)
  obtain ⟨hi, hw⟩ := hw
  have hw := hw _ rfl
  refine wp_st (pc' := 32) (L' := [some (.ref 65), some (.int (nI a1)), some (.int (nI a2))]) (st' := []) (h' := Hp (up S4 77 ((a1 + 1) + a2) x3)) 1 (fun Z => stN sh77 (by decide) hi _ _) ?_
  generalize up S4 77 ((a1 + 1) + a2) x3 = S5 at hw ⊢
  refine wp_st (pc' := 33) (L' := [some (.ref 65), some (.int (nI a1)), some (.int (nI a2))]) (st' := [.ref 65]) (h' := Hp S5) 1 (fun Z => rfl) ?_
  refine wp_st (pc' := 36) (L' := [some (.ref 65), some (.int (nI a1)), some (.int (nI a2))]) (st' := [.ref 77]) (h' := Hp S5) 1 (fun Z => gfR (E := E) sh65 rfl _) ?_
  refine wp_st (pc' := 38) (L' := [some (.ref 65), some (.int (nI a1)), some (.int (nI a2))]) (st' := [.int 1, .int (nI a1), .ref 77]) (h' := Hp S5) 2 (fun Z => rfl) ?_
  refine wp_st (pc' := 39) (L' := [some (.ref 65), some (.int (nI a1)), some (.int (nI a2))]) (st' := [.int (nI (a1 + 1)), .ref 77]) (h' := Hp S5) 1 (fun Z => by rw [← nI_add a1 1]; rfl) ?_
  refine wp_st (pc' := 40) (L' := [some (.ref 65), some (.int (nI a1)), some (.int (nI a2))]) (st' := [.int (nI a2), .int (nI (a1 + 1)), .ref 77]) (h' := Hp S5) 1 (fun Z => rfl) ?_
  refine wp_st (pc' := 41) (L' := [some (.ref 65), some (.int (nI a1)), some (.int (nI a2))]) (st' := [.int (nI ((a1 + 1) + a2)), .ref 77]) (h' := Hp S5) 1 (fun Z => by rw [← nI_add (a1 + 1) a2]; rfl) ?_
  obtain ⟨hi, hw⟩ := hw
  refine wp_st (pc' := 42) (L' := [some (.ref 65), some (.int (nI a1)), some (.int (nI a2))]) (st' := [.int (S5 77 ((a1 + 1) + a2))]) (h' := Hp S5) 1 (fun Z => ldN (E := E) sh77 (by decide) hi [] (fun st => Z (d + 1) m_m_rises 42 [some (.ref 65), some (.int (nI a1)), some (.int (nI a2))] st (Hp S5))) ?_
  refine wp_st (pc' := 44) (L' := [some (.ref 65), some (.int (nI a1)), some (.int (nI a2))]) (st' := [.int 20, .int (S5 77 ((a1 + 1) + a2))]) (h' := Hp S5) 1 (fun Z => rfl) ?_
  by_cases hc : 20 ≤ (S5 77 ((a1 + 1) + a2))
  · rw [if_pos hc] at hw
    refine wp_st (pc' := 48) (L' := [some (.ref 65), some (.int (nI a1)), some (.int (nI a2))]) (st' := []) (h' := Hp S5) 1 (fun Z => if_pos hc) ?_
    refine wp_st (pc' := 51) (L' := [some (.ref 65), some (.int (nI a1)), some (.int (nI a2))]) (st' := [.int (nI a2), .int (nI a1), .ref 65]) (h' := Hp S5) 3 (fun Z => rfl) ?_
    refine wp_call (pc' := 54) (rest := []) (fun Z => rfl) (isO_of sh65) hw ?_
    rintro o h1 ⟨x6, S7, rfl, rfl, hw⟩
    refine ⟨_, rfl, ?_⟩
    show wp E (d + 1) m_m_rises 54 [some (.ref 65), some (.int (nI a1)), some (.int (nI a2))] [.int x6] (Hp S7) (QV Q)
    by_cases hc : x6 = 0
    · rw [if_pos hc] at hw
      refine wp_st (pc' := 70) (L' := [some (.ref 65), some (.int (nI a1)), some (.int (nI a2))]) (st' := []) (h' := Hp S7) 1 (fun Z => if_pos hc) ?_
      refine wp_st (pc' := 71) (L' := [some (.ref 65), some (.int (nI a1)), some (.int (nI a2))]) (st' := [.ref 65]) (h' := Hp S7) 1 (fun Z => rfl) ?_
      refine wp_st (pc' := 74) (L' := [some (.ref 65), some (.int (nI a1)), some (.int (nI a2))]) (st' := [.ref 77]) (h' := Hp S7) 1 (fun Z => gfR (E := E) sh65 rfl _) ?_
      refine wp_st (pc' := 76) (L' := [some (.ref 65), some (.int (nI a1)), some (.int (nI a2))]) (st' := [.int 1, .int (nI a1), .ref 77]) (h' := Hp S7) 2 (fun Z => rfl) ?_
      refine wp_st (pc' := 77) (L' := [some (.ref 65), some (.int (nI a1)), some (.int (nI a2))]) (st' := [.int (nI (a1 + 1)), .ref 77]) (h' := Hp S7) 1 (fun Z => by rw [← nI_add a1 1]; rfl) ?_
      refine wp_st (pc' := 78) (L' := [some (.ref 65), some (.int (nI a1)), some (.int (nI a2))]) (st' := [.int (nI a2), .int (nI (a1 + 1)), .ref 77]) (h' := Hp S7) 1 (fun Z => rfl) ?_
      refine wp_st (pc' := 79) (L' := [some (.ref 65), some (.int (nI a1)), some (.int (nI a2))]) (st' := [.int (nI ((a1 + 1) + a2)), .ref 77]) (h' := Hp S7) 1 (fun Z => by rw [← nI_add (a1 + 1) a2]; rfl) ?_
      refine wp_st (pc' := 80) (L' := [some (.ref 65), some (.int (nI a1)), some (.int (nI a2))]) (st' := [.ref 65, .int (nI ((a1 + 1) + a2)), .ref 77]) (h' := Hp S7) 1 (fun Z => rfl) ?_
      refine wp_st (pc' := 83) (L' := [some (.ref 65), some (.int (nI a1)), some (.int (nI a2))]) (st' := [.ref 77, .int (nI ((a1 + 1) + a2)), .ref 77]) (h' := Hp S7) 1 (fun Z => gfR (E := E) sh65 rfl _) ?_
      refine wp_st (pc' := 85) (L' := [some (.ref 65), some (.int (nI a1)), some (.int (nI a2))]) (st' := [.int 1, .int (nI a1), .ref 77, .int (nI ((a1 + 1) + a2)), .ref 77]) (h' := Hp S7) 2 (fun Z => rfl) ?_
      refine wp_st (pc' := 86) (L' := [some (.ref 65), some (.int (nI a1)), some (.int (nI a2))]) (st' := [.int (nI (a1 + 1)), .ref 77, .int (nI ((a1 + 1) + a2)), .ref 77]) (h' := Hp S7) 1 (fun Z => by rw [← nI_add a1 1]; rfl) ?_
      refine wp_st (pc' := 87) (L' := [some (.ref 65), some (.int (nI a1)), some (.int (nI a2))]) (st' := [.int (nI a2), .int (nI (a1 + 1)), .ref 77, .int (nI ((a1 + 1) + a2)), .ref 77]) (h' := Hp S7) 1 (fun Z => rfl) ?_
      refine wp_st (pc' := 88) (L' := [some (.ref 65), some (.int (nI a1)), some (.int (nI a2))]) (st' := [.int (nI ((a1 + 1) + a2)), .ref 77, .int (nI ((a1 + 1) + a2)), .ref 77]) (h' := Hp S7) 1 (fun Z => by rw [← nI_add (a1 + 1) a2]; rfl) ?_
      obtain ⟨hi, hw⟩ := hw
      refine wp_st (pc' := 89) (L' := [some (.ref 65), some (.int (nI a1)), some (.int (nI a2))]) (st' := [.int (S7 77 ((a1 + 1) + a2)), .int (nI ((a1 + 1) + a2)), .ref 77]) (h' := Hp S7) 1 (fun Z => ldN (E := E) sh77 (by decide) hi [.int (nI ((a1 + 1) + a2)), .ref 77] (fun st => Z (d + 1) m_m_rises 89 [some (.ref 65), some (.int (nI a1)), some (.int (nI a2))] st (Hp S7))) ?_
      refine wp_st (pc' := 90) (L' := [some (.ref 65), some (.int (nI a1)), some (.int (nI a2))]) (st' := [.int 2, .int (S7 77 ((a1 + 1) + a2)), .int (nI ((a1 + 1) + a2)), .ref 77]) (h' := Hp S7) 1 (fun Z => rfl) ?_
      refine wp_st (pc' := 91) (L' := [some (.ref 65), some (.int (nI a1)), some (.int (nI a2))]) (st' := [.int ((S7 77 ((a1 + 1) + a2)) / 2), .int (nI ((a1 + 1) + a2)), .ref 77]) (h' := Hp S7) 1 (fun Z => rfl) ?_
      obtain ⟨hi, hw⟩ := hw
      have hw := hw _ rfl
      refine wp_st (pc' := 92) (L' := [some (.ref 65), some (.int (nI a1)), some (.int (nI a2))]) (st' := []) (h' := Hp (up S7 77 ((a1 + 1) + a2) ((S7 77 ((a1 + 1) + a2)) / 2))) 1 (fun Z => stN sh77 (by decide) hi _ _) ?_
      generalize up S7 77 ((a1 + 1) + a2) ((S7 77 ((a1 + 1) + a2)) / 2) = S8 at hw ⊢
      refine wp_st (pc' := 93) (L' := [some (.ref 65), some (.int (nI a1)), some (.int (nI a2))]) (st' := [.ref 65]) (h' := Hp S8) 1 (fun Z => rfl) ?_
      refine wp_st (pc' := 96) (L' := [some (.ref 65), some (.int (nI a1)), some (.int (nI a2))]) (st' := [.ref 77]) (h' := Hp S8) 1 (fun Z => gfR (E := E) sh65 rfl _) ?_
      refine wp_st (pc' := 99) (L' := [some (.ref 65), some (.int (nI a1)), some (.int (nI a2))]) (st' := [.int 8, .int (nI a1), .ref 77]) (h' := Hp S8) 2 (fun Z => rfl) ?_
      refine wp_st (pc' := 100) (L' := [some (.ref 65), some (.int (nI a1)), some (.int (nI a2))]) (st' := [.int (nI (a1 + 8)), .ref 77]) (h' := Hp S8) 1 (fun Z => by rw [← nI_add a1 8]; rfl) ?_
      refine wp_st (pc' := 101) (L' := [some (.ref 65), some (.int (nI a1)), some (.int (nI a2))]) (st' := [.int (nI a2), .int (nI (a1 + 8)), .ref 77]) (h' := Hp S8) 1 (fun Z => rfl) ?_
      refine wp_st (pc' := 102) (L' := [some (.ref 65), some (.int (nI a1)), some (.int (nI a2))]) (st' := [.int (nI ((a1 + 8) + a2)), .ref 77]) (h' := Hp S8) 1 (fun Z => by rw [← nI_add (a1 + 8) a2]; rfl) ?_
      refine wp_st (pc' := 103) (L' := [some (.ref 65), some (.int (nI a1)), some (.int (nI a2))]) (st' := [.int (nI ((a1 + 8) + a2)), .ref 77, .int (nI ((a1 + 8) + a2)), .ref 77]) (h' := Hp S8) 1 (fun Z => rfl) ?_
      obtain ⟨hi, hw⟩ := hw
      refine wp_st (pc' := 104) (L' := [some (.ref 65), some (.int (nI a1)), some (.int (nI a2))]) (st' := [.int (S8 77 ((a1 + 8) + a2)), .int (nI ((a1 + 8) + a2)), .ref 77]) (h' := Hp S8) 1 (fun Z => ldN (E := E) sh77 (by decide) hi [.int (nI ((a1 + 8) + a2)), .ref 77] (fun st => Z (d + 1) m_m_rises 104 [some (.ref 65), some (.int (nI a1)), some (.int (nI a2))] st (Hp S8))) ?_
      refine wp_st (pc' := 106) (L' := [some (.ref 65), some (.int (nI a1)), some (.int (nI a2))]) (st' := [.int ((S8 77 ((a1 + 8) + a2)) + (1 : Int32)), .int (nI ((a1 + 8) + a2)), .ref 77]) (h' := Hp S8) 2 (fun Z => rfl) ?_
      obtain ⟨hi, hw⟩ := hw
      have hw := hw _ rfl
      refine wp_st (pc' := 107) (L' := [some (.ref 65), some (.int (nI a1)), some (.int (nI a2))]) (st' := []) (h' := Hp (up S8 77 ((a1 + 8) + a2) ((S8 77 ((a1 + 8) + a2)) + (1 : Int32)))) 1 (fun Z => stN sh77 (by decide) hi _ _) ?_
      generalize up S8 77 ((a1 + 8) + a2) ((S8 77 ((a1 + 8) + a2)) + (1 : Int32)) = S9 at hw ⊢
      refine wp_st (pc' := 109) (L' := [some (.ref 65), some (.int (nI a1)), some (.int (nI a2))]) (st' := [.ref 65, .ref 65]) (h' := Hp S9) 2 (fun Z => rfl) ?_
      refine wp_st (pc' := 112) (L' := [some (.ref 65), some (.int (nI a1)), some (.int (nI a2))]) (st' := [.int (S9 65 48), .ref 65]) (h' := Hp S9) 1 (fun Z => gfI (E := E) sh65 rfl _) ?_
      refine wp_st (pc' := 116) (L' := [some (.ref 65), some (.int (nI a1)), some (.int (nI a2))]) (st' := [.int ((S9 65 48) ||| (bt a2)), .ref 65]) (h' := Hp S9) 4 (fun Z => rfl) ?_
      have hw := hw _ rfl
      refine wp_st (pc' := 119) (L' := [some (.ref 65), some (.int (nI a1)), some (.int (nI a2))]) (st' := []) (h' := Hp (up S9 65 48 ((S9 65 48) ||| (bt a2)))) 1 (fun Z => pfI sh65 rfl (Nat.le_of_ble_eq_true rfl) rfl _) ?_
      generalize up S9 65 48 ((S9 65 48) ||| (bt a2)) = S10 at hw ⊢
      exact wp_ret (fun Z => rfl) ⟨_, rfl, rfl, hw⟩
    · rw [if_neg hc] at hw
      refine wp_st (pc' := 57) (L' := [some (.ref 65), some (.int (nI a1)), some (.int (nI a2))]) (st' := []) (h' := Hp S7) 1 (fun Z => if_neg hc) ?_
      refine wp_st (pc' := 59) (L' := [some (.ref 65), some (.int (nI a1)), some (.int (nI a2))]) (st' := [.ref 65, .ref 65]) (h' := Hp S7) 2 (fun Z => rfl) ?_
      refine wp_st (pc' := 62) (L' := [some (.ref 65), some (.int (nI a1)), some (.int (nI a2))]) (st' := [.int (S7 65 47), .ref 65]) (h' := Hp S7) 1 (fun Z => gfI (E := E) sh65 rfl _) ?_
      refine wp_st (pc' := 66) (L' := [some (.ref 65), some (.int (nI a1)), some (.int (nI a2))]) (st' := [.int ((S7 65 47) ||| (bt a2)), .ref 65]) (h' := Hp S7) 4 (fun Z => rfl) ?_
      have hw := hw _ rfl
      refine wp_st (pc' := 69) (L' := [some (.ref 65), some (.int (nI a1)), some (.int (nI a2))]) (st' := []) (h' := Hp (up S7 65 47 ((S7 65 47) ||| (bt a2)))) 1 (fun Z => pfI sh65 rfl (Nat.le_of_ble_eq_true rfl) rfl _) ?_
      generalize up S7 65 47 ((S7 65 47) ||| (bt a2)) = S11 at hw ⊢
      exact wp_ret (fun Z => rfl) ⟨_, rfl, rfl, hw⟩
  · rw [if_neg hc] at hw
    refine wp_st (pc' := 47) (L' := [some (.ref 65), some (.int (nI a1)), some (.int (nI a2))]) (st' := []) (h' := Hp S5) 1 (fun Z => if_neg hc) ?_
    exact wp_ret (fun Z => rfl) ⟨_, rfl, rfl, hw⟩
set_option maxRecDepth 4000 in
theorem w_m_risesBy {E : zX} {d : Nat} {S : St} {a1 : Nat} {a2 : Nat} {Q : Int32 → St → Prop} (hd : 1 ≤ d) 
    (hw : if (S 65 5) = (-1) then (
      ((a1 + 22) + a2) < 158 ∧
      Q ((10 : Int32) - (S 77 ((a1 + 22) + a2))) S)
    else (
      ((a1 + 22) + a2) < 158 ∧
      ∀ S1, S1 = up S 79 0 (S 77 ((a1 + 22) + a2)) →
      ((a1 + 1) + a2) < 158 ∧
      ∀ S2, S2 = up S1 79 1 (S1 77 ((a1 + 1) + a2)) →
      ((a1 + 8) + a2) < 158 ∧
      ∀ S3, S3 = up S2 79 2 (S2 77 ((a1 + 8) + a2)) →
      ((a1 + 15) + a2) < 158 ∧
      ∀ S4, S4 = up S3 79 3 (S3 77 ((a1 + 15) + a2)) →
      (a1 + 0) < 158 ∧
      ∀ S5, S5 = up S4 79 4 (S4 77 (a1 + 0)) →
      k_m_reckons E (d - 1) S5 (S5 65 5) (fun x6 S7 =>
      k_m_bounded E (d - 1) S7 x6 0 20 (fun x8 S9 =>
      Q x8 S9)))) :
    k_m_risesBy E d S (nI a1) (nI a2) Q := by
  obtain ⟨d, rfl⟩ := Nat.exists_eq_add_of_le' hd
  show wp E (d + 1) m_m_risesBy 0 [some (.ref 65), some (.int (nI a1)), some (.int (nI a2))] [] (Hp S) (QI Q)
  refine wp_st (pc' := 1) (L' := [some (.ref 65), some (.int (nI a1)), some (.int (nI a2))]) (st' := [.ref 65]) (h' := Hp S) 1 (fun Z => rfl) ?_
  refine wp_st (pc' := 4) (L' := [some (.ref 65), some (.int (nI a1)), some (.int (nI a2))]) (st' := [.int (S 65 5)]) (h' := Hp S) 1 (fun Z => gfI (E := E) sh65 rfl _) ?_
  refine wp_st (pc' := 5) (L' := [some (.ref 65), some (.int (nI a1)), some (.int (nI a2))]) (st' := [.int (-1), .int (S 65 5)]) (h' := Hp S) 1 (fun Z => congrArg (fun v => Z (d + 1) m_m_risesBy 5 [some (.ref 65), some (.int (nI a1)), some (.int (nI a2))] [.int v, .int (S 65 5)] (Hp S)) (show Int32.ofInt (-1) = (-1) by decide)) ?_
  by_cases hc : (S 65 5) = (-1)
  · rw [if_pos hc] at hw
    refine wp_st (pc' := 8) (L' := [some (.ref 65), some (.int (nI a1)), some (.int (nI a2))]) (st' := []) (h' := Hp S) 1 (fun Z => if_pos hc) ?_
    refine wp_st (pc' := 11) (L' := [some (.ref 65), some (.int (nI a1)), some (.int (nI a2))]) (st' := [.ref 65, .int 10]) (h' := Hp S) 2 (fun Z => rfl) ?_
    refine wp_st (pc' := 14) (L' := [some (.ref 65), some (.int (nI a1)), some (.int (nI a2))]) (st' := [.ref 77, .int 10]) (h' := Hp S) 1 (fun Z => gfR (E := E) sh65 rfl _) ?_
    refine wp_st (pc' := 17) (L' := [some (.ref 65), some (.int (nI a1)), some (.int (nI a2))]) (st' := [.int 22, .int (nI a1), .ref 77, .int 10]) (h' := Hp S) 2 (fun Z => rfl) ?_
    refine wp_st (pc' := 18) (L' := [some (.ref 65), some (.int (nI a1)), some (.int (nI a2))]) (st' := [.int (nI (a1 + 22)), .ref 77, .int 10]) (h' := Hp S) 1 (fun Z => by rw [← nI_add a1 22]; rfl) ?_
    refine wp_st (pc' := 19) (L' := [some (.ref 65), some (.int (nI a1)), some (.int (nI a2))]) (st' := [.int (nI a2), .int (nI (a1 + 22)), .ref 77, .int 10]) (h' := Hp S) 1 (fun Z => rfl) ?_
    refine wp_st (pc' := 20) (L' := [some (.ref 65), some (.int (nI a1)), some (.int (nI a2))]) (st' := [.int (nI ((a1 + 22) + a2)), .ref 77, .int 10]) (h' := Hp S) 1 (fun Z => by rw [← nI_add (a1 + 22) a2]; rfl) ?_
    obtain ⟨hi, hw⟩ := hw
    refine wp_st (pc' := 21) (L' := [some (.ref 65), some (.int (nI a1)), some (.int (nI a2))]) (st' := [.int (S 77 ((a1 + 22) + a2)), .int 10]) (h' := Hp S) 1 (fun Z => ldN (E := E) sh77 (by decide) hi [.int 10] (fun st => Z (d + 1) m_m_risesBy 21 [some (.ref 65), some (.int (nI a1)), some (.int (nI a2))] st (Hp S))) ?_
    refine wp_st (pc' := 22) (L' := [some (.ref 65), some (.int (nI a1)), some (.int (nI a2))]) (st' := [.int ((10 : Int32) - (S 77 ((a1 + 22) + a2)))]) (h' := Hp S) 1 (fun Z => rfl) ?_
    exact wp_ret (fun Z => rfl) ⟨_, _, rfl, rfl, hw⟩
  · rw [if_neg hc] at hw
    refine wp_st (pc' := 23) (L' := [some (.ref 65), some (.int (nI a1)), some (.int (nI a2))]) (st' := []) (h' := Hp S) 1 (fun Z => if_neg hc) ?_
    refine wp_st (pc' := 24) (L' := [some (.ref 65), some (.int (nI a1)), some (.int (nI a2))]) (st' := [.ref 65]) (h' := Hp S) 1 (fun Z => rfl) ?_
    refine wp_st (pc' := 27) (L' := [some (.ref 65), some (.int (nI a1)), some (.int (nI a2))]) (st' := [.ref 79]) (h' := Hp S) 1 (fun Z => gfR (E := E) sh65 rfl _) ?_
    refine wp_st (pc' := 29) (L' := [some (.ref 65), some (.int (nI a1)), some (.int (nI a2))]) (st' := [.ref 65, .int 0, .ref 79]) (h' := Hp S) 2 (fun Z => rfl) ?_
    refine wp_st (pc' := 32) (L' := [some (.ref 65), some (.int (nI a1)), some (.int (nI a2))]) (st' := [.ref 77, .int 0, .ref 79]) (h' := Hp S) 1 (fun Z => gfR (E := E) sh65 rfl _) ?_
    refine wp_st (pc' := 35) (L' := [some (.ref 65), some (.int (nI a1)), some (.int (nI a2))]) (st' := [.int 22, .int (nI a1), .ref 77, .int 0, .ref 79]) (h' := Hp S) 2 (fun Z => rfl) ?_
    refine wp_st (pc' := 36) (L' := [some (.ref 65), some (.int (nI a1)), some (.int (nI a2))]) (st' := [.int (nI (a1 + 22)), .ref 77, .int 0, .ref 79]) (h' := Hp S) 1 (fun Z => by rw [← nI_add a1 22]; rfl) ?_
    refine wp_st (pc' := 37) (L' := [some (.ref 65), some (.int (nI a1)), some (.int (nI a2))]) (st' := [.int (nI a2), .int (nI (a1 + 22)), .ref 77, .int 0, .ref 79]) (h' := Hp S) 1 (fun Z => rfl) ?_
    refine wp_st (pc' := 38) (L' := [some (.ref 65), some (.int (nI a1)), some (.int (nI a2))]) (st' := [.int (nI ((a1 + 22) + a2)), .ref 77, .int 0, .ref 79]) (h' := Hp S) 1 (fun Z => by rw [← nI_add (a1 + 22) a2]; rfl) ?_
    obtain ⟨hi, hw⟩ := hw
    refine wp_st (pc' := 39) (L' := [some (.ref 65), some (.int (nI a1)), some (.int (nI a2))]) (st' := [.int (S 77 ((a1 + 22) + a2)), .int 0, .ref 79]) (h' := Hp S) 1 (fun Z => ldN (E := E) sh77 (by decide) hi [.int 0, .ref 79] (fun st => Z (d + 1) m_m_risesBy 39 [some (.ref 65), some (.int (nI a1)), some (.int (nI a2))] st (Hp S))) ?_
    have hw := hw _ rfl
    refine wp_st (pc' := 40) (L' := [some (.ref 65), some (.int (nI a1)), some (.int (nI a2))]) (st' := []) (h' := Hp (up S 79 0 (S 77 ((a1 + 22) + a2)))) 1 (fun Z => stN sh79 (by decide) (by decide) _ _) ?_
    generalize up S 79 0 (S 77 ((a1 + 22) + a2)) = S1 at hw ⊢
    refine wp_st (pc' := 41) (L' := [some (.ref 65), some (.int (nI a1)), some (.int (nI a2))]) (st' := [.ref 65]) (h' := Hp S1) 1 (fun Z => rfl) ?_
    refine wp_st (pc' := 44) (L' := [some (.ref 65), some (.int (nI a1)), some (.int (nI a2))]) (st' := [.ref 79]) (h' := Hp S1) 1 (fun Z => gfR (E := E) sh65 rfl _) ?_
    refine wp_st (pc' := 46) (L' := [some (.ref 65), some (.int (nI a1)), some (.int (nI a2))]) (st' := [.ref 65, .int 1, .ref 79]) (h' := Hp S1) 2 (fun Z => rfl) ?_
    refine wp_st (pc' := 49) (L' := [some (.ref 65), some (.int (nI a1)), some (.int (nI a2))]) (st' := [.ref 77, .int 1, .ref 79]) (h' := Hp S1) 1 (fun Z => gfR (E := E) sh65 rfl _) ?_
    refine wp_st (pc' := 51) (L' := [some (.ref 65), some (.int (nI a1)), some (.int (nI a2))]) (st' := [.int 1, .int (nI a1), .ref 77, .int 1, .ref 79]) (h' := Hp S1) 2 (fun Z => rfl) ?_
    refine wp_st (pc' := 52) (L' := [some (.ref 65), some (.int (nI a1)), some (.int (nI a2))]) (st' := [.int (nI (a1 + 1)), .ref 77, .int 1, .ref 79]) (h' := Hp S1) 1 (fun Z => by rw [← nI_add a1 1]; rfl) ?_
    refine wp_st (pc' := 53) (L' := [some (.ref 65), some (.int (nI a1)), some (.int (nI a2))]) (st' := [.int (nI a2), .int (nI (a1 + 1)), .ref 77, .int 1, .ref 79]) (h' := Hp S1) 1 (fun Z => rfl) ?_
    refine wp_st (pc' := 54) (L' := [some (.ref 65), some (.int (nI a1)), some (.int (nI a2))]) (st' := [.int (nI ((a1 + 1) + a2)), .ref 77, .int 1, .ref 79]) (h' := Hp S1) 1 (fun Z => by rw [← nI_add (a1 + 1) a2]; rfl) ?_
    obtain ⟨hi, hw⟩ := hw
    refine wp_st (pc' := 55) (L' := [some (.ref 65), some (.int (nI a1)), some (.int (nI a2))]) (st' := [.int (S1 77 ((a1 + 1) + a2)), .int 1, .ref 79]) (h' := Hp S1) 1 (fun Z => ldN (E := E) sh77 (by decide) hi [.int 1, .ref 79] (fun st => Z (d + 1) m_m_risesBy 55 [some (.ref 65), some (.int (nI a1)), some (.int (nI a2))] st (Hp S1))) ?_
    have hw := hw _ rfl
    refine wp_st (pc' := 56) (L' := [some (.ref 65), some (.int (nI a1)), some (.int (nI a2))]) (st' := []) (h' := Hp (up S1 79 1 (S1 77 ((a1 + 1) + a2)))) 1 (fun Z => stN sh79 (by decide) (by decide) _ _) ?_
    generalize up S1 79 1 (S1 77 ((a1 + 1) + a2)) = S2 at hw ⊢
    refine wp_st (pc' := 57) (L' := [some (.ref 65), some (.int (nI a1)), some (.int (nI a2))]) (st' := [.ref 65]) (h' := Hp S2) 1 (fun Z => rfl) ?_
    refine wp_st (pc' := 60) (L' := [some (.ref 65), some (.int (nI a1)), some (.int (nI a2))]) (st' := [.ref 79]) (h' := Hp S2) 1 (fun Z => gfR (E := E) sh65 rfl _) ?_
    refine wp_st (pc' := 62) (L' := [some (.ref 65), some (.int (nI a1)), some (.int (nI a2))]) (st' := [.ref 65, .int 2, .ref 79]) (h' := Hp S2) 2 (fun Z => rfl) ?_
    refine wp_st (pc' := 65) (L' := [some (.ref 65), some (.int (nI a1)), some (.int (nI a2))]) (st' := [.ref 77, .int 2, .ref 79]) (h' := Hp S2) 1 (fun Z => gfR (E := E) sh65 rfl _) ?_
    refine wp_st (pc' := 68) (L' := [some (.ref 65), some (.int (nI a1)), some (.int (nI a2))]) (st' := [.int 8, .int (nI a1), .ref 77, .int 2, .ref 79]) (h' := Hp S2) 2 (fun Z => rfl) ?_
    refine wp_st (pc' := 69) (L' := [some (.ref 65), some (.int (nI a1)), some (.int (nI a2))]) (st' := [.int (nI (a1 + 8)), .ref 77, .int 2, .ref 79]) (h' := Hp S2) 1 (fun Z => by rw [← nI_add a1 8]; rfl) ?_
    refine wp_st (pc' := 70) (L' := [some (.ref 65), some (.int (nI a1)), some (.int (nI a2))]) (st' := [.int (nI a2), .int (nI (a1 + 8)), .ref 77, .int 2, .ref 79]) (h' := Hp S2) 1 (fun Z => rfl) ?_
    refine wp_st (pc' := 71) (L' := [some (.ref 65), some (.int (nI a1)), some (.int (nI a2))]) (st' := [.int (nI ((a1 + 8) + a2)), .ref 77, .int 2, .ref 79]) (h' := Hp S2) 1 (fun Z => by rw [← nI_add (a1 + 8) a2]; rfl) ?_
    obtain ⟨hi, hw⟩ := hw
    refine wp_st (pc' := 72) (L' := [some (.ref 65), some (.int (nI a1)), some (.int (nI a2))]) (st' := [.int (S2 77 ((a1 + 8) + a2)), .int 2, .ref 79]) (h' := Hp S2) 1 (fun Z => ldN (E := E) sh77 (by decide) hi [.int 2, .ref 79] (fun st => Z (d + 1) m_m_risesBy 72 [some (.ref 65), some (.int (nI a1)), some (.int (nI a2))] st (Hp S2))) ?_
    have hw := hw _ rfl
    refine wp_st (pc' := 73) (L' := [some (.ref 65), some (.int (nI a1)), some (.int (nI a2))]) (st' := []) (h' := Hp (up S2 79 2 (S2 77 ((a1 + 8) + a2)))) 1 (fun Z => stN sh79 (by decide) (by decide) _ _) ?_
    generalize up S2 79 2 (S2 77 ((a1 + 8) + a2)) = S3 at hw ⊢
    refine wp_st (pc' := 74) (L' := [some (.ref 65), some (.int (nI a1)), some (.int (nI a2))]) (st' := [.ref 65]) (h' := Hp S3) 1 (fun Z => rfl) ?_
    refine wp_st (pc' := 77) (L' := [some (.ref 65), some (.int (nI a1)), some (.int (nI a2))]) (st' := [.ref 79]) (h' := Hp S3) 1 (fun Z => gfR (E := E) sh65 rfl _) ?_
    refine wp_st (pc' := 79) (L' := [some (.ref 65), some (.int (nI a1)), some (.int (nI a2))]) (st' := [.ref 65, .int 3, .ref 79]) (h' := Hp S3) 2 (fun Z => rfl) ?_
    refine wp_st (pc' := 82) (L' := [some (.ref 65), some (.int (nI a1)), some (.int (nI a2))]) (st' := [.ref 77, .int 3, .ref 79]) (h' := Hp S3) 1 (fun Z => gfR (E := E) sh65 rfl _) ?_
    refine wp_st (pc' := 85) (L' := [some (.ref 65), some (.int (nI a1)), some (.int (nI a2))]) (st' := [.int 15, .int (nI a1), .ref 77, .int 3, .ref 79]) (h' := Hp S3) 2 (fun Z => rfl) ?_
    refine wp_st (pc' := 86) (L' := [some (.ref 65), some (.int (nI a1)), some (.int (nI a2))]) (st' := [.int (nI (a1 + 15)), .ref 77, .int 3, .ref 79]) (h' := Hp S3) 1 (fun Z => by rw [← nI_add a1 15]; rfl) ?_
    refine wp_st (pc' := 87) (L' := [some (.ref 65), some (.int (nI a1)), some (.int (nI a2))]) (st' := [.int (nI a2), .int (nI (a1 + 15)), .ref 77, .int 3, .ref 79]) (h' := Hp S3) 1 (fun Z => rfl) ?_
    refine wp_st (pc' := 88) (L' := [some (.ref 65), some (.int (nI a1)), some (.int (nI a2))]) (st' := [.int (nI ((a1 + 15) + a2)), .ref 77, .int 3, .ref 79]) (h' := Hp S3) 1 (fun Z => by rw [← nI_add (a1 + 15) a2]; rfl) ?_
    obtain ⟨hi, hw⟩ := hw
    refine wp_st (pc' := 89) (L' := [some (.ref 65), some (.int (nI a1)), some (.int (nI a2))]) (st' := [.int (S3 77 ((a1 + 15) + a2)), .int 3, .ref 79]) (h' := Hp S3) 1 (fun Z => ldN (E := E) sh77 (by decide) hi [.int 3, .ref 79] (fun st => Z (d + 1) m_m_risesBy 89 [some (.ref 65), some (.int (nI a1)), some (.int (nI a2))] st (Hp S3))) ?_
    have hw := hw _ rfl
    refine wp_st (pc' := 90) (L' := [some (.ref 65), some (.int (nI a1)), some (.int (nI a2))]) (st' := []) (h' := Hp (up S3 79 3 (S3 77 ((a1 + 15) + a2)))) 1 (fun Z => stN sh79 (by decide) (by decide) _ _) ?_
    generalize up S3 79 3 (S3 77 ((a1 + 15) + a2)) = S4 at hw ⊢
    refine wp_st (pc' := 91) (L' := [some (.ref 65), some (.int (nI a1)), some (.int (nI a2))]) (st' := [.ref 65]) (h' := Hp S4) 1 (fun Z => rfl) ?_
    refine wp_st (pc' := 94) (L' := [some (.ref 65), some (.int (nI a1)), some (.int (nI a2))]) (st' := [.ref 79]) (h' := Hp S4) 1 (fun Z => gfR (E := E) sh65 rfl _) ?_
    refine wp_st (pc' := 96) (L' := [some (.ref 65), some (.int (nI a1)), some (.int (nI a2))]) (st' := [.ref 65, .int 4, .ref 79]) (h' := Hp S4) 2 (fun Z => rfl) ?_
    refine wp_st (pc' := 99) (L' := [some (.ref 65), some (.int (nI a1)), some (.int (nI a2))]) (st' := [.ref 77, .int 4, .ref 79]) (h' := Hp S4) 1 (fun Z => gfR (E := E) sh65 rfl _) ?_
    refine wp_st (pc' := 101) (L' := [some (.ref 65), some (.int (nI a1)), some (.int (nI a2))]) (st' := [.int 0, .int (nI a1), .ref 77, .int 4, .ref 79]) (h' := Hp S4) 2 (fun Z => rfl) ?_
    refine wp_st (pc' := 102) (L' := [some (.ref 65), some (.int (nI a1)), some (.int (nI a2))]) (st' := [.int (nI (a1 + 0)), .ref 77, .int 4, .ref 79]) (h' := Hp S4) 1 (fun Z => by rw [← nI_add a1 0]; rfl) ?_
    obtain ⟨hi, hw⟩ := hw
    refine wp_st (pc' := 103) (L' := [some (.ref 65), some (.int (nI a1)), some (.int (nI a2))]) (st' := [.int (S4 77 (a1 + 0)), .int 4, .ref 79]) (h' := Hp S4) 1 (fun Z => ldN (E := E) sh77 (by decide) hi [.int 4, .ref 79] (fun st => Z (d + 1) m_m_risesBy 103 [some (.ref 65), some (.int (nI a1)), some (.int (nI a2))] st (Hp S4))) ?_
    have hw := hw _ rfl
    refine wp_st (pc' := 104) (L' := [some (.ref 65), some (.int (nI a1)), some (.int (nI a2))]) (st' := []) (h' := Hp (up S4 79 4 (S4 77 (a1 + 0)))) 1 (fun Z => stN sh79 (by decide) (by decide) _ _) ?_
    generalize up S4 79 4 (S4 77 (a1 + 0)) = S5 at hw ⊢
    refine wp_st (pc' := 106) (L' := [some (.ref 65), some (.int (nI a1)), some (.int (nI a2))]) (st' := [.ref 65, .ref 65]) (h' := Hp S5) 2 (fun Z => rfl) ?_
    refine wp_st (pc' := 109) (L' := [some (.ref 65), some (.int (nI a1)), some (.int (nI a2))]) (st' := [.int (S5 65 5), .ref 65]) (h' := Hp S5) 1 (fun Z => gfI (E := E) sh65 rfl _) ?_
    refine wp_call (pc' := 112) (rest := []) (fun Z => rfl) (isO_of sh65) hw ?_
    rintro o h1 ⟨x6, S7, rfl, rfl, hw⟩
    refine ⟨_, rfl, ?_⟩
    show wp E (d + 1) m_m_risesBy 112 [some (.ref 65), some (.int (nI a1)), some (.int (nI a2))] [.int x6] (Hp S7) (QI Q)
    refine wp_st (pc' := 115) (L' := [some (.ref 65), some (.int (nI a1)), some (.int (nI a2))]) (st' := [.int 20, .int 0, .int x6]) (h' := Hp S7) 2 (fun Z => rfl) ?_
    refine wp_call (pc' := 118) (rest := []) (fun Z => rfl) rfl hw ?_
    rintro o h1 ⟨x8, S9, rfl, rfl, hw⟩
    refine ⟨_, rfl, ?_⟩
    show wp E (d + 1) m_m_risesBy 118 [some (.ref 65), some (.int (nI a1)), some (.int (nI a2))] [.int x8] (Hp S9) (QI Q)
    exact wp_ret (fun Z => rfl) ⟨_, _, rfl, rfl, hw⟩
set_option maxRecDepth 4000 in
theorem w_m_reckons {E : zX} {d : Nat} {S : St} {a1 : Int32} {Q : Int32 → St → Prop} (hd : 1 ≤ d) 
    (hw : k_m_reckons_4 E d S 0 a1 Q) :
    k_m_reckons E d S a1 Q := by
  obtain ⟨d, rfl⟩ := Nat.exists_eq_add_of_le' hd
  show wp E (d + 1) m_m_reckons 0 [some (.ref 65), some (.int a1), none, none, none] [] (Hp S) (QI Q)
  exact wp_st 4 (fun Z => rfl) (show wp E (d + 1) m_m_reckons 4 [some (.ref 65), some (.int a1), some (.int 0), some (.int a1), none] [] (Hp S) (QI Q) from (hw (some (.int a1)) none))
set_option maxRecDepth 4000 in
theorem w_m_reckons_4 {E : zX} {d : Nat} {S : St} {a2 : Int32} {a3 : Int32} {Q : Int32 → St → Prop} (hd : 1 ≤ d) 
    (hw : ∃ m1 : Nat, a3 = nI m1 ∧ m1 < 1400 ∧
    if (S 68 m1) = 0 then (
      Q (S 80 0) S)
    else (
      ∃ m2 : Nat, a3 = nI m2 ∧ m2 < 1400 ∧
      if (S 68 m2) = 1 then (
        k_m_reckons_36 E d S a2 (a3 + 1) (S 68 m2) Q)
      else (
        if (S 68 m2) = 2 then (
          k_m_reckons_36 E d S a2 (a3 + 1) (S 68 m2) Q)
        else (
          if (S 68 m2) = 3 then (
            ∃ m3 : Nat, (a2 - (1 : Int32)) = nI m3 ∧ m3 < 950 ∧
            if (S 80 m3) = 0 then (
              ∃ m5 : Nat, (a2 - (1 : Int32)) = nI m5 ∧ m5 < 950 ∧
              ∀ S4, S4 = up S 80 m5 1 →
              k_m_reckons_4 E d S4 a2 (a3 + 1) Q)
            else (
              ∃ m7 : Nat, (a2 - (1 : Int32)) = nI m7 ∧ m7 < 950 ∧
              ∀ S6, S6 = up S 80 m7 0 →
              k_m_reckons_4 E d S6 a2 (a3 + 1) Q))
          else (
            ∃ m8 : Nat, ((a2 + (-1)) - (1 : Int32)) = nI m8 ∧ m8 < 950 ∧
            ∃ m9 : Nat, (a2 + (-1)) = nI m9 ∧ m9 < 950 ∧
            k_m_works E (d - 1) S (S 68 m2) (S 80 m8) (S 80 m9) (fun x10 S11 =>
            ∃ m13 : Nat, ((a2 + (-1)) - (1 : Int32)) = nI m13 ∧ m13 < 950 ∧
            ∀ S12, S12 = up S11 80 m13 x10 →
            k_m_reckons_4 E d S12 (a2 + (-1)) (a3 + 1) Q)))))) :
    k_m_reckons_4 E d S a2 a3 Q := by
  obtain ⟨d, rfl⟩ := Nat.exists_eq_add_of_le' hd
  intro j1 j4
  show wp E (d + 1) m_m_reckons 4 [some (.ref 65), j1, some (.int a2), some (.int a3), j4] [] (Hp S) (QI Q)
  refine wp_st (pc' := 5) (L' := [some (.ref 65), j1, some (.int a2), some (.int a3), j4]) (st' := [.ref 65]) (h' := Hp S) 1 (fun Z => rfl) ?_
  refine wp_st (pc' := 8) (L' := [some (.ref 65), j1, some (.int a2), some (.int a3), j4]) (st' := [.ref 68]) (h' := Hp S) 1 (fun Z => gfR (E := E) sh65 rfl _) ?_
  refine wp_st (pc' := 9) (L' := [some (.ref 65), j1, some (.int a2), some (.int a3), j4]) (st' := [.int a3, .ref 68]) (h' := Hp S) 1 (fun Z => rfl) ?_
  obtain ⟨m1, em, hi, hw⟩ := hw
  refine wp_st (pc' := 10) (L' := [some (.ref 65), j1, some (.int a2), some (.int a3), j4]) (st' := [.int (S 68 m1)]) (h' := Hp S) 1 (fun Z => (congrArg (fun v => zit E 1 Z (d + 1) m_m_reckons 9 [some (.ref 65), j1, some (.int a2), some (.int a3), j4] [.int v, .ref 68] (Hp S)) em).trans (ldN (E := E) sh68 (by decide) hi [] (fun st => Z (d + 1) m_m_reckons 10 [some (.ref 65), j1, some (.int a2), some (.int a3), j4] st (Hp S)))) ?_
  by_cases hc : (S 68 m1) = 0
  · rw [if_pos hc] at hw
    refine wp_st (pc' := 143) (L' := [some (.ref 65), j1, some (.int a2), some (.int a3), j4]) (st' := []) (h' := Hp S) 1 (fun Z => if_pos hc) ?_
    refine wp_st (pc' := 144) (L' := [some (.ref 65), j1, some (.int a2), some (.int a3), j4]) (st' := [.ref 65]) (h' := Hp S) 1 (fun Z => rfl) ?_
    refine wp_st (pc' := 147) (L' := [some (.ref 65), j1, some (.int a2), some (.int a3), j4]) (st' := [.ref 80]) (h' := Hp S) 1 (fun Z => gfR (E := E) sh65 rfl _) ?_
    refine wp_st (pc' := 148) (L' := [some (.ref 65), j1, some (.int a2), some (.int a3), j4]) (st' := [.int 0, .ref 80]) (h' := Hp S) 1 (fun Z => rfl) ?_
    refine wp_st (pc' := 149) (L' := [some (.ref 65), j1, some (.int a2), some (.int a3), j4]) (st' := [.int (S 80 0)]) (h' := Hp S) 1 (fun Z => ldN (E := E) sh80 (by decide) (by decide) [] (fun st => Z (d + 1) m_m_reckons 149 [some (.ref 65), j1, some (.int a2), some (.int a3), j4] st (Hp S))) ?_
    exact wp_ret (fun Z => rfl) ⟨_, _, rfl, rfl, hw⟩
  · rw [if_neg hc] at hw
    refine wp_st (pc' := 13) (L' := [some (.ref 65), j1, some (.int a2), some (.int a3), j4]) (st' := []) (h' := Hp S) 1 (fun Z => if_neg hc) ?_
    refine wp_st (pc' := 14) (L' := [some (.ref 65), j1, some (.int a2), some (.int a3), j4]) (st' := [.ref 65]) (h' := Hp S) 1 (fun Z => rfl) ?_
    refine wp_st (pc' := 17) (L' := [some (.ref 65), j1, some (.int a2), some (.int a3), j4]) (st' := [.ref 68]) (h' := Hp S) 1 (fun Z => gfR (E := E) sh65 rfl _) ?_
    refine wp_st (pc' := 18) (L' := [some (.ref 65), j1, some (.int a2), some (.int a3), j4]) (st' := [.int a3, .ref 68]) (h' := Hp S) 1 (fun Z => rfl) ?_
    obtain ⟨m2, em, hi, hw⟩ := hw
    refine wp_st (pc' := 19) (L' := [some (.ref 65), j1, some (.int a2), some (.int a3), j4]) (st' := [.int (S 68 m2)]) (h' := Hp S) 1 (fun Z => (congrArg (fun v => zit E 1 Z (d + 1) m_m_reckons 18 [some (.ref 65), j1, some (.int a2), some (.int a3), j4] [.int v, .ref 68] (Hp S)) em).trans (ldN (E := E) sh68 (by decide) hi [] (fun st => Z (d + 1) m_m_reckons 19 [some (.ref 65), j1, some (.int a2), some (.int a3), j4] st (Hp S)))) ?_
    refine wp_st (pc' := 21) (L' := [some (.ref 65), j1, some (.int a2), some (.int a3), some (.int (S 68 m2))]) (st' := []) (h' := Hp S) 1 (fun Z => rfl) ?_
    refine wp_st (pc' := 24) (L' := [some (.ref 65), j1, some (.int a2), some (.int (a3 + 1)), some (.int (S 68 m2))]) (st' := []) (h' := Hp S) 1 (fun Z => congrArg (fun v => Z (d + 1) m_m_reckons 24 [some (.ref 65), j1, some (.int a2), some (.int (a3 + v)), some (.int (S 68 m2))] [] (Hp S)) (show Int32.ofInt (1) = (1) by decide)) ?_
    refine wp_st (pc' := 27) (L' := [some (.ref 65), j1, some (.int a2), some (.int (a3 + 1)), some (.int (S 68 m2))]) (st' := [.int 1, .int (S 68 m2)]) (h' := Hp S) 2 (fun Z => rfl) ?_
    by_cases hc : (S 68 m2) = 1
    · rw [if_pos hc] at hw
      refine wp_st (pc' := 36) (L' := [some (.ref 65), j1, some (.int a2), some (.int (a3 + 1)), some (.int (S 68 m2))]) (st' := []) (h' := Hp S) 1 (fun Z => if_pos hc) ?_
      exact (show wp E (d + 1) m_m_reckons 36 [some (.ref 65), j1, some (.int a2), some (.int (a3 + 1)), some (.int (S 68 m2))] [] (Hp S) (QI Q) from (hw j1))
    · rw [if_neg hc] at hw
      refine wp_st (pc' := 30) (L' := [some (.ref 65), j1, some (.int a2), some (.int (a3 + 1)), some (.int (S 68 m2))]) (st' := []) (h' := Hp S) 1 (fun Z => if_neg hc) ?_
      refine wp_st (pc' := 33) (L' := [some (.ref 65), j1, some (.int a2), some (.int (a3 + 1)), some (.int (S 68 m2))]) (st' := [.int 2, .int (S 68 m2)]) (h' := Hp S) 2 (fun Z => rfl) ?_
      by_cases hc : (S 68 m2) = 2
      · rw [if_pos hc] at hw
        refine wp_st (pc' := 36) (L' := [some (.ref 65), j1, some (.int a2), some (.int (a3 + 1)), some (.int (S 68 m2))]) (st' := []) (h' := Hp S) 1 (fun Z => if_pos hc) ?_
        exact (show wp E (d + 1) m_m_reckons 36 [some (.ref 65), j1, some (.int a2), some (.int (a3 + 1)), some (.int (S 68 m2))] [] (Hp S) (QI Q) from (hw j1))
      · rw [if_neg hc] at hw
        refine wp_st (pc' := 77) (L' := [some (.ref 65), j1, some (.int a2), some (.int (a3 + 1)), some (.int (S 68 m2))]) (st' := []) (h' := Hp S) 1 (fun Z => if_neg hc) ?_
        refine wp_st (pc' := 80) (L' := [some (.ref 65), j1, some (.int a2), some (.int (a3 + 1)), some (.int (S 68 m2))]) (st' := [.int 3, .int (S 68 m2)]) (h' := Hp S) 2 (fun Z => rfl) ?_
        by_cases hc : (S 68 m2) = 3
        · rw [if_pos hc] at hw
          refine wp_st (pc' := 83) (L' := [some (.ref 65), j1, some (.int a2), some (.int (a3 + 1)), some (.int (S 68 m2))]) (st' := []) (h' := Hp S) 1 (fun Z => if_pos hc) ?_
          refine wp_st (pc' := 84) (L' := [some (.ref 65), j1, some (.int a2), some (.int (a3 + 1)), some (.int (S 68 m2))]) (st' := [.ref 65]) (h' := Hp S) 1 (fun Z => rfl) ?_
          refine wp_st (pc' := 87) (L' := [some (.ref 65), j1, some (.int a2), some (.int (a3 + 1)), some (.int (S 68 m2))]) (st' := [.ref 80]) (h' := Hp S) 1 (fun Z => gfR (E := E) sh65 rfl _) ?_
          refine wp_st (pc' := 91) (L' := [some (.ref 65), j1, some (.int a2), some (.int (a3 + 1)), some (.int (S 68 m2))]) (st' := [.ref 65, .int (a2 - (1 : Int32)), .ref 80]) (h' := Hp S) 4 (fun Z => rfl) ?_
          refine wp_st (pc' := 94) (L' := [some (.ref 65), j1, some (.int a2), some (.int (a3 + 1)), some (.int (S 68 m2))]) (st' := [.ref 80, .int (a2 - (1 : Int32)), .ref 80]) (h' := Hp S) 1 (fun Z => gfR (E := E) sh65 rfl _) ?_
          refine wp_st (pc' := 97) (L' := [some (.ref 65), j1, some (.int a2), some (.int (a3 + 1)), some (.int (S 68 m2))]) (st' := [.int (a2 - (1 : Int32)), .ref 80, .int (a2 - (1 : Int32)), .ref 80]) (h' := Hp S) 3 (fun Z => rfl) ?_
          obtain ⟨m3, em, hi, hw⟩ := hw
          refine wp_st (pc' := 98) (L' := [some (.ref 65), j1, some (.int a2), some (.int (a3 + 1)), some (.int (S 68 m2))]) (st' := [.int (S 80 m3), .int (a2 - (1 : Int32)), .ref 80]) (h' := Hp S) 1 (fun Z => (congrArg (fun v => zit E 1 Z (d + 1) m_m_reckons 97 [some (.ref 65), j1, some (.int a2), some (.int (a3 + 1)), some (.int (S 68 m2))] [.int v, .ref 80, .int (a2 - (1 : Int32)), .ref 80] (Hp S)) em).trans (ldN (E := E) sh80 (by decide) hi [.int (a2 - (1 : Int32)), .ref 80] (fun st => Z (d + 1) m_m_reckons 98 [some (.ref 65), j1, some (.int a2), some (.int (a3 + 1)), some (.int (S 68 m2))] st (Hp S)))) ?_
          by_cases hc : (S 80 m3) = 0
          · rw [if_pos hc] at hw
            refine wp_st (pc' := 101) (L' := [some (.ref 65), j1, some (.int a2), some (.int (a3 + 1)), some (.int (S 68 m2))]) (st' := [.int (a2 - (1 : Int32)), .ref 80]) (h' := Hp S) 1 (fun Z => if_pos hc) ?_
            refine wp_st (pc' := 106) (L' := [some (.ref 65), j1, some (.int a2), some (.int (a3 + 1)), some (.int (S 68 m2))]) (st' := [.int 1, .int (a2 - (1 : Int32)), .ref 80]) (h' := Hp S) 2 (fun Z => rfl) ?_
            obtain ⟨m5, em, hi, hw⟩ := hw
            have hw := hw _ rfl
            refine wp_st (pc' := 107) (L' := [some (.ref 65), j1, some (.int a2), some (.int (a3 + 1)), some (.int (S 68 m2))]) (st' := []) (h' := Hp (up S 80 m5 1)) 1 (fun Z => (congrArg (fun v => zit E 1 Z (d + 1) m_m_reckons 106 [some (.ref 65), j1, some (.int a2), some (.int (a3 + 1)), some (.int (S 68 m2))] [.int 1, .int v, .ref 80] (Hp S)) em).trans (stN sh80 (by decide) hi _ _)) ?_
            generalize up S 80 m5 1 = S4 at hw ⊢
            exact wp_st 2 (fun Z => rfl) (show wp E (d + 1) m_m_reckons 4 [some (.ref 65), j1, some (.int a2), some (.int (a3 + 1)), some (.int (S 68 m2))] [] (Hp S4) (QI Q) from (hw j1 (some (.int (S 68 m2)))))
          · rw [if_neg hc] at hw
            refine wp_st (pc' := 105) (L' := [some (.ref 65), j1, some (.int a2), some (.int (a3 + 1)), some (.int (S 68 m2))]) (st' := [.int (a2 - (1 : Int32)), .ref 80]) (h' := Hp S) 1 (fun Z => if_neg hc) ?_
            refine wp_st (pc' := 106) (L' := [some (.ref 65), j1, some (.int a2), some (.int (a3 + 1)), some (.int (S 68 m2))]) (st' := [.int 0, .int (a2 - (1 : Int32)), .ref 80]) (h' := Hp S) 1 (fun Z => rfl) ?_
            obtain ⟨m7, em, hi, hw⟩ := hw
            have hw := hw _ rfl
            refine wp_st (pc' := 107) (L' := [some (.ref 65), j1, some (.int a2), some (.int (a3 + 1)), some (.int (S 68 m2))]) (st' := []) (h' := Hp (up S 80 m7 0)) 1 (fun Z => (congrArg (fun v => zit E 1 Z (d + 1) m_m_reckons 106 [some (.ref 65), j1, some (.int a2), some (.int (a3 + 1)), some (.int (S 68 m2))] [.int 0, .int v, .ref 80] (Hp S)) em).trans (stN sh80 (by decide) hi _ _)) ?_
            generalize up S 80 m7 0 = S6 at hw ⊢
            exact wp_st 2 (fun Z => rfl) (show wp E (d + 1) m_m_reckons 4 [some (.ref 65), j1, some (.int a2), some (.int (a3 + 1)), some (.int (S 68 m2))] [] (Hp S6) (QI Q) from (hw j1 (some (.int (S 68 m2)))))
        · rw [if_neg hc] at hw
          refine wp_st (pc' := 110) (L' := [some (.ref 65), j1, some (.int a2), some (.int (a3 + 1)), some (.int (S 68 m2))]) (st' := []) (h' := Hp S) 1 (fun Z => if_neg hc) ?_
          refine wp_st (pc' := 113) (L' := [some (.ref 65), j1, some (.int (a2 + (-1))), some (.int (a3 + 1)), some (.int (S 68 m2))]) (st' := []) (h' := Hp S) 1 (fun Z => congrArg (fun v => Z (d + 1) m_m_reckons 113 [some (.ref 65), j1, some (.int (a2 + v)), some (.int (a3 + 1)), some (.int (S 68 m2))] [] (Hp S)) (show Int32.ofInt (-1) = (-1) by decide)) ?_
          refine wp_st (pc' := 114) (L' := [some (.ref 65), j1, some (.int (a2 + (-1))), some (.int (a3 + 1)), some (.int (S 68 m2))]) (st' := [.ref 65]) (h' := Hp S) 1 (fun Z => rfl) ?_
          refine wp_st (pc' := 117) (L' := [some (.ref 65), j1, some (.int (a2 + (-1))), some (.int (a3 + 1)), some (.int (S 68 m2))]) (st' := [.ref 80]) (h' := Hp S) 1 (fun Z => gfR (E := E) sh65 rfl _) ?_
          refine wp_st (pc' := 123) (L' := [some (.ref 65), j1, some (.int (a2 + (-1))), some (.int (a3 + 1)), some (.int (S 68 m2))]) (st' := [.ref 65, .int (S 68 m2), .int ((a2 + (-1)) - (1 : Int32)), .ref 80]) (h' := Hp S) 5 (fun Z => rfl) ?_
          refine wp_st (pc' := 126) (L' := [some (.ref 65), j1, some (.int (a2 + (-1))), some (.int (a3 + 1)), some (.int (S 68 m2))]) (st' := [.ref 80, .int (S 68 m2), .int ((a2 + (-1)) - (1 : Int32)), .ref 80]) (h' := Hp S) 1 (fun Z => gfR (E := E) sh65 rfl _) ?_
          refine wp_st (pc' := 129) (L' := [some (.ref 65), j1, some (.int (a2 + (-1))), some (.int (a3 + 1)), some (.int (S 68 m2))]) (st' := [.int ((a2 + (-1)) - (1 : Int32)), .ref 80, .int (S 68 m2), .int ((a2 + (-1)) - (1 : Int32)), .ref 80]) (h' := Hp S) 3 (fun Z => rfl) ?_
          obtain ⟨m8, em, hi, hw⟩ := hw
          refine wp_st (pc' := 130) (L' := [some (.ref 65), j1, some (.int (a2 + (-1))), some (.int (a3 + 1)), some (.int (S 68 m2))]) (st' := [.int (S 80 m8), .int (S 68 m2), .int ((a2 + (-1)) - (1 : Int32)), .ref 80]) (h' := Hp S) 1 (fun Z => (congrArg (fun v => zit E 1 Z (d + 1) m_m_reckons 129 [some (.ref 65), j1, some (.int (a2 + (-1))), some (.int (a3 + 1)), some (.int (S 68 m2))] [.int v, .ref 80, .int (S 68 m2), .int ((a2 + (-1)) - (1 : Int32)), .ref 80] (Hp S)) em).trans (ldN (E := E) sh80 (by decide) hi [.int (S 68 m2), .int ((a2 + (-1)) - (1 : Int32)), .ref 80] (fun st => Z (d + 1) m_m_reckons 130 [some (.ref 65), j1, some (.int (a2 + (-1))), some (.int (a3 + 1)), some (.int (S 68 m2))] st (Hp S)))) ?_
          refine wp_st (pc' := 131) (L' := [some (.ref 65), j1, some (.int (a2 + (-1))), some (.int (a3 + 1)), some (.int (S 68 m2))]) (st' := [.ref 65, .int (S 80 m8), .int (S 68 m2), .int ((a2 + (-1)) - (1 : Int32)), .ref 80]) (h' := Hp S) 1 (fun Z => rfl) ?_
          refine wp_st (pc' := 134) (L' := [some (.ref 65), j1, some (.int (a2 + (-1))), some (.int (a3 + 1)), some (.int (S 68 m2))]) (st' := [.ref 80, .int (S 80 m8), .int (S 68 m2), .int ((a2 + (-1)) - (1 : Int32)), .ref 80]) (h' := Hp S) 1 (fun Z => gfR (E := E) sh65 rfl _) ?_
          refine wp_st (pc' := 135) (L' := [some (.ref 65), j1, some (.int (a2 + (-1))), some (.int (a3 + 1)), some (.int (S 68 m2))]) (st' := [.int (a2 + (-1)), .ref 80, .int (S 80 m8), .int (S 68 m2), .int ((a2 + (-1)) - (1 : Int32)), .ref 80]) (h' := Hp S) 1 (fun Z => rfl) ?_
          obtain ⟨m9, em, hi, hw⟩ := hw
          refine wp_st (pc' := 136) (L' := [some (.ref 65), j1, some (.int (a2 + (-1))), some (.int (a3 + 1)), some (.int (S 68 m2))]) (st' := [.int (S 80 m9), .int (S 80 m8), .int (S 68 m2), .int ((a2 + (-1)) - (1 : Int32)), .ref 80]) (h' := Hp S) 1 (fun Z => (congrArg (fun v => zit E 1 Z (d + 1) m_m_reckons 135 [some (.ref 65), j1, some (.int (a2 + (-1))), some (.int (a3 + 1)), some (.int (S 68 m2))] [.int v, .ref 80, .int (S 80 m8), .int (S 68 m2), .int ((a2 + (-1)) - (1 : Int32)), .ref 80] (Hp S)) em).trans (ldN (E := E) sh80 (by decide) hi [.int (S 80 m8), .int (S 68 m2), .int ((a2 + (-1)) - (1 : Int32)), .ref 80] (fun st => Z (d + 1) m_m_reckons 136 [some (.ref 65), j1, some (.int (a2 + (-1))), some (.int (a3 + 1)), some (.int (S 68 m2))] st (Hp S)))) ?_
          refine wp_call (pc' := 139) (rest := [.int ((a2 + (-1)) - (1 : Int32)), .ref 80]) (fun Z => rfl) rfl hw ?_
          rintro o h1 ⟨x10, S11, rfl, rfl, hw⟩
          refine ⟨_, rfl, ?_⟩
          show wp E (d + 1) m_m_reckons 139 [some (.ref 65), j1, some (.int (a2 + (-1))), some (.int (a3 + 1)), some (.int (S 68 m2))] [.int x10, .int ((a2 + (-1)) - (1 : Int32)), .ref 80] (Hp S11) (QI Q)
          obtain ⟨m13, em, hi, hw⟩ := hw
          have hw := hw _ rfl
          refine wp_st (pc' := 140) (L' := [some (.ref 65), j1, some (.int (a2 + (-1))), some (.int (a3 + 1)), some (.int (S 68 m2))]) (st' := []) (h' := Hp (up S11 80 m13 x10)) 1 (fun Z => (congrArg (fun v => zit E 1 Z (d + 1) m_m_reckons 139 [some (.ref 65), j1, some (.int (a2 + (-1))), some (.int (a3 + 1)), some (.int (S 68 m2))] [.int x10, .int v, .ref 80] (Hp S11)) em).trans (stN sh80 (by decide) hi _ _)) ?_
          generalize up S11 80 m13 x10 = S12 at hw ⊢
          exact wp_st 1 (fun Z => rfl) (show wp E (d + 1) m_m_reckons 4 [some (.ref 65), j1, some (.int (a2 + (-1))), some (.int (a3 + 1)), some (.int (S 68 m2))] [] (Hp S12) (QI Q) from (hw j1 (some (.int (S 68 m2)))))
set_option maxRecDepth 4000 in
theorem w_m_reckons_36 {E : zX} {d : Nat} {S : St} {a2 : Int32} {a3 : Int32} {a4 : Int32} {Q : Int32 → St → Prop} (hd : 1 ≤ d) 
    (hw : if a4 = 1 then (
      ∃ m1 : Nat, a3 = nI m1 ∧ m1 < 1400 ∧
      ∃ m3 : Nat, a2 = nI m3 ∧ m3 < 950 ∧
      ∀ S2, S2 = up S 80 m3 (S 68 m1) →
      k_m_reckons_4 E d S2 (a2 + 1) (a3 + 1) Q)
    else (
      ∃ m4 : Nat, a3 = nI m4 ∧ m4 < 1400 ∧
      ∃ m5 : Nat, (S 68 m4) = nI m5 ∧ m5 < 9 ∧
      ∃ m7 : Nat, a2 = nI m7 ∧ m7 < 950 ∧
      ∀ S6, S6 = up S 80 m7 (S 79 m5) →
      k_m_reckons_4 E d S6 (a2 + 1) (a3 + 1) Q)) :
    k_m_reckons_36 E d S a2 a3 a4 Q := by
  obtain ⟨d, rfl⟩ := Nat.exists_eq_add_of_le' hd
  intro j1
  show wp E (d + 1) m_m_reckons 36 [some (.ref 65), j1, some (.int a2), some (.int a3), some (.int a4)] [] (Hp S) (QI Q)
  refine wp_st (pc' := 37) (L' := [some (.ref 65), j1, some (.int a2), some (.int a3), some (.int a4)]) (st' := [.ref 65]) (h' := Hp S) 1 (fun Z => rfl) ?_
  refine wp_st (pc' := 40) (L' := [some (.ref 65), j1, some (.int a2), some (.int a3), some (.int a4)]) (st' := [.ref 80]) (h' := Hp S) 1 (fun Z => gfR (E := E) sh65 rfl _) ?_
  refine wp_st (pc' := 44) (L' := [some (.ref 65), j1, some (.int a2), some (.int a3), some (.int a4)]) (st' := [.int 1, .int a4, .int a2, .ref 80]) (h' := Hp S) 3 (fun Z => rfl) ?_
  by_cases hc : a4 = 1
  · rw [if_pos hc] at hw
    refine wp_st (pc' := 47) (L' := [some (.ref 65), j1, some (.int a2), some (.int a3), some (.int a4)]) (st' := [.int a2, .ref 80]) (h' := Hp S) 1 (fun Z => if_pos hc) ?_
    refine wp_st (pc' := 48) (L' := [some (.ref 65), j1, some (.int a2), some (.int a3), some (.int a4)]) (st' := [.ref 65, .int a2, .ref 80]) (h' := Hp S) 1 (fun Z => rfl) ?_
    refine wp_st (pc' := 51) (L' := [some (.ref 65), j1, some (.int a2), some (.int a3), some (.int a4)]) (st' := [.ref 68, .int a2, .ref 80]) (h' := Hp S) 1 (fun Z => gfR (E := E) sh65 rfl _) ?_
    refine wp_st (pc' := 52) (L' := [some (.ref 65), j1, some (.int a2), some (.int a3), some (.int a4)]) (st' := [.int a3, .ref 68, .int a2, .ref 80]) (h' := Hp S) 1 (fun Z => rfl) ?_
    obtain ⟨m1, em, hi, hw⟩ := hw
    refine wp_st (pc' := 53) (L' := [some (.ref 65), j1, some (.int a2), some (.int a3), some (.int a4)]) (st' := [.int (S 68 m1), .int a2, .ref 80]) (h' := Hp S) 1 (fun Z => (congrArg (fun v => zit E 1 Z (d + 1) m_m_reckons 52 [some (.ref 65), j1, some (.int a2), some (.int a3), some (.int a4)] [.int v, .ref 68, .int a2, .ref 80] (Hp S)) em).trans (ldN (E := E) sh68 (by decide) hi [.int a2, .ref 80] (fun st => Z (d + 1) m_m_reckons 53 [some (.ref 65), j1, some (.int a2), some (.int a3), some (.int a4)] st (Hp S)))) ?_
    refine wp_st (pc' := 67) (L' := [some (.ref 65), j1, some (.int a2), some (.int a3), some (.int a4)]) (st' := [.int (S 68 m1), .int a2, .ref 80]) (h' := Hp S) 1 (fun Z => rfl) ?_
    obtain ⟨m3, em, hi, hw⟩ := hw
    have hw := hw _ rfl
    refine wp_st (pc' := 68) (L' := [some (.ref 65), j1, some (.int a2), some (.int a3), some (.int a4)]) (st' := []) (h' := Hp (up S 80 m3 (S 68 m1))) 1 (fun Z => (congrArg (fun v => zit E 1 Z (d + 1) m_m_reckons 67 [some (.ref 65), j1, some (.int a2), some (.int a3), some (.int a4)] [.int (S 68 m1), .int v, .ref 80] (Hp S)) em).trans (stN sh80 (by decide) hi _ _)) ?_
    generalize up S 80 m3 (S 68 m1) = S2 at hw ⊢
    refine wp_st (pc' := 71) (L' := [some (.ref 65), j1, some (.int a2), some (.int (a3 + 1)), some (.int a4)]) (st' := []) (h' := Hp S2) 1 (fun Z => congrArg (fun v => Z (d + 1) m_m_reckons 71 [some (.ref 65), j1, some (.int a2), some (.int (a3 + v)), some (.int a4)] [] (Hp S2)) (show Int32.ofInt (1) = (1) by decide)) ?_
    refine wp_st (pc' := 74) (L' := [some (.ref 65), j1, some (.int (a2 + 1)), some (.int (a3 + 1)), some (.int a4)]) (st' := []) (h' := Hp S2) 1 (fun Z => congrArg (fun v => Z (d + 1) m_m_reckons 74 [some (.ref 65), j1, some (.int (a2 + v)), some (.int (a3 + 1)), some (.int a4)] [] (Hp S2)) (show Int32.ofInt (1) = (1) by decide)) ?_
    exact wp_st 2 (fun Z => rfl) (show wp E (d + 1) m_m_reckons 4 [some (.ref 65), j1, some (.int (a2 + 1)), some (.int (a3 + 1)), some (.int a4)] [] (Hp S2) (QI Q) from (hw j1 (some (.int a4))))
  · rw [if_neg hc] at hw
    refine wp_st (pc' := 56) (L' := [some (.ref 65), j1, some (.int a2), some (.int a3), some (.int a4)]) (st' := [.int a2, .ref 80]) (h' := Hp S) 1 (fun Z => if_neg hc) ?_
    refine wp_st (pc' := 57) (L' := [some (.ref 65), j1, some (.int a2), some (.int a3), some (.int a4)]) (st' := [.ref 65, .int a2, .ref 80]) (h' := Hp S) 1 (fun Z => rfl) ?_
    refine wp_st (pc' := 60) (L' := [some (.ref 65), j1, some (.int a2), some (.int a3), some (.int a4)]) (st' := [.ref 79, .int a2, .ref 80]) (h' := Hp S) 1 (fun Z => gfR (E := E) sh65 rfl _) ?_
    refine wp_st (pc' := 61) (L' := [some (.ref 65), j1, some (.int a2), some (.int a3), some (.int a4)]) (st' := [.ref 65, .ref 79, .int a2, .ref 80]) (h' := Hp S) 1 (fun Z => rfl) ?_
    refine wp_st (pc' := 64) (L' := [some (.ref 65), j1, some (.int a2), some (.int a3), some (.int a4)]) (st' := [.ref 68, .ref 79, .int a2, .ref 80]) (h' := Hp S) 1 (fun Z => gfR (E := E) sh65 rfl _) ?_
    refine wp_st (pc' := 65) (L' := [some (.ref 65), j1, some (.int a2), some (.int a3), some (.int a4)]) (st' := [.int a3, .ref 68, .ref 79, .int a2, .ref 80]) (h' := Hp S) 1 (fun Z => rfl) ?_
    obtain ⟨m4, em, hi, hw⟩ := hw
    refine wp_st (pc' := 66) (L' := [some (.ref 65), j1, some (.int a2), some (.int a3), some (.int a4)]) (st' := [.int (S 68 m4), .ref 79, .int a2, .ref 80]) (h' := Hp S) 1 (fun Z => (congrArg (fun v => zit E 1 Z (d + 1) m_m_reckons 65 [some (.ref 65), j1, some (.int a2), some (.int a3), some (.int a4)] [.int v, .ref 68, .ref 79, .int a2, .ref 80] (Hp S)) em).trans (ldN (E := E) sh68 (by decide) hi [.ref 79, .int a2, .ref 80] (fun st => Z (d + 1) m_m_reckons 66 [some (.ref 65), j1, some (.int a2), some (.int a3), some (.int a4)] st (Hp S)))) ?_
    obtain ⟨m5, em, hi, hw⟩ := hw
    refine wp_st (pc' := 67) (L' := [some (.ref 65), j1, some (.int a2), some (.int a3), some (.int a4)]) (st' := [.int (S 79 m5), .int a2, .ref 80]) (h' := Hp S) 1 (fun Z => (congrArg (fun v => zit E 1 Z (d + 1) m_m_reckons 66 [some (.ref 65), j1, some (.int a2), some (.int a3), some (.int a4)] [.int v, .ref 79, .int a2, .ref 80] (Hp S)) em).trans (ldN (E := E) sh79 (by decide) hi [.int a2, .ref 80] (fun st => Z (d + 1) m_m_reckons 67 [some (.ref 65), j1, some (.int a2), some (.int a3), some (.int a4)] st (Hp S)))) ?_
    obtain ⟨m7, em, hi, hw⟩ := hw
    have hw := hw _ rfl
    refine wp_st (pc' := 68) (L' := [some (.ref 65), j1, some (.int a2), some (.int a3), some (.int a4)]) (st' := []) (h' := Hp (up S 80 m7 (S 79 m5))) 1 (fun Z => (congrArg (fun v => zit E 1 Z (d + 1) m_m_reckons 67 [some (.ref 65), j1, some (.int a2), some (.int a3), some (.int a4)] [.int (S 79 m5), .int v, .ref 80] (Hp S)) em).trans (stN sh80 (by decide) hi _ _)) ?_
    generalize up S 80 m7 (S 79 m5) = S6 at hw ⊢
    refine wp_st (pc' := 71) (L' := [some (.ref 65), j1, some (.int a2), some (.int (a3 + 1)), some (.int a4)]) (st' := []) (h' := Hp S6) 1 (fun Z => congrArg (fun v => Z (d + 1) m_m_reckons 71 [some (.ref 65), j1, some (.int a2), some (.int (a3 + v)), some (.int a4)] [] (Hp S6)) (show Int32.ofInt (1) = (1) by decide)) ?_
    refine wp_st (pc' := 74) (L' := [some (.ref 65), j1, some (.int (a2 + 1)), some (.int (a3 + 1)), some (.int a4)]) (st' := []) (h' := Hp S6) 1 (fun Z => congrArg (fun v => Z (d + 1) m_m_reckons 74 [some (.ref 65), j1, some (.int (a2 + v)), some (.int (a3 + 1)), some (.int a4)] [] (Hp S6)) (show Int32.ofInt (1) = (1) by decide)) ?_
    exact wp_st 2 (fun Z => rfl) (show wp E (d + 1) m_m_reckons 4 [some (.ref 65), j1, some (.int (a2 + 1)), some (.int (a3 + 1)), some (.int a4)] [] (Hp S6) (QI Q) from (hw j1 (some (.int a4))))
set_option maxRecDepth 4000 in
theorem w_m_works {E : zX} {d : Nat} {S : St} {a0 : Int32} {a1 : Int32} {a2 : Int32} {Q : Int32 → St → Prop} 
    (hw : if a0 = 4 then (
      if a1 = 0 then (
        Q (0 : Int32) S)
      else (
        if a2 = 0 then (
          Q (0 : Int32) S)
        else (
          Q (1 : Int32) S)))
    else if a0 = 5 then (
      if a1 = 0 then (
        if a2 = 0 then (
          Q (0 : Int32) S)
        else (
          Q (1 : Int32) S))
      else (
        Q (1 : Int32) S))
    else if a0 = 6 then (
      if a2 ≤ a1 then (
        Q (0 : Int32) S)
      else (
        Q (1 : Int32) S))
    else if a0 = 7 then (
      if a1 = a2 then (
        Q (1 : Int32) S)
      else (
        Q (0 : Int32) S))
    else if a0 = 8 then (
      Q (a1 + a2) S)
    else if a0 = 9 then (
      Q (a1 - a2) S)
    else if a0 = 10 then (
      Q (a1 * a2) S)
    else (
      if a2 = 0 then (
      Q (0 : Int32) S)
    else (
      ¬ a2 = 0 ∧
      Q (a1 / a2) S))) :
    k_m_works E d S a0 a1 a2 Q := by
  show wp E d m_m_works 0 [some (.int a0), some (.int a1), some (.int a2)] [] (Hp S) (QI Q)
  refine wp_st (pc' := 1) (L' := [some (.int a0), some (.int a1), some (.int a2)]) (st' := [.int a0]) (h' := Hp S) 1 (fun Z => rfl) ?_
  by_cases c4 : a0 = 4
  · rw [if_pos c4] at hw
    refine wp_st (pc' := 44) (L' := [some (.int a0), some (.int a1), some (.int a2)]) (st' := []) (h' := Hp S) 1 (fun Z => (show zsw (.tableswitch 105 4 10 #[43, 57, 71, 82, 93, 97, 101]) 1 (.int a0 :: []) (fun t st1 => Z d m_m_works t [some (.int a0), some (.int a1), some (.int a2)] st1 (Hp S)) = _ from zsw_at (c := 4) (by rw [c4]; decide) (by decide) rfl rfl)) ?_
    refine wp_st (pc' := 45) (L' := [some (.int a0), some (.int a1), some (.int a2)]) (st' := [.int a1]) (h' := Hp S) 1 (fun Z => rfl) ?_
    by_cases hc : a1 = 0
    · rw [if_pos hc] at hw
      refine wp_st (pc' := 56) (L' := [some (.int a0), some (.int a1), some (.int a2)]) (st' := []) (h' := Hp S) 1 (fun Z => if_pos hc) ?_
      refine wp_st (pc' := 57) (L' := [some (.int a0), some (.int a1), some (.int a2)]) (st' := [.int 0]) (h' := Hp S) 1 (fun Z => rfl) ?_
      exact wp_ret (fun Z => rfl) ⟨_, _, rfl, rfl, hw⟩
    · rw [if_neg hc] at hw
      refine wp_st (pc' := 48) (L' := [some (.int a0), some (.int a1), some (.int a2)]) (st' := []) (h' := Hp S) 1 (fun Z => if_neg hc) ?_
      refine wp_st (pc' := 49) (L' := [some (.int a0), some (.int a1), some (.int a2)]) (st' := [.int a2]) (h' := Hp S) 1 (fun Z => rfl) ?_
      by_cases hc : a2 = 0
      · rw [if_pos hc] at hw
        refine wp_st (pc' := 56) (L' := [some (.int a0), some (.int a1), some (.int a2)]) (st' := []) (h' := Hp S) 1 (fun Z => if_pos hc) ?_
        refine wp_st (pc' := 57) (L' := [some (.int a0), some (.int a1), some (.int a2)]) (st' := [.int 0]) (h' := Hp S) 1 (fun Z => rfl) ?_
        exact wp_ret (fun Z => rfl) ⟨_, _, rfl, rfl, hw⟩
      · rw [if_neg hc] at hw
        refine wp_st (pc' := 52) (L' := [some (.int a0), some (.int a1), some (.int a2)]) (st' := []) (h' := Hp S) 1 (fun Z => if_neg hc) ?_
        refine wp_st (pc' := 57) (L' := [some (.int a0), some (.int a1), some (.int a2)]) (st' := [.int 1]) (h' := Hp S) 2 (fun Z => rfl) ?_
        exact wp_ret (fun Z => rfl) ⟨_, _, rfl, rfl, hw⟩
  rw [if_neg c4] at hw
  by_cases c5 : a0 = 5
  · rw [if_pos c5] at hw
    refine wp_st (pc' := 58) (L' := [some (.int a0), some (.int a1), some (.int a2)]) (st' := []) (h' := Hp S) 1 (fun Z => (show zsw (.tableswitch 105 4 10 #[43, 57, 71, 82, 93, 97, 101]) 1 (.int a0 :: []) (fun t st1 => Z d m_m_works t [some (.int a0), some (.int a1), some (.int a2)] st1 (Hp S)) = _ from zsw_at (c := 5) (by rw [c5]; decide) (by decide) rfl rfl)) ?_
    refine wp_st (pc' := 59) (L' := [some (.int a0), some (.int a1), some (.int a2)]) (st' := [.int a1]) (h' := Hp S) 1 (fun Z => rfl) ?_
    by_cases hc : a1 = 0
    · rw [if_pos hc] at hw
      refine wp_st (pc' := 62) (L' := [some (.int a0), some (.int a1), some (.int a2)]) (st' := []) (h' := Hp S) 1 (fun Z => if_pos hc) ?_
      refine wp_st (pc' := 63) (L' := [some (.int a0), some (.int a1), some (.int a2)]) (st' := [.int a2]) (h' := Hp S) 1 (fun Z => rfl) ?_
      by_cases hc : a2 = 0
      · rw [if_pos hc] at hw
        refine wp_st (pc' := 70) (L' := [some (.int a0), some (.int a1), some (.int a2)]) (st' := []) (h' := Hp S) 1 (fun Z => if_pos hc) ?_
        refine wp_st (pc' := 71) (L' := [some (.int a0), some (.int a1), some (.int a2)]) (st' := [.int 0]) (h' := Hp S) 1 (fun Z => rfl) ?_
        exact wp_ret (fun Z => rfl) ⟨_, _, rfl, rfl, hw⟩
      · rw [if_neg hc] at hw
        refine wp_st (pc' := 66) (L' := [some (.int a0), some (.int a1), some (.int a2)]) (st' := []) (h' := Hp S) 1 (fun Z => if_neg hc) ?_
        refine wp_st (pc' := 71) (L' := [some (.int a0), some (.int a1), some (.int a2)]) (st' := [.int 1]) (h' := Hp S) 2 (fun Z => rfl) ?_
        exact wp_ret (fun Z => rfl) ⟨_, _, rfl, rfl, hw⟩
    · rw [if_neg hc] at hw
      refine wp_st (pc' := 66) (L' := [some (.int a0), some (.int a1), some (.int a2)]) (st' := []) (h' := Hp S) 1 (fun Z => if_neg hc) ?_
      refine wp_st (pc' := 71) (L' := [some (.int a0), some (.int a1), some (.int a2)]) (st' := [.int 1]) (h' := Hp S) 2 (fun Z => rfl) ?_
      exact wp_ret (fun Z => rfl) ⟨_, _, rfl, rfl, hw⟩
  rw [if_neg c5] at hw
  by_cases c6 : a0 = 6
  · rw [if_pos c6] at hw
    refine wp_st (pc' := 72) (L' := [some (.int a0), some (.int a1), some (.int a2)]) (st' := []) (h' := Hp S) 1 (fun Z => (show zsw (.tableswitch 105 4 10 #[43, 57, 71, 82, 93, 97, 101]) 1 (.int a0 :: []) (fun t st1 => Z d m_m_works t [some (.int a0), some (.int a1), some (.int a2)] st1 (Hp S)) = _ from zsw_at (c := 6) (by rw [c6]; decide) (by decide) rfl rfl)) ?_
    refine wp_st (pc' := 74) (L' := [some (.int a0), some (.int a1), some (.int a2)]) (st' := [.int a2, .int a1]) (h' := Hp S) 2 (fun Z => rfl) ?_
    by_cases hc : a2 ≤ a1
    · rw [if_pos hc] at hw
      refine wp_st (pc' := 81) (L' := [some (.int a0), some (.int a1), some (.int a2)]) (st' := []) (h' := Hp S) 1 (fun Z => if_pos hc) ?_
      refine wp_st (pc' := 82) (L' := [some (.int a0), some (.int a1), some (.int a2)]) (st' := [.int 0]) (h' := Hp S) 1 (fun Z => rfl) ?_
      exact wp_ret (fun Z => rfl) ⟨_, _, rfl, rfl, hw⟩
    · rw [if_neg hc] at hw
      refine wp_st (pc' := 77) (L' := [some (.int a0), some (.int a1), some (.int a2)]) (st' := []) (h' := Hp S) 1 (fun Z => if_neg hc) ?_
      refine wp_st (pc' := 82) (L' := [some (.int a0), some (.int a1), some (.int a2)]) (st' := [.int 1]) (h' := Hp S) 2 (fun Z => rfl) ?_
      exact wp_ret (fun Z => rfl) ⟨_, _, rfl, rfl, hw⟩
  rw [if_neg c6] at hw
  by_cases c7 : a0 = 7
  · rw [if_pos c7] at hw
    refine wp_st (pc' := 83) (L' := [some (.int a0), some (.int a1), some (.int a2)]) (st' := []) (h' := Hp S) 1 (fun Z => (show zsw (.tableswitch 105 4 10 #[43, 57, 71, 82, 93, 97, 101]) 1 (.int a0 :: []) (fun t st1 => Z d m_m_works t [some (.int a0), some (.int a1), some (.int a2)] st1 (Hp S)) = _ from zsw_at (c := 7) (by rw [c7]; decide) (by decide) rfl rfl)) ?_
    refine wp_st (pc' := 85) (L' := [some (.int a0), some (.int a1), some (.int a2)]) (st' := [.int a2, .int a1]) (h' := Hp S) 2 (fun Z => rfl) ?_
    by_cases hc : a1 = a2
    · rw [if_pos hc] at hw
      refine wp_st (pc' := 88) (L' := [some (.int a0), some (.int a1), some (.int a2)]) (st' := []) (h' := Hp S) 1 (fun Z => if_pos hc) ?_
      refine wp_st (pc' := 93) (L' := [some (.int a0), some (.int a1), some (.int a2)]) (st' := [.int 1]) (h' := Hp S) 2 (fun Z => rfl) ?_
      exact wp_ret (fun Z => rfl) ⟨_, _, rfl, rfl, hw⟩
    · rw [if_neg hc] at hw
      refine wp_st (pc' := 92) (L' := [some (.int a0), some (.int a1), some (.int a2)]) (st' := []) (h' := Hp S) 1 (fun Z => if_neg hc) ?_
      refine wp_st (pc' := 93) (L' := [some (.int a0), some (.int a1), some (.int a2)]) (st' := [.int 0]) (h' := Hp S) 1 (fun Z => rfl) ?_
      exact wp_ret (fun Z => rfl) ⟨_, _, rfl, rfl, hw⟩
  rw [if_neg c7] at hw
  by_cases c8 : a0 = 8
  · rw [if_pos c8] at hw
    refine wp_st (pc' := 94) (L' := [some (.int a0), some (.int a1), some (.int a2)]) (st' := []) (h' := Hp S) 1 (fun Z => (show zsw (.tableswitch 105 4 10 #[43, 57, 71, 82, 93, 97, 101]) 1 (.int a0 :: []) (fun t st1 => Z d m_m_works t [some (.int a0), some (.int a1), some (.int a2)] st1 (Hp S)) = _ from zsw_at (c := 8) (by rw [c8]; decide) (by decide) rfl rfl)) ?_
    refine wp_st (pc' := 97) (L' := [some (.int a0), some (.int a1), some (.int a2)]) (st' := [.int (a1 + a2)]) (h' := Hp S) 3 (fun Z => rfl) ?_
    exact wp_ret (fun Z => rfl) ⟨_, _, rfl, rfl, hw⟩
  rw [if_neg c8] at hw
  by_cases c9 : a0 = 9
  · rw [if_pos c9] at hw
    refine wp_st (pc' := 98) (L' := [some (.int a0), some (.int a1), some (.int a2)]) (st' := []) (h' := Hp S) 1 (fun Z => (show zsw (.tableswitch 105 4 10 #[43, 57, 71, 82, 93, 97, 101]) 1 (.int a0 :: []) (fun t st1 => Z d m_m_works t [some (.int a0), some (.int a1), some (.int a2)] st1 (Hp S)) = _ from zsw_at (c := 9) (by rw [c9]; decide) (by decide) rfl rfl)) ?_
    refine wp_st (pc' := 101) (L' := [some (.int a0), some (.int a1), some (.int a2)]) (st' := [.int (a1 - a2)]) (h' := Hp S) 3 (fun Z => rfl) ?_
    exact wp_ret (fun Z => rfl) ⟨_, _, rfl, rfl, hw⟩
  rw [if_neg c9] at hw
  by_cases c10 : a0 = 10
  · rw [if_pos c10] at hw
    refine wp_st (pc' := 102) (L' := [some (.int a0), some (.int a1), some (.int a2)]) (st' := []) (h' := Hp S) 1 (fun Z => (show zsw (.tableswitch 105 4 10 #[43, 57, 71, 82, 93, 97, 101]) 1 (.int a0 :: []) (fun t st1 => Z d m_m_works t [some (.int a0), some (.int a1), some (.int a2)] st1 (Hp S)) = _ from zsw_at (c := 10) (by rw [c10]; decide) (by decide) rfl rfl)) ?_
    refine wp_st (pc' := 105) (L' := [some (.int a0), some (.int a1), some (.int a2)]) (st' := [.int (a1 * a2)]) (h' := Hp S) 3 (fun Z => rfl) ?_
    exact wp_ret (fun Z => rfl) ⟨_, _, rfl, rfl, hw⟩
  rw [if_neg c10] at hw
  have hs : (a0).toInt < (4 : Int) ∨ (10 : Int) < (a0).toInt := by
    refine zoutG (n := 7) (by decide) (by decide) (by decide) ?_
    intro k hk
    rcases k with _ | _ | _ | _ | _ | _ | _ | k
    · exact c4
    · exact c5
    · exact c6
    · exact c7
    · exact c8
    · exact c9
    · exact c10
    · omega
  refine wp_st (pc' := 106) (L' := [some (.int a0), some (.int a1), some (.int a2)]) (st' := []) (h' := Hp S) 1 (fun Z => (show zsw (.tableswitch 105 4 10 #[43, 57, 71, 82, 93, 97, 101]) 1 (.int a0 :: []) (fun t st1 => Z d m_m_works t [some (.int a0), some (.int a1), some (.int a2)] st1 (Hp S)) = _ from zsw_out hs rfl)) ?_
  refine wp_st (pc' := 107) (L' := [some (.int a0), some (.int a1), some (.int a2)]) (st' := [.int a2]) (h' := Hp S) 1 (fun Z => rfl) ?_
  by_cases hc : a2 = 0
  · rw [if_pos hc] at hw
    refine wp_st (pc' := 110) (L' := [some (.int a0), some (.int a1), some (.int a2)]) (st' := []) (h' := Hp S) 1 (fun Z => if_pos hc) ?_
    refine wp_st (pc' := 117) (L' := [some (.int a0), some (.int a1), some (.int a2)]) (st' := [.int 0]) (h' := Hp S) 2 (fun Z => rfl) ?_
    exact wp_ret (fun Z => rfl) ⟨_, _, rfl, rfl, hw⟩
  · rw [if_neg hc] at hw
    refine wp_st (pc' := 114) (L' := [some (.int a0), some (.int a1), some (.int a2)]) (st' := []) (h' := Hp S) 1 (fun Z => if_neg hc) ?_
    refine wp_st (pc' := 116) (L' := [some (.int a0), some (.int a1), some (.int a2)]) (st' := [.int a2, .int a1]) (h' := Hp S) 2 (fun Z => rfl) ?_
    obtain ⟨hz, hw⟩ := hw
    refine wp_st (pc' := 117) (L' := [some (.int a0), some (.int a1), some (.int a2)]) (st' := [.int (a1 / a2)]) (h' := Hp S) 1 (fun Z => if_neg hz) ?_
    exact wp_ret (fun Z => rfl) ⟨_, _, rfl, rfl, hw⟩
set_option maxRecDepth 4000 in
theorem w_m_lesser {E : zX} {d : Nat} {S : St} {a0 : Int32} {a1 : Int32} {Q : Int32 → St → Prop} 
    (hw : if a1 ≤ a0 then (
      Q a1 S)
    else (
      Q a0 S)) :
    k_m_lesser E d S a0 a1 Q := by
  show wp E d m_m_lesser 0 [some (.int a0), some (.int a1)] [] (Hp S) (QI Q)
  refine wp_st (pc' := 2) (L' := [some (.int a0), some (.int a1)]) (st' := [.int a1, .int a0]) (h' := Hp S) 2 (fun Z => rfl) ?_
  by_cases hc : a1 ≤ a0
  · rw [if_pos hc] at hw
    refine wp_st (pc' := 9) (L' := [some (.int a0), some (.int a1)]) (st' := []) (h' := Hp S) 1 (fun Z => if_pos hc) ?_
    refine wp_st (pc' := 10) (L' := [some (.int a0), some (.int a1)]) (st' := [.int a1]) (h' := Hp S) 1 (fun Z => rfl) ?_
    exact wp_ret (fun Z => rfl) ⟨_, _, rfl, rfl, hw⟩
  · rw [if_neg hc] at hw
    refine wp_st (pc' := 5) (L' := [some (.int a0), some (.int a1)]) (st' := []) (h' := Hp S) 1 (fun Z => if_neg hc) ?_
    refine wp_st (pc' := 10) (L' := [some (.int a0), some (.int a1)]) (st' := [.int a0]) (h' := Hp S) 2 (fun Z => rfl) ?_
    exact wp_ret (fun Z => rfl) ⟨_, _, rfl, rfl, hw⟩
set_option maxRecDepth 4000 in
theorem w_m_tread {E : zX} {d : Nat} {S : St} {a1 : Int32} {Q : Int32 → St → Prop} (hd : 1 ≤ d) 
    (hw : ∀ S1, S1 = up S 65 0 0 →
    k_m_isBall E (d - 1) S1 a1 (fun x2 S3 =>
    if x2 = 0 then (
      Q (0 : Int32) S3)
    else (
      k_m_mayTread E (d - 1) S3 0 a1 (fun x4 S5 =>
      if x4 = 0 then (
        k_m_refuses E (d - 1) S5 1 (fun x6 S7 =>
        Q x6 S7))
      else (
        k_m_keeps E (d - 1) S5 (fun S9 =>
        k_m_goOff E (d - 1) S9 0 ((1 : Int32) <<< (a1 &&& 31)) (fun x10 S11 =>
        Q x10 S11))))))) :
    k_m_tread E d S a1 Q := by
  obtain ⟨d, rfl⟩ := Nat.exists_eq_add_of_le' hd
  show wp E (d + 1) m_m_tread 0 [some (.ref 65), some (.int a1)] [] (Hp S) (QI Q)
  refine wp_st (pc' := 2) (L' := [some (.ref 65), some (.int a1)]) (st' := [.int 0, .ref 65]) (h' := Hp S) 2 (fun Z => rfl) ?_
  have hw := hw _ rfl
  refine wp_st (pc' := 5) (L' := [some (.ref 65), some (.int a1)]) (st' := []) (h' := Hp (up S 65 0 0)) 1 (fun Z => pfI sh65 rfl (Nat.le_of_ble_eq_true rfl) rfl _) ?_
  generalize up S 65 0 0 = S1 at hw ⊢
  refine wp_st (pc' := 7) (L' := [some (.ref 65), some (.int a1)]) (st' := [.int a1, .ref 65]) (h' := Hp S1) 2 (fun Z => rfl) ?_
  refine wp_call (pc' := 10) (rest := []) (fun Z => rfl) (isO_of sh65) hw ?_
  rintro o h1 ⟨x2, S3, rfl, rfl, hw⟩
  refine ⟨_, rfl, ?_⟩
  show wp E (d + 1) m_m_tread 10 [some (.ref 65), some (.int a1)] [.int x2] (Hp S3) (QI Q)
  by_cases hc : x2 = 0
  · rw [if_pos hc] at hw
    refine wp_st (pc' := 13) (L' := [some (.ref 65), some (.int a1)]) (st' := []) (h' := Hp S3) 1 (fun Z => if_pos hc) ?_
    refine wp_st (pc' := 14) (L' := [some (.ref 65), some (.int a1)]) (st' := [.int 0]) (h' := Hp S3) 1 (fun Z => rfl) ?_
    exact wp_ret (fun Z => rfl) ⟨_, _, rfl, rfl, hw⟩
  · rw [if_neg hc] at hw
    refine wp_st (pc' := 15) (L' := [some (.ref 65), some (.int a1)]) (st' := []) (h' := Hp S3) 1 (fun Z => if_neg hc) ?_
    refine wp_st (pc' := 18) (L' := [some (.ref 65), some (.int a1)]) (st' := [.int a1, .int 0, .ref 65]) (h' := Hp S3) 3 (fun Z => rfl) ?_
    refine wp_call (pc' := 21) (rest := []) (fun Z => rfl) (isO_of sh65) hw ?_
    rintro o h1 ⟨x4, S5, rfl, rfl, hw⟩
    refine ⟨_, rfl, ?_⟩
    show wp E (d + 1) m_m_tread 21 [some (.ref 65), some (.int a1)] [.int x4] (Hp S5) (QI Q)
    by_cases hc : x4 = 0
    · rw [if_pos hc] at hw
      refine wp_st (pc' := 24) (L' := [some (.ref 65), some (.int a1)]) (st' := []) (h' := Hp S5) 1 (fun Z => if_pos hc) ?_
      refine wp_st (pc' := 26) (L' := [some (.ref 65), some (.int a1)]) (st' := [.int 1, .ref 65]) (h' := Hp S5) 2 (fun Z => rfl) ?_
      refine wp_call (pc' := 29) (rest := []) (fun Z => rfl) (isO_of sh65) hw ?_
      rintro o h1 ⟨x6, S7, rfl, rfl, hw⟩
      refine ⟨_, rfl, ?_⟩
      show wp E (d + 1) m_m_tread 29 [some (.ref 65), some (.int a1)] [.int x6] (Hp S7) (QI Q)
      exact wp_ret (fun Z => rfl) ⟨_, _, rfl, rfl, hw⟩
    · rw [if_neg hc] at hw
      refine wp_st (pc' := 30) (L' := [some (.ref 65), some (.int a1)]) (st' := []) (h' := Hp S5) 1 (fun Z => if_neg hc) ?_
      refine wp_st (pc' := 31) (L' := [some (.ref 65), some (.int a1)]) (st' := [.ref 65]) (h' := Hp S5) 1 (fun Z => rfl) ?_
      refine wp_call (pc' := 34) (rest := []) (fun Z => rfl) (isO_of sh65) hw ?_
      rintro o h1 ⟨S9, rfl, rfl, hw⟩
      refine ⟨_, rfl, ?_⟩
      show wp E (d + 1) m_m_tread 34 [some (.ref 65), some (.int a1)] [] (Hp S9) (QI Q)
      refine wp_st (pc' := 39) (L' := [some (.ref 65), some (.int a1)]) (st' := [.int ((1 : Int32) <<< (a1 &&& 31)), .int 0, .ref 65]) (h' := Hp S9) 5 (fun Z => rfl) ?_
      refine wp_call (pc' := 42) (rest := []) (fun Z => rfl) (isO_of sh65) hw ?_
      rintro o h1 ⟨x10, S11, rfl, rfl, hw⟩
      refine ⟨_, rfl, ?_⟩
      show wp E (d + 1) m_m_tread 42 [some (.ref 65), some (.int a1)] [.int x10] (Hp S11) (QI Q)
      exact wp_ret (fun Z => rfl) ⟨_, _, rfl, rfl, hw⟩
set_option maxRecDepth 4000 in
theorem w_m_mayTread {E : zX} {d : Nat} {S : St} {a1 : Nat} {a2 : Nat} {Q : Int32 → St → Prop} (hd : 1 ≤ d) 
    (hw : k_m_isWhite E (d - 1) S (nI a1) (nI a2) (fun x1 S2 =>
    if x1 = 0 then (
      ((a1 + 69) + a2) < 158 ∧
      if (S2 77 ((a1 + 69) + a2)) = 0 then (
        Q (1 : Int32) S2)
      else (
        Q (0 : Int32) S2))
    else (
      Q (0 : Int32) S2))) :
    k_m_mayTread E d S (nI a1) (nI a2) Q := by
  obtain ⟨d, rfl⟩ := Nat.exists_eq_add_of_le' hd
  show wp E (d + 1) m_m_mayTread 0 [some (.ref 65), some (.int (nI a1)), some (.int (nI a2))] [] (Hp S) (QI Q)
  refine wp_st (pc' := 3) (L' := [some (.ref 65), some (.int (nI a1)), some (.int (nI a2))]) (st' := [.int (nI a2), .int (nI a1), .ref 65]) (h' := Hp S) 3 (fun Z => rfl) ?_
  refine wp_call (pc' := 6) (rest := []) (fun Z => rfl) (isO_of sh65) hw ?_
  rintro o h1 ⟨x1, S2, rfl, rfl, hw⟩
  refine ⟨_, rfl, ?_⟩
  show wp E (d + 1) m_m_mayTread 6 [some (.ref 65), some (.int (nI a1)), some (.int (nI a2))] [.int x1] (Hp S2) (QI Q)
  by_cases hc : x1 = 0
  · rw [if_pos hc] at hw
    refine wp_st (pc' := 9) (L' := [some (.ref 65), some (.int (nI a1)), some (.int (nI a2))]) (st' := []) (h' := Hp S2) 1 (fun Z => if_pos hc) ?_
    refine wp_st (pc' := 10) (L' := [some (.ref 65), some (.int (nI a1)), some (.int (nI a2))]) (st' := [.ref 65]) (h' := Hp S2) 1 (fun Z => rfl) ?_
    refine wp_st (pc' := 13) (L' := [some (.ref 65), some (.int (nI a1)), some (.int (nI a2))]) (st' := [.ref 77]) (h' := Hp S2) 1 (fun Z => gfR (E := E) sh65 rfl _) ?_
    refine wp_st (pc' := 16) (L' := [some (.ref 65), some (.int (nI a1)), some (.int (nI a2))]) (st' := [.int 69, .int (nI a1), .ref 77]) (h' := Hp S2) 2 (fun Z => rfl) ?_
    refine wp_st (pc' := 17) (L' := [some (.ref 65), some (.int (nI a1)), some (.int (nI a2))]) (st' := [.int (nI (a1 + 69)), .ref 77]) (h' := Hp S2) 1 (fun Z => by rw [← nI_add a1 69]; rfl) ?_
    refine wp_st (pc' := 18) (L' := [some (.ref 65), some (.int (nI a1)), some (.int (nI a2))]) (st' := [.int (nI a2), .int (nI (a1 + 69)), .ref 77]) (h' := Hp S2) 1 (fun Z => rfl) ?_
    refine wp_st (pc' := 19) (L' := [some (.ref 65), some (.int (nI a1)), some (.int (nI a2))]) (st' := [.int (nI ((a1 + 69) + a2)), .ref 77]) (h' := Hp S2) 1 (fun Z => by rw [← nI_add (a1 + 69) a2]; rfl) ?_
    obtain ⟨hi, hw⟩ := hw
    refine wp_st (pc' := 20) (L' := [some (.ref 65), some (.int (nI a1)), some (.int (nI a2))]) (st' := [.int (S2 77 ((a1 + 69) + a2))]) (h' := Hp S2) 1 (fun Z => ldN (E := E) sh77 (by decide) hi [] (fun st => Z (d + 1) m_m_mayTread 20 [some (.ref 65), some (.int (nI a1)), some (.int (nI a2))] st (Hp S2))) ?_
    by_cases hc : (S2 77 ((a1 + 69) + a2)) = 0
    · rw [if_pos hc] at hw
      refine wp_st (pc' := 23) (L' := [some (.ref 65), some (.int (nI a1)), some (.int (nI a2))]) (st' := []) (h' := Hp S2) 1 (fun Z => if_pos hc) ?_
      refine wp_st (pc' := 28) (L' := [some (.ref 65), some (.int (nI a1)), some (.int (nI a2))]) (st' := [.int 1]) (h' := Hp S2) 2 (fun Z => rfl) ?_
      exact wp_ret (fun Z => rfl) ⟨_, _, rfl, rfl, hw⟩
    · rw [if_neg hc] at hw
      refine wp_st (pc' := 27) (L' := [some (.ref 65), some (.int (nI a1)), some (.int (nI a2))]) (st' := []) (h' := Hp S2) 1 (fun Z => if_neg hc) ?_
      refine wp_st (pc' := 28) (L' := [some (.ref 65), some (.int (nI a1)), some (.int (nI a2))]) (st' := [.int 0]) (h' := Hp S2) 1 (fun Z => rfl) ?_
      exact wp_ret (fun Z => rfl) ⟨_, _, rfl, rfl, hw⟩
  · rw [if_neg hc] at hw
    refine wp_st (pc' := 27) (L' := [some (.ref 65), some (.int (nI a1)), some (.int (nI a2))]) (st' := []) (h' := Hp S2) 1 (fun Z => if_neg hc) ?_
    refine wp_st (pc' := 28) (L' := [some (.ref 65), some (.int (nI a1)), some (.int (nI a2))]) (st' := [.int 0]) (h' := Hp S2) 1 (fun Z => rfl) ?_
    exact wp_ret (fun Z => rfl) ⟨_, _, rfl, rfl, hw⟩
set_option maxRecDepth 4000 in
theorem w_m_soothe {E : zX} {d : Nat} {S : St} {a1 : Int32} {a2 : Int32} {Q : Int32 → St → Prop} (hd : 1 ≤ d) 
    (hw : ∀ S1, S1 = up S 65 0 0 →
    k_m_isPerson E (d - 1) S1 a1 (fun x2 S3 =>
    if x2 = 0 then (
      Q (0 : Int32) S3)
    else (
      ∃ m4 : Nat, ((1 : Int32) + a1) = nI m4 ∧ m4 < 158 ∧
      k_m_within E (d - 1) S3 a2 0 99 (fun x5 S6 =>
      if x5 = 0 then (
        k_m_refuses E (d - 1) S6 1 (fun x7 S8 =>
        Q x7 S8))
      else (
        k_m_keeps E (d - 1) S6 (fun S10 =>
        ∃ m12 : Nat, ((1 : Int32) + a1) = nI m12 ∧ m12 < 158 ∧
        ∀ S11, S11 = up S10 77 m12 a2 →
        Q (S3 77 m4) S11)))))) :
    k_m_soothe E d S a1 a2 Q := by
  obtain ⟨d, rfl⟩ := Nat.exists_eq_add_of_le' hd
  show wp E (d + 1) m_m_soothe 0 [some (.ref 65), some (.int a1), some (.int a2), none] [] (Hp S) (QI Q)
  refine wp_st (pc' := 2) (L' := [some (.ref 65), some (.int a1), some (.int a2), none]) (st' := [.int 0, .ref 65]) (h' := Hp S) 2 (fun Z => rfl) ?_
  have hw := hw _ rfl
  refine wp_st (pc' := 5) (L' := [some (.ref 65), some (.int a1), some (.int a2), none]) (st' := []) (h' := Hp (up S 65 0 0)) 1 (fun Z => pfI sh65 rfl (Nat.le_of_ble_eq_true rfl) rfl _) ?_
  generalize up S 65 0 0 = S1 at hw ⊢
  refine wp_st (pc' := 7) (L' := [some (.ref 65), some (.int a1), some (.int a2), none]) (st' := [.int a1, .ref 65]) (h' := Hp S1) 2 (fun Z => rfl) ?_
  refine wp_call (pc' := 10) (rest := []) (fun Z => rfl) (isO_of sh65) hw ?_
  rintro o h1 ⟨x2, S3, rfl, rfl, hw⟩
  refine ⟨_, rfl, ?_⟩
  show wp E (d + 1) m_m_soothe 10 [some (.ref 65), some (.int a1), some (.int a2), none] [.int x2] (Hp S3) (QI Q)
  by_cases hc : x2 = 0
  · rw [if_pos hc] at hw
    refine wp_st (pc' := 13) (L' := [some (.ref 65), some (.int a1), some (.int a2), none]) (st' := []) (h' := Hp S3) 1 (fun Z => if_pos hc) ?_
    refine wp_st (pc' := 14) (L' := [some (.ref 65), some (.int a1), some (.int a2), none]) (st' := [.int 0]) (h' := Hp S3) 1 (fun Z => rfl) ?_
    exact wp_ret (fun Z => rfl) ⟨_, _, rfl, rfl, hw⟩
  · rw [if_neg hc] at hw
    refine wp_st (pc' := 15) (L' := [some (.ref 65), some (.int a1), some (.int a2), none]) (st' := []) (h' := Hp S3) 1 (fun Z => if_neg hc) ?_
    refine wp_st (pc' := 16) (L' := [some (.ref 65), some (.int a1), some (.int a2), none]) (st' := [.ref 65]) (h' := Hp S3) 1 (fun Z => rfl) ?_
    refine wp_st (pc' := 19) (L' := [some (.ref 65), some (.int a1), some (.int a2), none]) (st' := [.ref 77]) (h' := Hp S3) 1 (fun Z => gfR (E := E) sh65 rfl _) ?_
    refine wp_st (pc' := 22) (L' := [some (.ref 65), some (.int a1), some (.int a2), none]) (st' := [.int ((1 : Int32) + a1), .ref 77]) (h' := Hp S3) 3 (fun Z => rfl) ?_
    obtain ⟨m4, em, hi, hw⟩ := hw
    refine wp_st (pc' := 23) (L' := [some (.ref 65), some (.int a1), some (.int a2), none]) (st' := [.int (S3 77 m4)]) (h' := Hp S3) 1 (fun Z => (congrArg (fun v => zit E 1 Z (d + 1) m_m_soothe 22 [some (.ref 65), some (.int a1), some (.int a2), none] [.int v, .ref 77] (Hp S3)) em).trans (ldN (E := E) sh77 (by decide) hi [] (fun st => Z (d + 1) m_m_soothe 23 [some (.ref 65), some (.int a1), some (.int a2), none] st (Hp S3)))) ?_
    refine wp_st (pc' := 28) (L' := [some (.ref 65), some (.int a1), some (.int a2), some (.int (S3 77 m4))]) (st' := [.int 99, .int 0, .int a2]) (h' := Hp S3) 4 (fun Z => rfl) ?_
    refine wp_call (pc' := 31) (rest := []) (fun Z => rfl) rfl hw ?_
    rintro o h1 ⟨x5, S6, rfl, rfl, hw⟩
    refine ⟨_, rfl, ?_⟩
    show wp E (d + 1) m_m_soothe 31 [some (.ref 65), some (.int a1), some (.int a2), some (.int (S3 77 m4))] [.int x5] (Hp S6) (QI Q)
    by_cases hc : x5 = 0
    · rw [if_pos hc] at hw
      refine wp_st (pc' := 34) (L' := [some (.ref 65), some (.int a1), some (.int a2), some (.int (S3 77 m4))]) (st' := []) (h' := Hp S6) 1 (fun Z => if_pos hc) ?_
      refine wp_st (pc' := 36) (L' := [some (.ref 65), some (.int a1), some (.int a2), some (.int (S3 77 m4))]) (st' := [.int 1, .ref 65]) (h' := Hp S6) 2 (fun Z => rfl) ?_
      refine wp_call (pc' := 39) (rest := []) (fun Z => rfl) (isO_of sh65) hw ?_
      rintro o h1 ⟨x7, S8, rfl, rfl, hw⟩
      refine ⟨_, rfl, ?_⟩
      show wp E (d + 1) m_m_soothe 39 [some (.ref 65), some (.int a1), some (.int a2), some (.int (S3 77 m4))] [.int x7] (Hp S8) (QI Q)
      exact wp_ret (fun Z => rfl) ⟨_, _, rfl, rfl, hw⟩
    · rw [if_neg hc] at hw
      refine wp_st (pc' := 40) (L' := [some (.ref 65), some (.int a1), some (.int a2), some (.int (S3 77 m4))]) (st' := []) (h' := Hp S6) 1 (fun Z => if_neg hc) ?_
      refine wp_st (pc' := 41) (L' := [some (.ref 65), some (.int a1), some (.int a2), some (.int (S3 77 m4))]) (st' := [.ref 65]) (h' := Hp S6) 1 (fun Z => rfl) ?_
      refine wp_call (pc' := 44) (rest := []) (fun Z => rfl) (isO_of sh65) hw ?_
      rintro o h1 ⟨S10, rfl, rfl, hw⟩
      refine ⟨_, rfl, ?_⟩
      show wp E (d + 1) m_m_soothe 44 [some (.ref 65), some (.int a1), some (.int a2), some (.int (S3 77 m4))] [] (Hp S10) (QI Q)
      refine wp_st (pc' := 45) (L' := [some (.ref 65), some (.int a1), some (.int a2), some (.int (S3 77 m4))]) (st' := [.ref 65]) (h' := Hp S10) 1 (fun Z => rfl) ?_
      refine wp_st (pc' := 48) (L' := [some (.ref 65), some (.int a1), some (.int a2), some (.int (S3 77 m4))]) (st' := [.ref 77]) (h' := Hp S10) 1 (fun Z => gfR (E := E) sh65 rfl _) ?_
      refine wp_st (pc' := 52) (L' := [some (.ref 65), some (.int a1), some (.int a2), some (.int (S3 77 m4))]) (st' := [.int a2, .int ((1 : Int32) + a1), .ref 77]) (h' := Hp S10) 4 (fun Z => rfl) ?_
      obtain ⟨m12, em, hi, hw⟩ := hw
      have hw := hw _ rfl
      refine wp_st (pc' := 53) (L' := [some (.ref 65), some (.int a1), some (.int a2), some (.int (S3 77 m4))]) (st' := []) (h' := Hp (up S10 77 m12 a2)) 1 (fun Z => (congrArg (fun v => zit E 1 Z (d + 1) m_m_soothe 52 [some (.ref 65), some (.int a1), some (.int a2), some (.int (S3 77 m4))] [.int a2, .int v, .ref 77] (Hp S10)) em).trans (stN sh77 (by decide) hi _ _)) ?_
      generalize up S10 77 m12 a2 = S11 at hw ⊢
      refine wp_st (pc' := 54) (L' := [some (.ref 65), some (.int a1), some (.int a2), some (.int (S3 77 m4))]) (st' := [.int (S3 77 m4)]) (h' := Hp S11) 1 (fun Z => rfl) ?_
      exact wp_ret (fun Z => rfl) ⟨_, _, rfl, rfl, hw⟩
set_option maxRecDepth 4000 in
theorem w_m_then {E : zX} {d : Nat} {S : St} {a1 : Int32} {a2 : Int32} {a3 : Int32} {Q : Int32 → St → Prop} (hd : 1 ≤ d) 
    (hw : ∀ S1, S1 = up S 65 0 0 →
    k_m_isBall E (d - 1) S1 a1 (fun x2 S3 =>
    if x2 = 0 then (
      Q (0 : Int32) S3)
    else (
      k_m_isWhat E (d - 1) S3 a3 2 (fun x4 S5 =>
      if x4 = 0 then (
        Q (0 : Int32) S5)
      else (
        k_m_isSoon E (d - 1) S5 a2 0 2 (fun x6 S7 =>
        if x6 = 0 then (
          Q (0 : Int32) S7)
        else (
          k_m_goesTo E (d - 1) S7 a2 (fun S9 =>
          if a3 = 0 then (
            ∃ m10 : Nat, ((118 : Int32) + a1) = nI m10 ∧ m10 < 158 ∧
            Q (S9 77 m10) S9)
          else (
            if a3 = 1 then (
              ∃ m11 : Nat, ((128 : Int32) + a1) = nI m11 ∧ m11 < 158 ∧
              Q (S9 77 m11) S9)
            else (
              ∃ m12 : Nat, ((138 : Int32) + a1) = nI m12 ∧ m12 < 158 ∧
              Q (S9 77 m12) S9)))))))))) :
    k_m_then E d S a1 a2 a3 Q := by
  obtain ⟨d, rfl⟩ := Nat.exists_eq_add_of_le' hd
  show wp E (d + 1) m_m_then 0 [some (.ref 65), some (.int a1), some (.int a2), some (.int a3)] [] (Hp S) (QI Q)
  refine wp_st (pc' := 2) (L' := [some (.ref 65), some (.int a1), some (.int a2), some (.int a3)]) (st' := [.int 0, .ref 65]) (h' := Hp S) 2 (fun Z => rfl) ?_
  have hw := hw _ rfl
  refine wp_st (pc' := 5) (L' := [some (.ref 65), some (.int a1), some (.int a2), some (.int a3)]) (st' := []) (h' := Hp (up S 65 0 0)) 1 (fun Z => pfI sh65 rfl (Nat.le_of_ble_eq_true rfl) rfl _) ?_
  generalize up S 65 0 0 = S1 at hw ⊢
  refine wp_st (pc' := 7) (L' := [some (.ref 65), some (.int a1), some (.int a2), some (.int a3)]) (st' := [.int a1, .ref 65]) (h' := Hp S1) 2 (fun Z => rfl) ?_
  refine wp_call (pc' := 10) (rest := []) (fun Z => rfl) (isO_of sh65) hw ?_
  rintro o h1 ⟨x2, S3, rfl, rfl, hw⟩
  refine ⟨_, rfl, ?_⟩
  show wp E (d + 1) m_m_then 10 [some (.ref 65), some (.int a1), some (.int a2), some (.int a3)] [.int x2] (Hp S3) (QI Q)
  by_cases hc : x2 = 0
  · rw [if_pos hc] at hw
    refine wp_st (pc' := 32) (L' := [some (.ref 65), some (.int a1), some (.int a2), some (.int a3)]) (st' := []) (h' := Hp S3) 1 (fun Z => if_pos hc) ?_
    refine wp_st (pc' := 33) (L' := [some (.ref 65), some (.int a1), some (.int a2), some (.int a3)]) (st' := [.int 0]) (h' := Hp S3) 1 (fun Z => rfl) ?_
    exact wp_ret (fun Z => rfl) ⟨_, _, rfl, rfl, hw⟩
  · rw [if_neg hc] at hw
    refine wp_st (pc' := 13) (L' := [some (.ref 65), some (.int a1), some (.int a2), some (.int a3)]) (st' := []) (h' := Hp S3) 1 (fun Z => if_neg hc) ?_
    refine wp_st (pc' := 16) (L' := [some (.ref 65), some (.int a1), some (.int a2), some (.int a3)]) (st' := [.int 2, .int a3, .ref 65]) (h' := Hp S3) 3 (fun Z => rfl) ?_
    refine wp_call (pc' := 19) (rest := []) (fun Z => rfl) (isO_of sh65) hw ?_
    rintro o h1 ⟨x4, S5, rfl, rfl, hw⟩
    refine ⟨_, rfl, ?_⟩
    show wp E (d + 1) m_m_then 19 [some (.ref 65), some (.int a1), some (.int a2), some (.int a3)] [.int x4] (Hp S5) (QI Q)
    by_cases hc : x4 = 0
    · rw [if_pos hc] at hw
      refine wp_st (pc' := 32) (L' := [some (.ref 65), some (.int a1), some (.int a2), some (.int a3)]) (st' := []) (h' := Hp S5) 1 (fun Z => if_pos hc) ?_
      refine wp_st (pc' := 33) (L' := [some (.ref 65), some (.int a1), some (.int a2), some (.int a3)]) (st' := [.int 0]) (h' := Hp S5) 1 (fun Z => rfl) ?_
      exact wp_ret (fun Z => rfl) ⟨_, _, rfl, rfl, hw⟩
    · rw [if_neg hc] at hw
      refine wp_st (pc' := 22) (L' := [some (.ref 65), some (.int a1), some (.int a2), some (.int a3)]) (st' := []) (h' := Hp S5) 1 (fun Z => if_neg hc) ?_
      refine wp_st (pc' := 26) (L' := [some (.ref 65), some (.int a1), some (.int a2), some (.int a3)]) (st' := [.int 2, .int 0, .int a2, .ref 65]) (h' := Hp S5) 4 (fun Z => rfl) ?_
      refine wp_call (pc' := 29) (rest := []) (fun Z => rfl) (isO_of sh65) hw ?_
      rintro o h1 ⟨x6, S7, rfl, rfl, hw⟩
      refine ⟨_, rfl, ?_⟩
      show wp E (d + 1) m_m_then 29 [some (.ref 65), some (.int a1), some (.int a2), some (.int a3)] [.int x6] (Hp S7) (QI Q)
      by_cases hc : x6 = 0
      · rw [if_pos hc] at hw
        refine wp_st (pc' := 32) (L' := [some (.ref 65), some (.int a1), some (.int a2), some (.int a3)]) (st' := []) (h' := Hp S7) 1 (fun Z => if_pos hc) ?_
        refine wp_st (pc' := 33) (L' := [some (.ref 65), some (.int a1), some (.int a2), some (.int a3)]) (st' := [.int 0]) (h' := Hp S7) 1 (fun Z => rfl) ?_
        exact wp_ret (fun Z => rfl) ⟨_, _, rfl, rfl, hw⟩
      · rw [if_neg hc] at hw
        refine wp_st (pc' := 34) (L' := [some (.ref 65), some (.int a1), some (.int a2), some (.int a3)]) (st' := []) (h' := Hp S7) 1 (fun Z => if_neg hc) ?_
        refine wp_st (pc' := 36) (L' := [some (.ref 65), some (.int a1), some (.int a2), some (.int a3)]) (st' := [.int a2, .ref 65]) (h' := Hp S7) 2 (fun Z => rfl) ?_
        refine wp_call (pc' := 39) (rest := []) (fun Z => rfl) (isO_of sh65) hw ?_
        rintro o h1 ⟨S9, rfl, rfl, hw⟩
        refine ⟨_, rfl, ?_⟩
        show wp E (d + 1) m_m_then 39 [some (.ref 65), some (.int a1), some (.int a2), some (.int a3)] [] (Hp S9) (QI Q)
        refine wp_st (pc' := 40) (L' := [some (.ref 65), some (.int a1), some (.int a2), some (.int a3)]) (st' := [.ref 65]) (h' := Hp S9) 1 (fun Z => rfl) ?_
        refine wp_st (pc' := 43) (L' := [some (.ref 65), some (.int a1), some (.int a2), some (.int a3)]) (st' := [.ref 77]) (h' := Hp S9) 1 (fun Z => gfR (E := E) sh65 rfl _) ?_
        refine wp_st (pc' := 46) (L' := [some (.ref 65), some (.int a1), some (.int a2), some (.int a3)]) (st' := [.int a3, .int 79, .ref 77]) (h' := Hp S9) 2 (fun Z => rfl) ?_
        by_cases hc : a3 = 0
        · rw [if_pos hc] at hw
          refine wp_st (pc' := 49) (L' := [some (.ref 65), some (.int a1), some (.int a2), some (.int a3)]) (st' := [.int 79, .ref 77]) (h' := Hp S9) 1 (fun Z => if_pos hc) ?_
          refine wp_st (pc' := 69) (L' := [some (.ref 65), some (.int a1), some (.int a2), some (.int a3)]) (st' := [.int ((118 : Int32) + a1), .ref 77]) (h' := Hp S9) 5 (fun Z => rfl) ?_
          obtain ⟨m10, em, hi, hw⟩ := hw
          refine wp_st (pc' := 70) (L' := [some (.ref 65), some (.int a1), some (.int a2), some (.int a3)]) (st' := [.int (S9 77 m10)]) (h' := Hp S9) 1 (fun Z => (congrArg (fun v => zit E 1 Z (d + 1) m_m_then 69 [some (.ref 65), some (.int a1), some (.int a2), some (.int a3)] [.int v, .ref 77] (Hp S9)) em).trans (ldN (E := E) sh77 (by decide) hi [] (fun st => Z (d + 1) m_m_then 70 [some (.ref 65), some (.int a1), some (.int a2), some (.int a3)] st (Hp S9)))) ?_
          exact wp_ret (fun Z => rfl) ⟨_, _, rfl, rfl, hw⟩
        · rw [if_neg hc] at hw
          refine wp_st (pc' := 54) (L' := [some (.ref 65), some (.int a1), some (.int a2), some (.int a3)]) (st' := [.int 79, .ref 77]) (h' := Hp S9) 1 (fun Z => if_neg hc) ?_
          refine wp_st (pc' := 56) (L' := [some (.ref 65), some (.int a1), some (.int a2), some (.int a3)]) (st' := [.int 1, .int a3, .int 79, .ref 77]) (h' := Hp S9) 2 (fun Z => rfl) ?_
          by_cases hc : a3 = 1
          · rw [if_pos hc] at hw
            refine wp_st (pc' := 59) (L' := [some (.ref 65), some (.int a1), some (.int a2), some (.int a3)]) (st' := [.int 79, .ref 77]) (h' := Hp S9) 1 (fun Z => if_pos hc) ?_
            refine wp_st (pc' := 69) (L' := [some (.ref 65), some (.int a1), some (.int a2), some (.int a3)]) (st' := [.int ((128 : Int32) + a1), .ref 77]) (h' := Hp S9) 5 (fun Z => rfl) ?_
            obtain ⟨m11, em, hi, hw⟩ := hw
            refine wp_st (pc' := 70) (L' := [some (.ref 65), some (.int a1), some (.int a2), some (.int a3)]) (st' := [.int (S9 77 m11)]) (h' := Hp S9) 1 (fun Z => (congrArg (fun v => zit E 1 Z (d + 1) m_m_then 69 [some (.ref 65), some (.int a1), some (.int a2), some (.int a3)] [.int v, .ref 77] (Hp S9)) em).trans (ldN (E := E) sh77 (by decide) hi [] (fun st => Z (d + 1) m_m_then 70 [some (.ref 65), some (.int a1), some (.int a2), some (.int a3)] st (Hp S9)))) ?_
            exact wp_ret (fun Z => rfl) ⟨_, _, rfl, rfl, hw⟩
          · rw [if_neg hc] at hw
            refine wp_st (pc' := 64) (L' := [some (.ref 65), some (.int a1), some (.int a2), some (.int a3)]) (st' := [.int 79, .ref 77]) (h' := Hp S9) 1 (fun Z => if_neg hc) ?_
            refine wp_st (pc' := 69) (L' := [some (.ref 65), some (.int a1), some (.int a2), some (.int a3)]) (st' := [.int ((138 : Int32) + a1), .ref 77]) (h' := Hp S9) 4 (fun Z => rfl) ?_
            obtain ⟨m12, em, hi, hw⟩ := hw
            refine wp_st (pc' := 70) (L' := [some (.ref 65), some (.int a1), some (.int a2), some (.int a3)]) (st' := [.int (S9 77 m12)]) (h' := Hp S9) 1 (fun Z => (congrArg (fun v => zit E 1 Z (d + 1) m_m_then 69 [some (.ref 65), some (.int a1), some (.int a2), some (.int a3)] [.int v, .ref 77] (Hp S9)) em).trans (ldN (E := E) sh77 (by decide) hi [] (fun st => Z (d + 1) m_m_then 70 [some (.ref 65), some (.int a1), some (.int a2), some (.int a3)] st (Hp S9)))) ?_
            exact wp_ret (fun Z => rfl) ⟨_, _, rfl, rfl, hw⟩
set_option maxRecDepth 4000 in
theorem w_m_tries {E : zX} {d : Nat} {S : St}  {Q : St → Prop} 
    (hw : k_m_tries_2 E d S 0 Q) :
    k_m_tries E d S Q := by
  show wp E d m_m_tries 0 [some (.ref 65), none] [] (Hp S) (QV Q)
  exact wp_st 2 (fun Z => rfl) (show wp E d m_m_tries 2 [some (.ref 65), some (.int 0)] [] (Hp S) (QV Q) from hw)
set_option maxRecDepth 4000 in
theorem w_m_tries_2 {E : zX} {d : Nat} {S : St} {a1 : Nat} {Q : St → Prop} 
    (hw : if nI 79 ≤ (nI a1) then (
      Q S)
    else (
      a1 < 158 ∧
      (79 + a1) < 158 ∧
      ∀ S1, S1 = up S 77 (79 + a1) (S 77 a1) →
      k_m_tries_2 E d S1 (a1 + 1) Q)) :
    k_m_tries_2 E d S a1 Q := by
  show wp E d m_m_tries 2 [some (.ref 65), some (.int (nI a1))] [] (Hp S) (QV Q)
  refine wp_st (pc' := 5) (L' := [some (.ref 65), some (.int (nI a1))]) (st' := [.int 79, .int (nI a1)]) (h' := Hp S) 2 (fun Z => rfl) ?_
  by_cases hc : nI 79 ≤ (nI a1)
  · rw [if_pos hc] at hw
    refine wp_st (pc' := 29) (L' := [some (.ref 65), some (.int (nI a1))]) (st' := []) (h' := Hp S) 1 (fun Z => if_pos hc) ?_
    exact wp_ret (fun Z => rfl) ⟨_, rfl, rfl, hw⟩
  · rw [if_neg hc] at hw
    refine wp_st (pc' := 8) (L' := [some (.ref 65), some (.int (nI a1))]) (st' := []) (h' := Hp S) 1 (fun Z => if_neg hc) ?_
    refine wp_st (pc' := 9) (L' := [some (.ref 65), some (.int (nI a1))]) (st' := [.ref 65]) (h' := Hp S) 1 (fun Z => rfl) ?_
    refine wp_st (pc' := 12) (L' := [some (.ref 65), some (.int (nI a1))]) (st' := [.ref 77]) (h' := Hp S) 1 (fun Z => gfR (E := E) sh65 rfl _) ?_
    refine wp_st (pc' := 15) (L' := [some (.ref 65), some (.int (nI a1))]) (st' := [.int (nI a1), .int 79, .ref 77]) (h' := Hp S) 2 (fun Z => rfl) ?_
    refine wp_st (pc' := 16) (L' := [some (.ref 65), some (.int (nI a1))]) (st' := [.int (nI (79 + a1)), .ref 77]) (h' := Hp S) 1 (fun Z => by rw [← nI_add 79 a1]; rfl) ?_
    refine wp_st (pc' := 17) (L' := [some (.ref 65), some (.int (nI a1))]) (st' := [.ref 65, .int (nI (79 + a1)), .ref 77]) (h' := Hp S) 1 (fun Z => rfl) ?_
    refine wp_st (pc' := 20) (L' := [some (.ref 65), some (.int (nI a1))]) (st' := [.ref 77, .int (nI (79 + a1)), .ref 77]) (h' := Hp S) 1 (fun Z => gfR (E := E) sh65 rfl _) ?_
    refine wp_st (pc' := 21) (L' := [some (.ref 65), some (.int (nI a1))]) (st' := [.int (nI a1), .ref 77, .int (nI (79 + a1)), .ref 77]) (h' := Hp S) 1 (fun Z => rfl) ?_
    obtain ⟨hi, hw⟩ := hw
    refine wp_st (pc' := 22) (L' := [some (.ref 65), some (.int (nI a1))]) (st' := [.int (S 77 a1), .int (nI (79 + a1)), .ref 77]) (h' := Hp S) 1 (fun Z => ldN (E := E) sh77 (by decide) hi [.int (nI (79 + a1)), .ref 77] (fun st => Z d m_m_tries 22 [some (.ref 65), some (.int (nI a1))] st (Hp S))) ?_
    obtain ⟨hi, hw⟩ := hw
    have hw := hw _ rfl
    refine wp_st (pc' := 23) (L' := [some (.ref 65), some (.int (nI a1))]) (st' := []) (h' := Hp (up S 77 (79 + a1) (S 77 a1))) 1 (fun Z => stN sh77 (by decide) hi _ _) ?_
    generalize up S 77 (79 + a1) (S 77 a1) = S1 at hw ⊢
    refine wp_st (pc' := 26) (L' := [some (.ref 65), some (.int (nI (a1 + 1)))]) (st' := []) (h' := Hp S1) 1 (fun Z => by rw [← nI_add a1 1]; rfl) ?_
    exact wp_st 1 (fun Z => rfl) (show wp E d m_m_tries 2 [some (.ref 65), some (.int (nI (a1 + 1)))] [] (Hp S1) (QV Q) from hw)
set_option maxRecDepth 4000 in
theorem w_m_mood {E : zX} {d : Nat} {S : St} {a1 : Int32} {a2 : Int32} {a3 : Int32} {Q : Int32 → St → Prop} (hd : 1 ≤ d) 
    (hw : ∀ S1, S1 = up S 65 0 0 →
    k_m_isPerson E (d - 1) S1 a1 (fun x2 S3 =>
    if x2 = 0 then (
      Q (0 : Int32) S3)
    else (
      k_m_isWhat E (d - 1) S3 a3 2 (fun x4 S5 =>
      if x4 = 0 then (
        Q (0 : Int32) S5)
      else (
        k_m_isSoon E (d - 1) S5 a2 0 2 (fun x6 S7 =>
        if x6 = 0 then (
          Q (0 : Int32) S7)
        else (
          k_m_goesTo E (d - 1) S7 a2 (fun S9 =>
          if a3 = 0 then (
            ∃ m10 : Nat, ((80 : Int32) + a1) = nI m10 ∧ m10 < 158 ∧
            Q (S9 77 m10) S9)
          else (
            if a3 = 1 then (
              ∃ m11 : Nat, ((87 : Int32) + a1) = nI m11 ∧ m11 < 158 ∧
              Q (S9 77 m11) S9)
            else (
              ∃ m12 : Nat, ((94 : Int32) + a1) = nI m12 ∧ m12 < 158 ∧
              Q (S9 77 m12) S9)))))))))) :
    k_m_mood E d S a1 a2 a3 Q := by
  obtain ⟨d, rfl⟩ := Nat.exists_eq_add_of_le' hd
  show wp E (d + 1) m_m_mood 0 [some (.ref 65), some (.int a1), some (.int a2), some (.int a3)] [] (Hp S) (QI Q)
  refine wp_st (pc' := 2) (L' := [some (.ref 65), some (.int a1), some (.int a2), some (.int a3)]) (st' := [.int 0, .ref 65]) (h' := Hp S) 2 (fun Z => rfl) ?_
  have hw := hw _ rfl
  refine wp_st (pc' := 5) (L' := [some (.ref 65), some (.int a1), some (.int a2), some (.int a3)]) (st' := []) (h' := Hp (up S 65 0 0)) 1 (fun Z => pfI sh65 rfl (Nat.le_of_ble_eq_true rfl) rfl _) ?_
  generalize up S 65 0 0 = S1 at hw ⊢
  refine wp_st (pc' := 7) (L' := [some (.ref 65), some (.int a1), some (.int a2), some (.int a3)]) (st' := [.int a1, .ref 65]) (h' := Hp S1) 2 (fun Z => rfl) ?_
  refine wp_call (pc' := 10) (rest := []) (fun Z => rfl) (isO_of sh65) hw ?_
  rintro o h1 ⟨x2, S3, rfl, rfl, hw⟩
  refine ⟨_, rfl, ?_⟩
  show wp E (d + 1) m_m_mood 10 [some (.ref 65), some (.int a1), some (.int a2), some (.int a3)] [.int x2] (Hp S3) (QI Q)
  by_cases hc : x2 = 0
  · rw [if_pos hc] at hw
    refine wp_st (pc' := 32) (L' := [some (.ref 65), some (.int a1), some (.int a2), some (.int a3)]) (st' := []) (h' := Hp S3) 1 (fun Z => if_pos hc) ?_
    refine wp_st (pc' := 33) (L' := [some (.ref 65), some (.int a1), some (.int a2), some (.int a3)]) (st' := [.int 0]) (h' := Hp S3) 1 (fun Z => rfl) ?_
    exact wp_ret (fun Z => rfl) ⟨_, _, rfl, rfl, hw⟩
  · rw [if_neg hc] at hw
    refine wp_st (pc' := 13) (L' := [some (.ref 65), some (.int a1), some (.int a2), some (.int a3)]) (st' := []) (h' := Hp S3) 1 (fun Z => if_neg hc) ?_
    refine wp_st (pc' := 16) (L' := [some (.ref 65), some (.int a1), some (.int a2), some (.int a3)]) (st' := [.int 2, .int a3, .ref 65]) (h' := Hp S3) 3 (fun Z => rfl) ?_
    refine wp_call (pc' := 19) (rest := []) (fun Z => rfl) (isO_of sh65) hw ?_
    rintro o h1 ⟨x4, S5, rfl, rfl, hw⟩
    refine ⟨_, rfl, ?_⟩
    show wp E (d + 1) m_m_mood 19 [some (.ref 65), some (.int a1), some (.int a2), some (.int a3)] [.int x4] (Hp S5) (QI Q)
    by_cases hc : x4 = 0
    · rw [if_pos hc] at hw
      refine wp_st (pc' := 32) (L' := [some (.ref 65), some (.int a1), some (.int a2), some (.int a3)]) (st' := []) (h' := Hp S5) 1 (fun Z => if_pos hc) ?_
      refine wp_st (pc' := 33) (L' := [some (.ref 65), some (.int a1), some (.int a2), some (.int a3)]) (st' := [.int 0]) (h' := Hp S5) 1 (fun Z => rfl) ?_
      exact wp_ret (fun Z => rfl) ⟨_, _, rfl, rfl, hw⟩
    · rw [if_neg hc] at hw
      refine wp_st (pc' := 22) (L' := [some (.ref 65), some (.int a1), some (.int a2), some (.int a3)]) (st' := []) (h' := Hp S5) 1 (fun Z => if_neg hc) ?_
      refine wp_st (pc' := 26) (L' := [some (.ref 65), some (.int a1), some (.int a2), some (.int a3)]) (st' := [.int 2, .int 0, .int a2, .ref 65]) (h' := Hp S5) 4 (fun Z => rfl) ?_
      refine wp_call (pc' := 29) (rest := []) (fun Z => rfl) (isO_of sh65) hw ?_
      rintro o h1 ⟨x6, S7, rfl, rfl, hw⟩
      refine ⟨_, rfl, ?_⟩
      show wp E (d + 1) m_m_mood 29 [some (.ref 65), some (.int a1), some (.int a2), some (.int a3)] [.int x6] (Hp S7) (QI Q)
      by_cases hc : x6 = 0
      · rw [if_pos hc] at hw
        refine wp_st (pc' := 32) (L' := [some (.ref 65), some (.int a1), some (.int a2), some (.int a3)]) (st' := []) (h' := Hp S7) 1 (fun Z => if_pos hc) ?_
        refine wp_st (pc' := 33) (L' := [some (.ref 65), some (.int a1), some (.int a2), some (.int a3)]) (st' := [.int 0]) (h' := Hp S7) 1 (fun Z => rfl) ?_
        exact wp_ret (fun Z => rfl) ⟨_, _, rfl, rfl, hw⟩
      · rw [if_neg hc] at hw
        refine wp_st (pc' := 34) (L' := [some (.ref 65), some (.int a1), some (.int a2), some (.int a3)]) (st' := []) (h' := Hp S7) 1 (fun Z => if_neg hc) ?_
        refine wp_st (pc' := 36) (L' := [some (.ref 65), some (.int a1), some (.int a2), some (.int a3)]) (st' := [.int a2, .ref 65]) (h' := Hp S7) 2 (fun Z => rfl) ?_
        refine wp_call (pc' := 39) (rest := []) (fun Z => rfl) (isO_of sh65) hw ?_
        rintro o h1 ⟨S9, rfl, rfl, hw⟩
        refine ⟨_, rfl, ?_⟩
        show wp E (d + 1) m_m_mood 39 [some (.ref 65), some (.int a1), some (.int a2), some (.int a3)] [] (Hp S9) (QI Q)
        refine wp_st (pc' := 40) (L' := [some (.ref 65), some (.int a1), some (.int a2), some (.int a3)]) (st' := [.ref 65]) (h' := Hp S9) 1 (fun Z => rfl) ?_
        refine wp_st (pc' := 43) (L' := [some (.ref 65), some (.int a1), some (.int a2), some (.int a3)]) (st' := [.ref 77]) (h' := Hp S9) 1 (fun Z => gfR (E := E) sh65 rfl _) ?_
        refine wp_st (pc' := 46) (L' := [some (.ref 65), some (.int a1), some (.int a2), some (.int a3)]) (st' := [.int a3, .int 79, .ref 77]) (h' := Hp S9) 2 (fun Z => rfl) ?_
        by_cases hc : a3 = 0
        · rw [if_pos hc] at hw
          refine wp_st (pc' := 49) (L' := [some (.ref 65), some (.int a1), some (.int a2), some (.int a3)]) (st' := [.int 79, .ref 77]) (h' := Hp S9) 1 (fun Z => if_pos hc) ?_
          refine wp_st (pc' := 68) (L' := [some (.ref 65), some (.int a1), some (.int a2), some (.int a3)]) (st' := [.int ((80 : Int32) + a1), .ref 77]) (h' := Hp S9) 5 (fun Z => rfl) ?_
          obtain ⟨m10, em, hi, hw⟩ := hw
          refine wp_st (pc' := 69) (L' := [some (.ref 65), some (.int a1), some (.int a2), some (.int a3)]) (st' := [.int (S9 77 m10)]) (h' := Hp S9) 1 (fun Z => (congrArg (fun v => zit E 1 Z (d + 1) m_m_mood 68 [some (.ref 65), some (.int a1), some (.int a2), some (.int a3)] [.int v, .ref 77] (Hp S9)) em).trans (ldN (E := E) sh77 (by decide) hi [] (fun st => Z (d + 1) m_m_mood 69 [some (.ref 65), some (.int a1), some (.int a2), some (.int a3)] st (Hp S9)))) ?_
          exact wp_ret (fun Z => rfl) ⟨_, _, rfl, rfl, hw⟩
        · rw [if_neg hc] at hw
          refine wp_st (pc' := 53) (L' := [some (.ref 65), some (.int a1), some (.int a2), some (.int a3)]) (st' := [.int 79, .ref 77]) (h' := Hp S9) 1 (fun Z => if_neg hc) ?_
          refine wp_st (pc' := 55) (L' := [some (.ref 65), some (.int a1), some (.int a2), some (.int a3)]) (st' := [.int 1, .int a3, .int 79, .ref 77]) (h' := Hp S9) 2 (fun Z => rfl) ?_
          by_cases hc : a3 = 1
          · rw [if_pos hc] at hw
            refine wp_st (pc' := 58) (L' := [some (.ref 65), some (.int a1), some (.int a2), some (.int a3)]) (st' := [.int 79, .ref 77]) (h' := Hp S9) 1 (fun Z => if_pos hc) ?_
            refine wp_st (pc' := 68) (L' := [some (.ref 65), some (.int a1), some (.int a2), some (.int a3)]) (st' := [.int ((87 : Int32) + a1), .ref 77]) (h' := Hp S9) 5 (fun Z => rfl) ?_
            obtain ⟨m11, em, hi, hw⟩ := hw
            refine wp_st (pc' := 69) (L' := [some (.ref 65), some (.int a1), some (.int a2), some (.int a3)]) (st' := [.int (S9 77 m11)]) (h' := Hp S9) 1 (fun Z => (congrArg (fun v => zit E 1 Z (d + 1) m_m_mood 68 [some (.ref 65), some (.int a1), some (.int a2), some (.int a3)] [.int v, .ref 77] (Hp S9)) em).trans (ldN (E := E) sh77 (by decide) hi [] (fun st => Z (d + 1) m_m_mood 69 [some (.ref 65), some (.int a1), some (.int a2), some (.int a3)] st (Hp S9)))) ?_
            exact wp_ret (fun Z => rfl) ⟨_, _, rfl, rfl, hw⟩
          · rw [if_neg hc] at hw
            refine wp_st (pc' := 63) (L' := [some (.ref 65), some (.int a1), some (.int a2), some (.int a3)]) (st' := [.int 79, .ref 77]) (h' := Hp S9) 1 (fun Z => if_neg hc) ?_
            refine wp_st (pc' := 68) (L' := [some (.ref 65), some (.int a1), some (.int a2), some (.int a3)]) (st' := [.int ((94 : Int32) + a1), .ref 77]) (h' := Hp S9) 4 (fun Z => rfl) ?_
            obtain ⟨m12, em, hi, hw⟩ := hw
            refine wp_st (pc' := 69) (L' := [some (.ref 65), some (.int a1), some (.int a2), some (.int a3)]) (st' := [.int (S9 77 m12)]) (h' := Hp S9) 1 (fun Z => (congrArg (fun v => zit E 1 Z (d + 1) m_m_mood 68 [some (.ref 65), some (.int a1), some (.int a2), some (.int a3)] [.int v, .ref 77] (Hp S9)) em).trans (ldN (E := E) sh77 (by decide) hi [] (fun st => Z (d + 1) m_m_mood 69 [some (.ref 65), some (.int a1), some (.int a2), some (.int a3)] st (Hp S9)))) ?_
            exact wp_ret (fun Z => rfl) ⟨_, _, rfl, rfl, hw⟩
set_option maxRecDepth 4000 in
theorem w_m_off {E : zX} {d : Nat} {S : St} {a1 : Int32} {Q : Int32 → St → Prop} (hd : 1 ≤ d) 
    (hw : ∀ S1, S1 = up S 65 0 0 →
    k_m_isBall E (d - 1) S1 a1 (fun x2 S3 =>
    if x2 = 0 then (
      Q (0 : Int32) S3)
    else (
      k_m_tries E (d - 1) S3 (fun S5 =>
      k_m_off_21 E d S5 a1 1 Q)))) :
    k_m_off E d S a1 Q := by
  obtain ⟨d, rfl⟩ := Nat.exists_eq_add_of_le' hd
  show wp E (d + 1) m_m_off 0 [some (.ref 65), some (.int a1), none] [] (Hp S) (QI Q)
  refine wp_st (pc' := 2) (L' := [some (.ref 65), some (.int a1), none]) (st' := [.int 0, .ref 65]) (h' := Hp S) 2 (fun Z => rfl) ?_
  have hw := hw _ rfl
  refine wp_st (pc' := 5) (L' := [some (.ref 65), some (.int a1), none]) (st' := []) (h' := Hp (up S 65 0 0)) 1 (fun Z => pfI sh65 rfl (Nat.le_of_ble_eq_true rfl) rfl _) ?_
  generalize up S 65 0 0 = S1 at hw ⊢
  refine wp_st (pc' := 7) (L' := [some (.ref 65), some (.int a1), none]) (st' := [.int a1, .ref 65]) (h' := Hp S1) 2 (fun Z => rfl) ?_
  refine wp_call (pc' := 10) (rest := []) (fun Z => rfl) (isO_of sh65) hw ?_
  rintro o h1 ⟨x2, S3, rfl, rfl, hw⟩
  refine ⟨_, rfl, ?_⟩
  show wp E (d + 1) m_m_off 10 [some (.ref 65), some (.int a1), none] [.int x2] (Hp S3) (QI Q)
  by_cases hc : x2 = 0
  · rw [if_pos hc] at hw
    refine wp_st (pc' := 13) (L' := [some (.ref 65), some (.int a1), none]) (st' := []) (h' := Hp S3) 1 (fun Z => if_pos hc) ?_
    refine wp_st (pc' := 14) (L' := [some (.ref 65), some (.int a1), none]) (st' := [.int 0]) (h' := Hp S3) 1 (fun Z => rfl) ?_
    exact wp_ret (fun Z => rfl) ⟨_, _, rfl, rfl, hw⟩
  · rw [if_neg hc] at hw
    refine wp_st (pc' := 15) (L' := [some (.ref 65), some (.int a1), none]) (st' := []) (h' := Hp S3) 1 (fun Z => if_neg hc) ?_
    refine wp_st (pc' := 16) (L' := [some (.ref 65), some (.int a1), none]) (st' := [.ref 65]) (h' := Hp S3) 1 (fun Z => rfl) ?_
    refine wp_call (pc' := 19) (rest := []) (fun Z => rfl) (isO_of sh65) hw ?_
    rintro o h1 ⟨S5, rfl, rfl, hw⟩
    refine ⟨_, rfl, ?_⟩
    show wp E (d + 1) m_m_off 19 [some (.ref 65), some (.int a1), none] [] (Hp S5) (QI Q)
    exact wp_st 2 (fun Z => rfl) (show wp E (d + 1) m_m_off 21 [some (.ref 65), some (.int a1), some (.int 1)] [] (Hp S5) (QI Q) from hw)
set_option maxRecDepth 4000 in
theorem w_m_off_21 {E : zX} {d : Nat} {S : St} {a1 : Int32} {a2 : Nat} {Q : Int32 → St → Prop} (hd : 1 ≤ d) 
    (hw : if nI 60 < (nI a2) then (
      Q ((-1) : Int32) S)
    else (
      k_m_dayOf E (d - 1) S 79 (fun S2 =>
      if (((S2 65 45) >>> (a1 &&& 31)) &&& (1 : Int32)) = 1 then (
        Q (nI a2) S2)
      else (
        k_m_off_21 E d S2 a1 (a2 + 1) Q)))) :
    k_m_off_21 E d S a1 a2 Q := by
  obtain ⟨d, rfl⟩ := Nat.exists_eq_add_of_le' hd
  show wp E (d + 1) m_m_off 21 [some (.ref 65), some (.int a1), some (.int (nI a2))] [] (Hp S) (QI Q)
  refine wp_st (pc' := 24) (L' := [some (.ref 65), some (.int a1), some (.int (nI a2))]) (st' := [.int 60, .int (nI a2)]) (h' := Hp S) 2 (fun Z => rfl) ?_
  by_cases hc : nI 60 < (nI a2)
  · rw [if_pos hc] at hw
    refine wp_st (pc' := 53) (L' := [some (.ref 65), some (.int a1), some (.int (nI a2))]) (st' := []) (h' := Hp S) 1 (fun Z => if_pos hc) ?_
    refine wp_st (pc' := 54) (L' := [some (.ref 65), some (.int a1), some (.int (nI a2))]) (st' := [.int (-1)]) (h' := Hp S) 1 (fun Z => congrArg (fun v => Z (d + 1) m_m_off 54 [some (.ref 65), some (.int a1), some (.int (nI a2))] [.int v] (Hp S)) (show Int32.ofInt (-1) = (-1) by decide)) ?_
    exact wp_ret (fun Z => rfl) ⟨_, _, rfl, rfl, hw⟩
  · rw [if_neg hc] at hw
    refine wp_st (pc' := 27) (L' := [some (.ref 65), some (.int a1), some (.int (nI a2))]) (st' := []) (h' := Hp S) 1 (fun Z => if_neg hc) ?_
    refine wp_st (pc' := 30) (L' := [some (.ref 65), some (.int a1), some (.int (nI a2))]) (st' := [.int 79, .ref 65]) (h' := Hp S) 2 (fun Z => rfl) ?_
    refine wp_call (pc' := 33) (rest := []) (fun Z => rfl) (isO_of sh65) hw ?_
    rintro o h1 ⟨S2, rfl, rfl, hw⟩
    refine ⟨_, rfl, ?_⟩
    show wp E (d + 1) m_m_off 33 [some (.ref 65), some (.int a1), some (.int (nI a2))] [] (Hp S2) (QI Q)
    refine wp_st (pc' := 34) (L' := [some (.ref 65), some (.int a1), some (.int (nI a2))]) (st' := [.ref 65]) (h' := Hp S2) 1 (fun Z => rfl) ?_
    refine wp_st (pc' := 37) (L' := [some (.ref 65), some (.int a1), some (.int (nI a2))]) (st' := [.int (S2 65 45)]) (h' := Hp S2) 1 (fun Z => gfI (E := E) sh65 rfl _) ?_
    refine wp_st (pc' := 42) (L' := [some (.ref 65), some (.int a1), some (.int (nI a2))]) (st' := [.int 1, .int (((S2 65 45) >>> (a1 &&& 31)) &&& (1 : Int32))]) (h' := Hp S2) 5 (fun Z => rfl) ?_
    by_cases hc : (((S2 65 45) >>> (a1 &&& 31)) &&& (1 : Int32)) = 1
    · rw [if_pos hc] at hw
      refine wp_st (pc' := 45) (L' := [some (.ref 65), some (.int a1), some (.int (nI a2))]) (st' := []) (h' := Hp S2) 1 (fun Z => if_pos hc) ?_
      refine wp_st (pc' := 46) (L' := [some (.ref 65), some (.int a1), some (.int (nI a2))]) (st' := [.int (nI a2)]) (h' := Hp S2) 1 (fun Z => rfl) ?_
      exact wp_ret (fun Z => rfl) ⟨_, _, rfl, rfl, hw⟩
    · rw [if_neg hc] at hw
      refine wp_st (pc' := 47) (L' := [some (.ref 65), some (.int a1), some (.int (nI a2))]) (st' := []) (h' := Hp S2) 1 (fun Z => if_neg hc) ?_
      refine wp_st (pc' := 50) (L' := [some (.ref 65), some (.int a1), some (.int (nI (a2 + 1)))]) (st' := []) (h' := Hp S2) 1 (fun Z => by rw [← nI_add a2 1]; rfl) ?_
      exact wp_st 1 (fun Z => rfl) (show wp E (d + 1) m_m_off 21 [some (.ref 65), some (.int a1), some (.int (nI (a2 + 1)))] [] (Hp S2) (QI Q) from hw)
set_option maxRecDepth 4000 in
theorem w_m_lowest {E : zX} {d : Nat} {S : St} {a0 : Int32} {Q : Int32 → St → Prop} 
    (hw : k_m_lowest_2 E d S a0 0 Q) :
    k_m_lowest E d S a0 Q := by
  show wp E d m_m_lowest 0 [some (.int a0), none] [] (Hp S) (QI Q)
  exact wp_st 2 (fun Z => rfl) (show wp E d m_m_lowest 2 [some (.int a0), some (.int 0)] [] (Hp S) (QI Q) from hw)
set_option maxRecDepth 4000 in
theorem w_m_lowest_2 {E : zX} {d : Nat} {S : St} {a0 : Int32} {a1 : Nat} {Q : Int32 → St → Prop} 
    (hw : if ((a0 >>> ((nI a1) &&& 31)) &&& (1 : Int32)) = 0 then (
      k_m_lowest_2 E d S a0 (a1 + 1) Q)
    else (
      Q (nI a1) S)) :
    k_m_lowest_2 E d S a0 a1 Q := by
  show wp E d m_m_lowest 2 [some (.int a0), some (.int (nI a1))] [] (Hp S) (QI Q)
  refine wp_st (pc' := 7) (L' := [some (.int a0), some (.int (nI a1))]) (st' := [.int ((a0 >>> ((nI a1) &&& 31)) &&& (1 : Int32))]) (h' := Hp S) 5 (fun Z => rfl) ?_
  by_cases hc : ((a0 >>> ((nI a1) &&& 31)) &&& (1 : Int32)) = 0
  · rw [if_pos hc] at hw
    refine wp_st (pc' := 10) (L' := [some (.int a0), some (.int (nI a1))]) (st' := []) (h' := Hp S) 1 (fun Z => if_pos hc) ?_
    refine wp_st (pc' := 13) (L' := [some (.int a0), some (.int (nI (a1 + 1)))]) (st' := []) (h' := Hp S) 1 (fun Z => by rw [← nI_add a1 1]; rfl) ?_
    exact wp_st 1 (fun Z => rfl) (show wp E d m_m_lowest 2 [some (.int a0), some (.int (nI (a1 + 1)))] [] (Hp S) (QI Q) from hw)
  · rw [if_neg hc] at hw
    refine wp_st (pc' := 16) (L' := [some (.int a0), some (.int (nI a1))]) (st' := []) (h' := Hp S) 1 (fun Z => if_neg hc) ?_
    refine wp_st (pc' := 17) (L' := [some (.int a0), some (.int (nI a1))]) (st' := [.int (nI a1)]) (h' := Hp S) 1 (fun Z => rfl) ?_
    exact wp_ret (fun Z => rfl) ⟨_, _, rfl, rfl, hw⟩
set_option maxRecDepth 4000 in
theorem w_m_later {E : zX} {d : Nat} {S : St} {a1 : Int32} {a2 : Int32} {Q : Int32 → St → Prop} (hd : 1 ≤ d) 
    (hw : ∀ S1, S1 = up S 65 0 0 →
    k_m_isWhat E (d - 1) S1 a2 3 (fun x2 S3 =>
    if x2 = 0 then (
      Q (0 : Int32) S3)
    else (
      k_m_isSoon E (d - 1) S3 a1 0 2 (fun x4 S5 =>
      if x4 = 0 then (
        Q (0 : Int32) S5)
      else (
        k_m_tries E (d - 1) S5 (fun S7 =>
        k_m_later_35 E d S7 a1 a2 0 0 Q)))))) :
    k_m_later E d S a1 a2 Q := by
  obtain ⟨d, rfl⟩ := Nat.exists_eq_add_of_le' hd
  show wp E (d + 1) m_m_later 0 [some (.ref 65), some (.int a1), some (.int a2), none, none, none] [] (Hp S) (QI Q)
  refine wp_st (pc' := 2) (L' := [some (.ref 65), some (.int a1), some (.int a2), none, none, none]) (st' := [.int 0, .ref 65]) (h' := Hp S) 2 (fun Z => rfl) ?_
  have hw := hw _ rfl
  refine wp_st (pc' := 5) (L' := [some (.ref 65), some (.int a1), some (.int a2), none, none, none]) (st' := []) (h' := Hp (up S 65 0 0)) 1 (fun Z => pfI sh65 rfl (Nat.le_of_ble_eq_true rfl) rfl _) ?_
  generalize up S 65 0 0 = S1 at hw ⊢
  refine wp_st (pc' := 8) (L' := [some (.ref 65), some (.int a1), some (.int a2), none, none, none]) (st' := [.int 3, .int a2, .ref 65]) (h' := Hp S1) 3 (fun Z => rfl) ?_
  refine wp_call (pc' := 11) (rest := []) (fun Z => rfl) (isO_of sh65) hw ?_
  rintro o h1 ⟨x2, S3, rfl, rfl, hw⟩
  refine ⟨_, rfl, ?_⟩
  show wp E (d + 1) m_m_later 11 [some (.ref 65), some (.int a1), some (.int a2), none, none, none] [.int x2] (Hp S3) (QI Q)
  by_cases hc : x2 = 0
  · rw [if_pos hc] at hw
    refine wp_st (pc' := 24) (L' := [some (.ref 65), some (.int a1), some (.int a2), none, none, none]) (st' := []) (h' := Hp S3) 1 (fun Z => if_pos hc) ?_
    refine wp_st (pc' := 25) (L' := [some (.ref 65), some (.int a1), some (.int a2), none, none, none]) (st' := [.int 0]) (h' := Hp S3) 1 (fun Z => rfl) ?_
    exact wp_ret (fun Z => rfl) ⟨_, _, rfl, rfl, hw⟩
  · rw [if_neg hc] at hw
    refine wp_st (pc' := 14) (L' := [some (.ref 65), some (.int a1), some (.int a2), none, none, none]) (st' := []) (h' := Hp S3) 1 (fun Z => if_neg hc) ?_
    refine wp_st (pc' := 18) (L' := [some (.ref 65), some (.int a1), some (.int a2), none, none, none]) (st' := [.int 2, .int 0, .int a1, .ref 65]) (h' := Hp S3) 4 (fun Z => rfl) ?_
    refine wp_call (pc' := 21) (rest := []) (fun Z => rfl) (isO_of sh65) hw ?_
    rintro o h1 ⟨x4, S5, rfl, rfl, hw⟩
    refine ⟨_, rfl, ?_⟩
    show wp E (d + 1) m_m_later 21 [some (.ref 65), some (.int a1), some (.int a2), none, none, none] [.int x4] (Hp S5) (QI Q)
    by_cases hc : x4 = 0
    · rw [if_pos hc] at hw
      refine wp_st (pc' := 24) (L' := [some (.ref 65), some (.int a1), some (.int a2), none, none, none]) (st' := []) (h' := Hp S5) 1 (fun Z => if_pos hc) ?_
      refine wp_st (pc' := 25) (L' := [some (.ref 65), some (.int a1), some (.int a2), none, none, none]) (st' := [.int 0]) (h' := Hp S5) 1 (fun Z => rfl) ?_
      exact wp_ret (fun Z => rfl) ⟨_, _, rfl, rfl, hw⟩
    · rw [if_neg hc] at hw
      refine wp_st (pc' := 26) (L' := [some (.ref 65), some (.int a1), some (.int a2), none, none, none]) (st' := []) (h' := Hp S5) 1 (fun Z => if_neg hc) ?_
      refine wp_st (pc' := 29) (L' := [some (.ref 65), some (.int a1), some (.int a2), some (.int 0), none, none]) (st' := [.ref 65]) (h' := Hp S5) 3 (fun Z => rfl) ?_
      refine wp_call (pc' := 32) (rest := []) (fun Z => rfl) (isO_of sh65) hw ?_
      rintro o h1 ⟨S7, rfl, rfl, hw⟩
      refine ⟨_, rfl, ?_⟩
      show wp E (d + 1) m_m_later 32 [some (.ref 65), some (.int a1), some (.int a2), some (.int 0), none, none] [] (Hp S7) (QI Q)
      exact wp_st 2 (fun Z => rfl) (show wp E (d + 1) m_m_later 35 [some (.ref 65), some (.int a1), some (.int a2), some (.int 0), some (.int 0), none] [] (Hp S7) (QI Q) from (hw none))
set_option maxRecDepth 4000 in
theorem w_m_later_35 {E : zX} {d : Nat} {S : St} {a1 : Int32} {a2 : Int32} {a3 : Int32} {a4 : Int32} {Q : Int32 → St → Prop} (hd : 1 ≤ d) 
    (hw : if a1 ≤ a4 then (
      k_m_later_66 E d S a2 a3 (-1) 0 Q)
    else (
      k_m_dayOf E (d - 1) S 79 (fun S2 =>
      k_m_later_35 E d S2 a1 a2 (a3 + (S2 65 46)) (a4 + 1) Q))) :
    k_m_later_35 E d S a1 a2 a3 a4 Q := by
  obtain ⟨d, rfl⟩ := Nat.exists_eq_add_of_le' hd
  intro j5
  show wp E (d + 1) m_m_later 35 [some (.ref 65), some (.int a1), some (.int a2), some (.int a3), some (.int a4), j5] [] (Hp S) (QI Q)
  refine wp_st (pc' := 38) (L' := [some (.ref 65), some (.int a1), some (.int a2), some (.int a3), some (.int a4), j5]) (st' := [.int a1, .int a4]) (h' := Hp S) 2 (fun Z => rfl) ?_
  by_cases hc : a1 ≤ a4
  · rw [if_pos hc] at hw
    refine wp_st (pc' := 60) (L' := [some (.ref 65), some (.int a1), some (.int a2), some (.int a3), some (.int a4), j5]) (st' := []) (h' := Hp S) 1 (fun Z => if_pos hc) ?_
    refine wp_st (pc' := 61) (L' := [some (.ref 65), some (.int a1), some (.int a2), some (.int a3), some (.int a4), j5]) (st' := [.int (-1)]) (h' := Hp S) 1 (fun Z => congrArg (fun v => Z (d + 1) m_m_later 61 [some (.ref 65), some (.int a1), some (.int a2), some (.int a3), some (.int a4), j5] [.int v] (Hp S)) (show Int32.ofInt (-1) = (-1) by decide)) ?_
    exact wp_st 3 (fun Z => rfl) (show wp E (d + 1) m_m_later 66 [some (.ref 65), some (.int a1), some (.int a2), some (.int a3), some (.int (-1)), some (.int 0)] [] (Hp S) (QI Q) from (hw (some (.int a1))))
  · rw [if_neg hc] at hw
    refine wp_st (pc' := 41) (L' := [some (.ref 65), some (.int a1), some (.int a2), some (.int a3), some (.int a4), j5]) (st' := []) (h' := Hp S) 1 (fun Z => if_neg hc) ?_
    refine wp_st (pc' := 44) (L' := [some (.ref 65), some (.int a1), some (.int a2), some (.int a3), some (.int a4), j5]) (st' := [.int 79, .ref 65]) (h' := Hp S) 2 (fun Z => rfl) ?_
    refine wp_call (pc' := 47) (rest := []) (fun Z => rfl) (isO_of sh65) hw ?_
    rintro o h1 ⟨S2, rfl, rfl, hw⟩
    refine ⟨_, rfl, ?_⟩
    show wp E (d + 1) m_m_later 47 [some (.ref 65), some (.int a1), some (.int a2), some (.int a3), some (.int a4), j5] [] (Hp S2) (QI Q)
    refine wp_st (pc' := 49) (L' := [some (.ref 65), some (.int a1), some (.int a2), some (.int a3), some (.int a4), j5]) (st' := [.ref 65, .int a3]) (h' := Hp S2) 2 (fun Z => rfl) ?_
    refine wp_st (pc' := 52) (L' := [some (.ref 65), some (.int a1), some (.int a2), some (.int a3), some (.int a4), j5]) (st' := [.int (S2 65 46), .int a3]) (h' := Hp S2) 1 (fun Z => gfI (E := E) sh65 rfl _) ?_
    refine wp_st (pc' := 54) (L' := [some (.ref 65), some (.int a1), some (.int a2), some (.int (a3 + (S2 65 46))), some (.int a4), j5]) (st' := []) (h' := Hp S2) 2 (fun Z => rfl) ?_
    refine wp_st (pc' := 57) (L' := [some (.ref 65), some (.int a1), some (.int a2), some (.int (a3 + (S2 65 46))), some (.int (a4 + 1)), j5]) (st' := []) (h' := Hp S2) 1 (fun Z => congrArg (fun v => Z (d + 1) m_m_later 57 [some (.ref 65), some (.int a1), some (.int a2), some (.int (a3 + (S2 65 46))), some (.int (a4 + v)), j5] [] (Hp S2)) (show Int32.ofInt (1) = (1) by decide)) ?_
    exact wp_st 1 (fun Z => rfl) (show wp E (d + 1) m_m_later 35 [some (.ref 65), some (.int a1), some (.int a2), some (.int (a3 + (S2 65 46))), some (.int (a4 + 1)), j5] [] (Hp S2) (QI Q) from (hw j5))
set_option maxRecDepth 4000 in
theorem w_m_later_66 {E : zX} {d : Nat} {S : St} {a2 : Int32} {a3 : Int32} {a4 : Int32} {a5 : Nat} {Q : Int32 → St → Prop} (hd : 1 ≤ d) 
    (hw : if (S 65 3) ≤ (nI a5) then (
      if a2 = 0 then (
        Q a3 S)
      else (
        if a2 = 1 then (
          k_m_sumOf E (d - 1) S 79 39 (S 65 4) (fun x1 S2 =>
          Q x1 S2))
        else (
          if a2 = 2 then (
            k_m_heldOnes E (d - 1) S 79 (fun x3 S4 =>
            Q ((((1 : Int32) <<< ((S 65 4) &&& 31)) - (1 : Int32)) &&& (x3 ^^^ ((-1) : Int32))) S4))
          else (
            Q a4 S))))
    else (
      if a4 = (-1) then (
        k_m_later_66 E d S a2 a3 (nI a5) (a5 + 1) Q)
      else (
        (80 + a5) < 158 ∧
        ∃ m5 : Nat, ((80 : Int32) + a4) = nI m5 ∧ m5 < 158 ∧
        if (S 77 (80 + a5)) ≤ (S 77 m5) then (
          k_m_later_66 E d S a2 a3 a4 (a5 + 1) Q)
        else (
          k_m_later_66 E d S a2 a3 (nI a5) (a5 + 1) Q)))) :
    k_m_later_66 E d S a2 a3 a4 a5 Q := by
  obtain ⟨d, rfl⟩ := Nat.exists_eq_add_of_le' hd
  intro j1
  show wp E (d + 1) m_m_later 66 [some (.ref 65), j1, some (.int a2), some (.int a3), some (.int a4), some (.int (nI a5))] [] (Hp S) (QI Q)
  refine wp_st (pc' := 69) (L' := [some (.ref 65), j1, some (.int a2), some (.int a3), some (.int a4), some (.int (nI a5))]) (st' := [.ref 65, .int (nI a5)]) (h' := Hp S) 2 (fun Z => rfl) ?_
  refine wp_st (pc' := 72) (L' := [some (.ref 65), j1, some (.int a2), some (.int a3), some (.int a4), some (.int (nI a5))]) (st' := [.int (S 65 3), .int (nI a5)]) (h' := Hp S) 1 (fun Z => gfI (E := E) sh65 rfl _) ?_
  by_cases hc : (S 65 3) ≤ (nI a5)
  · rw [if_pos hc] at hw
    refine wp_st (pc' := 114) (L' := [some (.ref 65), j1, some (.int a2), some (.int a3), some (.int a4), some (.int (nI a5))]) (st' := []) (h' := Hp S) 1 (fun Z => if_pos hc) ?_
    refine wp_st (pc' := 115) (L' := [some (.ref 65), j1, some (.int a2), some (.int a3), some (.int a4), some (.int (nI a5))]) (st' := [.int a2]) (h' := Hp S) 1 (fun Z => rfl) ?_
    by_cases hc : a2 = 0
    · rw [if_pos hc] at hw
      refine wp_st (pc' := 118) (L' := [some (.ref 65), j1, some (.int a2), some (.int a3), some (.int a4), some (.int (nI a5))]) (st' := []) (h' := Hp S) 1 (fun Z => if_pos hc) ?_
      refine wp_st (pc' := 169) (L' := [some (.ref 65), j1, some (.int a2), some (.int a3), some (.int a4), some (.int (nI a5))]) (st' := [.int a3]) (h' := Hp S) 2 (fun Z => rfl) ?_
      exact wp_ret (fun Z => rfl) ⟨_, _, rfl, rfl, hw⟩
    · rw [if_neg hc] at hw
      refine wp_st (pc' := 122) (L' := [some (.ref 65), j1, some (.int a2), some (.int a3), some (.int a4), some (.int (nI a5))]) (st' := []) (h' := Hp S) 1 (fun Z => if_neg hc) ?_
      refine wp_st (pc' := 124) (L' := [some (.ref 65), j1, some (.int a2), some (.int a3), some (.int a4), some (.int (nI a5))]) (st' := [.int 1, .int a2]) (h' := Hp S) 2 (fun Z => rfl) ?_
      by_cases hc : a2 = 1
      · rw [if_pos hc] at hw
        refine wp_st (pc' := 127) (L' := [some (.ref 65), j1, some (.int a2), some (.int a3), some (.int a4), some (.int (nI a5))]) (st' := []) (h' := Hp S) 1 (fun Z => if_pos hc) ?_
        refine wp_st (pc' := 133) (L' := [some (.ref 65), j1, some (.int a2), some (.int a3), some (.int a4), some (.int (nI a5))]) (st' := [.ref 65, .int 39, .int 79, .ref 65]) (h' := Hp S) 4 (fun Z => rfl) ?_
        refine wp_st (pc' := 136) (L' := [some (.ref 65), j1, some (.int a2), some (.int a3), some (.int a4), some (.int (nI a5))]) (st' := [.int (S 65 4), .int 39, .int 79, .ref 65]) (h' := Hp S) 1 (fun Z => gfI (E := E) sh65 rfl _) ?_
        refine wp_call (pc' := 139) (rest := []) (fun Z => rfl) (isO_of sh65) hw ?_
        rintro o h1 ⟨x1, S2, rfl, rfl, hw⟩
        refine ⟨_, rfl, ?_⟩
        show wp E (d + 1) m_m_later 139 [some (.ref 65), j1, some (.int a2), some (.int a3), some (.int a4), some (.int (nI a5))] [.int x1] (Hp S2) (QI Q)
        refine wp_st (pc' := 169) (L' := [some (.ref 65), j1, some (.int a2), some (.int a3), some (.int a4), some (.int (nI a5))]) (st' := [.int x1]) (h' := Hp S2) 1 (fun Z => rfl) ?_
        exact wp_ret (fun Z => rfl) ⟨_, _, rfl, rfl, hw⟩
      · rw [if_neg hc] at hw
        refine wp_st (pc' := 142) (L' := [some (.ref 65), j1, some (.int a2), some (.int a3), some (.int a4), some (.int (nI a5))]) (st' := []) (h' := Hp S) 1 (fun Z => if_neg hc) ?_
        refine wp_st (pc' := 144) (L' := [some (.ref 65), j1, some (.int a2), some (.int a3), some (.int a4), some (.int (nI a5))]) (st' := [.int 2, .int a2]) (h' := Hp S) 2 (fun Z => rfl) ?_
        by_cases hc : a2 = 2
        · rw [if_pos hc] at hw
          refine wp_st (pc' := 147) (L' := [some (.ref 65), j1, some (.int a2), some (.int a3), some (.int a4), some (.int (nI a5))]) (st' := []) (h' := Hp S) 1 (fun Z => if_pos hc) ?_
          refine wp_st (pc' := 149) (L' := [some (.ref 65), j1, some (.int a2), some (.int a3), some (.int a4), some (.int (nI a5))]) (st' := [.ref 65, .int 1]) (h' := Hp S) 2 (fun Z => rfl) ?_
          refine wp_st (pc' := 152) (L' := [some (.ref 65), j1, some (.int a2), some (.int a3), some (.int a4), some (.int (nI a5))]) (st' := [.int (S 65 4), .int 1]) (h' := Hp S) 1 (fun Z => gfI (E := E) sh65 rfl _) ?_
          refine wp_st (pc' := 158) (L' := [some (.ref 65), j1, some (.int a2), some (.int a3), some (.int a4), some (.int (nI a5))]) (st' := [.int 79, .ref 65, .int (((1 : Int32) <<< ((S 65 4) &&& 31)) - (1 : Int32))]) (h' := Hp S) 5 (fun Z => rfl) ?_
          refine wp_call (pc' := 161) (rest := [.int (((1 : Int32) <<< ((S 65 4) &&& 31)) - (1 : Int32))]) (fun Z => rfl) (isO_of sh65) hw ?_
          rintro o h1 ⟨x3, S4, rfl, rfl, hw⟩
          refine ⟨_, rfl, ?_⟩
          show wp E (d + 1) m_m_later 161 [some (.ref 65), j1, some (.int a2), some (.int a3), some (.int a4), some (.int (nI a5))] [.int x3, .int (((1 : Int32) <<< ((S 65 4) &&& 31)) - (1 : Int32))] (Hp S4) (QI Q)
          refine wp_st (pc' := 162) (L' := [some (.ref 65), j1, some (.int a2), some (.int a3), some (.int a4), some (.int (nI a5))]) (st' := [.int (-1), .int x3, .int (((1 : Int32) <<< ((S 65 4) &&& 31)) - (1 : Int32))]) (h' := Hp S4) 1 (fun Z => congrArg (fun v => Z (d + 1) m_m_later 162 [some (.ref 65), j1, some (.int a2), some (.int a3), some (.int a4), some (.int (nI a5))] [.int v, .int x3, .int (((1 : Int32) <<< ((S 65 4) &&& 31)) - (1 : Int32))] (Hp S4)) (show Int32.ofInt (-1) = (-1) by decide)) ?_
          refine wp_st (pc' := 169) (L' := [some (.ref 65), j1, some (.int a2), some (.int a3), some (.int a4), some (.int (nI a5))]) (st' := [.int ((((1 : Int32) <<< ((S 65 4) &&& 31)) - (1 : Int32)) &&& (x3 ^^^ ((-1) : Int32)))]) (h' := Hp S4) 3 (fun Z => rfl) ?_
          exact wp_ret (fun Z => rfl) ⟨_, _, rfl, rfl, hw⟩
        · rw [if_neg hc] at hw
          refine wp_st (pc' := 167) (L' := [some (.ref 65), j1, some (.int a2), some (.int a3), some (.int a4), some (.int (nI a5))]) (st' := []) (h' := Hp S) 1 (fun Z => if_neg hc) ?_
          refine wp_st (pc' := 169) (L' := [some (.ref 65), j1, some (.int a2), some (.int a3), some (.int a4), some (.int (nI a5))]) (st' := [.int a4]) (h' := Hp S) 1 (fun Z => rfl) ?_
          exact wp_ret (fun Z => rfl) ⟨_, _, rfl, rfl, hw⟩
  · rw [if_neg hc] at hw
    refine wp_st (pc' := 75) (L' := [some (.ref 65), j1, some (.int a2), some (.int a3), some (.int a4), some (.int (nI a5))]) (st' := []) (h' := Hp S) 1 (fun Z => if_neg hc) ?_
    refine wp_st (pc' := 77) (L' := [some (.ref 65), j1, some (.int a2), some (.int a3), some (.int a4), some (.int (nI a5))]) (st' := [.int a4]) (h' := Hp S) 1 (fun Z => rfl) ?_
    refine wp_st (pc' := 78) (L' := [some (.ref 65), j1, some (.int a2), some (.int a3), some (.int a4), some (.int (nI a5))]) (st' := [.int (-1), .int a4]) (h' := Hp S) 1 (fun Z => congrArg (fun v => Z (d + 1) m_m_later 78 [some (.ref 65), j1, some (.int a2), some (.int a3), some (.int a4), some (.int (nI a5))] [.int v, .int a4] (Hp S)) (show Int32.ofInt (-1) = (-1) by decide)) ?_
    by_cases hc : a4 = (-1)
    · rw [if_pos hc] at hw
      refine wp_st (pc' := 104) (L' := [some (.ref 65), j1, some (.int a2), some (.int a3), some (.int a4), some (.int (nI a5))]) (st' := []) (h' := Hp S) 1 (fun Z => if_pos hc) ?_
      refine wp_st (pc' := 108) (L' := [some (.ref 65), j1, some (.int a2), some (.int a3), some (.int (nI a5)), some (.int (nI a5))]) (st' := []) (h' := Hp S) 2 (fun Z => rfl) ?_
      refine wp_st (pc' := 111) (L' := [some (.ref 65), j1, some (.int a2), some (.int a3), some (.int (nI a5)), some (.int (nI (a5 + 1)))]) (st' := []) (h' := Hp S) 1 (fun Z => by rw [← nI_add a5 1]; rfl) ?_
      exact wp_st 1 (fun Z => rfl) (show wp E (d + 1) m_m_later 66 [some (.ref 65), j1, some (.int a2), some (.int a3), some (.int (nI a5)), some (.int (nI (a5 + 1)))] [] (Hp S) (QI Q) from (hw j1))
    · rw [if_neg hc] at hw
      refine wp_st (pc' := 81) (L' := [some (.ref 65), j1, some (.int a2), some (.int a3), some (.int a4), some (.int (nI a5))]) (st' := []) (h' := Hp S) 1 (fun Z => if_neg hc) ?_
      refine wp_st (pc' := 82) (L' := [some (.ref 65), j1, some (.int a2), some (.int a3), some (.int a4), some (.int (nI a5))]) (st' := [.ref 65]) (h' := Hp S) 1 (fun Z => rfl) ?_
      refine wp_st (pc' := 85) (L' := [some (.ref 65), j1, some (.int a2), some (.int a3), some (.int a4), some (.int (nI a5))]) (st' := [.ref 77]) (h' := Hp S) 1 (fun Z => gfR (E := E) sh65 rfl _) ?_
      refine wp_st (pc' := 89) (L' := [some (.ref 65), j1, some (.int a2), some (.int a3), some (.int a4), some (.int (nI a5))]) (st' := [.int (nI a5), .int 80, .ref 77]) (h' := Hp S) 2 (fun Z => rfl) ?_
      refine wp_st (pc' := 90) (L' := [some (.ref 65), j1, some (.int a2), some (.int a3), some (.int a4), some (.int (nI a5))]) (st' := [.int (nI (80 + a5)), .ref 77]) (h' := Hp S) 1 (fun Z => by rw [← nI_add 80 a5]; rfl) ?_
      obtain ⟨hi, hw⟩ := hw
      refine wp_st (pc' := 91) (L' := [some (.ref 65), j1, some (.int a2), some (.int a3), some (.int a4), some (.int (nI a5))]) (st' := [.int (S 77 (80 + a5))]) (h' := Hp S) 1 (fun Z => ldN (E := E) sh77 (by decide) hi [] (fun st => Z (d + 1) m_m_later 91 [some (.ref 65), j1, some (.int a2), some (.int a3), some (.int a4), some (.int (nI a5))] st (Hp S))) ?_
      refine wp_st (pc' := 92) (L' := [some (.ref 65), j1, some (.int a2), some (.int a3), some (.int a4), some (.int (nI a5))]) (st' := [.ref 65, .int (S 77 (80 + a5))]) (h' := Hp S) 1 (fun Z => rfl) ?_
      refine wp_st (pc' := 95) (L' := [some (.ref 65), j1, some (.int a2), some (.int a3), some (.int a4), some (.int (nI a5))]) (st' := [.ref 77, .int (S 77 (80 + a5))]) (h' := Hp S) 1 (fun Z => gfR (E := E) sh65 rfl _) ?_
      refine wp_st (pc' := 100) (L' := [some (.ref 65), j1, some (.int a2), some (.int a3), some (.int a4), some (.int (nI a5))]) (st' := [.int ((80 : Int32) + a4), .ref 77, .int (S 77 (80 + a5))]) (h' := Hp S) 3 (fun Z => rfl) ?_
      obtain ⟨m5, em, hi, hw⟩ := hw
      refine wp_st (pc' := 101) (L' := [some (.ref 65), j1, some (.int a2), some (.int a3), some (.int a4), some (.int (nI a5))]) (st' := [.int (S 77 m5), .int (S 77 (80 + a5))]) (h' := Hp S) 1 (fun Z => (congrArg (fun v => zit E 1 Z (d + 1) m_m_later 100 [some (.ref 65), j1, some (.int a2), some (.int a3), some (.int a4), some (.int (nI a5))] [.int v, .ref 77, .int (S 77 (80 + a5))] (Hp S)) em).trans (ldN (E := E) sh77 (by decide) hi [.int (S 77 (80 + a5))] (fun st => Z (d + 1) m_m_later 101 [some (.ref 65), j1, some (.int a2), some (.int a3), some (.int a4), some (.int (nI a5))] st (Hp S)))) ?_
      by_cases hc : (S 77 (80 + a5)) ≤ (S 77 m5)
      · rw [if_pos hc] at hw
        refine wp_st (pc' := 108) (L' := [some (.ref 65), j1, some (.int a2), some (.int a3), some (.int a4), some (.int (nI a5))]) (st' := []) (h' := Hp S) 1 (fun Z => if_pos hc) ?_
        refine wp_st (pc' := 111) (L' := [some (.ref 65), j1, some (.int a2), some (.int a3), some (.int a4), some (.int (nI (a5 + 1)))]) (st' := []) (h' := Hp S) 1 (fun Z => by rw [← nI_add a5 1]; rfl) ?_
        exact wp_st 1 (fun Z => rfl) (show wp E (d + 1) m_m_later 66 [some (.ref 65), j1, some (.int a2), some (.int a3), some (.int a4), some (.int (nI (a5 + 1)))] [] (Hp S) (QI Q) from (hw j1))
      · rw [if_neg hc] at hw
        refine wp_st (pc' := 104) (L' := [some (.ref 65), j1, some (.int a2), some (.int a3), some (.int a4), some (.int (nI a5))]) (st' := []) (h' := Hp S) 1 (fun Z => if_neg hc) ?_
        refine wp_st (pc' := 108) (L' := [some (.ref 65), j1, some (.int a2), some (.int a3), some (.int (nI a5)), some (.int (nI a5))]) (st' := []) (h' := Hp S) 2 (fun Z => rfl) ?_
        refine wp_st (pc' := 111) (L' := [some (.ref 65), j1, some (.int a2), some (.int a3), some (.int (nI a5)), some (.int (nI (a5 + 1)))]) (st' := []) (h' := Hp S) 1 (fun Z => by rw [← nI_add a5 1]; rfl) ?_
        exact wp_st 1 (fun Z => rfl) (show wp E (d + 1) m_m_later 66 [some (.ref 65), j1, some (.int a2), some (.int a3), some (.int (nI a5)), some (.int (nI (a5 + 1)))] [] (Hp S) (QI Q) from (hw j1))
set_option maxRecDepth 4000 in
theorem w_m_when {E : zX} {d : Nat} {S : St} {a1 : Int32} {a2 : Int32} {Q : Int32 → St → Prop} (hd : 1 ≤ d) 
    (hw : ∀ S1, S1 = up S 65 0 0 →
    k_m_isPerson E (d - 1) S1 a1 (fun x2 S3 =>
    if x2 = 0 then (
      Q (0 : Int32) S3)
    else (
      k_m_isWhat E (d - 1) S3 a2 1 (fun x4 S5 =>
      if x4 = 0 then (
        Q (0 : Int32) S5)
      else (
        k_m_tries E (d - 1) S5 (fun S7 =>
        k_m_when_30 E d S7 a1 a2 1 Q)))))) :
    k_m_when E d S a1 a2 Q := by
  obtain ⟨d, rfl⟩ := Nat.exists_eq_add_of_le' hd
  show wp E (d + 1) m_m_when 0 [some (.ref 65), some (.int a1), some (.int a2), none] [] (Hp S) (QI Q)
  refine wp_st (pc' := 2) (L' := [some (.ref 65), some (.int a1), some (.int a2), none]) (st' := [.int 0, .ref 65]) (h' := Hp S) 2 (fun Z => rfl) ?_
  have hw := hw _ rfl
  refine wp_st (pc' := 5) (L' := [some (.ref 65), some (.int a1), some (.int a2), none]) (st' := []) (h' := Hp (up S 65 0 0)) 1 (fun Z => pfI sh65 rfl (Nat.le_of_ble_eq_true rfl) rfl _) ?_
  generalize up S 65 0 0 = S1 at hw ⊢
  refine wp_st (pc' := 7) (L' := [some (.ref 65), some (.int a1), some (.int a2), none]) (st' := [.int a1, .ref 65]) (h' := Hp S1) 2 (fun Z => rfl) ?_
  refine wp_call (pc' := 10) (rest := []) (fun Z => rfl) (isO_of sh65) hw ?_
  rintro o h1 ⟨x2, S3, rfl, rfl, hw⟩
  refine ⟨_, rfl, ?_⟩
  show wp E (d + 1) m_m_when 10 [some (.ref 65), some (.int a1), some (.int a2), none] [.int x2] (Hp S3) (QI Q)
  by_cases hc : x2 = 0
  · rw [if_pos hc] at hw
    refine wp_st (pc' := 22) (L' := [some (.ref 65), some (.int a1), some (.int a2), none]) (st' := []) (h' := Hp S3) 1 (fun Z => if_pos hc) ?_
    refine wp_st (pc' := 23) (L' := [some (.ref 65), some (.int a1), some (.int a2), none]) (st' := [.int 0]) (h' := Hp S3) 1 (fun Z => rfl) ?_
    exact wp_ret (fun Z => rfl) ⟨_, _, rfl, rfl, hw⟩
  · rw [if_neg hc] at hw
    refine wp_st (pc' := 13) (L' := [some (.ref 65), some (.int a1), some (.int a2), none]) (st' := []) (h' := Hp S3) 1 (fun Z => if_neg hc) ?_
    refine wp_st (pc' := 16) (L' := [some (.ref 65), some (.int a1), some (.int a2), none]) (st' := [.int 1, .int a2, .ref 65]) (h' := Hp S3) 3 (fun Z => rfl) ?_
    refine wp_call (pc' := 19) (rest := []) (fun Z => rfl) (isO_of sh65) hw ?_
    rintro o h1 ⟨x4, S5, rfl, rfl, hw⟩
    refine ⟨_, rfl, ?_⟩
    show wp E (d + 1) m_m_when 19 [some (.ref 65), some (.int a1), some (.int a2), none] [.int x4] (Hp S5) (QI Q)
    by_cases hc : x4 = 0
    · rw [if_pos hc] at hw
      refine wp_st (pc' := 22) (L' := [some (.ref 65), some (.int a1), some (.int a2), none]) (st' := []) (h' := Hp S5) 1 (fun Z => if_pos hc) ?_
      refine wp_st (pc' := 23) (L' := [some (.ref 65), some (.int a1), some (.int a2), none]) (st' := [.int 0]) (h' := Hp S5) 1 (fun Z => rfl) ?_
      exact wp_ret (fun Z => rfl) ⟨_, _, rfl, rfl, hw⟩
    · rw [if_neg hc] at hw
      refine wp_st (pc' := 24) (L' := [some (.ref 65), some (.int a1), some (.int a2), none]) (st' := []) (h' := Hp S5) 1 (fun Z => if_neg hc) ?_
      refine wp_st (pc' := 25) (L' := [some (.ref 65), some (.int a1), some (.int a2), none]) (st' := [.ref 65]) (h' := Hp S5) 1 (fun Z => rfl) ?_
      refine wp_call (pc' := 28) (rest := []) (fun Z => rfl) (isO_of sh65) hw ?_
      rintro o h1 ⟨S7, rfl, rfl, hw⟩
      refine ⟨_, rfl, ?_⟩
      show wp E (d + 1) m_m_when 28 [some (.ref 65), some (.int a1), some (.int a2), none] [] (Hp S7) (QI Q)
      exact wp_st 2 (fun Z => rfl) (show wp E (d + 1) m_m_when 30 [some (.ref 65), some (.int a1), some (.int a2), some (.int 1)] [] (Hp S7) (QI Q) from hw)
set_option maxRecDepth 4000 in
theorem w_m_when_30 {E : zX} {d : Nat} {S : St} {a1 : Int32} {a2 : Int32} {a3 : Nat} {Q : Int32 → St → Prop} (hd : 1 ≤ d) 
    (hw : if nI 60 < (nI a3) then (
      Q ((-1) : Int32) S)
    else (
      k_m_dayOf E (d - 1) S 79 (fun S2 =>
      if a2 = 0 then (
        k_m_when_57 E d S2 a1 a2 a3 (S2 65 47) Q)
      else (
        k_m_when_57 E d S2 a1 a2 a3 (S2 65 48) Q)))) :
    k_m_when_30 E d S a1 a2 a3 Q := by
  obtain ⟨d, rfl⟩ := Nat.exists_eq_add_of_le' hd
  show wp E (d + 1) m_m_when 30 [some (.ref 65), some (.int a1), some (.int a2), some (.int (nI a3))] [] (Hp S) (QI Q)
  refine wp_st (pc' := 33) (L' := [some (.ref 65), some (.int a1), some (.int a2), some (.int (nI a3))]) (st' := [.int 60, .int (nI a3)]) (h' := Hp S) 2 (fun Z => rfl) ?_
  by_cases hc : nI 60 < (nI a3)
  · rw [if_pos hc] at hw
    refine wp_st (pc' := 73) (L' := [some (.ref 65), some (.int a1), some (.int a2), some (.int (nI a3))]) (st' := []) (h' := Hp S) 1 (fun Z => if_pos hc) ?_
    refine wp_st (pc' := 74) (L' := [some (.ref 65), some (.int a1), some (.int a2), some (.int (nI a3))]) (st' := [.int (-1)]) (h' := Hp S) 1 (fun Z => congrArg (fun v => Z (d + 1) m_m_when 74 [some (.ref 65), some (.int a1), some (.int a2), some (.int (nI a3))] [.int v] (Hp S)) (show Int32.ofInt (-1) = (-1) by decide)) ?_
    exact wp_ret (fun Z => rfl) ⟨_, _, rfl, rfl, hw⟩
  · rw [if_neg hc] at hw
    refine wp_st (pc' := 36) (L' := [some (.ref 65), some (.int a1), some (.int a2), some (.int (nI a3))]) (st' := []) (h' := Hp S) 1 (fun Z => if_neg hc) ?_
    refine wp_st (pc' := 39) (L' := [some (.ref 65), some (.int a1), some (.int a2), some (.int (nI a3))]) (st' := [.int 79, .ref 65]) (h' := Hp S) 2 (fun Z => rfl) ?_
    refine wp_call (pc' := 42) (rest := []) (fun Z => rfl) (isO_of sh65) hw ?_
    rintro o h1 ⟨S2, rfl, rfl, hw⟩
    refine ⟨_, rfl, ?_⟩
    show wp E (d + 1) m_m_when 42 [some (.ref 65), some (.int a1), some (.int a2), some (.int (nI a3))] [] (Hp S2) (QI Q)
    refine wp_st (pc' := 43) (L' := [some (.ref 65), some (.int a1), some (.int a2), some (.int (nI a3))]) (st' := [.int a2]) (h' := Hp S2) 1 (fun Z => rfl) ?_
    by_cases hc : a2 = 0
    · rw [if_pos hc] at hw
      refine wp_st (pc' := 46) (L' := [some (.ref 65), some (.int a1), some (.int a2), some (.int (nI a3))]) (st' := []) (h' := Hp S2) 1 (fun Z => if_pos hc) ?_
      refine wp_st (pc' := 47) (L' := [some (.ref 65), some (.int a1), some (.int a2), some (.int (nI a3))]) (st' := [.ref 65]) (h' := Hp S2) 1 (fun Z => rfl) ?_
      refine wp_st (pc' := 50) (L' := [some (.ref 65), some (.int a1), some (.int a2), some (.int (nI a3))]) (st' := [.int (S2 65 47)]) (h' := Hp S2) 1 (fun Z => gfI (E := E) sh65 rfl _) ?_
      exact wp_st 1 (fun Z => rfl) (show wp E (d + 1) m_m_when 57 [some (.ref 65), some (.int a1), some (.int a2), some (.int (nI a3))] [.int (S2 65 47)] (Hp S2) (QI Q) from hw)
    · rw [if_neg hc] at hw
      refine wp_st (pc' := 53) (L' := [some (.ref 65), some (.int a1), some (.int a2), some (.int (nI a3))]) (st' := []) (h' := Hp S2) 1 (fun Z => if_neg hc) ?_
      refine wp_st (pc' := 54) (L' := [some (.ref 65), some (.int a1), some (.int a2), some (.int (nI a3))]) (st' := [.ref 65]) (h' := Hp S2) 1 (fun Z => rfl) ?_
      refine wp_st (pc' := 57) (L' := [some (.ref 65), some (.int a1), some (.int a2), some (.int (nI a3))]) (st' := [.int (S2 65 48)]) (h' := Hp S2) 1 (fun Z => gfI (E := E) sh65 rfl _) ?_
      exact (show wp E (d + 1) m_m_when 57 [some (.ref 65), some (.int a1), some (.int a2), some (.int (nI a3))] [.int (S2 65 48)] (Hp S2) (QI Q) from hw)
set_option maxRecDepth 4000 in
theorem w_m_when_57 {E : zX} {d : Nat} {S : St} {a1 : Int32} {a2 : Int32} {a3 : Nat} {s0 : Int32} {Q : Int32 → St → Prop} (hd : 1 ≤ d) 
    (hw : if ((s0 >>> (a1 &&& 31)) &&& (1 : Int32)) = 1 then (
      Q (nI a3) S)
    else (
      k_m_when_30 E d S a1 a2 (a3 + 1) Q)) :
    k_m_when_57 E d S a1 a2 a3 s0 Q := by
  obtain ⟨d, rfl⟩ := Nat.exists_eq_add_of_le' hd
  show wp E (d + 1) m_m_when 57 [some (.ref 65), some (.int a1), some (.int a2), some (.int (nI a3))] [.int s0] (Hp S) (QI Q)
  refine wp_st (pc' := 62) (L' := [some (.ref 65), some (.int a1), some (.int a2), some (.int (nI a3))]) (st' := [.int 1, .int ((s0 >>> (a1 &&& 31)) &&& (1 : Int32))]) (h' := Hp S) 5 (fun Z => rfl) ?_
  by_cases hc : ((s0 >>> (a1 &&& 31)) &&& (1 : Int32)) = 1
  · rw [if_pos hc] at hw
    refine wp_st (pc' := 65) (L' := [some (.ref 65), some (.int a1), some (.int a2), some (.int (nI a3))]) (st' := []) (h' := Hp S) 1 (fun Z => if_pos hc) ?_
    refine wp_st (pc' := 66) (L' := [some (.ref 65), some (.int a1), some (.int a2), some (.int (nI a3))]) (st' := [.int (nI a3)]) (h' := Hp S) 1 (fun Z => rfl) ?_
    exact wp_ret (fun Z => rfl) ⟨_, _, rfl, rfl, hw⟩
  · rw [if_neg hc] at hw
    refine wp_st (pc' := 67) (L' := [some (.ref 65), some (.int a1), some (.int a2), some (.int (nI a3))]) (st' := []) (h' := Hp S) 1 (fun Z => if_neg hc) ?_
    refine wp_st (pc' := 70) (L' := [some (.ref 65), some (.int a1), some (.int a2), some (.int (nI (a3 + 1)))]) (st' := []) (h' := Hp S) 1 (fun Z => by rw [← nI_add a3 1]; rfl) ?_
    exact wp_st 1 (fun Z => rfl) (show wp E (d + 1) m_m_when 30 [some (.ref 65), some (.int a1), some (.int a2), some (.int (nI (a3 + 1)))] [] (Hp S) (QI Q) from hw)
set_option maxRecDepth 4000 in
theorem w_m_stays {E : zX} {d : Nat} {S : St} {a1 : Int32} {a2 : Int32} {Q : Int32 → St → Prop} (hd : 1 ≤ d) 
    (hw : ∀ S1, S1 = up S 65 0 0 →
    k_m_isPerson E (d - 1) S1 a1 (fun x2 S3 =>
    if x2 = 0 then (
      Q (0 : Int32) S3)
    else (
      k_m_isSoon E (d - 1) S3 a2 1 2 (fun x4 S5 =>
      if x4 = 0 then (
        Q (0 : Int32) S5)
      else (
        k_m_tries E (d - 1) S5 (fun S7 =>
        k_m_stays_34 E d S7 a1 a2 0 0 Q)))))) :
    k_m_stays E d S a1 a2 Q := by
  obtain ⟨d, rfl⟩ := Nat.exists_eq_add_of_le' hd
  show wp E (d + 1) m_m_stays 0 [some (.ref 65), some (.int a1), some (.int a2), none, none] [] (Hp S) (QI Q)
  refine wp_st (pc' := 2) (L' := [some (.ref 65), some (.int a1), some (.int a2), none, none]) (st' := [.int 0, .ref 65]) (h' := Hp S) 2 (fun Z => rfl) ?_
  have hw := hw _ rfl
  refine wp_st (pc' := 5) (L' := [some (.ref 65), some (.int a1), some (.int a2), none, none]) (st' := []) (h' := Hp (up S 65 0 0)) 1 (fun Z => pfI sh65 rfl (Nat.le_of_ble_eq_true rfl) rfl _) ?_
  generalize up S 65 0 0 = S1 at hw ⊢
  refine wp_st (pc' := 7) (L' := [some (.ref 65), some (.int a1), some (.int a2), none, none]) (st' := [.int a1, .ref 65]) (h' := Hp S1) 2 (fun Z => rfl) ?_
  refine wp_call (pc' := 10) (rest := []) (fun Z => rfl) (isO_of sh65) hw ?_
  rintro o h1 ⟨x2, S3, rfl, rfl, hw⟩
  refine ⟨_, rfl, ?_⟩
  show wp E (d + 1) m_m_stays 10 [some (.ref 65), some (.int a1), some (.int a2), none, none] [.int x2] (Hp S3) (QI Q)
  by_cases hc : x2 = 0
  · rw [if_pos hc] at hw
    refine wp_st (pc' := 23) (L' := [some (.ref 65), some (.int a1), some (.int a2), none, none]) (st' := []) (h' := Hp S3) 1 (fun Z => if_pos hc) ?_
    refine wp_st (pc' := 24) (L' := [some (.ref 65), some (.int a1), some (.int a2), none, none]) (st' := [.int 0]) (h' := Hp S3) 1 (fun Z => rfl) ?_
    exact wp_ret (fun Z => rfl) ⟨_, _, rfl, rfl, hw⟩
  · rw [if_neg hc] at hw
    refine wp_st (pc' := 13) (L' := [some (.ref 65), some (.int a1), some (.int a2), none, none]) (st' := []) (h' := Hp S3) 1 (fun Z => if_neg hc) ?_
    refine wp_st (pc' := 17) (L' := [some (.ref 65), some (.int a1), some (.int a2), none, none]) (st' := [.int 2, .int 1, .int a2, .ref 65]) (h' := Hp S3) 4 (fun Z => rfl) ?_
    refine wp_call (pc' := 20) (rest := []) (fun Z => rfl) (isO_of sh65) hw ?_
    rintro o h1 ⟨x4, S5, rfl, rfl, hw⟩
    refine ⟨_, rfl, ?_⟩
    show wp E (d + 1) m_m_stays 20 [some (.ref 65), some (.int a1), some (.int a2), none, none] [.int x4] (Hp S5) (QI Q)
    by_cases hc : x4 = 0
    · rw [if_pos hc] at hw
      refine wp_st (pc' := 23) (L' := [some (.ref 65), some (.int a1), some (.int a2), none, none]) (st' := []) (h' := Hp S5) 1 (fun Z => if_pos hc) ?_
      refine wp_st (pc' := 24) (L' := [some (.ref 65), some (.int a1), some (.int a2), none, none]) (st' := [.int 0]) (h' := Hp S5) 1 (fun Z => rfl) ?_
      exact wp_ret (fun Z => rfl) ⟨_, _, rfl, rfl, hw⟩
    · rw [if_neg hc] at hw
      refine wp_st (pc' := 25) (L' := [some (.ref 65), some (.int a1), some (.int a2), none, none]) (st' := []) (h' := Hp S5) 1 (fun Z => if_neg hc) ?_
      refine wp_st (pc' := 28) (L' := [some (.ref 65), some (.int a1), some (.int a2), some (.int 0), none]) (st' := [.ref 65]) (h' := Hp S5) 3 (fun Z => rfl) ?_
      refine wp_call (pc' := 31) (rest := []) (fun Z => rfl) (isO_of sh65) hw ?_
      rintro o h1 ⟨S7, rfl, rfl, hw⟩
      refine ⟨_, rfl, ?_⟩
      show wp E (d + 1) m_m_stays 31 [some (.ref 65), some (.int a1), some (.int a2), some (.int 0), none] [] (Hp S7) (QI Q)
      exact wp_st 2 (fun Z => rfl) (show wp E (d + 1) m_m_stays 34 [some (.ref 65), some (.int a1), some (.int a2), some (.int 0), some (.int 0)] [] (Hp S7) (QI Q) from hw)
set_option maxRecDepth 4000 in
theorem w_m_stays_34 {E : zX} {d : Nat} {S : St} {a1 : Int32} {a2 : Int32} {a3 : Int32} {a4 : Nat} {Q : Int32 → St → Prop} (hd : 1 ≤ d) 
    (hw : if a2 ≤ (nI a4) then (
      Q a3 S)
    else (
      k_m_dayOf E (d - 1) S 79 (fun S2 =>
      k_m_ownOnes E (d - 1) S2 79 a1 (fun x3 S4 =>
      k_m_bits E (d - 1) S4 x3 (fun x5 S6 =>
      k_m_stays_34 E d S6 a1 a2 (a3 + x5) (a4 + 1) Q))))) :
    k_m_stays_34 E d S a1 a2 a3 a4 Q := by
  obtain ⟨d, rfl⟩ := Nat.exists_eq_add_of_le' hd
  show wp E (d + 1) m_m_stays 34 [some (.ref 65), some (.int a1), some (.int a2), some (.int a3), some (.int (nI a4))] [] (Hp S) (QI Q)
  refine wp_st (pc' := 37) (L' := [some (.ref 65), some (.int a1), some (.int a2), some (.int a3), some (.int (nI a4))]) (st' := [.int a2, .int (nI a4)]) (h' := Hp S) 2 (fun Z => rfl) ?_
  by_cases hc : a2 ≤ (nI a4)
  · rw [if_pos hc] at hw
    refine wp_st (pc' := 65) (L' := [some (.ref 65), some (.int a1), some (.int a2), some (.int a3), some (.int (nI a4))]) (st' := []) (h' := Hp S) 1 (fun Z => if_pos hc) ?_
    refine wp_st (pc' := 66) (L' := [some (.ref 65), some (.int a1), some (.int a2), some (.int a3), some (.int (nI a4))]) (st' := [.int a3]) (h' := Hp S) 1 (fun Z => rfl) ?_
    exact wp_ret (fun Z => rfl) ⟨_, _, rfl, rfl, hw⟩
  · rw [if_neg hc] at hw
    refine wp_st (pc' := 40) (L' := [some (.ref 65), some (.int a1), some (.int a2), some (.int a3), some (.int (nI a4))]) (st' := []) (h' := Hp S) 1 (fun Z => if_neg hc) ?_
    refine wp_st (pc' := 43) (L' := [some (.ref 65), some (.int a1), some (.int a2), some (.int a3), some (.int (nI a4))]) (st' := [.int 79, .ref 65]) (h' := Hp S) 2 (fun Z => rfl) ?_
    refine wp_call (pc' := 46) (rest := []) (fun Z => rfl) (isO_of sh65) hw ?_
    rintro o h1 ⟨S2, rfl, rfl, hw⟩
    refine ⟨_, rfl, ?_⟩
    show wp E (d + 1) m_m_stays 46 [some (.ref 65), some (.int a1), some (.int a2), some (.int a3), some (.int (nI a4))] [] (Hp S2) (QI Q)
    refine wp_st (pc' := 51) (L' := [some (.ref 65), some (.int a1), some (.int a2), some (.int a3), some (.int (nI a4))]) (st' := [.int a1, .int 79, .ref 65, .int a3]) (h' := Hp S2) 4 (fun Z => rfl) ?_
    refine wp_call (pc' := 54) (rest := [.int a3]) (fun Z => rfl) (isO_of sh65) hw ?_
    rintro o h1 ⟨x3, S4, rfl, rfl, hw⟩
    refine ⟨_, rfl, ?_⟩
    show wp E (d + 1) m_m_stays 54 [some (.ref 65), some (.int a1), some (.int a2), some (.int a3), some (.int (nI a4))] [.int x3, .int a3] (Hp S4) (QI Q)
    refine wp_call (pc' := 57) (rest := [.int a3]) (fun Z => rfl) rfl hw ?_
    rintro o h1 ⟨x5, S6, rfl, rfl, hw⟩
    refine ⟨_, rfl, ?_⟩
    show wp E (d + 1) m_m_stays 57 [some (.ref 65), some (.int a1), some (.int a2), some (.int a3), some (.int (nI a4))] [.int x5, .int a3] (Hp S6) (QI Q)
    refine wp_st (pc' := 59) (L' := [some (.ref 65), some (.int a1), some (.int a2), some (.int (a3 + x5)), some (.int (nI a4))]) (st' := []) (h' := Hp S6) 2 (fun Z => rfl) ?_
    refine wp_st (pc' := 62) (L' := [some (.ref 65), some (.int a1), some (.int a2), some (.int (a3 + x5)), some (.int (nI (a4 + 1)))]) (st' := []) (h' := Hp S6) 1 (fun Z => by rw [← nI_add a4 1]; rfl) ?_
    exact wp_st 1 (fun Z => rfl) (show wp E (d + 1) m_m_stays 34 [some (.ref 65), some (.int a1), some (.int a2), some (.int (a3 + x5)), some (.int (nI (a4 + 1)))] [] (Hp S6) (QI Q) from hw)
set_option maxRecDepth 4000 in
theorem w_m_toGuard {E : zX} {d : Nat} {S : St} {a1 : Int32} {a2 : Int32} {Q : Int32 → St → Prop} (hd : 1 ≤ d) 
    (hw : ∀ S1, S1 = up S 65 0 0 →
    k_m_isBall E (d - 1) S1 a1 (fun x2 S3 =>
    if x2 = 0 then (
      if (S3 65 0) = 0 then (
        Q ((-1) : Int32) S3)
      else (
        Q (0 : Int32) S3))
    else (
      k_m_isBall E (d - 1) S3 a2 (fun x4 S5 =>
      if x4 = 0 then (
        if (S5 65 0) = 0 then (
          Q ((-1) : Int32) S5)
        else (
          Q (0 : Int32) S5))
      else (
        if a1 = a2 then (
          if (S5 65 0) = 0 then (
            Q ((-1) : Int32) S5)
          else (
            Q (0 : Int32) S5))
        else (
          k_m_isWhite E (d - 1) S5 0 a1 (fun x6 S7 =>
          if x6 = 0 then (
            k_m_toGuard_75 E d S7 a1 a2 ((((1 : Int32) <<< ((S7 65 4) &&& 31)) - (1 : Int32)) &&& ((((1 : Int32) <<< (a1 &&& 31)) ||| ((1 : Int32) <<< (a2 &&& 31))) ^^^ ((-1) : Int32))) (-1) 0 Q)
          else (
            Q (0 : Int32) S7)))))))) :
    k_m_toGuard E d S a1 a2 Q := by
  obtain ⟨d, rfl⟩ := Nat.exists_eq_add_of_le' hd
  show wp E (d + 1) m_m_toGuard 0 [some (.ref 65), some (.int a1), some (.int a2), none, none, none] [] (Hp S) (QI Q)
  refine wp_st (pc' := 2) (L' := [some (.ref 65), some (.int a1), some (.int a2), none, none, none]) (st' := [.int 0, .ref 65]) (h' := Hp S) 2 (fun Z => rfl) ?_
  have hw := hw _ rfl
  refine wp_st (pc' := 5) (L' := [some (.ref 65), some (.int a1), some (.int a2), none, none, none]) (st' := []) (h' := Hp (up S 65 0 0)) 1 (fun Z => pfI sh65 rfl (Nat.le_of_ble_eq_true rfl) rfl _) ?_
  generalize up S 65 0 0 = S1 at hw ⊢
  refine wp_st (pc' := 7) (L' := [some (.ref 65), some (.int a1), some (.int a2), none, none, none]) (st' := [.int a1, .ref 65]) (h' := Hp S1) 2 (fun Z => rfl) ?_
  refine wp_call (pc' := 10) (rest := []) (fun Z => rfl) (isO_of sh65) hw ?_
  rintro o h1 ⟨x2, S3, rfl, rfl, hw⟩
  refine ⟨_, rfl, ?_⟩
  show wp E (d + 1) m_m_toGuard 10 [some (.ref 65), some (.int a1), some (.int a2), none, none, none] [.int x2] (Hp S3) (QI Q)
  by_cases hc : x2 = 0
  · rw [if_pos hc] at hw
    refine wp_st (pc' := 26) (L' := [some (.ref 65), some (.int a1), some (.int a2), none, none, none]) (st' := []) (h' := Hp S3) 1 (fun Z => if_pos hc) ?_
    refine wp_st (pc' := 27) (L' := [some (.ref 65), some (.int a1), some (.int a2), none, none, none]) (st' := [.ref 65]) (h' := Hp S3) 1 (fun Z => rfl) ?_
    refine wp_st (pc' := 30) (L' := [some (.ref 65), some (.int a1), some (.int a2), none, none, none]) (st' := [.int (S3 65 0)]) (h' := Hp S3) 1 (fun Z => gfI (E := E) sh65 rfl _) ?_
    by_cases hc : (S3 65 0) = 0
    · rw [if_pos hc] at hw
      refine wp_st (pc' := 33) (L' := [some (.ref 65), some (.int a1), some (.int a2), none, none, none]) (st' := []) (h' := Hp S3) 1 (fun Z => if_pos hc) ?_
      refine wp_st (pc' := 34) (L' := [some (.ref 65), some (.int a1), some (.int a2), none, none, none]) (st' := [.int (-1)]) (h' := Hp S3) 1 (fun Z => congrArg (fun v => Z (d + 1) m_m_toGuard 34 [some (.ref 65), some (.int a1), some (.int a2), none, none, none] [.int v] (Hp S3)) (show Int32.ofInt (-1) = (-1) by decide)) ?_
      refine wp_st (pc' := 38) (L' := [some (.ref 65), some (.int a1), some (.int a2), none, none, none]) (st' := [.int (-1)]) (h' := Hp S3) 1 (fun Z => rfl) ?_
      exact wp_ret (fun Z => rfl) ⟨_, _, rfl, rfl, hw⟩
    · rw [if_neg hc] at hw
      refine wp_st (pc' := 37) (L' := [some (.ref 65), some (.int a1), some (.int a2), none, none, none]) (st' := []) (h' := Hp S3) 1 (fun Z => if_neg hc) ?_
      refine wp_st (pc' := 38) (L' := [some (.ref 65), some (.int a1), some (.int a2), none, none, none]) (st' := [.int 0]) (h' := Hp S3) 1 (fun Z => rfl) ?_
      exact wp_ret (fun Z => rfl) ⟨_, _, rfl, rfl, hw⟩
  · rw [if_neg hc] at hw
    refine wp_st (pc' := 13) (L' := [some (.ref 65), some (.int a1), some (.int a2), none, none, none]) (st' := []) (h' := Hp S3) 1 (fun Z => if_neg hc) ?_
    refine wp_st (pc' := 15) (L' := [some (.ref 65), some (.int a1), some (.int a2), none, none, none]) (st' := [.int a2, .ref 65]) (h' := Hp S3) 2 (fun Z => rfl) ?_
    refine wp_call (pc' := 18) (rest := []) (fun Z => rfl) (isO_of sh65) hw ?_
    rintro o h1 ⟨x4, S5, rfl, rfl, hw⟩
    refine ⟨_, rfl, ?_⟩
    show wp E (d + 1) m_m_toGuard 18 [some (.ref 65), some (.int a1), some (.int a2), none, none, none] [.int x4] (Hp S5) (QI Q)
    by_cases hc : x4 = 0
    · rw [if_pos hc] at hw
      refine wp_st (pc' := 26) (L' := [some (.ref 65), some (.int a1), some (.int a2), none, none, none]) (st' := []) (h' := Hp S5) 1 (fun Z => if_pos hc) ?_
      refine wp_st (pc' := 27) (L' := [some (.ref 65), some (.int a1), some (.int a2), none, none, none]) (st' := [.ref 65]) (h' := Hp S5) 1 (fun Z => rfl) ?_
      refine wp_st (pc' := 30) (L' := [some (.ref 65), some (.int a1), some (.int a2), none, none, none]) (st' := [.int (S5 65 0)]) (h' := Hp S5) 1 (fun Z => gfI (E := E) sh65 rfl _) ?_
      by_cases hc : (S5 65 0) = 0
      · rw [if_pos hc] at hw
        refine wp_st (pc' := 33) (L' := [some (.ref 65), some (.int a1), some (.int a2), none, none, none]) (st' := []) (h' := Hp S5) 1 (fun Z => if_pos hc) ?_
        refine wp_st (pc' := 34) (L' := [some (.ref 65), some (.int a1), some (.int a2), none, none, none]) (st' := [.int (-1)]) (h' := Hp S5) 1 (fun Z => congrArg (fun v => Z (d + 1) m_m_toGuard 34 [some (.ref 65), some (.int a1), some (.int a2), none, none, none] [.int v] (Hp S5)) (show Int32.ofInt (-1) = (-1) by decide)) ?_
        refine wp_st (pc' := 38) (L' := [some (.ref 65), some (.int a1), some (.int a2), none, none, none]) (st' := [.int (-1)]) (h' := Hp S5) 1 (fun Z => rfl) ?_
        exact wp_ret (fun Z => rfl) ⟨_, _, rfl, rfl, hw⟩
      · rw [if_neg hc] at hw
        refine wp_st (pc' := 37) (L' := [some (.ref 65), some (.int a1), some (.int a2), none, none, none]) (st' := []) (h' := Hp S5) 1 (fun Z => if_neg hc) ?_
        refine wp_st (pc' := 38) (L' := [some (.ref 65), some (.int a1), some (.int a2), none, none, none]) (st' := [.int 0]) (h' := Hp S5) 1 (fun Z => rfl) ?_
        exact wp_ret (fun Z => rfl) ⟨_, _, rfl, rfl, hw⟩
    · rw [if_neg hc] at hw
      refine wp_st (pc' := 21) (L' := [some (.ref 65), some (.int a1), some (.int a2), none, none, none]) (st' := []) (h' := Hp S5) 1 (fun Z => if_neg hc) ?_
      refine wp_st (pc' := 23) (L' := [some (.ref 65), some (.int a1), some (.int a2), none, none, none]) (st' := [.int a2, .int a1]) (h' := Hp S5) 2 (fun Z => rfl) ?_
      by_cases hc : a1 = a2
      · rw [if_pos hc] at hw
        refine wp_st (pc' := 26) (L' := [some (.ref 65), some (.int a1), some (.int a2), none, none, none]) (st' := []) (h' := Hp S5) 1 (fun Z => if_pos hc) ?_
        refine wp_st (pc' := 27) (L' := [some (.ref 65), some (.int a1), some (.int a2), none, none, none]) (st' := [.ref 65]) (h' := Hp S5) 1 (fun Z => rfl) ?_
        refine wp_st (pc' := 30) (L' := [some (.ref 65), some (.int a1), some (.int a2), none, none, none]) (st' := [.int (S5 65 0)]) (h' := Hp S5) 1 (fun Z => gfI (E := E) sh65 rfl _) ?_
        by_cases hc : (S5 65 0) = 0
        · rw [if_pos hc] at hw
          refine wp_st (pc' := 33) (L' := [some (.ref 65), some (.int a1), some (.int a2), none, none, none]) (st' := []) (h' := Hp S5) 1 (fun Z => if_pos hc) ?_
          refine wp_st (pc' := 34) (L' := [some (.ref 65), some (.int a1), some (.int a2), none, none, none]) (st' := [.int (-1)]) (h' := Hp S5) 1 (fun Z => congrArg (fun v => Z (d + 1) m_m_toGuard 34 [some (.ref 65), some (.int a1), some (.int a2), none, none, none] [.int v] (Hp S5)) (show Int32.ofInt (-1) = (-1) by decide)) ?_
          refine wp_st (pc' := 38) (L' := [some (.ref 65), some (.int a1), some (.int a2), none, none, none]) (st' := [.int (-1)]) (h' := Hp S5) 1 (fun Z => rfl) ?_
          exact wp_ret (fun Z => rfl) ⟨_, _, rfl, rfl, hw⟩
        · rw [if_neg hc] at hw
          refine wp_st (pc' := 37) (L' := [some (.ref 65), some (.int a1), some (.int a2), none, none, none]) (st' := []) (h' := Hp S5) 1 (fun Z => if_neg hc) ?_
          refine wp_st (pc' := 38) (L' := [some (.ref 65), some (.int a1), some (.int a2), none, none, none]) (st' := [.int 0]) (h' := Hp S5) 1 (fun Z => rfl) ?_
          exact wp_ret (fun Z => rfl) ⟨_, _, rfl, rfl, hw⟩
      · rw [if_neg hc] at hw
        refine wp_st (pc' := 39) (L' := [some (.ref 65), some (.int a1), some (.int a2), none, none, none]) (st' := []) (h' := Hp S5) 1 (fun Z => if_neg hc) ?_
        refine wp_st (pc' := 42) (L' := [some (.ref 65), some (.int a1), some (.int a2), none, none, none]) (st' := [.int a1, .int 0, .ref 65]) (h' := Hp S5) 3 (fun Z => rfl) ?_
        refine wp_call (pc' := 45) (rest := []) (fun Z => rfl) (isO_of sh65) hw ?_
        rintro o h1 ⟨x6, S7, rfl, rfl, hw⟩
        refine ⟨_, rfl, ?_⟩
        show wp E (d + 1) m_m_toGuard 45 [some (.ref 65), some (.int a1), some (.int a2), none, none, none] [.int x6] (Hp S7) (QI Q)
        by_cases hc : x6 = 0
        · rw [if_pos hc] at hw
          refine wp_st (pc' := 50) (L' := [some (.ref 65), some (.int a1), some (.int a2), none, none, none]) (st' := []) (h' := Hp S7) 1 (fun Z => if_pos hc) ?_
          refine wp_st (pc' := 52) (L' := [some (.ref 65), some (.int a1), some (.int a2), none, none, none]) (st' := [.ref 65, .int 1]) (h' := Hp S7) 2 (fun Z => rfl) ?_
          refine wp_st (pc' := 55) (L' := [some (.ref 65), some (.int a1), some (.int a2), none, none, none]) (st' := [.int (S7 65 4), .int 1]) (h' := Hp S7) 1 (fun Z => gfI (E := E) sh65 rfl _) ?_
          refine wp_st (pc' := 65) (L' := [some (.ref 65), some (.int a1), some (.int a2), none, none, none]) (st' := [.int (((1 : Int32) <<< (a1 &&& 31)) ||| ((1 : Int32) <<< (a2 &&& 31))), .int (((1 : Int32) <<< ((S7 65 4) &&& 31)) - (1 : Int32))]) (h' := Hp S7) 10 (fun Z => rfl) ?_
          refine wp_st (pc' := 66) (L' := [some (.ref 65), some (.int a1), some (.int a2), none, none, none]) (st' := [.int (-1), .int (((1 : Int32) <<< (a1 &&& 31)) ||| ((1 : Int32) <<< (a2 &&& 31))), .int (((1 : Int32) <<< ((S7 65 4) &&& 31)) - (1 : Int32))]) (h' := Hp S7) 1 (fun Z => congrArg (fun v => Z (d + 1) m_m_toGuard 66 [some (.ref 65), some (.int a1), some (.int a2), none, none, none] [.int v, .int (((1 : Int32) <<< (a1 &&& 31)) ||| ((1 : Int32) <<< (a2 &&& 31))), .int (((1 : Int32) <<< ((S7 65 4) &&& 31)) - (1 : Int32))] (Hp S7)) (show Int32.ofInt (-1) = (-1) by decide)) ?_
          refine wp_st (pc' := 69) (L' := [some (.ref 65), some (.int a1), some (.int a2), some (.int ((((1 : Int32) <<< ((S7 65 4) &&& 31)) - (1 : Int32)) &&& ((((1 : Int32) <<< (a1 &&& 31)) ||| ((1 : Int32) <<< (a2 &&& 31))) ^^^ ((-1) : Int32)))), none, none]) (st' := []) (h' := Hp S7) 3 (fun Z => rfl) ?_
          refine wp_st (pc' := 70) (L' := [some (.ref 65), some (.int a1), some (.int a2), some (.int ((((1 : Int32) <<< ((S7 65 4) &&& 31)) - (1 : Int32)) &&& ((((1 : Int32) <<< (a1 &&& 31)) ||| ((1 : Int32) <<< (a2 &&& 31))) ^^^ ((-1) : Int32)))), none, none]) (st' := [.int (-1)]) (h' := Hp S7) 1 (fun Z => congrArg (fun v => Z (d + 1) m_m_toGuard 70 [some (.ref 65), some (.int a1), some (.int a2), some (.int ((((1 : Int32) <<< ((S7 65 4) &&& 31)) - (1 : Int32)) &&& ((((1 : Int32) <<< (a1 &&& 31)) ||| ((1 : Int32) <<< (a2 &&& 31))) ^^^ ((-1) : Int32)))), none, none] [.int v] (Hp S7)) (show Int32.ofInt (-1) = (-1) by decide)) ?_
          exact wp_st 3 (fun Z => rfl) (show wp E (d + 1) m_m_toGuard 75 [some (.ref 65), some (.int a1), some (.int a2), some (.int ((((1 : Int32) <<< ((S7 65 4) &&& 31)) - (1 : Int32)) &&& ((((1 : Int32) <<< (a1 &&& 31)) ||| ((1 : Int32) <<< (a2 &&& 31))) ^^^ ((-1) : Int32)))), some (.int (-1)), some (.int 0)] [] (Hp S7) (QI Q) from hw)
        · rw [if_neg hc] at hw
          refine wp_st (pc' := 48) (L' := [some (.ref 65), some (.int a1), some (.int a2), none, none, none]) (st' := []) (h' := Hp S7) 1 (fun Z => if_neg hc) ?_
          refine wp_st (pc' := 49) (L' := [some (.ref 65), some (.int a1), some (.int a2), none, none, none]) (st' := [.int 0]) (h' := Hp S7) 1 (fun Z => rfl) ?_
          exact wp_ret (fun Z => rfl) ⟨_, _, rfl, rfl, hw⟩
set_option maxRecDepth 4000 in
theorem w_m_toGuard_75 {E : zX} {d : Nat} {S : St} {a1 : Int32} {a2 : Int32} {a3 : Int32} {a4 : Int32} {a5 : Nat} {Q : Int32 → St → Prop} (hd : 1 ≤ d) 
    (hw : if ((1 : Int32) <<< ((S 65 4) &&& 31)) ≤ (nI a5) then (
      Q a4 S)
    else (
      if ((nI a5) &&& (a3 ^^^ ((-1) : Int32))) = 0 then (
        if a4 = (-1) then (
          k_m_toGuard_117 E d S a1 a2 a3 a4 a5 Q)
        else (
          k_m_bits E (d - 1) S (nI a5) (fun x1 S2 =>
          k_m_bits E (d - 1) S2 a4 (fun x3 S4 =>
          if x1 < x3 then (
            k_m_toGuard_117 E d S4 a1 a2 a3 a4 a5 Q)
          else (
            k_m_toGuard_75 E d S4 a1 a2 a3 a4 (a5 + 1) Q)))))
      else (
        k_m_toGuard_75 E d S a1 a2 a3 a4 (a5 + 1) Q))) :
    k_m_toGuard_75 E d S a1 a2 a3 a4 a5 Q := by
  obtain ⟨d, rfl⟩ := Nat.exists_eq_add_of_le' hd
  show wp E (d + 1) m_m_toGuard 75 [some (.ref 65), some (.int a1), some (.int a2), some (.int a3), some (.int a4), some (.int (nI a5))] [] (Hp S) (QI Q)
  refine wp_st (pc' := 79) (L' := [some (.ref 65), some (.int a1), some (.int a2), some (.int a3), some (.int a4), some (.int (nI a5))]) (st' := [.ref 65, .int 1, .int (nI a5)]) (h' := Hp S) 3 (fun Z => rfl) ?_
  refine wp_st (pc' := 82) (L' := [some (.ref 65), some (.int a1), some (.int a2), some (.int a3), some (.int a4), some (.int (nI a5))]) (st' := [.int (S 65 4), .int 1, .int (nI a5)]) (h' := Hp S) 1 (fun Z => gfI (E := E) sh65 rfl _) ?_
  refine wp_st (pc' := 83) (L' := [some (.ref 65), some (.int a1), some (.int a2), some (.int a3), some (.int a4), some (.int (nI a5))]) (st' := [.int ((1 : Int32) <<< ((S 65 4) &&& 31)), .int (nI a5)]) (h' := Hp S) 1 (fun Z => rfl) ?_
  by_cases hc : ((1 : Int32) <<< ((S 65 4) &&& 31)) ≤ (nI a5)
  · rw [if_pos hc] at hw
    refine wp_st (pc' := 152) (L' := [some (.ref 65), some (.int a1), some (.int a2), some (.int a3), some (.int a4), some (.int (nI a5))]) (st' := []) (h' := Hp S) 1 (fun Z => if_pos hc) ?_
    refine wp_st (pc' := 154) (L' := [some (.ref 65), some (.int a1), some (.int a2), some (.int a3), some (.int a4), some (.int (nI a5))]) (st' := [.int a4]) (h' := Hp S) 1 (fun Z => rfl) ?_
    exact wp_ret (fun Z => rfl) ⟨_, _, rfl, rfl, hw⟩
  · rw [if_neg hc] at hw
    refine wp_st (pc' := 86) (L' := [some (.ref 65), some (.int a1), some (.int a2), some (.int a3), some (.int a4), some (.int (nI a5))]) (st' := []) (h' := Hp S) 1 (fun Z => if_neg hc) ?_
    refine wp_st (pc' := 89) (L' := [some (.ref 65), some (.int a1), some (.int a2), some (.int a3), some (.int a4), some (.int (nI a5))]) (st' := [.int a3, .int (nI a5)]) (h' := Hp S) 2 (fun Z => rfl) ?_
    refine wp_st (pc' := 90) (L' := [some (.ref 65), some (.int a1), some (.int a2), some (.int a3), some (.int a4), some (.int (nI a5))]) (st' := [.int (-1), .int a3, .int (nI a5)]) (h' := Hp S) 1 (fun Z => congrArg (fun v => Z (d + 1) m_m_toGuard 90 [some (.ref 65), some (.int a1), some (.int a2), some (.int a3), some (.int a4), some (.int (nI a5))] [.int v, .int a3, .int (nI a5)] (Hp S)) (show Int32.ofInt (-1) = (-1) by decide)) ?_
    refine wp_st (pc' := 92) (L' := [some (.ref 65), some (.int a1), some (.int a2), some (.int a3), some (.int a4), some (.int (nI a5))]) (st' := [.int ((nI a5) &&& (a3 ^^^ ((-1) : Int32)))]) (h' := Hp S) 2 (fun Z => rfl) ?_
    by_cases hc : ((nI a5) &&& (a3 ^^^ ((-1) : Int32))) = 0
    · rw [if_pos hc] at hw
      refine wp_st (pc' := 95) (L' := [some (.ref 65), some (.int a1), some (.int a2), some (.int a3), some (.int a4), some (.int (nI a5))]) (st' := []) (h' := Hp S) 1 (fun Z => if_pos hc) ?_
      refine wp_st (pc' := 97) (L' := [some (.ref 65), some (.int a1), some (.int a2), some (.int a3), some (.int a4), some (.int (nI a5))]) (st' := [.int a4]) (h' := Hp S) 1 (fun Z => rfl) ?_
      refine wp_st (pc' := 98) (L' := [some (.ref 65), some (.int a1), some (.int a2), some (.int a3), some (.int a4), some (.int (nI a5))]) (st' := [.int (-1), .int a4]) (h' := Hp S) 1 (fun Z => congrArg (fun v => Z (d + 1) m_m_toGuard 98 [some (.ref 65), some (.int a1), some (.int a2), some (.int a3), some (.int a4), some (.int (nI a5))] [.int v, .int a4] (Hp S)) (show Int32.ofInt (-1) = (-1) by decide)) ?_
      by_cases hc : a4 = (-1)
      · rw [if_pos hc] at hw
        refine wp_st (pc' := 117) (L' := [some (.ref 65), some (.int a1), some (.int a2), some (.int a3), some (.int a4), some (.int (nI a5))]) (st' := []) (h' := Hp S) 1 (fun Z => if_pos hc) ?_
        exact (show wp E (d + 1) m_m_toGuard 117 [some (.ref 65), some (.int a1), some (.int a2), some (.int a3), some (.int a4), some (.int (nI a5))] [] (Hp S) (QI Q) from hw)
      · rw [if_neg hc] at hw
        refine wp_st (pc' := 101) (L' := [some (.ref 65), some (.int a1), some (.int a2), some (.int a3), some (.int a4), some (.int (nI a5))]) (st' := []) (h' := Hp S) 1 (fun Z => if_neg hc) ?_
        refine wp_st (pc' := 103) (L' := [some (.ref 65), some (.int a1), some (.int a2), some (.int a3), some (.int a4), some (.int (nI a5))]) (st' := [.int (nI a5)]) (h' := Hp S) 1 (fun Z => rfl) ?_
        refine wp_call (pc' := 106) (rest := []) (fun Z => rfl) rfl hw ?_
        rintro o h1 ⟨x1, S2, rfl, rfl, hw⟩
        refine ⟨_, rfl, ?_⟩
        show wp E (d + 1) m_m_toGuard 106 [some (.ref 65), some (.int a1), some (.int a2), some (.int a3), some (.int a4), some (.int (nI a5))] [.int x1] (Hp S2) (QI Q)
        refine wp_st (pc' := 108) (L' := [some (.ref 65), some (.int a1), some (.int a2), some (.int a3), some (.int a4), some (.int (nI a5))]) (st' := [.int a4, .int x1]) (h' := Hp S2) 1 (fun Z => rfl) ?_
        refine wp_call (pc' := 111) (rest := [.int x1]) (fun Z => rfl) rfl hw ?_
        rintro o h1 ⟨x3, S4, rfl, rfl, hw⟩
        refine ⟨_, rfl, ?_⟩
        show wp E (d + 1) m_m_toGuard 111 [some (.ref 65), some (.int a1), some (.int a2), some (.int a3), some (.int a4), some (.int (nI a5))] [.int x3, .int x1] (Hp S4) (QI Q)
        by_cases hc : x1 < x3
        · rw [if_pos hc] at hw
          refine wp_st (pc' := 117) (L' := [some (.ref 65), some (.int a1), some (.int a2), some (.int a3), some (.int a4), some (.int (nI a5))]) (st' := []) (h' := Hp S4) 1 (fun Z => if_pos hc) ?_
          exact (show wp E (d + 1) m_m_toGuard 117 [some (.ref 65), some (.int a1), some (.int a2), some (.int a3), some (.int a4), some (.int (nI a5))] [] (Hp S4) (QI Q) from hw)
        · rw [if_neg hc] at hw
          refine wp_st (pc' := 114) (L' := [some (.ref 65), some (.int a1), some (.int a2), some (.int a3), some (.int a4), some (.int (nI a5))]) (st' := []) (h' := Hp S4) 1 (fun Z => if_neg hc) ?_
          refine wp_st (pc' := 146) (L' := [some (.ref 65), some (.int a1), some (.int a2), some (.int a3), some (.int a4), some (.int (nI a5))]) (st' := []) (h' := Hp S4) 1 (fun Z => rfl) ?_
          refine wp_st (pc' := 149) (L' := [some (.ref 65), some (.int a1), some (.int a2), some (.int a3), some (.int a4), some (.int (nI (a5 + 1)))]) (st' := []) (h' := Hp S4) 1 (fun Z => by rw [← nI_add a5 1]; rfl) ?_
          exact wp_st 1 (fun Z => rfl) (show wp E (d + 1) m_m_toGuard 75 [some (.ref 65), some (.int a1), some (.int a2), some (.int a3), some (.int a4), some (.int (nI (a5 + 1)))] [] (Hp S4) (QI Q) from hw)
    · rw [if_neg hc] at hw
      refine wp_st (pc' := 146) (L' := [some (.ref 65), some (.int a1), some (.int a2), some (.int a3), some (.int a4), some (.int (nI a5))]) (st' := []) (h' := Hp S) 1 (fun Z => if_neg hc) ?_
      refine wp_st (pc' := 149) (L' := [some (.ref 65), some (.int a1), some (.int a2), some (.int a3), some (.int a4), some (.int (nI (a5 + 1)))]) (st' := []) (h' := Hp S) 1 (fun Z => by rw [← nI_add a5 1]; rfl) ?_
      exact wp_st 1 (fun Z => rfl) (show wp E (d + 1) m_m_toGuard 75 [some (.ref 65), some (.int a1), some (.int a2), some (.int a3), some (.int a4), some (.int (nI (a5 + 1)))] [] (Hp S) (QI Q) from hw)
set_option maxRecDepth 4000 in
theorem w_m_toGuard_117 {E : zX} {d : Nat} {S : St} {a1 : Int32} {a2 : Int32} {a3 : Int32} {a4 : Int32} {a5 : Nat} {Q : Int32 → St → Prop} (hd : 1 ≤ d) 
    (hw : k_m_free E (d - 1) S 0 (fun x1 S2 =>
    k_m_setOff E (d - 1) S2 0 ((1 : Int32) <<< (a1 &&& 31)) (x1 &&& ((nI a5) ^^^ ((-1) : Int32))) (fun x3 S4 =>
    if ((x3 >>> (a2 &&& 31)) &&& (1 : Int32)) = 0 then (
      k_m_toGuard_75 E d S4 a1 a2 a3 (nI a5) (a5 + 1) Q)
    else (
      k_m_toGuard_75 E d S4 a1 a2 a3 a4 (a5 + 1) Q)))) :
    k_m_toGuard_117 E d S a1 a2 a3 a4 a5 Q := by
  obtain ⟨d, rfl⟩ := Nat.exists_eq_add_of_le' hd
  show wp E (d + 1) m_m_toGuard 117 [some (.ref 65), some (.int a1), some (.int a2), some (.int a3), some (.int a4), some (.int (nI a5))] [] (Hp S) (QI Q)
  refine wp_st (pc' := 124) (L' := [some (.ref 65), some (.int a1), some (.int a2), some (.int a3), some (.int a4), some (.int (nI a5))]) (st' := [.int 0, .ref 65, .int ((1 : Int32) <<< (a1 &&& 31)), .int 0, .ref 65]) (h' := Hp S) 7 (fun Z => rfl) ?_
  refine wp_call (pc' := 127) (rest := [.int ((1 : Int32) <<< (a1 &&& 31)), .int 0, .ref 65]) (fun Z => rfl) (isO_of sh65) hw ?_
  rintro o h1 ⟨x1, S2, rfl, rfl, hw⟩
  refine ⟨_, rfl, ?_⟩
  show wp E (d + 1) m_m_toGuard 127 [some (.ref 65), some (.int a1), some (.int a2), some (.int a3), some (.int a4), some (.int (nI a5))] [.int x1, .int ((1 : Int32) <<< (a1 &&& 31)), .int 0, .ref 65] (Hp S2) (QI Q)
  refine wp_st (pc' := 129) (L' := [some (.ref 65), some (.int a1), some (.int a2), some (.int a3), some (.int a4), some (.int (nI a5))]) (st' := [.int (nI a5), .int x1, .int ((1 : Int32) <<< (a1 &&& 31)), .int 0, .ref 65]) (h' := Hp S2) 1 (fun Z => rfl) ?_
  refine wp_st (pc' := 130) (L' := [some (.ref 65), some (.int a1), some (.int a2), some (.int a3), some (.int a4), some (.int (nI a5))]) (st' := [.int (-1), .int (nI a5), .int x1, .int ((1 : Int32) <<< (a1 &&& 31)), .int 0, .ref 65]) (h' := Hp S2) 1 (fun Z => congrArg (fun v => Z (d + 1) m_m_toGuard 130 [some (.ref 65), some (.int a1), some (.int a2), some (.int a3), some (.int a4), some (.int (nI a5))] [.int v, .int (nI a5), .int x1, .int ((1 : Int32) <<< (a1 &&& 31)), .int 0, .ref 65] (Hp S2)) (show Int32.ofInt (-1) = (-1) by decide)) ?_
  refine wp_st (pc' := 132) (L' := [some (.ref 65), some (.int a1), some (.int a2), some (.int a3), some (.int a4), some (.int (nI a5))]) (st' := [.int (x1 &&& ((nI a5) ^^^ ((-1) : Int32))), .int ((1 : Int32) <<< (a1 &&& 31)), .int 0, .ref 65]) (h' := Hp S2) 2 (fun Z => rfl) ?_
  refine wp_call (pc' := 135) (rest := []) (fun Z => rfl) (isO_of sh65) hw ?_
  rintro o h1 ⟨x3, S4, rfl, rfl, hw⟩
  refine ⟨_, rfl, ?_⟩
  show wp E (d + 1) m_m_toGuard 135 [some (.ref 65), some (.int a1), some (.int a2), some (.int a3), some (.int a4), some (.int (nI a5))] [.int x3] (Hp S4) (QI Q)
  refine wp_st (pc' := 139) (L' := [some (.ref 65), some (.int a1), some (.int a2), some (.int a3), some (.int a4), some (.int (nI a5))]) (st' := [.int ((x3 >>> (a2 &&& 31)) &&& (1 : Int32))]) (h' := Hp S4) 4 (fun Z => rfl) ?_
  by_cases hc : ((x3 >>> (a2 &&& 31)) &&& (1 : Int32)) = 0
  · rw [if_pos hc] at hw
    refine wp_st (pc' := 142) (L' := [some (.ref 65), some (.int a1), some (.int a2), some (.int a3), some (.int a4), some (.int (nI a5))]) (st' := []) (h' := Hp S4) 1 (fun Z => if_pos hc) ?_
    refine wp_st (pc' := 146) (L' := [some (.ref 65), some (.int a1), some (.int a2), some (.int a3), some (.int (nI a5)), some (.int (nI a5))]) (st' := []) (h' := Hp S4) 2 (fun Z => rfl) ?_
    refine wp_st (pc' := 149) (L' := [some (.ref 65), some (.int a1), some (.int a2), some (.int a3), some (.int (nI a5)), some (.int (nI (a5 + 1)))]) (st' := []) (h' := Hp S4) 1 (fun Z => by rw [← nI_add a5 1]; rfl) ?_
    exact wp_st 1 (fun Z => rfl) (show wp E (d + 1) m_m_toGuard 75 [some (.ref 65), some (.int a1), some (.int a2), some (.int a3), some (.int (nI a5)), some (.int (nI (a5 + 1)))] [] (Hp S4) (QI Q) from hw)
  · rw [if_neg hc] at hw
    refine wp_st (pc' := 146) (L' := [some (.ref 65), some (.int a1), some (.int a2), some (.int a3), some (.int a4), some (.int (nI a5))]) (st' := []) (h' := Hp S4) 1 (fun Z => if_neg hc) ?_
    refine wp_st (pc' := 149) (L' := [some (.ref 65), some (.int a1), some (.int a2), some (.int a3), some (.int a4), some (.int (nI (a5 + 1)))]) (st' := []) (h' := Hp S4) 1 (fun Z => by rw [← nI_add a5 1]; rfl) ?_
    exact wp_st 1 (fun Z => rfl) (show wp E (d + 1) m_m_toGuard 75 [some (.ref 65), some (.int a1), some (.int a2), some (.int a3), some (.int a4), some (.int (nI (a5 + 1)))] [] (Hp S4) (QI Q) from hw)
set_option maxRecDepth 4000 in
theorem w_m_pram {E : zX} {d : Nat} {S : St} {a1 : Int32} {a2 : Int32} {a3 : Int32} {Q : Int32 → St → Prop} (hd : 1 ≤ d) 
    (hw : ∀ S1, S1 = up S 65 0 0 →
    k_m_isCell E (d - 1) S1 a1 (fun x2 S3 =>
    if x2 = 0 then (
      Q (0 : Int32) S3)
    else (
      k_m_isCell E (d - 1) S3 a2 (fun x4 S5 =>
      if x4 = 0 then (
        Q (0 : Int32) S5)
      else (
        k_m_isWhat E (d - 1) S5 a3 1 (fun x6 S7 =>
        if x6 = 0 then (
          Q (0 : Int32) S7)
        else (
          k_m_laysFar E (d - 1) S7 a2 (fun S9 =>
          if a3 = 0 then (
            ∃ m10 : Nat, a1 = nI m10 ∧ m10 < 36 ∧
            if (S9 81 m10) < 9999 then (
              ∃ m11 : Nat, a1 = nI m11 ∧ m11 < 36 ∧
              Q (S9 81 m11) S9)
            else (
              Q ((-1) : Int32) S9))
          else (
            k_m_pram_70 E d S9 a1 (-1) 0 Q))))))))) :
    k_m_pram E d S a1 a2 a3 Q := by
  obtain ⟨d, rfl⟩ := Nat.exists_eq_add_of_le' hd
  show wp E (d + 1) m_m_pram 0 [some (.ref 65), some (.int a1), some (.int a2), some (.int a3), none, none, none] [] (Hp S) (QI Q)
  refine wp_st (pc' := 2) (L' := [some (.ref 65), some (.int a1), some (.int a2), some (.int a3), none, none, none]) (st' := [.int 0, .ref 65]) (h' := Hp S) 2 (fun Z => rfl) ?_
  have hw := hw _ rfl
  refine wp_st (pc' := 5) (L' := [some (.ref 65), some (.int a1), some (.int a2), some (.int a3), none, none, none]) (st' := []) (h' := Hp (up S 65 0 0)) 1 (fun Z => pfI sh65 rfl (Nat.le_of_ble_eq_true rfl) rfl _) ?_
  generalize up S 65 0 0 = S1 at hw ⊢
  refine wp_st (pc' := 7) (L' := [some (.ref 65), some (.int a1), some (.int a2), some (.int a3), none, none, none]) (st' := [.int a1, .ref 65]) (h' := Hp S1) 2 (fun Z => rfl) ?_
  refine wp_call (pc' := 10) (rest := []) (fun Z => rfl) (isO_of sh65) hw ?_
  rintro o h1 ⟨x2, S3, rfl, rfl, hw⟩
  refine ⟨_, rfl, ?_⟩
  show wp E (d + 1) m_m_pram 10 [some (.ref 65), some (.int a1), some (.int a2), some (.int a3), none, none, none] [.int x2] (Hp S3) (QI Q)
  by_cases hc : x2 = 0
  · rw [if_pos hc] at hw
    refine wp_st (pc' := 30) (L' := [some (.ref 65), some (.int a1), some (.int a2), some (.int a3), none, none, none]) (st' := []) (h' := Hp S3) 1 (fun Z => if_pos hc) ?_
    refine wp_st (pc' := 31) (L' := [some (.ref 65), some (.int a1), some (.int a2), some (.int a3), none, none, none]) (st' := [.int 0]) (h' := Hp S3) 1 (fun Z => rfl) ?_
    exact wp_ret (fun Z => rfl) ⟨_, _, rfl, rfl, hw⟩
  · rw [if_neg hc] at hw
    refine wp_st (pc' := 13) (L' := [some (.ref 65), some (.int a1), some (.int a2), some (.int a3), none, none, none]) (st' := []) (h' := Hp S3) 1 (fun Z => if_neg hc) ?_
    refine wp_st (pc' := 15) (L' := [some (.ref 65), some (.int a1), some (.int a2), some (.int a3), none, none, none]) (st' := [.int a2, .ref 65]) (h' := Hp S3) 2 (fun Z => rfl) ?_
    refine wp_call (pc' := 18) (rest := []) (fun Z => rfl) (isO_of sh65) hw ?_
    rintro o h1 ⟨x4, S5, rfl, rfl, hw⟩
    refine ⟨_, rfl, ?_⟩
    show wp E (d + 1) m_m_pram 18 [some (.ref 65), some (.int a1), some (.int a2), some (.int a3), none, none, none] [.int x4] (Hp S5) (QI Q)
    by_cases hc : x4 = 0
    · rw [if_pos hc] at hw
      refine wp_st (pc' := 30) (L' := [some (.ref 65), some (.int a1), some (.int a2), some (.int a3), none, none, none]) (st' := []) (h' := Hp S5) 1 (fun Z => if_pos hc) ?_
      refine wp_st (pc' := 31) (L' := [some (.ref 65), some (.int a1), some (.int a2), some (.int a3), none, none, none]) (st' := [.int 0]) (h' := Hp S5) 1 (fun Z => rfl) ?_
      exact wp_ret (fun Z => rfl) ⟨_, _, rfl, rfl, hw⟩
    · rw [if_neg hc] at hw
      refine wp_st (pc' := 21) (L' := [some (.ref 65), some (.int a1), some (.int a2), some (.int a3), none, none, none]) (st' := []) (h' := Hp S5) 1 (fun Z => if_neg hc) ?_
      refine wp_st (pc' := 24) (L' := [some (.ref 65), some (.int a1), some (.int a2), some (.int a3), none, none, none]) (st' := [.int 1, .int a3, .ref 65]) (h' := Hp S5) 3 (fun Z => rfl) ?_
      refine wp_call (pc' := 27) (rest := []) (fun Z => rfl) (isO_of sh65) hw ?_
      rintro o h1 ⟨x6, S7, rfl, rfl, hw⟩
      refine ⟨_, rfl, ?_⟩
      show wp E (d + 1) m_m_pram 27 [some (.ref 65), some (.int a1), some (.int a2), some (.int a3), none, none, none] [.int x6] (Hp S7) (QI Q)
      by_cases hc : x6 = 0
      · rw [if_pos hc] at hw
        refine wp_st (pc' := 30) (L' := [some (.ref 65), some (.int a1), some (.int a2), some (.int a3), none, none, none]) (st' := []) (h' := Hp S7) 1 (fun Z => if_pos hc) ?_
        refine wp_st (pc' := 31) (L' := [some (.ref 65), some (.int a1), some (.int a2), some (.int a3), none, none, none]) (st' := [.int 0]) (h' := Hp S7) 1 (fun Z => rfl) ?_
        exact wp_ret (fun Z => rfl) ⟨_, _, rfl, rfl, hw⟩
      · rw [if_neg hc] at hw
        refine wp_st (pc' := 32) (L' := [some (.ref 65), some (.int a1), some (.int a2), some (.int a3), none, none, none]) (st' := []) (h' := Hp S7) 1 (fun Z => if_neg hc) ?_
        refine wp_st (pc' := 34) (L' := [some (.ref 65), some (.int a1), some (.int a2), some (.int a3), none, none, none]) (st' := [.int a2, .ref 65]) (h' := Hp S7) 2 (fun Z => rfl) ?_
        refine wp_call (pc' := 37) (rest := []) (fun Z => rfl) (isO_of sh65) hw ?_
        rintro o h1 ⟨S9, rfl, rfl, hw⟩
        refine ⟨_, rfl, ?_⟩
        show wp E (d + 1) m_m_pram 37 [some (.ref 65), some (.int a1), some (.int a2), some (.int a3), none, none, none] [] (Hp S9) (QI Q)
        refine wp_st (pc' := 38) (L' := [some (.ref 65), some (.int a1), some (.int a2), some (.int a3), none, none, none]) (st' := [.int a3]) (h' := Hp S9) 1 (fun Z => rfl) ?_
        by_cases hc : a3 = 0
        · rw [if_pos hc] at hw
          refine wp_st (pc' := 41) (L' := [some (.ref 65), some (.int a1), some (.int a2), some (.int a3), none, none, none]) (st' := []) (h' := Hp S9) 1 (fun Z => if_pos hc) ?_
          refine wp_st (pc' := 42) (L' := [some (.ref 65), some (.int a1), some (.int a2), some (.int a3), none, none, none]) (st' := [.ref 65]) (h' := Hp S9) 1 (fun Z => rfl) ?_
          refine wp_st (pc' := 45) (L' := [some (.ref 65), some (.int a1), some (.int a2), some (.int a3), none, none, none]) (st' := [.ref 81]) (h' := Hp S9) 1 (fun Z => gfR (E := E) sh65 rfl _) ?_
          refine wp_st (pc' := 46) (L' := [some (.ref 65), some (.int a1), some (.int a2), some (.int a3), none, none, none]) (st' := [.int a1, .ref 81]) (h' := Hp S9) 1 (fun Z => rfl) ?_
          obtain ⟨m10, em, hi, hw⟩ := hw
          refine wp_st (pc' := 47) (L' := [some (.ref 65), some (.int a1), some (.int a2), some (.int a3), none, none, none]) (st' := [.int (S9 81 m10)]) (h' := Hp S9) 1 (fun Z => (congrArg (fun v => zit E 1 Z (d + 1) m_m_pram 46 [some (.ref 65), some (.int a1), some (.int a2), some (.int a3), none, none, none] [.int v, .ref 81] (Hp S9)) em).trans (ldN (E := E) sh81 (by decide) hi [] (fun st => Z (d + 1) m_m_pram 47 [some (.ref 65), some (.int a1), some (.int a2), some (.int a3), none, none, none] st (Hp S9)))) ?_
          refine wp_st (pc' := 50) (L' := [some (.ref 65), some (.int a1), some (.int a2), some (.int a3), none, none, none]) (st' := [.int 9999, .int (S9 81 m10)]) (h' := Hp S9) 1 (fun Z => rfl) ?_
          by_cases hc : (S9 81 m10) < 9999
          · rw [if_pos hc] at hw
            refine wp_st (pc' := 57) (L' := [some (.ref 65), some (.int a1), some (.int a2), some (.int a3), none, none, none]) (st' := []) (h' := Hp S9) 1 (fun Z => if_pos hc) ?_
            refine wp_st (pc' := 58) (L' := [some (.ref 65), some (.int a1), some (.int a2), some (.int a3), none, none, none]) (st' := [.ref 65]) (h' := Hp S9) 1 (fun Z => rfl) ?_
            refine wp_st (pc' := 61) (L' := [some (.ref 65), some (.int a1), some (.int a2), some (.int a3), none, none, none]) (st' := [.ref 81]) (h' := Hp S9) 1 (fun Z => gfR (E := E) sh65 rfl _) ?_
            refine wp_st (pc' := 62) (L' := [some (.ref 65), some (.int a1), some (.int a2), some (.int a3), none, none, none]) (st' := [.int a1, .ref 81]) (h' := Hp S9) 1 (fun Z => rfl) ?_
            obtain ⟨m11, em, hi, hw⟩ := hw
            refine wp_st (pc' := 63) (L' := [some (.ref 65), some (.int a1), some (.int a2), some (.int a3), none, none, none]) (st' := [.int (S9 81 m11)]) (h' := Hp S9) 1 (fun Z => (congrArg (fun v => zit E 1 Z (d + 1) m_m_pram 62 [some (.ref 65), some (.int a1), some (.int a2), some (.int a3), none, none, none] [.int v, .ref 81] (Hp S9)) em).trans (ldN (E := E) sh81 (by decide) hi [] (fun st => Z (d + 1) m_m_pram 63 [some (.ref 65), some (.int a1), some (.int a2), some (.int a3), none, none, none] st (Hp S9)))) ?_
            exact wp_ret (fun Z => rfl) ⟨_, _, rfl, rfl, hw⟩
          · rw [if_neg hc] at hw
            refine wp_st (pc' := 53) (L' := [some (.ref 65), some (.int a1), some (.int a2), some (.int a3), none, none, none]) (st' := []) (h' := Hp S9) 1 (fun Z => if_neg hc) ?_
            refine wp_st (pc' := 54) (L' := [some (.ref 65), some (.int a1), some (.int a2), some (.int a3), none, none, none]) (st' := [.int (-1)]) (h' := Hp S9) 1 (fun Z => congrArg (fun v => Z (d + 1) m_m_pram 54 [some (.ref 65), some (.int a1), some (.int a2), some (.int a3), none, none, none] [.int v] (Hp S9)) (show Int32.ofInt (-1) = (-1) by decide)) ?_
            refine wp_st (pc' := 63) (L' := [some (.ref 65), some (.int a1), some (.int a2), some (.int a3), none, none, none]) (st' := [.int (-1)]) (h' := Hp S9) 1 (fun Z => rfl) ?_
            exact wp_ret (fun Z => rfl) ⟨_, _, rfl, rfl, hw⟩
        · rw [if_neg hc] at hw
          refine wp_st (pc' := 64) (L' := [some (.ref 65), some (.int a1), some (.int a2), some (.int a3), none, none, none]) (st' := []) (h' := Hp S9) 1 (fun Z => if_neg hc) ?_
          refine wp_st (pc' := 65) (L' := [some (.ref 65), some (.int a1), some (.int a2), some (.int a3), none, none, none]) (st' := [.int (-1)]) (h' := Hp S9) 1 (fun Z => congrArg (fun v => Z (d + 1) m_m_pram 65 [some (.ref 65), some (.int a1), some (.int a2), some (.int a3), none, none, none] [.int v] (Hp S9)) (show Int32.ofInt (-1) = (-1) by decide)) ?_
          exact wp_st 3 (fun Z => rfl) (show wp E (d + 1) m_m_pram 70 [some (.ref 65), some (.int a1), some (.int a2), some (.int a3), some (.int (-1)), some (.int 0), none] [] (Hp S9) (QI Q) from (hw (some (.int a2)) (some (.int a3)) none))
set_option maxRecDepth 4000 in
theorem w_m_pram_70 {E : zX} {d : Nat} {S : St} {a1 : Int32} {a4 : Int32} {a5 : Nat} {Q : Int32 → St → Prop} (hd : 1 ≤ d) 
    (hw : if nI 4 ≤ (nI a5) then (
      Q a4 S)
    else (
      ∃ m1 : Nat, a1 = nI m1 ∧ m1 < 36 ∧
      if (S 81 m1) ≤ 0 then (
        Q a4 S)
      else (
        ∃ m2 : Nat, a1 = nI m2 ∧ m2 < 36 ∧
        if 9999 ≤ (S 81 m2) then (
          Q a4 S)
        else (
          k_m_beside E (d - 1) S a1 (nI a5) (fun x3 S4 =>
          if x3 = (-1) then (
            k_m_pram_70 E d S4 a1 a4 (a5 + 1) Q)
          else (
            k_m_isShut E (d - 1) S4 x3 (fun x5 S6 =>
            if x5 = 0 then (
              ∃ m7 : Nat, x3 = nI m7 ∧ m7 < 36 ∧
              ∃ m8 : Nat, a1 = nI m8 ∧ m8 < 36 ∧
              if (S6 81 m7) = ((S6 81 m8) - (1 : Int32)) then (
                if a4 = (-1) then (
                  k_m_pram_70 E d S6 a1 x3 (a5 + 1) Q)
                else (
                  k_m_lesser E (d - 1) S6 a4 x3 (fun x9 S10 =>
                  k_m_pram_70 E d S10 a1 x9 (a5 + 1) Q)))
              else (
                k_m_pram_70 E d S6 a1 a4 (a5 + 1) Q))
            else (
              k_m_pram_70 E d S6 a1 a4 (a5 + 1) Q)))))))) :
    k_m_pram_70 E d S a1 a4 a5 Q := by
  obtain ⟨d, rfl⟩ := Nat.exists_eq_add_of_le' hd
  intro j2 j3 j6
  show wp E (d + 1) m_m_pram 70 [some (.ref 65), some (.int a1), j2, j3, some (.int a4), some (.int (nI a5)), j6] [] (Hp S) (QI Q)
  refine wp_st (pc' := 73) (L' := [some (.ref 65), some (.int a1), j2, j3, some (.int a4), some (.int (nI a5)), j6]) (st' := [.int 4, .int (nI a5)]) (h' := Hp S) 2 (fun Z => rfl) ?_
  by_cases hc : nI 4 ≤ (nI a5)
  · rw [if_pos hc] at hw
    refine wp_st (pc' := 168) (L' := [some (.ref 65), some (.int a1), j2, j3, some (.int a4), some (.int (nI a5)), j6]) (st' := []) (h' := Hp S) 1 (fun Z => if_pos hc) ?_
    refine wp_st (pc' := 170) (L' := [some (.ref 65), some (.int a1), j2, j3, some (.int a4), some (.int (nI a5)), j6]) (st' := [.int a4]) (h' := Hp S) 1 (fun Z => rfl) ?_
    exact wp_ret (fun Z => rfl) ⟨_, _, rfl, rfl, hw⟩
  · rw [if_neg hc] at hw
    refine wp_st (pc' := 76) (L' := [some (.ref 65), some (.int a1), j2, j3, some (.int a4), some (.int (nI a5)), j6]) (st' := []) (h' := Hp S) 1 (fun Z => if_neg hc) ?_
    refine wp_st (pc' := 77) (L' := [some (.ref 65), some (.int a1), j2, j3, some (.int a4), some (.int (nI a5)), j6]) (st' := [.ref 65]) (h' := Hp S) 1 (fun Z => rfl) ?_
    refine wp_st (pc' := 80) (L' := [some (.ref 65), some (.int a1), j2, j3, some (.int a4), some (.int (nI a5)), j6]) (st' := [.ref 81]) (h' := Hp S) 1 (fun Z => gfR (E := E) sh65 rfl _) ?_
    refine wp_st (pc' := 81) (L' := [some (.ref 65), some (.int a1), j2, j3, some (.int a4), some (.int (nI a5)), j6]) (st' := [.int a1, .ref 81]) (h' := Hp S) 1 (fun Z => rfl) ?_
    obtain ⟨m1, em, hi, hw⟩ := hw
    refine wp_st (pc' := 82) (L' := [some (.ref 65), some (.int a1), j2, j3, some (.int a4), some (.int (nI a5)), j6]) (st' := [.int (S 81 m1)]) (h' := Hp S) 1 (fun Z => (congrArg (fun v => zit E 1 Z (d + 1) m_m_pram 81 [some (.ref 65), some (.int a1), j2, j3, some (.int a4), some (.int (nI a5)), j6] [.int v, .ref 81] (Hp S)) em).trans (ldN (E := E) sh81 (by decide) hi [] (fun st => Z (d + 1) m_m_pram 82 [some (.ref 65), some (.int a1), j2, j3, some (.int a4), some (.int (nI a5)), j6] st (Hp S)))) ?_
    by_cases hc : (S 81 m1) ≤ 0
    · rw [if_pos hc] at hw
      refine wp_st (pc' := 168) (L' := [some (.ref 65), some (.int a1), j2, j3, some (.int a4), some (.int (nI a5)), j6]) (st' := []) (h' := Hp S) 1 (fun Z => if_pos hc) ?_
      refine wp_st (pc' := 170) (L' := [some (.ref 65), some (.int a1), j2, j3, some (.int a4), some (.int (nI a5)), j6]) (st' := [.int a4]) (h' := Hp S) 1 (fun Z => rfl) ?_
      exact wp_ret (fun Z => rfl) ⟨_, _, rfl, rfl, hw⟩
    · rw [if_neg hc] at hw
      refine wp_st (pc' := 85) (L' := [some (.ref 65), some (.int a1), j2, j3, some (.int a4), some (.int (nI a5)), j6]) (st' := []) (h' := Hp S) 1 (fun Z => if_neg hc) ?_
      refine wp_st (pc' := 86) (L' := [some (.ref 65), some (.int a1), j2, j3, some (.int a4), some (.int (nI a5)), j6]) (st' := [.ref 65]) (h' := Hp S) 1 (fun Z => rfl) ?_
      refine wp_st (pc' := 89) (L' := [some (.ref 65), some (.int a1), j2, j3, some (.int a4), some (.int (nI a5)), j6]) (st' := [.ref 81]) (h' := Hp S) 1 (fun Z => gfR (E := E) sh65 rfl _) ?_
      refine wp_st (pc' := 90) (L' := [some (.ref 65), some (.int a1), j2, j3, some (.int a4), some (.int (nI a5)), j6]) (st' := [.int a1, .ref 81]) (h' := Hp S) 1 (fun Z => rfl) ?_
      obtain ⟨m2, em, hi, hw⟩ := hw
      refine wp_st (pc' := 91) (L' := [some (.ref 65), some (.int a1), j2, j3, some (.int a4), some (.int (nI a5)), j6]) (st' := [.int (S 81 m2)]) (h' := Hp S) 1 (fun Z => (congrArg (fun v => zit E 1 Z (d + 1) m_m_pram 90 [some (.ref 65), some (.int a1), j2, j3, some (.int a4), some (.int (nI a5)), j6] [.int v, .ref 81] (Hp S)) em).trans (ldN (E := E) sh81 (by decide) hi [] (fun st => Z (d + 1) m_m_pram 91 [some (.ref 65), some (.int a1), j2, j3, some (.int a4), some (.int (nI a5)), j6] st (Hp S)))) ?_
      refine wp_st (pc' := 94) (L' := [some (.ref 65), some (.int a1), j2, j3, some (.int a4), some (.int (nI a5)), j6]) (st' := [.int 9999, .int (S 81 m2)]) (h' := Hp S) 1 (fun Z => rfl) ?_
      by_cases hc : 9999 ≤ (S 81 m2)
      · rw [if_pos hc] at hw
        refine wp_st (pc' := 168) (L' := [some (.ref 65), some (.int a1), j2, j3, some (.int a4), some (.int (nI a5)), j6]) (st' := []) (h' := Hp S) 1 (fun Z => if_pos hc) ?_
        refine wp_st (pc' := 170) (L' := [some (.ref 65), some (.int a1), j2, j3, some (.int a4), some (.int (nI a5)), j6]) (st' := [.int a4]) (h' := Hp S) 1 (fun Z => rfl) ?_
        exact wp_ret (fun Z => rfl) ⟨_, _, rfl, rfl, hw⟩
      · rw [if_neg hc] at hw
        refine wp_st (pc' := 97) (L' := [some (.ref 65), some (.int a1), j2, j3, some (.int a4), some (.int (nI a5)), j6]) (st' := []) (h' := Hp S) 1 (fun Z => if_neg hc) ?_
        refine wp_st (pc' := 101) (L' := [some (.ref 65), some (.int a1), j2, j3, some (.int a4), some (.int (nI a5)), j6]) (st' := [.int (nI a5), .int a1, .ref 65]) (h' := Hp S) 3 (fun Z => rfl) ?_
        refine wp_call (pc' := 104) (rest := []) (fun Z => rfl) (isO_of sh65) hw ?_
        rintro o h1 ⟨x3, S4, rfl, rfl, hw⟩
        refine ⟨_, rfl, ?_⟩
        show wp E (d + 1) m_m_pram 104 [some (.ref 65), some (.int a1), j2, j3, some (.int a4), some (.int (nI a5)), j6] [.int x3] (Hp S4) (QI Q)
        refine wp_st (pc' := 108) (L' := [some (.ref 65), some (.int a1), j2, j3, some (.int a4), some (.int (nI a5)), some (.int x3)]) (st' := [.int x3]) (h' := Hp S4) 2 (fun Z => rfl) ?_
        refine wp_st (pc' := 109) (L' := [some (.ref 65), some (.int a1), j2, j3, some (.int a4), some (.int (nI a5)), some (.int x3)]) (st' := [.int (-1), .int x3]) (h' := Hp S4) 1 (fun Z => congrArg (fun v => Z (d + 1) m_m_pram 109 [some (.ref 65), some (.int a1), j2, j3, some (.int a4), some (.int (nI a5)), some (.int x3)] [.int v, .int x3] (Hp S4)) (show Int32.ofInt (-1) = (-1) by decide)) ?_
        by_cases hc : x3 = (-1)
        · rw [if_pos hc] at hw
          refine wp_st (pc' := 162) (L' := [some (.ref 65), some (.int a1), j2, j3, some (.int a4), some (.int (nI a5)), some (.int x3)]) (st' := []) (h' := Hp S4) 1 (fun Z => if_pos hc) ?_
          refine wp_st (pc' := 165) (L' := [some (.ref 65), some (.int a1), j2, j3, some (.int a4), some (.int (nI (a5 + 1))), some (.int x3)]) (st' := []) (h' := Hp S4) 1 (fun Z => by rw [← nI_add a5 1]; rfl) ?_
          exact wp_st 1 (fun Z => rfl) (show wp E (d + 1) m_m_pram 70 [some (.ref 65), some (.int a1), j2, j3, some (.int a4), some (.int (nI (a5 + 1))), some (.int x3)] [] (Hp S4) (QI Q) from (hw j2 j3 (some (.int x3))))
        · rw [if_neg hc] at hw
          refine wp_st (pc' := 112) (L' := [some (.ref 65), some (.int a1), j2, j3, some (.int a4), some (.int (nI a5)), some (.int x3)]) (st' := []) (h' := Hp S4) 1 (fun Z => if_neg hc) ?_
          refine wp_st (pc' := 115) (L' := [some (.ref 65), some (.int a1), j2, j3, some (.int a4), some (.int (nI a5)), some (.int x3)]) (st' := [.int x3, .ref 65]) (h' := Hp S4) 2 (fun Z => rfl) ?_
          refine wp_call (pc' := 118) (rest := []) (fun Z => rfl) (isO_of sh65) hw ?_
          rintro o h1 ⟨x5, S6, rfl, rfl, hw⟩
          refine ⟨_, rfl, ?_⟩
          show wp E (d + 1) m_m_pram 118 [some (.ref 65), some (.int a1), j2, j3, some (.int a4), some (.int (nI a5)), some (.int x3)] [.int x5] (Hp S6) (QI Q)
          by_cases hc : x5 = 0
          · rw [if_pos hc] at hw
            refine wp_st (pc' := 121) (L' := [some (.ref 65), some (.int a1), j2, j3, some (.int a4), some (.int (nI a5)), some (.int x3)]) (st' := []) (h' := Hp S6) 1 (fun Z => if_pos hc) ?_
            refine wp_st (pc' := 122) (L' := [some (.ref 65), some (.int a1), j2, j3, some (.int a4), some (.int (nI a5)), some (.int x3)]) (st' := [.ref 65]) (h' := Hp S6) 1 (fun Z => rfl) ?_
            refine wp_st (pc' := 125) (L' := [some (.ref 65), some (.int a1), j2, j3, some (.int a4), some (.int (nI a5)), some (.int x3)]) (st' := [.ref 81]) (h' := Hp S6) 1 (fun Z => gfR (E := E) sh65 rfl _) ?_
            refine wp_st (pc' := 127) (L' := [some (.ref 65), some (.int a1), j2, j3, some (.int a4), some (.int (nI a5)), some (.int x3)]) (st' := [.int x3, .ref 81]) (h' := Hp S6) 1 (fun Z => rfl) ?_
            obtain ⟨m7, em, hi, hw⟩ := hw
            refine wp_st (pc' := 128) (L' := [some (.ref 65), some (.int a1), j2, j3, some (.int a4), some (.int (nI a5)), some (.int x3)]) (st' := [.int (S6 81 m7)]) (h' := Hp S6) 1 (fun Z => (congrArg (fun v => zit E 1 Z (d + 1) m_m_pram 127 [some (.ref 65), some (.int a1), j2, j3, some (.int a4), some (.int (nI a5)), some (.int x3)] [.int v, .ref 81] (Hp S6)) em).trans (ldN (E := E) sh81 (by decide) hi [] (fun st => Z (d + 1) m_m_pram 128 [some (.ref 65), some (.int a1), j2, j3, some (.int a4), some (.int (nI a5)), some (.int x3)] st (Hp S6)))) ?_
            refine wp_st (pc' := 129) (L' := [some (.ref 65), some (.int a1), j2, j3, some (.int a4), some (.int (nI a5)), some (.int x3)]) (st' := [.ref 65, .int (S6 81 m7)]) (h' := Hp S6) 1 (fun Z => rfl) ?_
            refine wp_st (pc' := 132) (L' := [some (.ref 65), some (.int a1), j2, j3, some (.int a4), some (.int (nI a5)), some (.int x3)]) (st' := [.ref 81, .int (S6 81 m7)]) (h' := Hp S6) 1 (fun Z => gfR (E := E) sh65 rfl _) ?_
            refine wp_st (pc' := 133) (L' := [some (.ref 65), some (.int a1), j2, j3, some (.int a4), some (.int (nI a5)), some (.int x3)]) (st' := [.int a1, .ref 81, .int (S6 81 m7)]) (h' := Hp S6) 1 (fun Z => rfl) ?_
            obtain ⟨m8, em, hi, hw⟩ := hw
            refine wp_st (pc' := 134) (L' := [some (.ref 65), some (.int a1), j2, j3, some (.int a4), some (.int (nI a5)), some (.int x3)]) (st' := [.int (S6 81 m8), .int (S6 81 m7)]) (h' := Hp S6) 1 (fun Z => (congrArg (fun v => zit E 1 Z (d + 1) m_m_pram 133 [some (.ref 65), some (.int a1), j2, j3, some (.int a4), some (.int (nI a5)), some (.int x3)] [.int v, .ref 81, .int (S6 81 m7)] (Hp S6)) em).trans (ldN (E := E) sh81 (by decide) hi [.int (S6 81 m7)] (fun st => Z (d + 1) m_m_pram 134 [some (.ref 65), some (.int a1), j2, j3, some (.int a4), some (.int (nI a5)), some (.int x3)] st (Hp S6)))) ?_
            refine wp_st (pc' := 136) (L' := [some (.ref 65), some (.int a1), j2, j3, some (.int a4), some (.int (nI a5)), some (.int x3)]) (st' := [.int ((S6 81 m8) - (1 : Int32)), .int (S6 81 m7)]) (h' := Hp S6) 2 (fun Z => rfl) ?_
            by_cases hc : (S6 81 m7) = ((S6 81 m8) - (1 : Int32))
            · rw [if_pos hc] at hw
              refine wp_st (pc' := 142) (L' := [some (.ref 65), some (.int a1), j2, j3, some (.int a4), some (.int (nI a5)), some (.int x3)]) (st' := []) (h' := Hp S6) 1 (fun Z => if_pos hc) ?_
              refine wp_st (pc' := 144) (L' := [some (.ref 65), some (.int a1), j2, j3, some (.int a4), some (.int (nI a5)), some (.int x3)]) (st' := [.int a4]) (h' := Hp S6) 1 (fun Z => rfl) ?_
              refine wp_st (pc' := 145) (L' := [some (.ref 65), some (.int a1), j2, j3, some (.int a4), some (.int (nI a5)), some (.int x3)]) (st' := [.int (-1), .int a4]) (h' := Hp S6) 1 (fun Z => congrArg (fun v => Z (d + 1) m_m_pram 145 [some (.ref 65), some (.int a1), j2, j3, some (.int a4), some (.int (nI a5)), some (.int x3)] [.int v, .int a4] (Hp S6)) (show Int32.ofInt (-1) = (-1) by decide)) ?_
              by_cases hc : a4 = (-1)
              · rw [if_pos hc] at hw
                refine wp_st (pc' := 148) (L' := [some (.ref 65), some (.int a1), j2, j3, some (.int a4), some (.int (nI a5)), some (.int x3)]) (st' := []) (h' := Hp S6) 1 (fun Z => if_pos hc) ?_
                refine wp_st (pc' := 162) (L' := [some (.ref 65), some (.int a1), j2, j3, some (.int x3), some (.int (nI a5)), some (.int x3)]) (st' := []) (h' := Hp S6) 3 (fun Z => rfl) ?_
                refine wp_st (pc' := 165) (L' := [some (.ref 65), some (.int a1), j2, j3, some (.int x3), some (.int (nI (a5 + 1))), some (.int x3)]) (st' := []) (h' := Hp S6) 1 (fun Z => by rw [← nI_add a5 1]; rfl) ?_
                exact wp_st 1 (fun Z => rfl) (show wp E (d + 1) m_m_pram 70 [some (.ref 65), some (.int a1), j2, j3, some (.int x3), some (.int (nI (a5 + 1))), some (.int x3)] [] (Hp S6) (QI Q) from (hw j2 j3 (some (.int x3))))
              · rw [if_neg hc] at hw
                refine wp_st (pc' := 153) (L' := [some (.ref 65), some (.int a1), j2, j3, some (.int a4), some (.int (nI a5)), some (.int x3)]) (st' := []) (h' := Hp S6) 1 (fun Z => if_neg hc) ?_
                refine wp_st (pc' := 157) (L' := [some (.ref 65), some (.int a1), j2, j3, some (.int a4), some (.int (nI a5)), some (.int x3)]) (st' := [.int x3, .int a4]) (h' := Hp S6) 2 (fun Z => rfl) ?_
                refine wp_call (pc' := 160) (rest := []) (fun Z => rfl) rfl hw ?_
                rintro o h1 ⟨x9, S10, rfl, rfl, hw⟩
                refine ⟨_, rfl, ?_⟩
                show wp E (d + 1) m_m_pram 160 [some (.ref 65), some (.int a1), j2, j3, some (.int a4), some (.int (nI a5)), some (.int x3)] [.int x9] (Hp S10) (QI Q)
                refine wp_st (pc' := 162) (L' := [some (.ref 65), some (.int a1), j2, j3, some (.int x9), some (.int (nI a5)), some (.int x3)]) (st' := []) (h' := Hp S10) 1 (fun Z => rfl) ?_
                refine wp_st (pc' := 165) (L' := [some (.ref 65), some (.int a1), j2, j3, some (.int x9), some (.int (nI (a5 + 1))), some (.int x3)]) (st' := []) (h' := Hp S10) 1 (fun Z => by rw [← nI_add a5 1]; rfl) ?_
                exact wp_st 1 (fun Z => rfl) (show wp E (d + 1) m_m_pram 70 [some (.ref 65), some (.int a1), j2, j3, some (.int x9), some (.int (nI (a5 + 1))), some (.int x3)] [] (Hp S10) (QI Q) from (hw j2 j3 (some (.int x3))))
            · rw [if_neg hc] at hw
              refine wp_st (pc' := 139) (L' := [some (.ref 65), some (.int a1), j2, j3, some (.int a4), some (.int (nI a5)), some (.int x3)]) (st' := []) (h' := Hp S6) 1 (fun Z => if_neg hc) ?_
              refine wp_st (pc' := 162) (L' := [some (.ref 65), some (.int a1), j2, j3, some (.int a4), some (.int (nI a5)), some (.int x3)]) (st' := []) (h' := Hp S6) 1 (fun Z => rfl) ?_
              refine wp_st (pc' := 165) (L' := [some (.ref 65), some (.int a1), j2, j3, some (.int a4), some (.int (nI (a5 + 1))), some (.int x3)]) (st' := []) (h' := Hp S6) 1 (fun Z => by rw [← nI_add a5 1]; rfl) ?_
              exact wp_st 1 (fun Z => rfl) (show wp E (d + 1) m_m_pram 70 [some (.ref 65), some (.int a1), j2, j3, some (.int a4), some (.int (nI (a5 + 1))), some (.int x3)] [] (Hp S6) (QI Q) from (hw j2 j3 (some (.int x3))))
          · rw [if_neg hc] at hw
            refine wp_st (pc' := 162) (L' := [some (.ref 65), some (.int a1), j2, j3, some (.int a4), some (.int (nI a5)), some (.int x3)]) (st' := []) (h' := Hp S6) 1 (fun Z => if_neg hc) ?_
            refine wp_st (pc' := 165) (L' := [some (.ref 65), some (.int a1), j2, j3, some (.int a4), some (.int (nI (a5 + 1))), some (.int x3)]) (st' := []) (h' := Hp S6) 1 (fun Z => by rw [← nI_add a5 1]; rfl) ?_
            exact wp_st 1 (fun Z => rfl) (show wp E (d + 1) m_m_pram 70 [some (.ref 65), some (.int a1), j2, j3, some (.int a4), some (.int (nI (a5 + 1))), some (.int x3)] [] (Hp S6) (QI Q) from (hw j2 j3 (some (.int x3))))
set_option maxRecDepth 4000 in
theorem w_m_laysFar {E : zX} {d : Nat} {S : St} {a1 : Nat} {Q : St → Prop} (hd : 1 ≤ d) 
    (hw : k_m_laysFar_2 E d S a1 0 Q) :
    k_m_laysFar E d S (nI a1) Q := by
  obtain ⟨d, rfl⟩ := Nat.exists_eq_add_of_le' hd
  show wp E (d + 1) m_m_laysFar 0 [some (.ref 65), some (.int (nI a1)), none, none, none, none, none] [] (Hp S) (QV Q)
  exact wp_st 2 (fun Z => rfl) (show wp E (d + 1) m_m_laysFar 2 [some (.ref 65), some (.int (nI a1)), some (.int 0), none, none, none, none] [] (Hp S) (QV Q) from (hw none none none none))
set_option maxRecDepth 4000 in
theorem w_m_laysFar_2 {E : zX} {d : Nat} {S : St} {a1 : Nat} {a2 : Nat} {Q : St → Prop} (hd : 1 ≤ d) 
    (hw : if nI 36 ≤ (nI a2) then (
      a1 < 36 ∧
      ∀ S1, S1 = up S 81 a1 0 →
      k_m_isShut E (d - 1) S1 (nI a1) (fun x2 S3 =>
      if x2 = 0 then (
        ∀ S4, S4 = up S3 82 0 (nI a1) →
        k_m_laysFar_51 E d S4 0 1 Q)
      else (
        k_m_laysFar_51 E d S3 0 0 Q)))
    else (
      a2 < 36 ∧
      ∀ S5, S5 = up S 81 a2 9999 →
      k_m_laysFar_2 E d S5 a1 (a2 + 1) Q)) :
    k_m_laysFar_2 E d S a1 a2 Q := by
  obtain ⟨d, rfl⟩ := Nat.exists_eq_add_of_le' hd
  intro j3 j4 j5 j6
  show wp E (d + 1) m_m_laysFar 2 [some (.ref 65), some (.int (nI a1)), some (.int (nI a2)), j3, j4, j5, j6] [] (Hp S) (QV Q)
  refine wp_st (pc' := 5) (L' := [some (.ref 65), some (.int (nI a1)), some (.int (nI a2)), j3, j4, j5, j6]) (st' := [.int 36, .int (nI a2)]) (h' := Hp S) 2 (fun Z => rfl) ?_
  by_cases hc : nI 36 ≤ (nI a2)
  · rw [if_pos hc] at hw
    refine wp_st (pc' := 23) (L' := [some (.ref 65), some (.int (nI a1)), some (.int (nI a2)), j3, j4, j5, j6]) (st' := []) (h' := Hp S) 1 (fun Z => if_pos hc) ?_
    refine wp_st (pc' := 24) (L' := [some (.ref 65), some (.int (nI a1)), some (.int (nI a2)), j3, j4, j5, j6]) (st' := [.ref 65]) (h' := Hp S) 1 (fun Z => rfl) ?_
    refine wp_st (pc' := 27) (L' := [some (.ref 65), some (.int (nI a1)), some (.int (nI a2)), j3, j4, j5, j6]) (st' := [.ref 81]) (h' := Hp S) 1 (fun Z => gfR (E := E) sh65 rfl _) ?_
    refine wp_st (pc' := 29) (L' := [some (.ref 65), some (.int (nI a1)), some (.int (nI a2)), j3, j4, j5, j6]) (st' := [.int 0, .int (nI a1), .ref 81]) (h' := Hp S) 2 (fun Z => rfl) ?_
    obtain ⟨hi, hw⟩ := hw
    have hw := hw _ rfl
    refine wp_st (pc' := 30) (L' := [some (.ref 65), some (.int (nI a1)), some (.int (nI a2)), j3, j4, j5, j6]) (st' := []) (h' := Hp (up S 81 a1 0)) 1 (fun Z => stN sh81 (by decide) hi _ _) ?_
    generalize up S 81 a1 0 = S1 at hw ⊢
    refine wp_st (pc' := 36) (L' := [some (.ref 65), some (.int (nI a1)), some (.int 0), some (.int 0), j4, j5, j6]) (st' := [.int (nI a1), .ref 65]) (h' := Hp S1) 6 (fun Z => rfl) ?_
    refine wp_call (pc' := 39) (rest := []) (fun Z => rfl) (isO_of sh65) hw ?_
    rintro o h1 ⟨x2, S3, rfl, rfl, hw⟩
    refine ⟨_, rfl, ?_⟩
    show wp E (d + 1) m_m_laysFar 39 [some (.ref 65), some (.int (nI a1)), some (.int 0), some (.int 0), j4, j5, j6] [.int x2] (Hp S3) (QV Q)
    by_cases hc : x2 = 0
    · rw [if_pos hc] at hw
      refine wp_st (pc' := 42) (L' := [some (.ref 65), some (.int (nI a1)), some (.int 0), some (.int 0), j4, j5, j6]) (st' := []) (h' := Hp S3) 1 (fun Z => if_pos hc) ?_
      refine wp_st (pc' := 43) (L' := [some (.ref 65), some (.int (nI a1)), some (.int 0), some (.int 0), j4, j5, j6]) (st' := [.ref 65]) (h' := Hp S3) 1 (fun Z => rfl) ?_
      refine wp_st (pc' := 46) (L' := [some (.ref 65), some (.int (nI a1)), some (.int 0), some (.int 0), j4, j5, j6]) (st' := [.ref 82]) (h' := Hp S3) 1 (fun Z => gfR (E := E) sh65 rfl _) ?_
      refine wp_st (pc' := 48) (L' := [some (.ref 65), some (.int (nI a1)), some (.int 0), some (.int 0), j4, j5, j6]) (st' := [.int (nI a1), .int 0, .ref 82]) (h' := Hp S3) 2 (fun Z => rfl) ?_
      have hw := hw _ rfl
      refine wp_st (pc' := 49) (L' := [some (.ref 65), some (.int (nI a1)), some (.int 0), some (.int 0), j4, j5, j6]) (st' := []) (h' := Hp (up S3 82 0 (nI a1))) 1 (fun Z => stN sh82 (by decide) (by decide) _ _) ?_
      generalize up S3 82 0 (nI a1) = S4 at hw ⊢
      exact wp_st 2 (fun Z => rfl) (show wp E (d + 1) m_m_laysFar 51 [some (.ref 65), some (.int (nI a1)), some (.int 0), some (.int 1), j4, j5, j6] [] (Hp S4) (QV Q) from (hw (some (.int (nI a1))) j4 j5 j6))
    · rw [if_neg hc] at hw
      refine wp_st (pc' := 51) (L' := [some (.ref 65), some (.int (nI a1)), some (.int 0), some (.int 0), j4, j5, j6]) (st' := []) (h' := Hp S3) 1 (fun Z => if_neg hc) ?_
      exact (show wp E (d + 1) m_m_laysFar 51 [some (.ref 65), some (.int (nI a1)), some (.int 0), some (.int 0), j4, j5, j6] [] (Hp S3) (QV Q) from (hw (some (.int (nI a1))) j4 j5 j6))
  · rw [if_neg hc] at hw
    refine wp_st (pc' := 8) (L' := [some (.ref 65), some (.int (nI a1)), some (.int (nI a2)), j3, j4, j5, j6]) (st' := []) (h' := Hp S) 1 (fun Z => if_neg hc) ?_
    refine wp_st (pc' := 9) (L' := [some (.ref 65), some (.int (nI a1)), some (.int (nI a2)), j3, j4, j5, j6]) (st' := [.ref 65]) (h' := Hp S) 1 (fun Z => rfl) ?_
    refine wp_st (pc' := 12) (L' := [some (.ref 65), some (.int (nI a1)), some (.int (nI a2)), j3, j4, j5, j6]) (st' := [.ref 81]) (h' := Hp S) 1 (fun Z => gfR (E := E) sh65 rfl _) ?_
    refine wp_st (pc' := 16) (L' := [some (.ref 65), some (.int (nI a1)), some (.int (nI a2)), j3, j4, j5, j6]) (st' := [.int 9999, .int (nI a2), .ref 81]) (h' := Hp S) 2 (fun Z => rfl) ?_
    obtain ⟨hi, hw⟩ := hw
    have hw := hw _ rfl
    refine wp_st (pc' := 17) (L' := [some (.ref 65), some (.int (nI a1)), some (.int (nI a2)), j3, j4, j5, j6]) (st' := []) (h' := Hp (up S 81 a2 9999)) 1 (fun Z => stN sh81 (by decide) hi _ _) ?_
    generalize up S 81 a2 9999 = S5 at hw ⊢
    refine wp_st (pc' := 20) (L' := [some (.ref 65), some (.int (nI a1)), some (.int (nI (a2 + 1))), j3, j4, j5, j6]) (st' := []) (h' := Hp S5) 1 (fun Z => by rw [← nI_add a2 1]; rfl) ?_
    exact wp_st 1 (fun Z => rfl) (show wp E (d + 1) m_m_laysFar 2 [some (.ref 65), some (.int (nI a1)), some (.int (nI (a2 + 1))), j3, j4, j5, j6] [] (Hp S5) (QV Q) from (hw j3 j4 j5 j6))
set_option maxRecDepth 4000 in
theorem w_m_laysFar_51 {E : zX} {d : Nat} {S : St} {a2 : Nat} {a3 : Nat} {Q : St → Prop} (hd : 1 ≤ d) 
    (hw : if (nI a3) ≤ (nI a2) then (
      Q S)
    else (
      a2 < 36 ∧
      k_m_laysFar_70 E d S (a2 + 1) a3 (S 82 a2) 0 Q)) :
    k_m_laysFar_51 E d S a2 a3 Q := by
  obtain ⟨d, rfl⟩ := Nat.exists_eq_add_of_le' hd
  intro j1 j4 j5 j6
  show wp E (d + 1) m_m_laysFar 51 [some (.ref 65), j1, some (.int (nI a2)), some (.int (nI a3)), j4, j5, j6] [] (Hp S) (QV Q)
  refine wp_st (pc' := 53) (L' := [some (.ref 65), j1, some (.int (nI a2)), some (.int (nI a3)), j4, j5, j6]) (st' := [.int (nI a3), .int (nI a2)]) (h' := Hp S) 2 (fun Z => rfl) ?_
  by_cases hc : (nI a3) ≤ (nI a2)
  · rw [if_pos hc] at hw
    refine wp_st (pc' := 156) (L' := [some (.ref 65), j1, some (.int (nI a2)), some (.int (nI a3)), j4, j5, j6]) (st' := []) (h' := Hp S) 1 (fun Z => if_pos hc) ?_
    exact wp_ret (fun Z => rfl) ⟨_, rfl, rfl, hw⟩
  · rw [if_neg hc] at hw
    refine wp_st (pc' := 56) (L' := [some (.ref 65), j1, some (.int (nI a2)), some (.int (nI a3)), j4, j5, j6]) (st' := []) (h' := Hp S) 1 (fun Z => if_neg hc) ?_
    refine wp_st (pc' := 57) (L' := [some (.ref 65), j1, some (.int (nI a2)), some (.int (nI a3)), j4, j5, j6]) (st' := [.ref 65]) (h' := Hp S) 1 (fun Z => rfl) ?_
    refine wp_st (pc' := 60) (L' := [some (.ref 65), j1, some (.int (nI a2)), some (.int (nI a3)), j4, j5, j6]) (st' := [.ref 82]) (h' := Hp S) 1 (fun Z => gfR (E := E) sh65 rfl _) ?_
    refine wp_st (pc' := 61) (L' := [some (.ref 65), j1, some (.int (nI a2)), some (.int (nI a3)), j4, j5, j6]) (st' := [.int (nI a2), .ref 82]) (h' := Hp S) 1 (fun Z => rfl) ?_
    obtain ⟨hi, hw⟩ := hw
    refine wp_st (pc' := 62) (L' := [some (.ref 65), j1, some (.int (nI a2)), some (.int (nI a3)), j4, j5, j6]) (st' := [.int (S 82 a2)]) (h' := Hp S) 1 (fun Z => ldN (E := E) sh82 (by decide) hi [] (fun st => Z (d + 1) m_m_laysFar 62 [some (.ref 65), j1, some (.int (nI a2)), some (.int (nI a3)), j4, j5, j6] st (Hp S))) ?_
    refine wp_st (pc' := 64) (L' := [some (.ref 65), j1, some (.int (nI a2)), some (.int (nI a3)), some (.int (S 82 a2)), j5, j6]) (st' := []) (h' := Hp S) 1 (fun Z => rfl) ?_
    refine wp_st (pc' := 67) (L' := [some (.ref 65), j1, some (.int (nI (a2 + 1))), some (.int (nI a3)), some (.int (S 82 a2)), j5, j6]) (st' := []) (h' := Hp S) 1 (fun Z => by rw [← nI_add a2 1]; rfl) ?_
    exact wp_st 2 (fun Z => rfl) (show wp E (d + 1) m_m_laysFar 70 [some (.ref 65), j1, some (.int (nI (a2 + 1))), some (.int (nI a3)), some (.int (S 82 a2)), some (.int 0), j6] [] (Hp S) (QV Q) from (hw j1 j6))
set_option maxRecDepth 4000 in
theorem w_m_laysFar_70 {E : zX} {d : Nat} {S : St} {a2 : Nat} {a3 : Nat} {a4 : Int32} {a5 : Nat} {Q : St → Prop} (hd : 1 ≤ d) 
    (hw : if nI 4 ≤ (nI a5) then (
      k_m_laysFar_51 E d S a2 a3 Q)
    else (
      k_m_beside E (d - 1) S a4 (nI a5) (fun x1 S2 =>
      if x1 = (-1) then (
        k_m_laysFar_70 E d S2 a2 a3 a4 (a5 + 1) Q)
      else (
        ∃ m3 : Nat, x1 = nI m3 ∧ m3 < 36 ∧
        if 9999 ≤ (S2 81 m3) then (
          ∃ m4 : Nat, a4 = nI m4 ∧ m4 < 36 ∧
          ∃ m6 : Nat, x1 = nI m6 ∧ m6 < 36 ∧
          ∀ S5, S5 = up S2 81 m6 ((S2 81 m4) + (1 : Int32)) →
          k_m_isShut E (d - 1) S5 x1 (fun x7 S8 =>
          if x7 = 0 then (
            a3 < 36 ∧
            ∀ S9, S9 = up S8 82 a3 x1 →
            k_m_laysFar_70 E d S9 a2 (a3 + 1) a4 (a5 + 1) Q)
          else (
            k_m_laysFar_70 E d S8 a2 a3 a4 (a5 + 1) Q)))
        else (
          k_m_laysFar_70 E d S2 a2 a3 a4 (a5 + 1) Q))))) :
    k_m_laysFar_70 E d S a2 a3 a4 a5 Q := by
  obtain ⟨d, rfl⟩ := Nat.exists_eq_add_of_le' hd
  intro j1 j6
  show wp E (d + 1) m_m_laysFar 70 [some (.ref 65), j1, some (.int (nI a2)), some (.int (nI a3)), some (.int a4), some (.int (nI a5)), j6] [] (Hp S) (QV Q)
  refine wp_st (pc' := 73) (L' := [some (.ref 65), j1, some (.int (nI a2)), some (.int (nI a3)), some (.int a4), some (.int (nI a5)), j6]) (st' := [.int 4, .int (nI a5)]) (h' := Hp S) 2 (fun Z => rfl) ?_
  by_cases hc : nI 4 ≤ (nI a5)
  · rw [if_pos hc] at hw
    refine wp_st (pc' := 153) (L' := [some (.ref 65), j1, some (.int (nI a2)), some (.int (nI a3)), some (.int a4), some (.int (nI a5)), j6]) (st' := []) (h' := Hp S) 1 (fun Z => if_pos hc) ?_
    exact wp_st 1 (fun Z => rfl) (show wp E (d + 1) m_m_laysFar 51 [some (.ref 65), j1, some (.int (nI a2)), some (.int (nI a3)), some (.int a4), some (.int (nI a5)), j6] [] (Hp S) (QV Q) from (hw j1 (some (.int a4)) (some (.int (nI a5))) j6))
  · rw [if_neg hc] at hw
    refine wp_st (pc' := 76) (L' := [some (.ref 65), j1, some (.int (nI a2)), some (.int (nI a3)), some (.int a4), some (.int (nI a5)), j6]) (st' := []) (h' := Hp S) 1 (fun Z => if_neg hc) ?_
    refine wp_st (pc' := 81) (L' := [some (.ref 65), j1, some (.int (nI a2)), some (.int (nI a3)), some (.int a4), some (.int (nI a5)), j6]) (st' := [.int (nI a5), .int a4, .ref 65]) (h' := Hp S) 3 (fun Z => rfl) ?_
    refine wp_call (pc' := 84) (rest := []) (fun Z => rfl) (isO_of sh65) hw ?_
    rintro o h1 ⟨x1, S2, rfl, rfl, hw⟩
    refine ⟨_, rfl, ?_⟩
    show wp E (d + 1) m_m_laysFar 84 [some (.ref 65), j1, some (.int (nI a2)), some (.int (nI a3)), some (.int a4), some (.int (nI a5)), j6] [.int x1] (Hp S2) (QV Q)
    refine wp_st (pc' := 88) (L' := [some (.ref 65), j1, some (.int (nI a2)), some (.int (nI a3)), some (.int a4), some (.int (nI a5)), some (.int x1)]) (st' := [.int x1]) (h' := Hp S2) 2 (fun Z => rfl) ?_
    refine wp_st (pc' := 89) (L' := [some (.ref 65), j1, some (.int (nI a2)), some (.int (nI a3)), some (.int a4), some (.int (nI a5)), some (.int x1)]) (st' := [.int (-1), .int x1]) (h' := Hp S2) 1 (fun Z => congrArg (fun v => Z (d + 1) m_m_laysFar 89 [some (.ref 65), j1, some (.int (nI a2)), some (.int (nI a3)), some (.int a4), some (.int (nI a5)), some (.int x1)] [.int v, .int x1] (Hp S2)) (show Int32.ofInt (-1) = (-1) by decide)) ?_
    by_cases hc : x1 = (-1)
    · rw [if_pos hc] at hw
      refine wp_st (pc' := 147) (L' := [some (.ref 65), j1, some (.int (nI a2)), some (.int (nI a3)), some (.int a4), some (.int (nI a5)), some (.int x1)]) (st' := []) (h' := Hp S2) 1 (fun Z => if_pos hc) ?_
      refine wp_st (pc' := 150) (L' := [some (.ref 65), j1, some (.int (nI a2)), some (.int (nI a3)), some (.int a4), some (.int (nI (a5 + 1))), some (.int x1)]) (st' := []) (h' := Hp S2) 1 (fun Z => by rw [← nI_add a5 1]; rfl) ?_
      exact wp_st 1 (fun Z => rfl) (show wp E (d + 1) m_m_laysFar 70 [some (.ref 65), j1, some (.int (nI a2)), some (.int (nI a3)), some (.int a4), some (.int (nI (a5 + 1))), some (.int x1)] [] (Hp S2) (QV Q) from (hw j1 (some (.int x1))))
    · rw [if_neg hc] at hw
      refine wp_st (pc' := 92) (L' := [some (.ref 65), j1, some (.int (nI a2)), some (.int (nI a3)), some (.int a4), some (.int (nI a5)), some (.int x1)]) (st' := []) (h' := Hp S2) 1 (fun Z => if_neg hc) ?_
      refine wp_st (pc' := 93) (L' := [some (.ref 65), j1, some (.int (nI a2)), some (.int (nI a3)), some (.int a4), some (.int (nI a5)), some (.int x1)]) (st' := [.ref 65]) (h' := Hp S2) 1 (fun Z => rfl) ?_
      refine wp_st (pc' := 96) (L' := [some (.ref 65), j1, some (.int (nI a2)), some (.int (nI a3)), some (.int a4), some (.int (nI a5)), some (.int x1)]) (st' := [.ref 81]) (h' := Hp S2) 1 (fun Z => gfR (E := E) sh65 rfl _) ?_
      refine wp_st (pc' := 98) (L' := [some (.ref 65), j1, some (.int (nI a2)), some (.int (nI a3)), some (.int a4), some (.int (nI a5)), some (.int x1)]) (st' := [.int x1, .ref 81]) (h' := Hp S2) 1 (fun Z => rfl) ?_
      obtain ⟨m3, em, hi, hw⟩ := hw
      refine wp_st (pc' := 99) (L' := [some (.ref 65), j1, some (.int (nI a2)), some (.int (nI a3)), some (.int a4), some (.int (nI a5)), some (.int x1)]) (st' := [.int (S2 81 m3)]) (h' := Hp S2) 1 (fun Z => (congrArg (fun v => zit E 1 Z (d + 1) m_m_laysFar 98 [some (.ref 65), j1, some (.int (nI a2)), some (.int (nI a3)), some (.int a4), some (.int (nI a5)), some (.int x1)] [.int v, .ref 81] (Hp S2)) em).trans (ldN (E := E) sh81 (by decide) hi [] (fun st => Z (d + 1) m_m_laysFar 99 [some (.ref 65), j1, some (.int (nI a2)), some (.int (nI a3)), some (.int a4), some (.int (nI a5)), some (.int x1)] st (Hp S2)))) ?_
      refine wp_st (pc' := 102) (L' := [some (.ref 65), j1, some (.int (nI a2)), some (.int (nI a3)), some (.int a4), some (.int (nI a5)), some (.int x1)]) (st' := [.int 9999, .int (S2 81 m3)]) (h' := Hp S2) 1 (fun Z => rfl) ?_
      by_cases hc : 9999 ≤ (S2 81 m3)
      · rw [if_pos hc] at hw
        refine wp_st (pc' := 108) (L' := [some (.ref 65), j1, some (.int (nI a2)), some (.int (nI a3)), some (.int a4), some (.int (nI a5)), some (.int x1)]) (st' := []) (h' := Hp S2) 1 (fun Z => if_pos hc) ?_
        refine wp_st (pc' := 109) (L' := [some (.ref 65), j1, some (.int (nI a2)), some (.int (nI a3)), some (.int a4), some (.int (nI a5)), some (.int x1)]) (st' := [.ref 65]) (h' := Hp S2) 1 (fun Z => rfl) ?_
        refine wp_st (pc' := 112) (L' := [some (.ref 65), j1, some (.int (nI a2)), some (.int (nI a3)), some (.int a4), some (.int (nI a5)), some (.int x1)]) (st' := [.ref 81]) (h' := Hp S2) 1 (fun Z => gfR (E := E) sh65 rfl _) ?_
        refine wp_st (pc' := 115) (L' := [some (.ref 65), j1, some (.int (nI a2)), some (.int (nI a3)), some (.int a4), some (.int (nI a5)), some (.int x1)]) (st' := [.ref 65, .int x1, .ref 81]) (h' := Hp S2) 2 (fun Z => rfl) ?_
        refine wp_st (pc' := 118) (L' := [some (.ref 65), j1, some (.int (nI a2)), some (.int (nI a3)), some (.int a4), some (.int (nI a5)), some (.int x1)]) (st' := [.ref 81, .int x1, .ref 81]) (h' := Hp S2) 1 (fun Z => gfR (E := E) sh65 rfl _) ?_
        refine wp_st (pc' := 120) (L' := [some (.ref 65), j1, some (.int (nI a2)), some (.int (nI a3)), some (.int a4), some (.int (nI a5)), some (.int x1)]) (st' := [.int a4, .ref 81, .int x1, .ref 81]) (h' := Hp S2) 1 (fun Z => rfl) ?_
        obtain ⟨m4, em, hi, hw⟩ := hw
        refine wp_st (pc' := 121) (L' := [some (.ref 65), j1, some (.int (nI a2)), some (.int (nI a3)), some (.int a4), some (.int (nI a5)), some (.int x1)]) (st' := [.int (S2 81 m4), .int x1, .ref 81]) (h' := Hp S2) 1 (fun Z => (congrArg (fun v => zit E 1 Z (d + 1) m_m_laysFar 120 [some (.ref 65), j1, some (.int (nI a2)), some (.int (nI a3)), some (.int a4), some (.int (nI a5)), some (.int x1)] [.int v, .ref 81, .int x1, .ref 81] (Hp S2)) em).trans (ldN (E := E) sh81 (by decide) hi [.int x1, .ref 81] (fun st => Z (d + 1) m_m_laysFar 121 [some (.ref 65), j1, some (.int (nI a2)), some (.int (nI a3)), some (.int a4), some (.int (nI a5)), some (.int x1)] st (Hp S2)))) ?_
        refine wp_st (pc' := 123) (L' := [some (.ref 65), j1, some (.int (nI a2)), some (.int (nI a3)), some (.int a4), some (.int (nI a5)), some (.int x1)]) (st' := [.int ((S2 81 m4) + (1 : Int32)), .int x1, .ref 81]) (h' := Hp S2) 2 (fun Z => rfl) ?_
        obtain ⟨m6, em, hi, hw⟩ := hw
        have hw := hw _ rfl
        refine wp_st (pc' := 124) (L' := [some (.ref 65), j1, some (.int (nI a2)), some (.int (nI a3)), some (.int a4), some (.int (nI a5)), some (.int x1)]) (st' := []) (h' := Hp (up S2 81 m6 ((S2 81 m4) + (1 : Int32)))) 1 (fun Z => (congrArg (fun v => zit E 1 Z (d + 1) m_m_laysFar 123 [some (.ref 65), j1, some (.int (nI a2)), some (.int (nI a3)), some (.int a4), some (.int (nI a5)), some (.int x1)] [.int ((S2 81 m4) + (1 : Int32)), .int v, .ref 81] (Hp S2)) em).trans (stN sh81 (by decide) hi _ _)) ?_
        generalize up S2 81 m6 ((S2 81 m4) + (1 : Int32)) = S5 at hw ⊢
        refine wp_st (pc' := 127) (L' := [some (.ref 65), j1, some (.int (nI a2)), some (.int (nI a3)), some (.int a4), some (.int (nI a5)), some (.int x1)]) (st' := [.int x1, .ref 65]) (h' := Hp S5) 2 (fun Z => rfl) ?_
        refine wp_call (pc' := 130) (rest := []) (fun Z => rfl) (isO_of sh65) hw ?_
        rintro o h1 ⟨x7, S8, rfl, rfl, hw⟩
        refine ⟨_, rfl, ?_⟩
        show wp E (d + 1) m_m_laysFar 130 [some (.ref 65), j1, some (.int (nI a2)), some (.int (nI a3)), some (.int a4), some (.int (nI a5)), some (.int x1)] [.int x7] (Hp S8) (QV Q)
        by_cases hc : x7 = 0
        · rw [if_pos hc] at hw
          refine wp_st (pc' := 136) (L' := [some (.ref 65), j1, some (.int (nI a2)), some (.int (nI a3)), some (.int a4), some (.int (nI a5)), some (.int x1)]) (st' := []) (h' := Hp S8) 1 (fun Z => if_pos hc) ?_
          refine wp_st (pc' := 137) (L' := [some (.ref 65), j1, some (.int (nI a2)), some (.int (nI a3)), some (.int a4), some (.int (nI a5)), some (.int x1)]) (st' := [.ref 65]) (h' := Hp S8) 1 (fun Z => rfl) ?_
          refine wp_st (pc' := 140) (L' := [some (.ref 65), j1, some (.int (nI a2)), some (.int (nI a3)), some (.int a4), some (.int (nI a5)), some (.int x1)]) (st' := [.ref 82]) (h' := Hp S8) 1 (fun Z => gfR (E := E) sh65 rfl _) ?_
          refine wp_st (pc' := 143) (L' := [some (.ref 65), j1, some (.int (nI a2)), some (.int (nI a3)), some (.int a4), some (.int (nI a5)), some (.int x1)]) (st' := [.int x1, .int (nI a3), .ref 82]) (h' := Hp S8) 2 (fun Z => rfl) ?_
          obtain ⟨hi, hw⟩ := hw
          have hw := hw _ rfl
          refine wp_st (pc' := 144) (L' := [some (.ref 65), j1, some (.int (nI a2)), some (.int (nI a3)), some (.int a4), some (.int (nI a5)), some (.int x1)]) (st' := []) (h' := Hp (up S8 82 a3 x1)) 1 (fun Z => stN sh82 (by decide) hi _ _) ?_
          generalize up S8 82 a3 x1 = S9 at hw ⊢
          refine wp_st (pc' := 147) (L' := [some (.ref 65), j1, some (.int (nI a2)), some (.int (nI (a3 + 1))), some (.int a4), some (.int (nI a5)), some (.int x1)]) (st' := []) (h' := Hp S9) 1 (fun Z => by rw [← nI_add a3 1]; rfl) ?_
          refine wp_st (pc' := 150) (L' := [some (.ref 65), j1, some (.int (nI a2)), some (.int (nI (a3 + 1))), some (.int a4), some (.int (nI (a5 + 1))), some (.int x1)]) (st' := []) (h' := Hp S9) 1 (fun Z => by rw [← nI_add a5 1]; rfl) ?_
          exact wp_st 1 (fun Z => rfl) (show wp E (d + 1) m_m_laysFar 70 [some (.ref 65), j1, some (.int (nI a2)), some (.int (nI (a3 + 1))), some (.int a4), some (.int (nI (a5 + 1))), some (.int x1)] [] (Hp S9) (QV Q) from (hw j1 (some (.int x1))))
        · rw [if_neg hc] at hw
          refine wp_st (pc' := 133) (L' := [some (.ref 65), j1, some (.int (nI a2)), some (.int (nI a3)), some (.int a4), some (.int (nI a5)), some (.int x1)]) (st' := []) (h' := Hp S8) 1 (fun Z => if_neg hc) ?_
          refine wp_st (pc' := 147) (L' := [some (.ref 65), j1, some (.int (nI a2)), some (.int (nI a3)), some (.int a4), some (.int (nI a5)), some (.int x1)]) (st' := []) (h' := Hp S8) 1 (fun Z => rfl) ?_
          refine wp_st (pc' := 150) (L' := [some (.ref 65), j1, some (.int (nI a2)), some (.int (nI a3)), some (.int a4), some (.int (nI (a5 + 1))), some (.int x1)]) (st' := []) (h' := Hp S8) 1 (fun Z => by rw [← nI_add a5 1]; rfl) ?_
          exact wp_st 1 (fun Z => rfl) (show wp E (d + 1) m_m_laysFar 70 [some (.ref 65), j1, some (.int (nI a2)), some (.int (nI a3)), some (.int a4), some (.int (nI (a5 + 1))), some (.int x1)] [] (Hp S8) (QV Q) from (hw j1 (some (.int x1))))
      · rw [if_neg hc] at hw
        refine wp_st (pc' := 105) (L' := [some (.ref 65), j1, some (.int (nI a2)), some (.int (nI a3)), some (.int a4), some (.int (nI a5)), some (.int x1)]) (st' := []) (h' := Hp S2) 1 (fun Z => if_neg hc) ?_
        refine wp_st (pc' := 147) (L' := [some (.ref 65), j1, some (.int (nI a2)), some (.int (nI a3)), some (.int a4), some (.int (nI a5)), some (.int x1)]) (st' := []) (h' := Hp S2) 1 (fun Z => rfl) ?_
        refine wp_st (pc' := 150) (L' := [some (.ref 65), j1, some (.int (nI a2)), some (.int (nI a3)), some (.int a4), some (.int (nI (a5 + 1))), some (.int x1)]) (st' := []) (h' := Hp S2) 1 (fun Z => by rw [← nI_add a5 1]; rfl) ?_
        exact wp_st 1 (fun Z => rfl) (show wp E (d + 1) m_m_laysFar 70 [some (.ref 65), j1, some (.int (nI a2)), some (.int (nI a3)), some (.int a4), some (.int (nI (a5 + 1))), some (.int x1)] [] (Hp S2) (QV Q) from (hw j1 (some (.int x1))))
set_option maxRecDepth 4000 in
theorem w_m_putBy {E : zX} {d : Nat} {S : St} {a1 : Int32} {Q : Int32 → St → Prop} (hd : 1 ≤ d) 
    (hw : ∀ S1, S1 = up S 65 0 0 →
    k_m_isWhat E (d - 1) S1 a1 1 (fun x2 S3 =>
    if x2 = 0 then (
      Q (0 : Int32) S3)
    else (
      k_m_laysTaking E (d - 1) S3 (fun S5 =>
      k_m_putBy_27 E d S5 a1 0 0 0 Q)))) :
    k_m_putBy E d S a1 Q := by
  obtain ⟨d, rfl⟩ := Nat.exists_eq_add_of_le' hd
  show wp E (d + 1) m_m_putBy 0 [some (.ref 65), some (.int a1), none, none, none] [] (Hp S) (QI Q)
  refine wp_st (pc' := 2) (L' := [some (.ref 65), some (.int a1), none, none, none]) (st' := [.int 0, .ref 65]) (h' := Hp S) 2 (fun Z => rfl) ?_
  have hw := hw _ rfl
  refine wp_st (pc' := 5) (L' := [some (.ref 65), some (.int a1), none, none, none]) (st' := []) (h' := Hp (up S 65 0 0)) 1 (fun Z => pfI sh65 rfl (Nat.le_of_ble_eq_true rfl) rfl _) ?_
  generalize up S 65 0 0 = S1 at hw ⊢
  refine wp_st (pc' := 8) (L' := [some (.ref 65), some (.int a1), none, none, none]) (st' := [.int 1, .int a1, .ref 65]) (h' := Hp S1) 3 (fun Z => rfl) ?_
  refine wp_call (pc' := 11) (rest := []) (fun Z => rfl) (isO_of sh65) hw ?_
  rintro o h1 ⟨x2, S3, rfl, rfl, hw⟩
  refine ⟨_, rfl, ?_⟩
  show wp E (d + 1) m_m_putBy 11 [some (.ref 65), some (.int a1), none, none, none] [.int x2] (Hp S3) (QI Q)
  by_cases hc : x2 = 0
  · rw [if_pos hc] at hw
    refine wp_st (pc' := 14) (L' := [some (.ref 65), some (.int a1), none, none, none]) (st' := []) (h' := Hp S3) 1 (fun Z => if_pos hc) ?_
    refine wp_st (pc' := 15) (L' := [some (.ref 65), some (.int a1), none, none, none]) (st' := [.int 0]) (h' := Hp S3) 1 (fun Z => rfl) ?_
    exact wp_ret (fun Z => rfl) ⟨_, _, rfl, rfl, hw⟩
  · rw [if_neg hc] at hw
    refine wp_st (pc' := 16) (L' := [some (.ref 65), some (.int a1), none, none, none]) (st' := []) (h' := Hp S3) 1 (fun Z => if_neg hc) ?_
    refine wp_st (pc' := 17) (L' := [some (.ref 65), some (.int a1), none, none, none]) (st' := [.ref 65]) (h' := Hp S3) 1 (fun Z => rfl) ?_
    refine wp_call (pc' := 20) (rest := []) (fun Z => rfl) (isO_of sh65) hw ?_
    rintro o h1 ⟨S5, rfl, rfl, hw⟩
    refine ⟨_, rfl, ?_⟩
    show wp E (d + 1) m_m_putBy 20 [some (.ref 65), some (.int a1), none, none, none] [] (Hp S5) (QI Q)
    exact wp_st 6 (fun Z => rfl) (show wp E (d + 1) m_m_putBy 27 [some (.ref 65), some (.int a1), some (.int 0), some (.int 0), some (.int 0)] [] (Hp S5) (QI Q) from hw)
set_option maxRecDepth 4000 in
theorem w_m_putBy_27 {E : zX} {d : Nat} {S : St} {a1 : Int32} {a2 : Nat} {a3 : Int32} {a4 : Nat} {Q : Int32 → St → Prop} (hd : 1 ≤ d) 
    (hw : if (S 65 3) ≤ (nI a4) then (
      if a1 = 0 then (
        Q (nI a2) S)
      else (
        Q a3 S))
    else (
      a4 < 7 ∧
      if (S 84 a4) = (-1) then (
        k_m_putBy_27 E d S a1 a2 a3 (a4 + 1) Q)
      else (
        a4 < 7 ∧
        ∃ m1 : Nat, (S 84 a4) = nI m1 ∧ m1 < 10 ∧
        (1 + a4) < 158 ∧
        k_m_putBy_27 E d S a1 (a2 + 1) (a3 + ((S 67 m1) - (S 77 (1 + a4)))) (a4 + 1) Q))) :
    k_m_putBy_27 E d S a1 a2 a3 a4 Q := by
  obtain ⟨d, rfl⟩ := Nat.exists_eq_add_of_le' hd
  show wp E (d + 1) m_m_putBy 27 [some (.ref 65), some (.int a1), some (.int (nI a2)), some (.int a3), some (.int (nI a4))] [] (Hp S) (QI Q)
  refine wp_st (pc' := 30) (L' := [some (.ref 65), some (.int a1), some (.int (nI a2)), some (.int a3), some (.int (nI a4))]) (st' := [.ref 65, .int (nI a4)]) (h' := Hp S) 2 (fun Z => rfl) ?_
  refine wp_st (pc' := 33) (L' := [some (.ref 65), some (.int a1), some (.int (nI a2)), some (.int a3), some (.int (nI a4))]) (st' := [.int (S 65 3), .int (nI a4)]) (h' := Hp S) 1 (fun Z => gfI (E := E) sh65 rfl _) ?_
  by_cases hc : (S 65 3) ≤ (nI a4)
  · rw [if_pos hc] at hw
    refine wp_st (pc' := 84) (L' := [some (.ref 65), some (.int a1), some (.int (nI a2)), some (.int a3), some (.int (nI a4))]) (st' := []) (h' := Hp S) 1 (fun Z => if_pos hc) ?_
    refine wp_st (pc' := 85) (L' := [some (.ref 65), some (.int a1), some (.int (nI a2)), some (.int a3), some (.int (nI a4))]) (st' := [.int a1]) (h' := Hp S) 1 (fun Z => rfl) ?_
    by_cases hc : a1 = 0
    · rw [if_pos hc] at hw
      refine wp_st (pc' := 88) (L' := [some (.ref 65), some (.int a1), some (.int (nI a2)), some (.int a3), some (.int (nI a4))]) (st' := []) (h' := Hp S) 1 (fun Z => if_pos hc) ?_
      refine wp_st (pc' := 93) (L' := [some (.ref 65), some (.int a1), some (.int (nI a2)), some (.int a3), some (.int (nI a4))]) (st' := [.int (nI a2)]) (h' := Hp S) 2 (fun Z => rfl) ?_
      exact wp_ret (fun Z => rfl) ⟨_, _, rfl, rfl, hw⟩
    · rw [if_neg hc] at hw
      refine wp_st (pc' := 92) (L' := [some (.ref 65), some (.int a1), some (.int (nI a2)), some (.int a3), some (.int (nI a4))]) (st' := []) (h' := Hp S) 1 (fun Z => if_neg hc) ?_
      refine wp_st (pc' := 93) (L' := [some (.ref 65), some (.int a1), some (.int (nI a2)), some (.int a3), some (.int (nI a4))]) (st' := [.int a3]) (h' := Hp S) 1 (fun Z => rfl) ?_
      exact wp_ret (fun Z => rfl) ⟨_, _, rfl, rfl, hw⟩
  · rw [if_neg hc] at hw
    refine wp_st (pc' := 36) (L' := [some (.ref 65), some (.int a1), some (.int (nI a2)), some (.int a3), some (.int (nI a4))]) (st' := []) (h' := Hp S) 1 (fun Z => if_neg hc) ?_
    refine wp_st (pc' := 37) (L' := [some (.ref 65), some (.int a1), some (.int (nI a2)), some (.int a3), some (.int (nI a4))]) (st' := [.ref 65]) (h' := Hp S) 1 (fun Z => rfl) ?_
    refine wp_st (pc' := 40) (L' := [some (.ref 65), some (.int a1), some (.int (nI a2)), some (.int a3), some (.int (nI a4))]) (st' := [.ref 84]) (h' := Hp S) 1 (fun Z => gfR (E := E) sh65 rfl _) ?_
    refine wp_st (pc' := 42) (L' := [some (.ref 65), some (.int a1), some (.int (nI a2)), some (.int a3), some (.int (nI a4))]) (st' := [.int (nI a4), .ref 84]) (h' := Hp S) 1 (fun Z => rfl) ?_
    obtain ⟨hi, hw⟩ := hw
    refine wp_st (pc' := 43) (L' := [some (.ref 65), some (.int a1), some (.int (nI a2)), some (.int a3), some (.int (nI a4))]) (st' := [.int (S 84 a4)]) (h' := Hp S) 1 (fun Z => ldN (E := E) sh84 (by decide) hi [] (fun st => Z (d + 1) m_m_putBy 43 [some (.ref 65), some (.int a1), some (.int (nI a2)), some (.int a3), some (.int (nI a4))] st (Hp S))) ?_
    refine wp_st (pc' := 44) (L' := [some (.ref 65), some (.int a1), some (.int (nI a2)), some (.int a3), some (.int (nI a4))]) (st' := [.int (-1), .int (S 84 a4)]) (h' := Hp S) 1 (fun Z => congrArg (fun v => Z (d + 1) m_m_putBy 44 [some (.ref 65), some (.int a1), some (.int (nI a2)), some (.int a3), some (.int (nI a4))] [.int v, .int (S 84 a4)] (Hp S)) (show Int32.ofInt (-1) = (-1) by decide)) ?_
    by_cases hc : (S 84 a4) = (-1)
    · rw [if_pos hc] at hw
      refine wp_st (pc' := 47) (L' := [some (.ref 65), some (.int a1), some (.int (nI a2)), some (.int a3), some (.int (nI a4))]) (st' := []) (h' := Hp S) 1 (fun Z => if_pos hc) ?_
      refine wp_st (pc' := 78) (L' := [some (.ref 65), some (.int a1), some (.int (nI a2)), some (.int a3), some (.int (nI a4))]) (st' := []) (h' := Hp S) 1 (fun Z => rfl) ?_
      refine wp_st (pc' := 81) (L' := [some (.ref 65), some (.int a1), some (.int (nI a2)), some (.int a3), some (.int (nI (a4 + 1)))]) (st' := []) (h' := Hp S) 1 (fun Z => by rw [← nI_add a4 1]; rfl) ?_
      exact wp_st 1 (fun Z => rfl) (show wp E (d + 1) m_m_putBy 27 [some (.ref 65), some (.int a1), some (.int (nI a2)), some (.int a3), some (.int (nI (a4 + 1)))] [] (Hp S) (QI Q) from hw)
    · rw [if_neg hc] at hw
      refine wp_st (pc' := 50) (L' := [some (.ref 65), some (.int a1), some (.int (nI a2)), some (.int a3), some (.int (nI a4))]) (st' := []) (h' := Hp S) 1 (fun Z => if_neg hc) ?_
      refine wp_st (pc' := 53) (L' := [some (.ref 65), some (.int a1), some (.int (nI (a2 + 1))), some (.int a3), some (.int (nI a4))]) (st' := []) (h' := Hp S) 1 (fun Z => by rw [← nI_add a2 1]; rfl) ?_
      refine wp_st (pc' := 55) (L' := [some (.ref 65), some (.int a1), some (.int (nI (a2 + 1))), some (.int a3), some (.int (nI a4))]) (st' := [.ref 65, .int a3]) (h' := Hp S) 2 (fun Z => rfl) ?_
      refine wp_st (pc' := 58) (L' := [some (.ref 65), some (.int a1), some (.int (nI (a2 + 1))), some (.int a3), some (.int (nI a4))]) (st' := [.ref 67, .int a3]) (h' := Hp S) 1 (fun Z => gfR (E := E) sh65 rfl _) ?_
      refine wp_st (pc' := 59) (L' := [some (.ref 65), some (.int a1), some (.int (nI (a2 + 1))), some (.int a3), some (.int (nI a4))]) (st' := [.ref 65, .ref 67, .int a3]) (h' := Hp S) 1 (fun Z => rfl) ?_
      refine wp_st (pc' := 62) (L' := [some (.ref 65), some (.int a1), some (.int (nI (a2 + 1))), some (.int a3), some (.int (nI a4))]) (st' := [.ref 84, .ref 67, .int a3]) (h' := Hp S) 1 (fun Z => gfR (E := E) sh65 rfl _) ?_
      refine wp_st (pc' := 64) (L' := [some (.ref 65), some (.int a1), some (.int (nI (a2 + 1))), some (.int a3), some (.int (nI a4))]) (st' := [.int (nI a4), .ref 84, .ref 67, .int a3]) (h' := Hp S) 1 (fun Z => rfl) ?_
      obtain ⟨hi, hw⟩ := hw
      refine wp_st (pc' := 65) (L' := [some (.ref 65), some (.int a1), some (.int (nI (a2 + 1))), some (.int a3), some (.int (nI a4))]) (st' := [.int (S 84 a4), .ref 67, .int a3]) (h' := Hp S) 1 (fun Z => ldN (E := E) sh84 (by decide) hi [.ref 67, .int a3] (fun st => Z (d + 1) m_m_putBy 65 [some (.ref 65), some (.int a1), some (.int (nI (a2 + 1))), some (.int a3), some (.int (nI a4))] st (Hp S))) ?_
      obtain ⟨m1, em, hi, hw⟩ := hw
      refine wp_st (pc' := 66) (L' := [some (.ref 65), some (.int a1), some (.int (nI (a2 + 1))), some (.int a3), some (.int (nI a4))]) (st' := [.int (S 67 m1), .int a3]) (h' := Hp S) 1 (fun Z => (congrArg (fun v => zit E 1 Z (d + 1) m_m_putBy 65 [some (.ref 65), some (.int a1), some (.int (nI (a2 + 1))), some (.int a3), some (.int (nI a4))] [.int v, .ref 67, .int a3] (Hp S)) em).trans (ldN (E := E) sh67 (by decide) hi [.int a3] (fun st => Z (d + 1) m_m_putBy 66 [some (.ref 65), some (.int a1), some (.int (nI (a2 + 1))), some (.int a3), some (.int (nI a4))] st (Hp S)))) ?_
      refine wp_st (pc' := 67) (L' := [some (.ref 65), some (.int a1), some (.int (nI (a2 + 1))), some (.int a3), some (.int (nI a4))]) (st' := [.ref 65, .int (S 67 m1), .int a3]) (h' := Hp S) 1 (fun Z => rfl) ?_
      refine wp_st (pc' := 70) (L' := [some (.ref 65), some (.int a1), some (.int (nI (a2 + 1))), some (.int a3), some (.int (nI a4))]) (st' := [.ref 77, .int (S 67 m1), .int a3]) (h' := Hp S) 1 (fun Z => gfR (E := E) sh65 rfl _) ?_
      refine wp_st (pc' := 73) (L' := [some (.ref 65), some (.int a1), some (.int (nI (a2 + 1))), some (.int a3), some (.int (nI a4))]) (st' := [.int (nI a4), .int 1, .ref 77, .int (S 67 m1), .int a3]) (h' := Hp S) 2 (fun Z => rfl) ?_
      refine wp_st (pc' := 74) (L' := [some (.ref 65), some (.int a1), some (.int (nI (a2 + 1))), some (.int a3), some (.int (nI a4))]) (st' := [.int (nI (1 + a4)), .ref 77, .int (S 67 m1), .int a3]) (h' := Hp S) 1 (fun Z => by rw [← nI_add 1 a4]; rfl) ?_
      obtain ⟨hi, hw⟩ := hw
      refine wp_st (pc' := 75) (L' := [some (.ref 65), some (.int a1), some (.int (nI (a2 + 1))), some (.int a3), some (.int (nI a4))]) (st' := [.int (S 77 (1 + a4)), .int (S 67 m1), .int a3]) (h' := Hp S) 1 (fun Z => ldN (E := E) sh77 (by decide) hi [.int (S 67 m1), .int a3] (fun st => Z (d + 1) m_m_putBy 75 [some (.ref 65), some (.int a1), some (.int (nI (a2 + 1))), some (.int a3), some (.int (nI a4))] st (Hp S))) ?_
      refine wp_st (pc' := 78) (L' := [some (.ref 65), some (.int a1), some (.int (nI (a2 + 1))), some (.int (a3 + ((S 67 m1) - (S 77 (1 + a4))))), some (.int (nI a4))]) (st' := []) (h' := Hp S) 3 (fun Z => rfl) ?_
      refine wp_st (pc' := 81) (L' := [some (.ref 65), some (.int a1), some (.int (nI (a2 + 1))), some (.int (a3 + ((S 67 m1) - (S 77 (1 + a4))))), some (.int (nI (a4 + 1)))]) (st' := []) (h' := Hp S) 1 (fun Z => by rw [← nI_add a4 1]; rfl) ?_
      exact wp_st 1 (fun Z => rfl) (show wp E (d + 1) m_m_putBy 27 [some (.ref 65), some (.int a1), some (.int (nI (a2 + 1))), some (.int (a3 + ((S 67 m1) - (S 77 (1 + a4))))), some (.int (nI (a4 + 1)))] [] (Hp S) (QI Q) from hw)
set_option maxRecDepth 4000 in
theorem w_m_laysTaking {E : zX} {d : Nat} {S : St}  {Q : St → Prop} (hd : 1 ≤ d) 
    (hw : k_m_laysPuts E (d - 1) S (fun S2 =>
    k_m_laysTaking_8 E d S2 0 0 Q)) :
    k_m_laysTaking E d S Q := by
  obtain ⟨d, rfl⟩ := Nat.exists_eq_add_of_le' hd
  show wp E (d + 1) m_m_laysTaking 0 [some (.ref 65), none, none, none] [] (Hp S) (QV Q)
  refine wp_st (pc' := 1) (L' := [some (.ref 65), none, none, none]) (st' := [.ref 65]) (h' := Hp S) 1 (fun Z => rfl) ?_
  refine wp_call (pc' := 4) (rest := []) (fun Z => rfl) (isO_of sh65) hw ?_
  rintro o h1 ⟨S2, rfl, rfl, hw⟩
  refine ⟨_, rfl, ?_⟩
  show wp E (d + 1) m_m_laysTaking 4 [some (.ref 65), none, none, none] [] (Hp S2) (QV Q)
  exact wp_st 4 (fun Z => rfl) (show wp E (d + 1) m_m_laysTaking 8 [some (.ref 65), some (.int 0), some (.int 0), none] [] (Hp S2) (QV Q) from (hw none))
set_option maxRecDepth 4000 in
theorem w_m_laysTaking_8 {E : zX} {d : Nat} {S : St} {a1 : Int32} {a2 : Nat} {Q : St → Prop} (hd : 1 ≤ d) 
    (hw : if (S 65 3) ≤ (nI a2) then (
      Q S)
    else (
      a2 < 7 ∧
      ∀ S1, S1 = up S 84 a2 (-1) →
      k_m_laysTaking_30 E d S1 a1 a2 ((S1 65 4) - (1 : Int32)) Q)) :
    k_m_laysTaking_8 E d S a1 a2 Q := by
  obtain ⟨d, rfl⟩ := Nat.exists_eq_add_of_le' hd
  intro j3
  show wp E (d + 1) m_m_laysTaking 8 [some (.ref 65), some (.int a1), some (.int (nI a2)), j3] [] (Hp S) (QV Q)
  refine wp_st (pc' := 10) (L' := [some (.ref 65), some (.int a1), some (.int (nI a2)), j3]) (st' := [.ref 65, .int (nI a2)]) (h' := Hp S) 2 (fun Z => rfl) ?_
  refine wp_st (pc' := 13) (L' := [some (.ref 65), some (.int a1), some (.int (nI a2)), j3]) (st' := [.int (S 65 3), .int (nI a2)]) (h' := Hp S) 1 (fun Z => gfI (E := E) sh65 rfl _) ?_
  by_cases hc : (S 65 3) ≤ (nI a2)
  · rw [if_pos hc] at hw
    refine wp_st (pc' := 106) (L' := [some (.ref 65), some (.int a1), some (.int (nI a2)), j3]) (st' := []) (h' := Hp S) 1 (fun Z => if_pos hc) ?_
    exact wp_ret (fun Z => rfl) ⟨_, rfl, rfl, hw⟩
  · rw [if_neg hc] at hw
    refine wp_st (pc' := 16) (L' := [some (.ref 65), some (.int a1), some (.int (nI a2)), j3]) (st' := []) (h' := Hp S) 1 (fun Z => if_neg hc) ?_
    refine wp_st (pc' := 17) (L' := [some (.ref 65), some (.int a1), some (.int (nI a2)), j3]) (st' := [.ref 65]) (h' := Hp S) 1 (fun Z => rfl) ?_
    refine wp_st (pc' := 20) (L' := [some (.ref 65), some (.int a1), some (.int (nI a2)), j3]) (st' := [.ref 84]) (h' := Hp S) 1 (fun Z => gfR (E := E) sh65 rfl _) ?_
    refine wp_st (pc' := 21) (L' := [some (.ref 65), some (.int a1), some (.int (nI a2)), j3]) (st' := [.int (nI a2), .ref 84]) (h' := Hp S) 1 (fun Z => rfl) ?_
    refine wp_st (pc' := 22) (L' := [some (.ref 65), some (.int a1), some (.int (nI a2)), j3]) (st' := [.int (-1), .int (nI a2), .ref 84]) (h' := Hp S) 1 (fun Z => congrArg (fun v => Z (d + 1) m_m_laysTaking 22 [some (.ref 65), some (.int a1), some (.int (nI a2)), j3] [.int v, .int (nI a2), .ref 84] (Hp S)) (show Int32.ofInt (-1) = (-1) by decide)) ?_
    obtain ⟨hi, hw⟩ := hw
    have hw := hw _ rfl
    refine wp_st (pc' := 23) (L' := [some (.ref 65), some (.int a1), some (.int (nI a2)), j3]) (st' := []) (h' := Hp (up S 84 a2 (-1))) 1 (fun Z => stN sh84 (by decide) hi _ _) ?_
    generalize up S 84 a2 (-1) = S1 at hw ⊢
    refine wp_st (pc' := 24) (L' := [some (.ref 65), some (.int a1), some (.int (nI a2)), j3]) (st' := [.ref 65]) (h' := Hp S1) 1 (fun Z => rfl) ?_
    refine wp_st (pc' := 27) (L' := [some (.ref 65), some (.int a1), some (.int (nI a2)), j3]) (st' := [.int (S1 65 4)]) (h' := Hp S1) 1 (fun Z => gfI (E := E) sh65 rfl _) ?_
    exact wp_st 3 (fun Z => rfl) (show wp E (d + 1) m_m_laysTaking 30 [some (.ref 65), some (.int a1), some (.int (nI a2)), some (.int ((S1 65 4) - (1 : Int32)))] [] (Hp S1) (QV Q) from hw)
set_option maxRecDepth 4000 in
theorem w_m_laysTaking_30 {E : zX} {d : Nat} {S : St} {a1 : Int32} {a2 : Nat} {a3 : Int32} {Q : St → Prop} (hd : 1 ≤ d) 
    (hw : if a3 < 0 then (
      a2 < 7 ∧
      if (S 84 a2) = (-1) then (
        k_m_laysTaking_8 E d S a1 (a2 + 1) Q)
      else (
        a2 < 7 ∧
        k_m_laysTaking_8 E d S (a1 ||| ((1 : Int32) <<< ((S 84 a2) &&& 31))) (a2 + 1) Q))
    else (
      k_m_canPut E (d - 1) S (nI a2) a3 a1 (fun x1 S2 =>
      if x1 = 0 then (
        k_m_laysTaking_30 E d S2 a1 a2 (a3 + (-1)) Q)
      else (
        k_m_puts0 E (d - 1) S2 (nI a2) a3 a1 (fun x3 S4 =>
        ∃ m5 : Nat, ((nI (1024 * a2)) + a1) = nI m5 ∧ m5 < 8192 ∧
        if x3 = (S4 83 m5) then (
          a2 < 7 ∧
          ∀ S6, S6 = up S4 84 a2 a3 →
          k_m_laysTaking_30 E d S6 a1 a2 (a3 + (-1)) Q)
        else (
          k_m_laysTaking_30 E d S4 a1 a2 (a3 + (-1)) Q)))))) :
    k_m_laysTaking_30 E d S a1 a2 a3 Q := by
  obtain ⟨d, rfl⟩ := Nat.exists_eq_add_of_le' hd
  show wp E (d + 1) m_m_laysTaking 30 [some (.ref 65), some (.int a1), some (.int (nI a2)), some (.int a3)] [] (Hp S) (QV Q)
  refine wp_st (pc' := 31) (L' := [some (.ref 65), some (.int a1), some (.int (nI a2)), some (.int a3)]) (st' := [.int a3]) (h' := Hp S) 1 (fun Z => rfl) ?_
  by_cases hc : a3 < 0
  · rw [if_pos hc] at hw
    refine wp_st (pc' := 79) (L' := [some (.ref 65), some (.int a1), some (.int (nI a2)), some (.int a3)]) (st' := []) (h' := Hp S) 1 (fun Z => if_pos hc) ?_
    refine wp_st (pc' := 80) (L' := [some (.ref 65), some (.int a1), some (.int (nI a2)), some (.int a3)]) (st' := [.ref 65]) (h' := Hp S) 1 (fun Z => rfl) ?_
    refine wp_st (pc' := 83) (L' := [some (.ref 65), some (.int a1), some (.int (nI a2)), some (.int a3)]) (st' := [.ref 84]) (h' := Hp S) 1 (fun Z => gfR (E := E) sh65 rfl _) ?_
    refine wp_st (pc' := 84) (L' := [some (.ref 65), some (.int a1), some (.int (nI a2)), some (.int a3)]) (st' := [.int (nI a2), .ref 84]) (h' := Hp S) 1 (fun Z => rfl) ?_
    obtain ⟨hi, hw⟩ := hw
    refine wp_st (pc' := 85) (L' := [some (.ref 65), some (.int a1), some (.int (nI a2)), some (.int a3)]) (st' := [.int (S 84 a2)]) (h' := Hp S) 1 (fun Z => ldN (E := E) sh84 (by decide) hi [] (fun st => Z (d + 1) m_m_laysTaking 85 [some (.ref 65), some (.int a1), some (.int (nI a2)), some (.int a3)] st (Hp S))) ?_
    refine wp_st (pc' := 86) (L' := [some (.ref 65), some (.int a1), some (.int (nI a2)), some (.int a3)]) (st' := [.int (-1), .int (S 84 a2)]) (h' := Hp S) 1 (fun Z => congrArg (fun v => Z (d + 1) m_m_laysTaking 86 [some (.ref 65), some (.int a1), some (.int (nI a2)), some (.int a3)] [.int v, .int (S 84 a2)] (Hp S)) (show Int32.ofInt (-1) = (-1) by decide)) ?_
    by_cases hc : (S 84 a2) = (-1)
    · rw [if_pos hc] at hw
      refine wp_st (pc' := 100) (L' := [some (.ref 65), some (.int a1), some (.int (nI a2)), some (.int a3)]) (st' := []) (h' := Hp S) 1 (fun Z => if_pos hc) ?_
      refine wp_st (pc' := 103) (L' := [some (.ref 65), some (.int a1), some (.int (nI (a2 + 1))), some (.int a3)]) (st' := []) (h' := Hp S) 1 (fun Z => by rw [← nI_add a2 1]; rfl) ?_
      exact wp_st 1 (fun Z => rfl) (show wp E (d + 1) m_m_laysTaking 8 [some (.ref 65), some (.int a1), some (.int (nI (a2 + 1))), some (.int a3)] [] (Hp S) (QV Q) from (hw (some (.int a3))))
    · rw [if_neg hc] at hw
      refine wp_st (pc' := 89) (L' := [some (.ref 65), some (.int a1), some (.int (nI a2)), some (.int a3)]) (st' := []) (h' := Hp S) 1 (fun Z => if_neg hc) ?_
      refine wp_st (pc' := 92) (L' := [some (.ref 65), some (.int a1), some (.int (nI a2)), some (.int a3)]) (st' := [.ref 65, .int 1, .int a1]) (h' := Hp S) 3 (fun Z => rfl) ?_
      refine wp_st (pc' := 95) (L' := [some (.ref 65), some (.int a1), some (.int (nI a2)), some (.int a3)]) (st' := [.ref 84, .int 1, .int a1]) (h' := Hp S) 1 (fun Z => gfR (E := E) sh65 rfl _) ?_
      refine wp_st (pc' := 96) (L' := [some (.ref 65), some (.int a1), some (.int (nI a2)), some (.int a3)]) (st' := [.int (nI a2), .ref 84, .int 1, .int a1]) (h' := Hp S) 1 (fun Z => rfl) ?_
      obtain ⟨hi, hw⟩ := hw
      refine wp_st (pc' := 97) (L' := [some (.ref 65), some (.int a1), some (.int (nI a2)), some (.int a3)]) (st' := [.int (S 84 a2), .int 1, .int a1]) (h' := Hp S) 1 (fun Z => ldN (E := E) sh84 (by decide) hi [.int 1, .int a1] (fun st => Z (d + 1) m_m_laysTaking 97 [some (.ref 65), some (.int a1), some (.int (nI a2)), some (.int a3)] st (Hp S))) ?_
      refine wp_st (pc' := 100) (L' := [some (.ref 65), some (.int (a1 ||| ((1 : Int32) <<< ((S 84 a2) &&& 31)))), some (.int (nI a2)), some (.int a3)]) (st' := []) (h' := Hp S) 3 (fun Z => rfl) ?_
      refine wp_st (pc' := 103) (L' := [some (.ref 65), some (.int (a1 ||| ((1 : Int32) <<< ((S 84 a2) &&& 31)))), some (.int (nI (a2 + 1))), some (.int a3)]) (st' := []) (h' := Hp S) 1 (fun Z => by rw [← nI_add a2 1]; rfl) ?_
      exact wp_st 1 (fun Z => rfl) (show wp E (d + 1) m_m_laysTaking 8 [some (.ref 65), some (.int (a1 ||| ((1 : Int32) <<< ((S 84 a2) &&& 31)))), some (.int (nI (a2 + 1))), some (.int a3)] [] (Hp S) (QV Q) from (hw (some (.int a3))))
  · rw [if_neg hc] at hw
    refine wp_st (pc' := 34) (L' := [some (.ref 65), some (.int a1), some (.int (nI a2)), some (.int a3)]) (st' := []) (h' := Hp S) 1 (fun Z => if_neg hc) ?_
    refine wp_st (pc' := 38) (L' := [some (.ref 65), some (.int a1), some (.int (nI a2)), some (.int a3)]) (st' := [.int a1, .int a3, .int (nI a2), .ref 65]) (h' := Hp S) 4 (fun Z => rfl) ?_
    refine wp_call (pc' := 41) (rest := []) (fun Z => rfl) (isO_of sh65) hw ?_
    rintro o h1 ⟨x1, S2, rfl, rfl, hw⟩
    refine ⟨_, rfl, ?_⟩
    show wp E (d + 1) m_m_laysTaking 41 [some (.ref 65), some (.int a1), some (.int (nI a2)), some (.int a3)] [.int x1] (Hp S2) (QV Q)
    by_cases hc : x1 = 0
    · rw [if_pos hc] at hw
      refine wp_st (pc' := 73) (L' := [some (.ref 65), some (.int a1), some (.int (nI a2)), some (.int a3)]) (st' := []) (h' := Hp S2) 1 (fun Z => if_pos hc) ?_
      refine wp_st (pc' := 76) (L' := [some (.ref 65), some (.int a1), some (.int (nI a2)), some (.int (a3 + (-1)))]) (st' := []) (h' := Hp S2) 1 (fun Z => congrArg (fun v => Z (d + 1) m_m_laysTaking 76 [some (.ref 65), some (.int a1), some (.int (nI a2)), some (.int (a3 + v))] [] (Hp S2)) (show Int32.ofInt (-1) = (-1) by decide)) ?_
      exact wp_st 1 (fun Z => rfl) (show wp E (d + 1) m_m_laysTaking 30 [some (.ref 65), some (.int a1), some (.int (nI a2)), some (.int (a3 + (-1)))] [] (Hp S2) (QV Q) from hw)
    · rw [if_neg hc] at hw
      refine wp_st (pc' := 44) (L' := [some (.ref 65), some (.int a1), some (.int (nI a2)), some (.int a3)]) (st' := []) (h' := Hp S2) 1 (fun Z => if_neg hc) ?_
      refine wp_st (pc' := 48) (L' := [some (.ref 65), some (.int a1), some (.int (nI a2)), some (.int a3)]) (st' := [.int a1, .int a3, .int (nI a2), .ref 65]) (h' := Hp S2) 4 (fun Z => rfl) ?_
      refine wp_call (pc' := 51) (rest := []) (fun Z => rfl) (isO_of sh65) hw ?_
      rintro o h1 ⟨x3, S4, rfl, rfl, hw⟩
      refine ⟨_, rfl, ?_⟩
      show wp E (d + 1) m_m_laysTaking 51 [some (.ref 65), some (.int a1), some (.int (nI a2)), some (.int a3)] [.int x3] (Hp S4) (QV Q)
      refine wp_st (pc' := 52) (L' := [some (.ref 65), some (.int a1), some (.int (nI a2)), some (.int a3)]) (st' := [.ref 65, .int x3]) (h' := Hp S4) 1 (fun Z => rfl) ?_
      refine wp_st (pc' := 55) (L' := [some (.ref 65), some (.int a1), some (.int (nI a2)), some (.int a3)]) (st' := [.ref 83, .int x3]) (h' := Hp S4) 1 (fun Z => gfR (E := E) sh65 rfl _) ?_
      refine wp_st (pc' := 59) (L' := [some (.ref 65), some (.int a1), some (.int (nI a2)), some (.int a3)]) (st' := [.int (nI a2), .int 1024, .ref 83, .int x3]) (h' := Hp S4) 2 (fun Z => rfl) ?_
      refine wp_st (pc' := 60) (L' := [some (.ref 65), some (.int a1), some (.int (nI a2)), some (.int a3)]) (st' := [.int (nI (1024 * a2)), .ref 83, .int x3]) (h' := Hp S4) 1 (fun Z => by rw [← pk_mul 1024 a2]; rfl) ?_
      refine wp_st (pc' := 62) (L' := [some (.ref 65), some (.int a1), some (.int (nI a2)), some (.int a3)]) (st' := [.int ((nI (1024 * a2)) + a1), .ref 83, .int x3]) (h' := Hp S4) 2 (fun Z => rfl) ?_
      obtain ⟨m5, em, hi, hw⟩ := hw
      refine wp_st (pc' := 63) (L' := [some (.ref 65), some (.int a1), some (.int (nI a2)), some (.int a3)]) (st' := [.int (S4 83 m5), .int x3]) (h' := Hp S4) 1 (fun Z => (congrArg (fun v => zit E 1 Z (d + 1) m_m_laysTaking 62 [some (.ref 65), some (.int a1), some (.int (nI a2)), some (.int a3)] [.int v, .ref 83, .int x3] (Hp S4)) em).trans (ldN (E := E) sh83 (by decide) hi [.int x3] (fun st => Z (d + 1) m_m_laysTaking 63 [some (.ref 65), some (.int a1), some (.int (nI a2)), some (.int a3)] st (Hp S4)))) ?_
      by_cases hc : x3 = (S4 83 m5)
      · rw [if_pos hc] at hw
        refine wp_st (pc' := 66) (L' := [some (.ref 65), some (.int a1), some (.int (nI a2)), some (.int a3)]) (st' := []) (h' := Hp S4) 1 (fun Z => if_pos hc) ?_
        refine wp_st (pc' := 67) (L' := [some (.ref 65), some (.int a1), some (.int (nI a2)), some (.int a3)]) (st' := [.ref 65]) (h' := Hp S4) 1 (fun Z => rfl) ?_
        refine wp_st (pc' := 70) (L' := [some (.ref 65), some (.int a1), some (.int (nI a2)), some (.int a3)]) (st' := [.ref 84]) (h' := Hp S4) 1 (fun Z => gfR (E := E) sh65 rfl _) ?_
        refine wp_st (pc' := 72) (L' := [some (.ref 65), some (.int a1), some (.int (nI a2)), some (.int a3)]) (st' := [.int a3, .int (nI a2), .ref 84]) (h' := Hp S4) 2 (fun Z => rfl) ?_
        obtain ⟨hi, hw⟩ := hw
        have hw := hw _ rfl
        refine wp_st (pc' := 73) (L' := [some (.ref 65), some (.int a1), some (.int (nI a2)), some (.int a3)]) (st' := []) (h' := Hp (up S4 84 a2 a3)) 1 (fun Z => stN sh84 (by decide) hi _ _) ?_
        generalize up S4 84 a2 a3 = S6 at hw ⊢
        refine wp_st (pc' := 76) (L' := [some (.ref 65), some (.int a1), some (.int (nI a2)), some (.int (a3 + (-1)))]) (st' := []) (h' := Hp S6) 1 (fun Z => congrArg (fun v => Z (d + 1) m_m_laysTaking 76 [some (.ref 65), some (.int a1), some (.int (nI a2)), some (.int (a3 + v))] [] (Hp S6)) (show Int32.ofInt (-1) = (-1) by decide)) ?_
        exact wp_st 1 (fun Z => rfl) (show wp E (d + 1) m_m_laysTaking 30 [some (.ref 65), some (.int a1), some (.int (nI a2)), some (.int (a3 + (-1)))] [] (Hp S6) (QV Q) from hw)
      · rw [if_neg hc] at hw
        refine wp_st (pc' := 73) (L' := [some (.ref 65), some (.int a1), some (.int (nI a2)), some (.int a3)]) (st' := []) (h' := Hp S4) 1 (fun Z => if_neg hc) ?_
        refine wp_st (pc' := 76) (L' := [some (.ref 65), some (.int a1), some (.int (nI a2)), some (.int (a3 + (-1)))]) (st' := []) (h' := Hp S4) 1 (fun Z => congrArg (fun v => Z (d + 1) m_m_laysTaking 76 [some (.ref 65), some (.int a1), some (.int (nI a2)), some (.int (a3 + v))] [] (Hp S4)) (show Int32.ofInt (-1) = (-1) by decide)) ?_
        exact wp_st 1 (fun Z => rfl) (show wp E (d + 1) m_m_laysTaking 30 [some (.ref 65), some (.int a1), some (.int (nI a2)), some (.int (a3 + (-1)))] [] (Hp S4) (QV Q) from hw)
set_option maxRecDepth 4000 in
theorem w_m_laysPuts {E : zX} {d : Nat} {S : St}  {Q : St → Prop} (hd : 1 ≤ d) 
    (hw : k_m_laysPuts_2 E d S 0 Q) :
    k_m_laysPuts E d S Q := by
  obtain ⟨d, rfl⟩ := Nat.exists_eq_add_of_le' hd
  show wp E (d + 1) m_m_laysPuts 0 [some (.ref 65), none, none, none, none] [] (Hp S) (QV Q)
  exact wp_st 2 (fun Z => rfl) (show wp E (d + 1) m_m_laysPuts 2 [some (.ref 65), some (.int 0), none, none, none] [] (Hp S) (QV Q) from (hw none none none))
set_option maxRecDepth 4000 in
theorem w_m_laysPuts_2 {E : zX} {d : Nat} {S : St} {a1 : Int32} {Q : St → Prop} (hd : 1 ≤ d) 
    (hw : if 1024 ≤ a1 then (
      k_m_laysPuts_38 E d S ((S 65 3) - (1 : Int32)) Q)
    else (
      ∃ m2 : Nat, (((1024 : Int32) * (S 65 3)) + a1) = nI m2 ∧ m2 < 8192 ∧
      ∀ S1, S1 = up S 83 m2 0 →
      k_m_laysPuts_2 E d S1 (a1 + 1) Q)) :
    k_m_laysPuts_2 E d S a1 Q := by
  obtain ⟨d, rfl⟩ := Nat.exists_eq_add_of_le' hd
  intro j2 j3 j4
  show wp E (d + 1) m_m_laysPuts 2 [some (.ref 65), some (.int a1), j2, j3, j4] [] (Hp S) (QV Q)
  refine wp_st (pc' := 6) (L' := [some (.ref 65), some (.int a1), j2, j3, j4]) (st' := [.int 1024, .int a1]) (h' := Hp S) 2 (fun Z => rfl) ?_
  by_cases hc : 1024 ≤ a1
  · rw [if_pos hc] at hw
    refine wp_st (pc' := 31) (L' := [some (.ref 65), some (.int a1), j2, j3, j4]) (st' := []) (h' := Hp S) 1 (fun Z => if_pos hc) ?_
    refine wp_st (pc' := 32) (L' := [some (.ref 65), some (.int a1), j2, j3, j4]) (st' := [.ref 65]) (h' := Hp S) 1 (fun Z => rfl) ?_
    refine wp_st (pc' := 35) (L' := [some (.ref 65), some (.int a1), j2, j3, j4]) (st' := [.int (S 65 3)]) (h' := Hp S) 1 (fun Z => gfI (E := E) sh65 rfl _) ?_
    exact wp_st 3 (fun Z => rfl) (show wp E (d + 1) m_m_laysPuts 38 [some (.ref 65), some (.int ((S 65 3) - (1 : Int32))), j2, j3, j4] [] (Hp S) (QV Q) from (hw j2 j3 j4))
  · rw [if_neg hc] at hw
    refine wp_st (pc' := 9) (L' := [some (.ref 65), some (.int a1), j2, j3, j4]) (st' := []) (h' := Hp S) 1 (fun Z => if_neg hc) ?_
    refine wp_st (pc' := 10) (L' := [some (.ref 65), some (.int a1), j2, j3, j4]) (st' := [.ref 65]) (h' := Hp S) 1 (fun Z => rfl) ?_
    refine wp_st (pc' := 13) (L' := [some (.ref 65), some (.int a1), j2, j3, j4]) (st' := [.ref 83]) (h' := Hp S) 1 (fun Z => gfR (E := E) sh65 rfl _) ?_
    refine wp_st (pc' := 17) (L' := [some (.ref 65), some (.int a1), j2, j3, j4]) (st' := [.ref 65, .int 1024, .ref 83]) (h' := Hp S) 2 (fun Z => rfl) ?_
    refine wp_st (pc' := 20) (L' := [some (.ref 65), some (.int a1), j2, j3, j4]) (st' := [.int (S 65 3), .int 1024, .ref 83]) (h' := Hp S) 1 (fun Z => gfI (E := E) sh65 rfl _) ?_
    refine wp_st (pc' := 24) (L' := [some (.ref 65), some (.int a1), j2, j3, j4]) (st' := [.int 0, .int (((1024 : Int32) * (S 65 3)) + a1), .ref 83]) (h' := Hp S) 4 (fun Z => rfl) ?_
    obtain ⟨m2, em, hi, hw⟩ := hw
    have hw := hw _ rfl
    refine wp_st (pc' := 25) (L' := [some (.ref 65), some (.int a1), j2, j3, j4]) (st' := []) (h' := Hp (up S 83 m2 0)) 1 (fun Z => (congrArg (fun v => zit E 1 Z (d + 1) m_m_laysPuts 24 [some (.ref 65), some (.int a1), j2, j3, j4] [.int 0, .int v, .ref 83] (Hp S)) em).trans (stN sh83 (by decide) hi _ _)) ?_
    generalize up S 83 m2 0 = S1 at hw ⊢
    refine wp_st (pc' := 28) (L' := [some (.ref 65), some (.int (a1 + 1)), j2, j3, j4]) (st' := []) (h' := Hp S1) 1 (fun Z => congrArg (fun v => Z (d + 1) m_m_laysPuts 28 [some (.ref 65), some (.int (a1 + v)), j2, j3, j4] [] (Hp S1)) (show Int32.ofInt (1) = (1) by decide)) ?_
    exact wp_st 1 (fun Z => rfl) (show wp E (d + 1) m_m_laysPuts 2 [some (.ref 65), some (.int (a1 + 1)), j2, j3, j4] [] (Hp S1) (QV Q) from (hw j2 j3 j4))
set_option maxRecDepth 4000 in
theorem w_m_laysPuts_38 {E : zX} {d : Nat} {S : St} {a1 : Int32} {Q : St → Prop} (hd : 1 ≤ d) 
    (hw : if a1 < 0 then (
      Q S)
    else (
      k_m_laysPuts_44 E d S a1 0 Q)) :
    k_m_laysPuts_38 E d S a1 Q := by
  obtain ⟨d, rfl⟩ := Nat.exists_eq_add_of_le' hd
  intro j2 j3 j4
  show wp E (d + 1) m_m_laysPuts 38 [some (.ref 65), some (.int a1), j2, j3, j4] [] (Hp S) (QV Q)
  refine wp_st (pc' := 39) (L' := [some (.ref 65), some (.int a1), j2, j3, j4]) (st' := [.int a1]) (h' := Hp S) 1 (fun Z => rfl) ?_
  by_cases hc : a1 < 0
  · rw [if_pos hc] at hw
    refine wp_st (pc' := 140) (L' := [some (.ref 65), some (.int a1), j2, j3, j4]) (st' := []) (h' := Hp S) 1 (fun Z => if_pos hc) ?_
    exact wp_ret (fun Z => rfl) ⟨_, rfl, rfl, hw⟩
  · rw [if_neg hc] at hw
    refine wp_st (pc' := 42) (L' := [some (.ref 65), some (.int a1), j2, j3, j4]) (st' := []) (h' := Hp S) 1 (fun Z => if_neg hc) ?_
    exact wp_st 2 (fun Z => rfl) (show wp E (d + 1) m_m_laysPuts 44 [some (.ref 65), some (.int a1), some (.int 0), j3, j4] [] (Hp S) (QV Q) from (hw j3 j4))
set_option maxRecDepth 4000 in
theorem w_m_laysPuts_44 {E : zX} {d : Nat} {S : St} {a1 : Int32} {a2 : Nat} {Q : St → Prop} (hd : 1 ≤ d) 
    (hw : if ((1 : Int32) <<< ((S 65 4) &&& 31)) ≤ (nI a2) then (
      k_m_laysPuts_38 E d S (a1 + (-1)) Q)
    else (
      ∃ m1 : Nat, (((1024 : Int32) * (a1 + (1 : Int32))) + (nI a2)) = nI m1 ∧ m1 < 8192 ∧
      k_m_laysPuts_76 E d S a1 a2 ((10000 : Int32) + (S 83 m1)) 0 Q)) :
    k_m_laysPuts_44 E d S a1 a2 Q := by
  obtain ⟨d, rfl⟩ := Nat.exists_eq_add_of_le' hd
  intro j3 j4
  show wp E (d + 1) m_m_laysPuts 44 [some (.ref 65), some (.int a1), some (.int (nI a2)), j3, j4] [] (Hp S) (QV Q)
  refine wp_st (pc' := 47) (L' := [some (.ref 65), some (.int a1), some (.int (nI a2)), j3, j4]) (st' := [.ref 65, .int 1, .int (nI a2)]) (h' := Hp S) 3 (fun Z => rfl) ?_
  refine wp_st (pc' := 50) (L' := [some (.ref 65), some (.int a1), some (.int (nI a2)), j3, j4]) (st' := [.int (S 65 4), .int 1, .int (nI a2)]) (h' := Hp S) 1 (fun Z => gfI (E := E) sh65 rfl _) ?_
  refine wp_st (pc' := 51) (L' := [some (.ref 65), some (.int a1), some (.int (nI a2)), j3, j4]) (st' := [.int ((1 : Int32) <<< ((S 65 4) &&& 31)), .int (nI a2)]) (h' := Hp S) 1 (fun Z => rfl) ?_
  by_cases hc : ((1 : Int32) <<< ((S 65 4) &&& 31)) ≤ (nI a2)
  · rw [if_pos hc] at hw
    refine wp_st (pc' := 134) (L' := [some (.ref 65), some (.int a1), some (.int (nI a2)), j3, j4]) (st' := []) (h' := Hp S) 1 (fun Z => if_pos hc) ?_
    refine wp_st (pc' := 137) (L' := [some (.ref 65), some (.int (a1 + (-1))), some (.int (nI a2)), j3, j4]) (st' := []) (h' := Hp S) 1 (fun Z => congrArg (fun v => Z (d + 1) m_m_laysPuts 137 [some (.ref 65), some (.int (a1 + v)), some (.int (nI a2)), j3, j4] [] (Hp S)) (show Int32.ofInt (-1) = (-1) by decide)) ?_
    exact wp_st 1 (fun Z => rfl) (show wp E (d + 1) m_m_laysPuts 38 [some (.ref 65), some (.int (a1 + (-1))), some (.int (nI a2)), j3, j4] [] (Hp S) (QV Q) from (hw (some (.int (nI a2))) j3 j4))
  · rw [if_neg hc] at hw
    refine wp_st (pc' := 54) (L' := [some (.ref 65), some (.int a1), some (.int (nI a2)), j3, j4]) (st' := []) (h' := Hp S) 1 (fun Z => if_neg hc) ?_
    refine wp_st (pc' := 58) (L' := [some (.ref 65), some (.int a1), some (.int (nI a2)), j3, j4]) (st' := [.ref 65, .int 10000]) (h' := Hp S) 2 (fun Z => rfl) ?_
    refine wp_st (pc' := 61) (L' := [some (.ref 65), some (.int a1), some (.int (nI a2)), j3, j4]) (st' := [.ref 83, .int 10000]) (h' := Hp S) 1 (fun Z => gfR (E := E) sh65 rfl _) ?_
    refine wp_st (pc' := 70) (L' := [some (.ref 65), some (.int a1), some (.int (nI a2)), j3, j4]) (st' := [.int (((1024 : Int32) * (a1 + (1 : Int32))) + (nI a2)), .ref 83, .int 10000]) (h' := Hp S) 7 (fun Z => rfl) ?_
    obtain ⟨m1, em, hi, hw⟩ := hw
    refine wp_st (pc' := 71) (L' := [some (.ref 65), some (.int a1), some (.int (nI a2)), j3, j4]) (st' := [.int (S 83 m1), .int 10000]) (h' := Hp S) 1 (fun Z => (congrArg (fun v => zit E 1 Z (d + 1) m_m_laysPuts 70 [some (.ref 65), some (.int a1), some (.int (nI a2)), j3, j4] [.int v, .ref 83, .int 10000] (Hp S)) em).trans (ldN (E := E) sh83 (by decide) hi [.int 10000] (fun st => Z (d + 1) m_m_laysPuts 71 [some (.ref 65), some (.int a1), some (.int (nI a2)), j3, j4] st (Hp S)))) ?_
    exact wp_st 4 (fun Z => rfl) (show wp E (d + 1) m_m_laysPuts 76 [some (.ref 65), some (.int a1), some (.int (nI a2)), some (.int ((10000 : Int32) + (S 83 m1))), some (.int 0)] [] (Hp S) (QV Q) from hw)
set_option maxRecDepth 4000 in
theorem w_m_laysPuts_76 {E : zX} {d : Nat} {S : St} {a1 : Int32} {a2 : Nat} {a3 : Int32} {a4 : Nat} {Q : St → Prop} (hd : 1 ≤ d) 
    (hw : if (S 65 4) ≤ (nI a4) then (
      ∃ m2 : Nat, (((1024 : Int32) * a1) + (nI a2)) = nI m2 ∧ m2 < 8192 ∧
      ∀ S1, S1 = up S 83 m2 a3 →
      k_m_laysPuts_44 E d S1 a1 (a2 + 1) Q)
    else (
      k_m_canPut E (d - 1) S a1 (nI a4) (nI a2) (fun x3 S4 =>
      if x3 = 0 then (
        k_m_laysPuts_76 E d S4 a1 a2 a3 (a4 + 1) Q)
      else (
        k_m_puts0 E (d - 1) S4 a1 (nI a4) (nI a2) (fun x5 S6 =>
        k_m_lesser E (d - 1) S6 a3 x5 (fun x7 S8 =>
        k_m_laysPuts_76 E d S8 a1 a2 x7 (a4 + 1) Q)))))) :
    k_m_laysPuts_76 E d S a1 a2 a3 a4 Q := by
  obtain ⟨d, rfl⟩ := Nat.exists_eq_add_of_le' hd
  show wp E (d + 1) m_m_laysPuts 76 [some (.ref 65), some (.int a1), some (.int (nI a2)), some (.int a3), some (.int (nI a4))] [] (Hp S) (QV Q)
  refine wp_st (pc' := 79) (L' := [some (.ref 65), some (.int a1), some (.int (nI a2)), some (.int a3), some (.int (nI a4))]) (st' := [.ref 65, .int (nI a4)]) (h' := Hp S) 2 (fun Z => rfl) ?_
  refine wp_st (pc' := 82) (L' := [some (.ref 65), some (.int a1), some (.int (nI a2)), some (.int a3), some (.int (nI a4))]) (st' := [.int (S 65 4), .int (nI a4)]) (h' := Hp S) 1 (fun Z => gfI (E := E) sh65 rfl _) ?_
  by_cases hc : (S 65 4) ≤ (nI a4)
  · rw [if_pos hc] at hw
    refine wp_st (pc' := 115) (L' := [some (.ref 65), some (.int a1), some (.int (nI a2)), some (.int a3), some (.int (nI a4))]) (st' := []) (h' := Hp S) 1 (fun Z => if_pos hc) ?_
    refine wp_st (pc' := 116) (L' := [some (.ref 65), some (.int a1), some (.int (nI a2)), some (.int a3), some (.int (nI a4))]) (st' := [.ref 65]) (h' := Hp S) 1 (fun Z => rfl) ?_
    refine wp_st (pc' := 119) (L' := [some (.ref 65), some (.int a1), some (.int (nI a2)), some (.int a3), some (.int (nI a4))]) (st' := [.ref 83]) (h' := Hp S) 1 (fun Z => gfR (E := E) sh65 rfl _) ?_
    refine wp_st (pc' := 127) (L' := [some (.ref 65), some (.int a1), some (.int (nI a2)), some (.int a3), some (.int (nI a4))]) (st' := [.int a3, .int (((1024 : Int32) * a1) + (nI a2)), .ref 83]) (h' := Hp S) 6 (fun Z => rfl) ?_
    obtain ⟨m2, em, hi, hw⟩ := hw
    have hw := hw _ rfl
    refine wp_st (pc' := 128) (L' := [some (.ref 65), some (.int a1), some (.int (nI a2)), some (.int a3), some (.int (nI a4))]) (st' := []) (h' := Hp (up S 83 m2 a3)) 1 (fun Z => (congrArg (fun v => zit E 1 Z (d + 1) m_m_laysPuts 127 [some (.ref 65), some (.int a1), some (.int (nI a2)), some (.int a3), some (.int (nI a4))] [.int a3, .int v, .ref 83] (Hp S)) em).trans (stN sh83 (by decide) hi _ _)) ?_
    generalize up S 83 m2 a3 = S1 at hw ⊢
    refine wp_st (pc' := 131) (L' := [some (.ref 65), some (.int a1), some (.int (nI (a2 + 1))), some (.int a3), some (.int (nI a4))]) (st' := []) (h' := Hp S1) 1 (fun Z => by rw [← nI_add a2 1]; rfl) ?_
    exact wp_st 1 (fun Z => rfl) (show wp E (d + 1) m_m_laysPuts 44 [some (.ref 65), some (.int a1), some (.int (nI (a2 + 1))), some (.int a3), some (.int (nI a4))] [] (Hp S1) (QV Q) from (hw (some (.int a3)) (some (.int (nI a4)))))
  · rw [if_neg hc] at hw
    refine wp_st (pc' := 85) (L' := [some (.ref 65), some (.int a1), some (.int (nI a2)), some (.int a3), some (.int (nI a4))]) (st' := []) (h' := Hp S) 1 (fun Z => if_neg hc) ?_
    refine wp_st (pc' := 90) (L' := [some (.ref 65), some (.int a1), some (.int (nI a2)), some (.int a3), some (.int (nI a4))]) (st' := [.int (nI a2), .int (nI a4), .int a1, .ref 65]) (h' := Hp S) 4 (fun Z => rfl) ?_
    refine wp_call (pc' := 93) (rest := []) (fun Z => rfl) (isO_of sh65) hw ?_
    rintro o h1 ⟨x3, S4, rfl, rfl, hw⟩
    refine ⟨_, rfl, ?_⟩
    show wp E (d + 1) m_m_laysPuts 93 [some (.ref 65), some (.int a1), some (.int (nI a2)), some (.int a3), some (.int (nI a4))] [.int x3] (Hp S4) (QV Q)
    by_cases hc : x3 = 0
    · rw [if_pos hc] at hw
      refine wp_st (pc' := 109) (L' := [some (.ref 65), some (.int a1), some (.int (nI a2)), some (.int a3), some (.int (nI a4))]) (st' := []) (h' := Hp S4) 1 (fun Z => if_pos hc) ?_
      refine wp_st (pc' := 112) (L' := [some (.ref 65), some (.int a1), some (.int (nI a2)), some (.int a3), some (.int (nI (a4 + 1)))]) (st' := []) (h' := Hp S4) 1 (fun Z => by rw [← nI_add a4 1]; rfl) ?_
      exact wp_st 1 (fun Z => rfl) (show wp E (d + 1) m_m_laysPuts 76 [some (.ref 65), some (.int a1), some (.int (nI a2)), some (.int a3), some (.int (nI (a4 + 1)))] [] (Hp S4) (QV Q) from hw)
    · rw [if_neg hc] at hw
      refine wp_st (pc' := 96) (L' := [some (.ref 65), some (.int a1), some (.int (nI a2)), some (.int a3), some (.int (nI a4))]) (st' := []) (h' := Hp S4) 1 (fun Z => if_neg hc) ?_
      refine wp_st (pc' := 102) (L' := [some (.ref 65), some (.int a1), some (.int (nI a2)), some (.int a3), some (.int (nI a4))]) (st' := [.int (nI a2), .int (nI a4), .int a1, .ref 65, .int a3]) (h' := Hp S4) 5 (fun Z => rfl) ?_
      refine wp_call (pc' := 105) (rest := [.int a3]) (fun Z => rfl) (isO_of sh65) hw ?_
      rintro o h1 ⟨x5, S6, rfl, rfl, hw⟩
      refine ⟨_, rfl, ?_⟩
      show wp E (d + 1) m_m_laysPuts 105 [some (.ref 65), some (.int a1), some (.int (nI a2)), some (.int a3), some (.int (nI a4))] [.int x5, .int a3] (Hp S6) (QV Q)
      refine wp_call (pc' := 108) (rest := []) (fun Z => rfl) rfl hw ?_
      rintro o h1 ⟨x7, S8, rfl, rfl, hw⟩
      refine ⟨_, rfl, ?_⟩
      show wp E (d + 1) m_m_laysPuts 108 [some (.ref 65), some (.int a1), some (.int (nI a2)), some (.int a3), some (.int (nI a4))] [.int x7] (Hp S8) (QV Q)
      refine wp_st (pc' := 109) (L' := [some (.ref 65), some (.int a1), some (.int (nI a2)), some (.int x7), some (.int (nI a4))]) (st' := []) (h' := Hp S8) 1 (fun Z => rfl) ?_
      refine wp_st (pc' := 112) (L' := [some (.ref 65), some (.int a1), some (.int (nI a2)), some (.int x7), some (.int (nI (a4 + 1)))]) (st' := []) (h' := Hp S8) 1 (fun Z => by rw [← nI_add a4 1]; rfl) ?_
      exact wp_st 1 (fun Z => rfl) (show wp E (d + 1) m_m_laysPuts 76 [some (.ref 65), some (.int a1), some (.int (nI a2)), some (.int x7), some (.int (nI (a4 + 1)))] [] (Hp S8) (QV Q) from hw)
set_option maxRecDepth 4000 in
theorem w_m_puts0 {E : zX} {d : Nat} {S : St} {a1 : Nat} {a2 : Nat} {a3 : Int32} {Q : Int32 → St → Prop} 
    (hw : a2 < 10 ∧
    ∃ m1 : Nat, ((nI (1024 * (a1 + 1))) + (a3 ||| (bt a2))) = nI m1 ∧ m1 < 8192 ∧
    Q ((S 67 a2) + (S 83 m1)) S) :
    k_m_puts0 E d S (nI a1) (nI a2) a3 Q := by
  show wp E d m_m_puts0 0 [some (.ref 65), some (.int (nI a1)), some (.int (nI a2)), some (.int a3)] [] (Hp S) (QI Q)
  refine wp_st (pc' := 1) (L' := [some (.ref 65), some (.int (nI a1)), some (.int (nI a2)), some (.int a3)]) (st' := [.ref 65]) (h' := Hp S) 1 (fun Z => rfl) ?_
  refine wp_st (pc' := 4) (L' := [some (.ref 65), some (.int (nI a1)), some (.int (nI a2)), some (.int a3)]) (st' := [.ref 67]) (h' := Hp S) 1 (fun Z => gfR (E := E) sh65 rfl _) ?_
  refine wp_st (pc' := 5) (L' := [some (.ref 65), some (.int (nI a1)), some (.int (nI a2)), some (.int a3)]) (st' := [.int (nI a2), .ref 67]) (h' := Hp S) 1 (fun Z => rfl) ?_
  obtain ⟨hi, hw⟩ := hw
  refine wp_st (pc' := 6) (L' := [some (.ref 65), some (.int (nI a1)), some (.int (nI a2)), some (.int a3)]) (st' := [.int (S 67 a2)]) (h' := Hp S) 1 (fun Z => ldN (E := E) sh67 (by decide) hi [] (fun st => Z d m_m_puts0 6 [some (.ref 65), some (.int (nI a1)), some (.int (nI a2)), some (.int a3)] st (Hp S))) ?_
  refine wp_st (pc' := 7) (L' := [some (.ref 65), some (.int (nI a1)), some (.int (nI a2)), some (.int a3)]) (st' := [.ref 65, .int (S 67 a2)]) (h' := Hp S) 1 (fun Z => rfl) ?_
  refine wp_st (pc' := 10) (L' := [some (.ref 65), some (.int (nI a1)), some (.int (nI a2)), some (.int a3)]) (st' := [.ref 83, .int (S 67 a2)]) (h' := Hp S) 1 (fun Z => gfR (E := E) sh65 rfl _) ?_
  refine wp_st (pc' := 15) (L' := [some (.ref 65), some (.int (nI a1)), some (.int (nI a2)), some (.int a3)]) (st' := [.int 1, .int (nI a1), .int 1024, .ref 83, .int (S 67 a2)]) (h' := Hp S) 3 (fun Z => rfl) ?_
  refine wp_st (pc' := 16) (L' := [some (.ref 65), some (.int (nI a1)), some (.int (nI a2)), some (.int a3)]) (st' := [.int (nI (a1 + 1)), .int 1024, .ref 83, .int (S 67 a2)]) (h' := Hp S) 1 (fun Z => by rw [← nI_add a1 1]; rfl) ?_
  refine wp_st (pc' := 17) (L' := [some (.ref 65), some (.int (nI a1)), some (.int (nI a2)), some (.int a3)]) (st' := [.int (nI (1024 * (a1 + 1))), .ref 83, .int (S 67 a2)]) (h' := Hp S) 1 (fun Z => by rw [← pk_mul 1024 (a1 + 1)]; rfl) ?_
  refine wp_st (pc' := 23) (L' := [some (.ref 65), some (.int (nI a1)), some (.int (nI a2)), some (.int a3)]) (st' := [.int ((nI (1024 * (a1 + 1))) + (a3 ||| (bt a2))), .ref 83, .int (S 67 a2)]) (h' := Hp S) 6 (fun Z => rfl) ?_
  obtain ⟨m1, em, hi, hw⟩ := hw
  refine wp_st (pc' := 24) (L' := [some (.ref 65), some (.int (nI a1)), some (.int (nI a2)), some (.int a3)]) (st' := [.int (S 83 m1), .int (S 67 a2)]) (h' := Hp S) 1 (fun Z => (congrArg (fun v => zit E 1 Z d m_m_puts0 23 [some (.ref 65), some (.int (nI a1)), some (.int (nI a2)), some (.int a3)] [.int v, .ref 83, .int (S 67 a2)] (Hp S)) em).trans (ldN (E := E) sh83 (by decide) hi [.int (S 67 a2)] (fun st => Z d m_m_puts0 24 [some (.ref 65), some (.int (nI a1)), some (.int (nI a2)), some (.int a3)] st (Hp S)))) ?_
  refine wp_st (pc' := 25) (L' := [some (.ref 65), some (.int (nI a1)), some (.int (nI a2)), some (.int a3)]) (st' := [.int ((S 67 a2) + (S 83 m1))]) (h' := Hp S) 1 (fun Z => rfl) ?_
  exact wp_ret (fun Z => rfl) ⟨_, _, rfl, rfl, hw⟩
set_option maxRecDepth 4000 in
theorem w_m_put {E : zX} {d : Nat} {S : St} {a1 : Int32} {Q : Int32 → St → Prop} (hd : 1 ≤ d) 
    (hw : ∀ S1, S1 = up S 65 0 0 →
    k_m_isPerson E (d - 1) S1 a1 (fun x2 S3 =>
    if x2 = 0 then (
      Q (0 : Int32) S3)
    else (
      k_m_laysTaking E (d - 1) S3 (fun S5 =>
      ∃ m6 : Nat, a1 = nI m6 ∧ m6 < 7 ∧
      Q (S5 84 m6) S5)))) :
    k_m_put E d S a1 Q := by
  obtain ⟨d, rfl⟩ := Nat.exists_eq_add_of_le' hd
  show wp E (d + 1) m_m_put 0 [some (.ref 65), some (.int a1)] [] (Hp S) (QI Q)
  refine wp_st (pc' := 2) (L' := [some (.ref 65), some (.int a1)]) (st' := [.int 0, .ref 65]) (h' := Hp S) 2 (fun Z => rfl) ?_
  have hw := hw _ rfl
  refine wp_st (pc' := 5) (L' := [some (.ref 65), some (.int a1)]) (st' := []) (h' := Hp (up S 65 0 0)) 1 (fun Z => pfI sh65 rfl (Nat.le_of_ble_eq_true rfl) rfl _) ?_
  generalize up S 65 0 0 = S1 at hw ⊢
  refine wp_st (pc' := 7) (L' := [some (.ref 65), some (.int a1)]) (st' := [.int a1, .ref 65]) (h' := Hp S1) 2 (fun Z => rfl) ?_
  refine wp_call (pc' := 10) (rest := []) (fun Z => rfl) (isO_of sh65) hw ?_
  rintro o h1 ⟨x2, S3, rfl, rfl, hw⟩
  refine ⟨_, rfl, ?_⟩
  show wp E (d + 1) m_m_put 10 [some (.ref 65), some (.int a1)] [.int x2] (Hp S3) (QI Q)
  by_cases hc : x2 = 0
  · rw [if_pos hc] at hw
    refine wp_st (pc' := 13) (L' := [some (.ref 65), some (.int a1)]) (st' := []) (h' := Hp S3) 1 (fun Z => if_pos hc) ?_
    refine wp_st (pc' := 14) (L' := [some (.ref 65), some (.int a1)]) (st' := [.int 0]) (h' := Hp S3) 1 (fun Z => rfl) ?_
    exact wp_ret (fun Z => rfl) ⟨_, _, rfl, rfl, hw⟩
  · rw [if_neg hc] at hw
    refine wp_st (pc' := 15) (L' := [some (.ref 65), some (.int a1)]) (st' := []) (h' := Hp S3) 1 (fun Z => if_neg hc) ?_
    refine wp_st (pc' := 16) (L' := [some (.ref 65), some (.int a1)]) (st' := [.ref 65]) (h' := Hp S3) 1 (fun Z => rfl) ?_
    refine wp_call (pc' := 19) (rest := []) (fun Z => rfl) (isO_of sh65) hw ?_
    rintro o h1 ⟨S5, rfl, rfl, hw⟩
    refine ⟨_, rfl, ?_⟩
    show wp E (d + 1) m_m_put 19 [some (.ref 65), some (.int a1)] [] (Hp S5) (QI Q)
    refine wp_st (pc' := 20) (L' := [some (.ref 65), some (.int a1)]) (st' := [.ref 65]) (h' := Hp S5) 1 (fun Z => rfl) ?_
    refine wp_st (pc' := 23) (L' := [some (.ref 65), some (.int a1)]) (st' := [.ref 84]) (h' := Hp S5) 1 (fun Z => gfR (E := E) sh65 rfl _) ?_
    refine wp_st (pc' := 24) (L' := [some (.ref 65), some (.int a1)]) (st' := [.int a1, .ref 84]) (h' := Hp S5) 1 (fun Z => rfl) ?_
    obtain ⟨m6, em, hi, hw⟩ := hw
    refine wp_st (pc' := 25) (L' := [some (.ref 65), some (.int a1)]) (st' := [.int (S5 84 m6)]) (h' := Hp S5) 1 (fun Z => (congrArg (fun v => zit E 1 Z (d + 1) m_m_put 24 [some (.ref 65), some (.int a1)] [.int v, .ref 84] (Hp S5)) em).trans (ldN (E := E) sh84 (by decide) hi [] (fun st => Z (d + 1) m_m_put 25 [some (.ref 65), some (.int a1)] st (Hp S5)))) ?_
    exact wp_ret (fun Z => rfl) ⟨_, _, rfl, rfl, hw⟩
set_option maxRecDepth 4000 in
theorem w_m_see {E : zX} {d : Nat} {S : St} {a1 : Int32} {a2 : Int32} {a3 : Int32} {Q : Int32 → St → Prop} (hd : 1 ≤ d) 
    (hw : ∀ S1, S1 = up S 65 0 0 →
    k_m_isBall E (d - 1) S1 a1 (fun x2 S3 =>
    if x2 = 0 then (
      Q (0 : Int32) S3)
    else (
      if (S3 65 53) = 8 then (
        k_m_refuses E (d - 1) S3 2 (fun x4 S5 =>
        Q x4 S5))
      else (
        k_m_within E (d - 1) S3 a2 0 20 (fun x6 S7 =>
        if x6 = 0 then (
          k_m_refuses E (d - 1) S7 2 (fun x8 S9 =>
          Q x8 S9))
        else (
          ∃ m11 : Nat, ((3 : Int32) * (S7 65 53)) = nI m11 ∧ m11 < 24 ∧
          ∀ S10, S10 = up S7 85 m11 a1 →
          ∃ m13 : Nat, (((3 : Int32) * (S10 65 53)) + (1 : Int32)) = nI m13 ∧ m13 < 24 ∧
          ∀ S12, S12 = up S10 85 m13 a2 →
          if a3 = 0 then (
            k_m_see_87 E d S12 (((3 : Int32) * (S12 65 53)) + (2 : Int32)) 0 Q)
          else (
            k_m_see_87 E d S12 (((3 : Int32) * (S12 65 53)) + (2 : Int32)) 1 Q))))))) :
    k_m_see E d S a1 a2 a3 Q := by
  obtain ⟨d, rfl⟩ := Nat.exists_eq_add_of_le' hd
  show wp E (d + 1) m_m_see 0 [some (.ref 65), some (.int a1), some (.int a2), some (.int a3)] [] (Hp S) (QI Q)
  refine wp_st (pc' := 2) (L' := [some (.ref 65), some (.int a1), some (.int a2), some (.int a3)]) (st' := [.int 0, .ref 65]) (h' := Hp S) 2 (fun Z => rfl) ?_
  have hw := hw _ rfl
  refine wp_st (pc' := 5) (L' := [some (.ref 65), some (.int a1), some (.int a2), some (.int a3)]) (st' := []) (h' := Hp (up S 65 0 0)) 1 (fun Z => pfI sh65 rfl (Nat.le_of_ble_eq_true rfl) rfl _) ?_
  generalize up S 65 0 0 = S1 at hw ⊢
  refine wp_st (pc' := 7) (L' := [some (.ref 65), some (.int a1), some (.int a2), some (.int a3)]) (st' := [.int a1, .ref 65]) (h' := Hp S1) 2 (fun Z => rfl) ?_
  refine wp_call (pc' := 10) (rest := []) (fun Z => rfl) (isO_of sh65) hw ?_
  rintro o h1 ⟨x2, S3, rfl, rfl, hw⟩
  refine ⟨_, rfl, ?_⟩
  show wp E (d + 1) m_m_see 10 [some (.ref 65), some (.int a1), some (.int a2), some (.int a3)] [.int x2] (Hp S3) (QI Q)
  by_cases hc : x2 = 0
  · rw [if_pos hc] at hw
    refine wp_st (pc' := 13) (L' := [some (.ref 65), some (.int a1), some (.int a2), some (.int a3)]) (st' := []) (h' := Hp S3) 1 (fun Z => if_pos hc) ?_
    refine wp_st (pc' := 14) (L' := [some (.ref 65), some (.int a1), some (.int a2), some (.int a3)]) (st' := [.int 0]) (h' := Hp S3) 1 (fun Z => rfl) ?_
    exact wp_ret (fun Z => rfl) ⟨_, _, rfl, rfl, hw⟩
  · rw [if_neg hc] at hw
    refine wp_st (pc' := 15) (L' := [some (.ref 65), some (.int a1), some (.int a2), some (.int a3)]) (st' := []) (h' := Hp S3) 1 (fun Z => if_neg hc) ?_
    refine wp_st (pc' := 16) (L' := [some (.ref 65), some (.int a1), some (.int a2), some (.int a3)]) (st' := [.ref 65]) (h' := Hp S3) 1 (fun Z => rfl) ?_
    refine wp_st (pc' := 19) (L' := [some (.ref 65), some (.int a1), some (.int a2), some (.int a3)]) (st' := [.int (S3 65 53)]) (h' := Hp S3) 1 (fun Z => gfI (E := E) sh65 rfl _) ?_
    refine wp_st (pc' := 21) (L' := [some (.ref 65), some (.int a1), some (.int a2), some (.int a3)]) (st' := [.int 8, .int (S3 65 53)]) (h' := Hp S3) 1 (fun Z => rfl) ?_
    by_cases hc : (S3 65 53) = 8
    · rw [if_pos hc] at hw
      refine wp_st (pc' := 34) (L' := [some (.ref 65), some (.int a1), some (.int a2), some (.int a3)]) (st' := []) (h' := Hp S3) 1 (fun Z => if_pos hc) ?_
      refine wp_st (pc' := 36) (L' := [some (.ref 65), some (.int a1), some (.int a2), some (.int a3)]) (st' := [.int 2, .ref 65]) (h' := Hp S3) 2 (fun Z => rfl) ?_
      refine wp_call (pc' := 39) (rest := []) (fun Z => rfl) (isO_of sh65) hw ?_
      rintro o h1 ⟨x4, S5, rfl, rfl, hw⟩
      refine ⟨_, rfl, ?_⟩
      show wp E (d + 1) m_m_see 39 [some (.ref 65), some (.int a1), some (.int a2), some (.int a3)] [.int x4] (Hp S5) (QI Q)
      exact wp_ret (fun Z => rfl) ⟨_, _, rfl, rfl, hw⟩
    · rw [if_neg hc] at hw
      refine wp_st (pc' := 24) (L' := [some (.ref 65), some (.int a1), some (.int a2), some (.int a3)]) (st' := []) (h' := Hp S3) 1 (fun Z => if_neg hc) ?_
      refine wp_st (pc' := 28) (L' := [some (.ref 65), some (.int a1), some (.int a2), some (.int a3)]) (st' := [.int 20, .int 0, .int a2]) (h' := Hp S3) 3 (fun Z => rfl) ?_
      refine wp_call (pc' := 31) (rest := []) (fun Z => rfl) rfl hw ?_
      rintro o h1 ⟨x6, S7, rfl, rfl, hw⟩
      refine ⟨_, rfl, ?_⟩
      show wp E (d + 1) m_m_see 31 [some (.ref 65), some (.int a1), some (.int a2), some (.int a3)] [.int x6] (Hp S7) (QI Q)
      by_cases hc : x6 = 0
      · rw [if_pos hc] at hw
        refine wp_st (pc' := 34) (L' := [some (.ref 65), some (.int a1), some (.int a2), some (.int a3)]) (st' := []) (h' := Hp S7) 1 (fun Z => if_pos hc) ?_
        refine wp_st (pc' := 36) (L' := [some (.ref 65), some (.int a1), some (.int a2), some (.int a3)]) (st' := [.int 2, .ref 65]) (h' := Hp S7) 2 (fun Z => rfl) ?_
        refine wp_call (pc' := 39) (rest := []) (fun Z => rfl) (isO_of sh65) hw ?_
        rintro o h1 ⟨x8, S9, rfl, rfl, hw⟩
        refine ⟨_, rfl, ?_⟩
        show wp E (d + 1) m_m_see 39 [some (.ref 65), some (.int a1), some (.int a2), some (.int a3)] [.int x8] (Hp S9) (QI Q)
        exact wp_ret (fun Z => rfl) ⟨_, _, rfl, rfl, hw⟩
      · rw [if_neg hc] at hw
        refine wp_st (pc' := 40) (L' := [some (.ref 65), some (.int a1), some (.int a2), some (.int a3)]) (st' := []) (h' := Hp S7) 1 (fun Z => if_neg hc) ?_
        refine wp_st (pc' := 41) (L' := [some (.ref 65), some (.int a1), some (.int a2), some (.int a3)]) (st' := [.ref 65]) (h' := Hp S7) 1 (fun Z => rfl) ?_
        refine wp_st (pc' := 44) (L' := [some (.ref 65), some (.int a1), some (.int a2), some (.int a3)]) (st' := [.ref 85]) (h' := Hp S7) 1 (fun Z => gfR (E := E) sh65 rfl _) ?_
        refine wp_st (pc' := 46) (L' := [some (.ref 65), some (.int a1), some (.int a2), some (.int a3)]) (st' := [.ref 65, .int 3, .ref 85]) (h' := Hp S7) 2 (fun Z => rfl) ?_
        refine wp_st (pc' := 49) (L' := [some (.ref 65), some (.int a1), some (.int a2), some (.int a3)]) (st' := [.int (S7 65 53), .int 3, .ref 85]) (h' := Hp S7) 1 (fun Z => gfI (E := E) sh65 rfl _) ?_
        refine wp_st (pc' := 51) (L' := [some (.ref 65), some (.int a1), some (.int a2), some (.int a3)]) (st' := [.int a1, .int ((3 : Int32) * (S7 65 53)), .ref 85]) (h' := Hp S7) 2 (fun Z => rfl) ?_
        obtain ⟨m11, em, hi, hw⟩ := hw
        have hw := hw _ rfl
        refine wp_st (pc' := 52) (L' := [some (.ref 65), some (.int a1), some (.int a2), some (.int a3)]) (st' := []) (h' := Hp (up S7 85 m11 a1)) 1 (fun Z => (congrArg (fun v => zit E 1 Z (d + 1) m_m_see 51 [some (.ref 65), some (.int a1), some (.int a2), some (.int a3)] [.int a1, .int v, .ref 85] (Hp S7)) em).trans (stN sh85 (by decide) hi _ _)) ?_
        generalize up S7 85 m11 a1 = S10 at hw ⊢
        refine wp_st (pc' := 53) (L' := [some (.ref 65), some (.int a1), some (.int a2), some (.int a3)]) (st' := [.ref 65]) (h' := Hp S10) 1 (fun Z => rfl) ?_
        refine wp_st (pc' := 56) (L' := [some (.ref 65), some (.int a1), some (.int a2), some (.int a3)]) (st' := [.ref 85]) (h' := Hp S10) 1 (fun Z => gfR (E := E) sh65 rfl _) ?_
        refine wp_st (pc' := 58) (L' := [some (.ref 65), some (.int a1), some (.int a2), some (.int a3)]) (st' := [.ref 65, .int 3, .ref 85]) (h' := Hp S10) 2 (fun Z => rfl) ?_
        refine wp_st (pc' := 61) (L' := [some (.ref 65), some (.int a1), some (.int a2), some (.int a3)]) (st' := [.int (S10 65 53), .int 3, .ref 85]) (h' := Hp S10) 1 (fun Z => gfI (E := E) sh65 rfl _) ?_
        refine wp_st (pc' := 65) (L' := [some (.ref 65), some (.int a1), some (.int a2), some (.int a3)]) (st' := [.int a2, .int (((3 : Int32) * (S10 65 53)) + (1 : Int32)), .ref 85]) (h' := Hp S10) 4 (fun Z => rfl) ?_
        obtain ⟨m13, em, hi, hw⟩ := hw
        have hw := hw _ rfl
        refine wp_st (pc' := 66) (L' := [some (.ref 65), some (.int a1), some (.int a2), some (.int a3)]) (st' := []) (h' := Hp (up S10 85 m13 a2)) 1 (fun Z => (congrArg (fun v => zit E 1 Z (d + 1) m_m_see 65 [some (.ref 65), some (.int a1), some (.int a2), some (.int a3)] [.int a2, .int v, .ref 85] (Hp S10)) em).trans (stN sh85 (by decide) hi _ _)) ?_
        generalize up S10 85 m13 a2 = S12 at hw ⊢
        refine wp_st (pc' := 67) (L' := [some (.ref 65), some (.int a1), some (.int a2), some (.int a3)]) (st' := [.ref 65]) (h' := Hp S12) 1 (fun Z => rfl) ?_
        refine wp_st (pc' := 70) (L' := [some (.ref 65), some (.int a1), some (.int a2), some (.int a3)]) (st' := [.ref 85]) (h' := Hp S12) 1 (fun Z => gfR (E := E) sh65 rfl _) ?_
        refine wp_st (pc' := 72) (L' := [some (.ref 65), some (.int a1), some (.int a2), some (.int a3)]) (st' := [.ref 65, .int 3, .ref 85]) (h' := Hp S12) 2 (fun Z => rfl) ?_
        refine wp_st (pc' := 75) (L' := [some (.ref 65), some (.int a1), some (.int a2), some (.int a3)]) (st' := [.int (S12 65 53), .int 3, .ref 85]) (h' := Hp S12) 1 (fun Z => gfI (E := E) sh65 rfl _) ?_
        refine wp_st (pc' := 79) (L' := [some (.ref 65), some (.int a1), some (.int a2), some (.int a3)]) (st' := [.int a3, .int (((3 : Int32) * (S12 65 53)) + (2 : Int32)), .ref 85]) (h' := Hp S12) 4 (fun Z => rfl) ?_
        by_cases hc : a3 = 0
        · rw [if_pos hc] at hw
          refine wp_st (pc' := 86) (L' := [some (.ref 65), some (.int a1), some (.int a2), some (.int a3)]) (st' := [.int (((3 : Int32) * (S12 65 53)) + (2 : Int32)), .ref 85]) (h' := Hp S12) 1 (fun Z => if_pos hc) ?_
          exact wp_st 1 (fun Z => rfl) (show wp E (d + 1) m_m_see 87 [some (.ref 65), some (.int a1), some (.int a2), some (.int a3)] [.int 0, .int (((3 : Int32) * (S12 65 53)) + (2 : Int32)), .ref 85] (Hp S12) (QI Q) from (hw (some (.int a1)) (some (.int a2)) (some (.int a3))))
        · rw [if_neg hc] at hw
          refine wp_st (pc' := 82) (L' := [some (.ref 65), some (.int a1), some (.int a2), some (.int a3)]) (st' := [.int (((3 : Int32) * (S12 65 53)) + (2 : Int32)), .ref 85]) (h' := Hp S12) 1 (fun Z => if_neg hc) ?_
          exact wp_st 2 (fun Z => rfl) (show wp E (d + 1) m_m_see 87 [some (.ref 65), some (.int a1), some (.int a2), some (.int a3)] [.int 1, .int (((3 : Int32) * (S12 65 53)) + (2 : Int32)), .ref 85] (Hp S12) (QI Q) from (hw (some (.int a1)) (some (.int a2)) (some (.int a3))))
set_option maxRecDepth 4000 in
theorem w_m_see_87 {E : zX} {d : Nat} {S : St} {s1 : Int32} {s2 : Int32} {Q : Int32 → St → Prop} (hd : 1 ≤ d) 
    (hw : ∃ m2 : Nat, s1 = nI m2 ∧ m2 < 24 ∧
    ∀ S1, S1 = up S 85 m2 s2 →
    ∀ S3, S3 = up S1 65 53 ((S1 65 53) + (1 : Int32)) →
    Q (S3 65 53) S3) :
    k_m_see_87 E d S s1 s2 Q := by
  obtain ⟨d, rfl⟩ := Nat.exists_eq_add_of_le' hd
  intro j1 j2 j3
  show wp E (d + 1) m_m_see 87 [some (.ref 65), j1, j2, j3] [.int s2, .int s1, .ref 85] (Hp S) (QI Q)
  obtain ⟨m2, em, hi, hw⟩ := hw
  have hw := hw _ rfl
  refine wp_st (pc' := 88) (L' := [some (.ref 65), j1, j2, j3]) (st' := []) (h' := Hp (up S 85 m2 s2)) 1 (fun Z => (congrArg (fun v => zit E 1 Z (d + 1) m_m_see 87 [some (.ref 65), j1, j2, j3] [.int s2, .int v, .ref 85] (Hp S)) em).trans (stN sh85 (by decide) hi _ _)) ?_
  generalize up S 85 m2 s2 = S1 at hw ⊢
  refine wp_st (pc' := 90) (L' := [some (.ref 65), j1, j2, j3]) (st' := [.ref 65, .ref 65]) (h' := Hp S1) 2 (fun Z => rfl) ?_
  refine wp_st (pc' := 93) (L' := [some (.ref 65), j1, j2, j3]) (st' := [.int (S1 65 53), .ref 65]) (h' := Hp S1) 1 (fun Z => gfI (E := E) sh65 rfl _) ?_
  refine wp_st (pc' := 95) (L' := [some (.ref 65), j1, j2, j3]) (st' := [.int ((S1 65 53) + (1 : Int32)), .ref 65]) (h' := Hp S1) 2 (fun Z => rfl) ?_
  have hw := hw _ rfl
  refine wp_st (pc' := 98) (L' := [some (.ref 65), j1, j2, j3]) (st' := []) (h' := Hp (up S1 65 53 ((S1 65 53) + (1 : Int32)))) 1 (fun Z => pfI sh65 rfl (Nat.le_of_ble_eq_true rfl) rfl _) ?_
  generalize up S1 65 53 ((S1 65 53) + (1 : Int32)) = S3 at hw ⊢
  refine wp_st (pc' := 99) (L' := [some (.ref 65), j1, j2, j3]) (st' := [.ref 65]) (h' := Hp S3) 1 (fun Z => rfl) ?_
  refine wp_st (pc' := 102) (L' := [some (.ref 65), j1, j2, j3]) (st' := [.int (S3 65 53)]) (h' := Hp S3) 1 (fun Z => gfI (E := E) sh65 rfl _) ?_
  exact wp_ret (fun Z => rfl) ⟨_, _, rfl, rfl, hw⟩
set_option maxRecDepth 4000 in
theorem w_m_milder {E : zX} {d : Nat} {S : St} {a1 : Int32} {Q : Int32 → St → Prop} (hd : 1 ≤ d) 
    (hw : ∀ S1, S1 = up S 65 0 0 →
    k_m_isWhat E (d - 1) S1 a1 2 (fun x2 S3 =>
    if x2 = 0 then (
      Q (0 : Int32) S3)
    else (
      if a1 = 2 then (
        k_m_tries E (d - 1) S3 (fun S5 =>
        k_m_isSeen E (d - 1) S5 (fun x6 S7 =>
        if x6 = 0 then (
          Q (0 : Int32) S7)
        else (
          Q (1 : Int32) S7))))
      else (
        k_m_milder_45 E d S3 a1 0 (-1) 0 Q)))) :
    k_m_milder E d S a1 Q := by
  obtain ⟨d, rfl⟩ := Nat.exists_eq_add_of_le' hd
  show wp E (d + 1) m_m_milder 0 [some (.ref 65), some (.int a1), none, none, none] [] (Hp S) (QI Q)
  refine wp_st (pc' := 2) (L' := [some (.ref 65), some (.int a1), none, none, none]) (st' := [.int 0, .ref 65]) (h' := Hp S) 2 (fun Z => rfl) ?_
  have hw := hw _ rfl
  refine wp_st (pc' := 5) (L' := [some (.ref 65), some (.int a1), none, none, none]) (st' := []) (h' := Hp (up S 65 0 0)) 1 (fun Z => pfI sh65 rfl (Nat.le_of_ble_eq_true rfl) rfl _) ?_
  generalize up S 65 0 0 = S1 at hw ⊢
  refine wp_st (pc' := 8) (L' := [some (.ref 65), some (.int a1), none, none, none]) (st' := [.int 2, .int a1, .ref 65]) (h' := Hp S1) 3 (fun Z => rfl) ?_
  refine wp_call (pc' := 11) (rest := []) (fun Z => rfl) (isO_of sh65) hw ?_
  rintro o h1 ⟨x2, S3, rfl, rfl, hw⟩
  refine ⟨_, rfl, ?_⟩
  show wp E (d + 1) m_m_milder 11 [some (.ref 65), some (.int a1), none, none, none] [.int x2] (Hp S3) (QI Q)
  by_cases hc : x2 = 0
  · rw [if_pos hc] at hw
    refine wp_st (pc' := 14) (L' := [some (.ref 65), some (.int a1), none, none, none]) (st' := []) (h' := Hp S3) 1 (fun Z => if_pos hc) ?_
    refine wp_st (pc' := 15) (L' := [some (.ref 65), some (.int a1), none, none, none]) (st' := [.int 0]) (h' := Hp S3) 1 (fun Z => rfl) ?_
    exact wp_ret (fun Z => rfl) ⟨_, _, rfl, rfl, hw⟩
  · rw [if_neg hc] at hw
    refine wp_st (pc' := 16) (L' := [some (.ref 65), some (.int a1), none, none, none]) (st' := []) (h' := Hp S3) 1 (fun Z => if_neg hc) ?_
    refine wp_st (pc' := 18) (L' := [some (.ref 65), some (.int a1), none, none, none]) (st' := [.int 2, .int a1]) (h' := Hp S3) 2 (fun Z => rfl) ?_
    by_cases hc : a1 = 2
    · rw [if_pos hc] at hw
      refine wp_st (pc' := 21) (L' := [some (.ref 65), some (.int a1), none, none, none]) (st' := []) (h' := Hp S3) 1 (fun Z => if_pos hc) ?_
      refine wp_st (pc' := 22) (L' := [some (.ref 65), some (.int a1), none, none, none]) (st' := [.ref 65]) (h' := Hp S3) 1 (fun Z => rfl) ?_
      refine wp_call (pc' := 25) (rest := []) (fun Z => rfl) (isO_of sh65) hw ?_
      rintro o h1 ⟨S5, rfl, rfl, hw⟩
      refine ⟨_, rfl, ?_⟩
      show wp E (d + 1) m_m_milder 25 [some (.ref 65), some (.int a1), none, none, none] [] (Hp S5) (QI Q)
      refine wp_st (pc' := 26) (L' := [some (.ref 65), some (.int a1), none, none, none]) (st' := [.ref 65]) (h' := Hp S5) 1 (fun Z => rfl) ?_
      refine wp_call (pc' := 29) (rest := []) (fun Z => rfl) (isO_of sh65) hw ?_
      rintro o h1 ⟨x6, S7, rfl, rfl, hw⟩
      refine ⟨_, rfl, ?_⟩
      show wp E (d + 1) m_m_milder 29 [some (.ref 65), some (.int a1), none, none, none] [.int x6] (Hp S7) (QI Q)
      by_cases hc : x6 = 0
      · rw [if_pos hc] at hw
        refine wp_st (pc' := 36) (L' := [some (.ref 65), some (.int a1), none, none, none]) (st' := []) (h' := Hp S7) 1 (fun Z => if_pos hc) ?_
        refine wp_st (pc' := 37) (L' := [some (.ref 65), some (.int a1), none, none, none]) (st' := [.int 0]) (h' := Hp S7) 1 (fun Z => rfl) ?_
        exact wp_ret (fun Z => rfl) ⟨_, _, rfl, rfl, hw⟩
      · rw [if_neg hc] at hw
        refine wp_st (pc' := 32) (L' := [some (.ref 65), some (.int a1), none, none, none]) (st' := []) (h' := Hp S7) 1 (fun Z => if_neg hc) ?_
        refine wp_st (pc' := 37) (L' := [some (.ref 65), some (.int a1), none, none, none]) (st' := [.int 1]) (h' := Hp S7) 2 (fun Z => rfl) ?_
        exact wp_ret (fun Z => rfl) ⟨_, _, rfl, rfl, hw⟩
    · rw [if_neg hc] at hw
      refine wp_st (pc' := 38) (L' := [some (.ref 65), some (.int a1), none, none, none]) (st' := []) (h' := Hp S3) 1 (fun Z => if_neg hc) ?_
      refine wp_st (pc' := 40) (L' := [some (.ref 65), some (.int a1), some (.int 0), none, none]) (st' := []) (h' := Hp S3) 2 (fun Z => rfl) ?_
      refine wp_st (pc' := 41) (L' := [some (.ref 65), some (.int a1), some (.int 0), none, none]) (st' := [.int (-1)]) (h' := Hp S3) 1 (fun Z => congrArg (fun v => Z (d + 1) m_m_milder 41 [some (.ref 65), some (.int a1), some (.int 0), none, none] [.int v] (Hp S3)) (show Int32.ofInt (-1) = (-1) by decide)) ?_
      exact wp_st 3 (fun Z => rfl) (show wp E (d + 1) m_m_milder 45 [some (.ref 65), some (.int a1), some (.int 0), some (.int (-1)), some (.int 0)] [] (Hp S3) (QI Q) from hw)
set_option maxRecDepth 4000 in
theorem w_m_milder_45 {E : zX} {d : Nat} {S : St} {a1 : Int32} {a2 : Nat} {a3 : Int32} {a4 : Nat} {Q : Int32 → St → Prop} (hd : 1 ≤ d) 
    (hw : if ((10 : Int32) * (S 65 3)) ≤ (nI a4) then (
      if a1 = 0 then (
        Q (nI a2) S)
      else (
        Q a3 S))
    else (
      k_m_isGuess E (d - 1) S (nI a4) (fun x1 S2 =>
      if x1 = 0 then (
        k_m_milder_45 E d S2 a1 a2 a3 (a4 + 1) Q)
      else (
        if a3 = (-1) then (
          k_m_milder_45 E d S2 a1 (a2 + 1) (nI a4) (a4 + 1) Q)
        else (
          k_m_milder_45 E d S2 a1 (a2 + 1) a3 (a4 + 1) Q))))) :
    k_m_milder_45 E d S a1 a2 a3 a4 Q := by
  obtain ⟨d, rfl⟩ := Nat.exists_eq_add_of_le' hd
  show wp E (d + 1) m_m_milder 45 [some (.ref 65), some (.int a1), some (.int (nI a2)), some (.int a3), some (.int (nI a4))] [] (Hp S) (QI Q)
  refine wp_st (pc' := 50) (L' := [some (.ref 65), some (.int a1), some (.int (nI a2)), some (.int a3), some (.int (nI a4))]) (st' := [.ref 65, .int 10, .int (nI a4)]) (h' := Hp S) 3 (fun Z => rfl) ?_
  refine wp_st (pc' := 53) (L' := [some (.ref 65), some (.int a1), some (.int (nI a2)), some (.int a3), some (.int (nI a4))]) (st' := [.int (S 65 3), .int 10, .int (nI a4)]) (h' := Hp S) 1 (fun Z => gfI (E := E) sh65 rfl _) ?_
  refine wp_st (pc' := 54) (L' := [some (.ref 65), some (.int a1), some (.int (nI a2)), some (.int a3), some (.int (nI a4))]) (st' := [.int ((10 : Int32) * (S 65 3)), .int (nI a4)]) (h' := Hp S) 1 (fun Z => rfl) ?_
  by_cases hc : ((10 : Int32) * (S 65 3)) ≤ (nI a4)
  · rw [if_pos hc] at hw
    refine wp_st (pc' := 86) (L' := [some (.ref 65), some (.int a1), some (.int (nI a2)), some (.int a3), some (.int (nI a4))]) (st' := []) (h' := Hp S) 1 (fun Z => if_pos hc) ?_
    refine wp_st (pc' := 87) (L' := [some (.ref 65), some (.int a1), some (.int (nI a2)), some (.int a3), some (.int (nI a4))]) (st' := [.int a1]) (h' := Hp S) 1 (fun Z => rfl) ?_
    by_cases hc : a1 = 0
    · rw [if_pos hc] at hw
      refine wp_st (pc' := 90) (L' := [some (.ref 65), some (.int a1), some (.int (nI a2)), some (.int a3), some (.int (nI a4))]) (st' := []) (h' := Hp S) 1 (fun Z => if_pos hc) ?_
      refine wp_st (pc' := 95) (L' := [some (.ref 65), some (.int a1), some (.int (nI a2)), some (.int a3), some (.int (nI a4))]) (st' := [.int (nI a2)]) (h' := Hp S) 2 (fun Z => rfl) ?_
      exact wp_ret (fun Z => rfl) ⟨_, _, rfl, rfl, hw⟩
    · rw [if_neg hc] at hw
      refine wp_st (pc' := 94) (L' := [some (.ref 65), some (.int a1), some (.int (nI a2)), some (.int a3), some (.int (nI a4))]) (st' := []) (h' := Hp S) 1 (fun Z => if_neg hc) ?_
      refine wp_st (pc' := 95) (L' := [some (.ref 65), some (.int a1), some (.int (nI a2)), some (.int a3), some (.int (nI a4))]) (st' := [.int a3]) (h' := Hp S) 1 (fun Z => rfl) ?_
      exact wp_ret (fun Z => rfl) ⟨_, _, rfl, rfl, hw⟩
  · rw [if_neg hc] at hw
    refine wp_st (pc' := 57) (L' := [some (.ref 65), some (.int a1), some (.int (nI a2)), some (.int a3), some (.int (nI a4))]) (st' := []) (h' := Hp S) 1 (fun Z => if_neg hc) ?_
    refine wp_st (pc' := 60) (L' := [some (.ref 65), some (.int a1), some (.int (nI a2)), some (.int a3), some (.int (nI a4))]) (st' := [.int (nI a4), .ref 65]) (h' := Hp S) 2 (fun Z => rfl) ?_
    refine wp_call (pc' := 63) (rest := []) (fun Z => rfl) (isO_of sh65) hw ?_
    rintro o h1 ⟨x1, S2, rfl, rfl, hw⟩
    refine ⟨_, rfl, ?_⟩
    show wp E (d + 1) m_m_milder 63 [some (.ref 65), some (.int a1), some (.int (nI a2)), some (.int a3), some (.int (nI a4))] [.int x1] (Hp S2) (QI Q)
    by_cases hc : x1 = 0
    · rw [if_pos hc] at hw
      refine wp_st (pc' := 66) (L' := [some (.ref 65), some (.int a1), some (.int (nI a2)), some (.int a3), some (.int (nI a4))]) (st' := []) (h' := Hp S2) 1 (fun Z => if_pos hc) ?_
      refine wp_st (pc' := 80) (L' := [some (.ref 65), some (.int a1), some (.int (nI a2)), some (.int a3), some (.int (nI a4))]) (st' := []) (h' := Hp S2) 1 (fun Z => rfl) ?_
      refine wp_st (pc' := 83) (L' := [some (.ref 65), some (.int a1), some (.int (nI a2)), some (.int a3), some (.int (nI (a4 + 1)))]) (st' := []) (h' := Hp S2) 1 (fun Z => by rw [← nI_add a4 1]; rfl) ?_
      exact wp_st 1 (fun Z => rfl) (show wp E (d + 1) m_m_milder 45 [some (.ref 65), some (.int a1), some (.int (nI a2)), some (.int a3), some (.int (nI (a4 + 1)))] [] (Hp S2) (QI Q) from hw)
    · rw [if_neg hc] at hw
      refine wp_st (pc' := 69) (L' := [some (.ref 65), some (.int a1), some (.int (nI a2)), some (.int a3), some (.int (nI a4))]) (st' := []) (h' := Hp S2) 1 (fun Z => if_neg hc) ?_
      refine wp_st (pc' := 72) (L' := [some (.ref 65), some (.int a1), some (.int (nI (a2 + 1))), some (.int a3), some (.int (nI a4))]) (st' := []) (h' := Hp S2) 1 (fun Z => by rw [← nI_add a2 1]; rfl) ?_
      refine wp_st (pc' := 73) (L' := [some (.ref 65), some (.int a1), some (.int (nI (a2 + 1))), some (.int a3), some (.int (nI a4))]) (st' := [.int a3]) (h' := Hp S2) 1 (fun Z => rfl) ?_
      refine wp_st (pc' := 74) (L' := [some (.ref 65), some (.int a1), some (.int (nI (a2 + 1))), some (.int a3), some (.int (nI a4))]) (st' := [.int (-1), .int a3]) (h' := Hp S2) 1 (fun Z => congrArg (fun v => Z (d + 1) m_m_milder 74 [some (.ref 65), some (.int a1), some (.int (nI (a2 + 1))), some (.int a3), some (.int (nI a4))] [.int v, .int a3] (Hp S2)) (show Int32.ofInt (-1) = (-1) by decide)) ?_
      by_cases hc : a3 = (-1)
      · rw [if_pos hc] at hw
        refine wp_st (pc' := 77) (L' := [some (.ref 65), some (.int a1), some (.int (nI (a2 + 1))), some (.int a3), some (.int (nI a4))]) (st' := []) (h' := Hp S2) 1 (fun Z => if_pos hc) ?_
        refine wp_st (pc' := 80) (L' := [some (.ref 65), some (.int a1), some (.int (nI (a2 + 1))), some (.int (nI a4)), some (.int (nI a4))]) (st' := []) (h' := Hp S2) 2 (fun Z => rfl) ?_
        refine wp_st (pc' := 83) (L' := [some (.ref 65), some (.int a1), some (.int (nI (a2 + 1))), some (.int (nI a4)), some (.int (nI (a4 + 1)))]) (st' := []) (h' := Hp S2) 1 (fun Z => by rw [← nI_add a4 1]; rfl) ?_
        exact wp_st 1 (fun Z => rfl) (show wp E (d + 1) m_m_milder 45 [some (.ref 65), some (.int a1), some (.int (nI (a2 + 1))), some (.int (nI a4)), some (.int (nI (a4 + 1)))] [] (Hp S2) (QI Q) from hw)
      · rw [if_neg hc] at hw
        refine wp_st (pc' := 80) (L' := [some (.ref 65), some (.int a1), some (.int (nI (a2 + 1))), some (.int a3), some (.int (nI a4))]) (st' := []) (h' := Hp S2) 1 (fun Z => if_neg hc) ?_
        refine wp_st (pc' := 83) (L' := [some (.ref 65), some (.int a1), some (.int (nI (a2 + 1))), some (.int a3), some (.int (nI (a4 + 1)))]) (st' := []) (h' := Hp S2) 1 (fun Z => by rw [← nI_add a4 1]; rfl) ?_
        exact wp_st 1 (fun Z => rfl) (show wp E (d + 1) m_m_milder 45 [some (.ref 65), some (.int a1), some (.int (nI (a2 + 1))), some (.int a3), some (.int (nI (a4 + 1)))] [] (Hp S2) (QI Q) from hw)
set_option maxRecDepth 4000 in
theorem w_m_look {E : zX} {d : Nat} {S : St} {a1 : Int32} {Q : Int32 → St → Prop} (hd : 1 ≤ d) 
    (hw : ∀ S1, S1 = up S 65 0 0 →
    k_m_isWhat E (d - 1) S1 a1 1 (fun x2 S3 =>
    if x2 = 0 then (
      Q (0 : Int32) S3)
    else (
      k_m_look_20 E d S3 a1 0 0 Q))) :
    k_m_look E d S a1 Q := by
  obtain ⟨d, rfl⟩ := Nat.exists_eq_add_of_le' hd
  show wp E (d + 1) m_m_look 0 [some (.ref 65), some (.int a1), none, none, none, none, none, none, none, none] [] (Hp S) (QI Q)
  refine wp_st (pc' := 2) (L' := [some (.ref 65), some (.int a1), none, none, none, none, none, none, none, none]) (st' := [.int 0, .ref 65]) (h' := Hp S) 2 (fun Z => rfl) ?_
  have hw := hw _ rfl
  refine wp_st (pc' := 5) (L' := [some (.ref 65), some (.int a1), none, none, none, none, none, none, none, none]) (st' := []) (h' := Hp (up S 65 0 0)) 1 (fun Z => pfI sh65 rfl (Nat.le_of_ble_eq_true rfl) rfl _) ?_
  generalize up S 65 0 0 = S1 at hw ⊢
  refine wp_st (pc' := 8) (L' := [some (.ref 65), some (.int a1), none, none, none, none, none, none, none, none]) (st' := [.int 1, .int a1, .ref 65]) (h' := Hp S1) 3 (fun Z => rfl) ?_
  refine wp_call (pc' := 11) (rest := []) (fun Z => rfl) (isO_of sh65) hw ?_
  rintro o h1 ⟨x2, S3, rfl, rfl, hw⟩
  refine ⟨_, rfl, ?_⟩
  show wp E (d + 1) m_m_look 11 [some (.ref 65), some (.int a1), none, none, none, none, none, none, none, none] [.int x2] (Hp S3) (QI Q)
  by_cases hc : x2 = 0
  · rw [if_pos hc] at hw
    refine wp_st (pc' := 14) (L' := [some (.ref 65), some (.int a1), none, none, none, none, none, none, none, none]) (st' := []) (h' := Hp S3) 1 (fun Z => if_pos hc) ?_
    refine wp_st (pc' := 15) (L' := [some (.ref 65), some (.int a1), none, none, none, none, none, none, none, none]) (st' := [.int 0]) (h' := Hp S3) 1 (fun Z => rfl) ?_
    exact wp_ret (fun Z => rfl) ⟨_, _, rfl, rfl, hw⟩
  · rw [if_neg hc] at hw
    refine wp_st (pc' := 16) (L' := [some (.ref 65), some (.int a1), none, none, none, none, none, none, none, none]) (st' := []) (h' := Hp S3) 1 (fun Z => if_neg hc) ?_
    exact wp_st 4 (fun Z => rfl) (show wp E (d + 1) m_m_look 20 [some (.ref 65), some (.int a1), some (.int 0), some (.int 0), none, none, none, none, none, none] [] (Hp S3) (QI Q) from (hw none none none none none none))
set_option maxRecDepth 4000 in
theorem w_m_look_20 {E : zX} {d : Nat} {S : St} {a1 : Int32} {a2 : Nat} {a3 : Int32} {Q : Int32 → St → Prop} (hd : 1 ≤ d) 
    (hw : if ((10 : Int32) * (S 65 3)) ≤ a3 then (
      k_m_look_96 E d S a1 a2 (-1) 0 0 Q)
    else (
      k_m_isGuess E (d - 1) S a3 (fun x1 S2 =>
      if x1 = 0 then (
        k_m_look_20 E d S2 a1 a2 (a3 + 1) Q)
      else (
        k_m_look_45 E d S2 a1 a2 a3 0 Q)))) :
    k_m_look_20 E d S a1 a2 a3 Q := by
  obtain ⟨d, rfl⟩ := Nat.exists_eq_add_of_le' hd
  intro j4 j5 j6 j7 j8 j9
  show wp E (d + 1) m_m_look 20 [some (.ref 65), some (.int a1), some (.int (nI a2)), some (.int a3), j4, j5, j6, j7, j8, j9] [] (Hp S) (QI Q)
  refine wp_st (pc' := 24) (L' := [some (.ref 65), some (.int a1), some (.int (nI a2)), some (.int a3), j4, j5, j6, j7, j8, j9]) (st' := [.ref 65, .int 10, .int a3]) (h' := Hp S) 3 (fun Z => rfl) ?_
  refine wp_st (pc' := 27) (L' := [some (.ref 65), some (.int a1), some (.int (nI a2)), some (.int a3), j4, j5, j6, j7, j8, j9]) (st' := [.int (S 65 3), .int 10, .int a3]) (h' := Hp S) 1 (fun Z => gfI (E := E) sh65 rfl _) ?_
  refine wp_st (pc' := 28) (L' := [some (.ref 65), some (.int a1), some (.int (nI a2)), some (.int a3), j4, j5, j6, j7, j8, j9]) (st' := [.int ((10 : Int32) * (S 65 3)), .int a3]) (h' := Hp S) 1 (fun Z => rfl) ?_
  by_cases hc : ((10 : Int32) * (S 65 3)) ≤ a3
  · rw [if_pos hc] at hw
    refine wp_st (pc' := 88) (L' := [some (.ref 65), some (.int a1), some (.int (nI a2)), some (.int a3), j4, j5, j6, j7, j8, j9]) (st' := []) (h' := Hp S) 1 (fun Z => if_pos hc) ?_
    refine wp_st (pc' := 89) (L' := [some (.ref 65), some (.int a1), some (.int (nI a2)), some (.int a3), j4, j5, j6, j7, j8, j9]) (st' := [.int (-1)]) (h' := Hp S) 1 (fun Z => congrArg (fun v => Z (d + 1) m_m_look 89 [some (.ref 65), some (.int a1), some (.int (nI a2)), some (.int a3), j4, j5, j6, j7, j8, j9] [.int v] (Hp S)) (show Int32.ofInt (-1) = (-1) by decide)) ?_
    exact wp_st 5 (fun Z => rfl) (show wp E (d + 1) m_m_look 96 [some (.ref 65), some (.int a1), some (.int (nI a2)), some (.int (-1)), some (.int 0), some (.int 0), j6, j7, j8, j9] [] (Hp S) (QI Q) from (hw j6 j7 j8 j9))
  · rw [if_neg hc] at hw
    refine wp_st (pc' := 31) (L' := [some (.ref 65), some (.int a1), some (.int (nI a2)), some (.int a3), j4, j5, j6, j7, j8, j9]) (st' := []) (h' := Hp S) 1 (fun Z => if_neg hc) ?_
    refine wp_st (pc' := 33) (L' := [some (.ref 65), some (.int a1), some (.int (nI a2)), some (.int a3), j4, j5, j6, j7, j8, j9]) (st' := [.int a3, .ref 65]) (h' := Hp S) 2 (fun Z => rfl) ?_
    refine wp_call (pc' := 36) (rest := []) (fun Z => rfl) (isO_of sh65) hw ?_
    rintro o h1 ⟨x1, S2, rfl, rfl, hw⟩
    refine ⟨_, rfl, ?_⟩
    show wp E (d + 1) m_m_look 36 [some (.ref 65), some (.int a1), some (.int (nI a2)), some (.int a3), j4, j5, j6, j7, j8, j9] [.int x1] (Hp S2) (QI Q)
    by_cases hc : x1 = 0
    · rw [if_pos hc] at hw
      refine wp_st (pc' := 39) (L' := [some (.ref 65), some (.int a1), some (.int (nI a2)), some (.int a3), j4, j5, j6, j7, j8, j9]) (st' := []) (h' := Hp S2) 1 (fun Z => if_pos hc) ?_
      refine wp_st (pc' := 82) (L' := [some (.ref 65), some (.int a1), some (.int (nI a2)), some (.int a3), j4, j5, j6, j7, j8, j9]) (st' := []) (h' := Hp S2) 1 (fun Z => rfl) ?_
      refine wp_st (pc' := 85) (L' := [some (.ref 65), some (.int a1), some (.int (nI a2)), some (.int (a3 + 1)), j4, j5, j6, j7, j8, j9]) (st' := []) (h' := Hp S2) 1 (fun Z => congrArg (fun v => Z (d + 1) m_m_look 85 [some (.ref 65), some (.int a1), some (.int (nI a2)), some (.int (a3 + v)), j4, j5, j6, j7, j8, j9] [] (Hp S2)) (show Int32.ofInt (1) = (1) by decide)) ?_
      exact wp_st 1 (fun Z => rfl) (show wp E (d + 1) m_m_look 20 [some (.ref 65), some (.int a1), some (.int (nI a2)), some (.int (a3 + 1)), j4, j5, j6, j7, j8, j9] [] (Hp S2) (QI Q) from (hw j4 j5 j6 j7 j8 j9))
    · rw [if_neg hc] at hw
      refine wp_st (pc' := 42) (L' := [some (.ref 65), some (.int a1), some (.int (nI a2)), some (.int a3), j4, j5, j6, j7, j8, j9]) (st' := []) (h' := Hp S2) 1 (fun Z => if_neg hc) ?_
      exact wp_st 2 (fun Z => rfl) (show wp E (d + 1) m_m_look 45 [some (.ref 65), some (.int a1), some (.int (nI a2)), some (.int a3), some (.int 0), j5, j6, j7, j8, j9] [] (Hp S2) (QI Q) from (hw j5 j6 j7 j8 j9))
set_option maxRecDepth 4000 in
theorem w_m_look_45 {E : zX} {d : Nat} {S : St} {a1 : Int32} {a2 : Nat} {a3 : Int32} {a4 : Int32} {Q : Int32 → St → Prop} (hd : 1 ≤ d) 
    (hw : if (S 65 4) ≤ a4 then (
      k_m_look_20 E d S a1 (a2 + 1) (a3 + 1) Q)
    else (
      ∃ m1 : Nat, a4 = nI m1 ∧ m1 < 10 ∧
      ∃ m3 : Nat, ((nI (10 * a2)) + a4) = nI m3 ∧ m3 < 700 ∧
      ∀ S2, S2 = up S 87 m3 (S 86 m1) →
      k_m_look_45 E d S2 a1 a2 a3 (a4 + 1) Q)) :
    k_m_look_45 E d S a1 a2 a3 a4 Q := by
  obtain ⟨d, rfl⟩ := Nat.exists_eq_add_of_le' hd
  intro j5 j6 j7 j8 j9
  show wp E (d + 1) m_m_look 45 [some (.ref 65), some (.int a1), some (.int (nI a2)), some (.int a3), some (.int a4), j5, j6, j7, j8, j9] [] (Hp S) (QI Q)
  refine wp_st (pc' := 48) (L' := [some (.ref 65), some (.int a1), some (.int (nI a2)), some (.int a3), some (.int a4), j5, j6, j7, j8, j9]) (st' := [.ref 65, .int a4]) (h' := Hp S) 2 (fun Z => rfl) ?_
  refine wp_st (pc' := 51) (L' := [some (.ref 65), some (.int a1), some (.int (nI a2)), some (.int a3), some (.int a4), j5, j6, j7, j8, j9]) (st' := [.int (S 65 4), .int a4]) (h' := Hp S) 1 (fun Z => gfI (E := E) sh65 rfl _) ?_
  by_cases hc : (S 65 4) ≤ a4
  · rw [if_pos hc] at hw
    refine wp_st (pc' := 79) (L' := [some (.ref 65), some (.int a1), some (.int (nI a2)), some (.int a3), some (.int a4), j5, j6, j7, j8, j9]) (st' := []) (h' := Hp S) 1 (fun Z => if_pos hc) ?_
    refine wp_st (pc' := 82) (L' := [some (.ref 65), some (.int a1), some (.int (nI (a2 + 1))), some (.int a3), some (.int a4), j5, j6, j7, j8, j9]) (st' := []) (h' := Hp S) 1 (fun Z => by rw [← nI_add a2 1]; rfl) ?_
    refine wp_st (pc' := 85) (L' := [some (.ref 65), some (.int a1), some (.int (nI (a2 + 1))), some (.int (a3 + 1)), some (.int a4), j5, j6, j7, j8, j9]) (st' := []) (h' := Hp S) 1 (fun Z => congrArg (fun v => Z (d + 1) m_m_look 85 [some (.ref 65), some (.int a1), some (.int (nI (a2 + 1))), some (.int (a3 + v)), some (.int a4), j5, j6, j7, j8, j9] [] (Hp S)) (show Int32.ofInt (1) = (1) by decide)) ?_
    exact wp_st 1 (fun Z => rfl) (show wp E (d + 1) m_m_look 20 [some (.ref 65), some (.int a1), some (.int (nI (a2 + 1))), some (.int (a3 + 1)), some (.int a4), j5, j6, j7, j8, j9] [] (Hp S) (QI Q) from (hw (some (.int a4)) j5 j6 j7 j8 j9))
  · rw [if_neg hc] at hw
    refine wp_st (pc' := 54) (L' := [some (.ref 65), some (.int a1), some (.int (nI a2)), some (.int a3), some (.int a4), j5, j6, j7, j8, j9]) (st' := []) (h' := Hp S) 1 (fun Z => if_neg hc) ?_
    refine wp_st (pc' := 55) (L' := [some (.ref 65), some (.int a1), some (.int (nI a2)), some (.int a3), some (.int a4), j5, j6, j7, j8, j9]) (st' := [.ref 65]) (h' := Hp S) 1 (fun Z => rfl) ?_
    refine wp_st (pc' := 58) (L' := [some (.ref 65), some (.int a1), some (.int (nI a2)), some (.int a3), some (.int a4), j5, j6, j7, j8, j9]) (st' := [.ref 87]) (h' := Hp S) 1 (fun Z => gfR (E := E) sh65 rfl _) ?_
    refine wp_st (pc' := 61) (L' := [some (.ref 65), some (.int a1), some (.int (nI a2)), some (.int a3), some (.int a4), j5, j6, j7, j8, j9]) (st' := [.int (nI a2), .int 10, .ref 87]) (h' := Hp S) 2 (fun Z => rfl) ?_
    refine wp_st (pc' := 62) (L' := [some (.ref 65), some (.int a1), some (.int (nI a2)), some (.int a3), some (.int a4), j5, j6, j7, j8, j9]) (st' := [.int (nI (10 * a2)), .ref 87]) (h' := Hp S) 1 (fun Z => by rw [← pk_mul 10 a2]; rfl) ?_
    refine wp_st (pc' := 66) (L' := [some (.ref 65), some (.int a1), some (.int (nI a2)), some (.int a3), some (.int a4), j5, j6, j7, j8, j9]) (st' := [.ref 65, .int ((nI (10 * a2)) + a4), .ref 87]) (h' := Hp S) 3 (fun Z => rfl) ?_
    refine wp_st (pc' := 69) (L' := [some (.ref 65), some (.int a1), some (.int (nI a2)), some (.int a3), some (.int a4), j5, j6, j7, j8, j9]) (st' := [.ref 86, .int ((nI (10 * a2)) + a4), .ref 87]) (h' := Hp S) 1 (fun Z => gfR (E := E) sh65 rfl _) ?_
    refine wp_st (pc' := 71) (L' := [some (.ref 65), some (.int a1), some (.int (nI a2)), some (.int a3), some (.int a4), j5, j6, j7, j8, j9]) (st' := [.int a4, .ref 86, .int ((nI (10 * a2)) + a4), .ref 87]) (h' := Hp S) 1 (fun Z => rfl) ?_
    obtain ⟨m1, em, hi, hw⟩ := hw
    refine wp_st (pc' := 72) (L' := [some (.ref 65), some (.int a1), some (.int (nI a2)), some (.int a3), some (.int a4), j5, j6, j7, j8, j9]) (st' := [.int (S 86 m1), .int ((nI (10 * a2)) + a4), .ref 87]) (h' := Hp S) 1 (fun Z => (congrArg (fun v => zit E 1 Z (d + 1) m_m_look 71 [some (.ref 65), some (.int a1), some (.int (nI a2)), some (.int a3), some (.int a4), j5, j6, j7, j8, j9] [.int v, .ref 86, .int ((nI (10 * a2)) + a4), .ref 87] (Hp S)) em).trans (ldN (E := E) sh86 (by decide) hi [.int ((nI (10 * a2)) + a4), .ref 87] (fun st => Z (d + 1) m_m_look 72 [some (.ref 65), some (.int a1), some (.int (nI a2)), some (.int a3), some (.int a4), j5, j6, j7, j8, j9] st (Hp S)))) ?_
    obtain ⟨m3, em, hi, hw⟩ := hw
    have hw := hw _ rfl
    refine wp_st (pc' := 73) (L' := [some (.ref 65), some (.int a1), some (.int (nI a2)), some (.int a3), some (.int a4), j5, j6, j7, j8, j9]) (st' := []) (h' := Hp (up S 87 m3 (S 86 m1))) 1 (fun Z => (congrArg (fun v => zit E 1 Z (d + 1) m_m_look 72 [some (.ref 65), some (.int a1), some (.int (nI a2)), some (.int a3), some (.int a4), j5, j6, j7, j8, j9] [.int (S 86 m1), .int v, .ref 87] (Hp S)) em).trans (stN sh87 (by decide) hi _ _)) ?_
    generalize up S 87 m3 (S 86 m1) = S2 at hw ⊢
    refine wp_st (pc' := 76) (L' := [some (.ref 65), some (.int a1), some (.int (nI a2)), some (.int a3), some (.int (a4 + 1)), j5, j6, j7, j8, j9]) (st' := []) (h' := Hp S2) 1 (fun Z => congrArg (fun v => Z (d + 1) m_m_look 76 [some (.ref 65), some (.int a1), some (.int (nI a2)), some (.int a3), some (.int (a4 + v)), j5, j6, j7, j8, j9] [] (Hp S2)) (show Int32.ofInt (1) = (1) by decide)) ?_
    exact wp_st 1 (fun Z => rfl) (show wp E (d + 1) m_m_look 45 [some (.ref 65), some (.int a1), some (.int (nI a2)), some (.int a3), some (.int (a4 + 1)), j5, j6, j7, j8, j9] [] (Hp S2) (QI Q) from (hw j5 j6 j7 j8 j9))
set_option maxRecDepth 4000 in
theorem w_m_look_96 {E : zX} {d : Nat} {S : St} {a1 : Int32} {a2 : Nat} {a3 : Int32} {a4 : Int32} {a5 : Nat} {Q : Int32 → St → Prop} (hd : 1 ≤ d) 
    (hw : if (S 65 4) ≤ (nI a5) then (
      if a1 = 0 then (
        Q a3 S)
      else (
        Q a4 S))
    else (
      k_m_look_111 E d S a1 a2 a3 a4 a5 0 0 Q)) :
    k_m_look_96 E d S a1 a2 a3 a4 a5 Q := by
  obtain ⟨d, rfl⟩ := Nat.exists_eq_add_of_le' hd
  intro j6 j7 j8 j9
  show wp E (d + 1) m_m_look 96 [some (.ref 65), some (.int a1), some (.int (nI a2)), some (.int a3), some (.int a4), some (.int (nI a5)), j6, j7, j8, j9] [] (Hp S) (QI Q)
  refine wp_st (pc' := 99) (L' := [some (.ref 65), some (.int a1), some (.int (nI a2)), some (.int a3), some (.int a4), some (.int (nI a5)), j6, j7, j8, j9]) (st' := [.ref 65, .int (nI a5)]) (h' := Hp S) 2 (fun Z => rfl) ?_
  refine wp_st (pc' := 102) (L' := [some (.ref 65), some (.int a1), some (.int (nI a2)), some (.int a3), some (.int a4), some (.int (nI a5)), j6, j7, j8, j9]) (st' := [.int (S 65 4), .int (nI a5)]) (h' := Hp S) 1 (fun Z => gfI (E := E) sh65 rfl _) ?_
  by_cases hc : (S 65 4) ≤ (nI a5)
  · rw [if_pos hc] at hw
    refine wp_st (pc' := 221) (L' := [some (.ref 65), some (.int a1), some (.int (nI a2)), some (.int a3), some (.int a4), some (.int (nI a5)), j6, j7, j8, j9]) (st' := []) (h' := Hp S) 1 (fun Z => if_pos hc) ?_
    refine wp_st (pc' := 222) (L' := [some (.ref 65), some (.int a1), some (.int (nI a2)), some (.int a3), some (.int a4), some (.int (nI a5)), j6, j7, j8, j9]) (st' := [.int a1]) (h' := Hp S) 1 (fun Z => rfl) ?_
    by_cases hc : a1 = 0
    · rw [if_pos hc] at hw
      refine wp_st (pc' := 225) (L' := [some (.ref 65), some (.int a1), some (.int (nI a2)), some (.int a3), some (.int a4), some (.int (nI a5)), j6, j7, j8, j9]) (st' := []) (h' := Hp S) 1 (fun Z => if_pos hc) ?_
      refine wp_st (pc' := 231) (L' := [some (.ref 65), some (.int a1), some (.int (nI a2)), some (.int a3), some (.int a4), some (.int (nI a5)), j6, j7, j8, j9]) (st' := [.int a3]) (h' := Hp S) 2 (fun Z => rfl) ?_
      exact wp_ret (fun Z => rfl) ⟨_, _, rfl, rfl, hw⟩
    · rw [if_neg hc] at hw
      refine wp_st (pc' := 229) (L' := [some (.ref 65), some (.int a1), some (.int (nI a2)), some (.int a3), some (.int a4), some (.int (nI a5)), j6, j7, j8, j9]) (st' := []) (h' := Hp S) 1 (fun Z => if_neg hc) ?_
      refine wp_st (pc' := 231) (L' := [some (.ref 65), some (.int a1), some (.int (nI a2)), some (.int a3), some (.int a4), some (.int (nI a5)), j6, j7, j8, j9]) (st' := [.int a4]) (h' := Hp S) 1 (fun Z => rfl) ?_
      exact wp_ret (fun Z => rfl) ⟨_, _, rfl, rfl, hw⟩
  · rw [if_neg hc] at hw
    refine wp_st (pc' := 105) (L' := [some (.ref 65), some (.int a1), some (.int (nI a2)), some (.int a3), some (.int a4), some (.int (nI a5)), j6, j7, j8, j9]) (st' := []) (h' := Hp S) 1 (fun Z => if_neg hc) ?_
    exact wp_st 4 (fun Z => rfl) (show wp E (d + 1) m_m_look 111 [some (.ref 65), some (.int a1), some (.int (nI a2)), some (.int a3), some (.int a4), some (.int (nI a5)), some (.int 0), some (.int 0), j8, j9] [] (Hp S) (QI Q) from (hw j8 j9))
set_option maxRecDepth 4000 in
theorem w_m_look_111 {E : zX} {d : Nat} {S : St} {a1 : Int32} {a2 : Nat} {a3 : Int32} {a4 : Int32} {a5 : Nat} {a6 : Int32} {a7 : Nat} {Q : Int32 → St → Prop} (hd : 1 ≤ d) 
    (hw : if (nI a2) ≤ (nI a7) then (
      if a4 < a6 then (
        k_m_look_96 E d S a1 a2 (nI a5) a6 (a5 + 1) Q)
      else (
        k_m_look_96 E d S a1 a2 a3 a4 (a5 + 1) Q))
    else (
      k_m_look_123 E d S a1 a2 a3 a4 a5 a6 a7 1 0 Q)) :
    k_m_look_111 E d S a1 a2 a3 a4 a5 a6 a7 Q := by
  obtain ⟨d, rfl⟩ := Nat.exists_eq_add_of_le' hd
  intro j8 j9
  show wp E (d + 1) m_m_look 111 [some (.ref 65), some (.int a1), some (.int (nI a2)), some (.int a3), some (.int a4), some (.int (nI a5)), some (.int a6), some (.int (nI a7)), j8, j9] [] (Hp S) (QI Q)
  refine wp_st (pc' := 114) (L' := [some (.ref 65), some (.int a1), some (.int (nI a2)), some (.int a3), some (.int a4), some (.int (nI a5)), some (.int a6), some (.int (nI a7)), j8, j9]) (st' := [.int (nI a2), .int (nI a7)]) (h' := Hp S) 2 (fun Z => rfl) ?_
  by_cases hc : (nI a2) ≤ (nI a7)
  · rw [if_pos hc] at hw
    refine wp_st (pc' := 198) (L' := [some (.ref 65), some (.int a1), some (.int (nI a2)), some (.int a3), some (.int a4), some (.int (nI a5)), some (.int a6), some (.int (nI a7)), j8, j9]) (st' := []) (h' := Hp S) 1 (fun Z => if_pos hc) ?_
    refine wp_st (pc' := 202) (L' := [some (.ref 65), some (.int a1), some (.int (nI a2)), some (.int a3), some (.int a4), some (.int (nI a5)), some (.int a6), some (.int (nI a7)), j8, j9]) (st' := [.int a4, .int a6]) (h' := Hp S) 2 (fun Z => rfl) ?_
    by_cases hc : a4 < a6
    · rw [if_pos hc] at hw
      refine wp_st (pc' := 208) (L' := [some (.ref 65), some (.int a1), some (.int (nI a2)), some (.int a3), some (.int a4), some (.int (nI a5)), some (.int a6), some (.int (nI a7)), j8, j9]) (st' := []) (h' := Hp S) 1 (fun Z => if_pos hc) ?_
      refine wp_st (pc' := 215) (L' := [some (.ref 65), some (.int a1), some (.int (nI a2)), some (.int (nI a5)), some (.int a6), some (.int (nI a5)), some (.int a6), some (.int (nI a7)), j8, j9]) (st' := []) (h' := Hp S) 4 (fun Z => rfl) ?_
      refine wp_st (pc' := 218) (L' := [some (.ref 65), some (.int a1), some (.int (nI a2)), some (.int (nI a5)), some (.int a6), some (.int (nI (a5 + 1))), some (.int a6), some (.int (nI a7)), j8, j9]) (st' := []) (h' := Hp S) 1 (fun Z => by rw [← nI_add a5 1]; rfl) ?_
      exact wp_st 1 (fun Z => rfl) (show wp E (d + 1) m_m_look 96 [some (.ref 65), some (.int a1), some (.int (nI a2)), some (.int (nI a5)), some (.int a6), some (.int (nI (a5 + 1))), some (.int a6), some (.int (nI a7)), j8, j9] [] (Hp S) (QI Q) from (hw (some (.int a6)) (some (.int (nI a7))) j8 j9))
    · rw [if_neg hc] at hw
      refine wp_st (pc' := 205) (L' := [some (.ref 65), some (.int a1), some (.int (nI a2)), some (.int a3), some (.int a4), some (.int (nI a5)), some (.int a6), some (.int (nI a7)), j8, j9]) (st' := []) (h' := Hp S) 1 (fun Z => if_neg hc) ?_
      refine wp_st (pc' := 215) (L' := [some (.ref 65), some (.int a1), some (.int (nI a2)), some (.int a3), some (.int a4), some (.int (nI a5)), some (.int a6), some (.int (nI a7)), j8, j9]) (st' := []) (h' := Hp S) 1 (fun Z => rfl) ?_
      refine wp_st (pc' := 218) (L' := [some (.ref 65), some (.int a1), some (.int (nI a2)), some (.int a3), some (.int a4), some (.int (nI (a5 + 1))), some (.int a6), some (.int (nI a7)), j8, j9]) (st' := []) (h' := Hp S) 1 (fun Z => by rw [← nI_add a5 1]; rfl) ?_
      exact wp_st 1 (fun Z => rfl) (show wp E (d + 1) m_m_look 96 [some (.ref 65), some (.int a1), some (.int (nI a2)), some (.int a3), some (.int a4), some (.int (nI (a5 + 1))), some (.int a6), some (.int (nI a7)), j8, j9] [] (Hp S) (QI Q) from (hw (some (.int a6)) (some (.int (nI a7))) j8 j9))
  · rw [if_neg hc] at hw
    refine wp_st (pc' := 117) (L' := [some (.ref 65), some (.int a1), some (.int (nI a2)), some (.int a3), some (.int a4), some (.int (nI a5)), some (.int a6), some (.int (nI a7)), j8, j9]) (st' := []) (h' := Hp S) 1 (fun Z => if_neg hc) ?_
    exact wp_st 4 (fun Z => rfl) (show wp E (d + 1) m_m_look 123 [some (.ref 65), some (.int a1), some (.int (nI a2)), some (.int a3), some (.int a4), some (.int (nI a5)), some (.int a6), some (.int (nI a7)), some (.int 1), some (.int 0)] [] (Hp S) (QI Q) from hw)
set_option maxRecDepth 4000 in
theorem w_m_look_123 {E : zX} {d : Nat} {S : St} {a1 : Int32} {a2 : Nat} {a3 : Int32} {a4 : Int32} {a5 : Nat} {a6 : Int32} {a7 : Nat} {a8 : Int32} {a9 : Nat} {Q : Int32 → St → Prop} (hd : 1 ≤ d) 
    (hw : if (nI a7) ≤ (nI a9) then (
      k_m_look_177 E d S a1 a2 a3 a4 a5 a6 a7 a8 Q)
    else (
      if a8 = 0 then (
        k_m_look_177 E d S a1 a2 a3 a4 a5 a6 a7 a8 Q)
      else (
        ((10 * a7) + a5) < 700 ∧
        ((10 * a9) + a5) < 700 ∧
        if (S 87 ((10 * a7) + a5)) = (S 87 ((10 * a9) + a5)) then (
          k_m_look_123 E d S a1 a2 a3 a4 a5 a6 a7 0 (a9 + 1) Q)
        else (
          k_m_look_123 E d S a1 a2 a3 a4 a5 a6 a7 1 (a9 + 1) Q)))) :
    k_m_look_123 E d S a1 a2 a3 a4 a5 a6 a7 a8 a9 Q := by
  obtain ⟨d, rfl⟩ := Nat.exists_eq_add_of_le' hd
  show wp E (d + 1) m_m_look 123 [some (.ref 65), some (.int a1), some (.int (nI a2)), some (.int a3), some (.int a4), some (.int (nI a5)), some (.int a6), some (.int (nI a7)), some (.int a8), some (.int (nI a9))] [] (Hp S) (QI Q)
  refine wp_st (pc' := 127) (L' := [some (.ref 65), some (.int a1), some (.int (nI a2)), some (.int a3), some (.int a4), some (.int (nI a5)), some (.int a6), some (.int (nI a7)), some (.int a8), some (.int (nI a9))]) (st' := [.int (nI a7), .int (nI a9)]) (h' := Hp S) 2 (fun Z => rfl) ?_
  by_cases hc : (nI a7) ≤ (nI a9)
  · rw [if_pos hc] at hw
    refine wp_st (pc' := 177) (L' := [some (.ref 65), some (.int a1), some (.int (nI a2)), some (.int a3), some (.int a4), some (.int (nI a5)), some (.int a6), some (.int (nI a7)), some (.int a8), some (.int (nI a9))]) (st' := []) (h' := Hp S) 1 (fun Z => if_pos hc) ?_
    exact (show wp E (d + 1) m_m_look 177 [some (.ref 65), some (.int a1), some (.int (nI a2)), some (.int a3), some (.int a4), some (.int (nI a5)), some (.int a6), some (.int (nI a7)), some (.int a8), some (.int (nI a9))] [] (Hp S) (QI Q) from (hw (some (.int (nI a9)))))
  · rw [if_neg hc] at hw
    refine wp_st (pc' := 130) (L' := [some (.ref 65), some (.int a1), some (.int (nI a2)), some (.int a3), some (.int a4), some (.int (nI a5)), some (.int a6), some (.int (nI a7)), some (.int a8), some (.int (nI a9))]) (st' := []) (h' := Hp S) 1 (fun Z => if_neg hc) ?_
    refine wp_st (pc' := 132) (L' := [some (.ref 65), some (.int a1), some (.int (nI a2)), some (.int a3), some (.int a4), some (.int (nI a5)), some (.int a6), some (.int (nI a7)), some (.int a8), some (.int (nI a9))]) (st' := [.int a8]) (h' := Hp S) 1 (fun Z => rfl) ?_
    by_cases hc : a8 = 0
    · rw [if_pos hc] at hw
      refine wp_st (pc' := 177) (L' := [some (.ref 65), some (.int a1), some (.int (nI a2)), some (.int a3), some (.int a4), some (.int (nI a5)), some (.int a6), some (.int (nI a7)), some (.int a8), some (.int (nI a9))]) (st' := []) (h' := Hp S) 1 (fun Z => if_pos hc) ?_
      exact (show wp E (d + 1) m_m_look 177 [some (.ref 65), some (.int a1), some (.int (nI a2)), some (.int a3), some (.int a4), some (.int (nI a5)), some (.int a6), some (.int (nI a7)), some (.int a8), some (.int (nI a9))] [] (Hp S) (QI Q) from (hw (some (.int (nI a9)))))
    · rw [if_neg hc] at hw
      refine wp_st (pc' := 135) (L' := [some (.ref 65), some (.int a1), some (.int (nI a2)), some (.int a3), some (.int a4), some (.int (nI a5)), some (.int a6), some (.int (nI a7)), some (.int a8), some (.int (nI a9))]) (st' := []) (h' := Hp S) 1 (fun Z => if_neg hc) ?_
      refine wp_st (pc' := 136) (L' := [some (.ref 65), some (.int a1), some (.int (nI a2)), some (.int a3), some (.int a4), some (.int (nI a5)), some (.int a6), some (.int (nI a7)), some (.int a8), some (.int (nI a9))]) (st' := [.ref 65]) (h' := Hp S) 1 (fun Z => rfl) ?_
      refine wp_st (pc' := 139) (L' := [some (.ref 65), some (.int a1), some (.int (nI a2)), some (.int a3), some (.int a4), some (.int (nI a5)), some (.int a6), some (.int (nI a7)), some (.int a8), some (.int (nI a9))]) (st' := [.ref 87]) (h' := Hp S) 1 (fun Z => gfR (E := E) sh65 rfl _) ?_
      refine wp_st (pc' := 143) (L' := [some (.ref 65), some (.int a1), some (.int (nI a2)), some (.int a3), some (.int a4), some (.int (nI a5)), some (.int a6), some (.int (nI a7)), some (.int a8), some (.int (nI a9))]) (st' := [.int (nI a7), .int 10, .ref 87]) (h' := Hp S) 2 (fun Z => rfl) ?_
      refine wp_st (pc' := 144) (L' := [some (.ref 65), some (.int a1), some (.int (nI a2)), some (.int a3), some (.int a4), some (.int (nI a5)), some (.int a6), some (.int (nI a7)), some (.int a8), some (.int (nI a9))]) (st' := [.int (nI (10 * a7)), .ref 87]) (h' := Hp S) 1 (fun Z => by rw [← pk_mul 10 a7]; rfl) ?_
      refine wp_st (pc' := 146) (L' := [some (.ref 65), some (.int a1), some (.int (nI a2)), some (.int a3), some (.int a4), some (.int (nI a5)), some (.int a6), some (.int (nI a7)), some (.int a8), some (.int (nI a9))]) (st' := [.int (nI a5), .int (nI (10 * a7)), .ref 87]) (h' := Hp S) 1 (fun Z => rfl) ?_
      refine wp_st (pc' := 147) (L' := [some (.ref 65), some (.int a1), some (.int (nI a2)), some (.int a3), some (.int a4), some (.int (nI a5)), some (.int a6), some (.int (nI a7)), some (.int a8), some (.int (nI a9))]) (st' := [.int (nI ((10 * a7) + a5)), .ref 87]) (h' := Hp S) 1 (fun Z => by rw [← nI_add (10 * a7) a5]; rfl) ?_
      obtain ⟨hi, hw⟩ := hw
      refine wp_st (pc' := 148) (L' := [some (.ref 65), some (.int a1), some (.int (nI a2)), some (.int a3), some (.int a4), some (.int (nI a5)), some (.int a6), some (.int (nI a7)), some (.int a8), some (.int (nI a9))]) (st' := [.int (S 87 ((10 * a7) + a5))]) (h' := Hp S) 1 (fun Z => ldN (E := E) sh87 (by decide) hi [] (fun st => Z (d + 1) m_m_look 148 [some (.ref 65), some (.int a1), some (.int (nI a2)), some (.int a3), some (.int a4), some (.int (nI a5)), some (.int a6), some (.int (nI a7)), some (.int a8), some (.int (nI a9))] st (Hp S))) ?_
      refine wp_st (pc' := 149) (L' := [some (.ref 65), some (.int a1), some (.int (nI a2)), some (.int a3), some (.int a4), some (.int (nI a5)), some (.int a6), some (.int (nI a7)), some (.int a8), some (.int (nI a9))]) (st' := [.ref 65, .int (S 87 ((10 * a7) + a5))]) (h' := Hp S) 1 (fun Z => rfl) ?_
      refine wp_st (pc' := 152) (L' := [some (.ref 65), some (.int a1), some (.int (nI a2)), some (.int a3), some (.int a4), some (.int (nI a5)), some (.int a6), some (.int (nI a7)), some (.int a8), some (.int (nI a9))]) (st' := [.ref 87, .int (S 87 ((10 * a7) + a5))]) (h' := Hp S) 1 (fun Z => gfR (E := E) sh65 rfl _) ?_
      refine wp_st (pc' := 156) (L' := [some (.ref 65), some (.int a1), some (.int (nI a2)), some (.int a3), some (.int a4), some (.int (nI a5)), some (.int a6), some (.int (nI a7)), some (.int a8), some (.int (nI a9))]) (st' := [.int (nI a9), .int 10, .ref 87, .int (S 87 ((10 * a7) + a5))]) (h' := Hp S) 2 (fun Z => rfl) ?_
      refine wp_st (pc' := 157) (L' := [some (.ref 65), some (.int a1), some (.int (nI a2)), some (.int a3), some (.int a4), some (.int (nI a5)), some (.int a6), some (.int (nI a7)), some (.int a8), some (.int (nI a9))]) (st' := [.int (nI (10 * a9)), .ref 87, .int (S 87 ((10 * a7) + a5))]) (h' := Hp S) 1 (fun Z => by rw [← pk_mul 10 a9]; rfl) ?_
      refine wp_st (pc' := 159) (L' := [some (.ref 65), some (.int a1), some (.int (nI a2)), some (.int a3), some (.int a4), some (.int (nI a5)), some (.int a6), some (.int (nI a7)), some (.int a8), some (.int (nI a9))]) (st' := [.int (nI a5), .int (nI (10 * a9)), .ref 87, .int (S 87 ((10 * a7) + a5))]) (h' := Hp S) 1 (fun Z => rfl) ?_
      refine wp_st (pc' := 160) (L' := [some (.ref 65), some (.int a1), some (.int (nI a2)), some (.int a3), some (.int a4), some (.int (nI a5)), some (.int a6), some (.int (nI a7)), some (.int a8), some (.int (nI a9))]) (st' := [.int (nI ((10 * a9) + a5)), .ref 87, .int (S 87 ((10 * a7) + a5))]) (h' := Hp S) 1 (fun Z => by rw [← nI_add (10 * a9) a5]; rfl) ?_
      obtain ⟨hi, hw⟩ := hw
      refine wp_st (pc' := 161) (L' := [some (.ref 65), some (.int a1), some (.int (nI a2)), some (.int a3), some (.int a4), some (.int (nI a5)), some (.int a6), some (.int (nI a7)), some (.int a8), some (.int (nI a9))]) (st' := [.int (S 87 ((10 * a9) + a5)), .int (S 87 ((10 * a7) + a5))]) (h' := Hp S) 1 (fun Z => ldN (E := E) sh87 (by decide) hi [.int (S 87 ((10 * a7) + a5))] (fun st => Z (d + 1) m_m_look 161 [some (.ref 65), some (.int a1), some (.int (nI a2)), some (.int a3), some (.int a4), some (.int (nI a5)), some (.int a6), some (.int (nI a7)), some (.int a8), some (.int (nI a9))] st (Hp S))) ?_
      by_cases hc : (S 87 ((10 * a7) + a5)) = (S 87 ((10 * a9) + a5))
      · rw [if_pos hc] at hw
        refine wp_st (pc' := 168) (L' := [some (.ref 65), some (.int a1), some (.int (nI a2)), some (.int a3), some (.int a4), some (.int (nI a5)), some (.int a6), some (.int (nI a7)), some (.int a8), some (.int (nI a9))]) (st' := []) (h' := Hp S) 1 (fun Z => if_pos hc) ?_
        refine wp_st (pc' := 171) (L' := [some (.ref 65), some (.int a1), some (.int (nI a2)), some (.int a3), some (.int a4), some (.int (nI a5)), some (.int a6), some (.int (nI a7)), some (.int 0), some (.int (nI a9))]) (st' := []) (h' := Hp S) 2 (fun Z => rfl) ?_
        refine wp_st (pc' := 174) (L' := [some (.ref 65), some (.int a1), some (.int (nI a2)), some (.int a3), some (.int a4), some (.int (nI a5)), some (.int a6), some (.int (nI a7)), some (.int 0), some (.int (nI (a9 + 1)))]) (st' := []) (h' := Hp S) 1 (fun Z => by rw [← nI_add a9 1]; rfl) ?_
        exact wp_st 1 (fun Z => rfl) (show wp E (d + 1) m_m_look 123 [some (.ref 65), some (.int a1), some (.int (nI a2)), some (.int a3), some (.int a4), some (.int (nI a5)), some (.int a6), some (.int (nI a7)), some (.int 0), some (.int (nI (a9 + 1)))] [] (Hp S) (QI Q) from hw)
      · rw [if_neg hc] at hw
        refine wp_st (pc' := 164) (L' := [some (.ref 65), some (.int a1), some (.int (nI a2)), some (.int a3), some (.int a4), some (.int (nI a5)), some (.int a6), some (.int (nI a7)), some (.int a8), some (.int (nI a9))]) (st' := []) (h' := Hp S) 1 (fun Z => if_neg hc) ?_
        refine wp_st (pc' := 171) (L' := [some (.ref 65), some (.int a1), some (.int (nI a2)), some (.int a3), some (.int a4), some (.int (nI a5)), some (.int a6), some (.int (nI a7)), some (.int 1), some (.int (nI a9))]) (st' := []) (h' := Hp S) 3 (fun Z => rfl) ?_
        refine wp_st (pc' := 174) (L' := [some (.ref 65), some (.int a1), some (.int (nI a2)), some (.int a3), some (.int a4), some (.int (nI a5)), some (.int a6), some (.int (nI a7)), some (.int 1), some (.int (nI (a9 + 1)))]) (st' := []) (h' := Hp S) 1 (fun Z => by rw [← nI_add a9 1]; rfl) ?_
        exact wp_st 1 (fun Z => rfl) (show wp E (d + 1) m_m_look 123 [some (.ref 65), some (.int a1), some (.int (nI a2)), some (.int a3), some (.int a4), some (.int (nI a5)), some (.int a6), some (.int (nI a7)), some (.int 1), some (.int (nI (a9 + 1)))] [] (Hp S) (QI Q) from hw)
set_option maxRecDepth 4000 in
theorem w_m_look_177 {E : zX} {d : Nat} {S : St} {a1 : Int32} {a2 : Nat} {a3 : Int32} {a4 : Int32} {a5 : Nat} {a6 : Int32} {a7 : Nat} {a8 : Int32} {Q : Int32 → St → Prop} (hd : 1 ≤ d) 
    (hw : if a8 = 0 then (
      k_m_look_111 E d S a1 a2 a3 a4 a5 (a6 + (0 : Int32)) (a7 + 1) Q)
    else (
      k_m_look_111 E d S a1 a2 a3 a4 a5 (a6 + (1 : Int32)) (a7 + 1) Q)) :
    k_m_look_177 E d S a1 a2 a3 a4 a5 a6 a7 a8 Q := by
  obtain ⟨d, rfl⟩ := Nat.exists_eq_add_of_le' hd
  intro j9
  show wp E (d + 1) m_m_look 177 [some (.ref 65), some (.int a1), some (.int (nI a2)), some (.int a3), some (.int a4), some (.int (nI a5)), some (.int a6), some (.int (nI a7)), some (.int a8), j9] [] (Hp S) (QI Q)
  refine wp_st (pc' := 181) (L' := [some (.ref 65), some (.int a1), some (.int (nI a2)), some (.int a3), some (.int a4), some (.int (nI a5)), some (.int a6), some (.int (nI a7)), some (.int a8), j9]) (st' := [.int a8, .int a6]) (h' := Hp S) 2 (fun Z => rfl) ?_
  by_cases hc : a8 = 0
  · rw [if_pos hc] at hw
    refine wp_st (pc' := 188) (L' := [some (.ref 65), some (.int a1), some (.int (nI a2)), some (.int a3), some (.int a4), some (.int (nI a5)), some (.int a6), some (.int (nI a7)), some (.int a8), j9]) (st' := [.int a6]) (h' := Hp S) 1 (fun Z => if_pos hc) ?_
    refine wp_st (pc' := 192) (L' := [some (.ref 65), some (.int a1), some (.int (nI a2)), some (.int a3), some (.int a4), some (.int (nI a5)), some (.int (a6 + (0 : Int32))), some (.int (nI a7)), some (.int a8), j9]) (st' := []) (h' := Hp S) 3 (fun Z => rfl) ?_
    refine wp_st (pc' := 195) (L' := [some (.ref 65), some (.int a1), some (.int (nI a2)), some (.int a3), some (.int a4), some (.int (nI a5)), some (.int (a6 + (0 : Int32))), some (.int (nI (a7 + 1))), some (.int a8), j9]) (st' := []) (h' := Hp S) 1 (fun Z => by rw [← nI_add a7 1]; rfl) ?_
    exact wp_st 1 (fun Z => rfl) (show wp E (d + 1) m_m_look 111 [some (.ref 65), some (.int a1), some (.int (nI a2)), some (.int a3), some (.int a4), some (.int (nI a5)), some (.int (a6 + (0 : Int32))), some (.int (nI (a7 + 1))), some (.int a8), j9] [] (Hp S) (QI Q) from (hw (some (.int a8)) j9))
  · rw [if_neg hc] at hw
    refine wp_st (pc' := 184) (L' := [some (.ref 65), some (.int a1), some (.int (nI a2)), some (.int a3), some (.int a4), some (.int (nI a5)), some (.int a6), some (.int (nI a7)), some (.int a8), j9]) (st' := [.int a6]) (h' := Hp S) 1 (fun Z => if_neg hc) ?_
    refine wp_st (pc' := 192) (L' := [some (.ref 65), some (.int a1), some (.int (nI a2)), some (.int a3), some (.int a4), some (.int (nI a5)), some (.int (a6 + (1 : Int32))), some (.int (nI a7)), some (.int a8), j9]) (st' := []) (h' := Hp S) 4 (fun Z => rfl) ?_
    refine wp_st (pc' := 195) (L' := [some (.ref 65), some (.int a1), some (.int (nI a2)), some (.int a3), some (.int a4), some (.int (nI a5)), some (.int (a6 + (1 : Int32))), some (.int (nI (a7 + 1))), some (.int a8), j9]) (st' := []) (h' := Hp S) 1 (fun Z => by rw [← nI_add a7 1]; rfl) ?_
    exact wp_st 1 (fun Z => rfl) (show wp E (d + 1) m_m_look 111 [some (.ref 65), some (.int a1), some (.int (nI a2)), some (.int a3), some (.int a4), some (.int (nI a5)), some (.int (a6 + (1 : Int32))), some (.int (nI (a7 + 1))), some (.int a8), j9] [] (Hp S) (QI Q) from (hw (some (.int a8)) j9))
set_option maxRecDepth 4000 in
theorem w_m_treads {E : zX} {d : Nat} {S : St}  {Q : St → Prop} (hd : 1 ≤ d) 
    (hw : k_m_treads_4 E d S (-1) 0 Q) :
    k_m_treads E d S Q := by
  obtain ⟨d, rfl⟩ := Nat.exists_eq_add_of_le' hd
  show wp E (d + 1) m_m_treads 0 [some (.ref 65), none, none] [] (Hp S) (QV Q)
  refine wp_st (pc' := 1) (L' := [some (.ref 65), none, none]) (st' := [.int (-1)]) (h' := Hp S) 1 (fun Z => congrArg (fun v => Z (d + 1) m_m_treads 1 [some (.ref 65), none, none] [.int v] (Hp S)) (show Int32.ofInt (-1) = (-1) by decide)) ?_
  exact wp_st 3 (fun Z => rfl) (show wp E (d + 1) m_m_treads 4 [some (.ref 65), some (.int (-1)), some (.int 0)] [] (Hp S) (QV Q) from hw)
set_option maxRecDepth 4000 in
theorem w_m_treads_4 {E : zX} {d : Nat} {S : St} {a1 : Int32} {a2 : Nat} {Q : St → Prop} (hd : 1 ≤ d) 
    (hw : if (S 65 4) ≤ (nI a2) then (
      if a1 = (-1) then (
        Q S)
      else (
        k_m_goOff E (d - 1) S 79 ((1 : Int32) <<< (a1 &&& 31)) (fun x1 S2 =>
        Q S2)))
    else (
      k_m_mayTread E (d - 1) S 79 (nI a2) (fun x3 S4 =>
      if x3 = 0 then (
        k_m_treads_4 E d S4 a1 (a2 + 1) Q)
      else (
        if a1 = (-1) then (
          k_m_treads_4 E d S4 (nI a2) (a2 + 1) Q)
        else (
          (118 + a2) < 158 ∧
          ∃ m5 : Nat, ((118 : Int32) + a1) = nI m5 ∧ m5 < 158 ∧
          if (S4 77 (118 + a2)) ≤ (S4 77 m5) then (
            k_m_treads_4 E d S4 a1 (a2 + 1) Q)
          else (
            k_m_treads_4 E d S4 (nI a2) (a2 + 1) Q)))))) :
    k_m_treads_4 E d S a1 a2 Q := by
  obtain ⟨d, rfl⟩ := Nat.exists_eq_add_of_le' hd
  show wp E (d + 1) m_m_treads 4 [some (.ref 65), some (.int a1), some (.int (nI a2))] [] (Hp S) (QV Q)
  refine wp_st (pc' := 6) (L' := [some (.ref 65), some (.int a1), some (.int (nI a2))]) (st' := [.ref 65, .int (nI a2)]) (h' := Hp S) 2 (fun Z => rfl) ?_
  refine wp_st (pc' := 9) (L' := [some (.ref 65), some (.int a1), some (.int (nI a2))]) (st' := [.int (S 65 4), .int (nI a2)]) (h' := Hp S) 1 (fun Z => gfI (E := E) sh65 rfl _) ?_
  by_cases hc : (S 65 4) ≤ (nI a2)
  · rw [if_pos hc] at hw
    refine wp_st (pc' := 56) (L' := [some (.ref 65), some (.int a1), some (.int (nI a2))]) (st' := []) (h' := Hp S) 1 (fun Z => if_pos hc) ?_
    refine wp_st (pc' := 57) (L' := [some (.ref 65), some (.int a1), some (.int (nI a2))]) (st' := [.int a1]) (h' := Hp S) 1 (fun Z => rfl) ?_
    refine wp_st (pc' := 58) (L' := [some (.ref 65), some (.int a1), some (.int (nI a2))]) (st' := [.int (-1), .int a1]) (h' := Hp S) 1 (fun Z => congrArg (fun v => Z (d + 1) m_m_treads 58 [some (.ref 65), some (.int a1), some (.int (nI a2))] [.int v, .int a1] (Hp S)) (show Int32.ofInt (-1) = (-1) by decide)) ?_
    by_cases hc : a1 = (-1)
    · rw [if_pos hc] at hw
      refine wp_st (pc' := 71) (L' := [some (.ref 65), some (.int a1), some (.int (nI a2))]) (st' := []) (h' := Hp S) 1 (fun Z => if_pos hc) ?_
      exact wp_ret (fun Z => rfl) ⟨_, rfl, rfl, hw⟩
    · rw [if_neg hc] at hw
      refine wp_st (pc' := 61) (L' := [some (.ref 65), some (.int a1), some (.int (nI a2))]) (st' := []) (h' := Hp S) 1 (fun Z => if_neg hc) ?_
      refine wp_st (pc' := 67) (L' := [some (.ref 65), some (.int a1), some (.int (nI a2))]) (st' := [.int ((1 : Int32) <<< (a1 &&& 31)), .int 79, .ref 65]) (h' := Hp S) 5 (fun Z => rfl) ?_
      refine wp_call (pc' := 70) (rest := []) (fun Z => rfl) (isO_of sh65) hw ?_
      rintro o h1 ⟨x1, S2, rfl, rfl, hw⟩
      refine ⟨_, rfl, ?_⟩
      show wp E (d + 1) m_m_treads 70 [some (.ref 65), some (.int a1), some (.int (nI a2))] [.int x1] (Hp S2) (QV Q)
      refine wp_st (pc' := 71) (L' := [some (.ref 65), some (.int a1), some (.int (nI a2))]) (st' := []) (h' := Hp S2) 1 (fun Z => rfl) ?_
      exact wp_ret (fun Z => rfl) ⟨_, rfl, rfl, hw⟩
  · rw [if_neg hc] at hw
    refine wp_st (pc' := 12) (L' := [some (.ref 65), some (.int a1), some (.int (nI a2))]) (st' := []) (h' := Hp S) 1 (fun Z => if_neg hc) ?_
    refine wp_st (pc' := 16) (L' := [some (.ref 65), some (.int a1), some (.int (nI a2))]) (st' := [.int (nI a2), .int 79, .ref 65]) (h' := Hp S) 3 (fun Z => rfl) ?_
    refine wp_call (pc' := 19) (rest := []) (fun Z => rfl) (isO_of sh65) hw ?_
    rintro o h1 ⟨x3, S4, rfl, rfl, hw⟩
    refine ⟨_, rfl, ?_⟩
    show wp E (d + 1) m_m_treads 19 [some (.ref 65), some (.int a1), some (.int (nI a2))] [.int x3] (Hp S4) (QV Q)
    by_cases hc : x3 = 0
    · rw [if_pos hc] at hw
      refine wp_st (pc' := 50) (L' := [some (.ref 65), some (.int a1), some (.int (nI a2))]) (st' := []) (h' := Hp S4) 1 (fun Z => if_pos hc) ?_
      refine wp_st (pc' := 53) (L' := [some (.ref 65), some (.int a1), some (.int (nI (a2 + 1)))]) (st' := []) (h' := Hp S4) 1 (fun Z => by rw [← nI_add a2 1]; rfl) ?_
      exact wp_st 1 (fun Z => rfl) (show wp E (d + 1) m_m_treads 4 [some (.ref 65), some (.int a1), some (.int (nI (a2 + 1)))] [] (Hp S4) (QV Q) from hw)
    · rw [if_neg hc] at hw
      refine wp_st (pc' := 22) (L' := [some (.ref 65), some (.int a1), some (.int (nI a2))]) (st' := []) (h' := Hp S4) 1 (fun Z => if_neg hc) ?_
      refine wp_st (pc' := 23) (L' := [some (.ref 65), some (.int a1), some (.int (nI a2))]) (st' := [.int a1]) (h' := Hp S4) 1 (fun Z => rfl) ?_
      refine wp_st (pc' := 24) (L' := [some (.ref 65), some (.int a1), some (.int (nI a2))]) (st' := [.int (-1), .int a1]) (h' := Hp S4) 1 (fun Z => congrArg (fun v => Z (d + 1) m_m_treads 24 [some (.ref 65), some (.int a1), some (.int (nI a2))] [.int v, .int a1] (Hp S4)) (show Int32.ofInt (-1) = (-1) by decide)) ?_
      by_cases hc : a1 = (-1)
      · rw [if_pos hc] at hw
        refine wp_st (pc' := 48) (L' := [some (.ref 65), some (.int a1), some (.int (nI a2))]) (st' := []) (h' := Hp S4) 1 (fun Z => if_pos hc) ?_
        refine wp_st (pc' := 50) (L' := [some (.ref 65), some (.int (nI a2)), some (.int (nI a2))]) (st' := []) (h' := Hp S4) 2 (fun Z => rfl) ?_
        refine wp_st (pc' := 53) (L' := [some (.ref 65), some (.int (nI a2)), some (.int (nI (a2 + 1)))]) (st' := []) (h' := Hp S4) 1 (fun Z => by rw [← nI_add a2 1]; rfl) ?_
        exact wp_st 1 (fun Z => rfl) (show wp E (d + 1) m_m_treads 4 [some (.ref 65), some (.int (nI a2)), some (.int (nI (a2 + 1)))] [] (Hp S4) (QV Q) from hw)
      · rw [if_neg hc] at hw
        refine wp_st (pc' := 27) (L' := [some (.ref 65), some (.int a1), some (.int (nI a2))]) (st' := []) (h' := Hp S4) 1 (fun Z => if_neg hc) ?_
        refine wp_st (pc' := 28) (L' := [some (.ref 65), some (.int a1), some (.int (nI a2))]) (st' := [.ref 65]) (h' := Hp S4) 1 (fun Z => rfl) ?_
        refine wp_st (pc' := 31) (L' := [some (.ref 65), some (.int a1), some (.int (nI a2))]) (st' := [.ref 77]) (h' := Hp S4) 1 (fun Z => gfR (E := E) sh65 rfl _) ?_
        refine wp_st (pc' := 34) (L' := [some (.ref 65), some (.int a1), some (.int (nI a2))]) (st' := [.int (nI a2), .int 118, .ref 77]) (h' := Hp S4) 2 (fun Z => rfl) ?_
        refine wp_st (pc' := 35) (L' := [some (.ref 65), some (.int a1), some (.int (nI a2))]) (st' := [.int (nI (118 + a2)), .ref 77]) (h' := Hp S4) 1 (fun Z => by rw [← nI_add 118 a2]; rfl) ?_
        obtain ⟨hi, hw⟩ := hw
        refine wp_st (pc' := 36) (L' := [some (.ref 65), some (.int a1), some (.int (nI a2))]) (st' := [.int (S4 77 (118 + a2))]) (h' := Hp S4) 1 (fun Z => ldN (E := E) sh77 (by decide) hi [] (fun st => Z (d + 1) m_m_treads 36 [some (.ref 65), some (.int a1), some (.int (nI a2))] st (Hp S4))) ?_
        refine wp_st (pc' := 37) (L' := [some (.ref 65), some (.int a1), some (.int (nI a2))]) (st' := [.ref 65, .int (S4 77 (118 + a2))]) (h' := Hp S4) 1 (fun Z => rfl) ?_
        refine wp_st (pc' := 40) (L' := [some (.ref 65), some (.int a1), some (.int (nI a2))]) (st' := [.ref 77, .int (S4 77 (118 + a2))]) (h' := Hp S4) 1 (fun Z => gfR (E := E) sh65 rfl _) ?_
        refine wp_st (pc' := 44) (L' := [some (.ref 65), some (.int a1), some (.int (nI a2))]) (st' := [.int ((118 : Int32) + a1), .ref 77, .int (S4 77 (118 + a2))]) (h' := Hp S4) 3 (fun Z => rfl) ?_
        obtain ⟨m5, em, hi, hw⟩ := hw
        refine wp_st (pc' := 45) (L' := [some (.ref 65), some (.int a1), some (.int (nI a2))]) (st' := [.int (S4 77 m5), .int (S4 77 (118 + a2))]) (h' := Hp S4) 1 (fun Z => (congrArg (fun v => zit E 1 Z (d + 1) m_m_treads 44 [some (.ref 65), some (.int a1), some (.int (nI a2))] [.int v, .ref 77, .int (S4 77 (118 + a2))] (Hp S4)) em).trans (ldN (E := E) sh77 (by decide) hi [.int (S4 77 (118 + a2))] (fun st => Z (d + 1) m_m_treads 45 [some (.ref 65), some (.int a1), some (.int (nI a2))] st (Hp S4)))) ?_
        by_cases hc : (S4 77 (118 + a2)) ≤ (S4 77 m5)
        · rw [if_pos hc] at hw
          refine wp_st (pc' := 50) (L' := [some (.ref 65), some (.int a1), some (.int (nI a2))]) (st' := []) (h' := Hp S4) 1 (fun Z => if_pos hc) ?_
          refine wp_st (pc' := 53) (L' := [some (.ref 65), some (.int a1), some (.int (nI (a2 + 1)))]) (st' := []) (h' := Hp S4) 1 (fun Z => by rw [← nI_add a2 1]; rfl) ?_
          exact wp_st 1 (fun Z => rfl) (show wp E (d + 1) m_m_treads 4 [some (.ref 65), some (.int a1), some (.int (nI (a2 + 1)))] [] (Hp S4) (QV Q) from hw)
        · rw [if_neg hc] at hw
          refine wp_st (pc' := 48) (L' := [some (.ref 65), some (.int a1), some (.int (nI a2))]) (st' := []) (h' := Hp S4) 1 (fun Z => if_neg hc) ?_
          refine wp_st (pc' := 50) (L' := [some (.ref 65), some (.int (nI a2)), some (.int (nI a2))]) (st' := []) (h' := Hp S4) 2 (fun Z => rfl) ?_
          refine wp_st (pc' := 53) (L' := [some (.ref 65), some (.int (nI a2)), some (.int (nI (a2 + 1)))]) (st' := []) (h' := Hp S4) 1 (fun Z => by rw [← nI_add a2 1]; rfl) ?_
          exact wp_st 1 (fun Z => rfl) (show wp E (d + 1) m_m_treads 4 [some (.ref 65), some (.int (nI a2)), some (.int (nI (a2 + 1)))] [] (Hp S4) (QV Q) from hw)
set_option maxRecDepth 4000 in
theorem w_m_years {E : zX} {d : Nat} {S : St} {a1 : Int32} {a2 : Int32} {a3 : Int32} {Q : Int32 → St → Prop} (hd : 1 ≤ d) 
    (hw : ∀ S1, S1 = up S 65 0 0 →
    k_m_isWhat E (d - 1) S1 a3 2 (fun x2 S3 =>
    if x2 = 0 then (
      Q (0 : Int32) S3)
    else (
      k_m_isSoon E (d - 1) S3 a2 0 2 (fun x4 S5 =>
      if x4 = 0 then (
        Q (0 : Int32) S5)
      else (
        k_m_tries E (d - 1) S5 (fun S7 =>
        ∀ S8, S8 = up S7 65 57 a1 →
        k_m_years_41 E d S8 a2 a3 0 0 Q)))))) :
    k_m_years E d S a1 a2 a3 Q := by
  obtain ⟨d, rfl⟩ := Nat.exists_eq_add_of_le' hd
  show wp E (d + 1) m_m_years 0 [some (.ref 65), some (.int a1), some (.int a2), some (.int a3), none, none] [] (Hp S) (QI Q)
  refine wp_st (pc' := 2) (L' := [some (.ref 65), some (.int a1), some (.int a2), some (.int a3), none, none]) (st' := [.int 0, .ref 65]) (h' := Hp S) 2 (fun Z => rfl) ?_
  have hw := hw _ rfl
  refine wp_st (pc' := 5) (L' := [some (.ref 65), some (.int a1), some (.int a2), some (.int a3), none, none]) (st' := []) (h' := Hp (up S 65 0 0)) 1 (fun Z => pfI sh65 rfl (Nat.le_of_ble_eq_true rfl) rfl _) ?_
  generalize up S 65 0 0 = S1 at hw ⊢
  refine wp_st (pc' := 8) (L' := [some (.ref 65), some (.int a1), some (.int a2), some (.int a3), none, none]) (st' := [.int 2, .int a3, .ref 65]) (h' := Hp S1) 3 (fun Z => rfl) ?_
  refine wp_call (pc' := 11) (rest := []) (fun Z => rfl) (isO_of sh65) hw ?_
  rintro o h1 ⟨x2, S3, rfl, rfl, hw⟩
  refine ⟨_, rfl, ?_⟩
  show wp E (d + 1) m_m_years 11 [some (.ref 65), some (.int a1), some (.int a2), some (.int a3), none, none] [.int x2] (Hp S3) (QI Q)
  by_cases hc : x2 = 0
  · rw [if_pos hc] at hw
    refine wp_st (pc' := 24) (L' := [some (.ref 65), some (.int a1), some (.int a2), some (.int a3), none, none]) (st' := []) (h' := Hp S3) 1 (fun Z => if_pos hc) ?_
    refine wp_st (pc' := 25) (L' := [some (.ref 65), some (.int a1), some (.int a2), some (.int a3), none, none]) (st' := [.int 0]) (h' := Hp S3) 1 (fun Z => rfl) ?_
    exact wp_ret (fun Z => rfl) ⟨_, _, rfl, rfl, hw⟩
  · rw [if_neg hc] at hw
    refine wp_st (pc' := 14) (L' := [some (.ref 65), some (.int a1), some (.int a2), some (.int a3), none, none]) (st' := []) (h' := Hp S3) 1 (fun Z => if_neg hc) ?_
    refine wp_st (pc' := 18) (L' := [some (.ref 65), some (.int a1), some (.int a2), some (.int a3), none, none]) (st' := [.int 2, .int 0, .int a2, .ref 65]) (h' := Hp S3) 4 (fun Z => rfl) ?_
    refine wp_call (pc' := 21) (rest := []) (fun Z => rfl) (isO_of sh65) hw ?_
    rintro o h1 ⟨x4, S5, rfl, rfl, hw⟩
    refine ⟨_, rfl, ?_⟩
    show wp E (d + 1) m_m_years 21 [some (.ref 65), some (.int a1), some (.int a2), some (.int a3), none, none] [.int x4] (Hp S5) (QI Q)
    by_cases hc : x4 = 0
    · rw [if_pos hc] at hw
      refine wp_st (pc' := 24) (L' := [some (.ref 65), some (.int a1), some (.int a2), some (.int a3), none, none]) (st' := []) (h' := Hp S5) 1 (fun Z => if_pos hc) ?_
      refine wp_st (pc' := 25) (L' := [some (.ref 65), some (.int a1), some (.int a2), some (.int a3), none, none]) (st' := [.int 0]) (h' := Hp S5) 1 (fun Z => rfl) ?_
      exact wp_ret (fun Z => rfl) ⟨_, _, rfl, rfl, hw⟩
    · rw [if_neg hc] at hw
      refine wp_st (pc' := 26) (L' := [some (.ref 65), some (.int a1), some (.int a2), some (.int a3), none, none]) (st' := []) (h' := Hp S5) 1 (fun Z => if_neg hc) ?_
      refine wp_st (pc' := 27) (L' := [some (.ref 65), some (.int a1), some (.int a2), some (.int a3), none, none]) (st' := [.ref 65]) (h' := Hp S5) 1 (fun Z => rfl) ?_
      refine wp_call (pc' := 30) (rest := []) (fun Z => rfl) (isO_of sh65) hw ?_
      rintro o h1 ⟨S7, rfl, rfl, hw⟩
      refine ⟨_, rfl, ?_⟩
      show wp E (d + 1) m_m_years 30 [some (.ref 65), some (.int a1), some (.int a2), some (.int a3), none, none] [] (Hp S7) (QI Q)
      refine wp_st (pc' := 32) (L' := [some (.ref 65), some (.int a1), some (.int a2), some (.int a3), none, none]) (st' := [.int a1, .ref 65]) (h' := Hp S7) 2 (fun Z => rfl) ?_
      have hw := hw _ rfl
      refine wp_st (pc' := 35) (L' := [some (.ref 65), some (.int a1), some (.int a2), some (.int a3), none, none]) (st' := []) (h' := Hp (up S7 65 57 a1)) 1 (fun Z => pfI sh65 rfl (Nat.le_of_ble_eq_true rfl) rfl _) ?_
      generalize up S7 65 57 a1 = S8 at hw ⊢
      exact wp_st 4 (fun Z => rfl) (show wp E (d + 1) m_m_years 41 [some (.ref 65), some (.int a1), some (.int a2), some (.int a3), some (.int 0), some (.int 0)] [] (Hp S8) (QI Q) from (hw (some (.int a1))))
set_option maxRecDepth 4000 in
theorem w_m_years_41 {E : zX} {d : Nat} {S : St} {a2 : Int32} {a3 : Int32} {a4 : Int32} {a5 : Nat} {Q : Int32 → St → Prop} (hd : 1 ≤ d) 
    (hw : if a2 ≤ (nI a5) then (
      if a3 = 0 then (
        Q a4 S)
      else (
        if a3 = 1 then (
          k_m_sumOf E (d - 1) S 79 8 (S 65 3) (fun x1 S2 =>
          k_m_sumOf E (d - 1) S2 0 8 (S2 65 3) (fun x3 S4 =>
          Q (x1 - x3) S4)))
        else (
          k_m_sumOf E (d - 1) S 79 1 (S 65 3) (fun x5 S6 =>
          Q x5 S6))))
    else (
      k_m_begins0 E (d - 1) S (fun S8 =>
      k_m_happens E (d - 1) S8 (fun S10 =>
      k_m_dayGoes E (d - 1) S10 79 (fun S12 =>
      k_m_years_41 E d S12 a2 a3 (a4 + (S12 65 46)) (a5 + 1) Q))))) :
    k_m_years_41 E d S a2 a3 a4 a5 Q := by
  obtain ⟨d, rfl⟩ := Nat.exists_eq_add_of_le' hd
  intro j1
  show wp E (d + 1) m_m_years 41 [some (.ref 65), j1, some (.int a2), some (.int a3), some (.int a4), some (.int (nI a5))] [] (Hp S) (QI Q)
  refine wp_st (pc' := 44) (L' := [some (.ref 65), j1, some (.int a2), some (.int a3), some (.int a4), some (.int (nI a5))]) (st' := [.int a2, .int (nI a5)]) (h' := Hp S) 2 (fun Z => rfl) ?_
  by_cases hc : a2 ≤ (nI a5)
  · rw [if_pos hc] at hw
    refine wp_st (pc' := 76) (L' := [some (.ref 65), j1, some (.int a2), some (.int a3), some (.int a4), some (.int (nI a5))]) (st' := []) (h' := Hp S) 1 (fun Z => if_pos hc) ?_
    refine wp_st (pc' := 77) (L' := [some (.ref 65), j1, some (.int a2), some (.int a3), some (.int a4), some (.int (nI a5))]) (st' := [.int a3]) (h' := Hp S) 1 (fun Z => rfl) ?_
    by_cases hc : a3 = 0
    · rw [if_pos hc] at hw
      refine wp_st (pc' := 80) (L' := [some (.ref 65), j1, some (.int a2), some (.int a3), some (.int a4), some (.int (nI a5))]) (st' := []) (h' := Hp S) 1 (fun Z => if_pos hc) ?_
      refine wp_st (pc' := 128) (L' := [some (.ref 65), j1, some (.int a2), some (.int a3), some (.int a4), some (.int (nI a5))]) (st' := [.int a4]) (h' := Hp S) 2 (fun Z => rfl) ?_
      exact wp_ret (fun Z => rfl) ⟨_, _, rfl, rfl, hw⟩
    · rw [if_neg hc] at hw
      refine wp_st (pc' := 85) (L' := [some (.ref 65), j1, some (.int a2), some (.int a3), some (.int a4), some (.int (nI a5))]) (st' := []) (h' := Hp S) 1 (fun Z => if_neg hc) ?_
      refine wp_st (pc' := 87) (L' := [some (.ref 65), j1, some (.int a2), some (.int a3), some (.int a4), some (.int (nI a5))]) (st' := [.int 1, .int a3]) (h' := Hp S) 2 (fun Z => rfl) ?_
      by_cases hc : a3 = 1
      · rw [if_pos hc] at hw
        refine wp_st (pc' := 90) (L' := [some (.ref 65), j1, some (.int a2), some (.int a3), some (.int a4), some (.int (nI a5))]) (st' := []) (h' := Hp S) 1 (fun Z => if_pos hc) ?_
        refine wp_st (pc' := 96) (L' := [some (.ref 65), j1, some (.int a2), some (.int a3), some (.int a4), some (.int (nI a5))]) (st' := [.ref 65, .int 8, .int 79, .ref 65]) (h' := Hp S) 4 (fun Z => rfl) ?_
        refine wp_st (pc' := 99) (L' := [some (.ref 65), j1, some (.int a2), some (.int a3), some (.int a4), some (.int (nI a5))]) (st' := [.int (S 65 3), .int 8, .int 79, .ref 65]) (h' := Hp S) 1 (fun Z => gfI (E := E) sh65 rfl _) ?_
        refine wp_call (pc' := 102) (rest := []) (fun Z => rfl) (isO_of sh65) hw ?_
        rintro o h1 ⟨x1, S2, rfl, rfl, hw⟩
        refine ⟨_, rfl, ?_⟩
        show wp E (d + 1) m_m_years 102 [some (.ref 65), j1, some (.int a2), some (.int a3), some (.int a4), some (.int (nI a5))] [.int x1] (Hp S2) (QI Q)
        refine wp_st (pc' := 107) (L' := [some (.ref 65), j1, some (.int a2), some (.int a3), some (.int a4), some (.int (nI a5))]) (st' := [.ref 65, .int 8, .int 0, .ref 65, .int x1]) (h' := Hp S2) 4 (fun Z => rfl) ?_
        refine wp_st (pc' := 110) (L' := [some (.ref 65), j1, some (.int a2), some (.int a3), some (.int a4), some (.int (nI a5))]) (st' := [.int (S2 65 3), .int 8, .int 0, .ref 65, .int x1]) (h' := Hp S2) 1 (fun Z => gfI (E := E) sh65 rfl _) ?_
        refine wp_call (pc' := 113) (rest := [.int x1]) (fun Z => rfl) (isO_of sh65) hw ?_
        rintro o h1 ⟨x3, S4, rfl, rfl, hw⟩
        refine ⟨_, rfl, ?_⟩
        show wp E (d + 1) m_m_years 113 [some (.ref 65), j1, some (.int a2), some (.int a3), some (.int a4), some (.int (nI a5))] [.int x3, .int x1] (Hp S4) (QI Q)
        refine wp_st (pc' := 128) (L' := [some (.ref 65), j1, some (.int a2), some (.int a3), some (.int a4), some (.int (nI a5))]) (st' := [.int (x1 - x3)]) (h' := Hp S4) 2 (fun Z => rfl) ?_
        exact wp_ret (fun Z => rfl) ⟨_, _, rfl, rfl, hw⟩
      · rw [if_neg hc] at hw
        refine wp_st (pc' := 117) (L' := [some (.ref 65), j1, some (.int a2), some (.int a3), some (.int a4), some (.int (nI a5))]) (st' := []) (h' := Hp S) 1 (fun Z => if_neg hc) ?_
        refine wp_st (pc' := 122) (L' := [some (.ref 65), j1, some (.int a2), some (.int a3), some (.int a4), some (.int (nI a5))]) (st' := [.ref 65, .int 1, .int 79, .ref 65]) (h' := Hp S) 4 (fun Z => rfl) ?_
        refine wp_st (pc' := 125) (L' := [some (.ref 65), j1, some (.int a2), some (.int a3), some (.int a4), some (.int (nI a5))]) (st' := [.int (S 65 3), .int 1, .int 79, .ref 65]) (h' := Hp S) 1 (fun Z => gfI (E := E) sh65 rfl _) ?_
        refine wp_call (pc' := 128) (rest := []) (fun Z => rfl) (isO_of sh65) hw ?_
        rintro o h1 ⟨x5, S6, rfl, rfl, hw⟩
        refine ⟨_, rfl, ?_⟩
        show wp E (d + 1) m_m_years 128 [some (.ref 65), j1, some (.int a2), some (.int a3), some (.int a4), some (.int (nI a5))] [.int x5] (Hp S6) (QI Q)
        exact wp_ret (fun Z => rfl) ⟨_, _, rfl, rfl, hw⟩
  · rw [if_neg hc] at hw
    refine wp_st (pc' := 47) (L' := [some (.ref 65), j1, some (.int a2), some (.int a3), some (.int a4), some (.int (nI a5))]) (st' := []) (h' := Hp S) 1 (fun Z => if_neg hc) ?_
    refine wp_st (pc' := 48) (L' := [some (.ref 65), j1, some (.int a2), some (.int a3), some (.int a4), some (.int (nI a5))]) (st' := [.ref 65]) (h' := Hp S) 1 (fun Z => rfl) ?_
    refine wp_call (pc' := 51) (rest := []) (fun Z => rfl) (isO_of sh65) hw ?_
    rintro o h1 ⟨S8, rfl, rfl, hw⟩
    refine ⟨_, rfl, ?_⟩
    show wp E (d + 1) m_m_years 51 [some (.ref 65), j1, some (.int a2), some (.int a3), some (.int a4), some (.int (nI a5))] [] (Hp S8) (QI Q)
    refine wp_st (pc' := 52) (L' := [some (.ref 65), j1, some (.int a2), some (.int a3), some (.int a4), some (.int (nI a5))]) (st' := [.ref 65]) (h' := Hp S8) 1 (fun Z => rfl) ?_
    refine wp_call (pc' := 55) (rest := []) (fun Z => rfl) (isO_of sh65) hw ?_
    rintro o h1 ⟨S10, rfl, rfl, hw⟩
    refine ⟨_, rfl, ?_⟩
    show wp E (d + 1) m_m_years 55 [some (.ref 65), j1, some (.int a2), some (.int a3), some (.int a4), some (.int (nI a5))] [] (Hp S10) (QI Q)
    refine wp_st (pc' := 58) (L' := [some (.ref 65), j1, some (.int a2), some (.int a3), some (.int a4), some (.int (nI a5))]) (st' := [.int 79, .ref 65]) (h' := Hp S10) 2 (fun Z => rfl) ?_
    refine wp_call (pc' := 61) (rest := []) (fun Z => rfl) (isO_of sh65) hw ?_
    rintro o h1 ⟨S12, rfl, rfl, hw⟩
    refine ⟨_, rfl, ?_⟩
    show wp E (d + 1) m_m_years 61 [some (.ref 65), j1, some (.int a2), some (.int a3), some (.int a4), some (.int (nI a5))] [] (Hp S12) (QI Q)
    refine wp_st (pc' := 64) (L' := [some (.ref 65), j1, some (.int a2), some (.int a3), some (.int a4), some (.int (nI a5))]) (st' := [.ref 65, .int a4]) (h' := Hp S12) 2 (fun Z => rfl) ?_
    refine wp_st (pc' := 67) (L' := [some (.ref 65), j1, some (.int a2), some (.int a3), some (.int a4), some (.int (nI a5))]) (st' := [.int (S12 65 46), .int a4]) (h' := Hp S12) 1 (fun Z => gfI (E := E) sh65 rfl _) ?_
    refine wp_st (pc' := 70) (L' := [some (.ref 65), j1, some (.int a2), some (.int a3), some (.int (a4 + (S12 65 46))), some (.int (nI a5))]) (st' := []) (h' := Hp S12) 2 (fun Z => rfl) ?_
    refine wp_st (pc' := 73) (L' := [some (.ref 65), j1, some (.int a2), some (.int a3), some (.int (a4 + (S12 65 46))), some (.int (nI (a5 + 1)))]) (st' := []) (h' := Hp S12) 1 (fun Z => by rw [← nI_add a5 1]; rfl) ?_
    exact wp_st 1 (fun Z => rfl) (show wp E (d + 1) m_m_years 41 [some (.ref 65), j1, some (.int a2), some (.int a3), some (.int (a4 + (S12 65 46))), some (.int (nI (a5 + 1)))] [] (Hp S12) (QI Q) from (hw j1))
set_option maxRecDepth 4000 in
theorem w_m_restore {E : zX} {d : Nat} {S : St}  {Q : Int32 → St → Prop} (hd : 1 ≤ d) 
    (hw : ∀ S1, S1 = up S 65 0 0 →
    if (S1 65 58) = 0 then (
      Q (0 : Int32) S1)
    else (
      ∀ S2, S2 = up S1 65 42 (S1 65 59) →
      ∀ S3, S3 = up S2 65 53 (S2 65 60) →
      k_m_restore_32 E d S3 0 Q)) :
    k_m_restore E d S Q := by
  obtain ⟨d, rfl⟩ := Nat.exists_eq_add_of_le' hd
  show wp E (d + 1) m_m_restore 0 [some (.ref 65), none] [] (Hp S) (QI Q)
  refine wp_st (pc' := 2) (L' := [some (.ref 65), none]) (st' := [.int 0, .ref 65]) (h' := Hp S) 2 (fun Z => rfl) ?_
  have hw := hw _ rfl
  refine wp_st (pc' := 5) (L' := [some (.ref 65), none]) (st' := []) (h' := Hp (up S 65 0 0)) 1 (fun Z => pfI sh65 rfl (Nat.le_of_ble_eq_true rfl) rfl _) ?_
  generalize up S 65 0 0 = S1 at hw ⊢
  refine wp_st (pc' := 6) (L' := [some (.ref 65), none]) (st' := [.ref 65]) (h' := Hp S1) 1 (fun Z => rfl) ?_
  refine wp_st (pc' := 9) (L' := [some (.ref 65), none]) (st' := [.int (S1 65 58)]) (h' := Hp S1) 1 (fun Z => gfI (E := E) sh65 rfl _) ?_
  by_cases hc : (S1 65 58) = 0
  · rw [if_pos hc] at hw
    refine wp_st (pc' := 12) (L' := [some (.ref 65), none]) (st' := []) (h' := Hp S1) 1 (fun Z => if_pos hc) ?_
    refine wp_st (pc' := 13) (L' := [some (.ref 65), none]) (st' := [.int 0]) (h' := Hp S1) 1 (fun Z => rfl) ?_
    exact wp_ret (fun Z => rfl) ⟨_, _, rfl, rfl, hw⟩
  · rw [if_neg hc] at hw
    refine wp_st (pc' := 14) (L' := [some (.ref 65), none]) (st' := []) (h' := Hp S1) 1 (fun Z => if_neg hc) ?_
    refine wp_st (pc' := 16) (L' := [some (.ref 65), none]) (st' := [.ref 65, .ref 65]) (h' := Hp S1) 2 (fun Z => rfl) ?_
    refine wp_st (pc' := 19) (L' := [some (.ref 65), none]) (st' := [.int (S1 65 59), .ref 65]) (h' := Hp S1) 1 (fun Z => gfI (E := E) sh65 rfl _) ?_
    have hw := hw _ rfl
    refine wp_st (pc' := 22) (L' := [some (.ref 65), none]) (st' := []) (h' := Hp (up S1 65 42 (S1 65 59))) 1 (fun Z => pfI sh65 rfl (Nat.le_of_ble_eq_true rfl) rfl _) ?_
    generalize up S1 65 42 (S1 65 59) = S2 at hw ⊢
    refine wp_st (pc' := 24) (L' := [some (.ref 65), none]) (st' := [.ref 65, .ref 65]) (h' := Hp S2) 2 (fun Z => rfl) ?_
    refine wp_st (pc' := 27) (L' := [some (.ref 65), none]) (st' := [.int (S2 65 60), .ref 65]) (h' := Hp S2) 1 (fun Z => gfI (E := E) sh65 rfl _) ?_
    have hw := hw _ rfl
    refine wp_st (pc' := 30) (L' := [some (.ref 65), none]) (st' := []) (h' := Hp (up S2 65 53 (S2 65 60))) 1 (fun Z => pfI sh65 rfl (Nat.le_of_ble_eq_true rfl) rfl _) ?_
    generalize up S2 65 53 (S2 65 60) = S3 at hw ⊢
    exact wp_st 2 (fun Z => rfl) (show wp E (d + 1) m_m_restore 32 [some (.ref 65), some (.int 0)] [] (Hp S3) (QI Q) from hw)
set_option maxRecDepth 4000 in
theorem w_m_restore_32 {E : zX} {d : Nat} {S : St} {a1 : Nat} {Q : Int32 → St → Prop} (hd : 1 ≤ d) 
    (hw : if nI 79 ≤ (nI a1) then (
      k_m_copies E (d - 1) S 89 78 (fun S2 =>
      k_m_copies E (d - 1) S2 90 85 (fun S4 =>
      Q (1 : Int32) S4)))
    else (
      a1 < 79 ∧
      a1 < 158 ∧
      ∀ S5, S5 = up S 77 a1 (S 88 a1) →
      k_m_restore_32 E d S5 (a1 + 1) Q)) :
    k_m_restore_32 E d S a1 Q := by
  obtain ⟨d, rfl⟩ := Nat.exists_eq_add_of_le' hd
  show wp E (d + 1) m_m_restore 32 [some (.ref 65), some (.int (nI a1))] [] (Hp S) (QI Q)
  refine wp_st (pc' := 35) (L' := [some (.ref 65), some (.int (nI a1))]) (st' := [.int 79, .int (nI a1)]) (h' := Hp S) 2 (fun Z => rfl) ?_
  by_cases hc : nI 79 ≤ (nI a1)
  · rw [if_pos hc] at hw
    refine wp_st (pc' := 56) (L' := [some (.ref 65), some (.int (nI a1))]) (st' := []) (h' := Hp S) 1 (fun Z => if_pos hc) ?_
    refine wp_st (pc' := 58) (L' := [some (.ref 65), some (.int (nI a1))]) (st' := [.ref 65, .ref 65]) (h' := Hp S) 2 (fun Z => rfl) ?_
    refine wp_st (pc' := 61) (L' := [some (.ref 65), some (.int (nI a1))]) (st' := [.ref 89, .ref 65]) (h' := Hp S) 1 (fun Z => gfR (E := E) sh65 rfl _) ?_
    refine wp_st (pc' := 62) (L' := [some (.ref 65), some (.int (nI a1))]) (st' := [.ref 65, .ref 89, .ref 65]) (h' := Hp S) 1 (fun Z => rfl) ?_
    refine wp_st (pc' := 65) (L' := [some (.ref 65), some (.int (nI a1))]) (st' := [.ref 78, .ref 89, .ref 65]) (h' := Hp S) 1 (fun Z => gfR (E := E) sh65 rfl _) ?_
    refine wp_call (pc' := 68) (rest := []) (fun Z => rfl) (isO_of sh65) hw ?_
    rintro o h1 ⟨S2, rfl, rfl, hw⟩
    refine ⟨_, rfl, ?_⟩
    show wp E (d + 1) m_m_restore 68 [some (.ref 65), some (.int (nI a1))] [] (Hp S2) (QI Q)
    refine wp_st (pc' := 70) (L' := [some (.ref 65), some (.int (nI a1))]) (st' := [.ref 65, .ref 65]) (h' := Hp S2) 2 (fun Z => rfl) ?_
    refine wp_st (pc' := 73) (L' := [some (.ref 65), some (.int (nI a1))]) (st' := [.ref 90, .ref 65]) (h' := Hp S2) 1 (fun Z => gfR (E := E) sh65 rfl _) ?_
    refine wp_st (pc' := 74) (L' := [some (.ref 65), some (.int (nI a1))]) (st' := [.ref 65, .ref 90, .ref 65]) (h' := Hp S2) 1 (fun Z => rfl) ?_
    refine wp_st (pc' := 77) (L' := [some (.ref 65), some (.int (nI a1))]) (st' := [.ref 85, .ref 90, .ref 65]) (h' := Hp S2) 1 (fun Z => gfR (E := E) sh65 rfl _) ?_
    refine wp_call (pc' := 80) (rest := []) (fun Z => rfl) (isO_of sh65) hw ?_
    rintro o h1 ⟨S4, rfl, rfl, hw⟩
    refine ⟨_, rfl, ?_⟩
    show wp E (d + 1) m_m_restore 80 [some (.ref 65), some (.int (nI a1))] [] (Hp S4) (QI Q)
    refine wp_st (pc' := 81) (L' := [some (.ref 65), some (.int (nI a1))]) (st' := [.int 1]) (h' := Hp S4) 1 (fun Z => rfl) ?_
    exact wp_ret (fun Z => rfl) ⟨_, _, rfl, rfl, hw⟩
  · rw [if_neg hc] at hw
    refine wp_st (pc' := 38) (L' := [some (.ref 65), some (.int (nI a1))]) (st' := []) (h' := Hp S) 1 (fun Z => if_neg hc) ?_
    refine wp_st (pc' := 39) (L' := [some (.ref 65), some (.int (nI a1))]) (st' := [.ref 65]) (h' := Hp S) 1 (fun Z => rfl) ?_
    refine wp_st (pc' := 42) (L' := [some (.ref 65), some (.int (nI a1))]) (st' := [.ref 77]) (h' := Hp S) 1 (fun Z => gfR (E := E) sh65 rfl _) ?_
    refine wp_st (pc' := 44) (L' := [some (.ref 65), some (.int (nI a1))]) (st' := [.ref 65, .int (nI a1), .ref 77]) (h' := Hp S) 2 (fun Z => rfl) ?_
    refine wp_st (pc' := 47) (L' := [some (.ref 65), some (.int (nI a1))]) (st' := [.ref 88, .int (nI a1), .ref 77]) (h' := Hp S) 1 (fun Z => gfR (E := E) sh65 rfl _) ?_
    refine wp_st (pc' := 48) (L' := [some (.ref 65), some (.int (nI a1))]) (st' := [.int (nI a1), .ref 88, .int (nI a1), .ref 77]) (h' := Hp S) 1 (fun Z => rfl) ?_
    obtain ⟨hi, hw⟩ := hw
    refine wp_st (pc' := 49) (L' := [some (.ref 65), some (.int (nI a1))]) (st' := [.int (S 88 a1), .int (nI a1), .ref 77]) (h' := Hp S) 1 (fun Z => ldN (E := E) sh88 (by decide) hi [.int (nI a1), .ref 77] (fun st => Z (d + 1) m_m_restore 49 [some (.ref 65), some (.int (nI a1))] st (Hp S))) ?_
    obtain ⟨hi, hw⟩ := hw
    have hw := hw _ rfl
    refine wp_st (pc' := 50) (L' := [some (.ref 65), some (.int (nI a1))]) (st' := []) (h' := Hp (up S 77 a1 (S 88 a1))) 1 (fun Z => stN sh77 (by decide) hi _ _) ?_
    generalize up S 77 a1 (S 88 a1) = S5 at hw ⊢
    refine wp_st (pc' := 53) (L' := [some (.ref 65), some (.int (nI (a1 + 1)))]) (st' := []) (h' := Hp S5) 1 (fun Z => by rw [← nI_add a1 1]; rfl) ?_
    exact wp_st 1 (fun Z => rfl) (show wp E (d + 1) m_m_restore 32 [some (.ref 65), some (.int (nI (a1 + 1)))] [] (Hp S5) (QI Q) from hw)
