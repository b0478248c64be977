set_option maxRecDepth 4000 in
theorem w_Chance_whiteByBoys {E : zX} {d : Nat} {S : St} {a1 : Nat} {a2 : Nat} {a3 : Int32} {Q : Int32 → St → Prop} (hd : 1 ≤ d) 
    (hw : k_Chance_whiteByBoys_6 E d S a1 a2 a3 0 0 Q) :
    k_Chance_whiteByBoys E d S (nI a1) (nI a2) a3 Q := by
  obtain ⟨d, rfl⟩ := Nat.exists_eq_add_of_le' hd
  show wp E (d + 1) m_Chance_whiteByBoys 0 [some (.ref 60), some (.int (nI a1)), some (.int (nI a2)), some (.int a3), none, none, none, none, none, none] [] (Hp S) (QI Q)
  exact wp_st 4 (fun Z => rfl) (show wp E (d + 1) m_Chance_whiteByBoys 6 [some (.ref 60), some (.int (nI a1)), some (.int (nI a2)), some (.int a3), some (.int 0), some (.int 0), none, none, none, none] [] (Hp S) (QI Q) from (hw none none none none))
set_option maxRecDepth 4000 in
theorem w_Chance_whiteByBoys_6 {E : zX} {d : Nat} {S : St} {a1 : Nat} {a2 : Nat} {a3 : Int32} {a4 : Int32} {a5 : Nat} {Q : Int32 → St → Prop} (hd : 1 ≤ d) 
    (hw : if (bt a2) ≤ (nI a5) then (
      Q a4 S)
    else (
      k_Scene_copyFrom E (d - 1) S 61 25 (fun S2 =>
      k_Chance_whiteByBoys_31 E d S2 a1 a2 a3 a4 a5 1 0 Q))) :
    k_Chance_whiteByBoys_6 E d S a1 a2 a3 a4 a5 Q := by
  obtain ⟨d, rfl⟩ := Nat.exists_eq_add_of_le' hd
  intro j6 j7 j8 j9
  show wp E (d + 1) m_Chance_whiteByBoys 6 [some (.ref 60), some (.int (nI a1)), some (.int (nI a2)), some (.int a3), some (.int a4), some (.int (nI a5)), j6, j7, j8, j9] [] (Hp S) (QI Q)
  refine wp_st (pc' := 11) (L' := [some (.ref 60), some (.int (nI a1)), some (.int (nI a2)), some (.int a3), some (.int a4), some (.int (nI a5)), j6, j7, j8, j9]) (st' := [.int (bt a2), .int (nI a5)]) (h' := Hp S) 4 (fun Z => rfl) ?_
  by_cases hc : (bt a2) ≤ (nI a5)
  · rw [if_pos hc] at hw
    refine wp_st (pc' := 165) (L' := [some (.ref 60), some (.int (nI a1)), some (.int (nI a2)), some (.int a3), some (.int a4), some (.int (nI a5)), j6, j7, j8, j9]) (st' := []) (h' := Hp S) 1 (fun Z => if_pos hc) ?_
    refine wp_st (pc' := 167) (L' := [some (.ref 60), some (.int (nI a1)), some (.int (nI a2)), some (.int a3), some (.int a4), some (.int (nI a5)), j6, j7, j8, j9]) (st' := [.int a4]) (h' := Hp S) 1 (fun Z => rfl) ?_
    exact wp_ret (fun Z => rfl) ⟨_, _, rfl, rfl, hw⟩
  · rw [if_neg hc] at hw
    refine wp_st (pc' := 14) (L' := [some (.ref 60), some (.int (nI a1)), some (.int (nI a2)), some (.int a3), some (.int a4), some (.int (nI a5)), j6, j7, j8, j9]) (st' := []) (h' := Hp S) 1 (fun Z => if_neg hc) ?_
    refine wp_st (pc' := 18) (L' := [some (.ref 60), some (.int (nI a1)), some (.int (nI a2)), some (.int a3), some (.int a4), some (.int (nI a5)), some (.int 1), j7, j8, j9]) (st' := [.ref 60]) (h' := Hp S) 3 (fun Z => rfl) ?_
    refine wp_st (pc' := 21) (L' := [some (.ref 60), some (.int (nI a1)), some (.int (nI a2)), some (.int a3), some (.int a4), some (.int (nI a5)), some (.int 1), j7, j8, j9]) (st' := [.ref 61]) (h' := Hp S) 1 (fun Z => gfR (E := E) sh60 rfl _) ?_
    refine wp_st (pc' := 22) (L' := [some (.ref 60), some (.int (nI a1)), some (.int (nI a2)), some (.int a3), some (.int a4), some (.int (nI a5)), some (.int 1), j7, j8, j9]) (st' := [.ref 60, .ref 61]) (h' := Hp S) 1 (fun Z => rfl) ?_
    refine wp_st (pc' := 25) (L' := [some (.ref 60), some (.int (nI a1)), some (.int (nI a2)), some (.int a3), some (.int a4), some (.int (nI a5)), some (.int 1), j7, j8, j9]) (st' := [.ref 25, .ref 61]) (h' := Hp S) 1 (fun Z => gfR (E := E) sh60 rfl _) ?_
    refine wp_call (pc' := 28) (rest := []) (fun Z => rfl) (isO_of sh61) hw ?_
    rintro o h1 ⟨S2, rfl, rfl, hw⟩
    refine ⟨_, rfl, ?_⟩
    show wp E (d + 1) m_Chance_whiteByBoys 28 [some (.ref 60), some (.int (nI a1)), some (.int (nI a2)), some (.int a3), some (.int a4), some (.int (nI a5)), some (.int 1), j7, j8, j9] [] (Hp S2) (QI Q)
    exact wp_st 2 (fun Z => rfl) (show wp E (d + 1) m_Chance_whiteByBoys 31 [some (.ref 60), some (.int (nI a1)), some (.int (nI a2)), some (.int a3), some (.int a4), some (.int (nI a5)), some (.int 1), some (.int 0), j8, j9] [] (Hp S2) (QI Q) from (hw j8 j9))
set_option maxRecDepth 4000 in
theorem w_Chance_whiteByBoys_31 {E : zX} {d : Nat} {S : St} {a1 : Nat} {a2 : Nat} {a3 : Int32} {a4 : Int32} {a5 : Nat} {a6 : Int32} {a7 : Nat} {Q : Int32 → St → Prop} (hd : 1 ≤ d) 
    (hw : if (nI a2) ≤ (nI a7) then (
      k_Chance_whiteByBoys_141 E d S a1 a2 a3 a4 a5 a6 Q)
    else (
      if a6 ≤ 0 then (
        k_Chance_whiteByBoys_141 E d S a1 a2 a3 a4 a5 a6 Q)
      else (
        if ((nI a5) &&& (bt a7)) = 0 then (
          k_Chance_whiteByBoys_74 E d S a1 a2 a3 a4 a5 a7 0 a6 ((10 : Int32) - a3) Q)
        else (
          k_Chance_whiteByBoys_74 E d S a1 a2 a3 a4 a5 a7 1 a6 a3 Q)))) :
    k_Chance_whiteByBoys_31 E d S a1 a2 a3 a4 a5 a6 a7 Q := by
  obtain ⟨d, rfl⟩ := Nat.exists_eq_add_of_le' hd
  intro j8 j9
  show wp E (d + 1) m_Chance_whiteByBoys 31 [some (.ref 60), some (.int (nI a1)), some (.int (nI a2)), some (.int a3), some (.int a4), some (.int (nI a5)), some (.int a6), some (.int (nI a7)), j8, j9] [] (Hp S) (QI Q)
  refine wp_st (pc' := 34) (L' := [some (.ref 60), some (.int (nI a1)), some (.int (nI a2)), some (.int a3), some (.int a4), some (.int (nI a5)), some (.int a6), some (.int (nI a7)), j8, j9]) (st' := [.int (nI a2), .int (nI a7)]) (h' := Hp S) 2 (fun Z => rfl) ?_
  by_cases hc : (nI a2) ≤ (nI a7)
  · rw [if_pos hc] at hw
    refine wp_st (pc' := 141) (L' := [some (.ref 60), some (.int (nI a1)), some (.int (nI a2)), some (.int a3), some (.int a4), some (.int (nI a5)), some (.int a6), some (.int (nI a7)), j8, j9]) (st' := []) (h' := Hp S) 1 (fun Z => if_pos hc) ?_
    exact (show wp E (d + 1) m_Chance_whiteByBoys 141 [some (.ref 60), some (.int (nI a1)), some (.int (nI a2)), some (.int a3), some (.int a4), some (.int (nI a5)), some (.int a6), some (.int (nI a7)), j8, j9] [] (Hp S) (QI Q) from (hw (some (.int (nI a7))) j8 j9))
  · rw [if_neg hc] at hw
    refine wp_st (pc' := 37) (L' := [some (.ref 60), some (.int (nI a1)), some (.int (nI a2)), some (.int a3), some (.int a4), some (.int (nI a5)), some (.int a6), some (.int (nI a7)), j8, j9]) (st' := []) (h' := Hp S) 1 (fun Z => if_neg hc) ?_
    refine wp_st (pc' := 39) (L' := [some (.ref 60), some (.int (nI a1)), some (.int (nI a2)), some (.int a3), some (.int a4), some (.int (nI a5)), some (.int a6), some (.int (nI a7)), j8, j9]) (st' := [.int a6]) (h' := Hp S) 1 (fun Z => rfl) ?_
    by_cases hc : a6 ≤ 0
    · rw [if_pos hc] at hw
      refine wp_st (pc' := 141) (L' := [some (.ref 60), some (.int (nI a1)), some (.int (nI a2)), some (.int a3), some (.int a4), some (.int (nI a5)), some (.int a6), some (.int (nI a7)), j8, j9]) (st' := []) (h' := Hp S) 1 (fun Z => if_pos hc) ?_
      exact (show wp E (d + 1) m_Chance_whiteByBoys 141 [some (.ref 60), some (.int (nI a1)), some (.int (nI a2)), some (.int a3), some (.int a4), some (.int (nI a5)), some (.int a6), some (.int (nI a7)), j8, j9] [] (Hp S) (QI Q) from (hw (some (.int (nI a7))) j8 j9))
    · rw [if_neg hc] at hw
      refine wp_st (pc' := 42) (L' := [some (.ref 60), some (.int (nI a1)), some (.int (nI a2)), some (.int a3), some (.int a4), some (.int (nI a5)), some (.int a6), some (.int (nI a7)), j8, j9]) (st' := []) (h' := Hp S) 1 (fun Z => if_neg hc) ?_
      refine wp_st (pc' := 49) (L' := [some (.ref 60), some (.int (nI a1)), some (.int (nI a2)), some (.int a3), some (.int a4), some (.int (nI a5)), some (.int a6), some (.int (nI a7)), j8, j9]) (st' := [.int ((nI a5) &&& (bt a7))]) (h' := Hp S) 5 (fun Z => rfl) ?_
      by_cases hc : ((nI a5) &&& (bt a7)) = 0
      · rw [if_pos hc] at hw
        refine wp_st (pc' := 56) (L' := [some (.ref 60), some (.int (nI a1)), some (.int (nI a2)), some (.int a3), some (.int a4), some (.int (nI a5)), some (.int a6), some (.int (nI a7)), j8, j9]) (st' := []) (h' := Hp S) 1 (fun Z => if_pos hc) ?_
        refine wp_st (pc' := 63) (L' := [some (.ref 60), some (.int (nI a1)), some (.int (nI a2)), some (.int a3), some (.int a4), some (.int (nI a5)), some (.int a6), some (.int (nI a7)), some (.int 0), j9]) (st' := [.int 0, .int a6]) (h' := Hp S) 4 (fun Z => rfl) ?_
        refine wp_st (pc' := 70) (L' := [some (.ref 60), some (.int (nI a1)), some (.int (nI a2)), some (.int a3), some (.int a4), some (.int (nI a5)), some (.int a6), some (.int (nI a7)), some (.int 0), j9]) (st' := [.int a6]) (h' := Hp S) 1 (fun Z => rfl) ?_
        exact wp_st 3 (fun Z => rfl) (show wp E (d + 1) m_Chance_whiteByBoys 74 [some (.ref 60), some (.int (nI a1)), some (.int (nI a2)), some (.int a3), some (.int a4), some (.int (nI a5)), some (.int a6), some (.int (nI a7)), some (.int 0), j9] [.int ((10 : Int32) - a3), .int a6] (Hp S) (QI Q) from (hw (some (.int a6)) j9))
      · rw [if_neg hc] at hw
        refine wp_st (pc' := 52) (L' := [some (.ref 60), some (.int (nI a1)), some (.int (nI a2)), some (.int a3), some (.int a4), some (.int (nI a5)), some (.int a6), some (.int (nI a7)), j8, j9]) (st' := []) (h' := Hp S) 1 (fun Z => if_neg hc) ?_
        refine wp_st (pc' := 63) (L' := [some (.ref 60), some (.int (nI a1)), some (.int (nI a2)), some (.int a3), some (.int a4), some (.int (nI a5)), some (.int a6), some (.int (nI a7)), some (.int 1), j9]) (st' := [.int 1, .int a6]) (h' := Hp S) 5 (fun Z => rfl) ?_
        refine wp_st (pc' := 66) (L' := [some (.ref 60), some (.int (nI a1)), some (.int (nI a2)), some (.int a3), some (.int a4), some (.int (nI a5)), some (.int a6), some (.int (nI a7)), some (.int 1), j9]) (st' := [.int a6]) (h' := Hp S) 1 (fun Z => rfl) ?_
        exact wp_st 2 (fun Z => rfl) (show wp E (d + 1) m_Chance_whiteByBoys 74 [some (.ref 60), some (.int (nI a1)), some (.int (nI a2)), some (.int a3), some (.int a4), some (.int (nI a5)), some (.int a6), some (.int (nI a7)), some (.int 1), j9] [.int a3, .int a6] (Hp S) (QI Q) from (hw (some (.int a6)) j9))
set_option maxRecDepth 4000 in
theorem w_Chance_whiteByBoys_74 {E : zX} {d : Nat} {S : St} {a1 : Nat} {a2 : Nat} {a3 : Int32} {a4 : Int32} {a5 : Nat} {a7 : Nat} {a8 : Int32} {s0 : Int32} {s1 : Int32} {Q : Int32 → St → Prop} (hd : 1 ≤ d) 
    (hw : k_Scene_guards E (d - 1) S 61 (fun x1 S2 =>
    k_Downs_fullest E (d - 1) S2 61 x1 (fun x3 S4 =>
    if a8 = 0 then (
      k_Downs_passDay E (d - 1) S4 61 (fun S6 =>
      k_Chance_whiteByBoys_31 E d S6 a1 a2 a3 a4 a5 (s0 * s1) (a7 + 1) Q))
    else (
      if x3 = (-1) then (
        k_Downs_passDay E (d - 1) S4 61 (fun S8 =>
        k_Chance_whiteByBoys_31 E d S8 a1 a2 a3 a4 a5 (s0 * s1) (a7 + 1) Q))
      else (
        k_Downs_burst E (d - 1) S4 61 ((1 : Int32) <<< (x3 &&& 31)) (fun x9 S10 =>
        k_Downs_passDay E (d - 1) S10 61 (fun S12 =>
        k_Chance_whiteByBoys_31 E d S12 a1 a2 a3 a4 a5 (s0 * s1) (a7 + 1) Q))))))) :
    k_Chance_whiteByBoys_74 E d S a1 a2 a3 a4 a5 a7 a8 s0 s1 Q := by
  obtain ⟨d, rfl⟩ := Nat.exists_eq_add_of_le' hd
  intro j6 j9
  show wp E (d + 1) m_Chance_whiteByBoys 74 [some (.ref 60), some (.int (nI a1)), some (.int (nI a2)), some (.int a3), some (.int a4), some (.int (nI a5)), j6, some (.int (nI a7)), some (.int a8), j9] [.int s1, .int s0] (Hp S) (QI Q)
  refine wp_st (pc' := 78) (L' := [some (.ref 60), some (.int (nI a1)), some (.int (nI a2)), some (.int a3), some (.int a4), some (.int (nI a5)), some (.int (s0 * s1)), some (.int (nI a7)), some (.int a8), j9]) (st' := [.ref 60]) (h' := Hp S) 3 (fun Z => rfl) ?_
  refine wp_st (pc' := 81) (L' := [some (.ref 60), some (.int (nI a1)), some (.int (nI a2)), some (.int a3), some (.int a4), some (.int (nI a5)), some (.int (s0 * s1)), some (.int (nI a7)), some (.int a8), j9]) (st' := [.ref 38]) (h' := Hp S) 1 (fun Z => gfR (E := E) sh60 rfl _) ?_
  refine wp_st (pc' := 82) (L' := [some (.ref 60), some (.int (nI a1)), some (.int (nI a2)), some (.int a3), some (.int a4), some (.int (nI a5)), some (.int (s0 * s1)), some (.int (nI a7)), some (.int a8), j9]) (st' := [.ref 60, .ref 38]) (h' := Hp S) 1 (fun Z => rfl) ?_
  refine wp_st (pc' := 85) (L' := [some (.ref 60), some (.int (nI a1)), some (.int (nI a2)), some (.int a3), some (.int a4), some (.int (nI a5)), some (.int (s0 * s1)), some (.int (nI a7)), some (.int a8), j9]) (st' := [.ref 61, .ref 38]) (h' := Hp S) 1 (fun Z => gfR (E := E) sh60 rfl _) ?_
  refine wp_st (pc' := 86) (L' := [some (.ref 60), some (.int (nI a1)), some (.int (nI a2)), some (.int a3), some (.int a4), some (.int (nI a5)), some (.int (s0 * s1)), some (.int (nI a7)), some (.int a8), j9]) (st' := [.ref 60, .ref 61, .ref 38]) (h' := Hp S) 1 (fun Z => rfl) ?_
  refine wp_st (pc' := 89) (L' := [some (.ref 60), some (.int (nI a1)), some (.int (nI a2)), some (.int a3), some (.int a4), some (.int (nI a5)), some (.int (s0 * s1)), some (.int (nI a7)), some (.int a8), j9]) (st' := [.ref 61, .ref 61, .ref 38]) (h' := Hp S) 1 (fun Z => gfR (E := E) sh60 rfl _) ?_
  refine wp_call (pc' := 92) (rest := [.ref 61, .ref 38]) (fun Z => rfl) (isO_of sh61) hw ?_
  rintro o h1 ⟨x1, S2, rfl, rfl, hw⟩
  refine ⟨_, rfl, ?_⟩
  show wp E (d + 1) m_Chance_whiteByBoys 92 [some (.ref 60), some (.int (nI a1)), some (.int (nI a2)), some (.int a3), some (.int a4), some (.int (nI a5)), some (.int (s0 * s1)), some (.int (nI a7)), some (.int a8), j9] [.int x1, .ref 61, .ref 38] (Hp S2) (QI Q)
  refine wp_call (pc' := 95) (rest := []) (fun Z => rfl) (isO_of sh38) hw ?_
  rintro o h1 ⟨x3, S4, rfl, rfl, hw⟩
  refine ⟨_, rfl, ?_⟩
  show wp E (d + 1) m_Chance_whiteByBoys 95 [some (.ref 60), some (.int (nI a1)), some (.int (nI a2)), some (.int a3), some (.int a4), some (.int (nI a5)), some (.int (s0 * s1)), some (.int (nI a7)), some (.int a8), j9] [.int x3] (Hp S4) (QI Q)
  refine wp_st (pc' := 99) (L' := [some (.ref 60), some (.int (nI a1)), some (.int (nI a2)), some (.int a3), some (.int a4), some (.int (nI a5)), some (.int (s0 * s1)), some (.int (nI a7)), some (.int a8), some (.int x3)]) (st' := [.int a8]) (h' := Hp S4) 2 (fun Z => rfl) ?_
  by_cases hc : a8 = 0
  · rw [if_pos hc] at hw
    refine wp_st (pc' := 124) (L' := [some (.ref 60), some (.int (nI a1)), some (.int (nI a2)), some (.int a3), some (.int a4), some (.int (nI a5)), some (.int (s0 * s1)), some (.int (nI a7)), some (.int a8), some (.int x3)]) (st' := []) (h' := Hp S4) 1 (fun Z => if_pos hc) ?_
    refine wp_st (pc' := 125) (L' := [some (.ref 60), some (.int (nI a1)), some (.int (nI a2)), some (.int a3), some (.int a4), some (.int (nI a5)), some (.int (s0 * s1)), some (.int (nI a7)), some (.int a8), some (.int x3)]) (st' := [.ref 60]) (h' := Hp S4) 1 (fun Z => rfl) ?_
    refine wp_st (pc' := 128) (L' := [some (.ref 60), some (.int (nI a1)), some (.int (nI a2)), some (.int a3), some (.int a4), some (.int (nI a5)), some (.int (s0 * s1)), some (.int (nI a7)), some (.int a8), some (.int x3)]) (st' := [.ref 38]) (h' := Hp S4) 1 (fun Z => gfR (E := E) sh60 rfl _) ?_
    refine wp_st (pc' := 129) (L' := [some (.ref 60), some (.int (nI a1)), some (.int (nI a2)), some (.int a3), some (.int a4), some (.int (nI a5)), some (.int (s0 * s1)), some (.int (nI a7)), some (.int a8), some (.int x3)]) (st' := [.ref 60, .ref 38]) (h' := Hp S4) 1 (fun Z => rfl) ?_
    refine wp_st (pc' := 132) (L' := [some (.ref 60), some (.int (nI a1)), some (.int (nI a2)), some (.int a3), some (.int a4), some (.int (nI a5)), some (.int (s0 * s1)), some (.int (nI a7)), some (.int a8), some (.int x3)]) (st' := [.ref 61, .ref 38]) (h' := Hp S4) 1 (fun Z => gfR (E := E) sh60 rfl _) ?_
    refine wp_call (pc' := 135) (rest := []) (fun Z => rfl) (isO_of sh38) hw ?_
    rintro o h1 ⟨S6, rfl, rfl, hw⟩
    refine ⟨_, rfl, ?_⟩
    show wp E (d + 1) m_Chance_whiteByBoys 135 [some (.ref 60), some (.int (nI a1)), some (.int (nI a2)), some (.int a3), some (.int a4), some (.int (nI a5)), some (.int (s0 * s1)), some (.int (nI a7)), some (.int a8), some (.int x3)] [] (Hp S6) (QI Q)
    refine wp_st (pc' := 138) (L' := [some (.ref 60), some (.int (nI a1)), some (.int (nI a2)), some (.int a3), some (.int a4), some (.int (nI a5)), some (.int (s0 * s1)), some (.int (nI (a7 + 1))), some (.int a8), some (.int x3)]) (st' := []) (h' := Hp S6) 1 (fun Z => by rw [← nI_add a7 1]; rfl) ?_
    exact wp_st 1 (fun Z => rfl) (show wp E (d + 1) m_Chance_whiteByBoys 31 [some (.ref 60), some (.int (nI a1)), some (.int (nI a2)), some (.int a3), some (.int a4), some (.int (nI a5)), some (.int (s0 * s1)), some (.int (nI (a7 + 1))), some (.int a8), some (.int x3)] [] (Hp S6) (QI Q) from (hw (some (.int a8)) (some (.int x3))))
  · rw [if_neg hc] at hw
    refine wp_st (pc' := 102) (L' := [some (.ref 60), some (.int (nI a1)), some (.int (nI a2)), some (.int a3), some (.int a4), some (.int (nI a5)), some (.int (s0 * s1)), some (.int (nI a7)), some (.int a8), some (.int x3)]) (st' := []) (h' := Hp S4) 1 (fun Z => if_neg hc) ?_
    refine wp_st (pc' := 104) (L' := [some (.ref 60), some (.int (nI a1)), some (.int (nI a2)), some (.int a3), some (.int a4), some (.int (nI a5)), some (.int (s0 * s1)), some (.int (nI a7)), some (.int a8), some (.int x3)]) (st' := [.int x3]) (h' := Hp S4) 1 (fun Z => rfl) ?_
    refine wp_st (pc' := 105) (L' := [some (.ref 60), some (.int (nI a1)), some (.int (nI a2)), some (.int a3), some (.int a4), some (.int (nI a5)), some (.int (s0 * s1)), some (.int (nI a7)), some (.int a8), some (.int x3)]) (st' := [.int (-1), .int x3]) (h' := Hp S4) 1 (fun Z => congrArg (fun v => Z (d + 1) m_Chance_whiteByBoys 105 [some (.ref 60), some (.int (nI a1)), some (.int (nI a2)), some (.int a3), some (.int a4), some (.int (nI a5)), some (.int (s0 * s1)), some (.int (nI a7)), some (.int a8), some (.int x3)] [.int v, .int x3] (Hp S4)) (show Int32.ofInt (-1) = (-1) by decide)) ?_
    by_cases hc : x3 = (-1)
    · rw [if_pos hc] at hw
      refine wp_st (pc' := 124) (L' := [some (.ref 60), some (.int (nI a1)), some (.int (nI a2)), some (.int a3), some (.int a4), some (.int (nI a5)), some (.int (s0 * s1)), some (.int (nI a7)), some (.int a8), some (.int x3)]) (st' := []) (h' := Hp S4) 1 (fun Z => if_pos hc) ?_
      refine wp_st (pc' := 125) (L' := [some (.ref 60), some (.int (nI a1)), some (.int (nI a2)), some (.int a3), some (.int a4), some (.int (nI a5)), some (.int (s0 * s1)), some (.int (nI a7)), some (.int a8), some (.int x3)]) (st' := [.ref 60]) (h' := Hp S4) 1 (fun Z => rfl) ?_
      refine wp_st (pc' := 128) (L' := [some (.ref 60), some (.int (nI a1)), some (.int (nI a2)), some (.int a3), some (.int a4), some (.int (nI a5)), some (.int (s0 * s1)), some (.int (nI a7)), some (.int a8), some (.int x3)]) (st' := [.ref 38]) (h' := Hp S4) 1 (fun Z => gfR (E := E) sh60 rfl _) ?_
      refine wp_st (pc' := 129) (L' := [some (.ref 60), some (.int (nI a1)), some (.int (nI a2)), some (.int a3), some (.int a4), some (.int (nI a5)), some (.int (s0 * s1)), some (.int (nI a7)), some (.int a8), some (.int x3)]) (st' := [.ref 60, .ref 38]) (h' := Hp S4) 1 (fun Z => rfl) ?_
      refine wp_st (pc' := 132) (L' := [some (.ref 60), some (.int (nI a1)), some (.int (nI a2)), some (.int a3), some (.int a4), some (.int (nI a5)), some (.int (s0 * s1)), some (.int (nI a7)), some (.int a8), some (.int x3)]) (st' := [.ref 61, .ref 38]) (h' := Hp S4) 1 (fun Z => gfR (E := E) sh60 rfl _) ?_
      refine wp_call (pc' := 135) (rest := []) (fun Z => rfl) (isO_of sh38) hw ?_
      rintro o h1 ⟨S8, rfl, rfl, hw⟩
      refine ⟨_, rfl, ?_⟩
      show wp E (d + 1) m_Chance_whiteByBoys 135 [some (.ref 60), some (.int (nI a1)), some (.int (nI a2)), some (.int a3), some (.int a4), some (.int (nI a5)), some (.int (s0 * s1)), some (.int (nI a7)), some (.int a8), some (.int x3)] [] (Hp S8) (QI Q)
      refine wp_st (pc' := 138) (L' := [some (.ref 60), some (.int (nI a1)), some (.int (nI a2)), some (.int a3), some (.int a4), some (.int (nI a5)), some (.int (s0 * s1)), some (.int (nI (a7 + 1))), some (.int a8), some (.int x3)]) (st' := []) (h' := Hp S8) 1 (fun Z => by rw [← nI_add a7 1]; rfl) ?_
      exact wp_st 1 (fun Z => rfl) (show wp E (d + 1) m_Chance_whiteByBoys 31 [some (.ref 60), some (.int (nI a1)), some (.int (nI a2)), some (.int a3), some (.int a4), some (.int (nI a5)), some (.int (s0 * s1)), some (.int (nI (a7 + 1))), some (.int a8), some (.int x3)] [] (Hp S8) (QI Q) from (hw (some (.int a8)) (some (.int x3))))
    · rw [if_neg hc] at hw
      refine wp_st (pc' := 108) (L' := [some (.ref 60), some (.int (nI a1)), some (.int (nI a2)), some (.int a3), some (.int a4), some (.int (nI a5)), some (.int (s0 * s1)), some (.int (nI a7)), some (.int a8), some (.int x3)]) (st' := []) (h' := Hp S4) 1 (fun Z => if_neg hc) ?_
      refine wp_st (pc' := 109) (L' := [some (.ref 60), some (.int (nI a1)), some (.int (nI a2)), some (.int a3), some (.int a4), some (.int (nI a5)), some (.int (s0 * s1)), some (.int (nI a7)), some (.int a8), some (.int x3)]) (st' := [.ref 60]) (h' := Hp S4) 1 (fun Z => rfl) ?_
      refine wp_st (pc' := 112) (L' := [some (.ref 60), some (.int (nI a1)), some (.int (nI a2)), some (.int a3), some (.int a4), some (.int (nI a5)), some (.int (s0 * s1)), some (.int (nI a7)), some (.int a8), some (.int x3)]) (st' := [.ref 38]) (h' := Hp S4) 1 (fun Z => gfR (E := E) sh60 rfl _) ?_
      refine wp_st (pc' := 113) (L' := [some (.ref 60), some (.int (nI a1)), some (.int (nI a2)), some (.int a3), some (.int a4), some (.int (nI a5)), some (.int (s0 * s1)), some (.int (nI a7)), some (.int a8), some (.int x3)]) (st' := [.ref 60, .ref 38]) (h' := Hp S4) 1 (fun Z => rfl) ?_
      refine wp_st (pc' := 116) (L' := [some (.ref 60), some (.int (nI a1)), some (.int (nI a2)), some (.int a3), some (.int a4), some (.int (nI a5)), some (.int (s0 * s1)), some (.int (nI a7)), some (.int a8), some (.int x3)]) (st' := [.ref 61, .ref 38]) (h' := Hp S4) 1 (fun Z => gfR (E := E) sh60 rfl _) ?_
      refine wp_st (pc' := 120) (L' := [some (.ref 60), some (.int (nI a1)), some (.int (nI a2)), some (.int a3), some (.int a4), some (.int (nI a5)), some (.int (s0 * s1)), some (.int (nI a7)), some (.int a8), some (.int x3)]) (st' := [.int ((1 : Int32) <<< (x3 &&& 31)), .ref 61, .ref 38]) (h' := Hp S4) 3 (fun Z => rfl) ?_
      refine wp_call (pc' := 123) (rest := []) (fun Z => rfl) (isO_of sh38) hw ?_
      rintro o h1 ⟨x9, S10, rfl, rfl, hw⟩
      refine ⟨_, rfl, ?_⟩
      show wp E (d + 1) m_Chance_whiteByBoys 123 [some (.ref 60), some (.int (nI a1)), some (.int (nI a2)), some (.int a3), some (.int a4), some (.int (nI a5)), some (.int (s0 * s1)), some (.int (nI a7)), some (.int a8), some (.int x3)] [.int x9] (Hp S10) (QI Q)
      refine wp_st (pc' := 125) (L' := [some (.ref 60), some (.int (nI a1)), some (.int (nI a2)), some (.int a3), some (.int a4), some (.int (nI a5)), some (.int (s0 * s1)), some (.int (nI a7)), some (.int a8), some (.int x3)]) (st' := [.ref 60]) (h' := Hp S10) 2 (fun Z => rfl) ?_
      refine wp_st (pc' := 128) (L' := [some (.ref 60), some (.int (nI a1)), some (.int (nI a2)), some (.int a3), some (.int a4), some (.int (nI a5)), some (.int (s0 * s1)), some (.int (nI a7)), some (.int a8), some (.int x3)]) (st' := [.ref 38]) (h' := Hp S10) 1 (fun Z => gfR (E := E) sh60 rfl _) ?_
      refine wp_st (pc' := 129) (L' := [some (.ref 60), some (.int (nI a1)), some (.int (nI a2)), some (.int a3), some (.int a4), some (.int (nI a5)), some (.int (s0 * s1)), some (.int (nI a7)), some (.int a8), some (.int x3)]) (st' := [.ref 60, .ref 38]) (h' := Hp S10) 1 (fun Z => rfl) ?_
      refine wp_st (pc' := 132) (L' := [some (.ref 60), some (.int (nI a1)), some (.int (nI a2)), some (.int a3), some (.int a4), some (.int (nI a5)), some (.int (s0 * s1)), some (.int (nI a7)), some (.int a8), some (.int x3)]) (st' := [.ref 61, .ref 38]) (h' := Hp S10) 1 (fun Z => gfR (E := E) sh60 rfl _) ?_
      refine wp_call (pc' := 135) (rest := []) (fun Z => rfl) (isO_of sh38) hw ?_
      rintro o h1 ⟨S12, rfl, rfl, hw⟩
      refine ⟨_, rfl, ?_⟩
      show wp E (d + 1) m_Chance_whiteByBoys 135 [some (.ref 60), some (.int (nI a1)), some (.int (nI a2)), some (.int a3), some (.int a4), some (.int (nI a5)), some (.int (s0 * s1)), some (.int (nI a7)), some (.int a8), some (.int x3)] [] (Hp S12) (QI Q)
      refine wp_st (pc' := 138) (L' := [some (.ref 60), some (.int (nI a1)), some (.int (nI a2)), some (.int a3), some (.int a4), some (.int (nI a5)), some (.int (s0 * s1)), some (.int (nI (a7 + 1))), some (.int a8), some (.int x3)]) (st' := []) (h' := Hp S12) 1 (fun Z => by rw [← nI_add a7 1]; rfl) ?_
      exact wp_st 1 (fun Z => rfl) (show wp E (d + 1) m_Chance_whiteByBoys 31 [some (.ref 60), some (.int (nI a1)), some (.int (nI a2)), some (.int a3), some (.int a4), some (.int (nI a5)), some (.int (s0 * s1)), some (.int (nI (a7 + 1))), some (.int a8), some (.int x3)] [] (Hp S12) (QI Q) from (hw (some (.int a8)) (some (.int x3))))
set_option maxRecDepth 4000 in
theorem w_Chance_whiteByBoys_141 {E : zX} {d : Nat} {S : St} {a1 : Nat} {a2 : Nat} {a3 : Int32} {a4 : Int32} {a5 : Nat} {a6 : Int32} {Q : Int32 → St → Prop} (hd : 1 ≤ d) 
    (hw : k_Scene_isWhite E (d - 1) S 61 (nI a1) (fun x1 S2 =>
    if x1 = 0 then (
      k_Chance_whiteByBoys_6 E d S2 a1 a2 a3 a4 (a5 + 1) Q)
    else (
      k_Chance_whiteByBoys_6 E d S2 a1 a2 a3 (a4 + a6) (a5 + 1) Q))) :
    k_Chance_whiteByBoys_141 E d S a1 a2 a3 a4 a5 a6 Q := by
  obtain ⟨d, rfl⟩ := Nat.exists_eq_add_of_le' hd
  intro j7 j8 j9
  show wp E (d + 1) m_Chance_whiteByBoys 141 [some (.ref 60), some (.int (nI a1)), some (.int (nI a2)), some (.int a3), some (.int a4), some (.int (nI a5)), some (.int a6), j7, j8, j9] [] (Hp S) (QI Q)
  refine wp_st (pc' := 142) (L' := [some (.ref 60), some (.int (nI a1)), some (.int (nI a2)), some (.int a3), some (.int a4), some (.int (nI a5)), some (.int a6), j7, j8, j9]) (st' := [.ref 60]) (h' := Hp S) 1 (fun Z => rfl) ?_
  refine wp_st (pc' := 145) (L' := [some (.ref 60), some (.int (nI a1)), some (.int (nI a2)), some (.int a3), some (.int a4), some (.int (nI a5)), some (.int a6), j7, j8, j9]) (st' := [.ref 61]) (h' := Hp S) 1 (fun Z => gfR (E := E) sh60 rfl _) ?_
  refine wp_st (pc' := 146) (L' := [some (.ref 60), some (.int (nI a1)), some (.int (nI a2)), some (.int a3), some (.int a4), some (.int (nI a5)), some (.int a6), j7, j8, j9]) (st' := [.int (nI a1), .ref 61]) (h' := Hp S) 1 (fun Z => rfl) ?_
  refine wp_call (pc' := 149) (rest := []) (fun Z => rfl) (isO_of sh61) hw ?_
  rintro o h1 ⟨x1, S2, rfl, rfl, hw⟩
  refine ⟨_, rfl, ?_⟩
  show wp E (d + 1) m_Chance_whiteByBoys 149 [some (.ref 60), some (.int (nI a1)), some (.int (nI a2)), some (.int a3), some (.int a4), some (.int (nI a5)), some (.int a6), j7, j8, j9] [.int x1] (Hp S2) (QI Q)
  by_cases hc : x1 = 0
  · rw [if_pos hc] at hw
    refine wp_st (pc' := 159) (L' := [some (.ref 60), some (.int (nI a1)), some (.int (nI a2)), some (.int a3), some (.int a4), some (.int (nI a5)), some (.int a6), j7, j8, j9]) (st' := []) (h' := Hp S2) 1 (fun Z => if_pos hc) ?_
    refine wp_st (pc' := 162) (L' := [some (.ref 60), some (.int (nI a1)), some (.int (nI a2)), some (.int a3), some (.int a4), some (.int (nI (a5 + 1))), some (.int a6), j7, j8, j9]) (st' := []) (h' := Hp S2) 1 (fun Z => by rw [← nI_add a5 1]; rfl) ?_
    exact wp_st 1 (fun Z => rfl) (show wp E (d + 1) m_Chance_whiteByBoys 6 [some (.ref 60), some (.int (nI a1)), some (.int (nI a2)), some (.int a3), some (.int a4), some (.int (nI (a5 + 1))), some (.int a6), j7, j8, j9] [] (Hp S2) (QI Q) from (hw (some (.int a6)) j7 j8 j9))
  · rw [if_neg hc] at hw
    refine wp_st (pc' := 152) (L' := [some (.ref 60), some (.int (nI a1)), some (.int (nI a2)), some (.int a3), some (.int a4), some (.int (nI a5)), some (.int a6), j7, j8, j9]) (st' := []) (h' := Hp S2) 1 (fun Z => if_neg hc) ?_
    refine wp_st (pc' := 159) (L' := [some (.ref 60), some (.int (nI a1)), some (.int (nI a2)), some (.int a3), some (.int (a4 + a6)), some (.int (nI a5)), some (.int a6), j7, j8, j9]) (st' := []) (h' := Hp S2) 4 (fun Z => rfl) ?_
    refine wp_st (pc' := 162) (L' := [some (.ref 60), some (.int (nI a1)), some (.int (nI a2)), some (.int a3), some (.int (a4 + a6)), some (.int (nI (a5 + 1))), some (.int a6), j7, j8, j9]) (st' := []) (h' := Hp S2) 1 (fun Z => by rw [← nI_add a5 1]; rfl) ?_
    exact wp_st 1 (fun Z => rfl) (show wp E (d + 1) m_Chance_whiteByBoys 6 [some (.ref 60), some (.int (nI a1)), some (.int (nI a2)), some (.int a3), some (.int (a4 + a6)), some (.int (nI (a5 + 1))), some (.int a6), j7, j8, j9] [] (Hp S2) (QI Q) from (hw (some (.int a6)) j7 j8 j9))
set_option maxRecDepth 4000 in
theorem w_Chance_play {E : zX} {d : Nat} {S : St} {a1 : Nat} {a2 : Nat} {Q : St → Prop} (hd : 1 ≤ d) 
    (hw : k_Chance_play_2 E d S a1 a2 0 Q) :
    k_Chance_play E d S (nI a1) (nI a2) Q := by
  obtain ⟨d, rfl⟩ := Nat.exists_eq_add_of_le' hd
  show wp E (d + 1) m_Chance_play 0 [some (.ref 60), some (.int (nI a1)), some (.int (nI a2)), none, none, none, none] [] (Hp S) (QV Q)
  exact wp_st 2 (fun Z => rfl) (show wp E (d + 1) m_Chance_play 2 [some (.ref 60), some (.int (nI a1)), some (.int (nI a2)), some (.int 0), none, none, none] [] (Hp S) (QV Q) from (hw none none none))
set_option maxRecDepth 4000 in
theorem w_Chance_play_2 {E : zX} {d : Nat} {S : St} {a1 : Nat} {a2 : Nat} {a3 : Nat} {Q : St → Prop} (hd : 1 ≤ d) 
    (hw : if nI 4 ≤ (nI a3) then (
      Q S)
    else (
      k_Scene_copyFrom E (d - 1) S 61 25 (fun S2 =>
      if (nI a2) ≤ (nI a1) then (
        k_Chance_choose E (d - 1) S2 (nI a2) ((nI a3) &&& (1 : Int32)) (fun S4 =>
        k_Chance_choose E (d - 1) S4 (nI a1) ((nI a3) >>> ((1 : Int32) &&& 31)) (fun S6 =>
        k_Chance_play_67 E d S6 a1 a2 a3 ((nI a3) >>> ((1 : Int32) &&& 31)) ((nI a3) &&& (1 : Int32)) 0 Q)))
      else (
        k_Chance_choose E (d - 1) S2 (nI a1) ((nI a3) >>> ((1 : Int32) &&& 31)) (fun S8 =>
        k_Chance_choose E (d - 1) S8 (nI a2) ((nI a3) &&& (1 : Int32)) (fun S10 =>
        k_Chance_play_67 E d S10 a1 a2 a3 ((nI a3) >>> ((1 : Int32) &&& 31)) ((nI a3) &&& (1 : Int32)) 0 Q)))))) :
    k_Chance_play_2 E d S a1 a2 a3 Q := by
  obtain ⟨d, rfl⟩ := Nat.exists_eq_add_of_le' hd
  intro j4 j5 j6
  show wp E (d + 1) m_Chance_play 2 [some (.ref 60), some (.int (nI a1)), some (.int (nI a2)), some (.int (nI a3)), j4, j5, j6] [] (Hp S) (QV Q)
  refine wp_st (pc' := 4) (L' := [some (.ref 60), some (.int (nI a1)), some (.int (nI a2)), some (.int (nI a3)), j4, j5, j6]) (st' := [.int 4, .int (nI a3)]) (h' := Hp S) 2 (fun Z => rfl) ?_
  by_cases hc : nI 4 ≤ (nI a3)
  · rw [if_pos hc] at hw
    refine wp_st (pc' := 129) (L' := [some (.ref 60), some (.int (nI a1)), some (.int (nI a2)), some (.int (nI a3)), j4, j5, j6]) (st' := []) (h' := Hp S) 1 (fun Z => if_pos hc) ?_
    exact wp_ret (fun Z => rfl) ⟨_, rfl, rfl, hw⟩
  · rw [if_neg hc] at hw
    refine wp_st (pc' := 7) (L' := [some (.ref 60), some (.int (nI a1)), some (.int (nI a2)), some (.int (nI a3)), j4, j5, j6]) (st' := []) (h' := Hp S) 1 (fun Z => if_neg hc) ?_
    refine wp_st (pc' := 18) (L' := [some (.ref 60), some (.int (nI a1)), some (.int (nI a2)), some (.int (nI a3)), some (.int ((nI a3) >>> ((1 : Int32) &&& 31))), some (.int ((nI a3) &&& (1 : Int32))), j6]) (st' := [.ref 60]) (h' := Hp S) 9 (fun Z => rfl) ?_
    refine wp_st (pc' := 21) (L' := [some (.ref 60), some (.int (nI a1)), some (.int (nI a2)), some (.int (nI a3)), some (.int ((nI a3) >>> ((1 : Int32) &&& 31))), some (.int ((nI a3) &&& (1 : Int32))), j6]) (st' := [.ref 61]) (h' := Hp S) 1 (fun Z => gfR (E := E) sh60 rfl _) ?_
    refine wp_st (pc' := 22) (L' := [some (.ref 60), some (.int (nI a1)), some (.int (nI a2)), some (.int (nI a3)), some (.int ((nI a3) >>> ((1 : Int32) &&& 31))), some (.int ((nI a3) &&& (1 : Int32))), j6]) (st' := [.ref 60, .ref 61]) (h' := Hp S) 1 (fun Z => rfl) ?_
    refine wp_st (pc' := 25) (L' := [some (.ref 60), some (.int (nI a1)), some (.int (nI a2)), some (.int (nI a3)), some (.int ((nI a3) >>> ((1 : Int32) &&& 31))), some (.int ((nI a3) &&& (1 : Int32))), j6]) (st' := [.ref 25, .ref 61]) (h' := Hp S) 1 (fun Z => gfR (E := E) sh60 rfl _) ?_
    refine wp_call (pc' := 28) (rest := []) (fun Z => rfl) (isO_of sh61) hw ?_
    rintro o h1 ⟨S2, rfl, rfl, hw⟩
    refine ⟨_, rfl, ?_⟩
    show wp E (d + 1) m_Chance_play 28 [some (.ref 60), some (.int (nI a1)), some (.int (nI a2)), some (.int (nI a3)), some (.int ((nI a3) >>> ((1 : Int32) &&& 31))), some (.int ((nI a3) &&& (1 : Int32))), j6] [] (Hp S2) (QV Q)
    refine wp_st (pc' := 30) (L' := [some (.ref 60), some (.int (nI a1)), some (.int (nI a2)), some (.int (nI a3)), some (.int ((nI a3) >>> ((1 : Int32) &&& 31))), some (.int ((nI a3) &&& (1 : Int32))), j6]) (st' := [.int (nI a2), .int (nI a1)]) (h' := Hp S2) 2 (fun Z => rfl) ?_
    by_cases hc : (nI a2) ≤ (nI a1)
    · rw [if_pos hc] at hw
      refine wp_st (pc' := 50) (L' := [some (.ref 60), some (.int (nI a1)), some (.int (nI a2)), some (.int (nI a3)), some (.int ((nI a3) >>> ((1 : Int32) &&& 31))), some (.int ((nI a3) &&& (1 : Int32))), j6]) (st' := []) (h' := Hp S2) 1 (fun Z => if_pos hc) ?_
      refine wp_st (pc' := 54) (L' := [some (.ref 60), some (.int (nI a1)), some (.int (nI a2)), some (.int (nI a3)), some (.int ((nI a3) >>> ((1 : Int32) &&& 31))), some (.int ((nI a3) &&& (1 : Int32))), j6]) (st' := [.int ((nI a3) &&& (1 : Int32)), .int (nI a2), .ref 60]) (h' := Hp S2) 3 (fun Z => rfl) ?_
      refine wp_call (pc' := 57) (rest := []) (fun Z => rfl) (isO_of sh60) hw ?_
      rintro o h1 ⟨S4, rfl, rfl, hw⟩
      refine ⟨_, rfl, ?_⟩
      show wp E (d + 1) m_Chance_play 57 [some (.ref 60), some (.int (nI a1)), some (.int (nI a2)), some (.int (nI a3)), some (.int ((nI a3) >>> ((1 : Int32) &&& 31))), some (.int ((nI a3) &&& (1 : Int32))), j6] [] (Hp S4) (QV Q)
      refine wp_st (pc' := 61) (L' := [some (.ref 60), some (.int (nI a1)), some (.int (nI a2)), some (.int (nI a3)), some (.int ((nI a3) >>> ((1 : Int32) &&& 31))), some (.int ((nI a3) &&& (1 : Int32))), j6]) (st' := [.int ((nI a3) >>> ((1 : Int32) &&& 31)), .int (nI a1), .ref 60]) (h' := Hp S4) 3 (fun Z => rfl) ?_
      refine wp_call (pc' := 64) (rest := []) (fun Z => rfl) (isO_of sh60) hw ?_
      rintro o h1 ⟨S6, rfl, rfl, hw⟩
      refine ⟨_, rfl, ?_⟩
      show wp E (d + 1) m_Chance_play 64 [some (.ref 60), some (.int (nI a1)), some (.int (nI a2)), some (.int (nI a3)), some (.int ((nI a3) >>> ((1 : Int32) &&& 31))), some (.int ((nI a3) &&& (1 : Int32))), j6] [] (Hp S6) (QV Q)
      exact wp_st 2 (fun Z => rfl) (show wp E (d + 1) m_Chance_play 67 [some (.ref 60), some (.int (nI a1)), some (.int (nI a2)), some (.int (nI a3)), some (.int ((nI a3) >>> ((1 : Int32) &&& 31))), some (.int ((nI a3) &&& (1 : Int32))), some (.int 0)] [] (Hp S6) (QV Q) from hw)
    · rw [if_neg hc] at hw
      refine wp_st (pc' := 33) (L' := [some (.ref 60), some (.int (nI a1)), some (.int (nI a2)), some (.int (nI a3)), some (.int ((nI a3) >>> ((1 : Int32) &&& 31))), some (.int ((nI a3) &&& (1 : Int32))), j6]) (st' := []) (h' := Hp S2) 1 (fun Z => if_neg hc) ?_
      refine wp_st (pc' := 37) (L' := [some (.ref 60), some (.int (nI a1)), some (.int (nI a2)), some (.int (nI a3)), some (.int ((nI a3) >>> ((1 : Int32) &&& 31))), some (.int ((nI a3) &&& (1 : Int32))), j6]) (st' := [.int ((nI a3) >>> ((1 : Int32) &&& 31)), .int (nI a1), .ref 60]) (h' := Hp S2) 3 (fun Z => rfl) ?_
      refine wp_call (pc' := 40) (rest := []) (fun Z => rfl) (isO_of sh60) hw ?_
      rintro o h1 ⟨S8, rfl, rfl, hw⟩
      refine ⟨_, rfl, ?_⟩
      show wp E (d + 1) m_Chance_play 40 [some (.ref 60), some (.int (nI a1)), some (.int (nI a2)), some (.int (nI a3)), some (.int ((nI a3) >>> ((1 : Int32) &&& 31))), some (.int ((nI a3) &&& (1 : Int32))), j6] [] (Hp S8) (QV Q)
      refine wp_st (pc' := 44) (L' := [some (.ref 60), some (.int (nI a1)), some (.int (nI a2)), some (.int (nI a3)), some (.int ((nI a3) >>> ((1 : Int32) &&& 31))), some (.int ((nI a3) &&& (1 : Int32))), j6]) (st' := [.int ((nI a3) &&& (1 : Int32)), .int (nI a2), .ref 60]) (h' := Hp S8) 3 (fun Z => rfl) ?_
      refine wp_call (pc' := 47) (rest := []) (fun Z => rfl) (isO_of sh60) hw ?_
      rintro o h1 ⟨S10, rfl, rfl, hw⟩
      refine ⟨_, rfl, ?_⟩
      show wp E (d + 1) m_Chance_play 47 [some (.ref 60), some (.int (nI a1)), some (.int (nI a2)), some (.int (nI a3)), some (.int ((nI a3) >>> ((1 : Int32) &&& 31))), some (.int ((nI a3) &&& (1 : Int32))), j6] [] (Hp S10) (QV Q)
      exact wp_st 3 (fun Z => rfl) (show wp E (d + 1) m_Chance_play 67 [some (.ref 60), some (.int (nI a1)), some (.int (nI a2)), some (.int (nI a3)), some (.int ((nI a3) >>> ((1 : Int32) &&& 31))), some (.int ((nI a3) &&& (1 : Int32))), some (.int 0)] [] (Hp S10) (QV Q) from hw)
set_option maxRecDepth 4000 in
theorem w_Chance_play_67 {E : zX} {d : Nat} {S : St} {a1 : Nat} {a2 : Nat} {a3 : Nat} {a4 : Int32} {a5 : Int32} {a6 : Nat} {Q : St → Prop} (hd : 1 ≤ d) 
    (hw : if nI 10 ≤ (nI a6) then (
      k_Chance_lossOf E (d - 1) S (nI a1) (fun x1 S2 =>
      a3 < 4 ∧
      ∀ S3, S3 = up S2 63 a3 (x1 + ((2 : Int32) * a4)) →
      k_Chance_lossOf E (d - 1) S3 (nI a2) (fun x4 S5 =>
      a3 < 4 ∧
      ∀ S6, S6 = up S5 64 a3 (x4 + ((2 : Int32) * a5)) →
      k_Chance_play_2 E d S6 a1 a2 (a3 + 1) Q)))
    else (
      k_Downs_passDay E (d - 1) S 61 (fun S8 =>
      k_Chance_play_67 E d S8 a1 a2 a3 a4 a5 (a6 + 1) Q))) :
    k_Chance_play_67 E d S a1 a2 a3 a4 a5 a6 Q := by
  obtain ⟨d, rfl⟩ := Nat.exists_eq_add_of_le' hd
  show wp E (d + 1) m_Chance_play 67 [some (.ref 60), some (.int (nI a1)), some (.int (nI a2)), some (.int (nI a3)), some (.int a4), some (.int a5), some (.int (nI a6))] [] (Hp S) (QV Q)
  refine wp_st (pc' := 71) (L' := [some (.ref 60), some (.int (nI a1)), some (.int (nI a2)), some (.int (nI a3)), some (.int a4), some (.int a5), some (.int (nI a6))]) (st' := [.int 10, .int (nI a6)]) (h' := Hp S) 2 (fun Z => rfl) ?_
  by_cases hc : nI 10 ≤ (nI a6)
  · rw [if_pos hc] at hw
    refine wp_st (pc' := 91) (L' := [some (.ref 60), some (.int (nI a1)), some (.int (nI a2)), some (.int (nI a3)), some (.int a4), some (.int a5), some (.int (nI a6))]) (st' := []) (h' := Hp S) 1 (fun Z => if_pos hc) ?_
    refine wp_st (pc' := 92) (L' := [some (.ref 60), some (.int (nI a1)), some (.int (nI a2)), some (.int (nI a3)), some (.int a4), some (.int a5), some (.int (nI a6))]) (st' := [.ref 60]) (h' := Hp S) 1 (fun Z => rfl) ?_
    refine wp_st (pc' := 95) (L' := [some (.ref 60), some (.int (nI a1)), some (.int (nI a2)), some (.int (nI a3)), some (.int a4), some (.int a5), some (.int (nI a6))]) (st' := [.ref 63]) (h' := Hp S) 1 (fun Z => gfR (E := E) sh60 rfl _) ?_
    refine wp_st (pc' := 98) (L' := [some (.ref 60), some (.int (nI a1)), some (.int (nI a2)), some (.int (nI a3)), some (.int a4), some (.int a5), some (.int (nI a6))]) (st' := [.int (nI a1), .ref 60, .int (nI a3), .ref 63]) (h' := Hp S) 3 (fun Z => rfl) ?_
    refine wp_call (pc' := 101) (rest := [.int (nI a3), .ref 63]) (fun Z => rfl) (isO_of sh60) hw ?_
    rintro o h1 ⟨x1, S2, rfl, rfl, hw⟩
    refine ⟨_, rfl, ?_⟩
    show wp E (d + 1) m_Chance_play 101 [some (.ref 60), some (.int (nI a1)), some (.int (nI a2)), some (.int (nI a3)), some (.int a4), some (.int a5), some (.int (nI a6))] [.int x1, .int (nI a3), .ref 63] (Hp S2) (QV Q)
    refine wp_st (pc' := 106) (L' := [some (.ref 60), some (.int (nI a1)), some (.int (nI a2)), some (.int (nI a3)), some (.int a4), some (.int a5), some (.int (nI a6))]) (st' := [.int (x1 + ((2 : Int32) * a4)), .int (nI a3), .ref 63]) (h' := Hp S2) 4 (fun Z => rfl) ?_
    obtain ⟨hi, hw⟩ := hw
    have hw := hw _ rfl
    refine wp_st (pc' := 107) (L' := [some (.ref 60), some (.int (nI a1)), some (.int (nI a2)), some (.int (nI a3)), some (.int a4), some (.int a5), some (.int (nI a6))]) (st' := []) (h' := Hp (up S2 63 a3 (x1 + ((2 : Int32) * a4)))) 1 (fun Z => stN sh63 (by decide) hi _ _) ?_
    generalize up S2 63 a3 (x1 + ((2 : Int32) * a4)) = S3 at hw ⊢
    refine wp_st (pc' := 108) (L' := [some (.ref 60), some (.int (nI a1)), some (.int (nI a2)), some (.int (nI a3)), some (.int a4), some (.int a5), some (.int (nI a6))]) (st' := [.ref 60]) (h' := Hp S3) 1 (fun Z => rfl) ?_
    refine wp_st (pc' := 111) (L' := [some (.ref 60), some (.int (nI a1)), some (.int (nI a2)), some (.int (nI a3)), some (.int a4), some (.int a5), some (.int (nI a6))]) (st' := [.ref 64]) (h' := Hp S3) 1 (fun Z => gfR (E := E) sh60 rfl _) ?_
    refine wp_st (pc' := 114) (L' := [some (.ref 60), some (.int (nI a1)), some (.int (nI a2)), some (.int (nI a3)), some (.int a4), some (.int a5), some (.int (nI a6))]) (st' := [.int (nI a2), .ref 60, .int (nI a3), .ref 64]) (h' := Hp S3) 3 (fun Z => rfl) ?_
    refine wp_call (pc' := 117) (rest := [.int (nI a3), .ref 64]) (fun Z => rfl) (isO_of sh60) hw ?_
    rintro o h1 ⟨x4, S5, rfl, rfl, hw⟩
    refine ⟨_, rfl, ?_⟩
    show wp E (d + 1) m_Chance_play 117 [some (.ref 60), some (.int (nI a1)), some (.int (nI a2)), some (.int (nI a3)), some (.int a4), some (.int a5), some (.int (nI a6))] [.int x4, .int (nI a3), .ref 64] (Hp S5) (QV Q)
    refine wp_st (pc' := 122) (L' := [some (.ref 60), some (.int (nI a1)), some (.int (nI a2)), some (.int (nI a3)), some (.int a4), some (.int a5), some (.int (nI a6))]) (st' := [.int (x4 + ((2 : Int32) * a5)), .int (nI a3), .ref 64]) (h' := Hp S5) 4 (fun Z => rfl) ?_
    obtain ⟨hi, hw⟩ := hw
    have hw := hw _ rfl
    refine wp_st (pc' := 123) (L' := [some (.ref 60), some (.int (nI a1)), some (.int (nI a2)), some (.int (nI a3)), some (.int a4), some (.int a5), some (.int (nI a6))]) (st' := []) (h' := Hp (up S5 64 a3 (x4 + ((2 : Int32) * a5)))) 1 (fun Z => stN sh64 (by decide) hi _ _) ?_
    generalize up S5 64 a3 (x4 + ((2 : Int32) * a5)) = S6 at hw ⊢
    refine wp_st (pc' := 126) (L' := [some (.ref 60), some (.int (nI a1)), some (.int (nI a2)), some (.int (nI (a3 + 1))), some (.int a4), some (.int a5), some (.int (nI a6))]) (st' := []) (h' := Hp S6) 1 (fun Z => by rw [← nI_add a3 1]; rfl) ?_
    exact wp_st 1 (fun Z => rfl) (show wp E (d + 1) m_Chance_play 2 [some (.ref 60), some (.int (nI a1)), some (.int (nI a2)), some (.int (nI (a3 + 1))), some (.int a4), some (.int a5), some (.int (nI a6))] [] (Hp S6) (QV Q) from (hw (some (.int a4)) (some (.int a5)) (some (.int (nI a6)))))
  · rw [if_neg hc] at hw
    refine wp_st (pc' := 74) (L' := [some (.ref 60), some (.int (nI a1)), some (.int (nI a2)), some (.int (nI a3)), some (.int a4), some (.int a5), some (.int (nI a6))]) (st' := []) (h' := Hp S) 1 (fun Z => if_neg hc) ?_
    refine wp_st (pc' := 75) (L' := [some (.ref 60), some (.int (nI a1)), some (.int (nI a2)), some (.int (nI a3)), some (.int a4), some (.int a5), some (.int (nI a6))]) (st' := [.ref 60]) (h' := Hp S) 1 (fun Z => rfl) ?_
    refine wp_st (pc' := 78) (L' := [some (.ref 60), some (.int (nI a1)), some (.int (nI a2)), some (.int (nI a3)), some (.int a4), some (.int a5), some (.int (nI a6))]) (st' := [.ref 38]) (h' := Hp S) 1 (fun Z => gfR (E := E) sh60 rfl _) ?_
    refine wp_st (pc' := 79) (L' := [some (.ref 60), some (.int (nI a1)), some (.int (nI a2)), some (.int (nI a3)), some (.int a4), some (.int a5), some (.int (nI a6))]) (st' := [.ref 60, .ref 38]) (h' := Hp S) 1 (fun Z => rfl) ?_
    refine wp_st (pc' := 82) (L' := [some (.ref 60), some (.int (nI a1)), some (.int (nI a2)), some (.int (nI a3)), some (.int a4), some (.int a5), some (.int (nI a6))]) (st' := [.ref 61, .ref 38]) (h' := Hp S) 1 (fun Z => gfR (E := E) sh60 rfl _) ?_
    refine wp_call (pc' := 85) (rest := []) (fun Z => rfl) (isO_of sh38) hw ?_
    rintro o h1 ⟨S8, rfl, rfl, hw⟩
    refine ⟨_, rfl, ?_⟩
    show wp E (d + 1) m_Chance_play 85 [some (.ref 60), some (.int (nI a1)), some (.int (nI a2)), some (.int (nI a3)), some (.int a4), some (.int a5), some (.int (nI a6))] [] (Hp S8) (QV Q)
    refine wp_st (pc' := 88) (L' := [some (.ref 60), some (.int (nI a1)), some (.int (nI a2)), some (.int (nI a3)), some (.int a4), some (.int a5), some (.int (nI (a6 + 1)))]) (st' := []) (h' := Hp S8) 1 (fun Z => by rw [← nI_add a6 1]; rfl) ?_
    exact wp_st 1 (fun Z => rfl) (show wp E (d + 1) m_Chance_play 67 [some (.ref 60), some (.int (nI a1)), some (.int (nI a2)), some (.int (nI a3)), some (.int a4), some (.int a5), some (.int (nI (a6 + 1)))] [] (Hp S8) (QV Q) from hw)
set_option maxRecDepth 4000 in
theorem w_Chance_choose {E : zX} {d : Nat} {S : St} {a1 : Nat} {a2 : Int32} {Q : St → Prop} (hd : 1 ≤ d) 
    (hw : if a2 = 1 then (
      k_Downs_goOut E (d - 1) S 61 (nI a1) (fun x1 S2 =>
      Q S2))
    else (
      Q S)) :
    k_Chance_choose E d S (nI a1) a2 Q := by
  obtain ⟨d, rfl⟩ := Nat.exists_eq_add_of_le' hd
  show wp E (d + 1) m_Chance_choose 0 [some (.ref 60), some (.int (nI a1)), some (.int a2)] [] (Hp S) (QV Q)
  refine wp_st (pc' := 2) (L' := [some (.ref 60), some (.int (nI a1)), some (.int a2)]) (st' := [.int 1, .int a2]) (h' := Hp S) 2 (fun Z => rfl) ?_
  by_cases hc : a2 = 1
  · rw [if_pos hc] at hw
    refine wp_st (pc' := 5) (L' := [some (.ref 60), some (.int (nI a1)), some (.int a2)]) (st' := []) (h' := Hp S) 1 (fun Z => if_pos hc) ?_
    refine wp_st (pc' := 6) (L' := [some (.ref 60), some (.int (nI a1)), some (.int a2)]) (st' := [.ref 60]) (h' := Hp S) 1 (fun Z => rfl) ?_
    refine wp_st (pc' := 9) (L' := [some (.ref 60), some (.int (nI a1)), some (.int a2)]) (st' := [.ref 38]) (h' := Hp S) 1 (fun Z => gfR (E := E) sh60 rfl _) ?_
    refine wp_st (pc' := 10) (L' := [some (.ref 60), some (.int (nI a1)), some (.int a2)]) (st' := [.ref 60, .ref 38]) (h' := Hp S) 1 (fun Z => rfl) ?_
    refine wp_st (pc' := 13) (L' := [some (.ref 60), some (.int (nI a1)), some (.int a2)]) (st' := [.ref 61, .ref 38]) (h' := Hp S) 1 (fun Z => gfR (E := E) sh60 rfl _) ?_
    refine wp_st (pc' := 14) (L' := [some (.ref 60), some (.int (nI a1)), some (.int a2)]) (st' := [.int (nI a1), .ref 61, .ref 38]) (h' := Hp S) 1 (fun Z => rfl) ?_
    refine wp_call (pc' := 17) (rest := []) (fun Z => rfl) (isO_of sh38) hw ?_
    rintro o h1 ⟨x1, S2, rfl, rfl, hw⟩
    refine ⟨_, rfl, ?_⟩
    show wp E (d + 1) m_Chance_choose 17 [some (.ref 60), some (.int (nI a1)), some (.int a2)] [.int x1] (Hp S2) (QV Q)
    refine wp_st (pc' := 18) (L' := [some (.ref 60), some (.int (nI a1)), some (.int a2)]) (st' := []) (h' := Hp S2) 1 (fun Z => rfl) ?_
    exact wp_ret (fun Z => rfl) ⟨_, rfl, rfl, hw⟩
  · rw [if_neg hc] at hw
    refine wp_st (pc' := 18) (L' := [some (.ref 60), some (.int (nI a1)), some (.int a2)]) (st' := []) (h' := Hp S) 1 (fun Z => if_neg hc) ?_
    exact wp_ret (fun Z => rfl) ⟨_, rfl, rfl, hw⟩
set_option maxRecDepth 4000 in
theorem w_Chance_lossOf {E : zX} {d : Nat} {S : St} {a1 : Nat} {Q : Int32 → St → Prop} (hd : 1 ≤ d) 
    (hw : k_Scene_shoutedBy E (d - 1) S 61 (nI a1) (fun x1 S2 =>
    k_Scene_shoutedBy E (d - 1) S2 25 (nI a1) (fun x3 S4 =>
    k_Scene_heardBy E (d - 1) S4 61 (nI a1) (fun x5 S6 =>
    k_Scene_heardBy E (d - 1) S6 25 (nI a1) (fun x7 S8 =>
    Q ((((4 : Int32) * (x1 - x3)) + x5) - x7) S8))))) :
    k_Chance_lossOf E d S (nI a1) Q := by
  obtain ⟨d, rfl⟩ := Nat.exists_eq_add_of_le' hd
  show wp E (d + 1) m_Chance_lossOf 0 [some (.ref 60), some (.int (nI a1))] [] (Hp S) (QI Q)
  refine wp_st (pc' := 2) (L' := [some (.ref 60), some (.int (nI a1))]) (st' := [.ref 60, .int 4]) (h' := Hp S) 2 (fun Z => rfl) ?_
  refine wp_st (pc' := 5) (L' := [some (.ref 60), some (.int (nI a1))]) (st' := [.ref 61, .int 4]) (h' := Hp S) 1 (fun Z => gfR (E := E) sh60 rfl _) ?_
  refine wp_st (pc' := 6) (L' := [some (.ref 60), some (.int (nI a1))]) (st' := [.int (nI a1), .ref 61, .int 4]) (h' := Hp S) 1 (fun Z => rfl) ?_
  refine wp_call (pc' := 9) (rest := [.int 4]) (fun Z => rfl) (isO_of sh61) hw ?_
  rintro o h1 ⟨x1, S2, rfl, rfl, hw⟩
  refine ⟨_, rfl, ?_⟩
  show wp E (d + 1) m_Chance_lossOf 9 [some (.ref 60), some (.int (nI a1))] [.int x1, .int 4] (Hp S2) (QI Q)
  refine wp_st (pc' := 10) (L' := [some (.ref 60), some (.int (nI a1))]) (st' := [.ref 60, .int x1, .int 4]) (h' := Hp S2) 1 (fun Z => rfl) ?_
  refine wp_st (pc' := 13) (L' := [some (.ref 60), some (.int (nI a1))]) (st' := [.ref 25, .int x1, .int 4]) (h' := Hp S2) 1 (fun Z => gfR (E := E) sh60 rfl _) ?_
  refine wp_st (pc' := 14) (L' := [some (.ref 60), some (.int (nI a1))]) (st' := [.int (nI a1), .ref 25, .int x1, .int 4]) (h' := Hp S2) 1 (fun Z => rfl) ?_
  refine wp_call (pc' := 17) (rest := [.int x1, .int 4]) (fun Z => rfl) (isO_of sh25) hw ?_
  rintro o h1 ⟨x3, S4, rfl, rfl, hw⟩
  refine ⟨_, rfl, ?_⟩
  show wp E (d + 1) m_Chance_lossOf 17 [some (.ref 60), some (.int (nI a1))] [.int x3, .int x1, .int 4] (Hp S4) (QI Q)
  refine wp_st (pc' := 20) (L' := [some (.ref 60), some (.int (nI a1))]) (st' := [.ref 60, .int ((4 : Int32) * (x1 - x3))]) (h' := Hp S4) 3 (fun Z => rfl) ?_
  refine wp_st (pc' := 23) (L' := [some (.ref 60), some (.int (nI a1))]) (st' := [.ref 61, .int ((4 : Int32) * (x1 - x3))]) (h' := Hp S4) 1 (fun Z => gfR (E := E) sh60 rfl _) ?_
  refine wp_st (pc' := 24) (L' := [some (.ref 60), some (.int (nI a1))]) (st' := [.int (nI a1), .ref 61, .int ((4 : Int32) * (x1 - x3))]) (h' := Hp S4) 1 (fun Z => rfl) ?_
  refine wp_call (pc' := 27) (rest := [.int ((4 : Int32) * (x1 - x3))]) (fun Z => rfl) (isO_of sh61) hw ?_
  rintro o h1 ⟨x5, S6, rfl, rfl, hw⟩
  refine ⟨_, rfl, ?_⟩
  show wp E (d + 1) m_Chance_lossOf 27 [some (.ref 60), some (.int (nI a1))] [.int x5, .int ((4 : Int32) * (x1 - x3))] (Hp S6) (QI Q)
  refine wp_st (pc' := 29) (L' := [some (.ref 60), some (.int (nI a1))]) (st' := [.ref 60, .int (((4 : Int32) * (x1 - x3)) + x5)]) (h' := Hp S6) 2 (fun Z => rfl) ?_
  refine wp_st (pc' := 32) (L' := [some (.ref 60), some (.int (nI a1))]) (st' := [.ref 25, .int (((4 : Int32) * (x1 - x3)) + x5)]) (h' := Hp S6) 1 (fun Z => gfR (E := E) sh60 rfl _) ?_
  refine wp_st (pc' := 33) (L' := [some (.ref 60), some (.int (nI a1))]) (st' := [.int (nI a1), .ref 25, .int (((4 : Int32) * (x1 - x3)) + x5)]) (h' := Hp S6) 1 (fun Z => rfl) ?_
  refine wp_call (pc' := 36) (rest := [.int (((4 : Int32) * (x1 - x3)) + x5)]) (fun Z => rfl) (isO_of sh25) hw ?_
  rintro o h1 ⟨x7, S8, rfl, rfl, hw⟩
  refine ⟨_, rfl, ?_⟩
  show wp E (d + 1) m_Chance_lossOf 36 [some (.ref 60), some (.int (nI a1))] [.int x7, .int (((4 : Int32) * (x1 - x3)) + x5)] (Hp S8) (QI Q)
  refine wp_st (pc' := 37) (L' := [some (.ref 60), some (.int (nI a1))]) (st' := [.int ((((4 : Int32) * (x1 - x3)) + x5) - x7)]) (h' := Hp S8) 1 (fun Z => rfl) ?_
  exact wp_ret (fun Z => rfl) ⟨_, _, rfl, rfl, hw⟩
set_option maxRecDepth 4000 in
theorem w_Chance_resting {E : zX} {d : Nat} {S : St}  {Q : Int32 → St → Prop} (hd : 1 ≤ d) 
    (hw : k_Chance_resting_4 E d S 0 0 Q) :
    k_Chance_resting E d S Q := by
  obtain ⟨d, rfl⟩ := Nat.exists_eq_add_of_le' hd
  show wp E (d + 1) m_Chance_resting 0 [some (.ref 60), none, none] [] (Hp S) (QI Q)
  exact wp_st 4 (fun Z => rfl) (show wp E (d + 1) m_Chance_resting 4 [some (.ref 60), some (.int 0), some (.int 0)] [] (Hp S) (QI Q) from hw)
set_option maxRecDepth 4000 in
theorem w_Chance_resting_4 {E : zX} {d : Nat} {S : St} {a1 : Nat} {a2 : Nat} {Q : Int32 → St → Prop} (hd : 1 ≤ d) 
    (hw : if nI 4 ≤ (nI a2) then (
      Q (nI a1) S)
    else (
      k_Chance_rests E (d - 1) S (nI a2) (fun x1 S2 =>
      if x1 = 0 then (
        k_Chance_resting_4 E d S2 a1 (a2 + 1) Q)
      else (
        k_Chance_resting_4 E d S2 (a1 + 1) (a2 + 1) Q)))) :
    k_Chance_resting_4 E d S a1 a2 Q := by
  obtain ⟨d, rfl⟩ := Nat.exists_eq_add_of_le' hd
  show wp E (d + 1) m_Chance_resting 4 [some (.ref 60), some (.int (nI a1)), some (.int (nI a2))] [] (Hp S) (QI Q)
  refine wp_st (pc' := 6) (L' := [some (.ref 60), some (.int (nI a1)), some (.int (nI a2))]) (st' := [.int 4, .int (nI a2)]) (h' := Hp S) 2 (fun Z => rfl) ?_
  by_cases hc : nI 4 ≤ (nI a2)
  · rw [if_pos hc] at hw
    refine wp_st (pc' := 26) (L' := [some (.ref 60), some (.int (nI a1)), some (.int (nI a2))]) (st' := []) (h' := Hp S) 1 (fun Z => if_pos hc) ?_
    refine wp_st (pc' := 27) (L' := [some (.ref 60), some (.int (nI a1)), some (.int (nI a2))]) (st' := [.int (nI a1)]) (h' := Hp S) 1 (fun Z => rfl) ?_
    exact wp_ret (fun Z => rfl) ⟨_, _, rfl, rfl, hw⟩
  · rw [if_neg hc] at hw
    refine wp_st (pc' := 9) (L' := [some (.ref 60), some (.int (nI a1)), some (.int (nI a2))]) (st' := []) (h' := Hp S) 1 (fun Z => if_neg hc) ?_
    refine wp_st (pc' := 11) (L' := [some (.ref 60), some (.int (nI a1)), some (.int (nI a2))]) (st' := [.int (nI a2), .ref 60]) (h' := Hp S) 2 (fun Z => rfl) ?_
    refine wp_call (pc' := 14) (rest := []) (fun Z => rfl) (isO_of sh60) hw ?_
    rintro o h1 ⟨x1, S2, rfl, rfl, hw⟩
    refine ⟨_, rfl, ?_⟩
    show wp E (d + 1) m_Chance_resting 14 [some (.ref 60), some (.int (nI a1)), some (.int (nI a2))] [.int x1] (Hp S2) (QI Q)
    by_cases hc : x1 = 0
    · rw [if_pos hc] at hw
      refine wp_st (pc' := 20) (L' := [some (.ref 60), some (.int (nI a1)), some (.int (nI a2))]) (st' := []) (h' := Hp S2) 1 (fun Z => if_pos hc) ?_
      refine wp_st (pc' := 23) (L' := [some (.ref 60), some (.int (nI a1)), some (.int (nI (a2 + 1)))]) (st' := []) (h' := Hp S2) 1 (fun Z => by rw [← nI_add a2 1]; rfl) ?_
      exact wp_st 1 (fun Z => rfl) (show wp E (d + 1) m_Chance_resting 4 [some (.ref 60), some (.int (nI a1)), some (.int (nI (a2 + 1)))] [] (Hp S2) (QI Q) from hw)
    · rw [if_neg hc] at hw
      refine wp_st (pc' := 17) (L' := [some (.ref 60), some (.int (nI a1)), some (.int (nI a2))]) (st' := []) (h' := Hp S2) 1 (fun Z => if_neg hc) ?_
      refine wp_st (pc' := 20) (L' := [some (.ref 60), some (.int (nI (a1 + 1))), some (.int (nI a2))]) (st' := []) (h' := Hp S2) 1 (fun Z => by rw [← nI_add a1 1]; rfl) ?_
      refine wp_st (pc' := 23) (L' := [some (.ref 60), some (.int (nI (a1 + 1))), some (.int (nI (a2 + 1)))]) (st' := []) (h' := Hp S2) 1 (fun Z => by rw [← nI_add a2 1]; rfl) ?_
      exact wp_st 1 (fun Z => rfl) (show wp E (d + 1) m_Chance_resting 4 [some (.ref 60), some (.int (nI (a1 + 1))), some (.int (nI (a2 + 1)))] [] (Hp S2) (QI Q) from hw)
set_option maxRecDepth 4000 in
theorem w_Chance_rests {E : zX} {d : Nat} {S : St} {a1 : Nat} {Q : Int32 → St → Prop} 
    (hw : a1 < 4 ∧
    ∃ m1 : Nat, ((nI a1) ^^^ (2 : Int32)) = nI m1 ∧ m1 < 4 ∧
    if (S 63 m1) < (S 63 a1) then (
      Q (0 : Int32) S)
    else (
      a1 < 4 ∧
      ∃ m2 : Nat, ((nI a1) ^^^ (1 : Int32)) = nI m2 ∧ m2 < 4 ∧
      if (S 64 m2) < (S 64 a1) then (
        Q (0 : Int32) S)
      else (
        Q (1 : Int32) S))) :
    k_Chance_rests E d S (nI a1) Q := by
  show wp E d m_Chance_rests 0 [some (.ref 60), some (.int (nI a1))] [] (Hp S) (QI Q)
  refine wp_st (pc' := 1) (L' := [some (.ref 60), some (.int (nI a1))]) (st' := [.ref 60]) (h' := Hp S) 1 (fun Z => rfl) ?_
  refine wp_st (pc' := 4) (L' := [some (.ref 60), some (.int (nI a1))]) (st' := [.ref 63]) (h' := Hp S) 1 (fun Z => gfR (E := E) sh60 rfl _) ?_
  refine wp_st (pc' := 5) (L' := [some (.ref 60), some (.int (nI a1))]) (st' := [.int (nI a1), .ref 63]) (h' := Hp S) 1 (fun Z => rfl) ?_
  obtain ⟨hi, hw⟩ := hw
  refine wp_st (pc' := 6) (L' := [some (.ref 60), some (.int (nI a1))]) (st' := [.int (S 63 a1)]) (h' := Hp S) 1 (fun Z => ldN (E := E) sh63 (by decide) hi [] (fun st => Z d m_Chance_rests 6 [some (.ref 60), some (.int (nI a1))] st (Hp S))) ?_
  refine wp_st (pc' := 7) (L' := [some (.ref 60), some (.int (nI a1))]) (st' := [.ref 60, .int (S 63 a1)]) (h' := Hp S) 1 (fun Z => rfl) ?_
  refine wp_st (pc' := 10) (L' := [some (.ref 60), some (.int (nI a1))]) (st' := [.ref 63, .int (S 63 a1)]) (h' := Hp S) 1 (fun Z => gfR (E := E) sh60 rfl _) ?_
  refine wp_st (pc' := 13) (L' := [some (.ref 60), some (.int (nI a1))]) (st' := [.int ((nI a1) ^^^ (2 : Int32)), .ref 63, .int (S 63 a1)]) (h' := Hp S) 3 (fun Z => rfl) ?_
  obtain ⟨m1, em, hi, hw⟩ := hw
  refine wp_st (pc' := 14) (L' := [some (.ref 60), some (.int (nI a1))]) (st' := [.int (S 63 m1), .int (S 63 a1)]) (h' := Hp S) 1 (fun Z => (congrArg (fun v => zit E 1 Z d m_Chance_rests 13 [some (.ref 60), some (.int (nI a1))] [.int v, .ref 63, .int (S 63 a1)] (Hp S)) em).trans (ldN (E := E) sh63 (by decide) hi [.int (S 63 a1)] (fun st => Z d m_Chance_rests 14 [some (.ref 60), some (.int (nI a1))] st (Hp S)))) ?_
  by_cases hc : (S 63 m1) < (S 63 a1)
  · rw [if_pos hc] at hw
    refine wp_st (pc' := 38) (L' := [some (.ref 60), some (.int (nI a1))]) (st' := []) (h' := Hp S) 1 (fun Z => if_pos hc) ?_
    refine wp_st (pc' := 39) (L' := [some (.ref 60), some (.int (nI a1))]) (st' := [.int 0]) (h' := Hp S) 1 (fun Z => rfl) ?_
    exact wp_ret (fun Z => rfl) ⟨_, _, rfl, rfl, hw⟩
  · rw [if_neg hc] at hw
    refine wp_st (pc' := 17) (L' := [some (.ref 60), some (.int (nI a1))]) (st' := []) (h' := Hp S) 1 (fun Z => if_neg hc) ?_
    refine wp_st (pc' := 18) (L' := [some (.ref 60), some (.int (nI a1))]) (st' := [.ref 60]) (h' := Hp S) 1 (fun Z => rfl) ?_
    refine wp_st (pc' := 21) (L' := [some (.ref 60), some (.int (nI a1))]) (st' := [.ref 64]) (h' := Hp S) 1 (fun Z => gfR (E := E) sh60 rfl _) ?_
    refine wp_st (pc' := 22) (L' := [some (.ref 60), some (.int (nI a1))]) (st' := [.int (nI a1), .ref 64]) (h' := Hp S) 1 (fun Z => rfl) ?_
    obtain ⟨hi, hw⟩ := hw
    refine wp_st (pc' := 23) (L' := [some (.ref 60), some (.int (nI a1))]) (st' := [.int (S 64 a1)]) (h' := Hp S) 1 (fun Z => ldN (E := E) sh64 (by decide) hi [] (fun st => Z d m_Chance_rests 23 [some (.ref 60), some (.int (nI a1))] st (Hp S))) ?_
    refine wp_st (pc' := 24) (L' := [some (.ref 60), some (.int (nI a1))]) (st' := [.ref 60, .int (S 64 a1)]) (h' := Hp S) 1 (fun Z => rfl) ?_
    refine wp_st (pc' := 27) (L' := [some (.ref 60), some (.int (nI a1))]) (st' := [.ref 64, .int (S 64 a1)]) (h' := Hp S) 1 (fun Z => gfR (E := E) sh60 rfl _) ?_
    refine wp_st (pc' := 30) (L' := [some (.ref 60), some (.int (nI a1))]) (st' := [.int ((nI a1) ^^^ (1 : Int32)), .ref 64, .int (S 64 a1)]) (h' := Hp S) 3 (fun Z => rfl) ?_
    obtain ⟨m2, em, hi, hw⟩ := hw
    refine wp_st (pc' := 31) (L' := [some (.ref 60), some (.int (nI a1))]) (st' := [.int (S 64 m2), .int (S 64 a1)]) (h' := Hp S) 1 (fun Z => (congrArg (fun v => zit E 1 Z d m_Chance_rests 30 [some (.ref 60), some (.int (nI a1))] [.int v, .ref 64, .int (S 64 a1)] (Hp S)) em).trans (ldN (E := E) sh64 (by decide) hi [.int (S 64 a1)] (fun st => Z d m_Chance_rests 31 [some (.ref 60), some (.int (nI a1))] st (Hp S)))) ?_
    by_cases hc : (S 64 m2) < (S 64 a1)
    · rw [if_pos hc] at hw
      refine wp_st (pc' := 38) (L' := [some (.ref 60), some (.int (nI a1))]) (st' := []) (h' := Hp S) 1 (fun Z => if_pos hc) ?_
      refine wp_st (pc' := 39) (L' := [some (.ref 60), some (.int (nI a1))]) (st' := [.int 0]) (h' := Hp S) 1 (fun Z => rfl) ?_
      exact wp_ret (fun Z => rfl) ⟨_, _, rfl, rfl, hw⟩
    · rw [if_neg hc] at hw
      refine wp_st (pc' := 34) (L' := [some (.ref 60), some (.int (nI a1))]) (st' := []) (h' := Hp S) 1 (fun Z => if_neg hc) ?_
      refine wp_st (pc' := 39) (L' := [some (.ref 60), some (.int (nI a1))]) (st' := [.int 1]) (h' := Hp S) 2 (fun Z => rfl) ?_
      exact wp_ret (fun Z => rfl) ⟨_, _, rfl, rfl, hw⟩
set_option maxRecDepth 4000 in
theorem w_Chance_firstResting {E : zX} {d : Nat} {S : St}  {Q : Int32 → St → Prop} (hd : 1 ≤ d) 
    (hw : k_Chance_firstResting_2 E d S 0 Q) :
    k_Chance_firstResting E d S Q := by
  obtain ⟨d, rfl⟩ := Nat.exists_eq_add_of_le' hd
  show wp E (d + 1) m_Chance_firstResting 0 [some (.ref 60), none] [] (Hp S) (QI Q)
  exact wp_st 2 (fun Z => rfl) (show wp E (d + 1) m_Chance_firstResting 2 [some (.ref 60), some (.int 0)] [] (Hp S) (QI Q) from hw)
set_option maxRecDepth 4000 in
theorem w_Chance_firstResting_2 {E : zX} {d : Nat} {S : St} {a1 : Nat} {Q : Int32 → St → Prop} (hd : 1 ≤ d) 
    (hw : if nI 4 ≤ (nI a1) then (
      Q ((-1) : Int32) S)
    else (
      k_Chance_rests E (d - 1) S (nI a1) (fun x1 S2 =>
      if x1 = 0 then (
        k_Chance_firstResting_2 E d S2 (a1 + 1) Q)
      else (
        Q (((10 : Int32) * ((nI a1) >>> ((1 : Int32) &&& 31))) + ((nI a1) &&& (1 : Int32))) S2)))) :
    k_Chance_firstResting_2 E d S a1 Q := by
  obtain ⟨d, rfl⟩ := Nat.exists_eq_add_of_le' hd
  show wp E (d + 1) m_Chance_firstResting 2 [some (.ref 60), some (.int (nI a1))] [] (Hp S) (QI Q)
  refine wp_st (pc' := 4) (L' := [some (.ref 60), some (.int (nI a1))]) (st' := [.int 4, .int (nI a1)]) (h' := Hp S) 2 (fun Z => rfl) ?_
  by_cases hc : nI 4 ≤ (nI a1)
  · rw [if_pos hc] at hw
    refine wp_st (pc' := 32) (L' := [some (.ref 60), some (.int (nI a1))]) (st' := []) (h' := Hp S) 1 (fun Z => if_pos hc) ?_
    refine wp_st (pc' := 33) (L' := [some (.ref 60), some (.int (nI a1))]) (st' := [.int (-1)]) (h' := Hp S) 1 (fun Z => congrArg (fun v => Z (d + 1) m_Chance_firstResting 33 [some (.ref 60), some (.int (nI a1))] [.int v] (Hp S)) (show Int32.ofInt (-1) = (-1) by decide)) ?_
    exact wp_ret (fun Z => rfl) ⟨_, _, rfl, rfl, hw⟩
  · rw [if_neg hc] at hw
    refine wp_st (pc' := 7) (L' := [some (.ref 60), some (.int (nI a1))]) (st' := []) (h' := Hp S) 1 (fun Z => if_neg hc) ?_
    refine wp_st (pc' := 9) (L' := [some (.ref 60), some (.int (nI a1))]) (st' := [.int (nI a1), .ref 60]) (h' := Hp S) 2 (fun Z => rfl) ?_
    refine wp_call (pc' := 12) (rest := []) (fun Z => rfl) (isO_of sh60) hw ?_
    rintro o h1 ⟨x1, S2, rfl, rfl, hw⟩
    refine ⟨_, rfl, ?_⟩
    show wp E (d + 1) m_Chance_firstResting 12 [some (.ref 60), some (.int (nI a1))] [.int x1] (Hp S2) (QI Q)
    by_cases hc : x1 = 0
    · rw [if_pos hc] at hw
      refine wp_st (pc' := 26) (L' := [some (.ref 60), some (.int (nI a1))]) (st' := []) (h' := Hp S2) 1 (fun Z => if_pos hc) ?_
      refine wp_st (pc' := 29) (L' := [some (.ref 60), some (.int (nI (a1 + 1)))]) (st' := []) (h' := Hp S2) 1 (fun Z => by rw [← nI_add a1 1]; rfl) ?_
      exact wp_st 1 (fun Z => rfl) (show wp E (d + 1) m_Chance_firstResting 2 [some (.ref 60), some (.int (nI (a1 + 1)))] [] (Hp S2) (QI Q) from hw)
    · rw [if_neg hc] at hw
      refine wp_st (pc' := 15) (L' := [some (.ref 60), some (.int (nI a1))]) (st' := []) (h' := Hp S2) 1 (fun Z => if_neg hc) ?_
      refine wp_st (pc' := 25) (L' := [some (.ref 60), some (.int (nI a1))]) (st' := [.int (((10 : Int32) * ((nI a1) >>> ((1 : Int32) &&& 31))) + ((nI a1) &&& (1 : Int32)))]) (h' := Hp S2) 9 (fun Z => rfl) ?_
      exact wp_ret (fun Z => rfl) ⟨_, _, rfl, rfl, hw⟩
set_option maxRecDepth 4000 in
theorem w_Chance_live {E : zX} {d : Nat} {S : St} {a1 : Int32} {a2 : Int32} {Q : St → Prop} (hd : 1 ≤ d) 
    (hw : ∀ S1, S1 = up S 60 9 a1 →
    k_Scene_copyFrom E (d - 1) S1 61 25 (fun S3 =>
    ∀ S4, S4 = up S3 60 0 0 →
    ∀ S5, S5 = up S4 60 1 0 →
    k_Chance_live_28 E d S5 a2 0 Q)) :
    k_Chance_live E d S a1 a2 Q := by
  obtain ⟨d, rfl⟩ := Nat.exists_eq_add_of_le' hd
  show wp E (d + 1) m_Chance_live 0 [some (.ref 60), some (.int a1), some (.int a2), none, none, none] [] (Hp S) (QV Q)
  refine wp_st (pc' := 2) (L' := [some (.ref 60), some (.int a1), some (.int a2), none, none, none]) (st' := [.int a1, .ref 60]) (h' := Hp S) 2 (fun Z => rfl) ?_
  have hw := hw _ rfl
  refine wp_st (pc' := 5) (L' := [some (.ref 60), some (.int a1), some (.int a2), none, none, none]) (st' := []) (h' := Hp (up S 60 9 a1)) 1 (fun Z => pfI sh60 rfl (Nat.le_of_ble_eq_true rfl) rfl _) ?_
  generalize up S 60 9 a1 = S1 at hw ⊢
  refine wp_st (pc' := 6) (L' := [some (.ref 60), some (.int a1), some (.int a2), none, none, none]) (st' := [.ref 60]) (h' := Hp S1) 1 (fun Z => rfl) ?_
  refine wp_st (pc' := 9) (L' := [some (.ref 60), some (.int a1), some (.int a2), none, none, none]) (st' := [.ref 61]) (h' := Hp S1) 1 (fun Z => gfR (E := E) sh60 rfl _) ?_
  refine wp_st (pc' := 10) (L' := [some (.ref 60), some (.int a1), some (.int a2), none, none, none]) (st' := [.ref 60, .ref 61]) (h' := Hp S1) 1 (fun Z => rfl) ?_
  refine wp_st (pc' := 13) (L' := [some (.ref 60), some (.int a1), some (.int a2), none, none, none]) (st' := [.ref 25, .ref 61]) (h' := Hp S1) 1 (fun Z => gfR (E := E) sh60 rfl _) ?_
  refine wp_call (pc' := 16) (rest := []) (fun Z => rfl) (isO_of sh61) hw ?_
  rintro o h1 ⟨S3, rfl, rfl, hw⟩
  refine ⟨_, rfl, ?_⟩
  show wp E (d + 1) m_Chance_live 16 [some (.ref 60), some (.int a1), some (.int a2), none, none, none] [] (Hp S3) (QV Q)
  refine wp_st (pc' := 18) (L' := [some (.ref 60), some (.int a1), some (.int a2), none, none, none]) (st' := [.int 0, .ref 60]) (h' := Hp S3) 2 (fun Z => rfl) ?_
  have hw := hw _ rfl
  refine wp_st (pc' := 21) (L' := [some (.ref 60), some (.int a1), some (.int a2), none, none, none]) (st' := []) (h' := Hp (up S3 60 0 0)) 1 (fun Z => pfI sh60 rfl (Nat.le_of_ble_eq_true rfl) rfl _) ?_
  generalize up S3 60 0 0 = S4 at hw ⊢
  refine wp_st (pc' := 23) (L' := [some (.ref 60), some (.int a1), some (.int a2), none, none, none]) (st' := [.int 0, .ref 60]) (h' := Hp S4) 2 (fun Z => rfl) ?_
  have hw := hw _ rfl
  refine wp_st (pc' := 26) (L' := [some (.ref 60), some (.int a1), some (.int a2), none, none, none]) (st' := []) (h' := Hp (up S4 60 1 0)) 1 (fun Z => pfI sh60 rfl (Nat.le_of_ble_eq_true rfl) rfl _) ?_
  generalize up S4 60 1 0 = S5 at hw ⊢
  exact wp_st 2 (fun Z => rfl) (show wp E (d + 1) m_Chance_live 28 [some (.ref 60), some (.int a1), some (.int a2), some (.int 0), none, none] [] (Hp S5) (QV Q) from (hw (some (.int a1)) none none))
set_option maxRecDepth 4000 in
theorem w_Chance_live_28 {E : zX} {d : Nat} {S : St} {a2 : Int32} {a3 : Nat} {Q : St → Prop} (hd : 1 ≤ d) 
    (hw : if a2 ≤ (nI a3) then (
      k_Downs_temperOfAll E (d - 1) S 61 (fun x1 S2 =>
      ∀ S3, S3 = up S2 60 2 x1 →
      Q S3))
    else (
      k_Chance_draw E (d - 1) S 5 (fun x4 S5 =>
      if x4 = 0 then (
        if (S5 3 4) ≤ 0 then (
          k_Chance_live_62 E d S5 a2 a3 x4 Q)
        else (
          k_Chance_treadDrawn E (d - 1) S5 (fun S7 =>
          k_Chance_live_106 E d S7 a2 a3 Q)))
      else (
        k_Chance_live_62 E d S5 a2 a3 x4 Q)))) :
    k_Chance_live_28 E d S a2 a3 Q := by
  obtain ⟨d, rfl⟩ := Nat.exists_eq_add_of_le' hd
  intro j1 j4 j5
  show wp E (d + 1) m_Chance_live 28 [some (.ref 60), j1, some (.int a2), some (.int (nI a3)), j4, j5] [] (Hp S) (QV Q)
  refine wp_st (pc' := 30) (L' := [some (.ref 60), j1, some (.int a2), some (.int (nI a3)), j4, j5]) (st' := [.int a2, .int (nI a3)]) (h' := Hp S) 2 (fun Z => rfl) ?_
  by_cases hc : a2 ≤ (nI a3)
  · rw [if_pos hc] at hw
    refine wp_st (pc' := 165) (L' := [some (.ref 60), j1, some (.int a2), some (.int (nI a3)), j4, j5]) (st' := []) (h' := Hp S) 1 (fun Z => if_pos hc) ?_
    refine wp_st (pc' := 167) (L' := [some (.ref 60), j1, some (.int a2), some (.int (nI a3)), j4, j5]) (st' := [.ref 60, .ref 60]) (h' := Hp S) 2 (fun Z => rfl) ?_
    refine wp_st (pc' := 170) (L' := [some (.ref 60), j1, some (.int a2), some (.int (nI a3)), j4, j5]) (st' := [.ref 38, .ref 60]) (h' := Hp S) 1 (fun Z => gfR (E := E) sh60 rfl _) ?_
    refine wp_st (pc' := 171) (L' := [some (.ref 60), j1, some (.int a2), some (.int (nI a3)), j4, j5]) (st' := [.ref 60, .ref 38, .ref 60]) (h' := Hp S) 1 (fun Z => rfl) ?_
    refine wp_st (pc' := 174) (L' := [some (.ref 60), j1, some (.int a2), some (.int (nI a3)), j4, j5]) (st' := [.ref 61, .ref 38, .ref 60]) (h' := Hp S) 1 (fun Z => gfR (E := E) sh60 rfl _) ?_
    refine wp_call (pc' := 177) (rest := [.ref 60]) (fun Z => rfl) (isO_of sh38) hw ?_
    rintro o h1 ⟨x1, S2, rfl, rfl, hw⟩
    refine ⟨_, rfl, ?_⟩
    show wp E (d + 1) m_Chance_live 177 [some (.ref 60), j1, some (.int a2), some (.int (nI a3)), j4, j5] [.int x1, .ref 60] (Hp S2) (QV Q)
    have hw := hw _ rfl
    refine wp_st (pc' := 180) (L' := [some (.ref 60), j1, some (.int a2), some (.int (nI a3)), j4, j5]) (st' := []) (h' := Hp (up S2 60 2 x1)) 1 (fun Z => pfI sh60 rfl (Nat.le_of_ble_eq_true rfl) rfl _) ?_
    generalize up S2 60 2 x1 = S3 at hw ⊢
    exact wp_ret (fun Z => rfl) ⟨_, rfl, rfl, hw⟩
  · rw [if_neg hc] at hw
    refine wp_st (pc' := 33) (L' := [some (.ref 60), j1, some (.int a2), some (.int (nI a3)), j4, j5]) (st' := []) (h' := Hp S) 1 (fun Z => if_neg hc) ?_
    refine wp_st (pc' := 35) (L' := [some (.ref 60), j1, some (.int a2), some (.int (nI a3)), j4, j5]) (st' := [.int 5, .ref 60]) (h' := Hp S) 2 (fun Z => rfl) ?_
    refine wp_call (pc' := 38) (rest := []) (fun Z => rfl) (isO_of sh60) hw ?_
    rintro o h1 ⟨x4, S5, rfl, rfl, hw⟩
    refine ⟨_, rfl, ?_⟩
    show wp E (d + 1) m_Chance_live 38 [some (.ref 60), j1, some (.int a2), some (.int (nI a3)), j4, j5] [.int x4] (Hp S5) (QV Q)
    refine wp_st (pc' := 42) (L' := [some (.ref 60), j1, some (.int a2), some (.int (nI a3)), some (.int x4), j5]) (st' := [.int x4]) (h' := Hp S5) 2 (fun Z => rfl) ?_
    by_cases hc : x4 = 0
    · rw [if_pos hc] at hw
      refine wp_st (pc' := 45) (L' := [some (.ref 60), j1, some (.int a2), some (.int (nI a3)), some (.int x4), j5]) (st' := []) (h' := Hp S5) 1 (fun Z => if_pos hc) ?_
      refine wp_st (pc' := 46) (L' := [some (.ref 60), j1, some (.int a2), some (.int (nI a3)), some (.int x4), j5]) (st' := [.ref 60]) (h' := Hp S5) 1 (fun Z => rfl) ?_
      refine wp_st (pc' := 49) (L' := [some (.ref 60), j1, some (.int a2), some (.int (nI a3)), some (.int x4), j5]) (st' := [.ref 3]) (h' := Hp S5) 1 (fun Z => gfR (E := E) sh60 rfl _) ?_
      refine wp_st (pc' := 52) (L' := [some (.ref 60), j1, some (.int a2), some (.int (nI a3)), some (.int x4), j5]) (st' := [.int (S5 3 4)]) (h' := Hp S5) 1 (fun Z => gfI (E := E) sh3 rfl _) ?_
      by_cases hc : (S5 3 4) ≤ 0
      · rw [if_pos hc] at hw
        refine wp_st (pc' := 62) (L' := [some (.ref 60), j1, some (.int a2), some (.int (nI a3)), some (.int x4), j5]) (st' := []) (h' := Hp S5) 1 (fun Z => if_pos hc) ?_
        exact (show wp E (d + 1) m_Chance_live 62 [some (.ref 60), j1, some (.int a2), some (.int (nI a3)), some (.int x4), j5] [] (Hp S5) (QV Q) from (hw j1 j5))
      · rw [if_neg hc] at hw
        refine wp_st (pc' := 55) (L' := [some (.ref 60), j1, some (.int a2), some (.int (nI a3)), some (.int x4), j5]) (st' := []) (h' := Hp S5) 1 (fun Z => if_neg hc) ?_
        refine wp_st (pc' := 56) (L' := [some (.ref 60), j1, some (.int a2), some (.int (nI a3)), some (.int x4), j5]) (st' := [.ref 60]) (h' := Hp S5) 1 (fun Z => rfl) ?_
        refine wp_call (pc' := 59) (rest := []) (fun Z => rfl) (isO_of sh60) hw ?_
        rintro o h1 ⟨S7, rfl, rfl, hw⟩
        refine ⟨_, rfl, ?_⟩
        show wp E (d + 1) m_Chance_live 59 [some (.ref 60), j1, some (.int a2), some (.int (nI a3)), some (.int x4), j5] [] (Hp S7) (QV Q)
        exact wp_st 1 (fun Z => rfl) (show wp E (d + 1) m_Chance_live 106 [some (.ref 60), j1, some (.int a2), some (.int (nI a3)), some (.int x4), j5] [] (Hp S7) (QV Q) from (hw j1 (some (.int x4)) j5))
    · rw [if_neg hc] at hw
      refine wp_st (pc' := 62) (L' := [some (.ref 60), j1, some (.int a2), some (.int (nI a3)), some (.int x4), j5]) (st' := []) (h' := Hp S5) 1 (fun Z => if_neg hc) ?_
      exact (show wp E (d + 1) m_Chance_live 62 [some (.ref 60), j1, some (.int a2), some (.int (nI a3)), some (.int x4), j5] [] (Hp S5) (QV Q) from (hw j1 j5))
set_option maxRecDepth 4000 in
theorem w_Chance_live_62 {E : zX} {d : Nat} {S : St} {a2 : Int32} {a3 : Nat} {a4 : Int32} {Q : St → Prop} (hd : 1 ≤ d) 
    (hw : if a4 = 1 then (
      if (S 3 3) ≤ 0 then (
        k_Chance_live_106 E d S a2 a3 Q)
      else (
        k_Chance_draw E (d - 1) S (S 3 3) (fun x1 S2 =>
        k_Chance_draw E (d - 1) S2 60 (fun x3 S4 =>
        k_Scene_setTemper E (d - 1) S4 61 x1 x3 (fun S6 =>
        k_Chance_live_106 E d S6 a2 a3 Q)))))
    else (
      k_Chance_live_106 E d S a2 a3 Q)) :
    k_Chance_live_62 E d S a2 a3 a4 Q := by
  obtain ⟨d, rfl⟩ := Nat.exists_eq_add_of_le' hd
  intro j1 j5
  show wp E (d + 1) m_Chance_live 62 [some (.ref 60), j1, some (.int a2), some (.int (nI a3)), some (.int a4), j5] [] (Hp S) (QV Q)
  refine wp_st (pc' := 65) (L' := [some (.ref 60), j1, some (.int a2), some (.int (nI a3)), some (.int a4), j5]) (st' := [.int 1, .int a4]) (h' := Hp S) 2 (fun Z => rfl) ?_
  by_cases hc : a4 = 1
  · rw [if_pos hc] at hw
    refine wp_st (pc' := 68) (L' := [some (.ref 60), j1, some (.int a2), some (.int (nI a3)), some (.int a4), j5]) (st' := []) (h' := Hp S) 1 (fun Z => if_pos hc) ?_
    refine wp_st (pc' := 69) (L' := [some (.ref 60), j1, some (.int a2), some (.int (nI a3)), some (.int a4), j5]) (st' := [.ref 60]) (h' := Hp S) 1 (fun Z => rfl) ?_
    refine wp_st (pc' := 72) (L' := [some (.ref 60), j1, some (.int a2), some (.int (nI a3)), some (.int a4), j5]) (st' := [.ref 3]) (h' := Hp S) 1 (fun Z => gfR (E := E) sh60 rfl _) ?_
    refine wp_st (pc' := 75) (L' := [some (.ref 60), j1, some (.int a2), some (.int (nI a3)), some (.int a4), j5]) (st' := [.int (S 3 3)]) (h' := Hp S) 1 (fun Z => gfI (E := E) sh3 rfl _) ?_
    by_cases hc : (S 3 3) ≤ 0
    · rw [if_pos hc] at hw
      refine wp_st (pc' := 106) (L' := [some (.ref 60), j1, some (.int a2), some (.int (nI a3)), some (.int a4), j5]) (st' := []) (h' := Hp S) 1 (fun Z => if_pos hc) ?_
      exact (show wp E (d + 1) m_Chance_live 106 [some (.ref 60), j1, some (.int a2), some (.int (nI a3)), some (.int a4), j5] [] (Hp S) (QV Q) from (hw j1 (some (.int a4)) j5))
    · rw [if_neg hc] at hw
      refine wp_st (pc' := 78) (L' := [some (.ref 60), j1, some (.int a2), some (.int (nI a3)), some (.int a4), j5]) (st' := []) (h' := Hp S) 1 (fun Z => if_neg hc) ?_
      refine wp_st (pc' := 80) (L' := [some (.ref 60), j1, some (.int a2), some (.int (nI a3)), some (.int a4), j5]) (st' := [.ref 60, .ref 60]) (h' := Hp S) 2 (fun Z => rfl) ?_
      refine wp_st (pc' := 83) (L' := [some (.ref 60), j1, some (.int a2), some (.int (nI a3)), some (.int a4), j5]) (st' := [.ref 3, .ref 60]) (h' := Hp S) 1 (fun Z => gfR (E := E) sh60 rfl _) ?_
      refine wp_st (pc' := 86) (L' := [some (.ref 60), j1, some (.int a2), some (.int (nI a3)), some (.int a4), j5]) (st' := [.int (S 3 3), .ref 60]) (h' := Hp S) 1 (fun Z => gfI (E := E) sh3 rfl _) ?_
      refine wp_call (pc' := 89) (rest := []) (fun Z => rfl) (isO_of sh60) hw ?_
      rintro o h1 ⟨x1, S2, rfl, rfl, hw⟩
      refine ⟨_, rfl, ?_⟩
      show wp E (d + 1) m_Chance_live 89 [some (.ref 60), j1, some (.int a2), some (.int (nI a3)), some (.int a4), j5] [.int x1] (Hp S2) (QV Q)
      refine wp_st (pc' := 92) (L' := [some (.ref 60), j1, some (.int a2), some (.int (nI a3)), some (.int a4), some (.int x1)]) (st' := [.ref 60]) (h' := Hp S2) 2 (fun Z => rfl) ?_
      refine wp_st (pc' := 95) (L' := [some (.ref 60), j1, some (.int a2), some (.int (nI a3)), some (.int a4), some (.int x1)]) (st' := [.ref 61]) (h' := Hp S2) 1 (fun Z => gfR (E := E) sh60 rfl _) ?_
      refine wp_st (pc' := 100) (L' := [some (.ref 60), j1, some (.int a2), some (.int (nI a3)), some (.int a4), some (.int x1)]) (st' := [.int 60, .ref 60, .int x1, .ref 61]) (h' := Hp S2) 3 (fun Z => rfl) ?_
      refine wp_call (pc' := 103) (rest := [.int x1, .ref 61]) (fun Z => rfl) (isO_of sh60) hw ?_
      rintro o h1 ⟨x3, S4, rfl, rfl, hw⟩
      refine ⟨_, rfl, ?_⟩
      show wp E (d + 1) m_Chance_live 103 [some (.ref 60), j1, some (.int a2), some (.int (nI a3)), some (.int a4), some (.int x1)] [.int x3, .int x1, .ref 61] (Hp S4) (QV Q)
      refine wp_call (pc' := 106) (rest := []) (fun Z => rfl) (isO_of sh61) hw ?_
      rintro o h1 ⟨S6, rfl, rfl, hw⟩
      refine ⟨_, rfl, ?_⟩
      show wp E (d + 1) m_Chance_live 106 [some (.ref 60), j1, some (.int a2), some (.int (nI a3)), some (.int a4), some (.int x1)] [] (Hp S6) (QV Q)
      exact (show wp E (d + 1) m_Chance_live 106 [some (.ref 60), j1, some (.int a2), some (.int (nI a3)), some (.int a4), some (.int x1)] [] (Hp S6) (QV Q) from (hw j1 (some (.int a4)) (some (.int x1))))
  · rw [if_neg hc] at hw
    refine wp_st (pc' := 106) (L' := [some (.ref 60), j1, some (.int a2), some (.int (nI a3)), some (.int a4), j5]) (st' := []) (h' := Hp S) 1 (fun Z => if_neg hc) ?_
    exact (show wp E (d + 1) m_Chance_live 106 [some (.ref 60), j1, some (.int a2), some (.int (nI a3)), some (.int a4), j5] [] (Hp S) (QV Q) from (hw j1 (some (.int a4)) j5))
set_option maxRecDepth 4000 in
theorem w_Chance_live_106 {E : zX} {d : Nat} {S : St} {a2 : Int32} {a3 : Nat} {Q : St → Prop} (hd : 1 ≤ d) 
    (hw : k_Downs_passDay E (d - 1) S 61 (fun S2 =>
    k_Integer_bitCount E (d - 1) S2 (S2 39 0) (fun x3 S4 =>
    ∀ S5, S5 = up S4 60 0 ((S2 60 0) + x3) →
    k_Integer_bitCount E (d - 1) S5 (S5 39 2) (fun x6 S7 =>
    ∀ S8, S8 = up S7 60 1 ((S5 60 1) + x6) →
    k_Chance_live_28 E d S8 a2 (a3 + 1) Q)))) :
    k_Chance_live_106 E d S a2 a3 Q := by
  obtain ⟨d, rfl⟩ := Nat.exists_eq_add_of_le' hd
  intro j1 j4 j5
  show wp E (d + 1) m_Chance_live 106 [some (.ref 60), j1, some (.int a2), some (.int (nI a3)), j4, j5] [] (Hp S) (QV Q)
  refine wp_st (pc' := 107) (L' := [some (.ref 60), j1, some (.int a2), some (.int (nI a3)), j4, j5]) (st' := [.ref 60]) (h' := Hp S) 1 (fun Z => rfl) ?_
  refine wp_st (pc' := 110) (L' := [some (.ref 60), j1, some (.int a2), some (.int (nI a3)), j4, j5]) (st' := [.ref 38]) (h' := Hp S) 1 (fun Z => gfR (E := E) sh60 rfl _) ?_
  refine wp_st (pc' := 111) (L' := [some (.ref 60), j1, some (.int a2), some (.int (nI a3)), j4, j5]) (st' := [.ref 60, .ref 38]) (h' := Hp S) 1 (fun Z => rfl) ?_
  refine wp_st (pc' := 114) (L' := [some (.ref 60), j1, some (.int a2), some (.int (nI a3)), j4, j5]) (st' := [.ref 61, .ref 38]) (h' := Hp S) 1 (fun Z => gfR (E := E) sh60 rfl _) ?_
  refine wp_call (pc' := 117) (rest := []) (fun Z => rfl) (isO_of sh38) hw ?_
  rintro o h1 ⟨S2, rfl, rfl, hw⟩
  refine ⟨_, rfl, ?_⟩
  show wp E (d + 1) m_Chance_live 117 [some (.ref 60), j1, some (.int a2), some (.int (nI a3)), j4, j5] [] (Hp S2) (QV Q)
  refine wp_st (pc' := 119) (L' := [some (.ref 60), j1, some (.int a2), some (.int (nI a3)), j4, j5]) (st' := [.ref 60, .ref 60]) (h' := Hp S2) 2 (fun Z => rfl) ?_
  refine wp_st (pc' := 122) (L' := [some (.ref 60), j1, some (.int a2), some (.int (nI a3)), j4, j5]) (st' := [.int (S2 60 0), .ref 60]) (h' := Hp S2) 1 (fun Z => gfI (E := E) sh60 rfl _) ?_
  refine wp_st (pc' := 123) (L' := [some (.ref 60), j1, some (.int a2), some (.int (nI a3)), j4, j5]) (st' := [.ref 60, .int (S2 60 0), .ref 60]) (h' := Hp S2) 1 (fun Z => rfl) ?_
  refine wp_st (pc' := 126) (L' := [some (.ref 60), j1, some (.int a2), some (.int (nI a3)), j4, j5]) (st' := [.ref 38, .int (S2 60 0), .ref 60]) (h' := Hp S2) 1 (fun Z => gfR (E := E) sh60 rfl _) ?_
  refine wp_st (pc' := 129) (L' := [some (.ref 60), j1, some (.int a2), some (.int (nI a3)), j4, j5]) (st' := [.ref 39, .int (S2 60 0), .ref 60]) (h' := Hp S2) 1 (fun Z => gfR (E := E) sh38 rfl _) ?_
  refine wp_st (pc' := 130) (L' := [some (.ref 60), j1, some (.int a2), some (.int (nI a3)), j4, j5]) (st' := [.int 0, .ref 39, .int (S2 60 0), .ref 60]) (h' := Hp S2) 1 (fun Z => rfl) ?_
  refine wp_st (pc' := 131) (L' := [some (.ref 60), j1, some (.int a2), some (.int (nI a3)), j4, j5]) (st' := [.int (S2 39 0), .int (S2 60 0), .ref 60]) (h' := Hp S2) 1 (fun Z => ldN (E := E) sh39 (by decide) (by decide) [.int (S2 60 0), .ref 60] (fun st => Z (d + 1) m_Chance_live 131 [some (.ref 60), j1, some (.int a2), some (.int (nI a3)), j4, j5] st (Hp S2))) ?_
  refine wp_call (pc' := 134) (rest := [.int (S2 60 0), .ref 60]) (fun Z => rfl) rfl hw ?_
  rintro o h1 ⟨x3, S4, rfl, rfl, hw⟩
  refine ⟨_, rfl, ?_⟩
  show wp E (d + 1) m_Chance_live 134 [some (.ref 60), j1, some (.int a2), some (.int (nI a3)), j4, j5] [.int x3, .int (S2 60 0), .ref 60] (Hp S4) (QV Q)
  refine wp_st (pc' := 135) (L' := [some (.ref 60), j1, some (.int a2), some (.int (nI a3)), j4, j5]) (st' := [.int ((S2 60 0) + x3), .ref 60]) (h' := Hp S4) 1 (fun Z => rfl) ?_
  have hw := hw _ rfl
  refine wp_st (pc' := 138) (L' := [some (.ref 60), j1, some (.int a2), some (.int (nI a3)), j4, j5]) (st' := []) (h' := Hp (up S4 60 0 ((S2 60 0) + x3))) 1 (fun Z => pfI sh60 rfl (Nat.le_of_ble_eq_true rfl) rfl _) ?_
  generalize up S4 60 0 ((S2 60 0) + x3) = S5 at hw ⊢
  refine wp_st (pc' := 140) (L' := [some (.ref 60), j1, some (.int a2), some (.int (nI a3)), j4, j5]) (st' := [.ref 60, .ref 60]) (h' := Hp S5) 2 (fun Z => rfl) ?_
  refine wp_st (pc' := 143) (L' := [some (.ref 60), j1, some (.int a2), some (.int (nI a3)), j4, j5]) (st' := [.int (S5 60 1), .ref 60]) (h' := Hp S5) 1 (fun Z => gfI (E := E) sh60 rfl _) ?_
  refine wp_st (pc' := 144) (L' := [some (.ref 60), j1, some (.int a2), some (.int (nI a3)), j4, j5]) (st' := [.ref 60, .int (S5 60 1), .ref 60]) (h' := Hp S5) 1 (fun Z => rfl) ?_
  refine wp_st (pc' := 147) (L' := [some (.ref 60), j1, some (.int a2), some (.int (nI a3)), j4, j5]) (st' := [.ref 38, .int (S5 60 1), .ref 60]) (h' := Hp S5) 1 (fun Z => gfR (E := E) sh60 rfl _) ?_
  refine wp_st (pc' := 150) (L' := [some (.ref 60), j1, some (.int a2), some (.int (nI a3)), j4, j5]) (st' := [.ref 39, .int (S5 60 1), .ref 60]) (h' := Hp S5) 1 (fun Z => gfR (E := E) sh38 rfl _) ?_
  refine wp_st (pc' := 151) (L' := [some (.ref 60), j1, some (.int a2), some (.int (nI a3)), j4, j5]) (st' := [.int 2, .ref 39, .int (S5 60 1), .ref 60]) (h' := Hp S5) 1 (fun Z => rfl) ?_
  refine wp_st (pc' := 152) (L' := [some (.ref 60), j1, some (.int a2), some (.int (nI a3)), j4, j5]) (st' := [.int (S5 39 2), .int (S5 60 1), .ref 60]) (h' := Hp S5) 1 (fun Z => ldN (E := E) sh39 (by decide) (by decide) [.int (S5 60 1), .ref 60] (fun st => Z (d + 1) m_Chance_live 152 [some (.ref 60), j1, some (.int a2), some (.int (nI a3)), j4, j5] st (Hp S5))) ?_
  refine wp_call (pc' := 155) (rest := [.int (S5 60 1), .ref 60]) (fun Z => rfl) rfl hw ?_
  rintro o h1 ⟨x6, S7, rfl, rfl, hw⟩
  refine ⟨_, rfl, ?_⟩
  show wp E (d + 1) m_Chance_live 155 [some (.ref 60), j1, some (.int a2), some (.int (nI a3)), j4, j5] [.int x6, .int (S5 60 1), .ref 60] (Hp S7) (QV Q)
  refine wp_st (pc' := 156) (L' := [some (.ref 60), j1, some (.int a2), some (.int (nI a3)), j4, j5]) (st' := [.int ((S5 60 1) + x6), .ref 60]) (h' := Hp S7) 1 (fun Z => rfl) ?_
  have hw := hw _ rfl
  refine wp_st (pc' := 159) (L' := [some (.ref 60), j1, some (.int a2), some (.int (nI a3)), j4, j5]) (st' := []) (h' := Hp (up S7 60 1 ((S5 60 1) + x6))) 1 (fun Z => pfI sh60 rfl (Nat.le_of_ble_eq_true rfl) rfl _) ?_
  generalize up S7 60 1 ((S5 60 1) + x6) = S8 at hw ⊢
  refine wp_st (pc' := 162) (L' := [some (.ref 60), j1, some (.int a2), some (.int (nI (a3 + 1))), j4, j5]) (st' := []) (h' := Hp S8) 1 (fun Z => by rw [← nI_add a3 1]; rfl) ?_
  exact wp_st 1 (fun Z => rfl) (show wp E (d + 1) m_Chance_live 28 [some (.ref 60), j1, some (.int a2), some (.int (nI (a3 + 1))), j4, j5] [] (Hp S8) (QV Q) from (hw j1 j4 j5))
set_option maxRecDepth 4000 in
theorem w_Chance_draw {E : zX} {d : Nat} {S : St} {a1 : Int32} {Q : Int32 → St → Prop} 
    (hw : ∀ S1, S1 = up S 60 9 (((S 60 9) * (1103515245 : Int32)) + (12345 : Int32)) →
    if a1 ≤ 0 then (
      Q (0 : Int32) S1)
    else (
      ¬ a1 = 0 ∧
      Q (zrem ((zushr (S1 60 9) 16) &&& (32767 : Int32)) a1) S1)) :
    k_Chance_draw E d S a1 Q := by
  show wp E d m_Chance_draw 0 [some (.ref 60), some (.int a1)] [] (Hp S) (QI Q)
  refine wp_st (pc' := 2) (L' := [some (.ref 60), some (.int a1)]) (st' := [.ref 60, .ref 60]) (h' := Hp S) 2 (fun Z => rfl) ?_
  refine wp_st (pc' := 5) (L' := [some (.ref 60), some (.int a1)]) (st' := [.int (S 60 9), .ref 60]) (h' := Hp S) 1 (fun Z => gfI (E := E) sh60 rfl _) ?_
  refine wp_st (pc' := 12) (L' := [some (.ref 60), some (.int a1)]) (st' := [.int (((S 60 9) * (1103515245 : Int32)) + (12345 : Int32)), .ref 60]) (h' := Hp S) 4 (fun Z => rfl) ?_
  have hw := hw _ rfl
  refine wp_st (pc' := 15) (L' := [some (.ref 60), some (.int a1)]) (st' := []) (h' := Hp (up S 60 9 (((S 60 9) * (1103515245 : Int32)) + (12345 : Int32)))) 1 (fun Z => pfI sh60 rfl (Nat.le_of_ble_eq_true rfl) rfl _) ?_
  generalize up S 60 9 (((S 60 9) * (1103515245 : Int32)) + (12345 : Int32)) = S1 at hw ⊢
  refine wp_st (pc' := 16) (L' := [some (.ref 60), some (.int a1)]) (st' := [.int a1]) (h' := Hp S1) 1 (fun Z => rfl) ?_
  by_cases hc : a1 ≤ 0
  · rw [if_pos hc] at hw
    refine wp_st (pc' := 35) (L' := [some (.ref 60), some (.int a1)]) (st' := []) (h' := Hp S1) 1 (fun Z => if_pos hc) ?_
    refine wp_st (pc' := 36) (L' := [some (.ref 60), some (.int a1)]) (st' := [.int 0]) (h' := Hp S1) 1 (fun Z => rfl) ?_
    exact wp_ret (fun Z => rfl) ⟨_, _, rfl, rfl, hw⟩
  · rw [if_neg hc] at hw
    refine wp_st (pc' := 19) (L' := [some (.ref 60), some (.int a1)]) (st' := []) (h' := Hp S1) 1 (fun Z => if_neg hc) ?_
    refine wp_st (pc' := 20) (L' := [some (.ref 60), some (.int a1)]) (st' := [.ref 60]) (h' := Hp S1) 1 (fun Z => rfl) ?_
    refine wp_st (pc' := 23) (L' := [some (.ref 60), some (.int a1)]) (st' := [.int (S1 60 9)]) (h' := Hp S1) 1 (fun Z => gfI (E := E) sh60 rfl _) ?_
    refine wp_st (pc' := 31) (L' := [some (.ref 60), some (.int a1)]) (st' := [.int a1, .int ((zushr (S1 60 9) 16) &&& (32767 : Int32))]) (h' := Hp S1) 5 (fun Z => rfl) ?_
    obtain ⟨hz, hw⟩ := hw
    refine wp_st (pc' := 32) (L' := [some (.ref 60), some (.int a1)]) (st' := [.int (zrem ((zushr (S1 60 9) 16) &&& (32767 : Int32)) a1)]) (h' := Hp S1) 1 (fun Z => if_neg hz) ?_
    refine wp_st (pc' := 36) (L' := [some (.ref 60), some (.int a1)]) (st' := [.int (zrem ((zushr (S1 60 9) 16) &&& (32767 : Int32)) a1)]) (h' := Hp S1) 1 (fun Z => rfl) ?_
    exact wp_ret (fun Z => rfl) ⟨_, _, rfl, rfl, hw⟩
set_option maxRecDepth 4000 in
theorem w_Chance_treadDrawn {E : zX} {d : Nat} {S : St}  {Q : St → Prop} (hd : 1 ≤ d) 
    (hw : k_Chance_draw E (d - 1) S (S 3 4) (fun x1 S2 =>
    k_Scene_isLoose E (d - 1) S2 61 x1 (fun x3 S4 =>
    if x3 = 0 then (
      Q S4)
    else (
      k_Downs_burst E (d - 1) S4 61 ((1 : Int32) <<< (x1 &&& 31)) (fun x5 S6 =>
      k_Integer_bitCount E (d - 1) S6 x5 (fun x7 S8 =>
      ∀ S9, S9 = up S8 60 0 ((S4 60 0) + x7) →
      Q S9)))))) :
    k_Chance_treadDrawn E d S Q := by
  obtain ⟨d, rfl⟩ := Nat.exists_eq_add_of_le' hd
  show wp E (d + 1) m_Chance_treadDrawn 0 [some (.ref 60), none] [] (Hp S) (QV Q)
  refine wp_st (pc' := 2) (L' := [some (.ref 60), none]) (st' := [.ref 60, .ref 60]) (h' := Hp S) 2 (fun Z => rfl) ?_
  refine wp_st (pc' := 5) (L' := [some (.ref 60), none]) (st' := [.ref 3, .ref 60]) (h' := Hp S) 1 (fun Z => gfR (E := E) sh60 rfl _) ?_
  refine wp_st (pc' := 8) (L' := [some (.ref 60), none]) (st' := [.int (S 3 4), .ref 60]) (h' := Hp S) 1 (fun Z => gfI (E := E) sh3 rfl _) ?_
  refine wp_call (pc' := 11) (rest := []) (fun Z => rfl) (isO_of sh60) hw ?_
  rintro o h1 ⟨x1, S2, rfl, rfl, hw⟩
  refine ⟨_, rfl, ?_⟩
  show wp E (d + 1) m_Chance_treadDrawn 11 [some (.ref 60), none] [.int x1] (Hp S2) (QV Q)
  refine wp_st (pc' := 13) (L' := [some (.ref 60), some (.int x1)]) (st' := [.ref 60]) (h' := Hp S2) 2 (fun Z => rfl) ?_
  refine wp_st (pc' := 16) (L' := [some (.ref 60), some (.int x1)]) (st' := [.ref 61]) (h' := Hp S2) 1 (fun Z => gfR (E := E) sh60 rfl _) ?_
  refine wp_st (pc' := 17) (L' := [some (.ref 60), some (.int x1)]) (st' := [.int x1, .ref 61]) (h' := Hp S2) 1 (fun Z => rfl) ?_
  refine wp_call (pc' := 20) (rest := []) (fun Z => rfl) (isO_of sh61) hw ?_
  rintro o h1 ⟨x3, S4, rfl, rfl, hw⟩
  refine ⟨_, rfl, ?_⟩
  show wp E (d + 1) m_Chance_treadDrawn 20 [some (.ref 60), some (.int x1)] [.int x3] (Hp S4) (QV Q)
  by_cases hc : x3 = 0
  · rw [if_pos hc] at hw
    refine wp_st (pc' := 49) (L' := [some (.ref 60), some (.int x1)]) (st' := []) (h' := Hp S4) 1 (fun Z => if_pos hc) ?_
    exact wp_ret (fun Z => rfl) ⟨_, rfl, rfl, hw⟩
  · rw [if_neg hc] at hw
    refine wp_st (pc' := 23) (L' := [some (.ref 60), some (.int x1)]) (st' := []) (h' := Hp S4) 1 (fun Z => if_neg hc) ?_
    refine wp_st (pc' := 25) (L' := [some (.ref 60), some (.int x1)]) (st' := [.ref 60, .ref 60]) (h' := Hp S4) 2 (fun Z => rfl) ?_
    refine wp_st (pc' := 28) (L' := [some (.ref 60), some (.int x1)]) (st' := [.int (S4 60 0), .ref 60]) (h' := Hp S4) 1 (fun Z => gfI (E := E) sh60 rfl _) ?_
    refine wp_st (pc' := 29) (L' := [some (.ref 60), some (.int x1)]) (st' := [.ref 60, .int (S4 60 0), .ref 60]) (h' := Hp S4) 1 (fun Z => rfl) ?_
    refine wp_st (pc' := 32) (L' := [some (.ref 60), some (.int x1)]) (st' := [.ref 38, .int (S4 60 0), .ref 60]) (h' := Hp S4) 1 (fun Z => gfR (E := E) sh60 rfl _) ?_
    refine wp_st (pc' := 33) (L' := [some (.ref 60), some (.int x1)]) (st' := [.ref 60, .ref 38, .int (S4 60 0), .ref 60]) (h' := Hp S4) 1 (fun Z => rfl) ?_
    refine wp_st (pc' := 36) (L' := [some (.ref 60), some (.int x1)]) (st' := [.ref 61, .ref 38, .int (S4 60 0), .ref 60]) (h' := Hp S4) 1 (fun Z => gfR (E := E) sh60 rfl _) ?_
    refine wp_st (pc' := 39) (L' := [some (.ref 60), some (.int x1)]) (st' := [.int ((1 : Int32) <<< (x1 &&& 31)), .ref 61, .ref 38, .int (S4 60 0), .ref 60]) (h' := Hp S4) 3 (fun Z => rfl) ?_
    refine wp_call (pc' := 42) (rest := [.int (S4 60 0), .ref 60]) (fun Z => rfl) (isO_of sh38) hw ?_
    rintro o h1 ⟨x5, S6, rfl, rfl, hw⟩
    refine ⟨_, rfl, ?_⟩
    show wp E (d + 1) m_Chance_treadDrawn 42 [some (.ref 60), some (.int x1)] [.int x5, .int (S4 60 0), .ref 60] (Hp S6) (QV Q)
    refine wp_call (pc' := 45) (rest := [.int (S4 60 0), .ref 60]) (fun Z => rfl) rfl hw ?_
    rintro o h1 ⟨x7, S8, rfl, rfl, hw⟩
    refine ⟨_, rfl, ?_⟩
    show wp E (d + 1) m_Chance_treadDrawn 45 [some (.ref 60), some (.int x1)] [.int x7, .int (S4 60 0), .ref 60] (Hp S8) (QV Q)
    refine wp_st (pc' := 46) (L' := [some (.ref 60), some (.int x1)]) (st' := [.int ((S4 60 0) + x7), .ref 60]) (h' := Hp S8) 1 (fun Z => rfl) ?_
    have hw := hw _ rfl
    refine wp_st (pc' := 49) (L' := [some (.ref 60), some (.int x1)]) (st' := []) (h' := Hp (up S8 60 0 ((S4 60 0) + x7))) 1 (fun Z => pfI sh60 rfl (Nat.le_of_ble_eq_true rfl) rfl _) ?_
    generalize up S8 60 0 ((S4 60 0) + x7) = S9 at hw ⊢
    exact wp_ret (fun Z => rfl) ⟨_, rfl, rfl, hw⟩
set_option maxRecDepth 4000 in
theorem w_Forecast_firstToBurst {E : zX} {d : Nat} {S : St}  {Q : Int32 → St → Prop} (hd : 1 ≤ d) 
    (hw : k_Forecast_firstDay E (d - 1) S 0 (-1) (fun x1 S2 =>
    if x1 = (-1) then (
      Q ((-1) : Int32) S2)
    else (
      k_Forecast_firstToBurst_14 E d S2 0 Q))) :
    k_Forecast_firstToBurst E d S Q := by
  obtain ⟨d, rfl⟩ := Nat.exists_eq_add_of_le' hd
  show wp E (d + 1) m_Forecast_firstToBurst 0 [some (.ref 43), none] [] (Hp S) (QI Q)
  refine wp_st (pc' := 2) (L' := [some (.ref 43), none]) (st' := [.int 0, .ref 43]) (h' := Hp S) 2 (fun Z => rfl) ?_
  refine wp_st (pc' := 3) (L' := [some (.ref 43), none]) (st' := [.int (-1), .int 0, .ref 43]) (h' := Hp S) 1 (fun Z => congrArg (fun v => Z (d + 1) m_Forecast_firstToBurst 3 [some (.ref 43), none] [.int v, .int 0, .ref 43] (Hp S)) (show Int32.ofInt (-1) = (-1) by decide)) ?_
  refine wp_call (pc' := 6) (rest := []) (fun Z => rfl) (isO_of sh43) hw ?_
  rintro o h1 ⟨x1, S2, rfl, rfl, hw⟩
  refine ⟨_, rfl, ?_⟩
  show wp E (d + 1) m_Forecast_firstToBurst 6 [some (.ref 43), none] [.int x1] (Hp S2) (QI Q)
  refine wp_st (pc' := 7) (L' := [some (.ref 43), none]) (st' := [.int (-1), .int x1]) (h' := Hp S2) 1 (fun Z => congrArg (fun v => Z (d + 1) m_Forecast_firstToBurst 7 [some (.ref 43), none] [.int v, .int x1] (Hp S2)) (show Int32.ofInt (-1) = (-1) by decide)) ?_
  by_cases hc : x1 = (-1)
  · rw [if_pos hc] at hw
    refine wp_st (pc' := 10) (L' := [some (.ref 43), none]) (st' := []) (h' := Hp S2) 1 (fun Z => if_pos hc) ?_
    refine wp_st (pc' := 11) (L' := [some (.ref 43), none]) (st' := [.int (-1)]) (h' := Hp S2) 1 (fun Z => congrArg (fun v => Z (d + 1) m_Forecast_firstToBurst 11 [some (.ref 43), none] [.int v] (Hp S2)) (show Int32.ofInt (-1) = (-1) by decide)) ?_
    exact wp_ret (fun Z => rfl) ⟨_, _, rfl, rfl, hw⟩
  · rw [if_neg hc] at hw
    refine wp_st (pc' := 12) (L' := [some (.ref 43), none]) (st' := []) (h' := Hp S2) 1 (fun Z => if_neg hc) ?_
    exact wp_st 2 (fun Z => rfl) (show wp E (d + 1) m_Forecast_firstToBurst 14 [some (.ref 43), some (.int 0)] [] (Hp S2) (QI Q) from hw)
set_option maxRecDepth 4000 in
theorem w_Forecast_firstToBurst_14 {E : zX} {d : Nat} {S : St} {a1 : Nat} {Q : Int32 → St → Prop} (hd : 1 ≤ d) 
    (hw : if nI 10 ≤ (nI a1) then (
      Q ((-1) : Int32) S)
    else (
      if ((S 39 0) &&& (bt a1)) = 0 then (
        k_Forecast_firstToBurst_14 E d S (a1 + 1) Q)
      else (
        Q (nI a1) S))) :
    k_Forecast_firstToBurst_14 E d S a1 Q := by
  obtain ⟨d, rfl⟩ := Nat.exists_eq_add_of_le' hd
  show wp E (d + 1) m_Forecast_firstToBurst 14 [some (.ref 43), some (.int (nI a1))] [] (Hp S) (QI Q)
  refine wp_st (pc' := 17) (L' := [some (.ref 43), some (.int (nI a1))]) (st' := [.int 10, .int (nI a1)]) (h' := Hp S) 2 (fun Z => rfl) ?_
  by_cases hc : nI 10 ≤ (nI a1)
  · rw [if_pos hc] at hw
    refine wp_st (pc' := 44) (L' := [some (.ref 43), some (.int (nI a1))]) (st' := []) (h' := Hp S) 1 (fun Z => if_pos hc) ?_
    refine wp_st (pc' := 45) (L' := [some (.ref 43), some (.int (nI a1))]) (st' := [.int (-1)]) (h' := Hp S) 1 (fun Z => congrArg (fun v => Z (d + 1) m_Forecast_firstToBurst 45 [some (.ref 43), some (.int (nI a1))] [.int v] (Hp S)) (show Int32.ofInt (-1) = (-1) by decide)) ?_
    exact wp_ret (fun Z => rfl) ⟨_, _, rfl, rfl, hw⟩
  · rw [if_neg hc] at hw
    refine wp_st (pc' := 20) (L' := [some (.ref 43), some (.int (nI a1))]) (st' := []) (h' := Hp S) 1 (fun Z => if_neg hc) ?_
    refine wp_st (pc' := 21) (L' := [some (.ref 43), some (.int (nI a1))]) (st' := [.ref 43]) (h' := Hp S) 1 (fun Z => rfl) ?_
    refine wp_st (pc' := 24) (L' := [some (.ref 43), some (.int (nI a1))]) (st' := [.ref 38]) (h' := Hp S) 1 (fun Z => gfR (E := E) sh43 rfl _) ?_
    refine wp_st (pc' := 27) (L' := [some (.ref 43), some (.int (nI a1))]) (st' := [.ref 39]) (h' := Hp S) 1 (fun Z => gfR (E := E) sh38 rfl _) ?_
    refine wp_st (pc' := 28) (L' := [some (.ref 43), some (.int (nI a1))]) (st' := [.int 0, .ref 39]) (h' := Hp S) 1 (fun Z => rfl) ?_
    refine wp_st (pc' := 29) (L' := [some (.ref 43), some (.int (nI a1))]) (st' := [.int (S 39 0)]) (h' := Hp S) 1 (fun Z => ldN (E := E) sh39 (by decide) (by decide) [] (fun st => Z (d + 1) m_Forecast_firstToBurst 29 [some (.ref 43), some (.int (nI a1))] st (Hp S))) ?_
    refine wp_st (pc' := 33) (L' := [some (.ref 43), some (.int (nI a1))]) (st' := [.int ((S 39 0) &&& (bt a1))]) (h' := Hp S) 4 (fun Z => rfl) ?_
    by_cases hc : ((S 39 0) &&& (bt a1)) = 0
    · rw [if_pos hc] at hw
      refine wp_st (pc' := 38) (L' := [some (.ref 43), some (.int (nI a1))]) (st' := []) (h' := Hp S) 1 (fun Z => if_pos hc) ?_
      refine wp_st (pc' := 41) (L' := [some (.ref 43), some (.int (nI (a1 + 1)))]) (st' := []) (h' := Hp S) 1 (fun Z => by rw [← nI_add a1 1]; rfl) ?_
      exact wp_st 1 (fun Z => rfl) (show wp E (d + 1) m_Forecast_firstToBurst 14 [some (.ref 43), some (.int (nI (a1 + 1)))] [] (Hp S) (QI Q) from hw)
    · rw [if_neg hc] at hw
      refine wp_st (pc' := 36) (L' := [some (.ref 43), some (.int (nI a1))]) (st' := []) (h' := Hp S) 1 (fun Z => if_neg hc) ?_
      refine wp_st (pc' := 37) (L' := [some (.ref 43), some (.int (nI a1))]) (st' := [.int (nI a1)]) (h' := Hp S) 1 (fun Z => rfl) ?_
      exact wp_ret (fun Z => rfl) ⟨_, _, rfl, rfl, hw⟩
set_option maxRecDepth 4000 in
theorem w_Forecast_firstDay {E : zX} {d : Nat} {S : St} {a1 : Nat} {a2 : Int32} {Q : Int32 → St → Prop} (hd : 1 ≤ d) 
    (hw : k_Scene_copyFrom E (d - 1) S 44 25 (fun S2 =>
    k_Forecast_firstDay_13 E d S2 a1 a2 1 Q)) :
    k_Forecast_firstDay E d S (nI a1) a2 Q := by
  obtain ⟨d, rfl⟩ := Nat.exists_eq_add_of_le' hd
  show wp E (d + 1) m_Forecast_firstDay 0 [some (.ref 43), some (.int (nI a1)), some (.int a2), none] [] (Hp S) (QI Q)
  refine wp_st (pc' := 1) (L' := [some (.ref 43), some (.int (nI a1)), some (.int a2), none]) (st' := [.ref 43]) (h' := Hp S) 1 (fun Z => rfl) ?_
  refine wp_st (pc' := 4) (L' := [some (.ref 43), some (.int (nI a1)), some (.int a2), none]) (st' := [.ref 44]) (h' := Hp S) 1 (fun Z => gfR (E := E) sh43 rfl _) ?_
  refine wp_st (pc' := 5) (L' := [some (.ref 43), some (.int (nI a1)), some (.int a2), none]) (st' := [.ref 43, .ref 44]) (h' := Hp S) 1 (fun Z => rfl) ?_
  refine wp_st (pc' := 8) (L' := [some (.ref 43), some (.int (nI a1)), some (.int a2), none]) (st' := [.ref 25, .ref 44]) (h' := Hp S) 1 (fun Z => gfR (E := E) sh43 rfl _) ?_
  refine wp_call (pc' := 11) (rest := []) (fun Z => rfl) (isO_of sh44) hw ?_
  rintro o h1 ⟨S2, rfl, rfl, hw⟩
  refine ⟨_, rfl, ?_⟩
  show wp E (d + 1) m_Forecast_firstDay 11 [some (.ref 43), some (.int (nI a1)), some (.int a2), none] [] (Hp S2) (QI Q)
  exact wp_st 2 (fun Z => rfl) (show wp E (d + 1) m_Forecast_firstDay 13 [some (.ref 43), some (.int (nI a1)), some (.int a2), some (.int 1)] [] (Hp S2) (QI Q) from hw)
set_option maxRecDepth 4000 in
theorem w_Forecast_firstDay_13 {E : zX} {d : Nat} {S : St} {a1 : Nat} {a2 : Int32} {a3 : Nat} {Q : Int32 → St → Prop} (hd : 1 ≤ d) 
    (hw : if nI 60 < (nI a3) then (
      Q ((-1) : Int32) S)
    else (
      k_Downs_passDay E (d - 1) S 44 (fun S2 =>
      a1 < 3 ∧
      if ((S2 39 a1) &&& a2) = 0 then (
        k_Forecast_firstDay_13 E d S2 a1 a2 (a3 + 1) Q)
      else (
        Q (nI a3) S2)))) :
    k_Forecast_firstDay_13 E d S a1 a2 a3 Q := by
  obtain ⟨d, rfl⟩ := Nat.exists_eq_add_of_le' hd
  show wp E (d + 1) m_Forecast_firstDay 13 [some (.ref 43), some (.int (nI a1)), some (.int a2), some (.int (nI a3))] [] (Hp S) (QI Q)
  refine wp_st (pc' := 16) (L' := [some (.ref 43), some (.int (nI a1)), some (.int a2), some (.int (nI a3))]) (st' := [.int 60, .int (nI a3)]) (h' := Hp S) 2 (fun Z => rfl) ?_
  by_cases hc : nI 60 < (nI a3)
  · rw [if_pos hc] at hw
    refine wp_st (pc' := 52) (L' := [some (.ref 43), some (.int (nI a1)), some (.int a2), some (.int (nI a3))]) (st' := []) (h' := Hp S) 1 (fun Z => if_pos hc) ?_
    refine wp_st (pc' := 53) (L' := [some (.ref 43), some (.int (nI a1)), some (.int a2), some (.int (nI a3))]) (st' := [.int (-1)]) (h' := Hp S) 1 (fun Z => congrArg (fun v => Z (d + 1) m_Forecast_firstDay 53 [some (.ref 43), some (.int (nI a1)), some (.int a2), some (.int (nI a3))] [.int v] (Hp S)) (show Int32.ofInt (-1) = (-1) by decide)) ?_
    exact wp_ret (fun Z => rfl) ⟨_, _, rfl, rfl, hw⟩
  · rw [if_neg hc] at hw
    refine wp_st (pc' := 19) (L' := [some (.ref 43), some (.int (nI a1)), some (.int a2), some (.int (nI a3))]) (st' := []) (h' := Hp S) 1 (fun Z => if_neg hc) ?_
    refine wp_st (pc' := 20) (L' := [some (.ref 43), some (.int (nI a1)), some (.int a2), some (.int (nI a3))]) (st' := [.ref 43]) (h' := Hp S) 1 (fun Z => rfl) ?_
    refine wp_st (pc' := 23) (L' := [some (.ref 43), some (.int (nI a1)), some (.int a2), some (.int (nI a3))]) (st' := [.ref 38]) (h' := Hp S) 1 (fun Z => gfR (E := E) sh43 rfl _) ?_
    refine wp_st (pc' := 24) (L' := [some (.ref 43), some (.int (nI a1)), some (.int a2), some (.int (nI a3))]) (st' := [.ref 43, .ref 38]) (h' := Hp S) 1 (fun Z => rfl) ?_
    refine wp_st (pc' := 27) (L' := [some (.ref 43), some (.int (nI a1)), some (.int a2), some (.int (nI a3))]) (st' := [.ref 44, .ref 38]) (h' := Hp S) 1 (fun Z => gfR (E := E) sh43 rfl _) ?_
    refine wp_call (pc' := 30) (rest := []) (fun Z => rfl) (isO_of sh38) hw ?_
    rintro o h1 ⟨S2, rfl, rfl, hw⟩
    refine ⟨_, rfl, ?_⟩
    show wp E (d + 1) m_Forecast_firstDay 30 [some (.ref 43), some (.int (nI a1)), some (.int a2), some (.int (nI a3))] [] (Hp S2) (QI Q)
    refine wp_st (pc' := 31) (L' := [some (.ref 43), some (.int (nI a1)), some (.int a2), some (.int (nI a3))]) (st' := [.ref 43]) (h' := Hp S2) 1 (fun Z => rfl) ?_
    refine wp_st (pc' := 34) (L' := [some (.ref 43), some (.int (nI a1)), some (.int a2), some (.int (nI a3))]) (st' := [.ref 38]) (h' := Hp S2) 1 (fun Z => gfR (E := E) sh43 rfl _) ?_
    refine wp_st (pc' := 37) (L' := [some (.ref 43), some (.int (nI a1)), some (.int a2), some (.int (nI a3))]) (st' := [.ref 39]) (h' := Hp S2) 1 (fun Z => gfR (E := E) sh38 rfl _) ?_
    refine wp_st (pc' := 38) (L' := [some (.ref 43), some (.int (nI a1)), some (.int a2), some (.int (nI a3))]) (st' := [.int (nI a1), .ref 39]) (h' := Hp S2) 1 (fun Z => rfl) ?_
    obtain ⟨hi, hw⟩ := hw
    refine wp_st (pc' := 39) (L' := [some (.ref 43), some (.int (nI a1)), some (.int a2), some (.int (nI a3))]) (st' := [.int (S2 39 a1)]) (h' := Hp S2) 1 (fun Z => ldN (E := E) sh39 (by decide) hi [] (fun st => Z (d + 1) m_Forecast_firstDay 39 [some (.ref 43), some (.int (nI a1)), some (.int a2), some (.int (nI a3))] st (Hp S2))) ?_
    refine wp_st (pc' := 41) (L' := [some (.ref 43), some (.int (nI a1)), some (.int a2), some (.int (nI a3))]) (st' := [.int ((S2 39 a1) &&& a2)]) (h' := Hp S2) 2 (fun Z => rfl) ?_
    by_cases hc : ((S2 39 a1) &&& a2) = 0
    · rw [if_pos hc] at hw
      refine wp_st (pc' := 46) (L' := [some (.ref 43), some (.int (nI a1)), some (.int a2), some (.int (nI a3))]) (st' := []) (h' := Hp S2) 1 (fun Z => if_pos hc) ?_
      refine wp_st (pc' := 49) (L' := [some (.ref 43), some (.int (nI a1)), some (.int a2), some (.int (nI (a3 + 1)))]) (st' := []) (h' := Hp S2) 1 (fun Z => by rw [← nI_add a3 1]; rfl) ?_
      exact wp_st 1 (fun Z => rfl) (show wp E (d + 1) m_Forecast_firstDay 13 [some (.ref 43), some (.int (nI a1)), some (.int a2), some (.int (nI (a3 + 1)))] [] (Hp S2) (QI Q) from hw)
    · rw [if_neg hc] at hw
      refine wp_st (pc' := 44) (L' := [some (.ref 43), some (.int (nI a1)), some (.int a2), some (.int (nI a3))]) (st' := []) (h' := Hp S2) 1 (fun Z => if_neg hc) ?_
      refine wp_st (pc' := 45) (L' := [some (.ref 43), some (.int (nI a1)), some (.int a2), some (.int (nI a3))]) (st' := [.int (nI a3)]) (h' := Hp S2) 1 (fun Z => rfl) ?_
      exact wp_ret (fun Z => rfl) ⟨_, _, rfl, rfl, hw⟩
set_option maxRecDepth 4000 in
theorem w_Forecast_behind {E : zX} {d : Nat} {S : St} {a1 : Int32} {Q : Nat → St → Prop} (hd : 1 ≤ d) 
    (hw : k_Scene_copyFrom E (d - 1) S 44 25 (fun S2 =>
    k_Forecast_behind_13 E d S2 a1 1 Q)) :
    k_Forecast_behind E d S a1 Q := by
  obtain ⟨d, rfl⟩ := Nat.exists_eq_add_of_le' hd
  show wp E (d + 1) m_Forecast_behind 0 [some (.ref 43), some (.int a1), none] [] (Hp S) (QR Q)
  refine wp_st (pc' := 1) (L' := [some (.ref 43), some (.int a1), none]) (st' := [.ref 43]) (h' := Hp S) 1 (fun Z => rfl) ?_
  refine wp_st (pc' := 4) (L' := [some (.ref 43), some (.int a1), none]) (st' := [.ref 44]) (h' := Hp S) 1 (fun Z => gfR (E := E) sh43 rfl _) ?_
  refine wp_st (pc' := 5) (L' := [some (.ref 43), some (.int a1), none]) (st' := [.ref 43, .ref 44]) (h' := Hp S) 1 (fun Z => rfl) ?_
  refine wp_st (pc' := 8) (L' := [some (.ref 43), some (.int a1), none]) (st' := [.ref 25, .ref 44]) (h' := Hp S) 1 (fun Z => gfR (E := E) sh43 rfl _) ?_
  refine wp_call (pc' := 11) (rest := []) (fun Z => rfl) (isO_of sh44) hw ?_
  rintro o h1 ⟨S2, rfl, rfl, hw⟩
  refine ⟨_, rfl, ?_⟩
  show wp E (d + 1) m_Forecast_behind 11 [some (.ref 43), some (.int a1), none] [] (Hp S2) (QR Q)
  exact wp_st 2 (fun Z => rfl) (show wp E (d + 1) m_Forecast_behind 13 [some (.ref 43), some (.int a1), some (.int 1)] [] (Hp S2) (QR Q) from hw)
set_option maxRecDepth 4000 in
theorem w_Forecast_behind_13 {E : zX} {d : Nat} {S : St} {a1 : Int32} {a2 : Nat} {Q : Nat → St → Prop} (hd : 1 ≤ d) 
    (hw : if a1 < (nI a2) then (
      Q 44 S)
    else (
      k_Downs_passDay E (d - 1) S 44 (fun S2 =>
      k_Forecast_behind_13 E d S2 a1 (a2 + 1) Q))) :
    k_Forecast_behind_13 E d S a1 a2 Q := by
  obtain ⟨d, rfl⟩ := Nat.exists_eq_add_of_le' hd
  show wp E (d + 1) m_Forecast_behind 13 [some (.ref 43), some (.int a1), some (.int (nI a2))] [] (Hp S) (QR Q)
  refine wp_st (pc' := 15) (L' := [some (.ref 43), some (.int a1), some (.int (nI a2))]) (st' := [.int a1, .int (nI a2)]) (h' := Hp S) 2 (fun Z => rfl) ?_
  by_cases hc : a1 < (nI a2)
  · rw [if_pos hc] at hw
    refine wp_st (pc' := 35) (L' := [some (.ref 43), some (.int a1), some (.int (nI a2))]) (st' := []) (h' := Hp S) 1 (fun Z => if_pos hc) ?_
    refine wp_st (pc' := 36) (L' := [some (.ref 43), some (.int a1), some (.int (nI a2))]) (st' := [.ref 43]) (h' := Hp S) 1 (fun Z => rfl) ?_
    refine wp_st (pc' := 39) (L' := [some (.ref 43), some (.int a1), some (.int (nI a2))]) (st' := [.ref 44]) (h' := Hp S) 1 (fun Z => gfR (E := E) sh43 rfl _) ?_
    exact wp_ret (fun Z => rfl) ⟨_, _, rfl, rfl, hw⟩
  · rw [if_neg hc] at hw
    refine wp_st (pc' := 18) (L' := [some (.ref 43), some (.int a1), some (.int (nI a2))]) (st' := []) (h' := Hp S) 1 (fun Z => if_neg hc) ?_
    refine wp_st (pc' := 19) (L' := [some (.ref 43), some (.int a1), some (.int (nI a2))]) (st' := [.ref 43]) (h' := Hp S) 1 (fun Z => rfl) ?_
    refine wp_st (pc' := 22) (L' := [some (.ref 43), some (.int a1), some (.int (nI a2))]) (st' := [.ref 38]) (h' := Hp S) 1 (fun Z => gfR (E := E) sh43 rfl _) ?_
    refine wp_st (pc' := 23) (L' := [some (.ref 43), some (.int a1), some (.int (nI a2))]) (st' := [.ref 43, .ref 38]) (h' := Hp S) 1 (fun Z => rfl) ?_
    refine wp_st (pc' := 26) (L' := [some (.ref 43), some (.int a1), some (.int (nI a2))]) (st' := [.ref 44, .ref 38]) (h' := Hp S) 1 (fun Z => gfR (E := E) sh43 rfl _) ?_
    refine wp_call (pc' := 29) (rest := []) (fun Z => rfl) (isO_of sh38) hw ?_
    rintro o h1 ⟨S2, rfl, rfl, hw⟩
    refine ⟨_, rfl, ?_⟩
    show wp E (d + 1) m_Forecast_behind 29 [some (.ref 43), some (.int a1), some (.int (nI a2))] [] (Hp S2) (QR Q)
    refine wp_st (pc' := 32) (L' := [some (.ref 43), some (.int a1), some (.int (nI (a2 + 1)))]) (st' := []) (h' := Hp S2) 1 (fun Z => by rw [← nI_add a2 1]; rfl) ?_
    exact wp_st 1 (fun Z => rfl) (show wp E (d + 1) m_Forecast_behind 13 [some (.ref 43), some (.int a1), some (.int (nI (a2 + 1)))] [] (Hp S2) (QR Q) from hw)
set_option maxRecDepth 4000 in
theorem w_Forecast_bursts {E : zX} {d : Nat} {S : St} {a1 : Int32} {Q : Int32 → St → Prop} (hd : 1 ≤ d) 
    (hw : k_Scene_copyFrom E (d - 1) S 44 25 (fun S2 =>
    k_Forecast_bursts_15 E d S2 a1 0 1 Q)) :
    k_Forecast_bursts E d S a1 Q := by
  obtain ⟨d, rfl⟩ := Nat.exists_eq_add_of_le' hd
  show wp E (d + 1) m_Forecast_bursts 0 [some (.ref 43), some (.int a1), none, none] [] (Hp S) (QI Q)
  refine wp_st (pc' := 3) (L' := [some (.ref 43), some (.int a1), some (.int 0), none]) (st' := [.ref 43]) (h' := Hp S) 3 (fun Z => rfl) ?_
  refine wp_st (pc' := 6) (L' := [some (.ref 43), some (.int a1), some (.int 0), none]) (st' := [.ref 44]) (h' := Hp S) 1 (fun Z => gfR (E := E) sh43 rfl _) ?_
  refine wp_st (pc' := 7) (L' := [some (.ref 43), some (.int a1), some (.int 0), none]) (st' := [.ref 43, .ref 44]) (h' := Hp S) 1 (fun Z => rfl) ?_
  refine wp_st (pc' := 10) (L' := [some (.ref 43), some (.int a1), some (.int 0), none]) (st' := [.ref 25, .ref 44]) (h' := Hp S) 1 (fun Z => gfR (E := E) sh43 rfl _) ?_
  refine wp_call (pc' := 13) (rest := []) (fun Z => rfl) (isO_of sh44) hw ?_
  rintro o h1 ⟨S2, rfl, rfl, hw⟩
  refine ⟨_, rfl, ?_⟩
  show wp E (d + 1) m_Forecast_bursts 13 [some (.ref 43), some (.int a1), some (.int 0), none] [] (Hp S2) (QI Q)
  exact wp_st 2 (fun Z => rfl) (show wp E (d + 1) m_Forecast_bursts 15 [some (.ref 43), some (.int a1), some (.int 0), some (.int 1)] [] (Hp S2) (QI Q) from hw)
set_option maxRecDepth 4000 in
theorem w_Forecast_bursts_15 {E : zX} {d : Nat} {S : St} {a1 : Int32} {a2 : Int32} {a3 : Nat} {Q : Int32 → St → Prop} (hd : 1 ≤ d) 
    (hw : if a1 < (nI a3) then (
      Q a2 S)
    else (
      k_Downs_passDay E (d - 1) S 44 (fun S2 =>
      k_Integer_bitCount E (d - 1) S2 (S2 39 0) (fun x3 S4 =>
      k_Forecast_bursts_15 E d S4 a1 (a2 + x3) (a3 + 1) Q)))) :
    k_Forecast_bursts_15 E d S a1 a2 a3 Q := by
  obtain ⟨d, rfl⟩ := Nat.exists_eq_add_of_le' hd
  show wp E (d + 1) m_Forecast_bursts 15 [some (.ref 43), some (.int a1), some (.int a2), some (.int (nI a3))] [] (Hp S) (QI Q)
  refine wp_st (pc' := 17) (L' := [some (.ref 43), some (.int a1), some (.int a2), some (.int (nI a3))]) (st' := [.int a1, .int (nI a3)]) (h' := Hp S) 2 (fun Z => rfl) ?_
  by_cases hc : a1 < (nI a3)
  · rw [if_pos hc] at hw
    refine wp_st (pc' := 52) (L' := [some (.ref 43), some (.int a1), some (.int a2), some (.int (nI a3))]) (st' := []) (h' := Hp S) 1 (fun Z => if_pos hc) ?_
    refine wp_st (pc' := 53) (L' := [some (.ref 43), some (.int a1), some (.int a2), some (.int (nI a3))]) (st' := [.int a2]) (h' := Hp S) 1 (fun Z => rfl) ?_
    exact wp_ret (fun Z => rfl) ⟨_, _, rfl, rfl, hw⟩
  · rw [if_neg hc] at hw
    refine wp_st (pc' := 20) (L' := [some (.ref 43), some (.int a1), some (.int a2), some (.int (nI a3))]) (st' := []) (h' := Hp S) 1 (fun Z => if_neg hc) ?_
    refine wp_st (pc' := 21) (L' := [some (.ref 43), some (.int a1), some (.int a2), some (.int (nI a3))]) (st' := [.ref 43]) (h' := Hp S) 1 (fun Z => rfl) ?_
    refine wp_st (pc' := 24) (L' := [some (.ref 43), some (.int a1), some (.int a2), some (.int (nI a3))]) (st' := [.ref 38]) (h' := Hp S) 1 (fun Z => gfR (E := E) sh43 rfl _) ?_
    refine wp_st (pc' := 25) (L' := [some (.ref 43), some (.int a1), some (.int a2), some (.int (nI a3))]) (st' := [.ref 43, .ref 38]) (h' := Hp S) 1 (fun Z => rfl) ?_
    refine wp_st (pc' := 28) (L' := [some (.ref 43), some (.int a1), some (.int a2), some (.int (nI a3))]) (st' := [.ref 44, .ref 38]) (h' := Hp S) 1 (fun Z => gfR (E := E) sh43 rfl _) ?_
    refine wp_call (pc' := 31) (rest := []) (fun Z => rfl) (isO_of sh38) hw ?_
    rintro o h1 ⟨S2, rfl, rfl, hw⟩
    refine ⟨_, rfl, ?_⟩
    show wp E (d + 1) m_Forecast_bursts 31 [some (.ref 43), some (.int a1), some (.int a2), some (.int (nI a3))] [] (Hp S2) (QI Q)
    refine wp_st (pc' := 33) (L' := [some (.ref 43), some (.int a1), some (.int a2), some (.int (nI a3))]) (st' := [.ref 43, .int a2]) (h' := Hp S2) 2 (fun Z => rfl) ?_
    refine wp_st (pc' := 36) (L' := [some (.ref 43), some (.int a1), some (.int a2), some (.int (nI a3))]) (st' := [.ref 38, .int a2]) (h' := Hp S2) 1 (fun Z => gfR (E := E) sh43 rfl _) ?_
    refine wp_st (pc' := 39) (L' := [some (.ref 43), some (.int a1), some (.int a2), some (.int (nI a3))]) (st' := [.ref 39, .int a2]) (h' := Hp S2) 1 (fun Z => gfR (E := E) sh38 rfl _) ?_
    refine wp_st (pc' := 40) (L' := [some (.ref 43), some (.int a1), some (.int a2), some (.int (nI a3))]) (st' := [.int 0, .ref 39, .int a2]) (h' := Hp S2) 1 (fun Z => rfl) ?_
    refine wp_st (pc' := 41) (L' := [some (.ref 43), some (.int a1), some (.int a2), some (.int (nI a3))]) (st' := [.int (S2 39 0), .int a2]) (h' := Hp S2) 1 (fun Z => ldN (E := E) sh39 (by decide) (by decide) [.int a2] (fun st => Z (d + 1) m_Forecast_bursts 41 [some (.ref 43), some (.int a1), some (.int a2), some (.int (nI a3))] st (Hp S2))) ?_
    refine wp_call (pc' := 44) (rest := [.int a2]) (fun Z => rfl) rfl hw ?_
    rintro o h1 ⟨x3, S4, rfl, rfl, hw⟩
    refine ⟨_, rfl, ?_⟩
    show wp E (d + 1) m_Forecast_bursts 44 [some (.ref 43), some (.int a1), some (.int a2), some (.int (nI a3))] [.int x3, .int a2] (Hp S4) (QI Q)
    refine wp_st (pc' := 46) (L' := [some (.ref 43), some (.int a1), some (.int (a2 + x3)), some (.int (nI a3))]) (st' := []) (h' := Hp S4) 2 (fun Z => rfl) ?_
    refine wp_st (pc' := 49) (L' := [some (.ref 43), some (.int a1), some (.int (a2 + x3)), some (.int (nI (a3 + 1)))]) (st' := []) (h' := Hp S4) 1 (fun Z => by rw [← nI_add a3 1]; rfl) ?_
    exact wp_st 1 (fun Z => rfl) (show wp E (d + 1) m_Forecast_bursts 15 [some (.ref 43), some (.int a1), some (.int (a2 + x3)), some (.int (nI (a3 + 1)))] [] (Hp S4) (QI Q) from hw)
set_option maxRecDepth 4000 in
theorem w_Forecast_calmDays {E : zX} {d : Nat} {S : St} {a1 : Int32} {Q : Int32 → St → Prop} (hd : 1 ≤ d) 
    (hw : k_Scene_copyFrom E (d - 1) S 44 25 (fun S2 =>
    k_Forecast_calmDays_15 E d S2 a1 0 1 Q)) :
    k_Forecast_calmDays E d S a1 Q := by
  obtain ⟨d, rfl⟩ := Nat.exists_eq_add_of_le' hd
  show wp E (d + 1) m_Forecast_calmDays 0 [some (.ref 43), some (.int a1), none, none] [] (Hp S) (QI Q)
  refine wp_st (pc' := 3) (L' := [some (.ref 43), some (.int a1), some (.int 0), none]) (st' := [.ref 43]) (h' := Hp S) 3 (fun Z => rfl) ?_
  refine wp_st (pc' := 6) (L' := [some (.ref 43), some (.int a1), some (.int 0), none]) (st' := [.ref 44]) (h' := Hp S) 1 (fun Z => gfR (E := E) sh43 rfl _) ?_
  refine wp_st (pc' := 7) (L' := [some (.ref 43), some (.int a1), some (.int 0), none]) (st' := [.ref 43, .ref 44]) (h' := Hp S) 1 (fun Z => rfl) ?_
  refine wp_st (pc' := 10) (L' := [some (.ref 43), some (.int a1), some (.int 0), none]) (st' := [.ref 25, .ref 44]) (h' := Hp S) 1 (fun Z => gfR (E := E) sh43 rfl _) ?_
  refine wp_call (pc' := 13) (rest := []) (fun Z => rfl) (isO_of sh44) hw ?_
  rintro o h1 ⟨S2, rfl, rfl, hw⟩
  refine ⟨_, rfl, ?_⟩
  show wp E (d + 1) m_Forecast_calmDays 13 [some (.ref 43), some (.int a1), some (.int 0), none] [] (Hp S2) (QI Q)
  exact wp_st 2 (fun Z => rfl) (show wp E (d + 1) m_Forecast_calmDays 15 [some (.ref 43), some (.int a1), some (.int 0), some (.int 1)] [] (Hp S2) (QI Q) from hw)
set_option maxRecDepth 4000 in
theorem w_Forecast_calmDays_15 {E : zX} {d : Nat} {S : St} {a1 : Int32} {a2 : Nat} {a3 : Nat} {Q : Int32 → St → Prop} (hd : 1 ≤ d) 
    (hw : if a1 < (nI a3) then (
      Q (nI a2) S)
    else (
      k_Downs_passDay E (d - 1) S 44 (fun S2 =>
      if (S2 39 0) = 0 then (
        if (S2 39 2) = 0 then (
          k_Forecast_calmDays_15 E d S2 a1 (a2 + 1) (a3 + 1) Q)
        else (
          k_Forecast_calmDays_15 E d S2 a1 a2 (a3 + 1) Q))
      else (
        k_Forecast_calmDays_15 E d S2 a1 a2 (a3 + 1) Q)))) :
    k_Forecast_calmDays_15 E d S a1 a2 a3 Q := by
  obtain ⟨d, rfl⟩ := Nat.exists_eq_add_of_le' hd
  show wp E (d + 1) m_Forecast_calmDays 15 [some (.ref 43), some (.int a1), some (.int (nI a2)), some (.int (nI a3))] [] (Hp S) (QI Q)
  refine wp_st (pc' := 17) (L' := [some (.ref 43), some (.int a1), some (.int (nI a2)), some (.int (nI a3))]) (st' := [.int a1, .int (nI a3)]) (h' := Hp S) 2 (fun Z => rfl) ?_
  by_cases hc : a1 < (nI a3)
  · rw [if_pos hc] at hw
    refine wp_st (pc' := 64) (L' := [some (.ref 43), some (.int a1), some (.int (nI a2)), some (.int (nI a3))]) (st' := []) (h' := Hp S) 1 (fun Z => if_pos hc) ?_
    refine wp_st (pc' := 65) (L' := [some (.ref 43), some (.int a1), some (.int (nI a2)), some (.int (nI a3))]) (st' := [.int (nI a2)]) (h' := Hp S) 1 (fun Z => rfl) ?_
    exact wp_ret (fun Z => rfl) ⟨_, _, rfl, rfl, hw⟩
  · rw [if_neg hc] at hw
    refine wp_st (pc' := 20) (L' := [some (.ref 43), some (.int a1), some (.int (nI a2)), some (.int (nI a3))]) (st' := []) (h' := Hp S) 1 (fun Z => if_neg hc) ?_
    refine wp_st (pc' := 21) (L' := [some (.ref 43), some (.int a1), some (.int (nI a2)), some (.int (nI a3))]) (st' := [.ref 43]) (h' := Hp S) 1 (fun Z => rfl) ?_
    refine wp_st (pc' := 24) (L' := [some (.ref 43), some (.int a1), some (.int (nI a2)), some (.int (nI a3))]) (st' := [.ref 38]) (h' := Hp S) 1 (fun Z => gfR (E := E) sh43 rfl _) ?_
    refine wp_st (pc' := 25) (L' := [some (.ref 43), some (.int a1), some (.int (nI a2)), some (.int (nI a3))]) (st' := [.ref 43, .ref 38]) (h' := Hp S) 1 (fun Z => rfl) ?_
    refine wp_st (pc' := 28) (L' := [some (.ref 43), some (.int a1), some (.int (nI a2)), some (.int (nI a3))]) (st' := [.ref 44, .ref 38]) (h' := Hp S) 1 (fun Z => gfR (E := E) sh43 rfl _) ?_
    refine wp_call (pc' := 31) (rest := []) (fun Z => rfl) (isO_of sh38) hw ?_
    rintro o h1 ⟨S2, rfl, rfl, hw⟩
    refine ⟨_, rfl, ?_⟩
    show wp E (d + 1) m_Forecast_calmDays 31 [some (.ref 43), some (.int a1), some (.int (nI a2)), some (.int (nI a3))] [] (Hp S2) (QI Q)
    refine wp_st (pc' := 32) (L' := [some (.ref 43), some (.int a1), some (.int (nI a2)), some (.int (nI a3))]) (st' := [.ref 43]) (h' := Hp S2) 1 (fun Z => rfl) ?_
    refine wp_st (pc' := 35) (L' := [some (.ref 43), some (.int a1), some (.int (nI a2)), some (.int (nI a3))]) (st' := [.ref 38]) (h' := Hp S2) 1 (fun Z => gfR (E := E) sh43 rfl _) ?_
    refine wp_st (pc' := 38) (L' := [some (.ref 43), some (.int a1), some (.int (nI a2)), some (.int (nI a3))]) (st' := [.ref 39]) (h' := Hp S2) 1 (fun Z => gfR (E := E) sh38 rfl _) ?_
    refine wp_st (pc' := 39) (L' := [some (.ref 43), some (.int a1), some (.int (nI a2)), some (.int (nI a3))]) (st' := [.int 0, .ref 39]) (h' := Hp S2) 1 (fun Z => rfl) ?_
    refine wp_st (pc' := 40) (L' := [some (.ref 43), some (.int a1), some (.int (nI a2)), some (.int (nI a3))]) (st' := [.int (S2 39 0)]) (h' := Hp S2) 1 (fun Z => ldN (E := E) sh39 (by decide) (by decide) [] (fun st => Z (d + 1) m_Forecast_calmDays 40 [some (.ref 43), some (.int a1), some (.int (nI a2)), some (.int (nI a3))] st (Hp S2))) ?_
    by_cases hc : (S2 39 0) = 0
    · rw [if_pos hc] at hw
      refine wp_st (pc' := 43) (L' := [some (.ref 43), some (.int a1), some (.int (nI a2)), some (.int (nI a3))]) (st' := []) (h' := Hp S2) 1 (fun Z => if_pos hc) ?_
      refine wp_st (pc' := 44) (L' := [some (.ref 43), some (.int a1), some (.int (nI a2)), some (.int (nI a3))]) (st' := [.ref 43]) (h' := Hp S2) 1 (fun Z => rfl) ?_
      refine wp_st (pc' := 47) (L' := [some (.ref 43), some (.int a1), some (.int (nI a2)), some (.int (nI a3))]) (st' := [.ref 38]) (h' := Hp S2) 1 (fun Z => gfR (E := E) sh43 rfl _) ?_
      refine wp_st (pc' := 50) (L' := [some (.ref 43), some (.int a1), some (.int (nI a2)), some (.int (nI a3))]) (st' := [.ref 39]) (h' := Hp S2) 1 (fun Z => gfR (E := E) sh38 rfl _) ?_
      refine wp_st (pc' := 51) (L' := [some (.ref 43), some (.int a1), some (.int (nI a2)), some (.int (nI a3))]) (st' := [.int 2, .ref 39]) (h' := Hp S2) 1 (fun Z => rfl) ?_
      refine wp_st (pc' := 52) (L' := [some (.ref 43), some (.int a1), some (.int (nI a2)), some (.int (nI a3))]) (st' := [.int (S2 39 2)]) (h' := Hp S2) 1 (fun Z => ldN (E := E) sh39 (by decide) (by decide) [] (fun st => Z (d + 1) m_Forecast_calmDays 52 [some (.ref 43), some (.int a1), some (.int (nI a2)), some (.int (nI a3))] st (Hp S2))) ?_
      by_cases hc : (S2 39 2) = 0
      · rw [if_pos hc] at hw
        refine wp_st (pc' := 55) (L' := [some (.ref 43), some (.int a1), some (.int (nI a2)), some (.int (nI a3))]) (st' := []) (h' := Hp S2) 1 (fun Z => if_pos hc) ?_
        refine wp_st (pc' := 58) (L' := [some (.ref 43), some (.int a1), some (.int (nI (a2 + 1))), some (.int (nI a3))]) (st' := []) (h' := Hp S2) 1 (fun Z => by rw [← nI_add a2 1]; rfl) ?_
        refine wp_st (pc' := 61) (L' := [some (.ref 43), some (.int a1), some (.int (nI (a2 + 1))), some (.int (nI (a3 + 1)))]) (st' := []) (h' := Hp S2) 1 (fun Z => by rw [← nI_add a3 1]; rfl) ?_
        exact wp_st 1 (fun Z => rfl) (show wp E (d + 1) m_Forecast_calmDays 15 [some (.ref 43), some (.int a1), some (.int (nI (a2 + 1))), some (.int (nI (a3 + 1)))] [] (Hp S2) (QI Q) from hw)
      · rw [if_neg hc] at hw
        refine wp_st (pc' := 58) (L' := [some (.ref 43), some (.int a1), some (.int (nI a2)), some (.int (nI a3))]) (st' := []) (h' := Hp S2) 1 (fun Z => if_neg hc) ?_
        refine wp_st (pc' := 61) (L' := [some (.ref 43), some (.int a1), some (.int (nI a2)), some (.int (nI (a3 + 1)))]) (st' := []) (h' := Hp S2) 1 (fun Z => by rw [← nI_add a3 1]; rfl) ?_
        exact wp_st 1 (fun Z => rfl) (show wp E (d + 1) m_Forecast_calmDays 15 [some (.ref 43), some (.int a1), some (.int (nI a2)), some (.int (nI (a3 + 1)))] [] (Hp S2) (QI Q) from hw)
    · rw [if_neg hc] at hw
      refine wp_st (pc' := 58) (L' := [some (.ref 43), some (.int a1), some (.int (nI a2)), some (.int (nI a3))]) (st' := []) (h' := Hp S2) 1 (fun Z => if_neg hc) ?_
      refine wp_st (pc' := 61) (L' := [some (.ref 43), some (.int a1), some (.int (nI a2)), some (.int (nI (a3 + 1)))]) (st' := []) (h' := Hp S2) 1 (fun Z => by rw [← nI_add a3 1]; rfl) ?_
      exact wp_st 1 (fun Z => rfl) (show wp E (d + 1) m_Forecast_calmDays 15 [some (.ref 43), some (.int a1), some (.int (nI a2)), some (.int (nI (a3 + 1)))] [] (Hp S2) (QI Q) from hw)
set_option maxRecDepth 4000 in
theorem w_Forecast_outstayed {E : zX} {d : Nat} {S : St} {a1 : Int32} {a2 : Int32} {Q : Int32 → St → Prop} (hd : 1 ≤ d) 
    (hw : k_Scene_copyFrom E (d - 1) S 44 25 (fun S2 =>
    k_Forecast_outstayed_16 E d S2 a1 a2 0 1 Q)) :
    k_Forecast_outstayed E d S a1 a2 Q := by
  obtain ⟨d, rfl⟩ := Nat.exists_eq_add_of_le' hd
  show wp E (d + 1) m_Forecast_outstayed 0 [some (.ref 43), some (.int a1), some (.int a2), none, none] [] (Hp S) (QI Q)
  refine wp_st (pc' := 3) (L' := [some (.ref 43), some (.int a1), some (.int a2), some (.int 0), none]) (st' := [.ref 43]) (h' := Hp S) 3 (fun Z => rfl) ?_
  refine wp_st (pc' := 6) (L' := [some (.ref 43), some (.int a1), some (.int a2), some (.int 0), none]) (st' := [.ref 44]) (h' := Hp S) 1 (fun Z => gfR (E := E) sh43 rfl _) ?_
  refine wp_st (pc' := 7) (L' := [some (.ref 43), some (.int a1), some (.int a2), some (.int 0), none]) (st' := [.ref 43, .ref 44]) (h' := Hp S) 1 (fun Z => rfl) ?_
  refine wp_st (pc' := 10) (L' := [some (.ref 43), some (.int a1), some (.int a2), some (.int 0), none]) (st' := [.ref 25, .ref 44]) (h' := Hp S) 1 (fun Z => gfR (E := E) sh43 rfl _) ?_
  refine wp_call (pc' := 13) (rest := []) (fun Z => rfl) (isO_of sh44) hw ?_
  rintro o h1 ⟨S2, rfl, rfl, hw⟩
  refine ⟨_, rfl, ?_⟩
  show wp E (d + 1) m_Forecast_outstayed 13 [some (.ref 43), some (.int a1), some (.int a2), some (.int 0), none] [] (Hp S2) (QI Q)
  exact wp_st 2 (fun Z => rfl) (show wp E (d + 1) m_Forecast_outstayed 16 [some (.ref 43), some (.int a1), some (.int a2), some (.int 0), some (.int 1)] [] (Hp S2) (QI Q) from hw)
set_option maxRecDepth 4000 in
theorem w_Forecast_outstayed_16 {E : zX} {d : Nat} {S : St} {a1 : Int32} {a2 : Int32} {a3 : Int32} {a4 : Nat} {Q : Int32 → St → Prop} (hd : 1 ≤ d) 
    (hw : if a2 < (nI a4) then (
      Q a3 S)
    else (
      k_Downs_passDay E (d - 1) S 44 (fun S2 =>
      k_Downs_ownedBy E (d - 1) S2 44 a1 (fun x3 S4 =>
      k_Integer_bitCount E (d - 1) S4 x3 (fun x5 S6 =>
      k_Forecast_outstayed_16 E d S6 a1 a2 (a3 + x5) (a4 + 1) Q))))) :
    k_Forecast_outstayed_16 E d S a1 a2 a3 a4 Q := by
  obtain ⟨d, rfl⟩ := Nat.exists_eq_add_of_le' hd
  show wp E (d + 1) m_Forecast_outstayed 16 [some (.ref 43), some (.int a1), some (.int a2), some (.int a3), some (.int (nI a4))] [] (Hp S) (QI Q)
  refine wp_st (pc' := 19) (L' := [some (.ref 43), some (.int a1), some (.int a2), some (.int a3), some (.int (nI a4))]) (st' := [.int a2, .int (nI a4)]) (h' := Hp S) 2 (fun Z => rfl) ?_
  by_cases hc : a2 < (nI a4)
  · rw [if_pos hc] at hw
    refine wp_st (pc' := 57) (L' := [some (.ref 43), some (.int a1), some (.int a2), some (.int a3), some (.int (nI a4))]) (st' := []) (h' := Hp S) 1 (fun Z => if_pos hc) ?_
    refine wp_st (pc' := 58) (L' := [some (.ref 43), some (.int a1), some (.int a2), some (.int a3), some (.int (nI a4))]) (st' := [.int a3]) (h' := Hp S) 1 (fun Z => rfl) ?_
    exact wp_ret (fun Z => rfl) ⟨_, _, rfl, rfl, hw⟩
  · rw [if_neg hc] at hw
    refine wp_st (pc' := 22) (L' := [some (.ref 43), some (.int a1), some (.int a2), some (.int a3), some (.int (nI a4))]) (st' := []) (h' := Hp S) 1 (fun Z => if_neg hc) ?_
    refine wp_st (pc' := 23) (L' := [some (.ref 43), some (.int a1), some (.int a2), some (.int a3), some (.int (nI a4))]) (st' := [.ref 43]) (h' := Hp S) 1 (fun Z => rfl) ?_
    refine wp_st (pc' := 26) (L' := [some (.ref 43), some (.int a1), some (.int a2), some (.int a3), some (.int (nI a4))]) (st' := [.ref 38]) (h' := Hp S) 1 (fun Z => gfR (E := E) sh43 rfl _) ?_
    refine wp_st (pc' := 27) (L' := [some (.ref 43), some (.int a1), some (.int a2), some (.int a3), some (.int (nI a4))]) (st' := [.ref 43, .ref 38]) (h' := Hp S) 1 (fun Z => rfl) ?_
    refine wp_st (pc' := 30) (L' := [some (.ref 43), some (.int a1), some (.int a2), some (.int a3), some (.int (nI a4))]) (st' := [.ref 44, .ref 38]) (h' := Hp S) 1 (fun Z => gfR (E := E) sh43 rfl _) ?_
    refine wp_call (pc' := 33) (rest := []) (fun Z => rfl) (isO_of sh38) hw ?_
    rintro o h1 ⟨S2, rfl, rfl, hw⟩
    refine ⟨_, rfl, ?_⟩
    show wp E (d + 1) m_Forecast_outstayed 33 [some (.ref 43), some (.int a1), some (.int a2), some (.int a3), some (.int (nI a4))] [] (Hp S2) (QI Q)
    refine wp_st (pc' := 35) (L' := [some (.ref 43), some (.int a1), some (.int a2), some (.int a3), some (.int (nI a4))]) (st' := [.ref 43, .int a3]) (h' := Hp S2) 2 (fun Z => rfl) ?_
    refine wp_st (pc' := 38) (L' := [some (.ref 43), some (.int a1), some (.int a2), some (.int a3), some (.int (nI a4))]) (st' := [.ref 38, .int a3]) (h' := Hp S2) 1 (fun Z => gfR (E := E) sh43 rfl _) ?_
    refine wp_st (pc' := 39) (L' := [some (.ref 43), some (.int a1), some (.int a2), some (.int a3), some (.int (nI a4))]) (st' := [.ref 43, .ref 38, .int a3]) (h' := Hp S2) 1 (fun Z => rfl) ?_
    refine wp_st (pc' := 42) (L' := [some (.ref 43), some (.int a1), some (.int a2), some (.int a3), some (.int (nI a4))]) (st' := [.ref 44, .ref 38, .int a3]) (h' := Hp S2) 1 (fun Z => gfR (E := E) sh43 rfl _) ?_
    refine wp_st (pc' := 43) (L' := [some (.ref 43), some (.int a1), some (.int a2), some (.int a3), some (.int (nI a4))]) (st' := [.int a1, .ref 44, .ref 38, .int a3]) (h' := Hp S2) 1 (fun Z => rfl) ?_
    refine wp_call (pc' := 46) (rest := [.int a3]) (fun Z => rfl) (isO_of sh38) hw ?_
    rintro o h1 ⟨x3, S4, rfl, rfl, hw⟩
    refine ⟨_, rfl, ?_⟩
    show wp E (d + 1) m_Forecast_outstayed 46 [some (.ref 43), some (.int a1), some (.int a2), some (.int a3), some (.int (nI a4))] [.int x3, .int a3] (Hp S4) (QI Q)
    refine wp_call (pc' := 49) (rest := [.int a3]) (fun Z => rfl) rfl hw ?_
    rintro o h1 ⟨x5, S6, rfl, rfl, hw⟩
    refine ⟨_, rfl, ?_⟩
    show wp E (d + 1) m_Forecast_outstayed 49 [some (.ref 43), some (.int a1), some (.int a2), some (.int a3), some (.int (nI a4))] [.int x5, .int a3] (Hp S6) (QI Q)
    refine wp_st (pc' := 51) (L' := [some (.ref 43), some (.int a1), some (.int a2), some (.int (a3 + x5)), some (.int (nI a4))]) (st' := []) (h' := Hp S6) 2 (fun Z => rfl) ?_
    refine wp_st (pc' := 54) (L' := [some (.ref 43), some (.int a1), some (.int a2), some (.int (a3 + x5)), some (.int (nI (a4 + 1)))]) (st' := []) (h' := Hp S6) 1 (fun Z => by rw [← nI_add a4 1]; rfl) ?_
    exact wp_st 1 (fun Z => rfl) (show wp E (d + 1) m_Forecast_outstayed 16 [some (.ref 43), some (.int a1), some (.int a2), some (.int (a3 + x5)), some (.int (nI (a4 + 1)))] [] (Hp S6) (QI Q) from hw)
set_option maxRecDepth 4000 in
theorem w_Guess_isSoAnyway {E : zX} {d : Nat} {S : St}  {Q : Int32 → St → Prop} (hd : 1 ≤ d) 
    (hw : k_Scene_copyFrom E (d - 1) S 55 25 (fun S2 =>
    k_Guess_lastDay E (d - 1) S2 (fun x3 S4 =>
    k_Guess_agrees E (d - 1) S4 x3 (fun x5 S6 =>
    (x5 = 0 ∨ x5 = 1) ∧ Q x5 S6)))) :
    k_Guess_isSoAnyway E d S Q := by
  obtain ⟨d, rfl⟩ := Nat.exists_eq_add_of_le' hd
  show wp E (d + 1) m_Guess_isSoAnyway 0 [some (.ref 54)] [] (Hp S) (QI Q)
  refine wp_st (pc' := 1) (L' := [some (.ref 54)]) (st' := [.ref 54]) (h' := Hp S) 1 (fun Z => rfl) ?_
  refine wp_st (pc' := 4) (L' := [some (.ref 54)]) (st' := [.ref 55]) (h' := Hp S) 1 (fun Z => gfR (E := E) sh54 rfl _) ?_
  refine wp_st (pc' := 5) (L' := [some (.ref 54)]) (st' := [.ref 54, .ref 55]) (h' := Hp S) 1 (fun Z => rfl) ?_
  refine wp_st (pc' := 8) (L' := [some (.ref 54)]) (st' := [.ref 24, .ref 55]) (h' := Hp S) 1 (fun Z => gfR (E := E) sh54 rfl _) ?_
  refine wp_st (pc' := 11) (L' := [some (.ref 54)]) (st' := [.ref 25, .ref 55]) (h' := Hp S) 1 (fun Z => gfR (E := E) sh24 rfl _) ?_
  refine wp_call (pc' := 14) (rest := []) (fun Z => rfl) (isO_of sh55) hw ?_
  rintro o h1 ⟨S2, rfl, rfl, hw⟩
  refine ⟨_, rfl, ?_⟩
  show wp E (d + 1) m_Guess_isSoAnyway 14 [some (.ref 54)] [] (Hp S2) (QI Q)
  refine wp_st (pc' := 16) (L' := [some (.ref 54)]) (st' := [.ref 54, .ref 54]) (h' := Hp S2) 2 (fun Z => rfl) ?_
  refine wp_call (pc' := 19) (rest := [.ref 54]) (fun Z => rfl) (isO_of sh54) hw ?_
  rintro o h1 ⟨x3, S4, rfl, rfl, hw⟩
  refine ⟨_, rfl, ?_⟩
  show wp E (d + 1) m_Guess_isSoAnyway 19 [some (.ref 54)] [.int x3, .ref 54] (Hp S4) (QI Q)
  refine wp_call (pc' := 22) (rest := []) (fun Z => rfl) (isO_of sh54) hw ?_
  rintro o h1 ⟨x5, S6, rfl, rfl, hw⟩
  refine ⟨_, rfl, ?_⟩
  show wp E (d + 1) m_Guess_isSoAnyway 22 [some (.ref 54)] [.int x5] (Hp S6) (QI Q)
  obtain ⟨hz, hw⟩ := hw
  refine wp_ret (h' := Hp S6) (o := .inl (some (.int x5))) (fun Z => ?_) ⟨_, _, rfl, rfl, hw⟩
  show (bif zfr _ _ then _ else none) = _
  rcases hz with hz | hz <;> rw [hz] <;> rfl
set_option maxRecDepth 4000 in
theorem w_Guess_lastDay {E : zX} {d : Nat} {S : St}  {Q : Int32 → St → Prop} (hd : 1 ≤ d) 
    (hw : k_Guess_lastDay_4 E d S 0 0 Q) :
    k_Guess_lastDay E d S Q := by
  obtain ⟨d, rfl⟩ := Nat.exists_eq_add_of_le' hd
  show wp E (d + 1) m_Guess_lastDay 0 [some (.ref 54), none, none] [] (Hp S) (QI Q)
  exact wp_st 4 (fun Z => rfl) (show wp E (d + 1) m_Guess_lastDay 4 [some (.ref 54), some (.int 0), some (.int 0)] [] (Hp S) (QI Q) from hw)
set_option maxRecDepth 4000 in
theorem w_Guess_lastDay_4 {E : zX} {d : Nat} {S : St} {a1 : Int32} {a2 : Nat} {Q : Int32 → St → Prop} (hd : 1 ≤ d) 
    (hw : if (S 24 3) ≤ (nI a2) then (
      Q a1 S)
    else (
      a2 < 8 ∧
      k_Guess_lastDay_4 E d S (zmax a1 (S 29 a2)) (a2 + 1) Q)) :
    k_Guess_lastDay_4 E d S a1 a2 Q := by
  obtain ⟨d, rfl⟩ := Nat.exists_eq_add_of_le' hd
  show wp E (d + 1) m_Guess_lastDay 4 [some (.ref 54), some (.int a1), some (.int (nI a2))] [] (Hp S) (QI Q)
  refine wp_st (pc' := 6) (L' := [some (.ref 54), some (.int a1), some (.int (nI a2))]) (st' := [.ref 54, .int (nI a2)]) (h' := Hp S) 2 (fun Z => rfl) ?_
  refine wp_st (pc' := 9) (L' := [some (.ref 54), some (.int a1), some (.int (nI a2))]) (st' := [.ref 24, .int (nI a2)]) (h' := Hp S) 1 (fun Z => gfR (E := E) sh54 rfl _) ?_
  refine wp_st (pc' := 12) (L' := [some (.ref 54), some (.int a1), some (.int (nI a2))]) (st' := [.int (S 24 3), .int (nI a2)]) (h' := Hp S) 1 (fun Z => gfI (E := E) sh24 rfl _) ?_
  by_cases hc : (S 24 3) ≤ (nI a2)
  · rw [if_pos hc] at hw
    refine wp_st (pc' := 35) (L' := [some (.ref 54), some (.int a1), some (.int (nI a2))]) (st' := []) (h' := Hp S) 1 (fun Z => if_pos hc) ?_
    refine wp_st (pc' := 36) (L' := [some (.ref 54), some (.int a1), some (.int (nI a2))]) (st' := [.int a1]) (h' := Hp S) 1 (fun Z => rfl) ?_
    exact wp_ret (fun Z => rfl) ⟨_, _, rfl, rfl, hw⟩
  · rw [if_neg hc] at hw
    refine wp_st (pc' := 15) (L' := [some (.ref 54), some (.int a1), some (.int (nI a2))]) (st' := []) (h' := Hp S) 1 (fun Z => if_neg hc) ?_
    refine wp_st (pc' := 17) (L' := [some (.ref 54), some (.int a1), some (.int (nI a2))]) (st' := [.ref 54, .int a1]) (h' := Hp S) 2 (fun Z => rfl) ?_
    refine wp_st (pc' := 20) (L' := [some (.ref 54), some (.int a1), some (.int (nI a2))]) (st' := [.ref 24, .int a1]) (h' := Hp S) 1 (fun Z => gfR (E := E) sh54 rfl _) ?_
    refine wp_st (pc' := 23) (L' := [some (.ref 54), some (.int a1), some (.int (nI a2))]) (st' := [.ref 29, .int a1]) (h' := Hp S) 1 (fun Z => gfR (E := E) sh24 rfl _) ?_
    refine wp_st (pc' := 24) (L' := [some (.ref 54), some (.int a1), some (.int (nI a2))]) (st' := [.int (nI a2), .ref 29, .int a1]) (h' := Hp S) 1 (fun Z => rfl) ?_
    obtain ⟨hi, hw⟩ := hw
    refine wp_st (pc' := 25) (L' := [some (.ref 54), some (.int a1), some (.int (nI a2))]) (st' := [.int (S 29 a2), .int a1]) (h' := Hp S) 1 (fun Z => ldN (E := E) sh29 (by decide) hi [.int a1] (fun st => Z (d + 1) m_Guess_lastDay 25 [some (.ref 54), some (.int a1), some (.int (nI a2))] st (Hp S))) ?_
    refine wp_st (pc' := 29) (L' := [some (.ref 54), some (.int (zmax a1 (S 29 a2))), some (.int (nI a2))]) (st' := []) (h' := Hp S) 2 (fun Z => rfl) ?_
    refine wp_st (pc' := 32) (L' := [some (.ref 54), some (.int (zmax a1 (S 29 a2))), some (.int (nI (a2 + 1)))]) (st' := []) (h' := Hp S) 1 (fun Z => by rw [← nI_add a2 1]; rfl) ?_
    exact wp_st 1 (fun Z => rfl) (show wp E (d + 1) m_Guess_lastDay 4 [some (.ref 54), some (.int (zmax a1 (S 29 a2))), some (.int (nI (a2 + 1)))] [] (Hp S) (QI Q) from hw)
set_option maxRecDepth 4000 in
theorem w_Guess_agrees {E : zX} {d : Nat} {S : St} {a1 : Int32} {Q : Int32 → St → Prop} (hd : 1 ≤ d) 
    (hw : k_Guess_agrees_2 E d S a1 0 Q) :
    k_Guess_agrees E d S a1 Q := by
  obtain ⟨d, rfl⟩ := Nat.exists_eq_add_of_le' hd
  show wp E (d + 1) m_Guess_agrees 0 [some (.ref 54), some (.int a1), none] [] (Hp S) (QI Q)
  exact wp_st 2 (fun Z => rfl) (show wp E (d + 1) m_Guess_agrees 2 [some (.ref 54), some (.int a1), some (.int 0)] [] (Hp S) (QI Q) from hw)
set_option maxRecDepth 4000 in
theorem w_Guess_agrees_2 {E : zX} {d : Nat} {S : St} {a1 : Int32} {a2 : Nat} {Q : Int32 → St → Prop} (hd : 1 ≤ d) 
    (hw : if a1 < (nI a2) then (
      Q (1 : Int32) S)
    else (
      if (nI a2) ≤ 0 then (
        k_Guess_agrees_22 E d S a1 a2 Q)
      else (
        k_Downs_passDay E (d - 1) S 55 (fun S2 =>
        k_Guess_agrees_22 E d S2 a1 a2 Q)))) :
    k_Guess_agrees_2 E d S a1 a2 Q := by
  obtain ⟨d, rfl⟩ := Nat.exists_eq_add_of_le' hd
  show wp E (d + 1) m_Guess_agrees 2 [some (.ref 54), some (.int a1), some (.int (nI a2))] [] (Hp S) (QI Q)
  refine wp_st (pc' := 4) (L' := [some (.ref 54), some (.int a1), some (.int (nI a2))]) (st' := [.int a1, .int (nI a2)]) (h' := Hp S) 2 (fun Z => rfl) ?_
  by_cases hc : a1 < (nI a2)
  · rw [if_pos hc] at hw
    refine wp_st (pc' := 55) (L' := [some (.ref 54), some (.int a1), some (.int (nI a2))]) (st' := []) (h' := Hp S) 1 (fun Z => if_pos hc) ?_
    refine wp_st (pc' := 56) (L' := [some (.ref 54), some (.int a1), some (.int (nI a2))]) (st' := [.int 1]) (h' := Hp S) 1 (fun Z => rfl) ?_
    exact wp_ret (fun Z => rfl) ⟨_, _, rfl, rfl, hw⟩
  · rw [if_neg hc] at hw
    refine wp_st (pc' := 7) (L' := [some (.ref 54), some (.int a1), some (.int (nI a2))]) (st' := []) (h' := Hp S) 1 (fun Z => if_neg hc) ?_
    refine wp_st (pc' := 8) (L' := [some (.ref 54), some (.int a1), some (.int (nI a2))]) (st' := [.int (nI a2)]) (h' := Hp S) 1 (fun Z => rfl) ?_
    by_cases hc : (nI a2) ≤ 0
    · rw [if_pos hc] at hw
      refine wp_st (pc' := 22) (L' := [some (.ref 54), some (.int a1), some (.int (nI a2))]) (st' := []) (h' := Hp S) 1 (fun Z => if_pos hc) ?_
      exact (show wp E (d + 1) m_Guess_agrees 22 [some (.ref 54), some (.int a1), some (.int (nI a2))] [] (Hp S) (QI Q) from hw)
    · rw [if_neg hc] at hw
      refine wp_st (pc' := 11) (L' := [some (.ref 54), some (.int a1), some (.int (nI a2))]) (st' := []) (h' := Hp S) 1 (fun Z => if_neg hc) ?_
      refine wp_st (pc' := 12) (L' := [some (.ref 54), some (.int a1), some (.int (nI a2))]) (st' := [.ref 54]) (h' := Hp S) 1 (fun Z => rfl) ?_
      refine wp_st (pc' := 15) (L' := [some (.ref 54), some (.int a1), some (.int (nI a2))]) (st' := [.ref 38]) (h' := Hp S) 1 (fun Z => gfR (E := E) sh54 rfl _) ?_
      refine wp_st (pc' := 16) (L' := [some (.ref 54), some (.int a1), some (.int (nI a2))]) (st' := [.ref 54, .ref 38]) (h' := Hp S) 1 (fun Z => rfl) ?_
      refine wp_st (pc' := 19) (L' := [some (.ref 54), some (.int a1), some (.int (nI a2))]) (st' := [.ref 55, .ref 38]) (h' := Hp S) 1 (fun Z => gfR (E := E) sh54 rfl _) ?_
      refine wp_call (pc' := 22) (rest := []) (fun Z => rfl) (isO_of sh38) hw ?_
      rintro o h1 ⟨S2, rfl, rfl, hw⟩
      refine ⟨_, rfl, ?_⟩
      show wp E (d + 1) m_Guess_agrees 22 [some (.ref 54), some (.int a1), some (.int (nI a2))] [] (Hp S2) (QI Q)
      exact (show wp E (d + 1) m_Guess_agrees 22 [some (.ref 54), some (.int a1), some (.int (nI a2))] [] (Hp S2) (QI Q) from hw)
set_option maxRecDepth 4000 in
theorem w_Guess_agrees_22 {E : zX} {d : Nat} {S : St} {a1 : Int32} {a2 : Nat} {Q : Int32 → St → Prop} (hd : 1 ≤ d) 
    (hw : k_Guess_agreesOn E (d - 1) S (nI a2) (fun x1 S2 =>
    if x1 = 0 then (
      Q (0 : Int32) S2)
    else (
      if (nI a2) = nI 8 then (
        k_Scene_copyFrom E (d - 1) S2 57 55 (fun S4 =>
        k_Guess_agrees_2 E d S4 a1 (a2 + 1) Q))
      else (
        k_Guess_agrees_2 E d S2 a1 (a2 + 1) Q)))) :
    k_Guess_agrees_22 E d S a1 a2 Q := by
  obtain ⟨d, rfl⟩ := Nat.exists_eq_add_of_le' hd
  show wp E (d + 1) m_Guess_agrees 22 [some (.ref 54), some (.int a1), some (.int (nI a2))] [] (Hp S) (QI Q)
  refine wp_st (pc' := 24) (L' := [some (.ref 54), some (.int a1), some (.int (nI a2))]) (st' := [.int (nI a2), .ref 54]) (h' := Hp S) 2 (fun Z => rfl) ?_
  refine wp_call (pc' := 27) (rest := []) (fun Z => rfl) (isO_of sh54) hw ?_
  rintro o h1 ⟨x1, S2, rfl, rfl, hw⟩
  refine ⟨_, rfl, ?_⟩
  show wp E (d + 1) m_Guess_agrees 27 [some (.ref 54), some (.int a1), some (.int (nI a2))] [.int x1] (Hp S2) (QI Q)
  by_cases hc : x1 = 0
  · rw [if_pos hc] at hw
    refine wp_st (pc' := 30) (L' := [some (.ref 54), some (.int a1), some (.int (nI a2))]) (st' := []) (h' := Hp S2) 1 (fun Z => if_pos hc) ?_
    refine wp_st (pc' := 31) (L' := [some (.ref 54), some (.int a1), some (.int (nI a2))]) (st' := [.int 0]) (h' := Hp S2) 1 (fun Z => rfl) ?_
    exact wp_ret (fun Z => rfl) ⟨_, _, rfl, rfl, hw⟩
  · rw [if_neg hc] at hw
    refine wp_st (pc' := 32) (L' := [some (.ref 54), some (.int a1), some (.int (nI a2))]) (st' := []) (h' := Hp S2) 1 (fun Z => if_neg hc) ?_
    refine wp_st (pc' := 35) (L' := [some (.ref 54), some (.int a1), some (.int (nI a2))]) (st' := [.int 8, .int (nI a2)]) (h' := Hp S2) 2 (fun Z => rfl) ?_
    by_cases hc : (nI a2) = nI 8
    · rw [if_pos hc] at hw
      refine wp_st (pc' := 38) (L' := [some (.ref 54), some (.int a1), some (.int (nI a2))]) (st' := []) (h' := Hp S2) 1 (fun Z => if_pos hc) ?_
      refine wp_st (pc' := 39) (L' := [some (.ref 54), some (.int a1), some (.int (nI a2))]) (st' := [.ref 54]) (h' := Hp S2) 1 (fun Z => rfl) ?_
      refine wp_st (pc' := 42) (L' := [some (.ref 54), some (.int a1), some (.int (nI a2))]) (st' := [.ref 57]) (h' := Hp S2) 1 (fun Z => gfR (E := E) sh54 rfl _) ?_
      refine wp_st (pc' := 43) (L' := [some (.ref 54), some (.int a1), some (.int (nI a2))]) (st' := [.ref 54, .ref 57]) (h' := Hp S2) 1 (fun Z => rfl) ?_
      refine wp_st (pc' := 46) (L' := [some (.ref 54), some (.int a1), some (.int (nI a2))]) (st' := [.ref 55, .ref 57]) (h' := Hp S2) 1 (fun Z => gfR (E := E) sh54 rfl _) ?_
      refine wp_call (pc' := 49) (rest := []) (fun Z => rfl) (isO_of sh57) hw ?_
      rintro o h1 ⟨S4, rfl, rfl, hw⟩
      refine ⟨_, rfl, ?_⟩
      show wp E (d + 1) m_Guess_agrees 49 [some (.ref 54), some (.int a1), some (.int (nI a2))] [] (Hp S4) (QI Q)
      refine wp_st (pc' := 52) (L' := [some (.ref 54), some (.int a1), some (.int (nI (a2 + 1)))]) (st' := []) (h' := Hp S4) 1 (fun Z => by rw [← nI_add a2 1]; rfl) ?_
      exact wp_st 1 (fun Z => rfl) (show wp E (d + 1) m_Guess_agrees 2 [some (.ref 54), some (.int a1), some (.int (nI (a2 + 1)))] [] (Hp S4) (QI Q) from hw)
    · rw [if_neg hc] at hw
      refine wp_st (pc' := 49) (L' := [some (.ref 54), some (.int a1), some (.int (nI a2))]) (st' := []) (h' := Hp S2) 1 (fun Z => if_neg hc) ?_
      refine wp_st (pc' := 52) (L' := [some (.ref 54), some (.int a1), some (.int (nI (a2 + 1)))]) (st' := []) (h' := Hp S2) 1 (fun Z => by rw [← nI_add a2 1]; rfl) ?_
      exact wp_st 1 (fun Z => rfl) (show wp E (d + 1) m_Guess_agrees 2 [some (.ref 54), some (.int a1), some (.int (nI (a2 + 1)))] [] (Hp S2) (QI Q) from hw)
set_option maxRecDepth 4000 in
theorem w_Guess_agreesOn {E : zX} {d : Nat} {S : St} {a1 : Int32} {Q : Int32 → St → Prop} (hd : 1 ≤ d) 
    (hw : k_Guess_agreesOn_2 E d S a1 0 Q) :
    k_Guess_agreesOn E d S a1 Q := by
  obtain ⟨d, rfl⟩ := Nat.exists_eq_add_of_le' hd
  show wp E (d + 1) m_Guess_agreesOn 0 [some (.ref 54), some (.int a1), none] [] (Hp S) (QI Q)
  exact wp_st 2 (fun Z => rfl) (show wp E (d + 1) m_Guess_agreesOn 2 [some (.ref 54), some (.int a1), some (.int 0)] [] (Hp S) (QI Q) from hw)
set_option maxRecDepth 4000 in
theorem w_Guess_agreesOn_2 {E : zX} {d : Nat} {S : St} {a1 : Int32} {a2 : Nat} {Q : Int32 → St → Prop} (hd : 1 ≤ d) 
    (hw : if (S 24 3) ≤ (nI a2) then (
      Q (1 : Int32) S)
    else (
      a2 < 8 ∧
      if (S 29 a2) = a1 then (
        a2 < 8 ∧
        k_Scene_isWhite E (d - 1) S 55 (S 28 a2) (fun x1 S2 =>
        a2 < 8 ∧
        if (S2 30 a2) = 1 then (
          if x1 = 1 then (
            k_Guess_agreesOn_2 E d S2 a1 (a2 + 1) Q)
          else (
            Q (0 : Int32) S2))
        else (
          if x1 = 0 then (
            k_Guess_agreesOn_2 E d S2 a1 (a2 + 1) Q)
          else (
            Q (0 : Int32) S2))))
      else (
        k_Guess_agreesOn_2 E d S a1 (a2 + 1) Q))) :
    k_Guess_agreesOn_2 E d S a1 a2 Q := by
  obtain ⟨d, rfl⟩ := Nat.exists_eq_add_of_le' hd
  show wp E (d + 1) m_Guess_agreesOn 2 [some (.ref 54), some (.int a1), some (.int (nI a2))] [] (Hp S) (QI Q)
  refine wp_st (pc' := 4) (L' := [some (.ref 54), some (.int a1), some (.int (nI a2))]) (st' := [.ref 54, .int (nI a2)]) (h' := Hp S) 2 (fun Z => rfl) ?_
  refine wp_st (pc' := 7) (L' := [some (.ref 54), some (.int a1), some (.int (nI a2))]) (st' := [.ref 24, .int (nI a2)]) (h' := Hp S) 1 (fun Z => gfR (E := E) sh54 rfl _) ?_
  refine wp_st (pc' := 10) (L' := [some (.ref 54), some (.int a1), some (.int (nI a2))]) (st' := [.int (S 24 3), .int (nI a2)]) (h' := Hp S) 1 (fun Z => gfI (E := E) sh24 rfl _) ?_
  by_cases hc : (S 24 3) ≤ (nI a2)
  · rw [if_pos hc] at hw
    refine wp_st (pc' := 71) (L' := [some (.ref 54), some (.int a1), some (.int (nI a2))]) (st' := []) (h' := Hp S) 1 (fun Z => if_pos hc) ?_
    refine wp_st (pc' := 72) (L' := [some (.ref 54), some (.int a1), some (.int (nI a2))]) (st' := [.int 1]) (h' := Hp S) 1 (fun Z => rfl) ?_
    exact wp_ret (fun Z => rfl) ⟨_, _, rfl, rfl, hw⟩
  · rw [if_neg hc] at hw
    refine wp_st (pc' := 13) (L' := [some (.ref 54), some (.int a1), some (.int (nI a2))]) (st' := []) (h' := Hp S) 1 (fun Z => if_neg hc) ?_
    refine wp_st (pc' := 14) (L' := [some (.ref 54), some (.int a1), some (.int (nI a2))]) (st' := [.ref 54]) (h' := Hp S) 1 (fun Z => rfl) ?_
    refine wp_st (pc' := 17) (L' := [some (.ref 54), some (.int a1), some (.int (nI a2))]) (st' := [.ref 24]) (h' := Hp S) 1 (fun Z => gfR (E := E) sh54 rfl _) ?_
    refine wp_st (pc' := 20) (L' := [some (.ref 54), some (.int a1), some (.int (nI a2))]) (st' := [.ref 29]) (h' := Hp S) 1 (fun Z => gfR (E := E) sh24 rfl _) ?_
    refine wp_st (pc' := 21) (L' := [some (.ref 54), some (.int a1), some (.int (nI a2))]) (st' := [.int (nI a2), .ref 29]) (h' := Hp S) 1 (fun Z => rfl) ?_
    obtain ⟨hi, hw⟩ := hw
    refine wp_st (pc' := 22) (L' := [some (.ref 54), some (.int a1), some (.int (nI a2))]) (st' := [.int (S 29 a2)]) (h' := Hp S) 1 (fun Z => ldN (E := E) sh29 (by decide) hi [] (fun st => Z (d + 1) m_Guess_agreesOn 22 [some (.ref 54), some (.int a1), some (.int (nI a2))] st (Hp S))) ?_
    refine wp_st (pc' := 23) (L' := [some (.ref 54), some (.int a1), some (.int (nI a2))]) (st' := [.int a1, .int (S 29 a2)]) (h' := Hp S) 1 (fun Z => rfl) ?_
    by_cases hc : (S 29 a2) = a1
    · rw [if_pos hc] at hw
      refine wp_st (pc' := 26) (L' := [some (.ref 54), some (.int a1), some (.int (nI a2))]) (st' := []) (h' := Hp S) 1 (fun Z => if_pos hc) ?_
      refine wp_st (pc' := 27) (L' := [some (.ref 54), some (.int a1), some (.int (nI a2))]) (st' := [.ref 54]) (h' := Hp S) 1 (fun Z => rfl) ?_
      refine wp_st (pc' := 30) (L' := [some (.ref 54), some (.int a1), some (.int (nI a2))]) (st' := [.ref 55]) (h' := Hp S) 1 (fun Z => gfR (E := E) sh54 rfl _) ?_
      refine wp_st (pc' := 31) (L' := [some (.ref 54), some (.int a1), some (.int (nI a2))]) (st' := [.ref 54, .ref 55]) (h' := Hp S) 1 (fun Z => rfl) ?_
      refine wp_st (pc' := 34) (L' := [some (.ref 54), some (.int a1), some (.int (nI a2))]) (st' := [.ref 24, .ref 55]) (h' := Hp S) 1 (fun Z => gfR (E := E) sh54 rfl _) ?_
      refine wp_st (pc' := 37) (L' := [some (.ref 54), some (.int a1), some (.int (nI a2))]) (st' := [.ref 28, .ref 55]) (h' := Hp S) 1 (fun Z => gfR (E := E) sh24 rfl _) ?_
      refine wp_st (pc' := 38) (L' := [some (.ref 54), some (.int a1), some (.int (nI a2))]) (st' := [.int (nI a2), .ref 28, .ref 55]) (h' := Hp S) 1 (fun Z => rfl) ?_
      obtain ⟨hi, hw⟩ := hw
      refine wp_st (pc' := 39) (L' := [some (.ref 54), some (.int a1), some (.int (nI a2))]) (st' := [.int (S 28 a2), .ref 55]) (h' := Hp S) 1 (fun Z => ldN (E := E) sh28 (by decide) hi [.ref 55] (fun st => Z (d + 1) m_Guess_agreesOn 39 [some (.ref 54), some (.int a1), some (.int (nI a2))] st (Hp S))) ?_
      refine wp_call (pc' := 42) (rest := []) (fun Z => rfl) (isO_of sh55) hw ?_
      rintro o h1 ⟨x1, S2, rfl, rfl, hw⟩
      refine ⟨_, rfl, ?_⟩
      show wp E (d + 1) m_Guess_agreesOn 42 [some (.ref 54), some (.int a1), some (.int (nI a2))] [.int x1] (Hp S2) (QI Q)
      refine wp_st (pc' := 43) (L' := [some (.ref 54), some (.int a1), some (.int (nI a2))]) (st' := [.ref 54, .int x1]) (h' := Hp S2) 1 (fun Z => rfl) ?_
      refine wp_st (pc' := 46) (L' := [some (.ref 54), some (.int a1), some (.int (nI a2))]) (st' := [.ref 24, .int x1]) (h' := Hp S2) 1 (fun Z => gfR (E := E) sh54 rfl _) ?_
      refine wp_st (pc' := 49) (L' := [some (.ref 54), some (.int a1), some (.int (nI a2))]) (st' := [.ref 30, .int x1]) (h' := Hp S2) 1 (fun Z => gfR (E := E) sh24 rfl _) ?_
      refine wp_st (pc' := 50) (L' := [some (.ref 54), some (.int a1), some (.int (nI a2))]) (st' := [.int (nI a2), .ref 30, .int x1]) (h' := Hp S2) 1 (fun Z => rfl) ?_
      obtain ⟨hi, hw⟩ := hw
      refine wp_st (pc' := 51) (L' := [some (.ref 54), some (.int a1), some (.int (nI a2))]) (st' := [.int (S2 30 a2), .int x1]) (h' := Hp S2) 1 (fun Z => ldN (E := E) sh30 (by decide) hi [.int x1] (fun st => Z (d + 1) m_Guess_agreesOn 51 [some (.ref 54), some (.int a1), some (.int (nI a2))] st (Hp S2))) ?_
      refine wp_st (pc' := 52) (L' := [some (.ref 54), some (.int a1), some (.int (nI a2))]) (st' := [.int 1, .int (S2 30 a2), .int x1]) (h' := Hp S2) 1 (fun Z => rfl) ?_
      by_cases hc : (S2 30 a2) = 1
      · rw [if_pos hc] at hw
        refine wp_st (pc' := 55) (L' := [some (.ref 54), some (.int a1), some (.int (nI a2))]) (st' := [.int x1]) (h' := Hp S2) 1 (fun Z => if_pos hc) ?_
        refine wp_st (pc' := 60) (L' := [some (.ref 54), some (.int a1), some (.int (nI a2))]) (st' := [.int 1, .int x1]) (h' := Hp S2) 2 (fun Z => rfl) ?_
        by_cases hc : x1 = 1
        · rw [if_pos hc] at hw
          refine wp_st (pc' := 65) (L' := [some (.ref 54), some (.int a1), some (.int (nI a2))]) (st' := []) (h' := Hp S2) 1 (fun Z => if_pos hc) ?_
          refine wp_st (pc' := 68) (L' := [some (.ref 54), some (.int a1), some (.int (nI (a2 + 1)))]) (st' := []) (h' := Hp S2) 1 (fun Z => by rw [← nI_add a2 1]; rfl) ?_
          exact wp_st 1 (fun Z => rfl) (show wp E (d + 1) m_Guess_agreesOn 2 [some (.ref 54), some (.int a1), some (.int (nI (a2 + 1)))] [] (Hp S2) (QI Q) from hw)
        · rw [if_neg hc] at hw
          refine wp_st (pc' := 63) (L' := [some (.ref 54), some (.int a1), some (.int (nI a2))]) (st' := []) (h' := Hp S2) 1 (fun Z => if_neg hc) ?_
          refine wp_st (pc' := 64) (L' := [some (.ref 54), some (.int a1), some (.int (nI a2))]) (st' := [.int 0]) (h' := Hp S2) 1 (fun Z => rfl) ?_
          exact wp_ret (fun Z => rfl) ⟨_, _, rfl, rfl, hw⟩
      · rw [if_neg hc] at hw
        refine wp_st (pc' := 59) (L' := [some (.ref 54), some (.int a1), some (.int (nI a2))]) (st' := [.int x1]) (h' := Hp S2) 1 (fun Z => if_neg hc) ?_
        refine wp_st (pc' := 60) (L' := [some (.ref 54), some (.int a1), some (.int (nI a2))]) (st' := [.int 0, .int x1]) (h' := Hp S2) 1 (fun Z => rfl) ?_
        by_cases hc : x1 = 0
        · rw [if_pos hc] at hw
          refine wp_st (pc' := 65) (L' := [some (.ref 54), some (.int a1), some (.int (nI a2))]) (st' := []) (h' := Hp S2) 1 (fun Z => if_pos hc) ?_
          refine wp_st (pc' := 68) (L' := [some (.ref 54), some (.int a1), some (.int (nI (a2 + 1)))]) (st' := []) (h' := Hp S2) 1 (fun Z => by rw [← nI_add a2 1]; rfl) ?_
          exact wp_st 1 (fun Z => rfl) (show wp E (d + 1) m_Guess_agreesOn 2 [some (.ref 54), some (.int a1), some (.int (nI (a2 + 1)))] [] (Hp S2) (QI Q) from hw)
        · rw [if_neg hc] at hw
          refine wp_st (pc' := 63) (L' := [some (.ref 54), some (.int a1), some (.int (nI a2))]) (st' := []) (h' := Hp S2) 1 (fun Z => if_neg hc) ?_
          refine wp_st (pc' := 64) (L' := [some (.ref 54), some (.int a1), some (.int (nI a2))]) (st' := [.int 0]) (h' := Hp S2) 1 (fun Z => rfl) ?_
          exact wp_ret (fun Z => rfl) ⟨_, _, rfl, rfl, hw⟩
    · rw [if_neg hc] at hw
      refine wp_st (pc' := 65) (L' := [some (.ref 54), some (.int a1), some (.int (nI a2))]) (st' := []) (h' := Hp S) 1 (fun Z => if_neg hc) ?_
      refine wp_st (pc' := 68) (L' := [some (.ref 54), some (.int a1), some (.int (nI (a2 + 1)))]) (st' := []) (h' := Hp S) 1 (fun Z => by rw [← nI_add a2 1]; rfl) ?_
      exact wp_st 1 (fun Z => rfl) (show wp E (d + 1) m_Guess_agreesOn 2 [some (.ref 54), some (.int a1), some (.int (nI (a2 + 1)))] [] (Hp S) (QI Q) from hw)
set_option maxRecDepth 4000 in
theorem w_Guess_search {E : zX} {d : Nat} {S : St} {a1 : Int32} {Q : St → Prop} (hd : 1 ≤ d) 
    (hw : k_Guess_lastDay E (d - 1) S (fun x1 S2 =>
    ∀ S3, S3 = up S2 54 0 0 →
    ∀ S4, S4 = up S3 54 1 (-1) →
    k_Guess_search_21 E d S4 (zmax a1 x1) 0 Q)) :
    k_Guess_search E d S a1 Q := by
  obtain ⟨d, rfl⟩ := Nat.exists_eq_add_of_le' hd
  show wp E (d + 1) m_Guess_search 0 [some (.ref 54), some (.int a1), none, none, none, none] [] (Hp S) (QV Q)
  refine wp_st (pc' := 2) (L' := [some (.ref 54), some (.int a1), none, none, none, none]) (st' := [.ref 54, .int a1]) (h' := Hp S) 2 (fun Z => rfl) ?_
  refine wp_call (pc' := 5) (rest := [.int a1]) (fun Z => rfl) (isO_of sh54) hw ?_
  rintro o h1 ⟨x1, S2, rfl, rfl, hw⟩
  refine ⟨_, rfl, ?_⟩
  show wp E (d + 1) m_Guess_search 5 [some (.ref 54), some (.int a1), none, none, none, none] [.int x1, .int a1] (Hp S2) (QV Q)
  refine wp_st (pc' := 11) (L' := [some (.ref 54), some (.int a1), some (.int (zmax a1 x1)), none, none, none]) (st' := [.int 0, .ref 54]) (h' := Hp S2) 4 (fun Z => rfl) ?_
  have hw := hw _ rfl
  refine wp_st (pc' := 14) (L' := [some (.ref 54), some (.int a1), some (.int (zmax a1 x1)), none, none, none]) (st' := []) (h' := Hp (up S2 54 0 0)) 1 (fun Z => pfI sh54 rfl (Nat.le_of_ble_eq_true rfl) rfl _) ?_
  generalize up S2 54 0 0 = S3 at hw ⊢
  refine wp_st (pc' := 15) (L' := [some (.ref 54), some (.int a1), some (.int (zmax a1 x1)), none, none, none]) (st' := [.ref 54]) (h' := Hp S3) 1 (fun Z => rfl) ?_
  refine wp_st (pc' := 16) (L' := [some (.ref 54), some (.int a1), some (.int (zmax a1 x1)), none, none, none]) (st' := [.int (-1), .ref 54]) (h' := Hp S3) 1 (fun Z => congrArg (fun v => Z (d + 1) m_Guess_search 16 [some (.ref 54), some (.int a1), some (.int (zmax a1 x1)), none, none, none] [.int v, .ref 54] (Hp S3)) (show Int32.ofInt (-1) = (-1) by decide)) ?_
  have hw := hw _ rfl
  refine wp_st (pc' := 19) (L' := [some (.ref 54), some (.int a1), some (.int (zmax a1 x1)), none, none, none]) (st' := []) (h' := Hp (up S3 54 1 (-1))) 1 (fun Z => pfI sh54 rfl (Nat.le_of_ble_eq_true rfl) rfl _) ?_
  generalize up S3 54 1 (-1) = S4 at hw ⊢
  exact wp_st 2 (fun Z => rfl) (show wp E (d + 1) m_Guess_search 21 [some (.ref 54), some (.int a1), some (.int (zmax a1 x1)), some (.int 0), none, none] [] (Hp S4) (QV Q) from (hw (some (.int a1)) none none))
set_option maxRecDepth 4000 in
theorem w_Guess_search_21 {E : zX} {d : Nat} {S : St} {a2 : Int32} {a3 : Nat} {Q : St → Prop} (hd : 1 ≤ d) 
    (hw : if nI 40 ≤ (nI a3) then (
      k_Guess_search_45 E d S a2 0 Q)
    else (
      a3 < 40 ∧
      ∀ S1, S1 = up S 59 a3 0 →
      k_Guess_search_21 E d S1 a2 (a3 + 1) Q)) :
    k_Guess_search_21 E d S a2 a3 Q := by
  obtain ⟨d, rfl⟩ := Nat.exists_eq_add_of_le' hd
  intro j1 j4 j5
  show wp E (d + 1) m_Guess_search 21 [some (.ref 54), j1, some (.int a2), some (.int (nI a3)), j4, j5] [] (Hp S) (QV Q)
  refine wp_st (pc' := 23) (L' := [some (.ref 54), j1, some (.int a2), some (.int (nI a3)), j4, j5]) (st' := [.ref 54, .int (nI a3)]) (h' := Hp S) 2 (fun Z => rfl) ?_
  refine wp_st (pc' := 26) (L' := [some (.ref 54), j1, some (.int a2), some (.int (nI a3)), j4, j5]) (st' := [.ref 59, .int (nI a3)]) (h' := Hp S) 1 (fun Z => gfR (E := E) sh54 rfl _) ?_
  refine wp_st (pc' := 27) (L' := [some (.ref 54), j1, some (.int a2), some (.int (nI a3)), j4, j5]) (st' := [.int 40, .int (nI a3)]) (h' := Hp S) 1 (fun Z => lnX (E := E) sh59 [.int (nI a3)] (fun st => Z (d + 1) m_Guess_search 27 [some (.ref 54), j1, some (.int a2), some (.int (nI a3)), j4, j5] st (Hp S))) ?_
  by_cases hc : nI 40 ≤ (nI a3)
  · rw [if_pos hc] at hw
    refine wp_st (pc' := 43) (L' := [some (.ref 54), j1, some (.int a2), some (.int (nI a3)), j4, j5]) (st' := []) (h' := Hp S) 1 (fun Z => if_pos hc) ?_
    exact wp_st 2 (fun Z => rfl) (show wp E (d + 1) m_Guess_search 45 [some (.ref 54), j1, some (.int a2), some (.int 0), j4, j5] [] (Hp S) (QV Q) from (hw j1 j4 j5))
  · rw [if_neg hc] at hw
    refine wp_st (pc' := 30) (L' := [some (.ref 54), j1, some (.int a2), some (.int (nI a3)), j4, j5]) (st' := []) (h' := Hp S) 1 (fun Z => if_neg hc) ?_
    refine wp_st (pc' := 31) (L' := [some (.ref 54), j1, some (.int a2), some (.int (nI a3)), j4, j5]) (st' := [.ref 54]) (h' := Hp S) 1 (fun Z => rfl) ?_
    refine wp_st (pc' := 34) (L' := [some (.ref 54), j1, some (.int a2), some (.int (nI a3)), j4, j5]) (st' := [.ref 59]) (h' := Hp S) 1 (fun Z => gfR (E := E) sh54 rfl _) ?_
    refine wp_st (pc' := 36) (L' := [some (.ref 54), j1, some (.int a2), some (.int (nI a3)), j4, j5]) (st' := [.int 0, .int (nI a3), .ref 59]) (h' := Hp S) 2 (fun Z => rfl) ?_
    obtain ⟨hi, hw⟩ := hw
    have hw := hw _ rfl
    refine wp_st (pc' := 37) (L' := [some (.ref 54), j1, some (.int a2), some (.int (nI a3)), j4, j5]) (st' := []) (h' := Hp (up S 59 a3 0)) 1 (fun Z => stN sh59 (by decide) hi _ _) ?_
    generalize up S 59 a3 0 = S1 at hw ⊢
    refine wp_st (pc' := 40) (L' := [some (.ref 54), j1, some (.int a2), some (.int (nI (a3 + 1))), j4, j5]) (st' := []) (h' := Hp S1) 1 (fun Z => by rw [← nI_add a3 1]; rfl) ?_
    exact wp_st 1 (fun Z => rfl) (show wp E (d + 1) m_Guess_search 21 [some (.ref 54), j1, some (.int a2), some (.int (nI (a3 + 1))), j4, j5] [] (Hp S1) (QV Q) from (hw j1 j4 j5))
set_option maxRecDepth 4000 in
theorem w_Guess_search_45 {E : zX} {d : Nat} {S : St} {a2 : Int32} {a3 : Nat} {Q : St → Prop} (hd : 1 ≤ d) 
    (hw : if ((10 : Int32) * (S 3 3)) ≤ (nI a3) then (
      Q S)
    else (
      k_Scene_mildOf E (d - 1) S 25 ((nI a3) / 10) (fun x1 S2 =>
      if (zrem (nI a3) 10) = x1 then (
        k_Guess_search_45 E d S2 a2 (a3 + 1) Q)
      else (
        k_Scene_copyFrom E (d - 1) S2 55 25 (fun S4 =>
        k_Scene_setMild E (d - 1) S4 55 ((nI a3) / 10) (zrem (nI a3) 10) (fun S6 =>
        k_Guess_agrees E (d - 1) S6 a2 (fun x7 S8 =>
        if x7 = 0 then (
          k_Guess_search_45 E d S8 a2 (a3 + 1) Q)
        else (
          k_Guess_note E (d - 1) S8 (nI a3) a2 (fun S10 =>
          k_Guess_search_45 E d S10 a2 (a3 + 1) Q))))))))) :
    k_Guess_search_45 E d S a2 a3 Q := by
  obtain ⟨d, rfl⟩ := Nat.exists_eq_add_of_le' hd
  intro j1 j4 j5
  show wp E (d + 1) m_Guess_search 45 [some (.ref 54), j1, some (.int a2), some (.int (nI a3)), j4, j5] [] (Hp S) (QV Q)
  refine wp_st (pc' := 49) (L' := [some (.ref 54), j1, some (.int a2), some (.int (nI a3)), j4, j5]) (st' := [.ref 54, .int 10, .int (nI a3)]) (h' := Hp S) 3 (fun Z => rfl) ?_
  refine wp_st (pc' := 52) (L' := [some (.ref 54), j1, some (.int a2), some (.int (nI a3)), j4, j5]) (st' := [.ref 3, .int 10, .int (nI a3)]) (h' := Hp S) 1 (fun Z => gfR (E := E) sh54 rfl _) ?_
  refine wp_st (pc' := 55) (L' := [some (.ref 54), j1, some (.int a2), some (.int (nI a3)), j4, j5]) (st' := [.int (S 3 3), .int 10, .int (nI a3)]) (h' := Hp S) 1 (fun Z => gfI (E := E) sh3 rfl _) ?_
  refine wp_st (pc' := 56) (L' := [some (.ref 54), j1, some (.int a2), some (.int (nI a3)), j4, j5]) (st' := [.int ((10 : Int32) * (S 3 3)), .int (nI a3)]) (h' := Hp S) 1 (fun Z => rfl) ?_
  by_cases hc : ((10 : Int32) * (S 3 3)) ≤ (nI a3)
  · rw [if_pos hc] at hw
    refine wp_st (pc' := 133) (L' := [some (.ref 54), j1, some (.int a2), some (.int (nI a3)), j4, j5]) (st' := []) (h' := Hp S) 1 (fun Z => if_pos hc) ?_
    exact wp_ret (fun Z => rfl) ⟨_, rfl, rfl, hw⟩
  · rw [if_neg hc] at hw
    refine wp_st (pc' := 59) (L' := [some (.ref 54), j1, some (.int a2), some (.int (nI a3)), j4, j5]) (st' := []) (h' := Hp S) 1 (fun Z => if_neg hc) ?_
    refine wp_st (pc' := 62) (L' := [some (.ref 54), j1, some (.int a2), some (.int (nI a3)), j4, j5]) (st' := [.int 10, .int (nI a3)]) (h' := Hp S) 2 (fun Z => rfl) ?_
    refine wp_st (pc' := 63) (L' := [some (.ref 54), j1, some (.int a2), some (.int (nI a3)), j4, j5]) (st' := [.int ((nI a3) / 10)]) (h' := Hp S) 1 (fun Z => rfl) ?_
    refine wp_st (pc' := 68) (L' := [some (.ref 54), j1, some (.int a2), some (.int (nI a3)), some (.int ((nI a3) / 10)), j5]) (st' := [.int 10, .int (nI a3)]) (h' := Hp S) 3 (fun Z => rfl) ?_
    refine wp_st (pc' := 69) (L' := [some (.ref 54), j1, some (.int a2), some (.int (nI a3)), some (.int ((nI a3) / 10)), j5]) (st' := [.int (zrem (nI a3) 10)]) (h' := Hp S) 1 (fun Z => rfl) ?_
    refine wp_st (pc' := 74) (L' := [some (.ref 54), j1, some (.int a2), some (.int (nI a3)), some (.int ((nI a3) / 10)), some (.int (zrem (nI a3) 10))]) (st' := [.ref 54, .int (zrem (nI a3) 10)]) (h' := Hp S) 3 (fun Z => rfl) ?_
    refine wp_st (pc' := 77) (L' := [some (.ref 54), j1, some (.int a2), some (.int (nI a3)), some (.int ((nI a3) / 10)), some (.int (zrem (nI a3) 10))]) (st' := [.ref 24, .int (zrem (nI a3) 10)]) (h' := Hp S) 1 (fun Z => gfR (E := E) sh54 rfl _) ?_
    refine wp_st (pc' := 80) (L' := [some (.ref 54), j1, some (.int a2), some (.int (nI a3)), some (.int ((nI a3) / 10)), some (.int (zrem (nI a3) 10))]) (st' := [.ref 25, .int (zrem (nI a3) 10)]) (h' := Hp S) 1 (fun Z => gfR (E := E) sh24 rfl _) ?_
    refine wp_st (pc' := 82) (L' := [some (.ref 54), j1, some (.int a2), some (.int (nI a3)), some (.int ((nI a3) / 10)), some (.int (zrem (nI a3) 10))]) (st' := [.int ((nI a3) / 10), .ref 25, .int (zrem (nI a3) 10)]) (h' := Hp S) 1 (fun Z => rfl) ?_
    refine wp_call (pc' := 85) (rest := [.int (zrem (nI a3) 10)]) (fun Z => rfl) (isO_of sh25) hw ?_
    rintro o h1 ⟨x1, S2, rfl, rfl, hw⟩
    refine ⟨_, rfl, ?_⟩
    show wp E (d + 1) m_Guess_search 85 [some (.ref 54), j1, some (.int a2), some (.int (nI a3)), some (.int ((nI a3) / 10)), some (.int (zrem (nI a3) 10))] [.int x1, .int (zrem (nI a3) 10)] (Hp S2) (QV Q)
    by_cases hc : (zrem (nI a3) 10) = x1
    · rw [if_pos hc] at hw
      refine wp_st (pc' := 127) (L' := [some (.ref 54), j1, some (.int a2), some (.int (nI a3)), some (.int ((nI a3) / 10)), some (.int (zrem (nI a3) 10))]) (st' := []) (h' := Hp S2) 1 (fun Z => if_pos hc) ?_
      refine wp_st (pc' := 130) (L' := [some (.ref 54), j1, some (.int a2), some (.int (nI (a3 + 1))), some (.int ((nI a3) / 10)), some (.int (zrem (nI a3) 10))]) (st' := []) (h' := Hp S2) 1 (fun Z => by rw [← nI_add a3 1]; rfl) ?_
      exact wp_st 1 (fun Z => rfl) (show wp E (d + 1) m_Guess_search 45 [some (.ref 54), j1, some (.int a2), some (.int (nI (a3 + 1))), some (.int ((nI a3) / 10)), some (.int (zrem (nI a3) 10))] [] (Hp S2) (QV Q) from (hw j1 (some (.int ((nI a3) / 10))) (some (.int (zrem (nI a3) 10)))))
    · rw [if_neg hc] at hw
      refine wp_st (pc' := 88) (L' := [some (.ref 54), j1, some (.int a2), some (.int (nI a3)), some (.int ((nI a3) / 10)), some (.int (zrem (nI a3) 10))]) (st' := []) (h' := Hp S2) 1 (fun Z => if_neg hc) ?_
      refine wp_st (pc' := 89) (L' := [some (.ref 54), j1, some (.int a2), some (.int (nI a3)), some (.int ((nI a3) / 10)), some (.int (zrem (nI a3) 10))]) (st' := [.ref 54]) (h' := Hp S2) 1 (fun Z => rfl) ?_
      refine wp_st (pc' := 92) (L' := [some (.ref 54), j1, some (.int a2), some (.int (nI a3)), some (.int ((nI a3) / 10)), some (.int (zrem (nI a3) 10))]) (st' := [.ref 55]) (h' := Hp S2) 1 (fun Z => gfR (E := E) sh54 rfl _) ?_
      refine wp_st (pc' := 93) (L' := [some (.ref 54), j1, some (.int a2), some (.int (nI a3)), some (.int ((nI a3) / 10)), some (.int (zrem (nI a3) 10))]) (st' := [.ref 54, .ref 55]) (h' := Hp S2) 1 (fun Z => rfl) ?_
      refine wp_st (pc' := 96) (L' := [some (.ref 54), j1, some (.int a2), some (.int (nI a3)), some (.int ((nI a3) / 10)), some (.int (zrem (nI a3) 10))]) (st' := [.ref 24, .ref 55]) (h' := Hp S2) 1 (fun Z => gfR (E := E) sh54 rfl _) ?_
      refine wp_st (pc' := 99) (L' := [some (.ref 54), j1, some (.int a2), some (.int (nI a3)), some (.int ((nI a3) / 10)), some (.int (zrem (nI a3) 10))]) (st' := [.ref 25, .ref 55]) (h' := Hp S2) 1 (fun Z => gfR (E := E) sh24 rfl _) ?_
      refine wp_call (pc' := 102) (rest := []) (fun Z => rfl) (isO_of sh55) hw ?_
      rintro o h1 ⟨S4, rfl, rfl, hw⟩
      refine ⟨_, rfl, ?_⟩
      show wp E (d + 1) m_Guess_search 102 [some (.ref 54), j1, some (.int a2), some (.int (nI a3)), some (.int ((nI a3) / 10)), some (.int (zrem (nI a3) 10))] [] (Hp S4) (QV Q)
      refine wp_st (pc' := 103) (L' := [some (.ref 54), j1, some (.int a2), some (.int (nI a3)), some (.int ((nI a3) / 10)), some (.int (zrem (nI a3) 10))]) (st' := [.ref 54]) (h' := Hp S4) 1 (fun Z => rfl) ?_
      refine wp_st (pc' := 106) (L' := [some (.ref 54), j1, some (.int a2), some (.int (nI a3)), some (.int ((nI a3) / 10)), some (.int (zrem (nI a3) 10))]) (st' := [.ref 55]) (h' := Hp S4) 1 (fun Z => gfR (E := E) sh54 rfl _) ?_
      refine wp_st (pc' := 110) (L' := [some (.ref 54), j1, some (.int a2), some (.int (nI a3)), some (.int ((nI a3) / 10)), some (.int (zrem (nI a3) 10))]) (st' := [.int (zrem (nI a3) 10), .int ((nI a3) / 10), .ref 55]) (h' := Hp S4) 2 (fun Z => rfl) ?_
      refine wp_call (pc' := 113) (rest := []) (fun Z => rfl) (isO_of sh55) hw ?_
      rintro o h1 ⟨S6, rfl, rfl, hw⟩
      refine ⟨_, rfl, ?_⟩
      show wp E (d + 1) m_Guess_search 113 [some (.ref 54), j1, some (.int a2), some (.int (nI a3)), some (.int ((nI a3) / 10)), some (.int (zrem (nI a3) 10))] [] (Hp S6) (QV Q)
      refine wp_st (pc' := 115) (L' := [some (.ref 54), j1, some (.int a2), some (.int (nI a3)), some (.int ((nI a3) / 10)), some (.int (zrem (nI a3) 10))]) (st' := [.int a2, .ref 54]) (h' := Hp S6) 2 (fun Z => rfl) ?_
      refine wp_call (pc' := 118) (rest := []) (fun Z => rfl) (isO_of sh54) hw ?_
      rintro o h1 ⟨x7, S8, rfl, rfl, hw⟩
      refine ⟨_, rfl, ?_⟩
      show wp E (d + 1) m_Guess_search 118 [some (.ref 54), j1, some (.int a2), some (.int (nI a3)), some (.int ((nI a3) / 10)), some (.int (zrem (nI a3) 10))] [.int x7] (Hp S8) (QV Q)
      by_cases hc : x7 = 0
      · rw [if_pos hc] at hw
        refine wp_st (pc' := 127) (L' := [some (.ref 54), j1, some (.int a2), some (.int (nI a3)), some (.int ((nI a3) / 10)), some (.int (zrem (nI a3) 10))]) (st' := []) (h' := Hp S8) 1 (fun Z => if_pos hc) ?_
        refine wp_st (pc' := 130) (L' := [some (.ref 54), j1, some (.int a2), some (.int (nI (a3 + 1))), some (.int ((nI a3) / 10)), some (.int (zrem (nI a3) 10))]) (st' := []) (h' := Hp S8) 1 (fun Z => by rw [← nI_add a3 1]; rfl) ?_
        exact wp_st 1 (fun Z => rfl) (show wp E (d + 1) m_Guess_search 45 [some (.ref 54), j1, some (.int a2), some (.int (nI (a3 + 1))), some (.int ((nI a3) / 10)), some (.int (zrem (nI a3) 10))] [] (Hp S8) (QV Q) from (hw j1 (some (.int ((nI a3) / 10))) (some (.int (zrem (nI a3) 10)))))
      · rw [if_neg hc] at hw
        refine wp_st (pc' := 121) (L' := [some (.ref 54), j1, some (.int a2), some (.int (nI a3)), some (.int ((nI a3) / 10)), some (.int (zrem (nI a3) 10))]) (st' := []) (h' := Hp S8) 1 (fun Z => if_neg hc) ?_
        refine wp_st (pc' := 124) (L' := [some (.ref 54), j1, some (.int a2), some (.int (nI a3)), some (.int ((nI a3) / 10)), some (.int (zrem (nI a3) 10))]) (st' := [.int a2, .int (nI a3), .ref 54]) (h' := Hp S8) 3 (fun Z => rfl) ?_
        refine wp_call (pc' := 127) (rest := []) (fun Z => rfl) (isO_of sh54) hw ?_
        rintro o h1 ⟨S10, rfl, rfl, hw⟩
        refine ⟨_, rfl, ?_⟩
        show wp E (d + 1) m_Guess_search 127 [some (.ref 54), j1, some (.int a2), some (.int (nI a3)), some (.int ((nI a3) / 10)), some (.int (zrem (nI a3) 10))] [] (Hp S10) (QV Q)
        refine wp_st (pc' := 130) (L' := [some (.ref 54), j1, some (.int a2), some (.int (nI (a3 + 1))), some (.int ((nI a3) / 10)), some (.int (zrem (nI a3) 10))]) (st' := []) (h' := Hp S10) 1 (fun Z => by rw [← nI_add a3 1]; rfl) ?_
        exact wp_st 1 (fun Z => rfl) (show wp E (d + 1) m_Guess_search 45 [some (.ref 54), j1, some (.int a2), some (.int (nI (a3 + 1))), some (.int ((nI a3) / 10)), some (.int (zrem (nI a3) 10))] [] (Hp S10) (QV Q) from (hw j1 (some (.int ((nI a3) / 10))) (some (.int (zrem (nI a3) 10)))))
set_option maxRecDepth 4000 in
theorem w_Guess_note {E : zX} {d : Nat} {S : St} {a1 : Int32} {a2 : Int32} {Q : St → Prop} (hd : 1 ≤ d) 
    (hw : ∀ S1, S1 = up S 54 0 ((S 54 0) + (1 : Int32)) →
    if (S1 54 1) = (-1) then (
      ∀ S2, S2 = up S1 54 1 a1 →
      k_Guess_note_25 E d S2 a2 0 Q)
    else (
      k_Guess_note_25 E d S1 a2 0 Q)) :
    k_Guess_note E d S a1 a2 Q := by
  obtain ⟨d, rfl⟩ := Nat.exists_eq_add_of_le' hd
  show wp E (d + 1) m_Guess_note 0 [some (.ref 54), some (.int a1), some (.int a2), none, none] [] (Hp S) (QV Q)
  refine wp_st (pc' := 2) (L' := [some (.ref 54), some (.int a1), some (.int a2), none, none]) (st' := [.ref 54, .ref 54]) (h' := Hp S) 2 (fun Z => rfl) ?_
  refine wp_st (pc' := 5) (L' := [some (.ref 54), some (.int a1), some (.int a2), none, none]) (st' := [.int (S 54 0), .ref 54]) (h' := Hp S) 1 (fun Z => gfI (E := E) sh54 rfl _) ?_
  refine wp_st (pc' := 7) (L' := [some (.ref 54), some (.int a1), some (.int a2), none, none]) (st' := [.int ((S 54 0) + (1 : Int32)), .ref 54]) (h' := Hp S) 2 (fun Z => rfl) ?_
  have hw := hw _ rfl
  refine wp_st (pc' := 10) (L' := [some (.ref 54), some (.int a1), some (.int a2), none, none]) (st' := []) (h' := Hp (up S 54 0 ((S 54 0) + (1 : Int32)))) 1 (fun Z => pfI sh54 rfl (Nat.le_of_ble_eq_true rfl) rfl _) ?_
  generalize up S 54 0 ((S 54 0) + (1 : Int32)) = S1 at hw ⊢
  refine wp_st (pc' := 11) (L' := [some (.ref 54), some (.int a1), some (.int a2), none, none]) (st' := [.ref 54]) (h' := Hp S1) 1 (fun Z => rfl) ?_
  refine wp_st (pc' := 14) (L' := [some (.ref 54), some (.int a1), some (.int a2), none, none]) (st' := [.int (S1 54 1)]) (h' := Hp S1) 1 (fun Z => gfI (E := E) sh54 rfl _) ?_
  refine wp_st (pc' := 15) (L' := [some (.ref 54), some (.int a1), some (.int a2), none, none]) (st' := [.int (-1), .int (S1 54 1)]) (h' := Hp S1) 1 (fun Z => congrArg (fun v => Z (d + 1) m_Guess_note 15 [some (.ref 54), some (.int a1), some (.int a2), none, none] [.int v, .int (S1 54 1)] (Hp S1)) (show Int32.ofInt (-1) = (-1) by decide)) ?_
  by_cases hc : (S1 54 1) = (-1)
  · rw [if_pos hc] at hw
    refine wp_st (pc' := 18) (L' := [some (.ref 54), some (.int a1), some (.int a2), none, none]) (st' := []) (h' := Hp S1) 1 (fun Z => if_pos hc) ?_
    refine wp_st (pc' := 20) (L' := [some (.ref 54), some (.int a1), some (.int a2), none, none]) (st' := [.int a1, .ref 54]) (h' := Hp S1) 2 (fun Z => rfl) ?_
    have hw := hw _ rfl
    refine wp_st (pc' := 23) (L' := [some (.ref 54), some (.int a1), some (.int a2), none, none]) (st' := []) (h' := Hp (up S1 54 1 a1)) 1 (fun Z => pfI sh54 rfl (Nat.le_of_ble_eq_true rfl) rfl _) ?_
    generalize up S1 54 1 a1 = S2 at hw ⊢
    exact wp_st 2 (fun Z => rfl) (show wp E (d + 1) m_Guess_note 25 [some (.ref 54), some (.int a1), some (.int a2), some (.int 0), none] [] (Hp S2) (QV Q) from (hw (some (.int a1)) none))
  · rw [if_neg hc] at hw
    refine wp_st (pc' := 23) (L' := [some (.ref 54), some (.int a1), some (.int a2), none, none]) (st' := []) (h' := Hp S1) 1 (fun Z => if_neg hc) ?_
    exact wp_st 2 (fun Z => rfl) (show wp E (d + 1) m_Guess_note 25 [some (.ref 54), some (.int a1), some (.int a2), some (.int 0), none] [] (Hp S1) (QV Q) from (hw (some (.int a1)) none))
set_option maxRecDepth 4000 in
theorem w_Guess_note_25 {E : zX} {d : Nat} {S : St} {a2 : Int32} {a3 : Nat} {Q : St → Prop} (hd : 1 ≤ d) 
    (hw : if (S 3 4) ≤ (nI a3) then (
      Q S)
    else (
      if a2 < 8 then (
        Q S)
      else (
        k_Scene_heldIn E (d - 1) S 57 (nI a3) (fun x1 S2 =>
        ∃ m3 : Nat, ((nI (a3 * 4)) + (x1 >>> ((5 : Int32) &&& 31))) = nI m3 ∧ m3 < 40 ∧
        ∃ m5 : Nat, ((nI (a3 * 4)) + (x1 >>> ((5 : Int32) &&& 31))) = nI m5 ∧ m5 < 40 ∧
        ∀ S4, S4 = up S2 59 m5 ((S2 59 m3) ||| ((1 : Int32) <<< ((x1 &&& (31 : Int32)) &&& 31))) →
        k_Guess_note_25 E d S4 a2 (a3 + 1) Q)))) :
    k_Guess_note_25 E d S a2 a3 Q := by
  obtain ⟨d, rfl⟩ := Nat.exists_eq_add_of_le' hd
  intro j1 j4
  show wp E (d + 1) m_Guess_note 25 [some (.ref 54), j1, some (.int a2), some (.int (nI a3)), j4] [] (Hp S) (QV Q)
  refine wp_st (pc' := 27) (L' := [some (.ref 54), j1, some (.int a2), some (.int (nI a3)), j4]) (st' := [.ref 54, .int (nI a3)]) (h' := Hp S) 2 (fun Z => rfl) ?_
  refine wp_st (pc' := 30) (L' := [some (.ref 54), j1, some (.int a2), some (.int (nI a3)), j4]) (st' := [.ref 3, .int (nI a3)]) (h' := Hp S) 1 (fun Z => gfR (E := E) sh54 rfl _) ?_
  refine wp_st (pc' := 33) (L' := [some (.ref 54), j1, some (.int a2), some (.int (nI a3)), j4]) (st' := [.int (S 3 4), .int (nI a3)]) (h' := Hp S) 1 (fun Z => gfI (E := E) sh3 rfl _) ?_
  by_cases hc : (S 3 4) ≤ (nI a3)
  · rw [if_pos hc] at hw
    refine wp_st (pc' := 81) (L' := [some (.ref 54), j1, some (.int a2), some (.int (nI a3)), j4]) (st' := []) (h' := Hp S) 1 (fun Z => if_pos hc) ?_
    exact wp_ret (fun Z => rfl) ⟨_, rfl, rfl, hw⟩
  · rw [if_neg hc] at hw
    refine wp_st (pc' := 36) (L' := [some (.ref 54), j1, some (.int a2), some (.int (nI a3)), j4]) (st' := []) (h' := Hp S) 1 (fun Z => if_neg hc) ?_
    refine wp_st (pc' := 39) (L' := [some (.ref 54), j1, some (.int a2), some (.int (nI a3)), j4]) (st' := [.int 8, .int a2]) (h' := Hp S) 2 (fun Z => rfl) ?_
    by_cases hc : a2 < 8
    · rw [if_pos hc] at hw
      refine wp_st (pc' := 81) (L' := [some (.ref 54), j1, some (.int a2), some (.int (nI a3)), j4]) (st' := []) (h' := Hp S) 1 (fun Z => if_pos hc) ?_
      exact wp_ret (fun Z => rfl) ⟨_, rfl, rfl, hw⟩
    · rw [if_neg hc] at hw
      refine wp_st (pc' := 42) (L' := [some (.ref 54), j1, some (.int a2), some (.int (nI a3)), j4]) (st' := []) (h' := Hp S) 1 (fun Z => if_neg hc) ?_
      refine wp_st (pc' := 43) (L' := [some (.ref 54), j1, some (.int a2), some (.int (nI a3)), j4]) (st' := [.ref 54]) (h' := Hp S) 1 (fun Z => rfl) ?_
      refine wp_st (pc' := 46) (L' := [some (.ref 54), j1, some (.int a2), some (.int (nI a3)), j4]) (st' := [.ref 57]) (h' := Hp S) 1 (fun Z => gfR (E := E) sh54 rfl _) ?_
      refine wp_st (pc' := 47) (L' := [some (.ref 54), j1, some (.int a2), some (.int (nI a3)), j4]) (st' := [.int (nI a3), .ref 57]) (h' := Hp S) 1 (fun Z => rfl) ?_
      refine wp_call (pc' := 50) (rest := []) (fun Z => rfl) (isO_of sh57) hw ?_
      rintro o h1 ⟨x1, S2, rfl, rfl, hw⟩
      refine ⟨_, rfl, ?_⟩
      show wp E (d + 1) m_Guess_note 50 [some (.ref 54), j1, some (.int a2), some (.int (nI a3)), j4] [.int x1] (Hp S2) (QV Q)
      refine wp_st (pc' := 53) (L' := [some (.ref 54), j1, some (.int a2), some (.int (nI a3)), some (.int x1)]) (st' := [.ref 54]) (h' := Hp S2) 2 (fun Z => rfl) ?_
      refine wp_st (pc' := 56) (L' := [some (.ref 54), j1, some (.int a2), some (.int (nI a3)), some (.int x1)]) (st' := [.ref 59]) (h' := Hp S2) 1 (fun Z => gfR (E := E) sh54 rfl _) ?_
      refine wp_st (pc' := 58) (L' := [some (.ref 54), j1, some (.int a2), some (.int (nI a3)), some (.int x1)]) (st' := [.int 4, .int (nI a3), .ref 59]) (h' := Hp S2) 2 (fun Z => rfl) ?_
      refine wp_st (pc' := 59) (L' := [some (.ref 54), j1, some (.int a2), some (.int (nI a3)), some (.int x1)]) (st' := [.int (nI (a3 * 4)), .ref 59]) (h' := Hp S2) 1 (fun Z => by rw [← pk_mul a3 4]; rfl) ?_
      refine wp_st (pc' := 65) (L' := [some (.ref 54), j1, some (.int a2), some (.int (nI a3)), some (.int x1)]) (st' := [.int ((nI (a3 * 4)) + (x1 >>> ((5 : Int32) &&& 31))), .ref 59, .int ((nI (a3 * 4)) + (x1 >>> ((5 : Int32) &&& 31))), .ref 59]) (h' := Hp S2) 5 (fun Z => rfl) ?_
      obtain ⟨m3, em, hi, hw⟩ := hw
      refine wp_st (pc' := 66) (L' := [some (.ref 54), j1, some (.int a2), some (.int (nI a3)), some (.int x1)]) (st' := [.int (S2 59 m3), .int ((nI (a3 * 4)) + (x1 >>> ((5 : Int32) &&& 31))), .ref 59]) (h' := Hp S2) 1 (fun Z => (congrArg (fun v => zit E 1 Z (d + 1) m_Guess_note 65 [some (.ref 54), j1, some (.int a2), some (.int (nI a3)), some (.int x1)] [.int v, .ref 59, .int ((nI (a3 * 4)) + (x1 >>> ((5 : Int32) &&& 31))), .ref 59] (Hp S2)) em).trans (ldN (E := E) sh59 (by decide) hi [.int ((nI (a3 * 4)) + (x1 >>> ((5 : Int32) &&& 31))), .ref 59] (fun st => Z (d + 1) m_Guess_note 66 [some (.ref 54), j1, some (.int a2), some (.int (nI a3)), some (.int x1)] st (Hp S2)))) ?_
      refine wp_st (pc' := 74) (L' := [some (.ref 54), j1, some (.int a2), some (.int (nI a3)), some (.int x1)]) (st' := [.int ((S2 59 m3) ||| ((1 : Int32) <<< ((x1 &&& (31 : Int32)) &&& 31))), .int ((nI (a3 * 4)) + (x1 >>> ((5 : Int32) &&& 31))), .ref 59]) (h' := Hp S2) 6 (fun Z => rfl) ?_
      obtain ⟨m5, em, hi, hw⟩ := hw
      have hw := hw _ rfl
      refine wp_st (pc' := 75) (L' := [some (.ref 54), j1, some (.int a2), some (.int (nI a3)), some (.int x1)]) (st' := []) (h' := Hp (up S2 59 m5 ((S2 59 m3) ||| ((1 : Int32) <<< ((x1 &&& (31 : Int32)) &&& 31))))) 1 (fun Z => (congrArg (fun v => zit E 1 Z (d + 1) m_Guess_note 74 [some (.ref 54), j1, some (.int a2), some (.int (nI a3)), some (.int x1)] [.int ((S2 59 m3) ||| ((1 : Int32) <<< ((x1 &&& (31 : Int32)) &&& 31))), .int v, .ref 59] (Hp S2)) em).trans (stN sh59 (by decide) hi _ _)) ?_
      generalize up S2 59 m5 ((S2 59 m3) ||| ((1 : Int32) <<< ((x1 &&& (31 : Int32)) &&& 31))) = S4 at hw ⊢
      refine wp_st (pc' := 78) (L' := [some (.ref 54), j1, some (.int a2), some (.int (nI (a3 + 1))), some (.int x1)]) (st' := []) (h' := Hp S4) 1 (fun Z => by rw [← nI_add a3 1]; rfl) ?_
      exact wp_st 1 (fun Z => rfl) (show wp E (d + 1) m_Guess_note 25 [some (.ref 54), j1, some (.int a2), some (.int (nI (a3 + 1))), some (.int x1)] [] (Hp S4) (QV Q) from (hw j1 (some (.int x1))))
set_option maxRecDepth 4000 in
theorem w_Guess_mostUnlike {E : zX} {d : Nat} {S : St}  {Q : Int32 → St → Prop} (hd : 1 ≤ d) 
    (hw : k_Guess_mostUnlike_4 E d S (-1) 0 Q) :
    k_Guess_mostUnlike E d S Q := by
  obtain ⟨d, rfl⟩ := Nat.exists_eq_add_of_le' hd
  show wp E (d + 1) m_Guess_mostUnlike 0 [some (.ref 54), none, none] [] (Hp S) (QI Q)
  refine wp_st (pc' := 1) (L' := [some (.ref 54), none, none]) (st' := [.int (-1)]) (h' := Hp S) 1 (fun Z => congrArg (fun v => Z (d + 1) m_Guess_mostUnlike 1 [some (.ref 54), none, none] [.int v] (Hp S)) (show Int32.ofInt (-1) = (-1) by decide)) ?_
  exact wp_st 3 (fun Z => rfl) (show wp E (d + 1) m_Guess_mostUnlike 4 [some (.ref 54), some (.int (-1)), some (.int 0)] [] (Hp S) (QI Q) from hw)
set_option maxRecDepth 4000 in
theorem w_Guess_mostUnlike_4 {E : zX} {d : Nat} {S : St} {a1 : Int32} {a2 : Nat} {Q : Int32 → St → Prop} (hd : 1 ≤ d) 
    (hw : if (S 3 4) ≤ (nI a2) then (
      Q a1 S)
    else (
      if (S 54 0) ≤ 0 then (
        Q a1 S)
      else (
        if a1 = (-1) then (
          k_Guess_mostUnlike_4 E d S (nI a2) (a2 + 1) Q)
        else (
          k_Guess_unlikeIn E (d - 1) S (nI a2) (fun x1 S2 =>
          k_Guess_unlikeIn E (d - 1) S2 a1 (fun x3 S4 =>
          if x1 ≤ x3 then (
            k_Guess_mostUnlike_4 E d S4 a1 (a2 + 1) Q)
          else (
            k_Guess_mostUnlike_4 E d S4 (nI a2) (a2 + 1) Q))))))) :
    k_Guess_mostUnlike_4 E d S a1 a2 Q := by
  obtain ⟨d, rfl⟩ := Nat.exists_eq_add_of_le' hd
  show wp E (d + 1) m_Guess_mostUnlike 4 [some (.ref 54), some (.int a1), some (.int (nI a2))] [] (Hp S) (QI Q)
  refine wp_st (pc' := 6) (L' := [some (.ref 54), some (.int a1), some (.int (nI a2))]) (st' := [.ref 54, .int (nI a2)]) (h' := Hp S) 2 (fun Z => rfl) ?_
  refine wp_st (pc' := 9) (L' := [some (.ref 54), some (.int a1), some (.int (nI a2))]) (st' := [.ref 3, .int (nI a2)]) (h' := Hp S) 1 (fun Z => gfR (E := E) sh54 rfl _) ?_
  refine wp_st (pc' := 12) (L' := [some (.ref 54), some (.int a1), some (.int (nI a2))]) (st' := [.int (S 3 4), .int (nI a2)]) (h' := Hp S) 1 (fun Z => gfI (E := E) sh3 rfl _) ?_
  by_cases hc : (S 3 4) ≤ (nI a2)
  · rw [if_pos hc] at hw
    refine wp_st (pc' := 48) (L' := [some (.ref 54), some (.int a1), some (.int (nI a2))]) (st' := []) (h' := Hp S) 1 (fun Z => if_pos hc) ?_
    refine wp_st (pc' := 49) (L' := [some (.ref 54), some (.int a1), some (.int (nI a2))]) (st' := [.int a1]) (h' := Hp S) 1 (fun Z => rfl) ?_
    exact wp_ret (fun Z => rfl) ⟨_, _, rfl, rfl, hw⟩
  · rw [if_neg hc] at hw
    refine wp_st (pc' := 15) (L' := [some (.ref 54), some (.int a1), some (.int (nI a2))]) (st' := []) (h' := Hp S) 1 (fun Z => if_neg hc) ?_
    refine wp_st (pc' := 16) (L' := [some (.ref 54), some (.int a1), some (.int (nI a2))]) (st' := [.ref 54]) (h' := Hp S) 1 (fun Z => rfl) ?_
    refine wp_st (pc' := 19) (L' := [some (.ref 54), some (.int a1), some (.int (nI a2))]) (st' := [.int (S 54 0)]) (h' := Hp S) 1 (fun Z => gfI (E := E) sh54 rfl _) ?_
    by_cases hc : (S 54 0) ≤ 0
    · rw [if_pos hc] at hw
      refine wp_st (pc' := 48) (L' := [some (.ref 54), some (.int a1), some (.int (nI a2))]) (st' := []) (h' := Hp S) 1 (fun Z => if_pos hc) ?_
      refine wp_st (pc' := 49) (L' := [some (.ref 54), some (.int a1), some (.int (nI a2))]) (st' := [.int a1]) (h' := Hp S) 1 (fun Z => rfl) ?_
      exact wp_ret (fun Z => rfl) ⟨_, _, rfl, rfl, hw⟩
    · rw [if_neg hc] at hw
      refine wp_st (pc' := 22) (L' := [some (.ref 54), some (.int a1), some (.int (nI a2))]) (st' := []) (h' := Hp S) 1 (fun Z => if_neg hc) ?_
      refine wp_st (pc' := 23) (L' := [some (.ref 54), some (.int a1), some (.int (nI a2))]) (st' := [.int a1]) (h' := Hp S) 1 (fun Z => rfl) ?_
      refine wp_st (pc' := 24) (L' := [some (.ref 54), some (.int a1), some (.int (nI a2))]) (st' := [.int (-1), .int a1]) (h' := Hp S) 1 (fun Z => congrArg (fun v => Z (d + 1) m_Guess_mostUnlike 24 [some (.ref 54), some (.int a1), some (.int (nI a2))] [.int v, .int a1] (Hp S)) (show Int32.ofInt (-1) = (-1) by decide)) ?_
      by_cases hc : a1 = (-1)
      · rw [if_pos hc] at hw
        refine wp_st (pc' := 40) (L' := [some (.ref 54), some (.int a1), some (.int (nI a2))]) (st' := []) (h' := Hp S) 1 (fun Z => if_pos hc) ?_
        refine wp_st (pc' := 42) (L' := [some (.ref 54), some (.int (nI a2)), some (.int (nI a2))]) (st' := []) (h' := Hp S) 2 (fun Z => rfl) ?_
        refine wp_st (pc' := 45) (L' := [some (.ref 54), some (.int (nI a2)), some (.int (nI (a2 + 1)))]) (st' := []) (h' := Hp S) 1 (fun Z => by rw [← nI_add a2 1]; rfl) ?_
        exact wp_st 1 (fun Z => rfl) (show wp E (d + 1) m_Guess_mostUnlike 4 [some (.ref 54), some (.int (nI a2)), some (.int (nI (a2 + 1)))] [] (Hp S) (QI Q) from hw)
      · rw [if_neg hc] at hw
        refine wp_st (pc' := 27) (L' := [some (.ref 54), some (.int a1), some (.int (nI a2))]) (st' := []) (h' := Hp S) 1 (fun Z => if_neg hc) ?_
        refine wp_st (pc' := 29) (L' := [some (.ref 54), some (.int a1), some (.int (nI a2))]) (st' := [.int (nI a2), .ref 54]) (h' := Hp S) 2 (fun Z => rfl) ?_
        refine wp_call (pc' := 32) (rest := []) (fun Z => rfl) (isO_of sh54) hw ?_
        rintro o h1 ⟨x1, S2, rfl, rfl, hw⟩
        refine ⟨_, rfl, ?_⟩
        show wp E (d + 1) m_Guess_mostUnlike 32 [some (.ref 54), some (.int a1), some (.int (nI a2))] [.int x1] (Hp S2) (QI Q)
        refine wp_st (pc' := 34) (L' := [some (.ref 54), some (.int a1), some (.int (nI a2))]) (st' := [.int a1, .ref 54, .int x1]) (h' := Hp S2) 2 (fun Z => rfl) ?_
        refine wp_call (pc' := 37) (rest := [.int x1]) (fun Z => rfl) (isO_of sh54) hw ?_
        rintro o h1 ⟨x3, S4, rfl, rfl, hw⟩
        refine ⟨_, rfl, ?_⟩
        show wp E (d + 1) m_Guess_mostUnlike 37 [some (.ref 54), some (.int a1), some (.int (nI a2))] [.int x3, .int x1] (Hp S4) (QI Q)
        by_cases hc : x1 ≤ x3
        · rw [if_pos hc] at hw
          refine wp_st (pc' := 42) (L' := [some (.ref 54), some (.int a1), some (.int (nI a2))]) (st' := []) (h' := Hp S4) 1 (fun Z => if_pos hc) ?_
          refine wp_st (pc' := 45) (L' := [some (.ref 54), some (.int a1), some (.int (nI (a2 + 1)))]) (st' := []) (h' := Hp S4) 1 (fun Z => by rw [← nI_add a2 1]; rfl) ?_
          exact wp_st 1 (fun Z => rfl) (show wp E (d + 1) m_Guess_mostUnlike 4 [some (.ref 54), some (.int a1), some (.int (nI (a2 + 1)))] [] (Hp S4) (QI Q) from hw)
        · rw [if_neg hc] at hw
          refine wp_st (pc' := 40) (L' := [some (.ref 54), some (.int a1), some (.int (nI a2))]) (st' := []) (h' := Hp S4) 1 (fun Z => if_neg hc) ?_
          refine wp_st (pc' := 42) (L' := [some (.ref 54), some (.int (nI a2)), some (.int (nI a2))]) (st' := []) (h' := Hp S4) 2 (fun Z => rfl) ?_
          refine wp_st (pc' := 45) (L' := [some (.ref 54), some (.int (nI a2)), some (.int (nI (a2 + 1)))]) (st' := []) (h' := Hp S4) 1 (fun Z => by rw [← nI_add a2 1]; rfl) ?_
          exact wp_st 1 (fun Z => rfl) (show wp E (d + 1) m_Guess_mostUnlike 4 [some (.ref 54), some (.int (nI a2)), some (.int (nI (a2 + 1)))] [] (Hp S4) (QI Q) from hw)
set_option maxRecDepth 4000 in
theorem w_Guess_unlikeIn {E : zX} {d : Nat} {S : St} {a1 : Nat} {Q : Int32 → St → Prop} (hd : 1 ≤ d) 
    (hw : k_Guess_unlikeIn_4 E d S a1 0 0 Q) :
    k_Guess_unlikeIn E d S (nI a1) Q := by
  obtain ⟨d, rfl⟩ := Nat.exists_eq_add_of_le' hd
  show wp E (d + 1) m_Guess_unlikeIn 0 [some (.ref 54), some (.int (nI a1)), none, none] [] (Hp S) (QI Q)
  exact wp_st 4 (fun Z => rfl) (show wp E (d + 1) m_Guess_unlikeIn 4 [some (.ref 54), some (.int (nI a1)), some (.int 0), some (.int 0)] [] (Hp S) (QI Q) from hw)
set_option maxRecDepth 4000 in
theorem w_Guess_unlikeIn_4 {E : zX} {d : Nat} {S : St} {a1 : Nat} {a2 : Int32} {a3 : Nat} {Q : Int32 → St → Prop} (hd : 1 ≤ d) 
    (hw : if nI 4 ≤ (nI a3) then (
      Q a2 S)
    else (
      ((a1 * 4) + a3) < 40 ∧
      k_Integer_bitCount E (d - 1) S (S 59 ((a1 * 4) + a3)) (fun x1 S2 =>
      k_Guess_unlikeIn_4 E d S2 a1 (a2 + x1) (a3 + 1) Q))) :
    k_Guess_unlikeIn_4 E d S a1 a2 a3 Q := by
  obtain ⟨d, rfl⟩ := Nat.exists_eq_add_of_le' hd
  show wp E (d + 1) m_Guess_unlikeIn 4 [some (.ref 54), some (.int (nI a1)), some (.int a2), some (.int (nI a3))] [] (Hp S) (QI Q)
  refine wp_st (pc' := 6) (L' := [some (.ref 54), some (.int (nI a1)), some (.int a2), some (.int (nI a3))]) (st' := [.int 4, .int (nI a3)]) (h' := Hp S) 2 (fun Z => rfl) ?_
  by_cases hc : nI 4 ≤ (nI a3)
  · rw [if_pos hc] at hw
    refine wp_st (pc' := 31) (L' := [some (.ref 54), some (.int (nI a1)), some (.int a2), some (.int (nI a3))]) (st' := []) (h' := Hp S) 1 (fun Z => if_pos hc) ?_
    refine wp_st (pc' := 32) (L' := [some (.ref 54), some (.int (nI a1)), some (.int a2), some (.int (nI a3))]) (st' := [.int a2]) (h' := Hp S) 1 (fun Z => rfl) ?_
    exact wp_ret (fun Z => rfl) ⟨_, _, rfl, rfl, hw⟩
  · rw [if_neg hc] at hw
    refine wp_st (pc' := 9) (L' := [some (.ref 54), some (.int (nI a1)), some (.int a2), some (.int (nI a3))]) (st' := []) (h' := Hp S) 1 (fun Z => if_neg hc) ?_
    refine wp_st (pc' := 11) (L' := [some (.ref 54), some (.int (nI a1)), some (.int a2), some (.int (nI a3))]) (st' := [.ref 54, .int a2]) (h' := Hp S) 2 (fun Z => rfl) ?_
    refine wp_st (pc' := 14) (L' := [some (.ref 54), some (.int (nI a1)), some (.int a2), some (.int (nI a3))]) (st' := [.ref 59, .int a2]) (h' := Hp S) 1 (fun Z => gfR (E := E) sh54 rfl _) ?_
    refine wp_st (pc' := 16) (L' := [some (.ref 54), some (.int (nI a1)), some (.int a2), some (.int (nI a3))]) (st' := [.int 4, .int (nI a1), .ref 59, .int a2]) (h' := Hp S) 2 (fun Z => rfl) ?_
    refine wp_st (pc' := 17) (L' := [some (.ref 54), some (.int (nI a1)), some (.int a2), some (.int (nI a3))]) (st' := [.int (nI (a1 * 4)), .ref 59, .int a2]) (h' := Hp S) 1 (fun Z => by rw [← pk_mul a1 4]; rfl) ?_
    refine wp_st (pc' := 18) (L' := [some (.ref 54), some (.int (nI a1)), some (.int a2), some (.int (nI a3))]) (st' := [.int (nI a3), .int (nI (a1 * 4)), .ref 59, .int a2]) (h' := Hp S) 1 (fun Z => rfl) ?_
    refine wp_st (pc' := 19) (L' := [some (.ref 54), some (.int (nI a1)), some (.int a2), some (.int (nI a3))]) (st' := [.int (nI ((a1 * 4) + a3)), .ref 59, .int a2]) (h' := Hp S) 1 (fun Z => by rw [← nI_add (a1 * 4) a3]; rfl) ?_
    obtain ⟨hi, hw⟩ := hw
    refine wp_st (pc' := 20) (L' := [some (.ref 54), some (.int (nI a1)), some (.int a2), some (.int (nI a3))]) (st' := [.int (S 59 ((a1 * 4) + a3)), .int a2]) (h' := Hp S) 1 (fun Z => ldN (E := E) sh59 (by decide) hi [.int a2] (fun st => Z (d + 1) m_Guess_unlikeIn 20 [some (.ref 54), some (.int (nI a1)), some (.int a2), some (.int (nI a3))] st (Hp S))) ?_
    refine wp_call (pc' := 23) (rest := [.int a2]) (fun Z => rfl) rfl hw ?_
    rintro o h1 ⟨x1, S2, rfl, rfl, hw⟩
    refine ⟨_, rfl, ?_⟩
    show wp E (d + 1) m_Guess_unlikeIn 23 [some (.ref 54), some (.int (nI a1)), some (.int a2), some (.int (nI a3))] [.int x1, .int a2] (Hp S2) (QI Q)
    refine wp_st (pc' := 25) (L' := [some (.ref 54), some (.int (nI a1)), some (.int (a2 + x1)), some (.int (nI a3))]) (st' := []) (h' := Hp S2) 2 (fun Z => rfl) ?_
    refine wp_st (pc' := 28) (L' := [some (.ref 54), some (.int (nI a1)), some (.int (a2 + x1)), some (.int (nI (a3 + 1)))]) (st' := []) (h' := Hp S2) 1 (fun Z => by rw [← nI_add a3 1]; rfl) ?_
    exact wp_st 1 (fun Z => rfl) (show wp E (d + 1) m_Guess_unlikeIn 4 [some (.ref 54), some (.int (nI a1)), some (.int (a2 + x1)), some (.int (nI (a3 + 1)))] [] (Hp S2) (QI Q) from hw)
set_option maxRecDepth 4000 in
theorem w_Plans_allAtOnce {E : zX} {d : Nat} {S : St}  {Q : Int32 → St → Prop} (hd : 1 ≤ d) 
    (hw : k_Downs_link E (d - 1) S 25 (fun S2 =>
    k_Plans_allAtOnce_15 E d S2 0 0 Q)) :
    k_Plans_allAtOnce E d S Q := by
  obtain ⟨d, rfl⟩ := Nat.exists_eq_add_of_le' hd
  show wp E (d + 1) m_Plans_allAtOnce 0 [some (.ref 46), none, none, none] [] (Hp S) (QI Q)
  refine wp_st (pc' := 3) (L' := [some (.ref 46), some (.int 0), none, none]) (st' := [.ref 46]) (h' := Hp S) 3 (fun Z => rfl) ?_
  refine wp_st (pc' := 6) (L' := [some (.ref 46), some (.int 0), none, none]) (st' := [.ref 38]) (h' := Hp S) 1 (fun Z => gfR (E := E) sh46 rfl _) ?_
  refine wp_st (pc' := 7) (L' := [some (.ref 46), some (.int 0), none, none]) (st' := [.ref 46, .ref 38]) (h' := Hp S) 1 (fun Z => rfl) ?_
  refine wp_st (pc' := 10) (L' := [some (.ref 46), some (.int 0), none, none]) (st' := [.ref 25, .ref 38]) (h' := Hp S) 1 (fun Z => gfR (E := E) sh46 rfl _) ?_
  refine wp_call (pc' := 13) (rest := []) (fun Z => rfl) (isO_of sh38) hw ?_
  rintro o h1 ⟨S2, rfl, rfl, hw⟩
  refine ⟨_, rfl, ?_⟩
  show wp E (d + 1) m_Plans_allAtOnce 13 [some (.ref 46), some (.int 0), none, none] [] (Hp S2) (QI Q)
  exact wp_st 2 (fun Z => rfl) (show wp E (d + 1) m_Plans_allAtOnce 15 [some (.ref 46), some (.int 0), some (.int 0), none] [] (Hp S2) (QI Q) from (hw none))
set_option maxRecDepth 4000 in
theorem w_Plans_allAtOnce_15 {E : zX} {d : Nat} {S : St} {a1 : Int32} {a2 : Int32} {Q : Int32 → St → Prop} (hd : 1 ≤ d) 
    (hw : if (S 3 4) ≤ a2 then (
      k_Plans_allAtOnce_76 E d S a1 a1 0 Q)
    else (
      k_Scene_guards E (d - 1) S 25 (fun x1 S2 =>
      k_Downs_chain E (d - 1) S2 ((1 : Int32) <<< (a2 &&& 31)) x1 (fun x3 S4 =>
      ∃ m6 : Nat, a2 = nI m6 ∧ m6 < 10 ∧
      ∀ S5, S5 = up S4 47 m6 x3 →
      k_Scene_isLoose E (d - 1) S5 25 a2 (fun x7 S8 =>
      if x7 = 0 then (
        k_Plans_allAtOnce_15 E d S8 a1 (a2 + 1) Q)
      else (
        k_Plans_allAtOnce_15 E d S8 (a1 ||| ((1 : Int32) <<< (a2 &&& 31))) (a2 + 1) Q)))))) :
    k_Plans_allAtOnce_15 E d S a1 a2 Q := by
  obtain ⟨d, rfl⟩ := Nat.exists_eq_add_of_le' hd
  intro j3
  show wp E (d + 1) m_Plans_allAtOnce 15 [some (.ref 46), some (.int a1), some (.int a2), j3] [] (Hp S) (QI Q)
  refine wp_st (pc' := 17) (L' := [some (.ref 46), some (.int a1), some (.int a2), j3]) (st' := [.ref 46, .int a2]) (h' := Hp S) 2 (fun Z => rfl) ?_
  refine wp_st (pc' := 20) (L' := [some (.ref 46), some (.int a1), some (.int a2), j3]) (st' := [.ref 3, .int a2]) (h' := Hp S) 1 (fun Z => gfR (E := E) sh46 rfl _) ?_
  refine wp_st (pc' := 23) (L' := [some (.ref 46), some (.int a1), some (.int a2), j3]) (st' := [.int (S 3 4), .int a2]) (h' := Hp S) 1 (fun Z => gfI (E := E) sh3 rfl _) ?_
  by_cases hc : (S 3 4) ≤ a2
  · rw [if_pos hc] at hw
    refine wp_st (pc' := 72) (L' := [some (.ref 46), some (.int a1), some (.int a2), j3]) (st' := []) (h' := Hp S) 1 (fun Z => if_pos hc) ?_
    exact wp_st 4 (fun Z => rfl) (show wp E (d + 1) m_Plans_allAtOnce 76 [some (.ref 46), some (.int a1), some (.int a1), some (.int 0)] [] (Hp S) (QI Q) from hw)
  · rw [if_neg hc] at hw
    refine wp_st (pc' := 26) (L' := [some (.ref 46), some (.int a1), some (.int a2), j3]) (st' := []) (h' := Hp S) 1 (fun Z => if_neg hc) ?_
    refine wp_st (pc' := 27) (L' := [some (.ref 46), some (.int a1), some (.int a2), j3]) (st' := [.ref 46]) (h' := Hp S) 1 (fun Z => rfl) ?_
    refine wp_st (pc' := 30) (L' := [some (.ref 46), some (.int a1), some (.int a2), j3]) (st' := [.ref 47]) (h' := Hp S) 1 (fun Z => gfR (E := E) sh46 rfl _) ?_
    refine wp_st (pc' := 32) (L' := [some (.ref 46), some (.int a1), some (.int a2), j3]) (st' := [.ref 46, .int a2, .ref 47]) (h' := Hp S) 2 (fun Z => rfl) ?_
    refine wp_st (pc' := 35) (L' := [some (.ref 46), some (.int a1), some (.int a2), j3]) (st' := [.ref 38, .int a2, .ref 47]) (h' := Hp S) 1 (fun Z => gfR (E := E) sh46 rfl _) ?_
    refine wp_st (pc' := 39) (L' := [some (.ref 46), some (.int a1), some (.int a2), j3]) (st' := [.ref 46, .int ((1 : Int32) <<< (a2 &&& 31)), .ref 38, .int a2, .ref 47]) (h' := Hp S) 4 (fun Z => rfl) ?_
    refine wp_st (pc' := 42) (L' := [some (.ref 46), some (.int a1), some (.int a2), j3]) (st' := [.ref 25, .int ((1 : Int32) <<< (a2 &&& 31)), .ref 38, .int a2, .ref 47]) (h' := Hp S) 1 (fun Z => gfR (E := E) sh46 rfl _) ?_
    refine wp_call (pc' := 45) (rest := [.int ((1 : Int32) <<< (a2 &&& 31)), .ref 38, .int a2, .ref 47]) (fun Z => rfl) (isO_of sh25) hw ?_
    rintro o h1 ⟨x1, S2, rfl, rfl, hw⟩
    refine ⟨_, rfl, ?_⟩
    show wp E (d + 1) m_Plans_allAtOnce 45 [some (.ref 46), some (.int a1), some (.int a2), j3] [.int x1, .int ((1 : Int32) <<< (a2 &&& 31)), .ref 38, .int a2, .ref 47] (Hp S2) (QI Q)
    refine wp_call (pc' := 48) (rest := [.int a2, .ref 47]) (fun Z => rfl) (isO_of sh38) hw ?_
    rintro o h1 ⟨x3, S4, rfl, rfl, hw⟩
    refine ⟨_, rfl, ?_⟩
    show wp E (d + 1) m_Plans_allAtOnce 48 [some (.ref 46), some (.int a1), some (.int a2), j3] [.int x3, .int a2, .ref 47] (Hp S4) (QI Q)
    obtain ⟨m6, em, hi, hw⟩ := hw
    have hw := hw _ rfl
    refine wp_st (pc' := 49) (L' := [some (.ref 46), some (.int a1), some (.int a2), j3]) (st' := []) (h' := Hp (up S4 47 m6 x3)) 1 (fun Z => (congrArg (fun v => zit E 1 Z (d + 1) m_Plans_allAtOnce 48 [some (.ref 46), some (.int a1), some (.int a2), j3] [.int x3, .int v, .ref 47] (Hp S4)) em).trans (stN sh47 (by decide) hi _ _)) ?_
    generalize up S4 47 m6 x3 = S5 at hw ⊢
    refine wp_st (pc' := 50) (L' := [some (.ref 46), some (.int a1), some (.int a2), j3]) (st' := [.ref 46]) (h' := Hp S5) 1 (fun Z => rfl) ?_
    refine wp_st (pc' := 53) (L' := [some (.ref 46), some (.int a1), some (.int a2), j3]) (st' := [.ref 25]) (h' := Hp S5) 1 (fun Z => gfR (E := E) sh46 rfl _) ?_
    refine wp_st (pc' := 54) (L' := [some (.ref 46), some (.int a1), some (.int a2), j3]) (st' := [.int a2, .ref 25]) (h' := Hp S5) 1 (fun Z => rfl) ?_
    refine wp_call (pc' := 57) (rest := []) (fun Z => rfl) (isO_of sh25) hw ?_
    rintro o h1 ⟨x7, S8, rfl, rfl, hw⟩
    refine ⟨_, rfl, ?_⟩
    show wp E (d + 1) m_Plans_allAtOnce 57 [some (.ref 46), some (.int a1), some (.int a2), j3] [.int x7] (Hp S8) (QI Q)
    by_cases hc : x7 = 0
    · rw [if_pos hc] at hw
      refine wp_st (pc' := 66) (L' := [some (.ref 46), some (.int a1), some (.int a2), j3]) (st' := []) (h' := Hp S8) 1 (fun Z => if_pos hc) ?_
      refine wp_st (pc' := 69) (L' := [some (.ref 46), some (.int a1), some (.int (a2 + 1)), j3]) (st' := []) (h' := Hp S8) 1 (fun Z => congrArg (fun v => Z (d + 1) m_Plans_allAtOnce 69 [some (.ref 46), some (.int a1), some (.int (a2 + v)), j3] [] (Hp S8)) (show Int32.ofInt (1) = (1) by decide)) ?_
      exact wp_st 1 (fun Z => rfl) (show wp E (d + 1) m_Plans_allAtOnce 15 [some (.ref 46), some (.int a1), some (.int (a2 + 1)), j3] [] (Hp S8) (QI Q) from (hw j3))
    · rw [if_neg hc] at hw
      refine wp_st (pc' := 60) (L' := [some (.ref 46), some (.int a1), some (.int a2), j3]) (st' := []) (h' := Hp S8) 1 (fun Z => if_neg hc) ?_
      refine wp_st (pc' := 66) (L' := [some (.ref 46), some (.int (a1 ||| ((1 : Int32) <<< (a2 &&& 31)))), some (.int a2), j3]) (st' := []) (h' := Hp S8) 6 (fun Z => rfl) ?_
      refine wp_st (pc' := 69) (L' := [some (.ref 46), some (.int (a1 ||| ((1 : Int32) <<< (a2 &&& 31)))), some (.int (a2 + 1)), j3]) (st' := []) (h' := Hp S8) 1 (fun Z => congrArg (fun v => Z (d + 1) m_Plans_allAtOnce 69 [some (.ref 46), some (.int (a1 ||| ((1 : Int32) <<< (a2 &&& 31)))), some (.int (a2 + v)), j3] [] (Hp S8)) (show Int32.ofInt (1) = (1) by decide)) ?_
      exact wp_st 1 (fun Z => rfl) (show wp E (d + 1) m_Plans_allAtOnce 15 [some (.ref 46), some (.int (a1 ||| ((1 : Int32) <<< (a2 &&& 31)))), some (.int (a2 + 1)), j3] [] (Hp S8) (QI Q) from (hw j3))
set_option maxRecDepth 4000 in
theorem w_Plans_allAtOnce_76 {E : zX} {d : Nat} {S : St} {a1 : Int32} {a2 : Int32} {a3 : Nat} {Q : Int32 → St → Prop} (hd : 1 ≤ d) 
    (hw : if nI 1024 ≤ (nI a3) then (
      Q a2 S)
    else (
      if ((nI a3) &&& (a1 ^^^ ((-1) : Int32))) = 0 then (
        k_Integer_bitCount E (d - 1) S (nI a3) (fun x1 S2 =>
        k_Integer_bitCount E (d - 1) S2 a2 (fun x3 S4 =>
        if x3 ≤ x1 then (
          k_Plans_allAtOnce_76 E d S4 a1 a2 (a3 + 1) Q)
        else (
          k_Plans_together E (d - 1) S4 (nI a3) (fun x5 S6 =>
          if x5 = a1 then (
            k_Plans_allAtOnce_76 E d S6 a1 (nI a3) (a3 + 1) Q)
          else (
            k_Plans_allAtOnce_76 E d S6 a1 a2 (a3 + 1) Q))))))
      else (
        k_Plans_allAtOnce_76 E d S a1 a2 (a3 + 1) Q))) :
    k_Plans_allAtOnce_76 E d S a1 a2 a3 Q := by
  obtain ⟨d, rfl⟩ := Nat.exists_eq_add_of_le' hd
  show wp E (d + 1) m_Plans_allAtOnce 76 [some (.ref 46), some (.int a1), some (.int a2), some (.int (nI a3))] [] (Hp S) (QI Q)
  refine wp_st (pc' := 80) (L' := [some (.ref 46), some (.int a1), some (.int a2), some (.int (nI a3))]) (st' := [.int 1024, .int (nI a3)]) (h' := Hp S) 2 (fun Z => rfl) ?_
  by_cases hc : nI 1024 ≤ (nI a3)
  · rw [if_pos hc] at hw
    refine wp_st (pc' := 119) (L' := [some (.ref 46), some (.int a1), some (.int a2), some (.int (nI a3))]) (st' := []) (h' := Hp S) 1 (fun Z => if_pos hc) ?_
    refine wp_st (pc' := 120) (L' := [some (.ref 46), some (.int a1), some (.int a2), some (.int (nI a3))]) (st' := [.int a2]) (h' := Hp S) 1 (fun Z => rfl) ?_
    exact wp_ret (fun Z => rfl) ⟨_, _, rfl, rfl, hw⟩
  · rw [if_neg hc] at hw
    refine wp_st (pc' := 83) (L' := [some (.ref 46), some (.int a1), some (.int a2), some (.int (nI a3))]) (st' := []) (h' := Hp S) 1 (fun Z => if_neg hc) ?_
    refine wp_st (pc' := 85) (L' := [some (.ref 46), some (.int a1), some (.int a2), some (.int (nI a3))]) (st' := [.int a1, .int (nI a3)]) (h' := Hp S) 2 (fun Z => rfl) ?_
    refine wp_st (pc' := 86) (L' := [some (.ref 46), some (.int a1), some (.int a2), some (.int (nI a3))]) (st' := [.int (-1), .int a1, .int (nI a3)]) (h' := Hp S) 1 (fun Z => congrArg (fun v => Z (d + 1) m_Plans_allAtOnce 86 [some (.ref 46), some (.int a1), some (.int a2), some (.int (nI a3))] [.int v, .int a1, .int (nI a3)] (Hp S)) (show Int32.ofInt (-1) = (-1) by decide)) ?_
    refine wp_st (pc' := 88) (L' := [some (.ref 46), some (.int a1), some (.int a2), some (.int (nI a3))]) (st' := [.int ((nI a3) &&& (a1 ^^^ ((-1) : Int32)))]) (h' := Hp S) 2 (fun Z => rfl) ?_
    by_cases hc : ((nI a3) &&& (a1 ^^^ ((-1) : Int32))) = 0
    · rw [if_pos hc] at hw
      refine wp_st (pc' := 91) (L' := [some (.ref 46), some (.int a1), some (.int a2), some (.int (nI a3))]) (st' := []) (h' := Hp S) 1 (fun Z => if_pos hc) ?_
      refine wp_st (pc' := 92) (L' := [some (.ref 46), some (.int a1), some (.int a2), some (.int (nI a3))]) (st' := [.int (nI a3)]) (h' := Hp S) 1 (fun Z => rfl) ?_
      refine wp_call (pc' := 95) (rest := []) (fun Z => rfl) rfl hw ?_
      rintro o h1 ⟨x1, S2, rfl, rfl, hw⟩
      refine ⟨_, rfl, ?_⟩
      show wp E (d + 1) m_Plans_allAtOnce 95 [some (.ref 46), some (.int a1), some (.int a2), some (.int (nI a3))] [.int x1] (Hp S2) (QI Q)
      refine wp_st (pc' := 96) (L' := [some (.ref 46), some (.int a1), some (.int a2), some (.int (nI a3))]) (st' := [.int a2, .int x1]) (h' := Hp S2) 1 (fun Z => rfl) ?_
      refine wp_call (pc' := 99) (rest := [.int x1]) (fun Z => rfl) rfl hw ?_
      rintro o h1 ⟨x3, S4, rfl, rfl, hw⟩
      refine ⟨_, rfl, ?_⟩
      show wp E (d + 1) m_Plans_allAtOnce 99 [some (.ref 46), some (.int a1), some (.int a2), some (.int (nI a3))] [.int x3, .int x1] (Hp S4) (QI Q)
      by_cases hc : x3 ≤ x1
      · rw [if_pos hc] at hw
        refine wp_st (pc' := 113) (L' := [some (.ref 46), some (.int a1), some (.int a2), some (.int (nI a3))]) (st' := []) (h' := Hp S4) 1 (fun Z => if_pos hc) ?_
        refine wp_st (pc' := 116) (L' := [some (.ref 46), some (.int a1), some (.int a2), some (.int (nI (a3 + 1)))]) (st' := []) (h' := Hp S4) 1 (fun Z => by rw [← nI_add a3 1]; rfl) ?_
        exact wp_st 1 (fun Z => rfl) (show wp E (d + 1) m_Plans_allAtOnce 76 [some (.ref 46), some (.int a1), some (.int a2), some (.int (nI (a3 + 1)))] [] (Hp S4) (QI Q) from hw)
      · rw [if_neg hc] at hw
        refine wp_st (pc' := 102) (L' := [some (.ref 46), some (.int a1), some (.int a2), some (.int (nI a3))]) (st' := []) (h' := Hp S4) 1 (fun Z => if_neg hc) ?_
        refine wp_st (pc' := 104) (L' := [some (.ref 46), some (.int a1), some (.int a2), some (.int (nI a3))]) (st' := [.int (nI a3), .ref 46]) (h' := Hp S4) 2 (fun Z => rfl) ?_
        refine wp_call (pc' := 107) (rest := []) (fun Z => rfl) (isO_of sh46) hw ?_
        rintro o h1 ⟨x5, S6, rfl, rfl, hw⟩
        refine ⟨_, rfl, ?_⟩
        show wp E (d + 1) m_Plans_allAtOnce 107 [some (.ref 46), some (.int a1), some (.int a2), some (.int (nI a3))] [.int x5] (Hp S6) (QI Q)
        refine wp_st (pc' := 108) (L' := [some (.ref 46), some (.int a1), some (.int a2), some (.int (nI a3))]) (st' := [.int a1, .int x5]) (h' := Hp S6) 1 (fun Z => rfl) ?_
        by_cases hc : x5 = a1
        · rw [if_pos hc] at hw
          refine wp_st (pc' := 111) (L' := [some (.ref 46), some (.int a1), some (.int a2), some (.int (nI a3))]) (st' := []) (h' := Hp S6) 1 (fun Z => if_pos hc) ?_
          refine wp_st (pc' := 113) (L' := [some (.ref 46), some (.int a1), some (.int (nI a3)), some (.int (nI a3))]) (st' := []) (h' := Hp S6) 2 (fun Z => rfl) ?_
          refine wp_st (pc' := 116) (L' := [some (.ref 46), some (.int a1), some (.int (nI a3)), some (.int (nI (a3 + 1)))]) (st' := []) (h' := Hp S6) 1 (fun Z => by rw [← nI_add a3 1]; rfl) ?_
          exact wp_st 1 (fun Z => rfl) (show wp E (d + 1) m_Plans_allAtOnce 76 [some (.ref 46), some (.int a1), some (.int (nI a3)), some (.int (nI (a3 + 1)))] [] (Hp S6) (QI Q) from hw)
        · rw [if_neg hc] at hw
          refine wp_st (pc' := 113) (L' := [some (.ref 46), some (.int a1), some (.int a2), some (.int (nI a3))]) (st' := []) (h' := Hp S6) 1 (fun Z => if_neg hc) ?_
          refine wp_st (pc' := 116) (L' := [some (.ref 46), some (.int a1), some (.int a2), some (.int (nI (a3 + 1)))]) (st' := []) (h' := Hp S6) 1 (fun Z => by rw [← nI_add a3 1]; rfl) ?_
          exact wp_st 1 (fun Z => rfl) (show wp E (d + 1) m_Plans_allAtOnce 76 [some (.ref 46), some (.int a1), some (.int a2), some (.int (nI (a3 + 1)))] [] (Hp S6) (QI Q) from hw)
    · rw [if_neg hc] at hw
      refine wp_st (pc' := 113) (L' := [some (.ref 46), some (.int a1), some (.int a2), some (.int (nI a3))]) (st' := []) (h' := Hp S) 1 (fun Z => if_neg hc) ?_
      refine wp_st (pc' := 116) (L' := [some (.ref 46), some (.int a1), some (.int a2), some (.int (nI (a3 + 1)))]) (st' := []) (h' := Hp S) 1 (fun Z => by rw [← nI_add a3 1]; rfl) ?_
      exact wp_st 1 (fun Z => rfl) (show wp E (d + 1) m_Plans_allAtOnce 76 [some (.ref 46), some (.int a1), some (.int a2), some (.int (nI (a3 + 1)))] [] (Hp S) (QI Q) from hw)
set_option maxRecDepth 4000 in
theorem w_Plans_together {E : zX} {d : Nat} {S : St} {a1 : Int32} {Q : Int32 → St → Prop} 
    (hw : k_Plans_together_4 E d S a1 0 0 Q) :
    k_Plans_together E d S a1 Q := by
  show wp E d m_Plans_together 0 [some (.ref 46), some (.int a1), none, none] [] (Hp S) (QI Q)
  exact wp_st 4 (fun Z => rfl) (show wp E d m_Plans_together 4 [some (.ref 46), some (.int a1), some (.int 0), some (.int 0)] [] (Hp S) (QI Q) from hw)
set_option maxRecDepth 4000 in
theorem w_Plans_together_4 {E : zX} {d : Nat} {S : St} {a1 : Int32} {a2 : Int32} {a3 : Nat} {Q : Int32 → St → Prop} 
    (hw : if (S 3 4) ≤ (nI a3) then (
      Q a2 S)
    else (
      if (a1 &&& (bt a3)) = 0 then (
        k_Plans_together_4 E d S a1 a2 (a3 + 1) Q)
      else (
        a3 < 10 ∧
        k_Plans_together_4 E d S a1 (a2 ||| (S 47 a3)) (a3 + 1) Q))) :
    k_Plans_together_4 E d S a1 a2 a3 Q := by
  show wp E d m_Plans_together 4 [some (.ref 46), some (.int a1), some (.int a2), some (.int (nI a3))] [] (Hp S) (QI Q)
  refine wp_st (pc' := 6) (L' := [some (.ref 46), some (.int a1), some (.int a2), some (.int (nI a3))]) (st' := [.ref 46, .int (nI a3)]) (h' := Hp S) 2 (fun Z => rfl) ?_
  refine wp_st (pc' := 9) (L' := [some (.ref 46), some (.int a1), some (.int a2), some (.int (nI a3))]) (st' := [.ref 3, .int (nI a3)]) (h' := Hp S) 1 (fun Z => gfR (E := E) sh46 rfl _) ?_
  refine wp_st (pc' := 12) (L' := [some (.ref 46), some (.int a1), some (.int a2), some (.int (nI a3))]) (st' := [.int (S 3 4), .int (nI a3)]) (h' := Hp S) 1 (fun Z => gfI (E := E) sh3 rfl _) ?_
  by_cases hc : (S 3 4) ≤ (nI a3)
  · rw [if_pos hc] at hw
    refine wp_st (pc' := 38) (L' := [some (.ref 46), some (.int a1), some (.int a2), some (.int (nI a3))]) (st' := []) (h' := Hp S) 1 (fun Z => if_pos hc) ?_
    refine wp_st (pc' := 39) (L' := [some (.ref 46), some (.int a1), some (.int a2), some (.int (nI a3))]) (st' := [.int a2]) (h' := Hp S) 1 (fun Z => rfl) ?_
    exact wp_ret (fun Z => rfl) ⟨_, _, rfl, rfl, hw⟩
  · rw [if_neg hc] at hw
    refine wp_st (pc' := 15) (L' := [some (.ref 46), some (.int a1), some (.int a2), some (.int (nI a3))]) (st' := []) (h' := Hp S) 1 (fun Z => if_neg hc) ?_
    refine wp_st (pc' := 20) (L' := [some (.ref 46), some (.int a1), some (.int a2), some (.int (nI a3))]) (st' := [.int (a1 &&& (bt a3))]) (h' := Hp S) 5 (fun Z => rfl) ?_
    by_cases hc : (a1 &&& (bt a3)) = 0
    · rw [if_pos hc] at hw
      refine wp_st (pc' := 32) (L' := [some (.ref 46), some (.int a1), some (.int a2), some (.int (nI a3))]) (st' := []) (h' := Hp S) 1 (fun Z => if_pos hc) ?_
      refine wp_st (pc' := 35) (L' := [some (.ref 46), some (.int a1), some (.int a2), some (.int (nI (a3 + 1)))]) (st' := []) (h' := Hp S) 1 (fun Z => by rw [← nI_add a3 1]; rfl) ?_
      exact wp_st 1 (fun Z => rfl) (show wp E d m_Plans_together 4 [some (.ref 46), some (.int a1), some (.int a2), some (.int (nI (a3 + 1)))] [] (Hp S) (QI Q) from hw)
    · rw [if_neg hc] at hw
      refine wp_st (pc' := 23) (L' := [some (.ref 46), some (.int a1), some (.int a2), some (.int (nI a3))]) (st' := []) (h' := Hp S) 1 (fun Z => if_neg hc) ?_
      refine wp_st (pc' := 25) (L' := [some (.ref 46), some (.int a1), some (.int a2), some (.int (nI a3))]) (st' := [.ref 46, .int a2]) (h' := Hp S) 2 (fun Z => rfl) ?_
      refine wp_st (pc' := 28) (L' := [some (.ref 46), some (.int a1), some (.int a2), some (.int (nI a3))]) (st' := [.ref 47, .int a2]) (h' := Hp S) 1 (fun Z => gfR (E := E) sh46 rfl _) ?_
      refine wp_st (pc' := 29) (L' := [some (.ref 46), some (.int a1), some (.int a2), some (.int (nI a3))]) (st' := [.int (nI a3), .ref 47, .int a2]) (h' := Hp S) 1 (fun Z => rfl) ?_
      obtain ⟨hi, hw⟩ := hw
      refine wp_st (pc' := 30) (L' := [some (.ref 46), some (.int a1), some (.int a2), some (.int (nI a3))]) (st' := [.int (S 47 a3), .int a2]) (h' := Hp S) 1 (fun Z => ldN (E := E) sh47 (by decide) hi [.int a2] (fun st => Z d m_Plans_together 30 [some (.ref 46), some (.int a1), some (.int a2), some (.int (nI a3))] st (Hp S))) ?_
      refine wp_st (pc' := 32) (L' := [some (.ref 46), some (.int a1), some (.int (a2 ||| (S 47 a3))), some (.int (nI a3))]) (st' := []) (h' := Hp S) 2 (fun Z => rfl) ?_
      refine wp_st (pc' := 35) (L' := [some (.ref 46), some (.int a1), some (.int (a2 ||| (S 47 a3))), some (.int (nI (a3 + 1)))]) (st' := []) (h' := Hp S) 1 (fun Z => by rw [← nI_add a3 1]; rfl) ?_
      exact wp_st 1 (fun Z => rfl) (show wp E d m_Plans_together 4 [some (.ref 46), some (.int a1), some (.int (a2 ||| (S 47 a3))), some (.int (nI (a3 + 1)))] [] (Hp S) (QI Q) from hw)
set_option maxRecDepth 4000 in
theorem w_Plans_guardsBetween {E : zX} {d : Nat} {S : St} {a1 : Nat} {a2 : Nat} {Q : Int32 → St → Prop} (hd : 1 ≤ d) 
    (hw : k_Downs_setOffBy E (d - 1) S 25 (nI a1) (fun x1 S2 =>
    if (x1 &&& (bt a2)) = 0 then (
      Q (0 : Int32) S2)
    else (
      k_Plans_guardsBetween_47 E d S2 a1 (bt a2) ((x1 &&& ((bt a2) ^^^ ((-1) : Int32))) &&& ((bt a1) ^^^ ((-1) : Int32))) (-1) 1 Q))) :
    k_Plans_guardsBetween E d S (nI a1) (nI a2) Q := by
  obtain ⟨d, rfl⟩ := Nat.exists_eq_add_of_le' hd
  show wp E (d + 1) m_Plans_guardsBetween 0 [some (.ref 46), some (.int (nI a1)), some (.int (nI a2)), none, none, none, none, none] [] (Hp S) (QI Q)
  refine wp_st (pc' := 5) (L' := [some (.ref 46), some (.int (nI a1)), some (.int (nI a2)), some (.int (bt a2)), none, none, none, none]) (st' := [.ref 46]) (h' := Hp S) 5 (fun Z => rfl) ?_
  refine wp_st (pc' := 8) (L' := [some (.ref 46), some (.int (nI a1)), some (.int (nI a2)), some (.int (bt a2)), none, none, none, none]) (st' := [.ref 38]) (h' := Hp S) 1 (fun Z => gfR (E := E) sh46 rfl _) ?_
  refine wp_st (pc' := 9) (L' := [some (.ref 46), some (.int (nI a1)), some (.int (nI a2)), some (.int (bt a2)), none, none, none, none]) (st' := [.ref 46, .ref 38]) (h' := Hp S) 1 (fun Z => rfl) ?_
  refine wp_st (pc' := 12) (L' := [some (.ref 46), some (.int (nI a1)), some (.int (nI a2)), some (.int (bt a2)), none, none, none, none]) (st' := [.ref 25, .ref 38]) (h' := Hp S) 1 (fun Z => gfR (E := E) sh46 rfl _) ?_
  refine wp_st (pc' := 13) (L' := [some (.ref 46), some (.int (nI a1)), some (.int (nI a2)), some (.int (bt a2)), none, none, none, none]) (st' := [.int (nI a1), .ref 25, .ref 38]) (h' := Hp S) 1 (fun Z => rfl) ?_
  refine wp_call (pc' := 16) (rest := []) (fun Z => rfl) (isO_of sh38) hw ?_
  rintro o h1 ⟨x1, S2, rfl, rfl, hw⟩
  refine ⟨_, rfl, ?_⟩
  show wp E (d + 1) m_Plans_guardsBetween 16 [some (.ref 46), some (.int (nI a1)), some (.int (nI a2)), some (.int (bt a2)), none, none, none, none] [.int x1] (Hp S2) (QI Q)
  refine wp_st (pc' := 22) (L' := [some (.ref 46), some (.int (nI a1)), some (.int (nI a2)), some (.int (bt a2)), some (.int x1), none, none, none]) (st' := [.int (x1 &&& (bt a2))]) (h' := Hp S2) 4 (fun Z => rfl) ?_
  by_cases hc : (x1 &&& (bt a2)) = 0
  · rw [if_pos hc] at hw
    refine wp_st (pc' := 25) (L' := [some (.ref 46), some (.int (nI a1)), some (.int (nI a2)), some (.int (bt a2)), some (.int x1), none, none, none]) (st' := []) (h' := Hp S2) 1 (fun Z => if_pos hc) ?_
    refine wp_st (pc' := 26) (L' := [some (.ref 46), some (.int (nI a1)), some (.int (nI a2)), some (.int (bt a2)), some (.int x1), none, none, none]) (st' := [.int 0]) (h' := Hp S2) 1 (fun Z => rfl) ?_
    exact wp_ret (fun Z => rfl) ⟨_, _, rfl, rfl, hw⟩
  · rw [if_neg hc] at hw
    refine wp_st (pc' := 27) (L' := [some (.ref 46), some (.int (nI a1)), some (.int (nI a2)), some (.int (bt a2)), some (.int x1), none, none, none]) (st' := []) (h' := Hp S2) 1 (fun Z => if_neg hc) ?_
    refine wp_st (pc' := 30) (L' := [some (.ref 46), some (.int (nI a1)), some (.int (nI a2)), some (.int (bt a2)), some (.int x1), none, none, none]) (st' := [.int (bt a2), .int x1]) (h' := Hp S2) 2 (fun Z => rfl) ?_
    refine wp_st (pc' := 31) (L' := [some (.ref 46), some (.int (nI a1)), some (.int (nI a2)), some (.int (bt a2)), some (.int x1), none, none, none]) (st' := [.int (-1), .int (bt a2), .int x1]) (h' := Hp S2) 1 (fun Z => congrArg (fun v => Z (d + 1) m_Plans_guardsBetween 31 [some (.ref 46), some (.int (nI a1)), some (.int (nI a2)), some (.int (bt a2)), some (.int x1), none, none, none] [.int v, .int (bt a2), .int x1] (Hp S2)) (show Int32.ofInt (-1) = (-1) by decide)) ?_
    refine wp_st (pc' := 36) (L' := [some (.ref 46), some (.int (nI a1)), some (.int (nI a2)), some (.int (bt a2)), some (.int x1), none, none, none]) (st' := [.int (bt a1), .int (x1 &&& ((bt a2) ^^^ ((-1) : Int32)))]) (h' := Hp S2) 5 (fun Z => rfl) ?_
    refine wp_st (pc' := 37) (L' := [some (.ref 46), some (.int (nI a1)), some (.int (nI a2)), some (.int (bt a2)), some (.int x1), none, none, none]) (st' := [.int (-1), .int (bt a1), .int (x1 &&& ((bt a2) ^^^ ((-1) : Int32)))]) (h' := Hp S2) 1 (fun Z => congrArg (fun v => Z (d + 1) m_Plans_guardsBetween 37 [some (.ref 46), some (.int (nI a1)), some (.int (nI a2)), some (.int (bt a2)), some (.int x1), none, none, none] [.int v, .int (bt a1), .int (x1 &&& ((bt a2) ^^^ ((-1) : Int32)))] (Hp S2)) (show Int32.ofInt (-1) = (-1) by decide)) ?_
    refine wp_st (pc' := 41) (L' := [some (.ref 46), some (.int (nI a1)), some (.int (nI a2)), some (.int (bt a2)), some (.int x1), some (.int ((x1 &&& ((bt a2) ^^^ ((-1) : Int32))) &&& ((bt a1) ^^^ ((-1) : Int32)))), none, none]) (st' := []) (h' := Hp S2) 3 (fun Z => rfl) ?_
    refine wp_st (pc' := 42) (L' := [some (.ref 46), some (.int (nI a1)), some (.int (nI a2)), some (.int (bt a2)), some (.int x1), some (.int ((x1 &&& ((bt a2) ^^^ ((-1) : Int32))) &&& ((bt a1) ^^^ ((-1) : Int32)))), none, none]) (st' := [.int (-1)]) (h' := Hp S2) 1 (fun Z => congrArg (fun v => Z (d + 1) m_Plans_guardsBetween 42 [some (.ref 46), some (.int (nI a1)), some (.int (nI a2)), some (.int (bt a2)), some (.int x1), some (.int ((x1 &&& ((bt a2) ^^^ ((-1) : Int32))) &&& ((bt a1) ^^^ ((-1) : Int32)))), none, none] [.int v] (Hp S2)) (show Int32.ofInt (-1) = (-1) by decide)) ?_
    exact wp_st 3 (fun Z => rfl) (show wp E (d + 1) m_Plans_guardsBetween 47 [some (.ref 46), some (.int (nI a1)), some (.int (nI a2)), some (.int (bt a2)), some (.int x1), some (.int ((x1 &&& ((bt a2) ^^^ ((-1) : Int32))) &&& ((bt a1) ^^^ ((-1) : Int32)))), some (.int (-1)), some (.int 1)] [] (Hp S2) (QI Q) from (hw (some (.int (nI a2))) (some (.int x1))))
set_option maxRecDepth 4000 in
theorem w_Plans_guardsBetween_47 {E : zX} {d : Nat} {S : St} {a1 : Nat} {a3 : Int32} {a5 : Int32} {a6 : Int32} {a7 : Nat} {Q : Int32 → St → Prop} (hd : 1 ≤ d) 
    (hw : if nI 1024 ≤ (nI a7) then (
      Q a6 S)
    else (
      if ((nI a7) &&& (a5 ^^^ ((-1) : Int32))) = 0 then (
        if a6 = (-1) then (
          k_Plans_guardsBetween_84 E d S a1 a3 a5 a6 a7 Q)
        else (
          k_Integer_bitCount E (d - 1) S (nI a7) (fun x1 S2 =>
          k_Integer_bitCount E (d - 1) S2 a6 (fun x3 S4 =>
          if x3 ≤ x1 then (
            k_Plans_guardsBetween_47 E d S4 a1 a3 a5 a6 (a7 + 1) Q)
          else (
            k_Plans_guardsBetween_84 E d S4 a1 a3 a5 a6 a7 Q)))))
      else (
        k_Plans_guardsBetween_47 E d S a1 a3 a5 a6 (a7 + 1) Q))) :
    k_Plans_guardsBetween_47 E d S a1 a3 a5 a6 a7 Q := by
  obtain ⟨d, rfl⟩ := Nat.exists_eq_add_of_le' hd
  intro j2 j4
  show wp E (d + 1) m_Plans_guardsBetween 47 [some (.ref 46), some (.int (nI a1)), j2, some (.int a3), j4, some (.int a5), some (.int a6), some (.int (nI a7))] [] (Hp S) (QI Q)
  refine wp_st (pc' := 52) (L' := [some (.ref 46), some (.int (nI a1)), j2, some (.int a3), j4, some (.int a5), some (.int a6), some (.int (nI a7))]) (st' := [.int 1024, .int (nI a7)]) (h' := Hp S) 2 (fun Z => rfl) ?_
  by_cases hc : nI 1024 ≤ (nI a7)
  · rw [if_pos hc] at hw
    refine wp_st (pc' := 119) (L' := [some (.ref 46), some (.int (nI a1)), j2, some (.int a3), j4, some (.int a5), some (.int a6), some (.int (nI a7))]) (st' := []) (h' := Hp S) 1 (fun Z => if_pos hc) ?_
    refine wp_st (pc' := 121) (L' := [some (.ref 46), some (.int (nI a1)), j2, some (.int a3), j4, some (.int a5), some (.int a6), some (.int (nI a7))]) (st' := [.int a6]) (h' := Hp S) 1 (fun Z => rfl) ?_
    exact wp_ret (fun Z => rfl) ⟨_, _, rfl, rfl, hw⟩
  · rw [if_neg hc] at hw
    refine wp_st (pc' := 55) (L' := [some (.ref 46), some (.int (nI a1)), j2, some (.int a3), j4, some (.int a5), some (.int a6), some (.int (nI a7))]) (st' := []) (h' := Hp S) 1 (fun Z => if_neg hc) ?_
    refine wp_st (pc' := 59) (L' := [some (.ref 46), some (.int (nI a1)), j2, some (.int a3), j4, some (.int a5), some (.int a6), some (.int (nI a7))]) (st' := [.int a5, .int (nI a7)]) (h' := Hp S) 2 (fun Z => rfl) ?_
    refine wp_st (pc' := 60) (L' := [some (.ref 46), some (.int (nI a1)), j2, some (.int a3), j4, some (.int a5), some (.int a6), some (.int (nI a7))]) (st' := [.int (-1), .int a5, .int (nI a7)]) (h' := Hp S) 1 (fun Z => congrArg (fun v => Z (d + 1) m_Plans_guardsBetween 60 [some (.ref 46), some (.int (nI a1)), j2, some (.int a3), j4, some (.int a5), some (.int a6), some (.int (nI a7))] [.int v, .int a5, .int (nI a7)] (Hp S)) (show Int32.ofInt (-1) = (-1) by decide)) ?_
    refine wp_st (pc' := 62) (L' := [some (.ref 46), some (.int (nI a1)), j2, some (.int a3), j4, some (.int a5), some (.int a6), some (.int (nI a7))]) (st' := [.int ((nI a7) &&& (a5 ^^^ ((-1) : Int32)))]) (h' := Hp S) 2 (fun Z => rfl) ?_
    by_cases hc : ((nI a7) &&& (a5 ^^^ ((-1) : Int32))) = 0
    · rw [if_pos hc] at hw
      refine wp_st (pc' := 65) (L' := [some (.ref 46), some (.int (nI a1)), j2, some (.int a3), j4, some (.int a5), some (.int a6), some (.int (nI a7))]) (st' := []) (h' := Hp S) 1 (fun Z => if_pos hc) ?_
      refine wp_st (pc' := 67) (L' := [some (.ref 46), some (.int (nI a1)), j2, some (.int a3), j4, some (.int a5), some (.int a6), some (.int (nI a7))]) (st' := [.int a6]) (h' := Hp S) 1 (fun Z => rfl) ?_
      refine wp_st (pc' := 68) (L' := [some (.ref 46), some (.int (nI a1)), j2, some (.int a3), j4, some (.int a5), some (.int a6), some (.int (nI a7))]) (st' := [.int (-1), .int a6]) (h' := Hp S) 1 (fun Z => congrArg (fun v => Z (d + 1) m_Plans_guardsBetween 68 [some (.ref 46), some (.int (nI a1)), j2, some (.int a3), j4, some (.int a5), some (.int a6), some (.int (nI a7))] [.int v, .int a6] (Hp S)) (show Int32.ofInt (-1) = (-1) by decide)) ?_
      by_cases hc : a6 = (-1)
      · rw [if_pos hc] at hw
        refine wp_st (pc' := 84) (L' := [some (.ref 46), some (.int (nI a1)), j2, some (.int a3), j4, some (.int a5), some (.int a6), some (.int (nI a7))]) (st' := []) (h' := Hp S) 1 (fun Z => if_pos hc) ?_
        exact (show wp E (d + 1) m_Plans_guardsBetween 84 [some (.ref 46), some (.int (nI a1)), j2, some (.int a3), j4, some (.int a5), some (.int a6), some (.int (nI a7))] [] (Hp S) (QI Q) from (hw j2 j4))
      · rw [if_neg hc] at hw
        refine wp_st (pc' := 71) (L' := [some (.ref 46), some (.int (nI a1)), j2, some (.int a3), j4, some (.int a5), some (.int a6), some (.int (nI a7))]) (st' := []) (h' := Hp S) 1 (fun Z => if_neg hc) ?_
        refine wp_st (pc' := 73) (L' := [some (.ref 46), some (.int (nI a1)), j2, some (.int a3), j4, some (.int a5), some (.int a6), some (.int (nI a7))]) (st' := [.int (nI a7)]) (h' := Hp S) 1 (fun Z => rfl) ?_
        refine wp_call (pc' := 76) (rest := []) (fun Z => rfl) rfl hw ?_
        rintro o h1 ⟨x1, S2, rfl, rfl, hw⟩
        refine ⟨_, rfl, ?_⟩
        show wp E (d + 1) m_Plans_guardsBetween 76 [some (.ref 46), some (.int (nI a1)), j2, some (.int a3), j4, some (.int a5), some (.int a6), some (.int (nI a7))] [.int x1] (Hp S2) (QI Q)
        refine wp_st (pc' := 78) (L' := [some (.ref 46), some (.int (nI a1)), j2, some (.int a3), j4, some (.int a5), some (.int a6), some (.int (nI a7))]) (st' := [.int a6, .int x1]) (h' := Hp S2) 1 (fun Z => rfl) ?_
        refine wp_call (pc' := 81) (rest := [.int x1]) (fun Z => rfl) rfl hw ?_
        rintro o h1 ⟨x3, S4, rfl, rfl, hw⟩
        refine ⟨_, rfl, ?_⟩
        show wp E (d + 1) m_Plans_guardsBetween 81 [some (.ref 46), some (.int (nI a1)), j2, some (.int a3), j4, some (.int a5), some (.int a6), some (.int (nI a7))] [.int x3, .int x1] (Hp S4) (QI Q)
        by_cases hc : x3 ≤ x1
        · rw [if_pos hc] at hw
          refine wp_st (pc' := 113) (L' := [some (.ref 46), some (.int (nI a1)), j2, some (.int a3), j4, some (.int a5), some (.int a6), some (.int (nI a7))]) (st' := []) (h' := Hp S4) 1 (fun Z => if_pos hc) ?_
          refine wp_st (pc' := 116) (L' := [some (.ref 46), some (.int (nI a1)), j2, some (.int a3), j4, some (.int a5), some (.int a6), some (.int (nI (a7 + 1)))]) (st' := []) (h' := Hp S4) 1 (fun Z => by rw [← nI_add a7 1]; rfl) ?_
          exact wp_st 1 (fun Z => rfl) (show wp E (d + 1) m_Plans_guardsBetween 47 [some (.ref 46), some (.int (nI a1)), j2, some (.int a3), j4, some (.int a5), some (.int a6), some (.int (nI (a7 + 1)))] [] (Hp S4) (QI Q) from (hw j2 j4))
        · rw [if_neg hc] at hw
          refine wp_st (pc' := 84) (L' := [some (.ref 46), some (.int (nI a1)), j2, some (.int a3), j4, some (.int a5), some (.int a6), some (.int (nI a7))]) (st' := []) (h' := Hp S4) 1 (fun Z => if_neg hc) ?_
          exact (show wp E (d + 1) m_Plans_guardsBetween 84 [some (.ref 46), some (.int (nI a1)), j2, some (.int a3), j4, some (.int a5), some (.int a6), some (.int (nI a7))] [] (Hp S4) (QI Q) from (hw j2 j4))
    · rw [if_neg hc] at hw
      refine wp_st (pc' := 113) (L' := [some (.ref 46), some (.int (nI a1)), j2, some (.int a3), j4, some (.int a5), some (.int a6), some (.int (nI a7))]) (st' := []) (h' := Hp S) 1 (fun Z => if_neg hc) ?_
      refine wp_st (pc' := 116) (L' := [some (.ref 46), some (.int (nI a1)), j2, some (.int a3), j4, some (.int a5), some (.int a6), some (.int (nI (a7 + 1)))]) (st' := []) (h' := Hp S) 1 (fun Z => by rw [← nI_add a7 1]; rfl) ?_
      exact wp_st 1 (fun Z => rfl) (show wp E (d + 1) m_Plans_guardsBetween 47 [some (.ref 46), some (.int (nI a1)), j2, some (.int a3), j4, some (.int a5), some (.int a6), some (.int (nI (a7 + 1)))] [] (Hp S) (QI Q) from (hw j2 j4))
set_option maxRecDepth 4000 in
theorem w_Plans_guardsBetween_84 {E : zX} {d : Nat} {S : St} {a1 : Nat} {a3 : Int32} {a5 : Int32} {a6 : Int32} {a7 : Nat} {Q : Int32 → St → Prop} (hd : 1 ≤ d) 
    (hw : k_Scene_guards E (d - 1) S 25 (fun x1 S2 =>
    k_Downs_chain E (d - 1) S2 (bt a1) (x1 ||| (nI a7)) (fun x3 S4 =>
    if (x3 &&& a3) = 0 then (
      k_Plans_guardsBetween_47 E d S4 a1 a3 a5 (nI a7) (a7 + 1) Q)
    else (
      k_Plans_guardsBetween_47 E d S4 a1 a3 a5 a6 (a7 + 1) Q)))) :
    k_Plans_guardsBetween_84 E d S a1 a3 a5 a6 a7 Q := by
  obtain ⟨d, rfl⟩ := Nat.exists_eq_add_of_le' hd
  intro j2 j4
  show wp E (d + 1) m_Plans_guardsBetween 84 [some (.ref 46), some (.int (nI a1)), j2, some (.int a3), j4, some (.int a5), some (.int a6), some (.int (nI a7))] [] (Hp S) (QI Q)
  refine wp_st (pc' := 85) (L' := [some (.ref 46), some (.int (nI a1)), j2, some (.int a3), j4, some (.int a5), some (.int a6), some (.int (nI a7))]) (st' := [.ref 46]) (h' := Hp S) 1 (fun Z => rfl) ?_
  refine wp_st (pc' := 88) (L' := [some (.ref 46), some (.int (nI a1)), j2, some (.int a3), j4, some (.int a5), some (.int a6), some (.int (nI a7))]) (st' := [.ref 38]) (h' := Hp S) 1 (fun Z => gfR (E := E) sh46 rfl _) ?_
  refine wp_st (pc' := 92) (L' := [some (.ref 46), some (.int (nI a1)), j2, some (.int a3), j4, some (.int a5), some (.int a6), some (.int (nI a7))]) (st' := [.ref 46, .int (bt a1), .ref 38]) (h' := Hp S) 4 (fun Z => rfl) ?_
  refine wp_st (pc' := 95) (L' := [some (.ref 46), some (.int (nI a1)), j2, some (.int a3), j4, some (.int a5), some (.int a6), some (.int (nI a7))]) (st' := [.ref 25, .int (bt a1), .ref 38]) (h' := Hp S) 1 (fun Z => gfR (E := E) sh46 rfl _) ?_
  refine wp_call (pc' := 98) (rest := [.int (bt a1), .ref 38]) (fun Z => rfl) (isO_of sh25) hw ?_
  rintro o h1 ⟨x1, S2, rfl, rfl, hw⟩
  refine ⟨_, rfl, ?_⟩
  show wp E (d + 1) m_Plans_guardsBetween 98 [some (.ref 46), some (.int (nI a1)), j2, some (.int a3), j4, some (.int a5), some (.int a6), some (.int (nI a7))] [.int x1, .int (bt a1), .ref 38] (Hp S2) (QI Q)
  refine wp_st (pc' := 101) (L' := [some (.ref 46), some (.int (nI a1)), j2, some (.int a3), j4, some (.int a5), some (.int a6), some (.int (nI a7))]) (st' := [.int (x1 ||| (nI a7)), .int (bt a1), .ref 38]) (h' := Hp S2) 2 (fun Z => rfl) ?_
  refine wp_call (pc' := 104) (rest := []) (fun Z => rfl) (isO_of sh38) hw ?_
  rintro o h1 ⟨x3, S4, rfl, rfl, hw⟩
  refine ⟨_, rfl, ?_⟩
  show wp E (d + 1) m_Plans_guardsBetween 104 [some (.ref 46), some (.int (nI a1)), j2, some (.int a3), j4, some (.int a5), some (.int a6), some (.int (nI a7))] [.int x3] (Hp S4) (QI Q)
  refine wp_st (pc' := 106) (L' := [some (.ref 46), some (.int (nI a1)), j2, some (.int a3), j4, some (.int a5), some (.int a6), some (.int (nI a7))]) (st' := [.int (x3 &&& a3)]) (h' := Hp S4) 2 (fun Z => rfl) ?_
  by_cases hc : (x3 &&& a3) = 0
  · rw [if_pos hc] at hw
    refine wp_st (pc' := 109) (L' := [some (.ref 46), some (.int (nI a1)), j2, some (.int a3), j4, some (.int a5), some (.int a6), some (.int (nI a7))]) (st' := []) (h' := Hp S4) 1 (fun Z => if_pos hc) ?_
    refine wp_st (pc' := 113) (L' := [some (.ref 46), some (.int (nI a1)), j2, some (.int a3), j4, some (.int a5), some (.int (nI a7)), some (.int (nI a7))]) (st' := []) (h' := Hp S4) 2 (fun Z => rfl) ?_
    refine wp_st (pc' := 116) (L' := [some (.ref 46), some (.int (nI a1)), j2, some (.int a3), j4, some (.int a5), some (.int (nI a7)), some (.int (nI (a7 + 1)))]) (st' := []) (h' := Hp S4) 1 (fun Z => by rw [← nI_add a7 1]; rfl) ?_
    exact wp_st 1 (fun Z => rfl) (show wp E (d + 1) m_Plans_guardsBetween 47 [some (.ref 46), some (.int (nI a1)), j2, some (.int a3), j4, some (.int a5), some (.int (nI a7)), some (.int (nI (a7 + 1)))] [] (Hp S4) (QI Q) from (hw j2 j4))
  · rw [if_neg hc] at hw
    refine wp_st (pc' := 113) (L' := [some (.ref 46), some (.int (nI a1)), j2, some (.int a3), j4, some (.int a5), some (.int a6), some (.int (nI a7))]) (st' := []) (h' := Hp S4) 1 (fun Z => if_neg hc) ?_
    refine wp_st (pc' := 116) (L' := [some (.ref 46), some (.int (nI a1)), j2, some (.int a3), j4, some (.int a5), some (.int a6), some (.int (nI (a7 + 1)))]) (st' := []) (h' := Hp S4) 1 (fun Z => by rw [← nI_add a7 1]; rfl) ?_
    exact wp_st 1 (fun Z => rfl) (show wp E (d + 1) m_Plans_guardsBetween 47 [some (.ref 46), some (.int (nI a1)), j2, some (.int a3), j4, some (.int a5), some (.int a6), some (.int (nI (a7 + 1)))] [] (Hp S4) (QI Q) from (hw j2 j4))
set_option maxRecDepth 4000 in
theorem w_Plans_bestCellFor {E : zX} {d : Nat} {S : St} {a1 : Nat} {Q : Int32 → St → Prop} (hd : 1 ≤ d) 
    (hw : k_Scene_cellOf E (d - 1) S 25 (nI a1) (fun x1 S2 =>
    k_Plans_homesInReach E (d - 1) S2 (nI a1) x1 (fun x3 S4 =>
    k_Plans_bestCellFor_22 E d S4 a1 x1 x1 x3 0 Q))) :
    k_Plans_bestCellFor E d S (nI a1) Q := by
  obtain ⟨d, rfl⟩ := Nat.exists_eq_add_of_le' hd
  show wp E (d + 1) m_Plans_bestCellFor 0 [some (.ref 46), some (.int (nI a1)), none, none, none, none, none] [] (Hp S) (QI Q)
  refine wp_st (pc' := 1) (L' := [some (.ref 46), some (.int (nI a1)), none, none, none, none, none]) (st' := [.ref 46]) (h' := Hp S) 1 (fun Z => rfl) ?_
  refine wp_st (pc' := 4) (L' := [some (.ref 46), some (.int (nI a1)), none, none, none, none, none]) (st' := [.ref 25]) (h' := Hp S) 1 (fun Z => gfR (E := E) sh46 rfl _) ?_
  refine wp_st (pc' := 5) (L' := [some (.ref 46), some (.int (nI a1)), none, none, none, none, none]) (st' := [.int (nI a1), .ref 25]) (h' := Hp S) 1 (fun Z => rfl) ?_
  refine wp_call (pc' := 8) (rest := []) (fun Z => rfl) (isO_of sh25) hw ?_
  rintro o h1 ⟨x1, S2, rfl, rfl, hw⟩
  refine ⟨_, rfl, ?_⟩
  show wp E (d + 1) m_Plans_bestCellFor 8 [some (.ref 46), some (.int (nI a1)), none, none, none, none, none] [.int x1] (Hp S2) (QI Q)
  refine wp_st (pc' := 14) (L' := [some (.ref 46), some (.int (nI a1)), some (.int x1), some (.int x1), none, none, none]) (st' := [.int x1, .int (nI a1), .ref 46]) (h' := Hp S2) 6 (fun Z => rfl) ?_
  refine wp_call (pc' := 17) (rest := []) (fun Z => rfl) (isO_of sh46) hw ?_
  rintro o h1 ⟨x3, S4, rfl, rfl, hw⟩
  refine ⟨_, rfl, ?_⟩
  show wp E (d + 1) m_Plans_bestCellFor 17 [some (.ref 46), some (.int (nI a1)), some (.int x1), some (.int x1), none, none, none] [.int x3] (Hp S4) (QI Q)
  exact wp_st 3 (fun Z => rfl) (show wp E (d + 1) m_Plans_bestCellFor 22 [some (.ref 46), some (.int (nI a1)), some (.int x1), some (.int x1), some (.int x3), some (.int 0), none] [] (Hp S4) (QI Q) from (hw none))
set_option maxRecDepth 4000 in
theorem w_Plans_bestCellFor_22 {E : zX} {d : Nat} {S : St} {a1 : Nat} {a2 : Int32} {a3 : Int32} {a4 : Int32} {a5 : Nat} {Q : Int32 → St → Prop} (hd : 1 ≤ d) 
    (hw : if (S 3 2) ≤ (nI a5) then (
      Q a3 S)
    else (
      k_Plans_homesInReach E (d - 1) S (nI a1) (nI a5) (fun x1 S2 =>
      if x1 < a4 then (
        k_Plans_bestCellFor_22 E d S2 a1 a2 (nI a5) x1 (a5 + 1) Q)
      else (
        if x1 = a4 then (
          k_Land_far E (d - 1) S2 (nI a5) a2 (fun x3 S4 =>
          k_Land_far E (d - 1) S4 a3 a2 (fun x5 S6 =>
          if x5 ≤ x3 then (
            k_Plans_bestCellFor_22 E d S6 a1 a2 a3 a4 (a5 + 1) Q)
          else (
            k_Plans_bestCellFor_22 E d S6 a1 a2 (nI a5) x1 (a5 + 1) Q))))
        else (
          k_Plans_bestCellFor_22 E d S2 a1 a2 a3 a4 (a5 + 1) Q))))) :
    k_Plans_bestCellFor_22 E d S a1 a2 a3 a4 a5 Q := by
  obtain ⟨d, rfl⟩ := Nat.exists_eq_add_of_le' hd
  intro j6
  show wp E (d + 1) m_Plans_bestCellFor 22 [some (.ref 46), some (.int (nI a1)), some (.int a2), some (.int a3), some (.int a4), some (.int (nI a5)), j6] [] (Hp S) (QI Q)
  refine wp_st (pc' := 25) (L' := [some (.ref 46), some (.int (nI a1)), some (.int a2), some (.int a3), some (.int a4), some (.int (nI a5)), j6]) (st' := [.ref 46, .int (nI a5)]) (h' := Hp S) 2 (fun Z => rfl) ?_
  refine wp_st (pc' := 28) (L' := [some (.ref 46), some (.int (nI a1)), some (.int a2), some (.int a3), some (.int a4), some (.int (nI a5)), j6]) (st' := [.ref 3, .int (nI a5)]) (h' := Hp S) 1 (fun Z => gfR (E := E) sh46 rfl _) ?_
  refine wp_st (pc' := 31) (L' := [some (.ref 46), some (.int (nI a1)), some (.int a2), some (.int a3), some (.int a4), some (.int (nI a5)), j6]) (st' := [.int (S 3 2), .int (nI a5)]) (h' := Hp S) 1 (fun Z => gfI (E := E) sh3 rfl _) ?_
  by_cases hc : (S 3 2) ≤ (nI a5)
  · rw [if_pos hc] at hw
    refine wp_st (pc' := 92) (L' := [some (.ref 46), some (.int (nI a1)), some (.int a2), some (.int a3), some (.int a4), some (.int (nI a5)), j6]) (st' := []) (h' := Hp S) 1 (fun Z => if_pos hc) ?_
    refine wp_st (pc' := 93) (L' := [some (.ref 46), some (.int (nI a1)), some (.int a2), some (.int a3), some (.int a4), some (.int (nI a5)), j6]) (st' := [.int a3]) (h' := Hp S) 1 (fun Z => rfl) ?_
    exact wp_ret (fun Z => rfl) ⟨_, _, rfl, rfl, hw⟩
  · rw [if_neg hc] at hw
    refine wp_st (pc' := 34) (L' := [some (.ref 46), some (.int (nI a1)), some (.int a2), some (.int a3), some (.int a4), some (.int (nI a5)), j6]) (st' := []) (h' := Hp S) 1 (fun Z => if_neg hc) ?_
    refine wp_st (pc' := 38) (L' := [some (.ref 46), some (.int (nI a1)), some (.int a2), some (.int a3), some (.int a4), some (.int (nI a5)), j6]) (st' := [.int (nI a5), .int (nI a1), .ref 46]) (h' := Hp S) 3 (fun Z => rfl) ?_
    refine wp_call (pc' := 41) (rest := []) (fun Z => rfl) (isO_of sh46) hw ?_
    rintro o h1 ⟨x1, S2, rfl, rfl, hw⟩
    refine ⟨_, rfl, ?_⟩
    show wp E (d + 1) m_Plans_bestCellFor 41 [some (.ref 46), some (.int (nI a1)), some (.int a2), some (.int a3), some (.int a4), some (.int (nI a5)), j6] [.int x1] (Hp S2) (QI Q)
    refine wp_st (pc' := 47) (L' := [some (.ref 46), some (.int (nI a1)), some (.int a2), some (.int a3), some (.int a4), some (.int (nI a5)), some (.int x1)]) (st' := [.int a4, .int x1]) (h' := Hp S2) 3 (fun Z => rfl) ?_
    by_cases hc : x1 < a4
    · rw [if_pos hc] at hw
      refine wp_st (pc' := 79) (L' := [some (.ref 46), some (.int (nI a1)), some (.int a2), some (.int a3), some (.int a4), some (.int (nI a5)), some (.int x1)]) (st' := []) (h' := Hp S2) 1 (fun Z => if_pos hc) ?_
      refine wp_st (pc' := 86) (L' := [some (.ref 46), some (.int (nI a1)), some (.int a2), some (.int (nI a5)), some (.int x1), some (.int (nI a5)), some (.int x1)]) (st' := []) (h' := Hp S2) 4 (fun Z => rfl) ?_
      refine wp_st (pc' := 89) (L' := [some (.ref 46), some (.int (nI a1)), some (.int a2), some (.int (nI a5)), some (.int x1), some (.int (nI (a5 + 1))), some (.int x1)]) (st' := []) (h' := Hp S2) 1 (fun Z => by rw [← nI_add a5 1]; rfl) ?_
      exact wp_st 1 (fun Z => rfl) (show wp E (d + 1) m_Plans_bestCellFor 22 [some (.ref 46), some (.int (nI a1)), some (.int a2), some (.int (nI a5)), some (.int x1), some (.int (nI (a5 + 1))), some (.int x1)] [] (Hp S2) (QI Q) from (hw (some (.int x1))))
    · rw [if_neg hc] at hw
      refine wp_st (pc' := 50) (L' := [some (.ref 46), some (.int (nI a1)), some (.int a2), some (.int a3), some (.int a4), some (.int (nI a5)), some (.int x1)]) (st' := []) (h' := Hp S2) 1 (fun Z => if_neg hc) ?_
      refine wp_st (pc' := 54) (L' := [some (.ref 46), some (.int (nI a1)), some (.int a2), some (.int a3), some (.int a4), some (.int (nI a5)), some (.int x1)]) (st' := [.int a4, .int x1]) (h' := Hp S2) 2 (fun Z => rfl) ?_
      by_cases hc : x1 = a4
      · rw [if_pos hc] at hw
        refine wp_st (pc' := 57) (L' := [some (.ref 46), some (.int (nI a1)), some (.int a2), some (.int a3), some (.int a4), some (.int (nI a5)), some (.int x1)]) (st' := []) (h' := Hp S2) 1 (fun Z => if_pos hc) ?_
        refine wp_st (pc' := 58) (L' := [some (.ref 46), some (.int (nI a1)), some (.int a2), some (.int a3), some (.int a4), some (.int (nI a5)), some (.int x1)]) (st' := [.ref 46]) (h' := Hp S2) 1 (fun Z => rfl) ?_
        refine wp_st (pc' := 61) (L' := [some (.ref 46), some (.int (nI a1)), some (.int a2), some (.int a3), some (.int a4), some (.int (nI a5)), some (.int x1)]) (st' := [.ref 3]) (h' := Hp S2) 1 (fun Z => gfR (E := E) sh46 rfl _) ?_
        refine wp_st (pc' := 64) (L' := [some (.ref 46), some (.int (nI a1)), some (.int a2), some (.int a3), some (.int a4), some (.int (nI a5)), some (.int x1)]) (st' := [.int a2, .int (nI a5), .ref 3]) (h' := Hp S2) 2 (fun Z => rfl) ?_
        refine wp_call (pc' := 67) (rest := []) (fun Z => rfl) (isO_of sh3) hw ?_
        rintro o h1 ⟨x3, S4, rfl, rfl, hw⟩
        refine ⟨_, rfl, ?_⟩
        show wp E (d + 1) m_Plans_bestCellFor 67 [some (.ref 46), some (.int (nI a1)), some (.int a2), some (.int a3), some (.int a4), some (.int (nI a5)), some (.int x1)] [.int x3] (Hp S4) (QI Q)
        refine wp_st (pc' := 68) (L' := [some (.ref 46), some (.int (nI a1)), some (.int a2), some (.int a3), some (.int a4), some (.int (nI a5)), some (.int x1)]) (st' := [.ref 46, .int x3]) (h' := Hp S4) 1 (fun Z => rfl) ?_
        refine wp_st (pc' := 71) (L' := [some (.ref 46), some (.int (nI a1)), some (.int a2), some (.int a3), some (.int a4), some (.int (nI a5)), some (.int x1)]) (st' := [.ref 3, .int x3]) (h' := Hp S4) 1 (fun Z => gfR (E := E) sh46 rfl _) ?_
        refine wp_st (pc' := 73) (L' := [some (.ref 46), some (.int (nI a1)), some (.int a2), some (.int a3), some (.int a4), some (.int (nI a5)), some (.int x1)]) (st' := [.int a2, .int a3, .ref 3, .int x3]) (h' := Hp S4) 2 (fun Z => rfl) ?_
        refine wp_call (pc' := 76) (rest := [.int x3]) (fun Z => rfl) (isO_of sh3) hw ?_
        rintro o h1 ⟨x5, S6, rfl, rfl, hw⟩
        refine ⟨_, rfl, ?_⟩
        show wp E (d + 1) m_Plans_bestCellFor 76 [some (.ref 46), some (.int (nI a1)), some (.int a2), some (.int a3), some (.int a4), some (.int (nI a5)), some (.int x1)] [.int x5, .int x3] (Hp S6) (QI Q)
        by_cases hc : x5 ≤ x3
        · rw [if_pos hc] at hw
          refine wp_st (pc' := 86) (L' := [some (.ref 46), some (.int (nI a1)), some (.int a2), some (.int a3), some (.int a4), some (.int (nI a5)), some (.int x1)]) (st' := []) (h' := Hp S6) 1 (fun Z => if_pos hc) ?_
          refine wp_st (pc' := 89) (L' := [some (.ref 46), some (.int (nI a1)), some (.int a2), some (.int a3), some (.int a4), some (.int (nI (a5 + 1))), some (.int x1)]) (st' := []) (h' := Hp S6) 1 (fun Z => by rw [← nI_add a5 1]; rfl) ?_
          exact wp_st 1 (fun Z => rfl) (show wp E (d + 1) m_Plans_bestCellFor 22 [some (.ref 46), some (.int (nI a1)), some (.int a2), some (.int a3), some (.int a4), some (.int (nI (a5 + 1))), some (.int x1)] [] (Hp S6) (QI Q) from (hw (some (.int x1))))
        · rw [if_neg hc] at hw
          refine wp_st (pc' := 79) (L' := [some (.ref 46), some (.int (nI a1)), some (.int a2), some (.int a3), some (.int a4), some (.int (nI a5)), some (.int x1)]) (st' := []) (h' := Hp S6) 1 (fun Z => if_neg hc) ?_
          refine wp_st (pc' := 86) (L' := [some (.ref 46), some (.int (nI a1)), some (.int a2), some (.int (nI a5)), some (.int x1), some (.int (nI a5)), some (.int x1)]) (st' := []) (h' := Hp S6) 4 (fun Z => rfl) ?_
          refine wp_st (pc' := 89) (L' := [some (.ref 46), some (.int (nI a1)), some (.int a2), some (.int (nI a5)), some (.int x1), some (.int (nI (a5 + 1))), some (.int x1)]) (st' := []) (h' := Hp S6) 1 (fun Z => by rw [← nI_add a5 1]; rfl) ?_
          exact wp_st 1 (fun Z => rfl) (show wp E (d + 1) m_Plans_bestCellFor 22 [some (.ref 46), some (.int (nI a1)), some (.int a2), some (.int (nI a5)), some (.int x1), some (.int (nI (a5 + 1))), some (.int x1)] [] (Hp S6) (QI Q) from (hw (some (.int x1))))
      · rw [if_neg hc] at hw
        refine wp_st (pc' := 86) (L' := [some (.ref 46), some (.int (nI a1)), some (.int a2), some (.int a3), some (.int a4), some (.int (nI a5)), some (.int x1)]) (st' := []) (h' := Hp S2) 1 (fun Z => if_neg hc) ?_
        refine wp_st (pc' := 89) (L' := [some (.ref 46), some (.int (nI a1)), some (.int a2), some (.int a3), some (.int a4), some (.int (nI (a5 + 1))), some (.int x1)]) (st' := []) (h' := Hp S2) 1 (fun Z => by rw [← nI_add a5 1]; rfl) ?_
        exact wp_st 1 (fun Z => rfl) (show wp E (d + 1) m_Plans_bestCellFor 22 [some (.ref 46), some (.int (nI a1)), some (.int a2), some (.int a3), some (.int a4), some (.int (nI (a5 + 1))), some (.int x1)] [] (Hp S2) (QI Q) from (hw (some (.int x1))))
set_option maxRecDepth 4000 in
theorem w_Plans_homesInReach {E : zX} {d : Nat} {S : St} {a1 : Nat} {a2 : Nat} {Q : Int32 → St → Prop} (hd : 1 ≤ d) 
    (hw : k_Plans_homesInReach_5 E d S a1 a2 0 0 Q) :
    k_Plans_homesInReach E d S (nI a1) (nI a2) Q := by
  obtain ⟨d, rfl⟩ := Nat.exists_eq_add_of_le' hd
  show wp E (d + 1) m_Plans_homesInReach 0 [some (.ref 46), some (.int (nI a1)), some (.int (nI a2)), none, none] [] (Hp S) (QI Q)
  exact wp_st 4 (fun Z => rfl) (show wp E (d + 1) m_Plans_homesInReach 5 [some (.ref 46), some (.int (nI a1)), some (.int (nI a2)), some (.int 0), some (.int 0)] [] (Hp S) (QI Q) from hw)
set_option maxRecDepth 4000 in
theorem w_Plans_homesInReach_5 {E : zX} {d : Nat} {S : St} {a1 : Nat} {a2 : Nat} {a3 : Nat} {a4 : Nat} {Q : Int32 → St → Prop} (hd : 1 ≤ d) 
    (hw : if (S 3 3) ≤ (nI a4) then (
      Q (nI a3) S)
    else (
      a4 < 7 ∧
      k_Land_far E (d - 1) S (nI a2) (S 4 a4) (fun x1 S2 =>
      k_Scene_heldIn E (d - 1) S2 25 (nI a1) (fun x3 S4 =>
      if (x3 / 10) < x1 then (
        k_Plans_homesInReach_5 E d S4 a1 a2 a3 (a4 + 1) Q)
      else (
        k_Plans_homesInReach_5 E d S4 a1 a2 (a3 + 1) (a4 + 1) Q))))) :
    k_Plans_homesInReach_5 E d S a1 a2 a3 a4 Q := by
  obtain ⟨d, rfl⟩ := Nat.exists_eq_add_of_le' hd
  show wp E (d + 1) m_Plans_homesInReach 5 [some (.ref 46), some (.int (nI a1)), some (.int (nI a2)), some (.int (nI a3)), some (.int (nI a4))] [] (Hp S) (QI Q)
  refine wp_st (pc' := 8) (L' := [some (.ref 46), some (.int (nI a1)), some (.int (nI a2)), some (.int (nI a3)), some (.int (nI a4))]) (st' := [.ref 46, .int (nI a4)]) (h' := Hp S) 2 (fun Z => rfl) ?_
  refine wp_st (pc' := 11) (L' := [some (.ref 46), some (.int (nI a1)), some (.int (nI a2)), some (.int (nI a3)), some (.int (nI a4))]) (st' := [.ref 3, .int (nI a4)]) (h' := Hp S) 1 (fun Z => gfR (E := E) sh46 rfl _) ?_
  refine wp_st (pc' := 14) (L' := [some (.ref 46), some (.int (nI a1)), some (.int (nI a2)), some (.int (nI a3)), some (.int (nI a4))]) (st' := [.int (S 3 3), .int (nI a4)]) (h' := Hp S) 1 (fun Z => gfI (E := E) sh3 rfl _) ?_
  by_cases hc : (S 3 3) ≤ (nI a4)
  · rw [if_pos hc] at hw
    refine wp_st (pc' := 58) (L' := [some (.ref 46), some (.int (nI a1)), some (.int (nI a2)), some (.int (nI a3)), some (.int (nI a4))]) (st' := []) (h' := Hp S) 1 (fun Z => if_pos hc) ?_
    refine wp_st (pc' := 59) (L' := [some (.ref 46), some (.int (nI a1)), some (.int (nI a2)), some (.int (nI a3)), some (.int (nI a4))]) (st' := [.int (nI a3)]) (h' := Hp S) 1 (fun Z => rfl) ?_
    exact wp_ret (fun Z => rfl) ⟨_, _, rfl, rfl, hw⟩
  · rw [if_neg hc] at hw
    refine wp_st (pc' := 17) (L' := [some (.ref 46), some (.int (nI a1)), some (.int (nI a2)), some (.int (nI a3)), some (.int (nI a4))]) (st' := []) (h' := Hp S) 1 (fun Z => if_neg hc) ?_
    refine wp_st (pc' := 18) (L' := [some (.ref 46), some (.int (nI a1)), some (.int (nI a2)), some (.int (nI a3)), some (.int (nI a4))]) (st' := [.ref 46]) (h' := Hp S) 1 (fun Z => rfl) ?_
    refine wp_st (pc' := 21) (L' := [some (.ref 46), some (.int (nI a1)), some (.int (nI a2)), some (.int (nI a3)), some (.int (nI a4))]) (st' := [.ref 3]) (h' := Hp S) 1 (fun Z => gfR (E := E) sh46 rfl _) ?_
    refine wp_st (pc' := 23) (L' := [some (.ref 46), some (.int (nI a1)), some (.int (nI a2)), some (.int (nI a3)), some (.int (nI a4))]) (st' := [.ref 46, .int (nI a2), .ref 3]) (h' := Hp S) 2 (fun Z => rfl) ?_
    refine wp_st (pc' := 26) (L' := [some (.ref 46), some (.int (nI a1)), some (.int (nI a2)), some (.int (nI a3)), some (.int (nI a4))]) (st' := [.ref 3, .int (nI a2), .ref 3]) (h' := Hp S) 1 (fun Z => gfR (E := E) sh46 rfl _) ?_
    refine wp_st (pc' := 29) (L' := [some (.ref 46), some (.int (nI a1)), some (.int (nI a2)), some (.int (nI a3)), some (.int (nI a4))]) (st' := [.ref 4, .int (nI a2), .ref 3]) (h' := Hp S) 1 (fun Z => gfR (E := E) sh3 rfl _) ?_
    refine wp_st (pc' := 31) (L' := [some (.ref 46), some (.int (nI a1)), some (.int (nI a2)), some (.int (nI a3)), some (.int (nI a4))]) (st' := [.int (nI a4), .ref 4, .int (nI a2), .ref 3]) (h' := Hp S) 1 (fun Z => rfl) ?_
    obtain ⟨hi, hw⟩ := hw
    refine wp_st (pc' := 32) (L' := [some (.ref 46), some (.int (nI a1)), some (.int (nI a2)), some (.int (nI a3)), some (.int (nI a4))]) (st' := [.int (S 4 a4), .int (nI a2), .ref 3]) (h' := Hp S) 1 (fun Z => ldN (E := E) sh4 (by decide) hi [.int (nI a2), .ref 3] (fun st => Z (d + 1) m_Plans_homesInReach 32 [some (.ref 46), some (.int (nI a1)), some (.int (nI a2)), some (.int (nI a3)), some (.int (nI a4))] st (Hp S))) ?_
    refine wp_call (pc' := 35) (rest := []) (fun Z => rfl) (isO_of sh3) hw ?_
    rintro o h1 ⟨x1, S2, rfl, rfl, hw⟩
    refine ⟨_, rfl, ?_⟩
    show wp E (d + 1) m_Plans_homesInReach 35 [some (.ref 46), some (.int (nI a1)), some (.int (nI a2)), some (.int (nI a3)), some (.int (nI a4))] [.int x1] (Hp S2) (QI Q)
    refine wp_st (pc' := 36) (L' := [some (.ref 46), some (.int (nI a1)), some (.int (nI a2)), some (.int (nI a3)), some (.int (nI a4))]) (st' := [.ref 46, .int x1]) (h' := Hp S2) 1 (fun Z => rfl) ?_
    refine wp_st (pc' := 39) (L' := [some (.ref 46), some (.int (nI a1)), some (.int (nI a2)), some (.int (nI a3)), some (.int (nI a4))]) (st' := [.ref 25, .int x1]) (h' := Hp S2) 1 (fun Z => gfR (E := E) sh46 rfl _) ?_
    refine wp_st (pc' := 40) (L' := [some (.ref 46), some (.int (nI a1)), some (.int (nI a2)), some (.int (nI a3)), some (.int (nI a4))]) (st' := [.int (nI a1), .ref 25, .int x1]) (h' := Hp S2) 1 (fun Z => rfl) ?_
    refine wp_call (pc' := 43) (rest := [.int x1]) (fun Z => rfl) (isO_of sh25) hw ?_
    rintro o h1 ⟨x3, S4, rfl, rfl, hw⟩
    refine ⟨_, rfl, ?_⟩
    show wp E (d + 1) m_Plans_homesInReach 43 [some (.ref 46), some (.int (nI a1)), some (.int (nI a2)), some (.int (nI a3)), some (.int (nI a4))] [.int x3, .int x1] (Hp S4) (QI Q)
    refine wp_st (pc' := 45) (L' := [some (.ref 46), some (.int (nI a1)), some (.int (nI a2)), some (.int (nI a3)), some (.int (nI a4))]) (st' := [.int 10, .int x3, .int x1]) (h' := Hp S4) 1 (fun Z => rfl) ?_
    refine wp_st (pc' := 46) (L' := [some (.ref 46), some (.int (nI a1)), some (.int (nI a2)), some (.int (nI a3)), some (.int (nI a4))]) (st' := [.int (x3 / 10), .int x1]) (h' := Hp S4) 1 (fun Z => rfl) ?_
    by_cases hc : (x3 / 10) < x1
    · rw [if_pos hc] at hw
      refine wp_st (pc' := 52) (L' := [some (.ref 46), some (.int (nI a1)), some (.int (nI a2)), some (.int (nI a3)), some (.int (nI a4))]) (st' := []) (h' := Hp S4) 1 (fun Z => if_pos hc) ?_
      refine wp_st (pc' := 55) (L' := [some (.ref 46), some (.int (nI a1)), some (.int (nI a2)), some (.int (nI a3)), some (.int (nI (a4 + 1)))]) (st' := []) (h' := Hp S4) 1 (fun Z => by rw [← nI_add a4 1]; rfl) ?_
      exact wp_st 1 (fun Z => rfl) (show wp E (d + 1) m_Plans_homesInReach 5 [some (.ref 46), some (.int (nI a1)), some (.int (nI a2)), some (.int (nI a3)), some (.int (nI (a4 + 1)))] [] (Hp S4) (QI Q) from hw)
    · rw [if_neg hc] at hw
      refine wp_st (pc' := 49) (L' := [some (.ref 46), some (.int (nI a1)), some (.int (nI a2)), some (.int (nI a3)), some (.int (nI a4))]) (st' := []) (h' := Hp S4) 1 (fun Z => if_neg hc) ?_
      refine wp_st (pc' := 52) (L' := [some (.ref 46), some (.int (nI a1)), some (.int (nI a2)), some (.int (nI (a3 + 1))), some (.int (nI a4))]) (st' := []) (h' := Hp S4) 1 (fun Z => by rw [← nI_add a3 1]; rfl) ?_
      refine wp_st (pc' := 55) (L' := [some (.ref 46), some (.int (nI a1)), some (.int (nI a2)), some (.int (nI (a3 + 1))), some (.int (nI (a4 + 1)))]) (st' := []) (h' := Hp S4) 1 (fun Z => by rw [← nI_add a4 1]; rfl) ?_
      exact wp_st 1 (fun Z => rfl) (show wp E (d + 1) m_Plans_homesInReach 5 [some (.ref 46), some (.int (nI a1)), some (.int (nI a2)), some (.int (nI (a3 + 1))), some (.int (nI (a4 + 1)))] [] (Hp S4) (QI Q) from hw)
set_option maxRecDepth 4000 in
theorem w_Plans_stepsBetween {E : zX} {d : Nat} {S : St} {a1 : Nat} {a2 : Nat} {Q : Int32 → St → Prop} (hd : 1 ≤ d) 
    (hw : if (nI a1) = (nI a2) then (
      Q (0 : Int32) S)
    else (
      k_Plans_isBarred E (d - 1) S (nI a2) (fun x1 S2 =>
      if x1 = 0 then (
        k_Plans_walkBackFrom E (d - 1) S2 (nI a2) (nI a1) (fun S4 =>
        a1 < 36 ∧
        Q (S4 48 a1) S4))
      else (
        Q ((-1) : Int32) S2)))) :
    k_Plans_stepsBetween E d S (nI a1) (nI a2) Q := by
  obtain ⟨d, rfl⟩ := Nat.exists_eq_add_of_le' hd
  show wp E (d + 1) m_Plans_stepsBetween 0 [some (.ref 46), some (.int (nI a1)), some (.int (nI a2))] [] (Hp S) (QI Q)
  refine wp_st (pc' := 2) (L' := [some (.ref 46), some (.int (nI a1)), some (.int (nI a2))]) (st' := [.int (nI a2), .int (nI a1)]) (h' := Hp S) 2 (fun Z => rfl) ?_
  by_cases hc : (nI a1) = (nI a2)
  · rw [if_pos hc] at hw
    refine wp_st (pc' := 5) (L' := [some (.ref 46), some (.int (nI a1)), some (.int (nI a2))]) (st' := []) (h' := Hp S) 1 (fun Z => if_pos hc) ?_
    refine wp_st (pc' := 6) (L' := [some (.ref 46), some (.int (nI a1)), some (.int (nI a2))]) (st' := [.int 0]) (h' := Hp S) 1 (fun Z => rfl) ?_
    exact wp_ret (fun Z => rfl) ⟨_, _, rfl, rfl, hw⟩
  · rw [if_neg hc] at hw
    refine wp_st (pc' := 7) (L' := [some (.ref 46), some (.int (nI a1)), some (.int (nI a2))]) (st' := []) (h' := Hp S) 1 (fun Z => if_neg hc) ?_
    refine wp_st (pc' := 9) (L' := [some (.ref 46), some (.int (nI a1)), some (.int (nI a2))]) (st' := [.int (nI a2), .ref 46]) (h' := Hp S) 2 (fun Z => rfl) ?_
    refine wp_call (pc' := 12) (rest := []) (fun Z => rfl) (isO_of sh46) hw ?_
    rintro o h1 ⟨x1, S2, rfl, rfl, hw⟩
    refine ⟨_, rfl, ?_⟩
    show wp E (d + 1) m_Plans_stepsBetween 12 [some (.ref 46), some (.int (nI a1)), some (.int (nI a2))] [.int x1] (Hp S2) (QI Q)
    by_cases hc : x1 = 0
    · rw [if_pos hc] at hw
      refine wp_st (pc' := 17) (L' := [some (.ref 46), some (.int (nI a1)), some (.int (nI a2))]) (st' := []) (h' := Hp S2) 1 (fun Z => if_pos hc) ?_
      refine wp_st (pc' := 20) (L' := [some (.ref 46), some (.int (nI a1)), some (.int (nI a2))]) (st' := [.int (nI a1), .int (nI a2), .ref 46]) (h' := Hp S2) 3 (fun Z => rfl) ?_
      refine wp_call (pc' := 23) (rest := []) (fun Z => rfl) (isO_of sh46) hw ?_
      rintro o h1 ⟨S4, rfl, rfl, hw⟩
      refine ⟨_, rfl, ?_⟩
      show wp E (d + 1) m_Plans_stepsBetween 23 [some (.ref 46), some (.int (nI a1)), some (.int (nI a2))] [] (Hp S4) (QI Q)
      refine wp_st (pc' := 24) (L' := [some (.ref 46), some (.int (nI a1)), some (.int (nI a2))]) (st' := [.ref 46]) (h' := Hp S4) 1 (fun Z => rfl) ?_
      refine wp_st (pc' := 27) (L' := [some (.ref 46), some (.int (nI a1)), some (.int (nI a2))]) (st' := [.ref 48]) (h' := Hp S4) 1 (fun Z => gfR (E := E) sh46 rfl _) ?_
      refine wp_st (pc' := 28) (L' := [some (.ref 46), some (.int (nI a1)), some (.int (nI a2))]) (st' := [.int (nI a1), .ref 48]) (h' := Hp S4) 1 (fun Z => rfl) ?_
      obtain ⟨hi, hw⟩ := hw
      refine wp_st (pc' := 29) (L' := [some (.ref 46), some (.int (nI a1)), some (.int (nI a2))]) (st' := [.int (S4 48 a1)]) (h' := Hp S4) 1 (fun Z => ldN (E := E) sh48 (by decide) hi [] (fun st => Z (d + 1) m_Plans_stepsBetween 29 [some (.ref 46), some (.int (nI a1)), some (.int (nI a2))] st (Hp S4))) ?_
      exact wp_ret (fun Z => rfl) ⟨_, _, rfl, rfl, hw⟩
    · rw [if_neg hc] at hw
      refine wp_st (pc' := 15) (L' := [some (.ref 46), some (.int (nI a1)), some (.int (nI a2))]) (st' := []) (h' := Hp S2) 1 (fun Z => if_neg hc) ?_
      refine wp_st (pc' := 16) (L' := [some (.ref 46), some (.int (nI a1)), some (.int (nI a2))]) (st' := [.int (-1)]) (h' := Hp S2) 1 (fun Z => congrArg (fun v => Z (d + 1) m_Plans_stepsBetween 16 [some (.ref 46), some (.int (nI a1)), some (.int (nI a2))] [.int v] (Hp S2)) (show Int32.ofInt (-1) = (-1) by decide)) ?_
      exact wp_ret (fun Z => rfl) ⟨_, _, rfl, rfl, hw⟩
set_option maxRecDepth 4000 in
theorem w_Plans_isBarred {E : zX} {d : Nat} {S : St} {a1 : Int32} {Q : Int32 → St → Prop} (hd : 1 ≤ d) 
    (hw : k_Plans_isBarred_2 E d S a1 0 Q) :
    k_Plans_isBarred E d S a1 Q := by
  obtain ⟨d, rfl⟩ := Nat.exists_eq_add_of_le' hd
  show wp E (d + 1) m_Plans_isBarred 0 [some (.ref 46), some (.int a1), none] [] (Hp S) (QI Q)
  exact wp_st 2 (fun Z => rfl) (show wp E (d + 1) m_Plans_isBarred 2 [some (.ref 46), some (.int a1), some (.int 0)] [] (Hp S) (QI Q) from hw)
set_option maxRecDepth 4000 in
theorem w_Plans_isBarred_2 {E : zX} {d : Nat} {S : St} {a1 : Int32} {a2 : Nat} {Q : Int32 → St → Prop} (hd : 1 ≤ d) 
    (hw : if (S 3 4) ≤ (nI a2) then (
      Q (0 : Int32) S)
    else (
      k_Scene_cellOf E (d - 1) S 25 (nI a2) (fun x1 S2 =>
      if x1 = a1 then (
        k_Scene_isWhite E (d - 1) S2 25 (nI a2) (fun x3 S4 =>
        if x3 = 0 then (
          Q (1 : Int32) S4)
        else (
          k_Plans_isBarred_2 E d S4 a1 (a2 + 1) Q)))
      else (
        k_Plans_isBarred_2 E d S2 a1 (a2 + 1) Q)))) :
    k_Plans_isBarred_2 E d S a1 a2 Q := by
  obtain ⟨d, rfl⟩ := Nat.exists_eq_add_of_le' hd
  show wp E (d + 1) m_Plans_isBarred 2 [some (.ref 46), some (.int a1), some (.int (nI a2))] [] (Hp S) (QI Q)
  refine wp_st (pc' := 4) (L' := [some (.ref 46), some (.int a1), some (.int (nI a2))]) (st' := [.ref 46, .int (nI a2)]) (h' := Hp S) 2 (fun Z => rfl) ?_
  refine wp_st (pc' := 7) (L' := [some (.ref 46), some (.int a1), some (.int (nI a2))]) (st' := [.ref 3, .int (nI a2)]) (h' := Hp S) 1 (fun Z => gfR (E := E) sh46 rfl _) ?_
  refine wp_st (pc' := 10) (L' := [some (.ref 46), some (.int a1), some (.int (nI a2))]) (st' := [.int (S 3 4), .int (nI a2)]) (h' := Hp S) 1 (fun Z => gfI (E := E) sh3 rfl _) ?_
  by_cases hc : (S 3 4) ≤ (nI a2)
  · rw [if_pos hc] at hw
    refine wp_st (pc' := 44) (L' := [some (.ref 46), some (.int a1), some (.int (nI a2))]) (st' := []) (h' := Hp S) 1 (fun Z => if_pos hc) ?_
    refine wp_st (pc' := 45) (L' := [some (.ref 46), some (.int a1), some (.int (nI a2))]) (st' := [.int 0]) (h' := Hp S) 1 (fun Z => rfl) ?_
    exact wp_ret (fun Z => rfl) ⟨_, _, rfl, rfl, hw⟩
  · rw [if_neg hc] at hw
    refine wp_st (pc' := 13) (L' := [some (.ref 46), some (.int a1), some (.int (nI a2))]) (st' := []) (h' := Hp S) 1 (fun Z => if_neg hc) ?_
    refine wp_st (pc' := 14) (L' := [some (.ref 46), some (.int a1), some (.int (nI a2))]) (st' := [.ref 46]) (h' := Hp S) 1 (fun Z => rfl) ?_
    refine wp_st (pc' := 17) (L' := [some (.ref 46), some (.int a1), some (.int (nI a2))]) (st' := [.ref 25]) (h' := Hp S) 1 (fun Z => gfR (E := E) sh46 rfl _) ?_
    refine wp_st (pc' := 18) (L' := [some (.ref 46), some (.int a1), some (.int (nI a2))]) (st' := [.int (nI a2), .ref 25]) (h' := Hp S) 1 (fun Z => rfl) ?_
    refine wp_call (pc' := 21) (rest := []) (fun Z => rfl) (isO_of sh25) hw ?_
    rintro o h1 ⟨x1, S2, rfl, rfl, hw⟩
    refine ⟨_, rfl, ?_⟩
    show wp E (d + 1) m_Plans_isBarred 21 [some (.ref 46), some (.int a1), some (.int (nI a2))] [.int x1] (Hp S2) (QI Q)
    refine wp_st (pc' := 22) (L' := [some (.ref 46), some (.int a1), some (.int (nI a2))]) (st' := [.int a1, .int x1]) (h' := Hp S2) 1 (fun Z => rfl) ?_
    by_cases hc : x1 = a1
    · rw [if_pos hc] at hw
      refine wp_st (pc' := 25) (L' := [some (.ref 46), some (.int a1), some (.int (nI a2))]) (st' := []) (h' := Hp S2) 1 (fun Z => if_pos hc) ?_
      refine wp_st (pc' := 26) (L' := [some (.ref 46), some (.int a1), some (.int (nI a2))]) (st' := [.ref 46]) (h' := Hp S2) 1 (fun Z => rfl) ?_
      refine wp_st (pc' := 29) (L' := [some (.ref 46), some (.int a1), some (.int (nI a2))]) (st' := [.ref 25]) (h' := Hp S2) 1 (fun Z => gfR (E := E) sh46 rfl _) ?_
      refine wp_st (pc' := 30) (L' := [some (.ref 46), some (.int a1), some (.int (nI a2))]) (st' := [.int (nI a2), .ref 25]) (h' := Hp S2) 1 (fun Z => rfl) ?_
      refine wp_call (pc' := 33) (rest := []) (fun Z => rfl) (isO_of sh25) hw ?_
      rintro o h1 ⟨x3, S4, rfl, rfl, hw⟩
      refine ⟨_, rfl, ?_⟩
      show wp E (d + 1) m_Plans_isBarred 33 [some (.ref 46), some (.int a1), some (.int (nI a2))] [.int x3] (Hp S4) (QI Q)
      by_cases hc : x3 = 0
      · rw [if_pos hc] at hw
        refine wp_st (pc' := 36) (L' := [some (.ref 46), some (.int a1), some (.int (nI a2))]) (st' := []) (h' := Hp S4) 1 (fun Z => if_pos hc) ?_
        refine wp_st (pc' := 37) (L' := [some (.ref 46), some (.int a1), some (.int (nI a2))]) (st' := [.int 1]) (h' := Hp S4) 1 (fun Z => rfl) ?_
        exact wp_ret (fun Z => rfl) ⟨_, _, rfl, rfl, hw⟩
      · rw [if_neg hc] at hw
        refine wp_st (pc' := 38) (L' := [some (.ref 46), some (.int a1), some (.int (nI a2))]) (st' := []) (h' := Hp S4) 1 (fun Z => if_neg hc) ?_
        refine wp_st (pc' := 41) (L' := [some (.ref 46), some (.int a1), some (.int (nI (a2 + 1)))]) (st' := []) (h' := Hp S4) 1 (fun Z => by rw [← nI_add a2 1]; rfl) ?_
        exact wp_st 1 (fun Z => rfl) (show wp E (d + 1) m_Plans_isBarred 2 [some (.ref 46), some (.int a1), some (.int (nI (a2 + 1)))] [] (Hp S4) (QI Q) from hw)
    · rw [if_neg hc] at hw
      refine wp_st (pc' := 38) (L' := [some (.ref 46), some (.int a1), some (.int (nI a2))]) (st' := []) (h' := Hp S2) 1 (fun Z => if_neg hc) ?_
      refine wp_st (pc' := 41) (L' := [some (.ref 46), some (.int a1), some (.int (nI (a2 + 1)))]) (st' := []) (h' := Hp S2) 1 (fun Z => by rw [← nI_add a2 1]; rfl) ?_
      exact wp_st 1 (fun Z => rfl) (show wp E (d + 1) m_Plans_isBarred 2 [some (.ref 46), some (.int a1), some (.int (nI (a2 + 1)))] [] (Hp S2) (QI Q) from hw)
set_option maxRecDepth 4000 in
theorem w_Plans_walkBackFrom {E : zX} {d : Nat} {S : St} {a1 : Nat} {a2 : Int32} {Q : St → Prop} (hd : 1 ≤ d) 
    (hw : k_Plans_walkBackFrom_2 E d S a1 a2 0 Q) :
    k_Plans_walkBackFrom E d S (nI a1) a2 Q := by
  obtain ⟨d, rfl⟩ := Nat.exists_eq_add_of_le' hd
  show wp E (d + 1) m_Plans_walkBackFrom 0 [some (.ref 46), some (.int (nI a1)), some (.int a2), none, none, none] [] (Hp S) (QV Q)
  exact wp_st 2 (fun Z => rfl) (show wp E (d + 1) m_Plans_walkBackFrom 2 [some (.ref 46), some (.int (nI a1)), some (.int a2), some (.int 0), none, none] [] (Hp S) (QV Q) from (hw none none))
set_option maxRecDepth 4000 in
theorem w_Plans_walkBackFrom_2 {E : zX} {d : Nat} {S : St} {a1 : Nat} {a2 : Int32} {a3 : Nat} {Q : St → Prop} (hd : 1 ≤ d) 
    (hw : if (S 3 2) ≤ (nI a3) then (
      a1 < 36 ∧
      ∀ S1, S1 = up S 48 a1 0 →
      ∀ S2, S2 = up S1 49 0 (nI a1) →
      k_Plans_walkBackFrom_45 E d S2 a2 1 0 Q)
    else (
      a3 < 36 ∧
      ∀ S3, S3 = up S 48 a3 (-1) →
      k_Plans_walkBackFrom_2 E d S3 a1 a2 (a3 + 1) Q)) :
    k_Plans_walkBackFrom_2 E d S a1 a2 a3 Q := by
  obtain ⟨d, rfl⟩ := Nat.exists_eq_add_of_le' hd
  intro j4 j5
  show wp E (d + 1) m_Plans_walkBackFrom 2 [some (.ref 46), some (.int (nI a1)), some (.int a2), some (.int (nI a3)), j4, j5] [] (Hp S) (QV Q)
  refine wp_st (pc' := 4) (L' := [some (.ref 46), some (.int (nI a1)), some (.int a2), some (.int (nI a3)), j4, j5]) (st' := [.ref 46, .int (nI a3)]) (h' := Hp S) 2 (fun Z => rfl) ?_
  refine wp_st (pc' := 7) (L' := [some (.ref 46), some (.int (nI a1)), some (.int a2), some (.int (nI a3)), j4, j5]) (st' := [.ref 3, .int (nI a3)]) (h' := Hp S) 1 (fun Z => gfR (E := E) sh46 rfl _) ?_
  refine wp_st (pc' := 10) (L' := [some (.ref 46), some (.int (nI a1)), some (.int a2), some (.int (nI a3)), j4, j5]) (st' := [.int (S 3 2), .int (nI a3)]) (h' := Hp S) 1 (fun Z => gfI (E := E) sh3 rfl _) ?_
  by_cases hc : (S 3 2) ≤ (nI a3)
  · rw [if_pos hc] at hw
    refine wp_st (pc' := 26) (L' := [some (.ref 46), some (.int (nI a1)), some (.int a2), some (.int (nI a3)), j4, j5]) (st' := []) (h' := Hp S) 1 (fun Z => if_pos hc) ?_
    refine wp_st (pc' := 27) (L' := [some (.ref 46), some (.int (nI a1)), some (.int a2), some (.int (nI a3)), j4, j5]) (st' := [.ref 46]) (h' := Hp S) 1 (fun Z => rfl) ?_
    refine wp_st (pc' := 30) (L' := [some (.ref 46), some (.int (nI a1)), some (.int a2), some (.int (nI a3)), j4, j5]) (st' := [.ref 48]) (h' := Hp S) 1 (fun Z => gfR (E := E) sh46 rfl _) ?_
    refine wp_st (pc' := 32) (L' := [some (.ref 46), some (.int (nI a1)), some (.int a2), some (.int (nI a3)), j4, j5]) (st' := [.int 0, .int (nI a1), .ref 48]) (h' := Hp S) 2 (fun Z => rfl) ?_
    obtain ⟨hi, hw⟩ := hw
    have hw := hw _ rfl
    refine wp_st (pc' := 33) (L' := [some (.ref 46), some (.int (nI a1)), some (.int a2), some (.int (nI a3)), j4, j5]) (st' := []) (h' := Hp (up S 48 a1 0)) 1 (fun Z => stN sh48 (by decide) hi _ _) ?_
    generalize up S 48 a1 0 = S1 at hw ⊢
    refine wp_st (pc' := 34) (L' := [some (.ref 46), some (.int (nI a1)), some (.int a2), some (.int (nI a3)), j4, j5]) (st' := [.ref 46]) (h' := Hp S1) 1 (fun Z => rfl) ?_
    refine wp_st (pc' := 37) (L' := [some (.ref 46), some (.int (nI a1)), some (.int a2), some (.int (nI a3)), j4, j5]) (st' := [.ref 49]) (h' := Hp S1) 1 (fun Z => gfR (E := E) sh46 rfl _) ?_
    refine wp_st (pc' := 39) (L' := [some (.ref 46), some (.int (nI a1)), some (.int a2), some (.int (nI a3)), j4, j5]) (st' := [.int (nI a1), .int 0, .ref 49]) (h' := Hp S1) 2 (fun Z => rfl) ?_
    have hw := hw _ rfl
    refine wp_st (pc' := 40) (L' := [some (.ref 46), some (.int (nI a1)), some (.int a2), some (.int (nI a3)), j4, j5]) (st' := []) (h' := Hp (up S1 49 0 (nI a1))) 1 (fun Z => stN sh49 (by decide) (by decide) _ _) ?_
    generalize up S1 49 0 (nI a1) = S2 at hw ⊢
    exact wp_st 4 (fun Z => rfl) (show wp E (d + 1) m_Plans_walkBackFrom 45 [some (.ref 46), some (.int (nI a1)), some (.int a2), some (.int 1), some (.int 0), j5] [] (Hp S2) (QV Q) from (hw (some (.int (nI a1))) j5))
  · rw [if_neg hc] at hw
    refine wp_st (pc' := 13) (L' := [some (.ref 46), some (.int (nI a1)), some (.int a2), some (.int (nI a3)), j4, j5]) (st' := []) (h' := Hp S) 1 (fun Z => if_neg hc) ?_
    refine wp_st (pc' := 14) (L' := [some (.ref 46), some (.int (nI a1)), some (.int a2), some (.int (nI a3)), j4, j5]) (st' := [.ref 46]) (h' := Hp S) 1 (fun Z => rfl) ?_
    refine wp_st (pc' := 17) (L' := [some (.ref 46), some (.int (nI a1)), some (.int a2), some (.int (nI a3)), j4, j5]) (st' := [.ref 48]) (h' := Hp S) 1 (fun Z => gfR (E := E) sh46 rfl _) ?_
    refine wp_st (pc' := 18) (L' := [some (.ref 46), some (.int (nI a1)), some (.int a2), some (.int (nI a3)), j4, j5]) (st' := [.int (nI a3), .ref 48]) (h' := Hp S) 1 (fun Z => rfl) ?_
    refine wp_st (pc' := 19) (L' := [some (.ref 46), some (.int (nI a1)), some (.int a2), some (.int (nI a3)), j4, j5]) (st' := [.int (-1), .int (nI a3), .ref 48]) (h' := Hp S) 1 (fun Z => congrArg (fun v => Z (d + 1) m_Plans_walkBackFrom 19 [some (.ref 46), some (.int (nI a1)), some (.int a2), some (.int (nI a3)), j4, j5] [.int v, .int (nI a3), .ref 48] (Hp S)) (show Int32.ofInt (-1) = (-1) by decide)) ?_
    obtain ⟨hi, hw⟩ := hw
    have hw := hw _ rfl
    refine wp_st (pc' := 20) (L' := [some (.ref 46), some (.int (nI a1)), some (.int a2), some (.int (nI a3)), j4, j5]) (st' := []) (h' := Hp (up S 48 a3 (-1))) 1 (fun Z => stN sh48 (by decide) hi _ _) ?_
    generalize up S 48 a3 (-1) = S3 at hw ⊢
    refine wp_st (pc' := 23) (L' := [some (.ref 46), some (.int (nI a1)), some (.int a2), some (.int (nI (a3 + 1))), j4, j5]) (st' := []) (h' := Hp S3) 1 (fun Z => by rw [← nI_add a3 1]; rfl) ?_
    exact wp_st 1 (fun Z => rfl) (show wp E (d + 1) m_Plans_walkBackFrom 2 [some (.ref 46), some (.int (nI a1)), some (.int a2), some (.int (nI (a3 + 1))), j4, j5] [] (Hp S3) (QV Q) from (hw j4 j5))
set_option maxRecDepth 4000 in
theorem w_Plans_walkBackFrom_45 {E : zX} {d : Nat} {S : St} {a2 : Int32} {a3 : Nat} {a4 : Nat} {Q : St → Prop} (hd : 1 ≤ d) 
    (hw : if (nI a3) ≤ (nI a4) then (
      Q S)
    else (
      if (S 3 2) ≤ (nI a4) then (
        Q S)
      else (
        k_Plans_walkBackFrom_66 E d S a2 a3 a4 0 Q))) :
    k_Plans_walkBackFrom_45 E d S a2 a3 a4 Q := by
  obtain ⟨d, rfl⟩ := Nat.exists_eq_add_of_le' hd
  intro j1 j5
  show wp E (d + 1) m_Plans_walkBackFrom 45 [some (.ref 46), j1, some (.int a2), some (.int (nI a3)), some (.int (nI a4)), j5] [] (Hp S) (QV Q)
  refine wp_st (pc' := 48) (L' := [some (.ref 46), j1, some (.int a2), some (.int (nI a3)), some (.int (nI a4)), j5]) (st' := [.int (nI a3), .int (nI a4)]) (h' := Hp S) 2 (fun Z => rfl) ?_
  by_cases hc : (nI a3) ≤ (nI a4)
  · rw [if_pos hc] at hw
    refine wp_st (pc' := 174) (L' := [some (.ref 46), j1, some (.int a2), some (.int (nI a3)), some (.int (nI a4)), j5]) (st' := []) (h' := Hp S) 1 (fun Z => if_pos hc) ?_
    exact wp_ret (fun Z => rfl) ⟨_, rfl, rfl, hw⟩
  · rw [if_neg hc] at hw
    refine wp_st (pc' := 51) (L' := [some (.ref 46), j1, some (.int a2), some (.int (nI a3)), some (.int (nI a4)), j5]) (st' := []) (h' := Hp S) 1 (fun Z => if_neg hc) ?_
    refine wp_st (pc' := 54) (L' := [some (.ref 46), j1, some (.int a2), some (.int (nI a3)), some (.int (nI a4)), j5]) (st' := [.ref 46, .int (nI a4)]) (h' := Hp S) 2 (fun Z => rfl) ?_
    refine wp_st (pc' := 57) (L' := [some (.ref 46), j1, some (.int a2), some (.int (nI a3)), some (.int (nI a4)), j5]) (st' := [.ref 3, .int (nI a4)]) (h' := Hp S) 1 (fun Z => gfR (E := E) sh46 rfl _) ?_
    refine wp_st (pc' := 60) (L' := [some (.ref 46), j1, some (.int a2), some (.int (nI a3)), some (.int (nI a4)), j5]) (st' := [.int (S 3 2), .int (nI a4)]) (h' := Hp S) 1 (fun Z => gfI (E := E) sh3 rfl _) ?_
    by_cases hc : (S 3 2) ≤ (nI a4)
    · rw [if_pos hc] at hw
      refine wp_st (pc' := 174) (L' := [some (.ref 46), j1, some (.int a2), some (.int (nI a3)), some (.int (nI a4)), j5]) (st' := []) (h' := Hp S) 1 (fun Z => if_pos hc) ?_
      exact wp_ret (fun Z => rfl) ⟨_, rfl, rfl, hw⟩
    · rw [if_neg hc] at hw
      refine wp_st (pc' := 63) (L' := [some (.ref 46), j1, some (.int a2), some (.int (nI a3)), some (.int (nI a4)), j5]) (st' := []) (h' := Hp S) 1 (fun Z => if_neg hc) ?_
      exact wp_st 2 (fun Z => rfl) (show wp E (d + 1) m_Plans_walkBackFrom 66 [some (.ref 46), j1, some (.int a2), some (.int (nI a3)), some (.int (nI a4)), some (.int 0)] [] (Hp S) (QV Q) from (hw j1))
set_option maxRecDepth 4000 in
theorem w_Plans_walkBackFrom_66 {E : zX} {d : Nat} {S : St} {a2 : Int32} {a3 : Nat} {a4 : Nat} {a5 : Nat} {Q : St → Prop} (hd : 1 ≤ d) 
    (hw : if (S 3 2) ≤ (nI a5) then (
      k_Plans_walkBackFrom_45 E d S a2 a3 (a4 + 1) Q)
    else (
      if nI 36 ≤ (nI a3) then (
        k_Plans_walkBackFrom_45 E d S a2 a3 (a4 + 1) Q)
      else (
        a5 < 36 ∧
        if (S 48 a5) = (-1) then (
          a4 < 36 ∧
          k_Land_far E (d - 1) S (S 49 a4) (nI a5) (fun x1 S2 =>
          if x1 = 1 then (
            if (nI a5) = a2 then (
              k_Plans_walkBackFrom_130 E d S2 a2 a3 a4 a5 Q)
            else (
              k_Plans_isBarred E (d - 1) S2 (nI a5) (fun x3 S4 =>
              if x3 = 0 then (
                k_Plans_walkBackFrom_130 E d S4 a2 a3 a4 a5 Q)
              else (
                k_Plans_walkBackFrom_66 E d S4 a2 a3 a4 (a5 + 1) Q))))
          else (
            k_Plans_walkBackFrom_66 E d S2 a2 a3 a4 (a5 + 1) Q)))
        else (
          k_Plans_walkBackFrom_66 E d S a2 a3 a4 (a5 + 1) Q)))) :
    k_Plans_walkBackFrom_66 E d S a2 a3 a4 a5 Q := by
  obtain ⟨d, rfl⟩ := Nat.exists_eq_add_of_le' hd
  intro j1
  show wp E (d + 1) m_Plans_walkBackFrom 66 [some (.ref 46), j1, some (.int a2), some (.int (nI a3)), some (.int (nI a4)), some (.int (nI a5))] [] (Hp S) (QV Q)
  refine wp_st (pc' := 69) (L' := [some (.ref 46), j1, some (.int a2), some (.int (nI a3)), some (.int (nI a4)), some (.int (nI a5))]) (st' := [.ref 46, .int (nI a5)]) (h' := Hp S) 2 (fun Z => rfl) ?_
  refine wp_st (pc' := 72) (L' := [some (.ref 46), j1, some (.int a2), some (.int (nI a3)), some (.int (nI a4)), some (.int (nI a5))]) (st' := [.ref 3, .int (nI a5)]) (h' := Hp S) 1 (fun Z => gfR (E := E) sh46 rfl _) ?_
  refine wp_st (pc' := 75) (L' := [some (.ref 46), j1, some (.int a2), some (.int (nI a3)), some (.int (nI a4)), some (.int (nI a5))]) (st' := [.int (S 3 2), .int (nI a5)]) (h' := Hp S) 1 (fun Z => gfI (E := E) sh3 rfl _) ?_
  by_cases hc : (S 3 2) ≤ (nI a5)
  · rw [if_pos hc] at hw
    refine wp_st (pc' := 168) (L' := [some (.ref 46), j1, some (.int a2), some (.int (nI a3)), some (.int (nI a4)), some (.int (nI a5))]) (st' := []) (h' := Hp S) 1 (fun Z => if_pos hc) ?_
    refine wp_st (pc' := 171) (L' := [some (.ref 46), j1, some (.int a2), some (.int (nI a3)), some (.int (nI (a4 + 1))), some (.int (nI a5))]) (st' := []) (h' := Hp S) 1 (fun Z => by rw [← nI_add a4 1]; rfl) ?_
    exact wp_st 1 (fun Z => rfl) (show wp E (d + 1) m_Plans_walkBackFrom 45 [some (.ref 46), j1, some (.int a2), some (.int (nI a3)), some (.int (nI (a4 + 1))), some (.int (nI a5))] [] (Hp S) (QV Q) from (hw j1 (some (.int (nI a5)))))
  · rw [if_neg hc] at hw
    refine wp_st (pc' := 78) (L' := [some (.ref 46), j1, some (.int a2), some (.int (nI a3)), some (.int (nI a4)), some (.int (nI a5))]) (st' := []) (h' := Hp S) 1 (fun Z => if_neg hc) ?_
    refine wp_st (pc' := 81) (L' := [some (.ref 46), j1, some (.int a2), some (.int (nI a3)), some (.int (nI a4)), some (.int (nI a5))]) (st' := [.int 36, .int (nI a3)]) (h' := Hp S) 2 (fun Z => rfl) ?_
    by_cases hc : nI 36 ≤ (nI a3)
    · rw [if_pos hc] at hw
      refine wp_st (pc' := 168) (L' := [some (.ref 46), j1, some (.int a2), some (.int (nI a3)), some (.int (nI a4)), some (.int (nI a5))]) (st' := []) (h' := Hp S) 1 (fun Z => if_pos hc) ?_
      refine wp_st (pc' := 171) (L' := [some (.ref 46), j1, some (.int a2), some (.int (nI a3)), some (.int (nI (a4 + 1))), some (.int (nI a5))]) (st' := []) (h' := Hp S) 1 (fun Z => by rw [← nI_add a4 1]; rfl) ?_
      exact wp_st 1 (fun Z => rfl) (show wp E (d + 1) m_Plans_walkBackFrom 45 [some (.ref 46), j1, some (.int a2), some (.int (nI a3)), some (.int (nI (a4 + 1))), some (.int (nI a5))] [] (Hp S) (QV Q) from (hw j1 (some (.int (nI a5)))))
    · rw [if_neg hc] at hw
      refine wp_st (pc' := 84) (L' := [some (.ref 46), j1, some (.int a2), some (.int (nI a3)), some (.int (nI a4)), some (.int (nI a5))]) (st' := []) (h' := Hp S) 1 (fun Z => if_neg hc) ?_
      refine wp_st (pc' := 85) (L' := [some (.ref 46), j1, some (.int a2), some (.int (nI a3)), some (.int (nI a4)), some (.int (nI a5))]) (st' := [.ref 46]) (h' := Hp S) 1 (fun Z => rfl) ?_
      refine wp_st (pc' := 88) (L' := [some (.ref 46), j1, some (.int a2), some (.int (nI a3)), some (.int (nI a4)), some (.int (nI a5))]) (st' := [.ref 48]) (h' := Hp S) 1 (fun Z => gfR (E := E) sh46 rfl _) ?_
      refine wp_st (pc' := 90) (L' := [some (.ref 46), j1, some (.int a2), some (.int (nI a3)), some (.int (nI a4)), some (.int (nI a5))]) (st' := [.int (nI a5), .ref 48]) (h' := Hp S) 1 (fun Z => rfl) ?_
      obtain ⟨hi, hw⟩ := hw
      refine wp_st (pc' := 91) (L' := [some (.ref 46), j1, some (.int a2), some (.int (nI a3)), some (.int (nI a4)), some (.int (nI a5))]) (st' := [.int (S 48 a5)]) (h' := Hp S) 1 (fun Z => ldN (E := E) sh48 (by decide) hi [] (fun st => Z (d + 1) m_Plans_walkBackFrom 91 [some (.ref 46), j1, some (.int a2), some (.int (nI a3)), some (.int (nI a4)), some (.int (nI a5))] st (Hp S))) ?_
      refine wp_st (pc' := 92) (L' := [some (.ref 46), j1, some (.int a2), some (.int (nI a3)), some (.int (nI a4)), some (.int (nI a5))]) (st' := [.int (-1), .int (S 48 a5)]) (h' := Hp S) 1 (fun Z => congrArg (fun v => Z (d + 1) m_Plans_walkBackFrom 92 [some (.ref 46), j1, some (.int a2), some (.int (nI a3)), some (.int (nI a4)), some (.int (nI a5))] [.int v, .int (S 48 a5)] (Hp S)) (show Int32.ofInt (-1) = (-1) by decide)) ?_
      by_cases hc : (S 48 a5) = (-1)
      · rw [if_pos hc] at hw
        refine wp_st (pc' := 95) (L' := [some (.ref 46), j1, some (.int a2), some (.int (nI a3)), some (.int (nI a4)), some (.int (nI a5))]) (st' := []) (h' := Hp S) 1 (fun Z => if_pos hc) ?_
        refine wp_st (pc' := 96) (L' := [some (.ref 46), j1, some (.int a2), some (.int (nI a3)), some (.int (nI a4)), some (.int (nI a5))]) (st' := [.ref 46]) (h' := Hp S) 1 (fun Z => rfl) ?_
        refine wp_st (pc' := 99) (L' := [some (.ref 46), j1, some (.int a2), some (.int (nI a3)), some (.int (nI a4)), some (.int (nI a5))]) (st' := [.ref 3]) (h' := Hp S) 1 (fun Z => gfR (E := E) sh46 rfl _) ?_
        refine wp_st (pc' := 100) (L' := [some (.ref 46), j1, some (.int a2), some (.int (nI a3)), some (.int (nI a4)), some (.int (nI a5))]) (st' := [.ref 46, .ref 3]) (h' := Hp S) 1 (fun Z => rfl) ?_
        refine wp_st (pc' := 103) (L' := [some (.ref 46), j1, some (.int a2), some (.int (nI a3)), some (.int (nI a4)), some (.int (nI a5))]) (st' := [.ref 49, .ref 3]) (h' := Hp S) 1 (fun Z => gfR (E := E) sh46 rfl _) ?_
        refine wp_st (pc' := 105) (L' := [some (.ref 46), j1, some (.int a2), some (.int (nI a3)), some (.int (nI a4)), some (.int (nI a5))]) (st' := [.int (nI a4), .ref 49, .ref 3]) (h' := Hp S) 1 (fun Z => rfl) ?_
        obtain ⟨hi, hw⟩ := hw
        refine wp_st (pc' := 106) (L' := [some (.ref 46), j1, some (.int a2), some (.int (nI a3)), some (.int (nI a4)), some (.int (nI a5))]) (st' := [.int (S 49 a4), .ref 3]) (h' := Hp S) 1 (fun Z => ldN (E := E) sh49 (by decide) hi [.ref 3] (fun st => Z (d + 1) m_Plans_walkBackFrom 106 [some (.ref 46), j1, some (.int a2), some (.int (nI a3)), some (.int (nI a4)), some (.int (nI a5))] st (Hp S))) ?_
        refine wp_st (pc' := 108) (L' := [some (.ref 46), j1, some (.int a2), some (.int (nI a3)), some (.int (nI a4)), some (.int (nI a5))]) (st' := [.int (nI a5), .int (S 49 a4), .ref 3]) (h' := Hp S) 1 (fun Z => rfl) ?_
        refine wp_call (pc' := 111) (rest := []) (fun Z => rfl) (isO_of sh3) hw ?_
        rintro o h1 ⟨x1, S2, rfl, rfl, hw⟩
        refine ⟨_, rfl, ?_⟩
        show wp E (d + 1) m_Plans_walkBackFrom 111 [some (.ref 46), j1, some (.int a2), some (.int (nI a3)), some (.int (nI a4)), some (.int (nI a5))] [.int x1] (Hp S2) (QV Q)
        refine wp_st (pc' := 112) (L' := [some (.ref 46), j1, some (.int a2), some (.int (nI a3)), some (.int (nI a4)), some (.int (nI a5))]) (st' := [.int 1, .int x1]) (h' := Hp S2) 1 (fun Z => rfl) ?_
        by_cases hc : x1 = 1
        · rw [if_pos hc] at hw
          refine wp_st (pc' := 115) (L' := [some (.ref 46), j1, some (.int a2), some (.int (nI a3)), some (.int (nI a4)), some (.int (nI a5))]) (st' := []) (h' := Hp S2) 1 (fun Z => if_pos hc) ?_
          refine wp_st (pc' := 118) (L' := [some (.ref 46), j1, some (.int a2), some (.int (nI a3)), some (.int (nI a4)), some (.int (nI a5))]) (st' := [.int a2, .int (nI a5)]) (h' := Hp S2) 2 (fun Z => rfl) ?_
          by_cases hc : (nI a5) = a2
          · rw [if_pos hc] at hw
            refine wp_st (pc' := 130) (L' := [some (.ref 46), j1, some (.int a2), some (.int (nI a3)), some (.int (nI a4)), some (.int (nI a5))]) (st' := []) (h' := Hp S2) 1 (fun Z => if_pos hc) ?_
            exact (show wp E (d + 1) m_Plans_walkBackFrom 130 [some (.ref 46), j1, some (.int a2), some (.int (nI a3)), some (.int (nI a4)), some (.int (nI a5))] [] (Hp S2) (QV Q) from (hw j1))
          · rw [if_neg hc] at hw
            refine wp_st (pc' := 121) (L' := [some (.ref 46), j1, some (.int a2), some (.int (nI a3)), some (.int (nI a4)), some (.int (nI a5))]) (st' := []) (h' := Hp S2) 1 (fun Z => if_neg hc) ?_
            refine wp_st (pc' := 124) (L' := [some (.ref 46), j1, some (.int a2), some (.int (nI a3)), some (.int (nI a4)), some (.int (nI a5))]) (st' := [.int (nI a5), .ref 46]) (h' := Hp S2) 2 (fun Z => rfl) ?_
            refine wp_call (pc' := 127) (rest := []) (fun Z => rfl) (isO_of sh46) hw ?_
            rintro o h1 ⟨x3, S4, rfl, rfl, hw⟩
            refine ⟨_, rfl, ?_⟩
            show wp E (d + 1) m_Plans_walkBackFrom 127 [some (.ref 46), j1, some (.int a2), some (.int (nI a3)), some (.int (nI a4)), some (.int (nI a5))] [.int x3] (Hp S4) (QV Q)
            by_cases hc : x3 = 0
            · rw [if_pos hc] at hw
              refine wp_st (pc' := 130) (L' := [some (.ref 46), j1, some (.int a2), some (.int (nI a3)), some (.int (nI a4)), some (.int (nI a5))]) (st' := []) (h' := Hp S4) 1 (fun Z => if_pos hc) ?_
              exact (show wp E (d + 1) m_Plans_walkBackFrom 130 [some (.ref 46), j1, some (.int a2), some (.int (nI a3)), some (.int (nI a4)), some (.int (nI a5))] [] (Hp S4) (QV Q) from (hw j1))
            · rw [if_neg hc] at hw
              refine wp_st (pc' := 162) (L' := [some (.ref 46), j1, some (.int a2), some (.int (nI a3)), some (.int (nI a4)), some (.int (nI a5))]) (st' := []) (h' := Hp S4) 1 (fun Z => if_neg hc) ?_
              refine wp_st (pc' := 165) (L' := [some (.ref 46), j1, some (.int a2), some (.int (nI a3)), some (.int (nI a4)), some (.int (nI (a5 + 1)))]) (st' := []) (h' := Hp S4) 1 (fun Z => by rw [← nI_add a5 1]; rfl) ?_
              exact wp_st 1 (fun Z => rfl) (show wp E (d + 1) m_Plans_walkBackFrom 66 [some (.ref 46), j1, some (.int a2), some (.int (nI a3)), some (.int (nI a4)), some (.int (nI (a5 + 1)))] [] (Hp S4) (QV Q) from (hw j1))
        · rw [if_neg hc] at hw
          refine wp_st (pc' := 162) (L' := [some (.ref 46), j1, some (.int a2), some (.int (nI a3)), some (.int (nI a4)), some (.int (nI a5))]) (st' := []) (h' := Hp S2) 1 (fun Z => if_neg hc) ?_
          refine wp_st (pc' := 165) (L' := [some (.ref 46), j1, some (.int a2), some (.int (nI a3)), some (.int (nI a4)), some (.int (nI (a5 + 1)))]) (st' := []) (h' := Hp S2) 1 (fun Z => by rw [← nI_add a5 1]; rfl) ?_
          exact wp_st 1 (fun Z => rfl) (show wp E (d + 1) m_Plans_walkBackFrom 66 [some (.ref 46), j1, some (.int a2), some (.int (nI a3)), some (.int (nI a4)), some (.int (nI (a5 + 1)))] [] (Hp S2) (QV Q) from (hw j1))
      · rw [if_neg hc] at hw
        refine wp_st (pc' := 162) (L' := [some (.ref 46), j1, some (.int a2), some (.int (nI a3)), some (.int (nI a4)), some (.int (nI a5))]) (st' := []) (h' := Hp S) 1 (fun Z => if_neg hc) ?_
        refine wp_st (pc' := 165) (L' := [some (.ref 46), j1, some (.int a2), some (.int (nI a3)), some (.int (nI a4)), some (.int (nI (a5 + 1)))]) (st' := []) (h' := Hp S) 1 (fun Z => by rw [← nI_add a5 1]; rfl) ?_
        exact wp_st 1 (fun Z => rfl) (show wp E (d + 1) m_Plans_walkBackFrom 66 [some (.ref 46), j1, some (.int a2), some (.int (nI a3)), some (.int (nI a4)), some (.int (nI (a5 + 1)))] [] (Hp S) (QV Q) from (hw j1))
set_option maxRecDepth 4000 in
theorem w_Plans_walkBackFrom_130 {E : zX} {d : Nat} {S : St} {a2 : Int32} {a3 : Nat} {a4 : Nat} {a5 : Nat} {Q : St → Prop} (hd : 1 ≤ d) 
    (hw : a4 < 36 ∧
    ∃ m1 : Nat, (S 49 a4) = nI m1 ∧ m1 < 36 ∧
    a5 < 36 ∧
    ∀ S2, S2 = up S 48 a5 ((S 48 m1) + (1 : Int32)) →
    a3 < 36 ∧
    ∀ S3, S3 = up S2 49 a3 (nI a5) →
    k_Plans_walkBackFrom_66 E d S3 a2 (a3 + 1) a4 (a5 + 1) Q) :
    k_Plans_walkBackFrom_130 E d S a2 a3 a4 a5 Q := by
  obtain ⟨d, rfl⟩ := Nat.exists_eq_add_of_le' hd
  intro j1
  show wp E (d + 1) m_Plans_walkBackFrom 130 [some (.ref 46), j1, some (.int a2), some (.int (nI a3)), some (.int (nI a4)), some (.int (nI a5))] [] (Hp S) (QV Q)
  refine wp_st (pc' := 131) (L' := [some (.ref 46), j1, some (.int a2), some (.int (nI a3)), some (.int (nI a4)), some (.int (nI a5))]) (st' := [.ref 46]) (h' := Hp S) 1 (fun Z => rfl) ?_
  refine wp_st (pc' := 134) (L' := [some (.ref 46), j1, some (.int a2), some (.int (nI a3)), some (.int (nI a4)), some (.int (nI a5))]) (st' := [.ref 48]) (h' := Hp S) 1 (fun Z => gfR (E := E) sh46 rfl _) ?_
  refine wp_st (pc' := 137) (L' := [some (.ref 46), j1, some (.int a2), some (.int (nI a3)), some (.int (nI a4)), some (.int (nI a5))]) (st' := [.ref 46, .int (nI a5), .ref 48]) (h' := Hp S) 2 (fun Z => rfl) ?_
  refine wp_st (pc' := 140) (L' := [some (.ref 46), j1, some (.int a2), some (.int (nI a3)), some (.int (nI a4)), some (.int (nI a5))]) (st' := [.ref 48, .int (nI a5), .ref 48]) (h' := Hp S) 1 (fun Z => gfR (E := E) sh46 rfl _) ?_
  refine wp_st (pc' := 141) (L' := [some (.ref 46), j1, some (.int a2), some (.int (nI a3)), some (.int (nI a4)), some (.int (nI a5))]) (st' := [.ref 46, .ref 48, .int (nI a5), .ref 48]) (h' := Hp S) 1 (fun Z => rfl) ?_
  refine wp_st (pc' := 144) (L' := [some (.ref 46), j1, some (.int a2), some (.int (nI a3)), some (.int (nI a4)), some (.int (nI a5))]) (st' := [.ref 49, .ref 48, .int (nI a5), .ref 48]) (h' := Hp S) 1 (fun Z => gfR (E := E) sh46 rfl _) ?_
  refine wp_st (pc' := 146) (L' := [some (.ref 46), j1, some (.int a2), some (.int (nI a3)), some (.int (nI a4)), some (.int (nI a5))]) (st' := [.int (nI a4), .ref 49, .ref 48, .int (nI a5), .ref 48]) (h' := Hp S) 1 (fun Z => rfl) ?_
  obtain ⟨hi, hw⟩ := hw
  refine wp_st (pc' := 147) (L' := [some (.ref 46), j1, some (.int a2), some (.int (nI a3)), some (.int (nI a4)), some (.int (nI a5))]) (st' := [.int (S 49 a4), .ref 48, .int (nI a5), .ref 48]) (h' := Hp S) 1 (fun Z => ldN (E := E) sh49 (by decide) hi [.ref 48, .int (nI a5), .ref 48] (fun st => Z (d + 1) m_Plans_walkBackFrom 147 [some (.ref 46), j1, some (.int a2), some (.int (nI a3)), some (.int (nI a4)), some (.int (nI a5))] st (Hp S))) ?_
  obtain ⟨m1, em, hi, hw⟩ := hw
  refine wp_st (pc' := 148) (L' := [some (.ref 46), j1, some (.int a2), some (.int (nI a3)), some (.int (nI a4)), some (.int (nI a5))]) (st' := [.int (S 48 m1), .int (nI a5), .ref 48]) (h' := Hp S) 1 (fun Z => (congrArg (fun v => zit E 1 Z (d + 1) m_Plans_walkBackFrom 147 [some (.ref 46), j1, some (.int a2), some (.int (nI a3)), some (.int (nI a4)), some (.int (nI a5))] [.int v, .ref 48, .int (nI a5), .ref 48] (Hp S)) em).trans (ldN (E := E) sh48 (by decide) hi [.int (nI a5), .ref 48] (fun st => Z (d + 1) m_Plans_walkBackFrom 148 [some (.ref 46), j1, some (.int a2), some (.int (nI a3)), some (.int (nI a4)), some (.int (nI a5))] st (Hp S)))) ?_
  refine wp_st (pc' := 150) (L' := [some (.ref 46), j1, some (.int a2), some (.int (nI a3)), some (.int (nI a4)), some (.int (nI a5))]) (st' := [.int ((S 48 m1) + (1 : Int32)), .int (nI a5), .ref 48]) (h' := Hp S) 2 (fun Z => rfl) ?_
  obtain ⟨hi, hw⟩ := hw
  have hw := hw _ rfl
  refine wp_st (pc' := 151) (L' := [some (.ref 46), j1, some (.int a2), some (.int (nI a3)), some (.int (nI a4)), some (.int (nI a5))]) (st' := []) (h' := Hp (up S 48 a5 ((S 48 m1) + (1 : Int32)))) 1 (fun Z => stN sh48 (by decide) hi _ _) ?_
  generalize up S 48 a5 ((S 48 m1) + (1 : Int32)) = S2 at hw ⊢
  refine wp_st (pc' := 152) (L' := [some (.ref 46), j1, some (.int a2), some (.int (nI a3)), some (.int (nI a4)), some (.int (nI a5))]) (st' := [.ref 46]) (h' := Hp S2) 1 (fun Z => rfl) ?_
  refine wp_st (pc' := 155) (L' := [some (.ref 46), j1, some (.int a2), some (.int (nI a3)), some (.int (nI a4)), some (.int (nI a5))]) (st' := [.ref 49]) (h' := Hp S2) 1 (fun Z => gfR (E := E) sh46 rfl _) ?_
  refine wp_st (pc' := 158) (L' := [some (.ref 46), j1, some (.int a2), some (.int (nI a3)), some (.int (nI a4)), some (.int (nI a5))]) (st' := [.int (nI a5), .int (nI a3), .ref 49]) (h' := Hp S2) 2 (fun Z => rfl) ?_
  obtain ⟨hi, hw⟩ := hw
  have hw := hw _ rfl
  refine wp_st (pc' := 159) (L' := [some (.ref 46), j1, some (.int a2), some (.int (nI a3)), some (.int (nI a4)), some (.int (nI a5))]) (st' := []) (h' := Hp (up S2 49 a3 (nI a5))) 1 (fun Z => stN sh49 (by decide) hi _ _) ?_
  generalize up S2 49 a3 (nI a5) = S3 at hw ⊢
  refine wp_st (pc' := 162) (L' := [some (.ref 46), j1, some (.int a2), some (.int (nI (a3 + 1))), some (.int (nI a4)), some (.int (nI a5))]) (st' := []) (h' := Hp S3) 1 (fun Z => by rw [← nI_add a3 1]; rfl) ?_
  refine wp_st (pc' := 165) (L' := [some (.ref 46), j1, some (.int a2), some (.int (nI (a3 + 1))), some (.int (nI a4)), some (.int (nI (a5 + 1)))]) (st' := []) (h' := Hp S3) 1 (fun Z => by rw [← nI_add a5 1]; rfl) ?_
  exact wp_st 1 (fun Z => rfl) (show wp E (d + 1) m_Plans_walkBackFrom 66 [some (.ref 46), j1, some (.int a2), some (.int (nI (a3 + 1))), some (.int (nI a4)), some (.int (nI (a5 + 1)))] [] (Hp S3) (QV Q) from (hw j1))
set_option maxRecDepth 4000 in
theorem w_Plans_firstStep {E : zX} {d : Nat} {S : St} {a1 : Nat} {a2 : Nat} {Q : Int32 → St → Prop} (hd : 1 ≤ d) 
    (hw : k_Plans_stepsBetween E (d - 1) S (nI a1) (nI a2) (fun x1 S2 =>
    if 1 ≤ x1 then (
      k_Plans_firstStep_17 E d S2 a1 x1 0 Q)
    else (
      Q ((-1) : Int32) S2))) :
    k_Plans_firstStep E d S (nI a1) (nI a2) Q := by
  obtain ⟨d, rfl⟩ := Nat.exists_eq_add_of_le' hd
  show wp E (d + 1) m_Plans_firstStep 0 [some (.ref 46), some (.int (nI a1)), some (.int (nI a2)), none, none] [] (Hp S) (QI Q)
  refine wp_st (pc' := 3) (L' := [some (.ref 46), some (.int (nI a1)), some (.int (nI a2)), none, none]) (st' := [.int (nI a2), .int (nI a1), .ref 46]) (h' := Hp S) 3 (fun Z => rfl) ?_
  refine wp_call (pc' := 6) (rest := []) (fun Z => rfl) (isO_of sh46) hw ?_
  rintro o h1 ⟨x1, S2, rfl, rfl, hw⟩
  refine ⟨_, rfl, ?_⟩
  show wp E (d + 1) m_Plans_firstStep 6 [some (.ref 46), some (.int (nI a1)), some (.int (nI a2)), none, none] [.int x1] (Hp S2) (QI Q)
  refine wp_st (pc' := 9) (L' := [some (.ref 46), some (.int (nI a1)), some (.int (nI a2)), some (.int x1), none]) (st' := [.int 1, .int x1]) (h' := Hp S2) 3 (fun Z => rfl) ?_
  by_cases hc : 1 ≤ x1
  · rw [if_pos hc] at hw
    refine wp_st (pc' := 14) (L' := [some (.ref 46), some (.int (nI a1)), some (.int (nI a2)), some (.int x1), none]) (st' := []) (h' := Hp S2) 1 (fun Z => if_pos hc) ?_
    exact wp_st 2 (fun Z => rfl) (show wp E (d + 1) m_Plans_firstStep 17 [some (.ref 46), some (.int (nI a1)), some (.int (nI a2)), some (.int x1), some (.int 0)] [] (Hp S2) (QI Q) from (hw (some (.int (nI a2)))))
  · rw [if_neg hc] at hw
    refine wp_st (pc' := 12) (L' := [some (.ref 46), some (.int (nI a1)), some (.int (nI a2)), some (.int x1), none]) (st' := []) (h' := Hp S2) 1 (fun Z => if_neg hc) ?_
    refine wp_st (pc' := 13) (L' := [some (.ref 46), some (.int (nI a1)), some (.int (nI a2)), some (.int x1), none]) (st' := [.int (-1)]) (h' := Hp S2) 1 (fun Z => congrArg (fun v => Z (d + 1) m_Plans_firstStep 13 [some (.ref 46), some (.int (nI a1)), some (.int (nI a2)), some (.int x1), none] [.int v] (Hp S2)) (show Int32.ofInt (-1) = (-1) by decide)) ?_
    exact wp_ret (fun Z => rfl) ⟨_, _, rfl, rfl, hw⟩
set_option maxRecDepth 4000 in
theorem w_Plans_firstStep_17 {E : zX} {d : Nat} {S : St} {a1 : Nat} {a3 : Int32} {a4 : Nat} {Q : Int32 → St → Prop} (hd : 1 ≤ d) 
    (hw : if (S 3 2) ≤ (nI a4) then (
      Q ((-1) : Int32) S)
    else (
      k_Land_far E (d - 1) S (nI a4) (nI a1) (fun x1 S2 =>
      if x1 = 1 then (
        a4 < 36 ∧
        if (S2 48 a4) = (a3 - (1 : Int32)) then (
          Q (nI a4) S2)
        else (
          k_Plans_firstStep_17 E d S2 a1 a3 (a4 + 1) Q))
      else (
        k_Plans_firstStep_17 E d S2 a1 a3 (a4 + 1) Q)))) :
    k_Plans_firstStep_17 E d S a1 a3 a4 Q := by
  obtain ⟨d, rfl⟩ := Nat.exists_eq_add_of_le' hd
  intro j2
  show wp E (d + 1) m_Plans_firstStep 17 [some (.ref 46), some (.int (nI a1)), j2, some (.int a3), some (.int (nI a4))] [] (Hp S) (QI Q)
  refine wp_st (pc' := 20) (L' := [some (.ref 46), some (.int (nI a1)), j2, some (.int a3), some (.int (nI a4))]) (st' := [.ref 46, .int (nI a4)]) (h' := Hp S) 2 (fun Z => rfl) ?_
  refine wp_st (pc' := 23) (L' := [some (.ref 46), some (.int (nI a1)), j2, some (.int a3), some (.int (nI a4))]) (st' := [.ref 3, .int (nI a4)]) (h' := Hp S) 1 (fun Z => gfR (E := E) sh46 rfl _) ?_
  refine wp_st (pc' := 26) (L' := [some (.ref 46), some (.int (nI a1)), j2, some (.int a3), some (.int (nI a4))]) (st' := [.int (S 3 2), .int (nI a4)]) (h' := Hp S) 1 (fun Z => gfI (E := E) sh3 rfl _) ?_
  by_cases hc : (S 3 2) ≤ (nI a4)
  · rw [if_pos hc] at hw
    refine wp_st (pc' := 65) (L' := [some (.ref 46), some (.int (nI a1)), j2, some (.int a3), some (.int (nI a4))]) (st' := []) (h' := Hp S) 1 (fun Z => if_pos hc) ?_
    refine wp_st (pc' := 66) (L' := [some (.ref 46), some (.int (nI a1)), j2, some (.int a3), some (.int (nI a4))]) (st' := [.int (-1)]) (h' := Hp S) 1 (fun Z => congrArg (fun v => Z (d + 1) m_Plans_firstStep 66 [some (.ref 46), some (.int (nI a1)), j2, some (.int a3), some (.int (nI a4))] [.int v] (Hp S)) (show Int32.ofInt (-1) = (-1) by decide)) ?_
    exact wp_ret (fun Z => rfl) ⟨_, _, rfl, rfl, hw⟩
  · rw [if_neg hc] at hw
    refine wp_st (pc' := 29) (L' := [some (.ref 46), some (.int (nI a1)), j2, some (.int a3), some (.int (nI a4))]) (st' := []) (h' := Hp S) 1 (fun Z => if_neg hc) ?_
    refine wp_st (pc' := 30) (L' := [some (.ref 46), some (.int (nI a1)), j2, some (.int a3), some (.int (nI a4))]) (st' := [.ref 46]) (h' := Hp S) 1 (fun Z => rfl) ?_
    refine wp_st (pc' := 33) (L' := [some (.ref 46), some (.int (nI a1)), j2, some (.int a3), some (.int (nI a4))]) (st' := [.ref 3]) (h' := Hp S) 1 (fun Z => gfR (E := E) sh46 rfl _) ?_
    refine wp_st (pc' := 36) (L' := [some (.ref 46), some (.int (nI a1)), j2, some (.int a3), some (.int (nI a4))]) (st' := [.int (nI a1), .int (nI a4), .ref 3]) (h' := Hp S) 2 (fun Z => rfl) ?_
    refine wp_call (pc' := 39) (rest := []) (fun Z => rfl) (isO_of sh3) hw ?_
    rintro o h1 ⟨x1, S2, rfl, rfl, hw⟩
    refine ⟨_, rfl, ?_⟩
    show wp E (d + 1) m_Plans_firstStep 39 [some (.ref 46), some (.int (nI a1)), j2, some (.int a3), some (.int (nI a4))] [.int x1] (Hp S2) (QI Q)
    refine wp_st (pc' := 40) (L' := [some (.ref 46), some (.int (nI a1)), j2, some (.int a3), some (.int (nI a4))]) (st' := [.int 1, .int x1]) (h' := Hp S2) 1 (fun Z => rfl) ?_
    by_cases hc : x1 = 1
    · rw [if_pos hc] at hw
      refine wp_st (pc' := 43) (L' := [some (.ref 46), some (.int (nI a1)), j2, some (.int a3), some (.int (nI a4))]) (st' := []) (h' := Hp S2) 1 (fun Z => if_pos hc) ?_
      refine wp_st (pc' := 44) (L' := [some (.ref 46), some (.int (nI a1)), j2, some (.int a3), some (.int (nI a4))]) (st' := [.ref 46]) (h' := Hp S2) 1 (fun Z => rfl) ?_
      refine wp_st (pc' := 47) (L' := [some (.ref 46), some (.int (nI a1)), j2, some (.int a3), some (.int (nI a4))]) (st' := [.ref 48]) (h' := Hp S2) 1 (fun Z => gfR (E := E) sh46 rfl _) ?_
      refine wp_st (pc' := 49) (L' := [some (.ref 46), some (.int (nI a1)), j2, some (.int a3), some (.int (nI a4))]) (st' := [.int (nI a4), .ref 48]) (h' := Hp S2) 1 (fun Z => rfl) ?_
      obtain ⟨hi, hw⟩ := hw
      refine wp_st (pc' := 50) (L' := [some (.ref 46), some (.int (nI a1)), j2, some (.int a3), some (.int (nI a4))]) (st' := [.int (S2 48 a4)]) (h' := Hp S2) 1 (fun Z => ldN (E := E) sh48 (by decide) hi [] (fun st => Z (d + 1) m_Plans_firstStep 50 [some (.ref 46), some (.int (nI a1)), j2, some (.int a3), some (.int (nI a4))] st (Hp S2))) ?_
      refine wp_st (pc' := 53) (L' := [some (.ref 46), some (.int (nI a1)), j2, some (.int a3), some (.int (nI a4))]) (st' := [.int (a3 - (1 : Int32)), .int (S2 48 a4)]) (h' := Hp S2) 3 (fun Z => rfl) ?_
      by_cases hc : (S2 48 a4) = (a3 - (1 : Int32))
      · rw [if_pos hc] at hw
        refine wp_st (pc' := 56) (L' := [some (.ref 46), some (.int (nI a1)), j2, some (.int a3), some (.int (nI a4))]) (st' := []) (h' := Hp S2) 1 (fun Z => if_pos hc) ?_
        refine wp_st (pc' := 58) (L' := [some (.ref 46), some (.int (nI a1)), j2, some (.int a3), some (.int (nI a4))]) (st' := [.int (nI a4)]) (h' := Hp S2) 1 (fun Z => rfl) ?_
        exact wp_ret (fun Z => rfl) ⟨_, _, rfl, rfl, hw⟩
      · rw [if_neg hc] at hw
        refine wp_st (pc' := 59) (L' := [some (.ref 46), some (.int (nI a1)), j2, some (.int a3), some (.int (nI a4))]) (st' := []) (h' := Hp S2) 1 (fun Z => if_neg hc) ?_
        refine wp_st (pc' := 62) (L' := [some (.ref 46), some (.int (nI a1)), j2, some (.int a3), some (.int (nI (a4 + 1)))]) (st' := []) (h' := Hp S2) 1 (fun Z => by rw [← nI_add a4 1]; rfl) ?_
        exact wp_st 1 (fun Z => rfl) (show wp E (d + 1) m_Plans_firstStep 17 [some (.ref 46), some (.int (nI a1)), j2, some (.int a3), some (.int (nI (a4 + 1)))] [] (Hp S2) (QI Q) from (hw j2))
    · rw [if_neg hc] at hw
      refine wp_st (pc' := 59) (L' := [some (.ref 46), some (.int (nI a1)), j2, some (.int a3), some (.int (nI a4))]) (st' := []) (h' := Hp S2) 1 (fun Z => if_neg hc) ?_
      refine wp_st (pc' := 62) (L' := [some (.ref 46), some (.int (nI a1)), j2, some (.int a3), some (.int (nI (a4 + 1)))]) (st' := []) (h' := Hp S2) 1 (fun Z => by rw [← nI_add a4 1]; rfl) ?_
      exact wp_st 1 (fun Z => rfl) (show wp E (d + 1) m_Plans_firstStep 17 [some (.ref 46), some (.int (nI a1)), j2, some (.int a3), some (.int (nI (a4 + 1)))] [] (Hp S2) (QI Q) from (hw j2))
set_option maxRecDepth 4000 in
theorem w_PutBy_choose {E : zX} {d : Nat} {S : St}  {Q : St → Prop} (hd : 1 ≤ d) 
    (hw : k_PutBy_sortPeople E (d - 1) S (fun S2 =>
    k_PutBy_sortBalls E (d - 1) S2 (fun S4 =>
    ∀ S5, S5 = up S4 50 0 0 →
    ∀ S6, S6 = up S5 50 1 0 →
    k_PutBy_crossPeople E (d - 1) S6 (fun x7 S8 =>
    k_PutBy_whiteBalls E (d - 1) S8 (fun x9 S10 =>
    k_PutBy_bestOf E (d - 1) S10 x7 x9 (fun x11 S12 =>
    k_PutBy_choose_38 E d S12 x7 x9 x11 0 Q)))))) :
    k_PutBy_choose E d S Q := by
  obtain ⟨d, rfl⟩ := Nat.exists_eq_add_of_le' hd
  show wp E (d + 1) m_PutBy_choose 0 [some (.ref 50), none, none, none, none, none] [] (Hp S) (QV Q)
  refine wp_st (pc' := 1) (L' := [some (.ref 50), none, none, none, none, none]) (st' := [.ref 50]) (h' := Hp S) 1 (fun Z => rfl) ?_
  refine wp_call (pc' := 4) (rest := []) (fun Z => rfl) (isO_of sh50) hw ?_
  rintro o h1 ⟨S2, rfl, rfl, hw⟩
  refine ⟨_, rfl, ?_⟩
  show wp E (d + 1) m_PutBy_choose 4 [some (.ref 50), none, none, none, none, none] [] (Hp S2) (QV Q)
  refine wp_st (pc' := 5) (L' := [some (.ref 50), none, none, none, none, none]) (st' := [.ref 50]) (h' := Hp S2) 1 (fun Z => rfl) ?_
  refine wp_call (pc' := 8) (rest := []) (fun Z => rfl) (isO_of sh50) hw ?_
  rintro o h1 ⟨S4, rfl, rfl, hw⟩
  refine ⟨_, rfl, ?_⟩
  show wp E (d + 1) m_PutBy_choose 8 [some (.ref 50), none, none, none, none, none] [] (Hp S4) (QV Q)
  refine wp_st (pc' := 10) (L' := [some (.ref 50), none, none, none, none, none]) (st' := [.int 0, .ref 50]) (h' := Hp S4) 2 (fun Z => rfl) ?_
  have hw := hw _ rfl
  refine wp_st (pc' := 13) (L' := [some (.ref 50), none, none, none, none, none]) (st' := []) (h' := Hp (up S4 50 0 0)) 1 (fun Z => pfI sh50 rfl (Nat.le_of_ble_eq_true rfl) rfl _) ?_
  generalize up S4 50 0 0 = S5 at hw ⊢
  refine wp_st (pc' := 15) (L' := [some (.ref 50), none, none, none, none, none]) (st' := [.int 0, .ref 50]) (h' := Hp S5) 2 (fun Z => rfl) ?_
  have hw := hw _ rfl
  refine wp_st (pc' := 18) (L' := [some (.ref 50), none, none, none, none, none]) (st' := []) (h' := Hp (up S5 50 1 0)) 1 (fun Z => pfI sh50 rfl (Nat.le_of_ble_eq_true rfl) rfl _) ?_
  generalize up S5 50 1 0 = S6 at hw ⊢
  refine wp_st (pc' := 19) (L' := [some (.ref 50), none, none, none, none, none]) (st' := [.ref 50]) (h' := Hp S6) 1 (fun Z => rfl) ?_
  refine wp_call (pc' := 22) (rest := []) (fun Z => rfl) (isO_of sh50) hw ?_
  rintro o h1 ⟨x7, S8, rfl, rfl, hw⟩
  refine ⟨_, rfl, ?_⟩
  show wp E (d + 1) m_PutBy_choose 22 [some (.ref 50), none, none, none, none, none] [.int x7] (Hp S8) (QV Q)
  refine wp_st (pc' := 24) (L' := [some (.ref 50), some (.int x7), none, none, none, none]) (st' := [.ref 50]) (h' := Hp S8) 2 (fun Z => rfl) ?_
  refine wp_call (pc' := 27) (rest := []) (fun Z => rfl) (isO_of sh50) hw ?_
  rintro o h1 ⟨x9, S10, rfl, rfl, hw⟩
  refine ⟨_, rfl, ?_⟩
  show wp E (d + 1) m_PutBy_choose 27 [some (.ref 50), some (.int x7), none, none, none, none] [.int x9] (Hp S10) (QV Q)
  refine wp_st (pc' := 31) (L' := [some (.ref 50), some (.int x7), some (.int x9), none, none, none]) (st' := [.int x9, .int x7, .ref 50]) (h' := Hp S10) 4 (fun Z => rfl) ?_
  refine wp_call (pc' := 34) (rest := []) (fun Z => rfl) (isO_of sh50) hw ?_
  rintro o h1 ⟨x11, S12, rfl, rfl, hw⟩
  refine ⟨_, rfl, ?_⟩
  show wp E (d + 1) m_PutBy_choose 34 [some (.ref 50), some (.int x7), some (.int x9), none, none, none] [.int x11] (Hp S12) (QV Q)
  exact wp_st 3 (fun Z => rfl) (show wp E (d + 1) m_PutBy_choose 38 [some (.ref 50), some (.int x7), some (.int x9), some (.int x11), some (.int 0), none] [] (Hp S12) (QV Q) from (hw none))
set_option maxRecDepth 4000 in
theorem w_PutBy_choose_38 {E : zX} {d : Nat} {S : St} {a1 : Int32} {a2 : Int32} {a3 : Int32} {a4 : Nat} {Q : St → Prop} (hd : 1 ≤ d) 
    (hw : if (S 3 3) ≤ (nI a4) then (
      Q S)
    else (
      a4 < 7 ∧
      ∀ S1, S1 = up S 51 a4 (-1) →
      if (a1 &&& (bt a4)) = 0 then (
        k_PutBy_choose_38 E d S1 a1 a2 a3 (a4 + 1) Q)
      else (
        k_PutBy_firstFor E (d - 1) S1 (nI a4) (a1 &&& ((bt a4) ^^^ ((-1) : Int32))) a2 a3 (fun x2 S3 =>
        if x2 = (-1) then (
          k_PutBy_choose_38 E d S3 (a1 &&& ((bt a4) ^^^ ((-1) : Int32))) a2 a3 (a4 + 1) Q)
        else (
          k_PutBy_take E (d - 1) S3 (nI a4) x2 (fun S5 =>
          k_PutBy_worthOf E (d - 1) S5 x2 (fun x6 S7 =>
          k_PutBy_choose_38 E d S7 (a1 &&& ((bt a4) ^^^ ((-1) : Int32))) (a2 &&& (((1 : Int32) <<< (x2 &&& 31)) ^^^ ((-1) : Int32))) (a3 - x6) (a4 + 1) Q))))))) :
    k_PutBy_choose_38 E d S a1 a2 a3 a4 Q := by
  obtain ⟨d, rfl⟩ := Nat.exists_eq_add_of_le' hd
  intro j5
  show wp E (d + 1) m_PutBy_choose 38 [some (.ref 50), some (.int a1), some (.int a2), some (.int a3), some (.int (nI a4)), j5] [] (Hp S) (QV Q)
  refine wp_st (pc' := 41) (L' := [some (.ref 50), some (.int a1), some (.int a2), some (.int a3), some (.int (nI a4)), j5]) (st' := [.ref 50, .int (nI a4)]) (h' := Hp S) 2 (fun Z => rfl) ?_
  refine wp_st (pc' := 44) (L' := [some (.ref 50), some (.int a1), some (.int a2), some (.int a3), some (.int (nI a4)), j5]) (st' := [.ref 3, .int (nI a4)]) (h' := Hp S) 1 (fun Z => gfR (E := E) sh50 rfl _) ?_
  refine wp_st (pc' := 47) (L' := [some (.ref 50), some (.int a1), some (.int a2), some (.int a3), some (.int (nI a4)), j5]) (st' := [.int (S 3 3), .int (nI a4)]) (h' := Hp S) 1 (fun Z => gfI (E := E) sh3 rfl _) ?_
  by_cases hc : (S 3 3) ≤ (nI a4)
  · rw [if_pos hc] at hw
    refine wp_st (pc' := 125) (L' := [some (.ref 50), some (.int a1), some (.int a2), some (.int a3), some (.int (nI a4)), j5]) (st' := []) (h' := Hp S) 1 (fun Z => if_pos hc) ?_
    exact wp_ret (fun Z => rfl) ⟨_, rfl, rfl, hw⟩
  · rw [if_neg hc] at hw
    refine wp_st (pc' := 50) (L' := [some (.ref 50), some (.int a1), some (.int a2), some (.int a3), some (.int (nI a4)), j5]) (st' := []) (h' := Hp S) 1 (fun Z => if_neg hc) ?_
    refine wp_st (pc' := 51) (L' := [some (.ref 50), some (.int a1), some (.int a2), some (.int a3), some (.int (nI a4)), j5]) (st' := [.ref 50]) (h' := Hp S) 1 (fun Z => rfl) ?_
    refine wp_st (pc' := 54) (L' := [some (.ref 50), some (.int a1), some (.int a2), some (.int a3), some (.int (nI a4)), j5]) (st' := [.ref 51]) (h' := Hp S) 1 (fun Z => gfR (E := E) sh50 rfl _) ?_
    refine wp_st (pc' := 56) (L' := [some (.ref 50), some (.int a1), some (.int a2), some (.int a3), some (.int (nI a4)), j5]) (st' := [.int (nI a4), .ref 51]) (h' := Hp S) 1 (fun Z => rfl) ?_
    refine wp_st (pc' := 57) (L' := [some (.ref 50), some (.int a1), some (.int a2), some (.int a3), some (.int (nI a4)), j5]) (st' := [.int (-1), .int (nI a4), .ref 51]) (h' := Hp S) 1 (fun Z => congrArg (fun v => Z (d + 1) m_PutBy_choose 57 [some (.ref 50), some (.int a1), some (.int a2), some (.int a3), some (.int (nI a4)), j5] [.int v, .int (nI a4), .ref 51] (Hp S)) (show Int32.ofInt (-1) = (-1) by decide)) ?_
    obtain ⟨hi, hw⟩ := hw
    have hw := hw _ rfl
    refine wp_st (pc' := 58) (L' := [some (.ref 50), some (.int a1), some (.int a2), some (.int a3), some (.int (nI a4)), j5]) (st' := []) (h' := Hp (up S 51 a4 (-1))) 1 (fun Z => stN sh51 (by decide) hi _ _) ?_
    generalize up S 51 a4 (-1) = S1 at hw ⊢
    refine wp_st (pc' := 64) (L' := [some (.ref 50), some (.int a1), some (.int a2), some (.int a3), some (.int (nI a4)), j5]) (st' := [.int (a1 &&& (bt a4))]) (h' := Hp S1) 5 (fun Z => rfl) ?_
    by_cases hc : (a1 &&& (bt a4)) = 0
    · rw [if_pos hc] at hw
      refine wp_st (pc' := 119) (L' := [some (.ref 50), some (.int a1), some (.int a2), some (.int a3), some (.int (nI a4)), j5]) (st' := []) (h' := Hp S1) 1 (fun Z => if_pos hc) ?_
      refine wp_st (pc' := 122) (L' := [some (.ref 50), some (.int a1), some (.int a2), some (.int a3), some (.int (nI (a4 + 1))), j5]) (st' := []) (h' := Hp S1) 1 (fun Z => by rw [← nI_add a4 1]; rfl) ?_
      exact wp_st 1 (fun Z => rfl) (show wp E (d + 1) m_PutBy_choose 38 [some (.ref 50), some (.int a1), some (.int a2), some (.int a3), some (.int (nI (a4 + 1))), j5] [] (Hp S1) (QV Q) from (hw j5))
    · rw [if_neg hc] at hw
      refine wp_st (pc' := 67) (L' := [some (.ref 50), some (.int a1), some (.int a2), some (.int a3), some (.int (nI a4)), j5]) (st' := []) (h' := Hp S1) 1 (fun Z => if_neg hc) ?_
      refine wp_st (pc' := 72) (L' := [some (.ref 50), some (.int a1), some (.int a2), some (.int a3), some (.int (nI a4)), j5]) (st' := [.int (bt a4), .int a1]) (h' := Hp S1) 4 (fun Z => rfl) ?_
      refine wp_st (pc' := 73) (L' := [some (.ref 50), some (.int a1), some (.int a2), some (.int a3), some (.int (nI a4)), j5]) (st' := [.int (-1), .int (bt a4), .int a1]) (h' := Hp S1) 1 (fun Z => congrArg (fun v => Z (d + 1) m_PutBy_choose 73 [some (.ref 50), some (.int a1), some (.int a2), some (.int a3), some (.int (nI a4)), j5] [.int v, .int (bt a4), .int a1] (Hp S1)) (show Int32.ofInt (-1) = (-1) by decide)) ?_
      refine wp_st (pc' := 82) (L' := [some (.ref 50), some (.int (a1 &&& ((bt a4) ^^^ ((-1) : Int32)))), some (.int a2), some (.int a3), some (.int (nI a4)), j5]) (st' := [.int a3, .int a2, .int (a1 &&& ((bt a4) ^^^ ((-1) : Int32))), .int (nI a4), .ref 50]) (h' := Hp S1) 8 (fun Z => rfl) ?_
      refine wp_call (pc' := 85) (rest := []) (fun Z => rfl) (isO_of sh50) hw ?_
      rintro o h1 ⟨x2, S3, rfl, rfl, hw⟩
      refine ⟨_, rfl, ?_⟩
      show wp E (d + 1) m_PutBy_choose 85 [some (.ref 50), some (.int (a1 &&& ((bt a4) ^^^ ((-1) : Int32)))), some (.int a2), some (.int a3), some (.int (nI a4)), j5] [.int x2] (Hp S3) (QV Q)
      refine wp_st (pc' := 89) (L' := [some (.ref 50), some (.int (a1 &&& ((bt a4) ^^^ ((-1) : Int32)))), some (.int a2), some (.int a3), some (.int (nI a4)), some (.int x2)]) (st' := [.int x2]) (h' := Hp S3) 2 (fun Z => rfl) ?_
      refine wp_st (pc' := 90) (L' := [some (.ref 50), some (.int (a1 &&& ((bt a4) ^^^ ((-1) : Int32)))), some (.int a2), some (.int a3), some (.int (nI a4)), some (.int x2)]) (st' := [.int (-1), .int x2]) (h' := Hp S3) 1 (fun Z => congrArg (fun v => Z (d + 1) m_PutBy_choose 90 [some (.ref 50), some (.int (a1 &&& ((bt a4) ^^^ ((-1) : Int32)))), some (.int a2), some (.int a3), some (.int (nI a4)), some (.int x2)] [.int v, .int x2] (Hp S3)) (show Int32.ofInt (-1) = (-1) by decide)) ?_
      by_cases hc : x2 = (-1)
      · rw [if_pos hc] at hw
        refine wp_st (pc' := 119) (L' := [some (.ref 50), some (.int (a1 &&& ((bt a4) ^^^ ((-1) : Int32)))), some (.int a2), some (.int a3), some (.int (nI a4)), some (.int x2)]) (st' := []) (h' := Hp S3) 1 (fun Z => if_pos hc) ?_
        refine wp_st (pc' := 122) (L' := [some (.ref 50), some (.int (a1 &&& ((bt a4) ^^^ ((-1) : Int32)))), some (.int a2), some (.int a3), some (.int (nI (a4 + 1))), some (.int x2)]) (st' := []) (h' := Hp S3) 1 (fun Z => by rw [← nI_add a4 1]; rfl) ?_
        exact wp_st 1 (fun Z => rfl) (show wp E (d + 1) m_PutBy_choose 38 [some (.ref 50), some (.int (a1 &&& ((bt a4) ^^^ ((-1) : Int32)))), some (.int a2), some (.int a3), some (.int (nI (a4 + 1))), some (.int x2)] [] (Hp S3) (QV Q) from (hw (some (.int x2))))
      · rw [if_neg hc] at hw
        refine wp_st (pc' := 93) (L' := [some (.ref 50), some (.int (a1 &&& ((bt a4) ^^^ ((-1) : Int32)))), some (.int a2), some (.int a3), some (.int (nI a4)), some (.int x2)]) (st' := []) (h' := Hp S3) 1 (fun Z => if_neg hc) ?_
        refine wp_st (pc' := 98) (L' := [some (.ref 50), some (.int (a1 &&& ((bt a4) ^^^ ((-1) : Int32)))), some (.int a2), some (.int a3), some (.int (nI a4)), some (.int x2)]) (st' := [.int x2, .int (nI a4), .ref 50]) (h' := Hp S3) 3 (fun Z => rfl) ?_
        refine wp_call (pc' := 101) (rest := []) (fun Z => rfl) (isO_of sh50) hw ?_
        rintro o h1 ⟨S5, rfl, rfl, hw⟩
        refine ⟨_, rfl, ?_⟩
        show wp E (d + 1) m_PutBy_choose 101 [some (.ref 50), some (.int (a1 &&& ((bt a4) ^^^ ((-1) : Int32)))), some (.int a2), some (.int a3), some (.int (nI a4)), some (.int x2)] [] (Hp S5) (QV Q)
        refine wp_st (pc' := 106) (L' := [some (.ref 50), some (.int (a1 &&& ((bt a4) ^^^ ((-1) : Int32)))), some (.int a2), some (.int a3), some (.int (nI a4)), some (.int x2)]) (st' := [.int ((1 : Int32) <<< (x2 &&& 31)), .int a2]) (h' := Hp S5) 4 (fun Z => rfl) ?_
        refine wp_st (pc' := 107) (L' := [some (.ref 50), some (.int (a1 &&& ((bt a4) ^^^ ((-1) : Int32)))), some (.int a2), some (.int a3), some (.int (nI a4)), some (.int x2)]) (st' := [.int (-1), .int ((1 : Int32) <<< (x2 &&& 31)), .int a2]) (h' := Hp S5) 1 (fun Z => congrArg (fun v => Z (d + 1) m_PutBy_choose 107 [some (.ref 50), some (.int (a1 &&& ((bt a4) ^^^ ((-1) : Int32)))), some (.int a2), some (.int a3), some (.int (nI a4)), some (.int x2)] [.int v, .int ((1 : Int32) <<< (x2 &&& 31)), .int a2] (Hp S5)) (show Int32.ofInt (-1) = (-1) by decide)) ?_
        refine wp_st (pc' := 114) (L' := [some (.ref 50), some (.int (a1 &&& ((bt a4) ^^^ ((-1) : Int32)))), some (.int (a2 &&& (((1 : Int32) <<< (x2 &&& 31)) ^^^ ((-1) : Int32)))), some (.int a3), some (.int (nI a4)), some (.int x2)]) (st' := [.int x2, .ref 50, .int a3]) (h' := Hp S5) 6 (fun Z => rfl) ?_
        refine wp_call (pc' := 117) (rest := [.int a3]) (fun Z => rfl) (isO_of sh50) hw ?_
        rintro o h1 ⟨x6, S7, rfl, rfl, hw⟩
        refine ⟨_, rfl, ?_⟩
        show wp E (d + 1) m_PutBy_choose 117 [some (.ref 50), some (.int (a1 &&& ((bt a4) ^^^ ((-1) : Int32)))), some (.int (a2 &&& (((1 : Int32) <<< (x2 &&& 31)) ^^^ ((-1) : Int32)))), some (.int a3), some (.int (nI a4)), some (.int x2)] [.int x6, .int a3] (Hp S7) (QV Q)
        refine wp_st (pc' := 119) (L' := [some (.ref 50), some (.int (a1 &&& ((bt a4) ^^^ ((-1) : Int32)))), some (.int (a2 &&& (((1 : Int32) <<< (x2 &&& 31)) ^^^ ((-1) : Int32)))), some (.int (a3 - x6)), some (.int (nI a4)), some (.int x2)]) (st' := []) (h' := Hp S7) 2 (fun Z => rfl) ?_
        refine wp_st (pc' := 122) (L' := [some (.ref 50), some (.int (a1 &&& ((bt a4) ^^^ ((-1) : Int32)))), some (.int (a2 &&& (((1 : Int32) <<< (x2 &&& 31)) ^^^ ((-1) : Int32)))), some (.int (a3 - x6)), some (.int (nI (a4 + 1))), some (.int x2)]) (st' := []) (h' := Hp S7) 1 (fun Z => by rw [← nI_add a4 1]; rfl) ?_
        exact wp_st 1 (fun Z => rfl) (show wp E (d + 1) m_PutBy_choose 38 [some (.ref 50), some (.int (a1 &&& ((bt a4) ^^^ ((-1) : Int32)))), some (.int (a2 &&& (((1 : Int32) <<< (x2 &&& 31)) ^^^ ((-1) : Int32)))), some (.int (a3 - x6)), some (.int (nI (a4 + 1))), some (.int x2)] [] (Hp S7) (QV Q) from (hw (some (.int x2))))
set_option maxRecDepth 4000 in
theorem w_PutBy_sortPeople {E : zX} {d : Nat} {S : St}  {Q : St → Prop} (hd : 1 ≤ d) 
    (hw : k_PutBy_sortPeople_2 E d S 0 Q) :
    k_PutBy_sortPeople E d S Q := by
  obtain ⟨d, rfl⟩ := Nat.exists_eq_add_of_le' hd
  show wp E (d + 1) m_PutBy_sortPeople 0 [some (.ref 50), none, none] [] (Hp S) (QV Q)
  exact wp_st 2 (fun Z => rfl) (show wp E (d + 1) m_PutBy_sortPeople 2 [some (.ref 50), some (.int 0), none] [] (Hp S) (QV Q) from (hw none))
set_option maxRecDepth 4000 in
theorem w_PutBy_sortPeople_2 {E : zX} {d : Nat} {S : St} {a1 : Nat} {Q : St → Prop} (hd : 1 ≤ d) 
    (hw : if (S 3 3) ≤ (nI a1) then (
      Q S)
    else (
      k_PutBy_sortPeople_15 E d S a1 (nI a1) Q)) :
    k_PutBy_sortPeople_2 E d S a1 Q := by
  obtain ⟨d, rfl⟩ := Nat.exists_eq_add_of_le' hd
  intro j2
  show wp E (d + 1) m_PutBy_sortPeople 2 [some (.ref 50), some (.int (nI a1)), j2] [] (Hp S) (QV Q)
  refine wp_st (pc' := 4) (L' := [some (.ref 50), some (.int (nI a1)), j2]) (st' := [.ref 50, .int (nI a1)]) (h' := Hp S) 2 (fun Z => rfl) ?_
  refine wp_st (pc' := 7) (L' := [some (.ref 50), some (.int (nI a1)), j2]) (st' := [.ref 3, .int (nI a1)]) (h' := Hp S) 1 (fun Z => gfR (E := E) sh50 rfl _) ?_
  refine wp_st (pc' := 10) (L' := [some (.ref 50), some (.int (nI a1)), j2]) (st' := [.int (S 3 3), .int (nI a1)]) (h' := Hp S) 1 (fun Z => gfI (E := E) sh3 rfl _) ?_
  by_cases hc : (S 3 3) ≤ (nI a1)
  · rw [if_pos hc] at hw
    refine wp_st (pc' := 78) (L' := [some (.ref 50), some (.int (nI a1)), j2]) (st' := []) (h' := Hp S) 1 (fun Z => if_pos hc) ?_
    exact wp_ret (fun Z => rfl) ⟨_, rfl, rfl, hw⟩
  · rw [if_neg hc] at hw
    refine wp_st (pc' := 13) (L' := [some (.ref 50), some (.int (nI a1)), j2]) (st' := []) (h' := Hp S) 1 (fun Z => if_neg hc) ?_
    exact wp_st 2 (fun Z => rfl) (show wp E (d + 1) m_PutBy_sortPeople 15 [some (.ref 50), some (.int (nI a1)), some (.int (nI a1))] [] (Hp S) (QV Q) from hw)
set_option maxRecDepth 4000 in
theorem w_PutBy_sortPeople_15 {E : zX} {d : Nat} {S : St} {a1 : Nat} {a2 : Int32} {Q : St → Prop} (hd : 1 ≤ d) 
    (hw : if a2 ≤ 0 then (
      ∃ m2 : Nat, a2 = nI m2 ∧ m2 < 7 ∧
      ∀ S1, S1 = up S 52 m2 (nI a1) →
      k_PutBy_sortPeople_2 E d S1 (a1 + 1) Q)
    else (
      ∃ m3 : Nat, (a2 - (1 : Int32)) = nI m3 ∧ m3 < 7 ∧
      k_Scene_temperOf E (d - 1) S 25 (S 52 m3) (fun x4 S5 =>
      k_Scene_temperOf E (d - 1) S5 25 (nI a1) (fun x6 S7 =>
      if x4 ≤ x6 then (
        ∃ m9 : Nat, a2 = nI m9 ∧ m9 < 7 ∧
        ∀ S8, S8 = up S7 52 m9 (nI a1) →
        k_PutBy_sortPeople_2 E d S8 (a1 + 1) Q)
      else (
        ∃ m10 : Nat, (a2 - (1 : Int32)) = nI m10 ∧ m10 < 7 ∧
        ∃ m12 : Nat, a2 = nI m12 ∧ m12 < 7 ∧
        ∀ S11, S11 = up S7 52 m12 (S7 52 m10) →
        k_PutBy_sortPeople_15 E d S11 a1 (a2 + (-1)) Q))))) :
    k_PutBy_sortPeople_15 E d S a1 a2 Q := by
  obtain ⟨d, rfl⟩ := Nat.exists_eq_add_of_le' hd
  show wp E (d + 1) m_PutBy_sortPeople 15 [some (.ref 50), some (.int (nI a1)), some (.int a2)] [] (Hp S) (QV Q)
  refine wp_st (pc' := 16) (L' := [some (.ref 50), some (.int (nI a1)), some (.int a2)]) (st' := [.int a2]) (h' := Hp S) 1 (fun Z => rfl) ?_
  by_cases hc : a2 ≤ 0
  · rw [if_pos hc] at hw
    refine wp_st (pc' := 65) (L' := [some (.ref 50), some (.int (nI a1)), some (.int a2)]) (st' := []) (h' := Hp S) 1 (fun Z => if_pos hc) ?_
    refine wp_st (pc' := 66) (L' := [some (.ref 50), some (.int (nI a1)), some (.int a2)]) (st' := [.ref 50]) (h' := Hp S) 1 (fun Z => rfl) ?_
    refine wp_st (pc' := 69) (L' := [some (.ref 50), some (.int (nI a1)), some (.int a2)]) (st' := [.ref 52]) (h' := Hp S) 1 (fun Z => gfR (E := E) sh50 rfl _) ?_
    refine wp_st (pc' := 71) (L' := [some (.ref 50), some (.int (nI a1)), some (.int a2)]) (st' := [.int (nI a1), .int a2, .ref 52]) (h' := Hp S) 2 (fun Z => rfl) ?_
    obtain ⟨m2, em, hi, hw⟩ := hw
    have hw := hw _ rfl
    refine wp_st (pc' := 72) (L' := [some (.ref 50), some (.int (nI a1)), some (.int a2)]) (st' := []) (h' := Hp (up S 52 m2 (nI a1))) 1 (fun Z => (congrArg (fun v => zit E 1 Z (d + 1) m_PutBy_sortPeople 71 [some (.ref 50), some (.int (nI a1)), some (.int a2)] [.int (nI a1), .int v, .ref 52] (Hp S)) em).trans (stN sh52 (by decide) hi _ _)) ?_
    generalize up S 52 m2 (nI a1) = S1 at hw ⊢
    refine wp_st (pc' := 75) (L' := [some (.ref 50), some (.int (nI (a1 + 1))), some (.int a2)]) (st' := []) (h' := Hp S1) 1 (fun Z => by rw [← nI_add a1 1]; rfl) ?_
    exact wp_st 1 (fun Z => rfl) (show wp E (d + 1) m_PutBy_sortPeople 2 [some (.ref 50), some (.int (nI (a1 + 1))), some (.int a2)] [] (Hp S1) (QV Q) from (hw (some (.int a2))))
  · rw [if_neg hc] at hw
    refine wp_st (pc' := 19) (L' := [some (.ref 50), some (.int (nI a1)), some (.int a2)]) (st' := []) (h' := Hp S) 1 (fun Z => if_neg hc) ?_
    refine wp_st (pc' := 20) (L' := [some (.ref 50), some (.int (nI a1)), some (.int a2)]) (st' := [.ref 50]) (h' := Hp S) 1 (fun Z => rfl) ?_
    refine wp_st (pc' := 23) (L' := [some (.ref 50), some (.int (nI a1)), some (.int a2)]) (st' := [.ref 25]) (h' := Hp S) 1 (fun Z => gfR (E := E) sh50 rfl _) ?_
    refine wp_st (pc' := 24) (L' := [some (.ref 50), some (.int (nI a1)), some (.int a2)]) (st' := [.ref 50, .ref 25]) (h' := Hp S) 1 (fun Z => rfl) ?_
    refine wp_st (pc' := 27) (L' := [some (.ref 50), some (.int (nI a1)), some (.int a2)]) (st' := [.ref 52, .ref 25]) (h' := Hp S) 1 (fun Z => gfR (E := E) sh50 rfl _) ?_
    refine wp_st (pc' := 30) (L' := [some (.ref 50), some (.int (nI a1)), some (.int a2)]) (st' := [.int (a2 - (1 : Int32)), .ref 52, .ref 25]) (h' := Hp S) 3 (fun Z => rfl) ?_
    obtain ⟨m3, em, hi, hw⟩ := hw
    refine wp_st (pc' := 31) (L' := [some (.ref 50), some (.int (nI a1)), some (.int a2)]) (st' := [.int (S 52 m3), .ref 25]) (h' := Hp S) 1 (fun Z => (congrArg (fun v => zit E 1 Z (d + 1) m_PutBy_sortPeople 30 [some (.ref 50), some (.int (nI a1)), some (.int a2)] [.int v, .ref 52, .ref 25] (Hp S)) em).trans (ldN (E := E) sh52 (by decide) hi [.ref 25] (fun st => Z (d + 1) m_PutBy_sortPeople 31 [some (.ref 50), some (.int (nI a1)), some (.int a2)] st (Hp S)))) ?_
    refine wp_call (pc' := 34) (rest := []) (fun Z => rfl) (isO_of sh25) hw ?_
    rintro o h1 ⟨x4, S5, rfl, rfl, hw⟩
    refine ⟨_, rfl, ?_⟩
    show wp E (d + 1) m_PutBy_sortPeople 34 [some (.ref 50), some (.int (nI a1)), some (.int a2)] [.int x4] (Hp S5) (QV Q)
    refine wp_st (pc' := 35) (L' := [some (.ref 50), some (.int (nI a1)), some (.int a2)]) (st' := [.ref 50, .int x4]) (h' := Hp S5) 1 (fun Z => rfl) ?_
    refine wp_st (pc' := 38) (L' := [some (.ref 50), some (.int (nI a1)), some (.int a2)]) (st' := [.ref 25, .int x4]) (h' := Hp S5) 1 (fun Z => gfR (E := E) sh50 rfl _) ?_
    refine wp_st (pc' := 39) (L' := [some (.ref 50), some (.int (nI a1)), some (.int a2)]) (st' := [.int (nI a1), .ref 25, .int x4]) (h' := Hp S5) 1 (fun Z => rfl) ?_
    refine wp_call (pc' := 42) (rest := [.int x4]) (fun Z => rfl) (isO_of sh25) hw ?_
    rintro o h1 ⟨x6, S7, rfl, rfl, hw⟩
    refine ⟨_, rfl, ?_⟩
    show wp E (d + 1) m_PutBy_sortPeople 42 [some (.ref 50), some (.int (nI a1)), some (.int a2)] [.int x6, .int x4] (Hp S7) (QV Q)
    by_cases hc : x4 ≤ x6
    · rw [if_pos hc] at hw
      refine wp_st (pc' := 65) (L' := [some (.ref 50), some (.int (nI a1)), some (.int a2)]) (st' := []) (h' := Hp S7) 1 (fun Z => if_pos hc) ?_
      refine wp_st (pc' := 66) (L' := [some (.ref 50), some (.int (nI a1)), some (.int a2)]) (st' := [.ref 50]) (h' := Hp S7) 1 (fun Z => rfl) ?_
      refine wp_st (pc' := 69) (L' := [some (.ref 50), some (.int (nI a1)), some (.int a2)]) (st' := [.ref 52]) (h' := Hp S7) 1 (fun Z => gfR (E := E) sh50 rfl _) ?_
      refine wp_st (pc' := 71) (L' := [some (.ref 50), some (.int (nI a1)), some (.int a2)]) (st' := [.int (nI a1), .int a2, .ref 52]) (h' := Hp S7) 2 (fun Z => rfl) ?_
      obtain ⟨m9, em, hi, hw⟩ := hw
      have hw := hw _ rfl
      refine wp_st (pc' := 72) (L' := [some (.ref 50), some (.int (nI a1)), some (.int a2)]) (st' := []) (h' := Hp (up S7 52 m9 (nI a1))) 1 (fun Z => (congrArg (fun v => zit E 1 Z (d + 1) m_PutBy_sortPeople 71 [some (.ref 50), some (.int (nI a1)), some (.int a2)] [.int (nI a1), .int v, .ref 52] (Hp S7)) em).trans (stN sh52 (by decide) hi _ _)) ?_
      generalize up S7 52 m9 (nI a1) = S8 at hw ⊢
      refine wp_st (pc' := 75) (L' := [some (.ref 50), some (.int (nI (a1 + 1))), some (.int a2)]) (st' := []) (h' := Hp S8) 1 (fun Z => by rw [← nI_add a1 1]; rfl) ?_
      exact wp_st 1 (fun Z => rfl) (show wp E (d + 1) m_PutBy_sortPeople 2 [some (.ref 50), some (.int (nI (a1 + 1))), some (.int a2)] [] (Hp S8) (QV Q) from (hw (some (.int a2))))
    · rw [if_neg hc] at hw
      refine wp_st (pc' := 45) (L' := [some (.ref 50), some (.int (nI a1)), some (.int a2)]) (st' := []) (h' := Hp S7) 1 (fun Z => if_neg hc) ?_
      refine wp_st (pc' := 46) (L' := [some (.ref 50), some (.int (nI a1)), some (.int a2)]) (st' := [.ref 50]) (h' := Hp S7) 1 (fun Z => rfl) ?_
      refine wp_st (pc' := 49) (L' := [some (.ref 50), some (.int (nI a1)), some (.int a2)]) (st' := [.ref 52]) (h' := Hp S7) 1 (fun Z => gfR (E := E) sh50 rfl _) ?_
      refine wp_st (pc' := 51) (L' := [some (.ref 50), some (.int (nI a1)), some (.int a2)]) (st' := [.ref 50, .int a2, .ref 52]) (h' := Hp S7) 2 (fun Z => rfl) ?_
      refine wp_st (pc' := 54) (L' := [some (.ref 50), some (.int (nI a1)), some (.int a2)]) (st' := [.ref 52, .int a2, .ref 52]) (h' := Hp S7) 1 (fun Z => gfR (E := E) sh50 rfl _) ?_
      refine wp_st (pc' := 57) (L' := [some (.ref 50), some (.int (nI a1)), some (.int a2)]) (st' := [.int (a2 - (1 : Int32)), .ref 52, .int a2, .ref 52]) (h' := Hp S7) 3 (fun Z => rfl) ?_
      obtain ⟨m10, em, hi, hw⟩ := hw
      refine wp_st (pc' := 58) (L' := [some (.ref 50), some (.int (nI a1)), some (.int a2)]) (st' := [.int (S7 52 m10), .int a2, .ref 52]) (h' := Hp S7) 1 (fun Z => (congrArg (fun v => zit E 1 Z (d + 1) m_PutBy_sortPeople 57 [some (.ref 50), some (.int (nI a1)), some (.int a2)] [.int v, .ref 52, .int a2, .ref 52] (Hp S7)) em).trans (ldN (E := E) sh52 (by decide) hi [.int a2, .ref 52] (fun st => Z (d + 1) m_PutBy_sortPeople 58 [some (.ref 50), some (.int (nI a1)), some (.int a2)] st (Hp S7)))) ?_
      obtain ⟨m12, em, hi, hw⟩ := hw
      have hw := hw _ rfl
      refine wp_st (pc' := 59) (L' := [some (.ref 50), some (.int (nI a1)), some (.int a2)]) (st' := []) (h' := Hp (up S7 52 m12 (S7 52 m10))) 1 (fun Z => (congrArg (fun v => zit E 1 Z (d + 1) m_PutBy_sortPeople 58 [some (.ref 50), some (.int (nI a1)), some (.int a2)] [.int (S7 52 m10), .int v, .ref 52] (Hp S7)) em).trans (stN sh52 (by decide) hi _ _)) ?_
      generalize up S7 52 m12 (S7 52 m10) = S11 at hw ⊢
      refine wp_st (pc' := 62) (L' := [some (.ref 50), some (.int (nI a1)), some (.int (a2 + (-1)))]) (st' := []) (h' := Hp S11) 1 (fun Z => congrArg (fun v => Z (d + 1) m_PutBy_sortPeople 62 [some (.ref 50), some (.int (nI a1)), some (.int (a2 + v))] [] (Hp S11)) (show Int32.ofInt (-1) = (-1) by decide)) ?_
      exact wp_st 1 (fun Z => rfl) (show wp E (d + 1) m_PutBy_sortPeople 15 [some (.ref 50), some (.int (nI a1)), some (.int (a2 + (-1)))] [] (Hp S11) (QV Q) from hw)
set_option maxRecDepth 4000 in
theorem w_PutBy_sortBalls {E : zX} {d : Nat} {S : St}  {Q : St → Prop} 
    (hw : k_PutBy_sortBalls_2 E d S 0 Q) :
    k_PutBy_sortBalls E d S Q := by
  show wp E d m_PutBy_sortBalls 0 [some (.ref 50), none, none] [] (Hp S) (QV Q)
  exact wp_st 2 (fun Z => rfl) (show wp E d m_PutBy_sortBalls 2 [some (.ref 50), some (.int 0), none] [] (Hp S) (QV Q) from (hw none))
set_option maxRecDepth 4000 in
theorem w_PutBy_sortBalls_2 {E : zX} {d : Nat} {S : St} {a1 : Nat} {Q : St → Prop} 
    (hw : if (S 3 4) ≤ (nI a1) then (
      Q S)
    else (
      k_PutBy_sortBalls_15 E d S a1 (nI a1) Q)) :
    k_PutBy_sortBalls_2 E d S a1 Q := by
  intro j2
  show wp E d m_PutBy_sortBalls 2 [some (.ref 50), some (.int (nI a1)), j2] [] (Hp S) (QV Q)
  refine wp_st (pc' := 4) (L' := [some (.ref 50), some (.int (nI a1)), j2]) (st' := [.ref 50, .int (nI a1)]) (h' := Hp S) 2 (fun Z => rfl) ?_
  refine wp_st (pc' := 7) (L' := [some (.ref 50), some (.int (nI a1)), j2]) (st' := [.ref 3, .int (nI a1)]) (h' := Hp S) 1 (fun Z => gfR (E := E) sh50 rfl _) ?_
  refine wp_st (pc' := 10) (L' := [some (.ref 50), some (.int (nI a1)), j2]) (st' := [.int (S 3 4), .int (nI a1)]) (h' := Hp S) 1 (fun Z => gfI (E := E) sh3 rfl _) ?_
  by_cases hc : (S 3 4) ≤ (nI a1)
  · rw [if_pos hc] at hw
    refine wp_st (pc' := 80) (L' := [some (.ref 50), some (.int (nI a1)), j2]) (st' := []) (h' := Hp S) 1 (fun Z => if_pos hc) ?_
    exact wp_ret (fun Z => rfl) ⟨_, rfl, rfl, hw⟩
  · rw [if_neg hc] at hw
    refine wp_st (pc' := 13) (L' := [some (.ref 50), some (.int (nI a1)), j2]) (st' := []) (h' := Hp S) 1 (fun Z => if_neg hc) ?_
    exact wp_st 2 (fun Z => rfl) (show wp E d m_PutBy_sortBalls 15 [some (.ref 50), some (.int (nI a1)), some (.int (nI a1))] [] (Hp S) (QV Q) from hw)
set_option maxRecDepth 4000 in
theorem w_PutBy_sortBalls_15 {E : zX} {d : Nat} {S : St} {a1 : Nat} {a2 : Int32} {Q : St → Prop} 
    (hw : if a2 ≤ 0 then (
      ∃ m2 : Nat, a2 = nI m2 ∧ m2 < 10 ∧
      ∀ S1, S1 = up S 53 m2 (nI a1) →
      k_PutBy_sortBalls_2 E d S1 (a1 + 1) Q)
    else (
      ∃ m3 : Nat, (a2 - (1 : Int32)) = nI m3 ∧ m3 < 10 ∧
      ∃ m4 : Nat, (S 53 m3) = nI m4 ∧ m4 < 10 ∧
      a1 < 10 ∧
      if (S 5 m4) ≤ (S 5 a1) then (
        ∃ m6 : Nat, a2 = nI m6 ∧ m6 < 10 ∧
        ∀ S5, S5 = up S 53 m6 (nI a1) →
        k_PutBy_sortBalls_2 E d S5 (a1 + 1) Q)
      else (
        ∃ m7 : Nat, (a2 - (1 : Int32)) = nI m7 ∧ m7 < 10 ∧
        ∃ m9 : Nat, a2 = nI m9 ∧ m9 < 10 ∧
        ∀ S8, S8 = up S 53 m9 (S 53 m7) →
        k_PutBy_sortBalls_15 E d S8 a1 (a2 + (-1)) Q))) :
    k_PutBy_sortBalls_15 E d S a1 a2 Q := by
  show wp E d m_PutBy_sortBalls 15 [some (.ref 50), some (.int (nI a1)), some (.int a2)] [] (Hp S) (QV Q)
  refine wp_st (pc' := 16) (L' := [some (.ref 50), some (.int (nI a1)), some (.int a2)]) (st' := [.int a2]) (h' := Hp S) 1 (fun Z => rfl) ?_
  by_cases hc : a2 ≤ 0
  · rw [if_pos hc] at hw
    refine wp_st (pc' := 67) (L' := [some (.ref 50), some (.int (nI a1)), some (.int a2)]) (st' := []) (h' := Hp S) 1 (fun Z => if_pos hc) ?_
    refine wp_st (pc' := 68) (L' := [some (.ref 50), some (.int (nI a1)), some (.int a2)]) (st' := [.ref 50]) (h' := Hp S) 1 (fun Z => rfl) ?_
    refine wp_st (pc' := 71) (L' := [some (.ref 50), some (.int (nI a1)), some (.int a2)]) (st' := [.ref 53]) (h' := Hp S) 1 (fun Z => gfR (E := E) sh50 rfl _) ?_
    refine wp_st (pc' := 73) (L' := [some (.ref 50), some (.int (nI a1)), some (.int a2)]) (st' := [.int (nI a1), .int a2, .ref 53]) (h' := Hp S) 2 (fun Z => rfl) ?_
    obtain ⟨m2, em, hi, hw⟩ := hw
    have hw := hw _ rfl
    refine wp_st (pc' := 74) (L' := [some (.ref 50), some (.int (nI a1)), some (.int a2)]) (st' := []) (h' := Hp (up S 53 m2 (nI a1))) 1 (fun Z => (congrArg (fun v => zit E 1 Z d m_PutBy_sortBalls 73 [some (.ref 50), some (.int (nI a1)), some (.int a2)] [.int (nI a1), .int v, .ref 53] (Hp S)) em).trans (stN sh53 (by decide) hi _ _)) ?_
    generalize up S 53 m2 (nI a1) = S1 at hw ⊢
    refine wp_st (pc' := 77) (L' := [some (.ref 50), some (.int (nI (a1 + 1))), some (.int a2)]) (st' := []) (h' := Hp S1) 1 (fun Z => by rw [← nI_add a1 1]; rfl) ?_
    exact wp_st 1 (fun Z => rfl) (show wp E d m_PutBy_sortBalls 2 [some (.ref 50), some (.int (nI (a1 + 1))), some (.int a2)] [] (Hp S1) (QV Q) from (hw (some (.int a2))))
  · rw [if_neg hc] at hw
    refine wp_st (pc' := 19) (L' := [some (.ref 50), some (.int (nI a1)), some (.int a2)]) (st' := []) (h' := Hp S) 1 (fun Z => if_neg hc) ?_
    refine wp_st (pc' := 20) (L' := [some (.ref 50), some (.int (nI a1)), some (.int a2)]) (st' := [.ref 50]) (h' := Hp S) 1 (fun Z => rfl) ?_
    refine wp_st (pc' := 23) (L' := [some (.ref 50), some (.int (nI a1)), some (.int a2)]) (st' := [.ref 3]) (h' := Hp S) 1 (fun Z => gfR (E := E) sh50 rfl _) ?_
    refine wp_st (pc' := 26) (L' := [some (.ref 50), some (.int (nI a1)), some (.int a2)]) (st' := [.ref 5]) (h' := Hp S) 1 (fun Z => gfR (E := E) sh3 rfl _) ?_
    refine wp_st (pc' := 27) (L' := [some (.ref 50), some (.int (nI a1)), some (.int a2)]) (st' := [.ref 50, .ref 5]) (h' := Hp S) 1 (fun Z => rfl) ?_
    refine wp_st (pc' := 30) (L' := [some (.ref 50), some (.int (nI a1)), some (.int a2)]) (st' := [.ref 53, .ref 5]) (h' := Hp S) 1 (fun Z => gfR (E := E) sh50 rfl _) ?_
    refine wp_st (pc' := 33) (L' := [some (.ref 50), some (.int (nI a1)), some (.int a2)]) (st' := [.int (a2 - (1 : Int32)), .ref 53, .ref 5]) (h' := Hp S) 3 (fun Z => rfl) ?_
    obtain ⟨m3, em, hi, hw⟩ := hw
    refine wp_st (pc' := 34) (L' := [some (.ref 50), some (.int (nI a1)), some (.int a2)]) (st' := [.int (S 53 m3), .ref 5]) (h' := Hp S) 1 (fun Z => (congrArg (fun v => zit E 1 Z d m_PutBy_sortBalls 33 [some (.ref 50), some (.int (nI a1)), some (.int a2)] [.int v, .ref 53, .ref 5] (Hp S)) em).trans (ldN (E := E) sh53 (by decide) hi [.ref 5] (fun st => Z d m_PutBy_sortBalls 34 [some (.ref 50), some (.int (nI a1)), some (.int a2)] st (Hp S)))) ?_
    obtain ⟨m4, em, hi, hw⟩ := hw
    refine wp_st (pc' := 35) (L' := [some (.ref 50), some (.int (nI a1)), some (.int a2)]) (st' := [.int (S 5 m4)]) (h' := Hp S) 1 (fun Z => (congrArg (fun v => zit E 1 Z d m_PutBy_sortBalls 34 [some (.ref 50), some (.int (nI a1)), some (.int a2)] [.int v, .ref 5] (Hp S)) em).trans (ldN (E := E) sh5 (by decide) hi [] (fun st => Z d m_PutBy_sortBalls 35 [some (.ref 50), some (.int (nI a1)), some (.int a2)] st (Hp S)))) ?_
    refine wp_st (pc' := 36) (L' := [some (.ref 50), some (.int (nI a1)), some (.int a2)]) (st' := [.ref 50, .int (S 5 m4)]) (h' := Hp S) 1 (fun Z => rfl) ?_
    refine wp_st (pc' := 39) (L' := [some (.ref 50), some (.int (nI a1)), some (.int a2)]) (st' := [.ref 3, .int (S 5 m4)]) (h' := Hp S) 1 (fun Z => gfR (E := E) sh50 rfl _) ?_
    refine wp_st (pc' := 42) (L' := [some (.ref 50), some (.int (nI a1)), some (.int a2)]) (st' := [.ref 5, .int (S 5 m4)]) (h' := Hp S) 1 (fun Z => gfR (E := E) sh3 rfl _) ?_
    refine wp_st (pc' := 43) (L' := [some (.ref 50), some (.int (nI a1)), some (.int a2)]) (st' := [.int (nI a1), .ref 5, .int (S 5 m4)]) (h' := Hp S) 1 (fun Z => rfl) ?_
    obtain ⟨hi, hw⟩ := hw
    refine wp_st (pc' := 44) (L' := [some (.ref 50), some (.int (nI a1)), some (.int a2)]) (st' := [.int (S 5 a1), .int (S 5 m4)]) (h' := Hp S) 1 (fun Z => ldN (E := E) sh5 (by decide) hi [.int (S 5 m4)] (fun st => Z d m_PutBy_sortBalls 44 [some (.ref 50), some (.int (nI a1)), some (.int a2)] st (Hp S))) ?_
    by_cases hc : (S 5 m4) ≤ (S 5 a1)
    · rw [if_pos hc] at hw
      refine wp_st (pc' := 67) (L' := [some (.ref 50), some (.int (nI a1)), some (.int a2)]) (st' := []) (h' := Hp S) 1 (fun Z => if_pos hc) ?_
      refine wp_st (pc' := 68) (L' := [some (.ref 50), some (.int (nI a1)), some (.int a2)]) (st' := [.ref 50]) (h' := Hp S) 1 (fun Z => rfl) ?_
      refine wp_st (pc' := 71) (L' := [some (.ref 50), some (.int (nI a1)), some (.int a2)]) (st' := [.ref 53]) (h' := Hp S) 1 (fun Z => gfR (E := E) sh50 rfl _) ?_
      refine wp_st (pc' := 73) (L' := [some (.ref 50), some (.int (nI a1)), some (.int a2)]) (st' := [.int (nI a1), .int a2, .ref 53]) (h' := Hp S) 2 (fun Z => rfl) ?_
      obtain ⟨m6, em, hi, hw⟩ := hw
      have hw := hw _ rfl
      refine wp_st (pc' := 74) (L' := [some (.ref 50), some (.int (nI a1)), some (.int a2)]) (st' := []) (h' := Hp (up S 53 m6 (nI a1))) 1 (fun Z => (congrArg (fun v => zit E 1 Z d m_PutBy_sortBalls 73 [some (.ref 50), some (.int (nI a1)), some (.int a2)] [.int (nI a1), .int v, .ref 53] (Hp S)) em).trans (stN sh53 (by decide) hi _ _)) ?_
      generalize up S 53 m6 (nI a1) = S5 at hw ⊢
      refine wp_st (pc' := 77) (L' := [some (.ref 50), some (.int (nI (a1 + 1))), some (.int a2)]) (st' := []) (h' := Hp S5) 1 (fun Z => by rw [← nI_add a1 1]; rfl) ?_
      exact wp_st 1 (fun Z => rfl) (show wp E d m_PutBy_sortBalls 2 [some (.ref 50), some (.int (nI (a1 + 1))), some (.int a2)] [] (Hp S5) (QV Q) from (hw (some (.int a2))))
    · rw [if_neg hc] at hw
      refine wp_st (pc' := 47) (L' := [some (.ref 50), some (.int (nI a1)), some (.int a2)]) (st' := []) (h' := Hp S) 1 (fun Z => if_neg hc) ?_
      refine wp_st (pc' := 48) (L' := [some (.ref 50), some (.int (nI a1)), some (.int a2)]) (st' := [.ref 50]) (h' := Hp S) 1 (fun Z => rfl) ?_
      refine wp_st (pc' := 51) (L' := [some (.ref 50), some (.int (nI a1)), some (.int a2)]) (st' := [.ref 53]) (h' := Hp S) 1 (fun Z => gfR (E := E) sh50 rfl _) ?_
      refine wp_st (pc' := 53) (L' := [some (.ref 50), some (.int (nI a1)), some (.int a2)]) (st' := [.ref 50, .int a2, .ref 53]) (h' := Hp S) 2 (fun Z => rfl) ?_
      refine wp_st (pc' := 56) (L' := [some (.ref 50), some (.int (nI a1)), some (.int a2)]) (st' := [.ref 53, .int a2, .ref 53]) (h' := Hp S) 1 (fun Z => gfR (E := E) sh50 rfl _) ?_
      refine wp_st (pc' := 59) (L' := [some (.ref 50), some (.int (nI a1)), some (.int a2)]) (st' := [.int (a2 - (1 : Int32)), .ref 53, .int a2, .ref 53]) (h' := Hp S) 3 (fun Z => rfl) ?_
      obtain ⟨m7, em, hi, hw⟩ := hw
      refine wp_st (pc' := 60) (L' := [some (.ref 50), some (.int (nI a1)), some (.int a2)]) (st' := [.int (S 53 m7), .int a2, .ref 53]) (h' := Hp S) 1 (fun Z => (congrArg (fun v => zit E 1 Z d m_PutBy_sortBalls 59 [some (.ref 50), some (.int (nI a1)), some (.int a2)] [.int v, .ref 53, .int a2, .ref 53] (Hp S)) em).trans (ldN (E := E) sh53 (by decide) hi [.int a2, .ref 53] (fun st => Z d m_PutBy_sortBalls 60 [some (.ref 50), some (.int (nI a1)), some (.int a2)] st (Hp S)))) ?_
      obtain ⟨m9, em, hi, hw⟩ := hw
      have hw := hw _ rfl
      refine wp_st (pc' := 61) (L' := [some (.ref 50), some (.int (nI a1)), some (.int a2)]) (st' := []) (h' := Hp (up S 53 m9 (S 53 m7))) 1 (fun Z => (congrArg (fun v => zit E 1 Z d m_PutBy_sortBalls 60 [some (.ref 50), some (.int (nI a1)), some (.int a2)] [.int (S 53 m7), .int v, .ref 53] (Hp S)) em).trans (stN sh53 (by decide) hi _ _)) ?_
      generalize up S 53 m9 (S 53 m7) = S8 at hw ⊢
      refine wp_st (pc' := 64) (L' := [some (.ref 50), some (.int (nI a1)), some (.int (a2 + (-1)))]) (st' := []) (h' := Hp S8) 1 (fun Z => congrArg (fun v => Z d m_PutBy_sortBalls 64 [some (.ref 50), some (.int (nI a1)), some (.int (a2 + v))] [] (Hp S8)) (show Int32.ofInt (-1) = (-1) by decide)) ?_
      exact wp_st 1 (fun Z => rfl) (show wp E d m_PutBy_sortBalls 15 [some (.ref 50), some (.int (nI a1)), some (.int (a2 + (-1)))] [] (Hp S8) (QV Q) from hw)
set_option maxRecDepth 4000 in
theorem w_PutBy_crossPeople {E : zX} {d : Nat} {S : St}  {Q : Int32 → St → Prop} (hd : 1 ≤ d) 
    (hw : k_PutBy_crossPeople_4 E d S 0 0 Q) :
    k_PutBy_crossPeople E d S Q := by
  obtain ⟨d, rfl⟩ := Nat.exists_eq_add_of_le' hd
  show wp E (d + 1) m_PutBy_crossPeople 0 [some (.ref 50), none, none] [] (Hp S) (QI Q)
  exact wp_st 4 (fun Z => rfl) (show wp E (d + 1) m_PutBy_crossPeople 4 [some (.ref 50), some (.int 0), some (.int 0)] [] (Hp S) (QI Q) from hw)
set_option maxRecDepth 4000 in
theorem w_PutBy_crossPeople_4 {E : zX} {d : Nat} {S : St} {a1 : Int32} {a2 : Nat} {Q : Int32 → St → Prop} (hd : 1 ≤ d) 
    (hw : if (S 3 3) ≤ (nI a2) then (
      Q a1 S)
    else (
      k_Scene_temperOf E (d - 1) S 25 (nI a2) (fun x1 S2 =>
      if x1 ≤ 0 then (
        k_PutBy_crossPeople_4 E d S2 a1 (a2 + 1) Q)
      else (
        k_PutBy_crossPeople_4 E d S2 (a1 ||| (bt a2)) (a2 + 1) Q)))) :
    k_PutBy_crossPeople_4 E d S a1 a2 Q := by
  obtain ⟨d, rfl⟩ := Nat.exists_eq_add_of_le' hd
  show wp E (d + 1) m_PutBy_crossPeople 4 [some (.ref 50), some (.int a1), some (.int (nI a2))] [] (Hp S) (QI Q)
  refine wp_st (pc' := 6) (L' := [some (.ref 50), some (.int a1), some (.int (nI a2))]) (st' := [.ref 50, .int (nI a2)]) (h' := Hp S) 2 (fun Z => rfl) ?_
  refine wp_st (pc' := 9) (L' := [some (.ref 50), some (.int a1), some (.int (nI a2))]) (st' := [.ref 3, .int (nI a2)]) (h' := Hp S) 1 (fun Z => gfR (E := E) sh50 rfl _) ?_
  refine wp_st (pc' := 12) (L' := [some (.ref 50), some (.int a1), some (.int (nI a2))]) (st' := [.int (S 3 3), .int (nI a2)]) (h' := Hp S) 1 (fun Z => gfI (E := E) sh3 rfl _) ?_
  by_cases hc : (S 3 3) ≤ (nI a2)
  · rw [if_pos hc] at hw
    refine wp_st (pc' := 38) (L' := [some (.ref 50), some (.int a1), some (.int (nI a2))]) (st' := []) (h' := Hp S) 1 (fun Z => if_pos hc) ?_
    refine wp_st (pc' := 39) (L' := [some (.ref 50), some (.int a1), some (.int (nI a2))]) (st' := [.int a1]) (h' := Hp S) 1 (fun Z => rfl) ?_
    exact wp_ret (fun Z => rfl) ⟨_, _, rfl, rfl, hw⟩
  · rw [if_neg hc] at hw
    refine wp_st (pc' := 15) (L' := [some (.ref 50), some (.int a1), some (.int (nI a2))]) (st' := []) (h' := Hp S) 1 (fun Z => if_neg hc) ?_
    refine wp_st (pc' := 16) (L' := [some (.ref 50), some (.int a1), some (.int (nI a2))]) (st' := [.ref 50]) (h' := Hp S) 1 (fun Z => rfl) ?_
    refine wp_st (pc' := 19) (L' := [some (.ref 50), some (.int a1), some (.int (nI a2))]) (st' := [.ref 25]) (h' := Hp S) 1 (fun Z => gfR (E := E) sh50 rfl _) ?_
    refine wp_st (pc' := 20) (L' := [some (.ref 50), some (.int a1), some (.int (nI a2))]) (st' := [.int (nI a2), .ref 25]) (h' := Hp S) 1 (fun Z => rfl) ?_
    refine wp_call (pc' := 23) (rest := []) (fun Z => rfl) (isO_of sh25) hw ?_
    rintro o h1 ⟨x1, S2, rfl, rfl, hw⟩
    refine ⟨_, rfl, ?_⟩
    show wp E (d + 1) m_PutBy_crossPeople 23 [some (.ref 50), some (.int a1), some (.int (nI a2))] [.int x1] (Hp S2) (QI Q)
    by_cases hc : x1 ≤ 0
    · rw [if_pos hc] at hw
      refine wp_st (pc' := 32) (L' := [some (.ref 50), some (.int a1), some (.int (nI a2))]) (st' := []) (h' := Hp S2) 1 (fun Z => if_pos hc) ?_
      refine wp_st (pc' := 35) (L' := [some (.ref 50), some (.int a1), some (.int (nI (a2 + 1)))]) (st' := []) (h' := Hp S2) 1 (fun Z => by rw [← nI_add a2 1]; rfl) ?_
      exact wp_st 1 (fun Z => rfl) (show wp E (d + 1) m_PutBy_crossPeople 4 [some (.ref 50), some (.int a1), some (.int (nI (a2 + 1)))] [] (Hp S2) (QI Q) from hw)
    · rw [if_neg hc] at hw
      refine wp_st (pc' := 26) (L' := [some (.ref 50), some (.int a1), some (.int (nI a2))]) (st' := []) (h' := Hp S2) 1 (fun Z => if_neg hc) ?_
      refine wp_st (pc' := 32) (L' := [some (.ref 50), some (.int (a1 ||| (bt a2))), some (.int (nI a2))]) (st' := []) (h' := Hp S2) 6 (fun Z => rfl) ?_
      refine wp_st (pc' := 35) (L' := [some (.ref 50), some (.int (a1 ||| (bt a2))), some (.int (nI (a2 + 1)))]) (st' := []) (h' := Hp S2) 1 (fun Z => by rw [← nI_add a2 1]; rfl) ?_
      exact wp_st 1 (fun Z => rfl) (show wp E (d + 1) m_PutBy_crossPeople 4 [some (.ref 50), some (.int (a1 ||| (bt a2))), some (.int (nI (a2 + 1)))] [] (Hp S2) (QI Q) from hw)
set_option maxRecDepth 4000 in
theorem w_PutBy_whiteBalls {E : zX} {d : Nat} {S : St}  {Q : Int32 → St → Prop} (hd : 1 ≤ d) 
    (hw : k_PutBy_whiteBalls_4 E d S 0 0 Q) :
    k_PutBy_whiteBalls E d S Q := by
  obtain ⟨d, rfl⟩ := Nat.exists_eq_add_of_le' hd
  show wp E (d + 1) m_PutBy_whiteBalls 0 [some (.ref 50), none, none] [] (Hp S) (QI Q)
  exact wp_st 4 (fun Z => rfl) (show wp E (d + 1) m_PutBy_whiteBalls 4 [some (.ref 50), some (.int 0), some (.int 0)] [] (Hp S) (QI Q) from hw)
set_option maxRecDepth 4000 in
theorem w_PutBy_whiteBalls_4 {E : zX} {d : Nat} {S : St} {a1 : Int32} {a2 : Nat} {Q : Int32 → St → Prop} (hd : 1 ≤ d) 
    (hw : if (S 3 4) ≤ (nI a2) then (
      Q a1 S)
    else (
      k_Scene_isWhite E (d - 1) S 25 (nI a2) (fun x1 S2 =>
      if x1 = 0 then (
        k_PutBy_whiteBalls_4 E d S2 a1 (a2 + 1) Q)
      else (
        k_PutBy_whiteBalls_4 E d S2 (a1 ||| (bt a2)) (a2 + 1) Q)))) :
    k_PutBy_whiteBalls_4 E d S a1 a2 Q := by
  obtain ⟨d, rfl⟩ := Nat.exists_eq_add_of_le' hd
  show wp E (d + 1) m_PutBy_whiteBalls 4 [some (.ref 50), some (.int a1), some (.int (nI a2))] [] (Hp S) (QI Q)
  refine wp_st (pc' := 6) (L' := [some (.ref 50), some (.int a1), some (.int (nI a2))]) (st' := [.ref 50, .int (nI a2)]) (h' := Hp S) 2 (fun Z => rfl) ?_
  refine wp_st (pc' := 9) (L' := [some (.ref 50), some (.int a1), some (.int (nI a2))]) (st' := [.ref 3, .int (nI a2)]) (h' := Hp S) 1 (fun Z => gfR (E := E) sh50 rfl _) ?_
  refine wp_st (pc' := 12) (L' := [some (.ref 50), some (.int a1), some (.int (nI a2))]) (st' := [.int (S 3 4), .int (nI a2)]) (h' := Hp S) 1 (fun Z => gfI (E := E) sh3 rfl _) ?_
  by_cases hc : (S 3 4) ≤ (nI a2)
  · rw [if_pos hc] at hw
    refine wp_st (pc' := 38) (L' := [some (.ref 50), some (.int a1), some (.int (nI a2))]) (st' := []) (h' := Hp S) 1 (fun Z => if_pos hc) ?_
    refine wp_st (pc' := 39) (L' := [some (.ref 50), some (.int a1), some (.int (nI a2))]) (st' := [.int a1]) (h' := Hp S) 1 (fun Z => rfl) ?_
    exact wp_ret (fun Z => rfl) ⟨_, _, rfl, rfl, hw⟩
  · rw [if_neg hc] at hw
    refine wp_st (pc' := 15) (L' := [some (.ref 50), some (.int a1), some (.int (nI a2))]) (st' := []) (h' := Hp S) 1 (fun Z => if_neg hc) ?_
    refine wp_st (pc' := 16) (L' := [some (.ref 50), some (.int a1), some (.int (nI a2))]) (st' := [.ref 50]) (h' := Hp S) 1 (fun Z => rfl) ?_
    refine wp_st (pc' := 19) (L' := [some (.ref 50), some (.int a1), some (.int (nI a2))]) (st' := [.ref 25]) (h' := Hp S) 1 (fun Z => gfR (E := E) sh50 rfl _) ?_
    refine wp_st (pc' := 20) (L' := [some (.ref 50), some (.int a1), some (.int (nI a2))]) (st' := [.int (nI a2), .ref 25]) (h' := Hp S) 1 (fun Z => rfl) ?_
    refine wp_call (pc' := 23) (rest := []) (fun Z => rfl) (isO_of sh25) hw ?_
    rintro o h1 ⟨x1, S2, rfl, rfl, hw⟩
    refine ⟨_, rfl, ?_⟩
    show wp E (d + 1) m_PutBy_whiteBalls 23 [some (.ref 50), some (.int a1), some (.int (nI a2))] [.int x1] (Hp S2) (QI Q)
    by_cases hc : x1 = 0
    · rw [if_pos hc] at hw
      refine wp_st (pc' := 32) (L' := [some (.ref 50), some (.int a1), some (.int (nI a2))]) (st' := []) (h' := Hp S2) 1 (fun Z => if_pos hc) ?_
      refine wp_st (pc' := 35) (L' := [some (.ref 50), some (.int a1), some (.int (nI (a2 + 1)))]) (st' := []) (h' := Hp S2) 1 (fun Z => by rw [← nI_add a2 1]; rfl) ?_
      exact wp_st 1 (fun Z => rfl) (show wp E (d + 1) m_PutBy_whiteBalls 4 [some (.ref 50), some (.int a1), some (.int (nI (a2 + 1)))] [] (Hp S2) (QI Q) from hw)
    · rw [if_neg hc] at hw
      refine wp_st (pc' := 26) (L' := [some (.ref 50), some (.int a1), some (.int (nI a2))]) (st' := []) (h' := Hp S2) 1 (fun Z => if_neg hc) ?_
      refine wp_st (pc' := 32) (L' := [some (.ref 50), some (.int (a1 ||| (bt a2))), some (.int (nI a2))]) (st' := []) (h' := Hp S2) 6 (fun Z => rfl) ?_
      refine wp_st (pc' := 35) (L' := [some (.ref 50), some (.int (a1 ||| (bt a2))), some (.int (nI (a2 + 1)))]) (st' := []) (h' := Hp S2) 1 (fun Z => by rw [← nI_add a2 1]; rfl) ?_
      exact wp_st 1 (fun Z => rfl) (show wp E (d + 1) m_PutBy_whiteBalls 4 [some (.ref 50), some (.int (a1 ||| (bt a2))), some (.int (nI (a2 + 1)))] [] (Hp S2) (QI Q) from hw)
set_option maxRecDepth 4000 in
theorem w_PutBy_bestOf {E : zX} {d : Nat} {S : St} {a1 : Int32} {a2 : Int32} {Q : Int32 → St → Prop} (hd : 1 ≤ d) 
    (hw : k_PutBy_bestOf_8 E d S a1 a2 0 0 0 Q) :
    k_PutBy_bestOf E d S a1 a2 Q := by
  obtain ⟨d, rfl⟩ := Nat.exists_eq_add_of_le' hd
  show wp E (d + 1) m_PutBy_bestOf 0 [some (.ref 50), some (.int a1), some (.int a2), none, none, none, none] [] (Hp S) (QI Q)
  exact wp_st 6 (fun Z => rfl) (show wp E (d + 1) m_PutBy_bestOf 8 [some (.ref 50), some (.int a1), some (.int a2), some (.int 0), some (.int 0), some (.int 0), none] [] (Hp S) (QI Q) from (hw none))
set_option maxRecDepth 4000 in
theorem w_PutBy_bestOf_8 {E : zX} {d : Nat} {S : St} {a1 : Int32} {a2 : Int32} {a3 : Int32} {a4 : Nat} {a5 : Nat} {Q : Int32 → St → Prop} (hd : 1 ≤ d) 
    (hw : if (S 3 4) ≤ (nI a5) then (
      Q a3 S)
    else (
      a5 < 10 ∧
      k_PutBy_bestOf_29 E d S a1 a2 a3 a4 a5 (S 53 a5) Q)) :
    k_PutBy_bestOf_8 E d S a1 a2 a3 a4 a5 Q := by
  obtain ⟨d, rfl⟩ := Nat.exists_eq_add_of_le' hd
  intro j6
  show wp E (d + 1) m_PutBy_bestOf 8 [some (.ref 50), some (.int a1), some (.int a2), some (.int a3), some (.int (nI a4)), some (.int (nI a5)), j6] [] (Hp S) (QI Q)
  refine wp_st (pc' := 11) (L' := [some (.ref 50), some (.int a1), some (.int a2), some (.int a3), some (.int (nI a4)), some (.int (nI a5)), j6]) (st' := [.ref 50, .int (nI a5)]) (h' := Hp S) 2 (fun Z => rfl) ?_
  refine wp_st (pc' := 14) (L' := [some (.ref 50), some (.int a1), some (.int a2), some (.int a3), some (.int (nI a4)), some (.int (nI a5)), j6]) (st' := [.ref 3, .int (nI a5)]) (h' := Hp S) 1 (fun Z => gfR (E := E) sh50 rfl _) ?_
  refine wp_st (pc' := 17) (L' := [some (.ref 50), some (.int a1), some (.int a2), some (.int a3), some (.int (nI a4)), some (.int (nI a5)), j6]) (st' := [.int (S 3 4), .int (nI a5)]) (h' := Hp S) 1 (fun Z => gfI (E := E) sh3 rfl _) ?_
  by_cases hc : (S 3 4) ≤ (nI a5)
  · rw [if_pos hc] at hw
    refine wp_st (pc' := 127) (L' := [some (.ref 50), some (.int a1), some (.int a2), some (.int a3), some (.int (nI a4)), some (.int (nI a5)), j6]) (st' := []) (h' := Hp S) 1 (fun Z => if_pos hc) ?_
    refine wp_st (pc' := 128) (L' := [some (.ref 50), some (.int a1), some (.int a2), some (.int a3), some (.int (nI a4)), some (.int (nI a5)), j6]) (st' := [.int a3]) (h' := Hp S) 1 (fun Z => rfl) ?_
    exact wp_ret (fun Z => rfl) ⟨_, _, rfl, rfl, hw⟩
  · rw [if_neg hc] at hw
    refine wp_st (pc' := 20) (L' := [some (.ref 50), some (.int a1), some (.int a2), some (.int a3), some (.int (nI a4)), some (.int (nI a5)), j6]) (st' := []) (h' := Hp S) 1 (fun Z => if_neg hc) ?_
    refine wp_st (pc' := 21) (L' := [some (.ref 50), some (.int a1), some (.int a2), some (.int a3), some (.int (nI a4)), some (.int (nI a5)), j6]) (st' := [.ref 50]) (h' := Hp S) 1 (fun Z => rfl) ?_
    refine wp_st (pc' := 24) (L' := [some (.ref 50), some (.int a1), some (.int a2), some (.int a3), some (.int (nI a4)), some (.int (nI a5)), j6]) (st' := [.ref 53]) (h' := Hp S) 1 (fun Z => gfR (E := E) sh50 rfl _) ?_
    refine wp_st (pc' := 26) (L' := [some (.ref 50), some (.int a1), some (.int a2), some (.int a3), some (.int (nI a4)), some (.int (nI a5)), j6]) (st' := [.int (nI a5), .ref 53]) (h' := Hp S) 1 (fun Z => rfl) ?_
    obtain ⟨hi, hw⟩ := hw
    refine wp_st (pc' := 27) (L' := [some (.ref 50), some (.int a1), some (.int a2), some (.int a3), some (.int (nI a4)), some (.int (nI a5)), j6]) (st' := [.int (S 53 a5)]) (h' := Hp S) 1 (fun Z => ldN (E := E) sh53 (by decide) hi [] (fun st => Z (d + 1) m_PutBy_bestOf 27 [some (.ref 50), some (.int a1), some (.int a2), some (.int a3), some (.int (nI a4)), some (.int (nI a5)), j6] st (Hp S))) ?_
    exact wp_st 1 (fun Z => rfl) (show wp E (d + 1) m_PutBy_bestOf 29 [some (.ref 50), some (.int a1), some (.int a2), some (.int a3), some (.int (nI a4)), some (.int (nI a5)), some (.int (S 53 a5))] [] (Hp S) (QI Q) from hw)
set_option maxRecDepth 4000 in
theorem w_PutBy_bestOf_29 {E : zX} {d : Nat} {S : St} {a1 : Int32} {a2 : Int32} {a3 : Int32} {a4 : Nat} {a5 : Nat} {a6 : Int32} {Q : Int32 → St → Prop} (hd : 1 ≤ d) 
    (hw : if (S 3 3) ≤ (nI a4) then (
      k_PutBy_bestOf_61 E d S a1 a2 a3 a4 a5 a6 Q)
    else (
      a4 < 7 ∧
      if (a1 &&& ((1 : Int32) <<< ((S 52 a4) &&& 31))) = 0 then (
        k_PutBy_bestOf_29 E d S a1 a2 a3 (a4 + 1) a5 a6 Q)
      else (
        k_PutBy_bestOf_61 E d S a1 a2 a3 a4 a5 a6 Q))) :
    k_PutBy_bestOf_29 E d S a1 a2 a3 a4 a5 a6 Q := by
  obtain ⟨d, rfl⟩ := Nat.exists_eq_add_of_le' hd
  show wp E (d + 1) m_PutBy_bestOf 29 [some (.ref 50), some (.int a1), some (.int a2), some (.int a3), some (.int (nI a4)), some (.int (nI a5)), some (.int a6)] [] (Hp S) (QI Q)
  refine wp_st (pc' := 32) (L' := [some (.ref 50), some (.int a1), some (.int a2), some (.int a3), some (.int (nI a4)), some (.int (nI a5)), some (.int a6)]) (st' := [.ref 50, .int (nI a4)]) (h' := Hp S) 2 (fun Z => rfl) ?_
  refine wp_st (pc' := 35) (L' := [some (.ref 50), some (.int a1), some (.int a2), some (.int a3), some (.int (nI a4)), some (.int (nI a5)), some (.int a6)]) (st' := [.ref 3, .int (nI a4)]) (h' := Hp S) 1 (fun Z => gfR (E := E) sh50 rfl _) ?_
  refine wp_st (pc' := 38) (L' := [some (.ref 50), some (.int a1), some (.int a2), some (.int a3), some (.int (nI a4)), some (.int (nI a5)), some (.int a6)]) (st' := [.int (S 3 3), .int (nI a4)]) (h' := Hp S) 1 (fun Z => gfI (E := E) sh3 rfl _) ?_
  by_cases hc : (S 3 3) ≤ (nI a4)
  · rw [if_pos hc] at hw
    refine wp_st (pc' := 61) (L' := [some (.ref 50), some (.int a1), some (.int a2), some (.int a3), some (.int (nI a4)), some (.int (nI a5)), some (.int a6)]) (st' := []) (h' := Hp S) 1 (fun Z => if_pos hc) ?_
    exact (show wp E (d + 1) m_PutBy_bestOf 61 [some (.ref 50), some (.int a1), some (.int a2), some (.int a3), some (.int (nI a4)), some (.int (nI a5)), some (.int a6)] [] (Hp S) (QI Q) from hw)
  · rw [if_neg hc] at hw
    refine wp_st (pc' := 41) (L' := [some (.ref 50), some (.int a1), some (.int a2), some (.int a3), some (.int (nI a4)), some (.int (nI a5)), some (.int a6)]) (st' := []) (h' := Hp S) 1 (fun Z => if_neg hc) ?_
    refine wp_st (pc' := 44) (L' := [some (.ref 50), some (.int a1), some (.int a2), some (.int a3), some (.int (nI a4)), some (.int (nI a5)), some (.int a6)]) (st' := [.ref 50, .int 1, .int a1]) (h' := Hp S) 3 (fun Z => rfl) ?_
    refine wp_st (pc' := 47) (L' := [some (.ref 50), some (.int a1), some (.int a2), some (.int a3), some (.int (nI a4)), some (.int (nI a5)), some (.int a6)]) (st' := [.ref 52, .int 1, .int a1]) (h' := Hp S) 1 (fun Z => gfR (E := E) sh50 rfl _) ?_
    refine wp_st (pc' := 49) (L' := [some (.ref 50), some (.int a1), some (.int a2), some (.int a3), some (.int (nI a4)), some (.int (nI a5)), some (.int a6)]) (st' := [.int (nI a4), .ref 52, .int 1, .int a1]) (h' := Hp S) 1 (fun Z => rfl) ?_
    obtain ⟨hi, hw⟩ := hw
    refine wp_st (pc' := 50) (L' := [some (.ref 50), some (.int a1), some (.int a2), some (.int a3), some (.int (nI a4)), some (.int (nI a5)), some (.int a6)]) (st' := [.int (S 52 a4), .int 1, .int a1]) (h' := Hp S) 1 (fun Z => ldN (E := E) sh52 (by decide) hi [.int 1, .int a1] (fun st => Z (d + 1) m_PutBy_bestOf 50 [some (.ref 50), some (.int a1), some (.int a2), some (.int a3), some (.int (nI a4)), some (.int (nI a5)), some (.int a6)] st (Hp S))) ?_
    refine wp_st (pc' := 52) (L' := [some (.ref 50), some (.int a1), some (.int a2), some (.int a3), some (.int (nI a4)), some (.int (nI a5)), some (.int a6)]) (st' := [.int (a1 &&& ((1 : Int32) <<< ((S 52 a4) &&& 31)))]) (h' := Hp S) 2 (fun Z => rfl) ?_
    by_cases hc : (a1 &&& ((1 : Int32) <<< ((S 52 a4) &&& 31))) = 0
    · rw [if_pos hc] at hw
      refine wp_st (pc' := 55) (L' := [some (.ref 50), some (.int a1), some (.int a2), some (.int a3), some (.int (nI a4)), some (.int (nI a5)), some (.int a6)]) (st' := []) (h' := Hp S) 1 (fun Z => if_pos hc) ?_
      refine wp_st (pc' := 58) (L' := [some (.ref 50), some (.int a1), some (.int a2), some (.int a3), some (.int (nI (a4 + 1))), some (.int (nI a5)), some (.int a6)]) (st' := []) (h' := Hp S) 1 (fun Z => by rw [← nI_add a4 1]; rfl) ?_
      exact wp_st 1 (fun Z => rfl) (show wp E (d + 1) m_PutBy_bestOf 29 [some (.ref 50), some (.int a1), some (.int a2), some (.int a3), some (.int (nI (a4 + 1))), some (.int (nI a5)), some (.int a6)] [] (Hp S) (QI Q) from hw)
    · rw [if_neg hc] at hw
      refine wp_st (pc' := 61) (L' := [some (.ref 50), some (.int a1), some (.int a2), some (.int a3), some (.int (nI a4)), some (.int (nI a5)), some (.int a6)]) (st' := []) (h' := Hp S) 1 (fun Z => if_neg hc) ?_
      exact (show wp E (d + 1) m_PutBy_bestOf 61 [some (.ref 50), some (.int a1), some (.int a2), some (.int a3), some (.int (nI a4)), some (.int (nI a5)), some (.int a6)] [] (Hp S) (QI Q) from hw)
set_option maxRecDepth 4000 in
theorem w_PutBy_bestOf_61 {E : zX} {d : Nat} {S : St} {a1 : Int32} {a2 : Int32} {a3 : Int32} {a4 : Nat} {a5 : Nat} {a6 : Int32} {Q : Int32 → St → Prop} (hd : 1 ≤ d) 
    (hw : if (S 3 3) ≤ (nI a4) then (
      k_PutBy_bestOf_8 E d S a1 a2 a3 a4 (a5 + 1) Q)
    else (
      if (a2 &&& ((1 : Int32) <<< (a6 &&& 31))) = 0 then (
        k_PutBy_bestOf_8 E d S a1 a2 a3 a4 (a5 + 1) Q)
      else (
        ∃ m1 : Nat, a6 = nI m1 ∧ m1 < 10 ∧
        a4 < 7 ∧
        k_Scene_temperOf E (d - 1) S 25 (S 52 a4) (fun x2 S3 =>
        if (S 5 m1) < x2 then (
          k_PutBy_bestOf_8 E d S3 a1 a2 a3 a4 (a5 + 1) Q)
        else (
          k_PutBy_worthOf E (d - 1) S3 a6 (fun x4 S5 =>
          k_PutBy_bestOf_8 E d S5 a1 a2 (a3 + x4) (a4 + 1) (a5 + 1) Q)))))) :
    k_PutBy_bestOf_61 E d S a1 a2 a3 a4 a5 a6 Q := by
  obtain ⟨d, rfl⟩ := Nat.exists_eq_add_of_le' hd
  show wp E (d + 1) m_PutBy_bestOf 61 [some (.ref 50), some (.int a1), some (.int a2), some (.int a3), some (.int (nI a4)), some (.int (nI a5)), some (.int a6)] [] (Hp S) (QI Q)
  refine wp_st (pc' := 64) (L' := [some (.ref 50), some (.int a1), some (.int a2), some (.int a3), some (.int (nI a4)), some (.int (nI a5)), some (.int a6)]) (st' := [.ref 50, .int (nI a4)]) (h' := Hp S) 2 (fun Z => rfl) ?_
  refine wp_st (pc' := 67) (L' := [some (.ref 50), some (.int a1), some (.int a2), some (.int a3), some (.int (nI a4)), some (.int (nI a5)), some (.int a6)]) (st' := [.ref 3, .int (nI a4)]) (h' := Hp S) 1 (fun Z => gfR (E := E) sh50 rfl _) ?_
  refine wp_st (pc' := 70) (L' := [some (.ref 50), some (.int a1), some (.int a2), some (.int a3), some (.int (nI a4)), some (.int (nI a5)), some (.int a6)]) (st' := [.int (S 3 3), .int (nI a4)]) (h' := Hp S) 1 (fun Z => gfI (E := E) sh3 rfl _) ?_
  by_cases hc : (S 3 3) ≤ (nI a4)
  · rw [if_pos hc] at hw
    refine wp_st (pc' := 121) (L' := [some (.ref 50), some (.int a1), some (.int a2), some (.int a3), some (.int (nI a4)), some (.int (nI a5)), some (.int a6)]) (st' := []) (h' := Hp S) 1 (fun Z => if_pos hc) ?_
    refine wp_st (pc' := 124) (L' := [some (.ref 50), some (.int a1), some (.int a2), some (.int a3), some (.int (nI a4)), some (.int (nI (a5 + 1))), some (.int a6)]) (st' := []) (h' := Hp S) 1 (fun Z => by rw [← nI_add a5 1]; rfl) ?_
    exact wp_st 1 (fun Z => rfl) (show wp E (d + 1) m_PutBy_bestOf 8 [some (.ref 50), some (.int a1), some (.int a2), some (.int a3), some (.int (nI a4)), some (.int (nI (a5 + 1))), some (.int a6)] [] (Hp S) (QI Q) from (hw (some (.int a6))))
  · rw [if_neg hc] at hw
    refine wp_st (pc' := 73) (L' := [some (.ref 50), some (.int a1), some (.int a2), some (.int a3), some (.int (nI a4)), some (.int (nI a5)), some (.int a6)]) (st' := []) (h' := Hp S) 1 (fun Z => if_neg hc) ?_
    refine wp_st (pc' := 79) (L' := [some (.ref 50), some (.int a1), some (.int a2), some (.int a3), some (.int (nI a4)), some (.int (nI a5)), some (.int a6)]) (st' := [.int (a2 &&& ((1 : Int32) <<< (a6 &&& 31)))]) (h' := Hp S) 5 (fun Z => rfl) ?_
    by_cases hc : (a2 &&& ((1 : Int32) <<< (a6 &&& 31))) = 0
    · rw [if_pos hc] at hw
      refine wp_st (pc' := 121) (L' := [some (.ref 50), some (.int a1), some (.int a2), some (.int a3), some (.int (nI a4)), some (.int (nI a5)), some (.int a6)]) (st' := []) (h' := Hp S) 1 (fun Z => if_pos hc) ?_
      refine wp_st (pc' := 124) (L' := [some (.ref 50), some (.int a1), some (.int a2), some (.int a3), some (.int (nI a4)), some (.int (nI (a5 + 1))), some (.int a6)]) (st' := []) (h' := Hp S) 1 (fun Z => by rw [← nI_add a5 1]; rfl) ?_
      exact wp_st 1 (fun Z => rfl) (show wp E (d + 1) m_PutBy_bestOf 8 [some (.ref 50), some (.int a1), some (.int a2), some (.int a3), some (.int (nI a4)), some (.int (nI (a5 + 1))), some (.int a6)] [] (Hp S) (QI Q) from (hw (some (.int a6))))
    · rw [if_neg hc] at hw
      refine wp_st (pc' := 82) (L' := [some (.ref 50), some (.int a1), some (.int a2), some (.int a3), some (.int (nI a4)), some (.int (nI a5)), some (.int a6)]) (st' := []) (h' := Hp S) 1 (fun Z => if_neg hc) ?_
      refine wp_st (pc' := 83) (L' := [some (.ref 50), some (.int a1), some (.int a2), some (.int a3), some (.int (nI a4)), some (.int (nI a5)), some (.int a6)]) (st' := [.ref 50]) (h' := Hp S) 1 (fun Z => rfl) ?_
      refine wp_st (pc' := 86) (L' := [some (.ref 50), some (.int a1), some (.int a2), some (.int a3), some (.int (nI a4)), some (.int (nI a5)), some (.int a6)]) (st' := [.ref 3]) (h' := Hp S) 1 (fun Z => gfR (E := E) sh50 rfl _) ?_
      refine wp_st (pc' := 89) (L' := [some (.ref 50), some (.int a1), some (.int a2), some (.int a3), some (.int (nI a4)), some (.int (nI a5)), some (.int a6)]) (st' := [.ref 5]) (h' := Hp S) 1 (fun Z => gfR (E := E) sh3 rfl _) ?_
      refine wp_st (pc' := 91) (L' := [some (.ref 50), some (.int a1), some (.int a2), some (.int a3), some (.int (nI a4)), some (.int (nI a5)), some (.int a6)]) (st' := [.int a6, .ref 5]) (h' := Hp S) 1 (fun Z => rfl) ?_
      obtain ⟨m1, em, hi, hw⟩ := hw
      refine wp_st (pc' := 92) (L' := [some (.ref 50), some (.int a1), some (.int a2), some (.int a3), some (.int (nI a4)), some (.int (nI a5)), some (.int a6)]) (st' := [.int (S 5 m1)]) (h' := Hp S) 1 (fun Z => (congrArg (fun v => zit E 1 Z (d + 1) m_PutBy_bestOf 91 [some (.ref 50), some (.int a1), some (.int a2), some (.int a3), some (.int (nI a4)), some (.int (nI a5)), some (.int a6)] [.int v, .ref 5] (Hp S)) em).trans (ldN (E := E) sh5 (by decide) hi [] (fun st => Z (d + 1) m_PutBy_bestOf 92 [some (.ref 50), some (.int a1), some (.int a2), some (.int a3), some (.int (nI a4)), some (.int (nI a5)), some (.int a6)] st (Hp S)))) ?_
      refine wp_st (pc' := 93) (L' := [some (.ref 50), some (.int a1), some (.int a2), some (.int a3), some (.int (nI a4)), some (.int (nI a5)), some (.int a6)]) (st' := [.ref 50, .int (S 5 m1)]) (h' := Hp S) 1 (fun Z => rfl) ?_
      refine wp_st (pc' := 96) (L' := [some (.ref 50), some (.int a1), some (.int a2), some (.int a3), some (.int (nI a4)), some (.int (nI a5)), some (.int a6)]) (st' := [.ref 25, .int (S 5 m1)]) (h' := Hp S) 1 (fun Z => gfR (E := E) sh50 rfl _) ?_
      refine wp_st (pc' := 97) (L' := [some (.ref 50), some (.int a1), some (.int a2), some (.int a3), some (.int (nI a4)), some (.int (nI a5)), some (.int a6)]) (st' := [.ref 50, .ref 25, .int (S 5 m1)]) (h' := Hp S) 1 (fun Z => rfl) ?_
      refine wp_st (pc' := 100) (L' := [some (.ref 50), some (.int a1), some (.int a2), some (.int a3), some (.int (nI a4)), some (.int (nI a5)), some (.int a6)]) (st' := [.ref 52, .ref 25, .int (S 5 m1)]) (h' := Hp S) 1 (fun Z => gfR (E := E) sh50 rfl _) ?_
      refine wp_st (pc' := 102) (L' := [some (.ref 50), some (.int a1), some (.int a2), some (.int a3), some (.int (nI a4)), some (.int (nI a5)), some (.int a6)]) (st' := [.int (nI a4), .ref 52, .ref 25, .int (S 5 m1)]) (h' := Hp S) 1 (fun Z => rfl) ?_
      obtain ⟨hi, hw⟩ := hw
      refine wp_st (pc' := 103) (L' := [some (.ref 50), some (.int a1), some (.int a2), some (.int a3), some (.int (nI a4)), some (.int (nI a5)), some (.int a6)]) (st' := [.int (S 52 a4), .ref 25, .int (S 5 m1)]) (h' := Hp S) 1 (fun Z => ldN (E := E) sh52 (by decide) hi [.ref 25, .int (S 5 m1)] (fun st => Z (d + 1) m_PutBy_bestOf 103 [some (.ref 50), some (.int a1), some (.int a2), some (.int a3), some (.int (nI a4)), some (.int (nI a5)), some (.int a6)] st (Hp S))) ?_
      refine wp_call (pc' := 106) (rest := [.int (S 5 m1)]) (fun Z => rfl) (isO_of sh25) hw ?_
      rintro o h1 ⟨x2, S3, rfl, rfl, hw⟩
      refine ⟨_, rfl, ?_⟩
      show wp E (d + 1) m_PutBy_bestOf 106 [some (.ref 50), some (.int a1), some (.int a2), some (.int a3), some (.int (nI a4)), some (.int (nI a5)), some (.int a6)] [.int x2, .int (S 5 m1)] (Hp S3) (QI Q)
      by_cases hc : (S 5 m1) < x2
      · rw [if_pos hc] at hw
        refine wp_st (pc' := 121) (L' := [some (.ref 50), some (.int a1), some (.int a2), some (.int a3), some (.int (nI a4)), some (.int (nI a5)), some (.int a6)]) (st' := []) (h' := Hp S3) 1 (fun Z => if_pos hc) ?_
        refine wp_st (pc' := 124) (L' := [some (.ref 50), some (.int a1), some (.int a2), some (.int a3), some (.int (nI a4)), some (.int (nI (a5 + 1))), some (.int a6)]) (st' := []) (h' := Hp S3) 1 (fun Z => by rw [← nI_add a5 1]; rfl) ?_
        exact wp_st 1 (fun Z => rfl) (show wp E (d + 1) m_PutBy_bestOf 8 [some (.ref 50), some (.int a1), some (.int a2), some (.int a3), some (.int (nI a4)), some (.int (nI (a5 + 1))), some (.int a6)] [] (Hp S3) (QI Q) from (hw (some (.int a6))))
      · rw [if_neg hc] at hw
        refine wp_st (pc' := 109) (L' := [some (.ref 50), some (.int a1), some (.int a2), some (.int a3), some (.int (nI a4)), some (.int (nI a5)), some (.int a6)]) (st' := []) (h' := Hp S3) 1 (fun Z => if_neg hc) ?_
        refine wp_st (pc' := 113) (L' := [some (.ref 50), some (.int a1), some (.int a2), some (.int a3), some (.int (nI a4)), some (.int (nI a5)), some (.int a6)]) (st' := [.int a6, .ref 50, .int a3]) (h' := Hp S3) 3 (fun Z => rfl) ?_
        refine wp_call (pc' := 116) (rest := [.int a3]) (fun Z => rfl) (isO_of sh50) hw ?_
        rintro o h1 ⟨x4, S5, rfl, rfl, hw⟩
        refine ⟨_, rfl, ?_⟩
        show wp E (d + 1) m_PutBy_bestOf 116 [some (.ref 50), some (.int a1), some (.int a2), some (.int a3), some (.int (nI a4)), some (.int (nI a5)), some (.int a6)] [.int x4, .int a3] (Hp S5) (QI Q)
        refine wp_st (pc' := 118) (L' := [some (.ref 50), some (.int a1), some (.int a2), some (.int (a3 + x4)), some (.int (nI a4)), some (.int (nI a5)), some (.int a6)]) (st' := []) (h' := Hp S5) 2 (fun Z => rfl) ?_
        refine wp_st (pc' := 121) (L' := [some (.ref 50), some (.int a1), some (.int a2), some (.int (a3 + x4)), some (.int (nI (a4 + 1))), some (.int (nI a5)), some (.int a6)]) (st' := []) (h' := Hp S5) 1 (fun Z => by rw [← nI_add a4 1]; rfl) ?_
        refine wp_st (pc' := 124) (L' := [some (.ref 50), some (.int a1), some (.int a2), some (.int (a3 + x4)), some (.int (nI (a4 + 1))), some (.int (nI (a5 + 1))), some (.int a6)]) (st' := []) (h' := Hp S5) 1 (fun Z => by rw [← nI_add a5 1]; rfl) ?_
        exact wp_st 1 (fun Z => rfl) (show wp E (d + 1) m_PutBy_bestOf 8 [some (.ref 50), some (.int a1), some (.int a2), some (.int (a3 + x4)), some (.int (nI (a4 + 1))), some (.int (nI (a5 + 1))), some (.int a6)] [] (Hp S5) (QI Q) from (hw (some (.int a6))))
set_option maxRecDepth 4000 in
theorem w_PutBy_worthOf {E : zX} {d : Nat} {S : St} {a1 : Nat} {Q : Int32 → St → Prop} 
    (hw : a1 < 10 ∧
    Q ((1000 : Int32) - (S 5 a1)) S) :
    k_PutBy_worthOf E d S (nI a1) Q := by
  show wp E d m_PutBy_worthOf 0 [some (.ref 50), some (.int (nI a1))] [] (Hp S) (QI Q)
  refine wp_st (pc' := 4) (L' := [some (.ref 50), some (.int (nI a1))]) (st' := [.ref 50, .int 1000]) (h' := Hp S) 2 (fun Z => rfl) ?_
  refine wp_st (pc' := 7) (L' := [some (.ref 50), some (.int (nI a1))]) (st' := [.ref 3, .int 1000]) (h' := Hp S) 1 (fun Z => gfR (E := E) sh50 rfl _) ?_
  refine wp_st (pc' := 10) (L' := [some (.ref 50), some (.int (nI a1))]) (st' := [.ref 5, .int 1000]) (h' := Hp S) 1 (fun Z => gfR (E := E) sh3 rfl _) ?_
  refine wp_st (pc' := 11) (L' := [some (.ref 50), some (.int (nI a1))]) (st' := [.int (nI a1), .ref 5, .int 1000]) (h' := Hp S) 1 (fun Z => rfl) ?_
  obtain ⟨hi, hw⟩ := hw
  refine wp_st (pc' := 12) (L' := [some (.ref 50), some (.int (nI a1))]) (st' := [.int (S 5 a1), .int 1000]) (h' := Hp S) 1 (fun Z => ldN (E := E) sh5 (by decide) hi [.int 1000] (fun st => Z d m_PutBy_worthOf 12 [some (.ref 50), some (.int (nI a1))] st (Hp S))) ?_
  refine wp_st (pc' := 13) (L' := [some (.ref 50), some (.int (nI a1))]) (st' := [.int ((1000 : Int32) - (S 5 a1))]) (h' := Hp S) 1 (fun Z => rfl) ?_
  exact wp_ret (fun Z => rfl) ⟨_, _, rfl, rfl, hw⟩
set_option maxRecDepth 4000 in
theorem w_PutBy_firstFor {E : zX} {d : Nat} {S : St} {a1 : Nat} {a2 : Int32} {a3 : Int32} {a4 : Int32} {Q : Int32 → St → Prop} (hd : 1 ≤ d) 
    (hw : k_PutBy_firstFor_3 E d S a1 a2 a3 a4 0 Q) :
    k_PutBy_firstFor E d S (nI a1) a2 a3 a4 Q := by
  obtain ⟨d, rfl⟩ := Nat.exists_eq_add_of_le' hd
  show wp E (d + 1) m_PutBy_firstFor 0 [some (.ref 50), some (.int (nI a1)), some (.int a2), some (.int a3), some (.int a4), none] [] (Hp S) (QI Q)
  exact wp_st 2 (fun Z => rfl) (show wp E (d + 1) m_PutBy_firstFor 3 [some (.ref 50), some (.int (nI a1)), some (.int a2), some (.int a3), some (.int a4), some (.int 0)] [] (Hp S) (QI Q) from hw)
set_option maxRecDepth 4000 in
theorem w_PutBy_firstFor_3 {E : zX} {d : Nat} {S : St} {a1 : Nat} {a2 : Int32} {a3 : Int32} {a4 : Int32} {a5 : Nat} {Q : Int32 → St → Prop} (hd : 1 ≤ d) 
    (hw : if (S 3 4) ≤ (nI a5) then (
      Q ((-1) : Int32) S)
    else (
      if (a3 &&& (bt a5)) = 0 then (
        k_PutBy_firstFor_3 E d S a1 a2 a3 a4 (a5 + 1) Q)
      else (
        a5 < 10 ∧
        k_Scene_temperOf E (d - 1) S 25 (nI a1) (fun x1 S2 =>
        if (S 5 a5) < x1 then (
          k_PutBy_firstFor_3 E d S2 a1 a2 a3 a4 (a5 + 1) Q)
        else (
          k_PutBy_worthOf E (d - 1) S2 (nI a5) (fun x3 S4 =>
          k_PutBy_bestOf E (d - 1) S4 a2 (a3 &&& ((bt a5) ^^^ ((-1) : Int32))) (fun x5 S6 =>
          if (x3 + x5) = a4 then (
            Q (nI a5) S6)
          else (
            k_PutBy_firstFor_3 E d S6 a1 a2 a3 a4 (a5 + 1) Q)))))))) :
    k_PutBy_firstFor_3 E d S a1 a2 a3 a4 a5 Q := by
  obtain ⟨d, rfl⟩ := Nat.exists_eq_add_of_le' hd
  show wp E (d + 1) m_PutBy_firstFor 3 [some (.ref 50), some (.int (nI a1)), some (.int a2), some (.int a3), some (.int a4), some (.int (nI a5))] [] (Hp S) (QI Q)
  refine wp_st (pc' := 6) (L' := [some (.ref 50), some (.int (nI a1)), some (.int a2), some (.int a3), some (.int a4), some (.int (nI a5))]) (st' := [.ref 50, .int (nI a5)]) (h' := Hp S) 2 (fun Z => rfl) ?_
  refine wp_st (pc' := 9) (L' := [some (.ref 50), some (.int (nI a1)), some (.int a2), some (.int a3), some (.int a4), some (.int (nI a5))]) (st' := [.ref 3, .int (nI a5)]) (h' := Hp S) 1 (fun Z => gfR (E := E) sh50 rfl _) ?_
  refine wp_st (pc' := 12) (L' := [some (.ref 50), some (.int (nI a1)), some (.int a2), some (.int a3), some (.int a4), some (.int (nI a5))]) (st' := [.int (S 3 4), .int (nI a5)]) (h' := Hp S) 1 (fun Z => gfI (E := E) sh3 rfl _) ?_
  by_cases hc : (S 3 4) ≤ (nI a5)
  · rw [if_pos hc] at hw
    refine wp_st (pc' := 79) (L' := [some (.ref 50), some (.int (nI a1)), some (.int a2), some (.int a3), some (.int a4), some (.int (nI a5))]) (st' := []) (h' := Hp S) 1 (fun Z => if_pos hc) ?_
    refine wp_st (pc' := 80) (L' := [some (.ref 50), some (.int (nI a1)), some (.int a2), some (.int a3), some (.int a4), some (.int (nI a5))]) (st' := [.int (-1)]) (h' := Hp S) 1 (fun Z => congrArg (fun v => Z (d + 1) m_PutBy_firstFor 80 [some (.ref 50), some (.int (nI a1)), some (.int a2), some (.int a3), some (.int a4), some (.int (nI a5))] [.int v] (Hp S)) (show Int32.ofInt (-1) = (-1) by decide)) ?_
    exact wp_ret (fun Z => rfl) ⟨_, _, rfl, rfl, hw⟩
  · rw [if_neg hc] at hw
    refine wp_st (pc' := 15) (L' := [some (.ref 50), some (.int (nI a1)), some (.int a2), some (.int a3), some (.int a4), some (.int (nI a5))]) (st' := []) (h' := Hp S) 1 (fun Z => if_neg hc) ?_
    refine wp_st (pc' := 21) (L' := [some (.ref 50), some (.int (nI a1)), some (.int a2), some (.int a3), some (.int a4), some (.int (nI a5))]) (st' := [.int (a3 &&& (bt a5))]) (h' := Hp S) 5 (fun Z => rfl) ?_
    by_cases hc : (a3 &&& (bt a5)) = 0
    · rw [if_pos hc] at hw
      refine wp_st (pc' := 73) (L' := [some (.ref 50), some (.int (nI a1)), some (.int a2), some (.int a3), some (.int a4), some (.int (nI a5))]) (st' := []) (h' := Hp S) 1 (fun Z => if_pos hc) ?_
      refine wp_st (pc' := 76) (L' := [some (.ref 50), some (.int (nI a1)), some (.int a2), some (.int a3), some (.int a4), some (.int (nI (a5 + 1)))]) (st' := []) (h' := Hp S) 1 (fun Z => by rw [← nI_add a5 1]; rfl) ?_
      exact wp_st 1 (fun Z => rfl) (show wp E (d + 1) m_PutBy_firstFor 3 [some (.ref 50), some (.int (nI a1)), some (.int a2), some (.int a3), some (.int a4), some (.int (nI (a5 + 1)))] [] (Hp S) (QI Q) from hw)
    · rw [if_neg hc] at hw
      refine wp_st (pc' := 24) (L' := [some (.ref 50), some (.int (nI a1)), some (.int a2), some (.int a3), some (.int a4), some (.int (nI a5))]) (st' := []) (h' := Hp S) 1 (fun Z => if_neg hc) ?_
      refine wp_st (pc' := 25) (L' := [some (.ref 50), some (.int (nI a1)), some (.int a2), some (.int a3), some (.int a4), some (.int (nI a5))]) (st' := [.ref 50]) (h' := Hp S) 1 (fun Z => rfl) ?_
      refine wp_st (pc' := 28) (L' := [some (.ref 50), some (.int (nI a1)), some (.int a2), some (.int a3), some (.int a4), some (.int (nI a5))]) (st' := [.ref 3]) (h' := Hp S) 1 (fun Z => gfR (E := E) sh50 rfl _) ?_
      refine wp_st (pc' := 31) (L' := [some (.ref 50), some (.int (nI a1)), some (.int a2), some (.int a3), some (.int a4), some (.int (nI a5))]) (st' := [.ref 5]) (h' := Hp S) 1 (fun Z => gfR (E := E) sh3 rfl _) ?_
      refine wp_st (pc' := 33) (L' := [some (.ref 50), some (.int (nI a1)), some (.int a2), some (.int a3), some (.int a4), some (.int (nI a5))]) (st' := [.int (nI a5), .ref 5]) (h' := Hp S) 1 (fun Z => rfl) ?_
      obtain ⟨hi, hw⟩ := hw
      refine wp_st (pc' := 34) (L' := [some (.ref 50), some (.int (nI a1)), some (.int a2), some (.int a3), some (.int a4), some (.int (nI a5))]) (st' := [.int (S 5 a5)]) (h' := Hp S) 1 (fun Z => ldN (E := E) sh5 (by decide) hi [] (fun st => Z (d + 1) m_PutBy_firstFor 34 [some (.ref 50), some (.int (nI a1)), some (.int a2), some (.int a3), some (.int a4), some (.int (nI a5))] st (Hp S))) ?_
      refine wp_st (pc' := 35) (L' := [some (.ref 50), some (.int (nI a1)), some (.int a2), some (.int a3), some (.int a4), some (.int (nI a5))]) (st' := [.ref 50, .int (S 5 a5)]) (h' := Hp S) 1 (fun Z => rfl) ?_
      refine wp_st (pc' := 38) (L' := [some (.ref 50), some (.int (nI a1)), some (.int a2), some (.int a3), some (.int a4), some (.int (nI a5))]) (st' := [.ref 25, .int (S 5 a5)]) (h' := Hp S) 1 (fun Z => gfR (E := E) sh50 rfl _) ?_
      refine wp_st (pc' := 39) (L' := [some (.ref 50), some (.int (nI a1)), some (.int a2), some (.int a3), some (.int a4), some (.int (nI a5))]) (st' := [.int (nI a1), .ref 25, .int (S 5 a5)]) (h' := Hp S) 1 (fun Z => rfl) ?_
      refine wp_call (pc' := 42) (rest := [.int (S 5 a5)]) (fun Z => rfl) (isO_of sh25) hw ?_
      rintro o h1 ⟨x1, S2, rfl, rfl, hw⟩
      refine ⟨_, rfl, ?_⟩
      show wp E (d + 1) m_PutBy_firstFor 42 [some (.ref 50), some (.int (nI a1)), some (.int a2), some (.int a3), some (.int a4), some (.int (nI a5))] [.int x1, .int (S 5 a5)] (Hp S2) (QI Q)
      by_cases hc : (S 5 a5) < x1
      · rw [if_pos hc] at hw
        refine wp_st (pc' := 73) (L' := [some (.ref 50), some (.int (nI a1)), some (.int a2), some (.int a3), some (.int a4), some (.int (nI a5))]) (st' := []) (h' := Hp S2) 1 (fun Z => if_pos hc) ?_
        refine wp_st (pc' := 76) (L' := [some (.ref 50), some (.int (nI a1)), some (.int a2), some (.int a3), some (.int a4), some (.int (nI (a5 + 1)))]) (st' := []) (h' := Hp S2) 1 (fun Z => by rw [← nI_add a5 1]; rfl) ?_
        exact wp_st 1 (fun Z => rfl) (show wp E (d + 1) m_PutBy_firstFor 3 [some (.ref 50), some (.int (nI a1)), some (.int a2), some (.int a3), some (.int a4), some (.int (nI (a5 + 1)))] [] (Hp S2) (QI Q) from hw)
      · rw [if_neg hc] at hw
        refine wp_st (pc' := 45) (L' := [some (.ref 50), some (.int (nI a1)), some (.int a2), some (.int a3), some (.int a4), some (.int (nI a5))]) (st' := []) (h' := Hp S2) 1 (fun Z => if_neg hc) ?_
        refine wp_st (pc' := 48) (L' := [some (.ref 50), some (.int (nI a1)), some (.int a2), some (.int a3), some (.int a4), some (.int (nI a5))]) (st' := [.int (nI a5), .ref 50]) (h' := Hp S2) 2 (fun Z => rfl) ?_
        refine wp_call (pc' := 51) (rest := []) (fun Z => rfl) (isO_of sh50) hw ?_
        rintro o h1 ⟨x3, S4, rfl, rfl, hw⟩
        refine ⟨_, rfl, ?_⟩
        show wp E (d + 1) m_PutBy_firstFor 51 [some (.ref 50), some (.int (nI a1)), some (.int a2), some (.int a3), some (.int a4), some (.int (nI a5))] [.int x3] (Hp S4) (QI Q)
        refine wp_st (pc' := 58) (L' := [some (.ref 50), some (.int (nI a1)), some (.int a2), some (.int a3), some (.int a4), some (.int (nI a5))]) (st' := [.int (bt a5), .int a3, .int a2, .ref 50, .int x3]) (h' := Hp S4) 6 (fun Z => rfl) ?_
        refine wp_st (pc' := 59) (L' := [some (.ref 50), some (.int (nI a1)), some (.int a2), some (.int a3), some (.int a4), some (.int (nI a5))]) (st' := [.int (-1), .int (bt a5), .int a3, .int a2, .ref 50, .int x3]) (h' := Hp S4) 1 (fun Z => congrArg (fun v => Z (d + 1) m_PutBy_firstFor 59 [some (.ref 50), some (.int (nI a1)), some (.int a2), some (.int a3), some (.int a4), some (.int (nI a5))] [.int v, .int (bt a5), .int a3, .int a2, .ref 50, .int x3] (Hp S4)) (show Int32.ofInt (-1) = (-1) by decide)) ?_
        refine wp_st (pc' := 61) (L' := [some (.ref 50), some (.int (nI a1)), some (.int a2), some (.int a3), some (.int a4), some (.int (nI a5))]) (st' := [.int (a3 &&& ((bt a5) ^^^ ((-1) : Int32))), .int a2, .ref 50, .int x3]) (h' := Hp S4) 2 (fun Z => rfl) ?_
        refine wp_call (pc' := 64) (rest := [.int x3]) (fun Z => rfl) (isO_of sh50) hw ?_
        rintro o h1 ⟨x5, S6, rfl, rfl, hw⟩
        refine ⟨_, rfl, ?_⟩
        show wp E (d + 1) m_PutBy_firstFor 64 [some (.ref 50), some (.int (nI a1)), some (.int a2), some (.int a3), some (.int a4), some (.int (nI a5))] [.int x5, .int x3] (Hp S6) (QI Q)
        refine wp_st (pc' := 67) (L' := [some (.ref 50), some (.int (nI a1)), some (.int a2), some (.int a3), some (.int a4), some (.int (nI a5))]) (st' := [.int a4, .int (x3 + x5)]) (h' := Hp S6) 2 (fun Z => rfl) ?_
        by_cases hc : (x3 + x5) = a4
        · rw [if_pos hc] at hw
          refine wp_st (pc' := 70) (L' := [some (.ref 50), some (.int (nI a1)), some (.int a2), some (.int a3), some (.int a4), some (.int (nI a5))]) (st' := []) (h' := Hp S6) 1 (fun Z => if_pos hc) ?_
          refine wp_st (pc' := 72) (L' := [some (.ref 50), some (.int (nI a1)), some (.int a2), some (.int a3), some (.int a4), some (.int (nI a5))]) (st' := [.int (nI a5)]) (h' := Hp S6) 1 (fun Z => rfl) ?_
          exact wp_ret (fun Z => rfl) ⟨_, _, rfl, rfl, hw⟩
        · rw [if_neg hc] at hw
          refine wp_st (pc' := 73) (L' := [some (.ref 50), some (.int (nI a1)), some (.int a2), some (.int a3), some (.int a4), some (.int (nI a5))]) (st' := []) (h' := Hp S6) 1 (fun Z => if_neg hc) ?_
          refine wp_st (pc' := 76) (L' := [some (.ref 50), some (.int (nI a1)), some (.int a2), some (.int a3), some (.int a4), some (.int (nI (a5 + 1)))]) (st' := []) (h' := Hp S6) 1 (fun Z => by rw [← nI_add a5 1]; rfl) ?_
          exact wp_st 1 (fun Z => rfl) (show wp E (d + 1) m_PutBy_firstFor 3 [some (.ref 50), some (.int (nI a1)), some (.int a2), some (.int a3), some (.int a4), some (.int (nI (a5 + 1)))] [] (Hp S6) (QI Q) from hw)
set_option maxRecDepth 4000 in
theorem w_PutBy_take {E : zX} {d : Nat} {S : St} {a1 : Nat} {a2 : Nat} {Q : St → Prop} (hd : 1 ≤ d) 
    (hw : a1 < 7 ∧
    ∀ S1, S1 = up S 51 a1 (nI a2) →
    ∀ S2, S2 = up S1 50 0 ((S1 50 0) + (1 : Int32)) →
    a2 < 10 ∧
    k_Scene_temperOf E (d - 1) S2 25 (nI a1) (fun x3 S4 =>
    ∀ S5, S5 = up S4 50 1 ((S2 50 1) + ((S2 5 a2) - x3)) →
    Q S5)) :
    k_PutBy_take E d S (nI a1) (nI a2) Q := by
  obtain ⟨d, rfl⟩ := Nat.exists_eq_add_of_le' hd
  show wp E (d + 1) m_PutBy_take 0 [some (.ref 50), some (.int (nI a1)), some (.int (nI a2))] [] (Hp S) (QV Q)
  refine wp_st (pc' := 1) (L' := [some (.ref 50), some (.int (nI a1)), some (.int (nI a2))]) (st' := [.ref 50]) (h' := Hp S) 1 (fun Z => rfl) ?_
  refine wp_st (pc' := 4) (L' := [some (.ref 50), some (.int (nI a1)), some (.int (nI a2))]) (st' := [.ref 51]) (h' := Hp S) 1 (fun Z => gfR (E := E) sh50 rfl _) ?_
  refine wp_st (pc' := 6) (L' := [some (.ref 50), some (.int (nI a1)), some (.int (nI a2))]) (st' := [.int (nI a2), .int (nI a1), .ref 51]) (h' := Hp S) 2 (fun Z => rfl) ?_
  obtain ⟨hi, hw⟩ := hw
  have hw := hw _ rfl
  refine wp_st (pc' := 7) (L' := [some (.ref 50), some (.int (nI a1)), some (.int (nI a2))]) (st' := []) (h' := Hp (up S 51 a1 (nI a2))) 1 (fun Z => stN sh51 (by decide) hi _ _) ?_
  generalize up S 51 a1 (nI a2) = S1 at hw ⊢
  refine wp_st (pc' := 9) (L' := [some (.ref 50), some (.int (nI a1)), some (.int (nI a2))]) (st' := [.ref 50, .ref 50]) (h' := Hp S1) 2 (fun Z => rfl) ?_
  refine wp_st (pc' := 12) (L' := [some (.ref 50), some (.int (nI a1)), some (.int (nI a2))]) (st' := [.int (S1 50 0), .ref 50]) (h' := Hp S1) 1 (fun Z => gfI (E := E) sh50 rfl _) ?_
  refine wp_st (pc' := 14) (L' := [some (.ref 50), some (.int (nI a1)), some (.int (nI a2))]) (st' := [.int ((S1 50 0) + (1 : Int32)), .ref 50]) (h' := Hp S1) 2 (fun Z => rfl) ?_
  have hw := hw _ rfl
  refine wp_st (pc' := 17) (L' := [some (.ref 50), some (.int (nI a1)), some (.int (nI a2))]) (st' := []) (h' := Hp (up S1 50 0 ((S1 50 0) + (1 : Int32)))) 1 (fun Z => pfI sh50 rfl (Nat.le_of_ble_eq_true rfl) rfl _) ?_
  generalize up S1 50 0 ((S1 50 0) + (1 : Int32)) = S2 at hw ⊢
  refine wp_st (pc' := 19) (L' := [some (.ref 50), some (.int (nI a1)), some (.int (nI a2))]) (st' := [.ref 50, .ref 50]) (h' := Hp S2) 2 (fun Z => rfl) ?_
  refine wp_st (pc' := 22) (L' := [some (.ref 50), some (.int (nI a1)), some (.int (nI a2))]) (st' := [.int (S2 50 1), .ref 50]) (h' := Hp S2) 1 (fun Z => gfI (E := E) sh50 rfl _) ?_
  refine wp_st (pc' := 23) (L' := [some (.ref 50), some (.int (nI a1)), some (.int (nI a2))]) (st' := [.ref 50, .int (S2 50 1), .ref 50]) (h' := Hp S2) 1 (fun Z => rfl) ?_
  refine wp_st (pc' := 26) (L' := [some (.ref 50), some (.int (nI a1)), some (.int (nI a2))]) (st' := [.ref 3, .int (S2 50 1), .ref 50]) (h' := Hp S2) 1 (fun Z => gfR (E := E) sh50 rfl _) ?_
  refine wp_st (pc' := 29) (L' := [some (.ref 50), some (.int (nI a1)), some (.int (nI a2))]) (st' := [.ref 5, .int (S2 50 1), .ref 50]) (h' := Hp S2) 1 (fun Z => gfR (E := E) sh3 rfl _) ?_
  refine wp_st (pc' := 30) (L' := [some (.ref 50), some (.int (nI a1)), some (.int (nI a2))]) (st' := [.int (nI a2), .ref 5, .int (S2 50 1), .ref 50]) (h' := Hp S2) 1 (fun Z => rfl) ?_
  obtain ⟨hi, hw⟩ := hw
  refine wp_st (pc' := 31) (L' := [some (.ref 50), some (.int (nI a1)), some (.int (nI a2))]) (st' := [.int (S2 5 a2), .int (S2 50 1), .ref 50]) (h' := Hp S2) 1 (fun Z => ldN (E := E) sh5 (by decide) hi [.int (S2 50 1), .ref 50] (fun st => Z (d + 1) m_PutBy_take 31 [some (.ref 50), some (.int (nI a1)), some (.int (nI a2))] st (Hp S2))) ?_
  refine wp_st (pc' := 32) (L' := [some (.ref 50), some (.int (nI a1)), some (.int (nI a2))]) (st' := [.ref 50, .int (S2 5 a2), .int (S2 50 1), .ref 50]) (h' := Hp S2) 1 (fun Z => rfl) ?_
  refine wp_st (pc' := 35) (L' := [some (.ref 50), some (.int (nI a1)), some (.int (nI a2))]) (st' := [.ref 25, .int (S2 5 a2), .int (S2 50 1), .ref 50]) (h' := Hp S2) 1 (fun Z => gfR (E := E) sh50 rfl _) ?_
  refine wp_st (pc' := 36) (L' := [some (.ref 50), some (.int (nI a1)), some (.int (nI a2))]) (st' := [.int (nI a1), .ref 25, .int (S2 5 a2), .int (S2 50 1), .ref 50]) (h' := Hp S2) 1 (fun Z => rfl) ?_
  refine wp_call (pc' := 39) (rest := [.int (S2 5 a2), .int (S2 50 1), .ref 50]) (fun Z => rfl) (isO_of sh25) hw ?_
  rintro o h1 ⟨x3, S4, rfl, rfl, hw⟩
  refine ⟨_, rfl, ?_⟩
  show wp E (d + 1) m_PutBy_take 39 [some (.ref 50), some (.int (nI a1)), some (.int (nI a2))] [.int x3, .int (S2 5 a2), .int (S2 50 1), .ref 50] (Hp S4) (QV Q)
  refine wp_st (pc' := 41) (L' := [some (.ref 50), some (.int (nI a1)), some (.int (nI a2))]) (st' := [.int ((S2 50 1) + ((S2 5 a2) - x3)), .ref 50]) (h' := Hp S4) 2 (fun Z => rfl) ?_
  have hw := hw _ rfl
  refine wp_st (pc' := 44) (L' := [some (.ref 50), some (.int (nI a1)), some (.int (nI a2))]) (st' := []) (h' := Hp (up S4 50 1 ((S2 50 1) + ((S2 5 a2) - x3)))) 1 (fun Z => pfI sh50 rfl (Nat.le_of_ble_eq_true rfl) rfl _) ?_
  generalize up S4 50 1 ((S2 50 1) + ((S2 5 a2) - x3)) = S5 at hw ⊢
  exact wp_ret (fun Z => rfl) ⟨_, rfl, rfl, hw⟩
