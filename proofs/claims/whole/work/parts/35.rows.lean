set_option maxRecDepth 4000 in
theorem w_Reader_readText {E : zX} {d : Nat} {S : St} {a1 : Int32} {Q : Int32 → St → Prop} (hd : 1 ≤ d) 
    (hw : ∀ S1, S1 = up S 12 5 (zmin a1 700) →
    ∀ S2, S2 = up S1 12 7 0 →
    ∀ S3, S3 = up S2 12 3 0 →
    ∀ S4, S4 = up S3 12 2 (-1) →
    k_Land_clear E (d - 1) S4 13 (fun S6 =>
    k_Scene_clear E (d - 1) S6 22 (fun S8 =>
    k_Reader_nextToken E (d - 1) S8 (fun S10 =>
    k_Reader_isWord E (d - 1) S10 3 (fun x11 S12 =>
    if x11 = 0 then (
      k_Reader_readText_69 E d S12 0 Q)
    else (
      k_Reader_readDowns E (d - 1) S12 (fun x13 S14 =>
      if x13 = 0 then (
        Q (S14 12 3) S14)
      else (
        k_Reader_readText_69 E d S14 0 Q)))))))) :
    k_Reader_readText E d S a1 Q := by
  obtain ⟨d, rfl⟩ := Nat.exists_eq_add_of_le' hd
  show wp E (d + 1) m_Reader_readText 0 [some (.ref 12), some (.int a1), none] [] (Hp S) (QI Q)
  refine wp_st (pc' := 3) (L' := [some (.ref 12), some (.int a1), none]) (st' := [.ref 12, .int a1, .ref 12]) (h' := Hp S) 3 (fun Z => rfl) ?_
  refine wp_st (pc' := 6) (L' := [some (.ref 12), some (.int a1), none]) (st' := [.ref 1, .int a1, .ref 12]) (h' := Hp S) 1 (fun Z => gfR (E := E) sh12 rfl _) ?_
  refine wp_st (pc' := 7) (L' := [some (.ref 12), some (.int a1), none]) (st' := [.int 700, .int a1, .ref 12]) (h' := Hp S) 1 (fun Z => lnX (E := E) sh1 [.int a1, .ref 12] (fun st => Z (d + 1) m_Reader_readText 7 [some (.ref 12), some (.int a1), none] st (Hp S))) ?_
  refine wp_st (pc' := 10) (L' := [some (.ref 12), some (.int a1), none]) (st' := [.int (zmin a1 700), .ref 12]) (h' := Hp S) 1 (fun Z => rfl) ?_
  have hw := hw _ rfl
  refine wp_st (pc' := 13) (L' := [some (.ref 12), some (.int a1), none]) (st' := []) (h' := Hp (up S 12 5 (zmin a1 700))) 1 (fun Z => pfI sh12 rfl (Nat.le_of_ble_eq_true rfl) rfl _) ?_
  generalize up S 12 5 (zmin a1 700) = S1 at hw ⊢
  refine wp_st (pc' := 15) (L' := [some (.ref 12), some (.int a1), none]) (st' := [.int 0, .ref 12]) (h' := Hp S1) 2 (fun Z => rfl) ?_
  have hw := hw _ rfl
  refine wp_st (pc' := 18) (L' := [some (.ref 12), some (.int a1), none]) (st' := []) (h' := Hp (up S1 12 7 0)) 1 (fun Z => pfI sh12 rfl (Nat.le_of_ble_eq_true rfl) rfl _) ?_
  generalize up S1 12 7 0 = S2 at hw ⊢
  refine wp_st (pc' := 20) (L' := [some (.ref 12), some (.int a1), none]) (st' := [.int 0, .ref 12]) (h' := Hp S2) 2 (fun Z => rfl) ?_
  have hw := hw _ rfl
  refine wp_st (pc' := 23) (L' := [some (.ref 12), some (.int a1), none]) (st' := []) (h' := Hp (up S2 12 3 0)) 1 (fun Z => pfI sh12 rfl (Nat.le_of_ble_eq_true rfl) rfl _) ?_
  generalize up S2 12 3 0 = S3 at hw ⊢
  refine wp_st (pc' := 24) (L' := [some (.ref 12), some (.int a1), none]) (st' := [.ref 12]) (h' := Hp S3) 1 (fun Z => rfl) ?_
  refine wp_st (pc' := 25) (L' := [some (.ref 12), some (.int a1), none]) (st' := [.int (-1), .ref 12]) (h' := Hp S3) 1 (fun Z => congrArg (fun v => Z (d + 1) m_Reader_readText 25 [some (.ref 12), some (.int a1), none] [.int v, .ref 12] (Hp S3)) (show Int32.ofInt (-1) = (-1) by decide)) ?_
  have hw := hw _ rfl
  refine wp_st (pc' := 28) (L' := [some (.ref 12), some (.int a1), none]) (st' := []) (h' := Hp (up S3 12 2 (-1))) 1 (fun Z => pfI sh12 rfl (Nat.le_of_ble_eq_true rfl) rfl _) ?_
  generalize up S3 12 2 (-1) = S4 at hw ⊢
  refine wp_st (pc' := 29) (L' := [some (.ref 12), some (.int a1), none]) (st' := [.ref 12]) (h' := Hp S4) 1 (fun Z => rfl) ?_
  refine wp_st (pc' := 32) (L' := [some (.ref 12), some (.int a1), none]) (st' := [.ref 13]) (h' := Hp S4) 1 (fun Z => gfR (E := E) sh12 rfl _) ?_
  refine wp_call (pc' := 35) (rest := []) (fun Z => rfl) (isO_of sh13) hw ?_
  rintro o h1 ⟨S6, rfl, rfl, hw⟩
  refine ⟨_, rfl, ?_⟩
  show wp E (d + 1) m_Reader_readText 35 [some (.ref 12), some (.int a1), none] [] (Hp S6) (QI Q)
  refine wp_st (pc' := 36) (L' := [some (.ref 12), some (.int a1), none]) (st' := [.ref 12]) (h' := Hp S6) 1 (fun Z => rfl) ?_
  refine wp_st (pc' := 39) (L' := [some (.ref 12), some (.int a1), none]) (st' := [.ref 22]) (h' := Hp S6) 1 (fun Z => gfR (E := E) sh12 rfl _) ?_
  refine wp_call (pc' := 42) (rest := []) (fun Z => rfl) (isO_of sh22) hw ?_
  rintro o h1 ⟨S8, rfl, rfl, hw⟩
  refine ⟨_, rfl, ?_⟩
  show wp E (d + 1) m_Reader_readText 42 [some (.ref 12), some (.int a1), none] [] (Hp S8) (QI Q)
  refine wp_st (pc' := 43) (L' := [some (.ref 12), some (.int a1), none]) (st' := [.ref 12]) (h' := Hp S8) 1 (fun Z => rfl) ?_
  refine wp_call (pc' := 46) (rest := []) (fun Z => rfl) (isO_of sh12) hw ?_
  rintro o h1 ⟨S10, rfl, rfl, hw⟩
  refine ⟨_, rfl, ?_⟩
  show wp E (d + 1) m_Reader_readText 46 [some (.ref 12), some (.int a1), none] [] (Hp S10) (QI Q)
  refine wp_st (pc' := 49) (L' := [some (.ref 12), some (.int a1), none]) (st' := [.float 3, .ref 12]) (h' := Hp S10) 2 (fun Z => rfl) ?_
  refine wp_call (pc' := 52) (rest := []) (fun Z => rfl) (isO_of sh12) hw ?_
  rintro o h1 ⟨x11, S12, rfl, rfl, hw⟩
  refine ⟨_, rfl, ?_⟩
  show wp E (d + 1) m_Reader_readText 52 [some (.ref 12), some (.int a1), none] [.int x11] (Hp S12) (QI Q)
  by_cases hc : x11 = 0
  · rw [if_pos hc] at hw
    refine wp_st (pc' := 67) (L' := [some (.ref 12), some (.int a1), none]) (st' := []) (h' := Hp S12) 1 (fun Z => if_pos hc) ?_
    exact wp_st 2 (fun Z => rfl) (show wp E (d + 1) m_Reader_readText 69 [some (.ref 12), some (.int a1), some (.int 0)] [] (Hp S12) (QI Q) from (hw (some (.int a1))))
  · rw [if_neg hc] at hw
    refine wp_st (pc' := 55) (L' := [some (.ref 12), some (.int a1), none]) (st' := []) (h' := Hp S12) 1 (fun Z => if_neg hc) ?_
    refine wp_st (pc' := 56) (L' := [some (.ref 12), some (.int a1), none]) (st' := [.ref 12]) (h' := Hp S12) 1 (fun Z => rfl) ?_
    refine wp_call (pc' := 59) (rest := []) (fun Z => rfl) (isO_of sh12) hw ?_
    rintro o h1 ⟨x13, S14, rfl, rfl, hw⟩
    refine ⟨_, rfl, ?_⟩
    show wp E (d + 1) m_Reader_readText 59 [some (.ref 12), some (.int a1), none] [.int x13] (Hp S14) (QI Q)
    by_cases hc : x13 = 0
    · rw [if_pos hc] at hw
      refine wp_st (pc' := 62) (L' := [some (.ref 12), some (.int a1), none]) (st' := []) (h' := Hp S14) 1 (fun Z => if_pos hc) ?_
      refine wp_st (pc' := 63) (L' := [some (.ref 12), some (.int a1), none]) (st' := [.ref 12]) (h' := Hp S14) 1 (fun Z => rfl) ?_
      refine wp_st (pc' := 66) (L' := [some (.ref 12), some (.int a1), none]) (st' := [.int (S14 12 3)]) (h' := Hp S14) 1 (fun Z => gfI (E := E) sh12 rfl _) ?_
      exact wp_ret (fun Z => rfl) ⟨_, _, rfl, rfl, hw⟩
    · rw [if_neg hc] at hw
      refine wp_st (pc' := 67) (L' := [some (.ref 12), some (.int a1), none]) (st' := []) (h' := Hp S14) 1 (fun Z => if_neg hc) ?_
      exact wp_st 2 (fun Z => rfl) (show wp E (d + 1) m_Reader_readText 69 [some (.ref 12), some (.int a1), some (.int 0)] [] (Hp S14) (QI Q) from (hw (some (.int a1))))
set_option maxRecDepth 4000 in
theorem w_Reader_readText_69 {E : zX} {d : Nat} {S : St} {a2 : Nat} {Q : Int32 → St → Prop} (hd : 1 ≤ d) 
    (hw : if nI 700 ≤ (nI a2) then (
      Q (S 12 3) S)
    else (
      if (S 12 8) = 0 then (
        Q (S 12 3) S)
      else (
        k_Reader_readLine E (d - 1) S (fun x1 S2 =>
        if x1 = 0 then (
          Q (S2 12 3) S2)
        else (
          k_Reader_readText_69 E d S2 (a2 + 1) Q))))) :
    k_Reader_readText_69 E d S a2 Q := by
  obtain ⟨d, rfl⟩ := Nat.exists_eq_add_of_le' hd
  intro j1
  show wp E (d + 1) m_Reader_readText 69 [some (.ref 12), j1, some (.int (nI a2))] [] (Hp S) (QI Q)
  refine wp_st (pc' := 73) (L' := [some (.ref 12), j1, some (.int (nI a2))]) (st' := [.int 700, .int (nI a2)]) (h' := Hp S) 2 (fun Z => rfl) ?_
  by_cases hc : nI 700 ≤ (nI a2)
  · rw [if_pos hc] at hw
    refine wp_st (pc' := 101) (L' := [some (.ref 12), j1, some (.int (nI a2))]) (st' := []) (h' := Hp S) 1 (fun Z => if_pos hc) ?_
    refine wp_st (pc' := 102) (L' := [some (.ref 12), j1, some (.int (nI a2))]) (st' := [.ref 12]) (h' := Hp S) 1 (fun Z => rfl) ?_
    refine wp_st (pc' := 105) (L' := [some (.ref 12), j1, some (.int (nI a2))]) (st' := [.int (S 12 3)]) (h' := Hp S) 1 (fun Z => gfI (E := E) sh12 rfl _) ?_
    exact wp_ret (fun Z => rfl) ⟨_, _, rfl, rfl, hw⟩
  · rw [if_neg hc] at hw
    refine wp_st (pc' := 76) (L' := [some (.ref 12), j1, some (.int (nI a2))]) (st' := []) (h' := Hp S) 1 (fun Z => if_neg hc) ?_
    refine wp_st (pc' := 77) (L' := [some (.ref 12), j1, some (.int (nI a2))]) (st' := [.ref 12]) (h' := Hp S) 1 (fun Z => rfl) ?_
    refine wp_st (pc' := 80) (L' := [some (.ref 12), j1, some (.int (nI a2))]) (st' := [.int (S 12 8)]) (h' := Hp S) 1 (fun Z => gfI (E := E) sh12 rfl _) ?_
    by_cases hc : (S 12 8) = 0
    · rw [if_pos hc] at hw
      refine wp_st (pc' := 101) (L' := [some (.ref 12), j1, some (.int (nI a2))]) (st' := []) (h' := Hp S) 1 (fun Z => if_pos hc) ?_
      refine wp_st (pc' := 102) (L' := [some (.ref 12), j1, some (.int (nI a2))]) (st' := [.ref 12]) (h' := Hp S) 1 (fun Z => rfl) ?_
      refine wp_st (pc' := 105) (L' := [some (.ref 12), j1, some (.int (nI a2))]) (st' := [.int (S 12 3)]) (h' := Hp S) 1 (fun Z => gfI (E := E) sh12 rfl _) ?_
      exact wp_ret (fun Z => rfl) ⟨_, _, rfl, rfl, hw⟩
    · rw [if_neg hc] at hw
      refine wp_st (pc' := 83) (L' := [some (.ref 12), j1, some (.int (nI a2))]) (st' := []) (h' := Hp S) 1 (fun Z => if_neg hc) ?_
      refine wp_st (pc' := 84) (L' := [some (.ref 12), j1, some (.int (nI a2))]) (st' := [.ref 12]) (h' := Hp S) 1 (fun Z => rfl) ?_
      refine wp_call (pc' := 87) (rest := []) (fun Z => rfl) (isO_of sh12) hw ?_
      rintro o h1 ⟨x1, S2, rfl, rfl, hw⟩
      refine ⟨_, rfl, ?_⟩
      show wp E (d + 1) m_Reader_readText 87 [some (.ref 12), j1, some (.int (nI a2))] [.int x1] (Hp S2) (QI Q)
      by_cases hc : x1 = 0
      · rw [if_pos hc] at hw
        refine wp_st (pc' := 90) (L' := [some (.ref 12), j1, some (.int (nI a2))]) (st' := []) (h' := Hp S2) 1 (fun Z => if_pos hc) ?_
        refine wp_st (pc' := 91) (L' := [some (.ref 12), j1, some (.int (nI a2))]) (st' := [.ref 12]) (h' := Hp S2) 1 (fun Z => rfl) ?_
        refine wp_st (pc' := 94) (L' := [some (.ref 12), j1, some (.int (nI a2))]) (st' := [.int (S2 12 3)]) (h' := Hp S2) 1 (fun Z => gfI (E := E) sh12 rfl _) ?_
        exact wp_ret (fun Z => rfl) ⟨_, _, rfl, rfl, hw⟩
      · rw [if_neg hc] at hw
        refine wp_st (pc' := 95) (L' := [some (.ref 12), j1, some (.int (nI a2))]) (st' := []) (h' := Hp S2) 1 (fun Z => if_neg hc) ?_
        refine wp_st (pc' := 98) (L' := [some (.ref 12), j1, some (.int (nI (a2 + 1)))]) (st' := []) (h' := Hp S2) 1 (fun Z => by rw [← nI_add a2 1]; rfl) ?_
        exact wp_st 1 (fun Z => rfl) (show wp E (d + 1) m_Reader_readText 69 [some (.ref 12), j1, some (.int (nI (a2 + 1)))] [] (Hp S2) (QI Q) from (hw j1))
set_option maxRecDepth 4000 in
theorem w_Reader_nextToken {E : zX} {d : Nat} {S : St}  {Q : St → Prop} (hd : 1 ≤ d) 
    (hw : ∀ S1, S1 = up S 12 6 (S 12 7) →
    k_Reader_nextToken_8 E d S1 Q) :
    k_Reader_nextToken E d S Q := by
  obtain ⟨d, rfl⟩ := Nat.exists_eq_add_of_le' hd
  show wp E (d + 1) m_Reader_nextToken 0 [some (.ref 12)] [] (Hp S) (QV Q)
  refine wp_st (pc' := 2) (L' := [some (.ref 12)]) (st' := [.ref 12, .ref 12]) (h' := Hp S) 2 (fun Z => rfl) ?_
  refine wp_st (pc' := 5) (L' := [some (.ref 12)]) (st' := [.int (S 12 7), .ref 12]) (h' := Hp S) 1 (fun Z => gfI (E := E) sh12 rfl _) ?_
  have hw := hw _ rfl
  refine wp_st (pc' := 8) (L' := [some (.ref 12)]) (st' := []) (h' := Hp (up S 12 6 (S 12 7))) 1 (fun Z => pfI sh12 rfl (Nat.le_of_ble_eq_true rfl) rfl _) ?_
  generalize up S 12 6 (S 12 7) = S1 at hw ⊢
  exact (show wp E (d + 1) m_Reader_nextToken 8 [some (.ref 12)] [] (Hp S1) (QV Q) from hw)
set_option maxRecDepth 4000 in
theorem w_Reader_nextToken_8 {E : zX} {d : Nat} {S : St}  {Q : St → Prop} (hd : 1 ≤ d) 
    (hw : if (S 12 5) ≤ (S 12 6) then (
      k_Reader_nextToken_60 E d S Q)
    else (
      ∃ m1 : Nat, (S 12 6) = nI m1 ∧ m1 < 700 ∧
      if (S 1 m1) = 32 then (
        ∀ S2, S2 = up S 12 6 ((S 12 6) + (1 : Int32)) →
        k_Reader_nextToken_8 E d S2 Q)
      else (
        ∃ m3 : Nat, (S 12 6) = nI m3 ∧ m3 < 700 ∧
        if (S 1 m3) = 10 then (
          ∀ S4, S4 = up S 12 6 ((S 12 6) + (1 : Int32)) →
          k_Reader_nextToken_8 E d S4 Q)
        else (
          k_Reader_nextToken_60 E d S Q)))) :
    k_Reader_nextToken_8 E d S Q := by
  obtain ⟨d, rfl⟩ := Nat.exists_eq_add_of_le' hd
  show wp E (d + 1) m_Reader_nextToken 8 [some (.ref 12)] [] (Hp S) (QV Q)
  refine wp_st (pc' := 9) (L' := [some (.ref 12)]) (st' := [.ref 12]) (h' := Hp S) 1 (fun Z => rfl) ?_
  refine wp_st (pc' := 12) (L' := [some (.ref 12)]) (st' := [.int (S 12 6)]) (h' := Hp S) 1 (fun Z => gfI (E := E) sh12 rfl _) ?_
  refine wp_st (pc' := 13) (L' := [some (.ref 12)]) (st' := [.ref 12, .int (S 12 6)]) (h' := Hp S) 1 (fun Z => rfl) ?_
  refine wp_st (pc' := 16) (L' := [some (.ref 12)]) (st' := [.int (S 12 5), .int (S 12 6)]) (h' := Hp S) 1 (fun Z => gfI (E := E) sh12 rfl _) ?_
  by_cases hc : (S 12 5) ≤ (S 12 6)
  · rw [if_pos hc] at hw
    refine wp_st (pc' := 60) (L' := [some (.ref 12)]) (st' := []) (h' := Hp S) 1 (fun Z => if_pos hc) ?_
    exact (show wp E (d + 1) m_Reader_nextToken 60 [some (.ref 12)] [] (Hp S) (QV Q) from hw)
  · rw [if_neg hc] at hw
    refine wp_st (pc' := 19) (L' := [some (.ref 12)]) (st' := []) (h' := Hp S) 1 (fun Z => if_neg hc) ?_
    refine wp_st (pc' := 20) (L' := [some (.ref 12)]) (st' := [.ref 12]) (h' := Hp S) 1 (fun Z => rfl) ?_
    refine wp_st (pc' := 23) (L' := [some (.ref 12)]) (st' := [.ref 1]) (h' := Hp S) 1 (fun Z => gfR (E := E) sh12 rfl _) ?_
    refine wp_st (pc' := 24) (L' := [some (.ref 12)]) (st' := [.ref 12, .ref 1]) (h' := Hp S) 1 (fun Z => rfl) ?_
    refine wp_st (pc' := 27) (L' := [some (.ref 12)]) (st' := [.int (S 12 6), .ref 1]) (h' := Hp S) 1 (fun Z => gfI (E := E) sh12 rfl _) ?_
    obtain ⟨m1, em, hi, hw⟩ := hw
    refine wp_st (pc' := 28) (L' := [some (.ref 12)]) (st' := [.int (S 1 m1)]) (h' := Hp S) 1 (fun Z => (congrArg (fun v => zit E 1 Z (d + 1) m_Reader_nextToken 27 [some (.ref 12)] [.int v, .ref 1] (Hp S)) em).trans (ldN (E := E) sh1 (by decide) hi [] (fun st => Z (d + 1) m_Reader_nextToken 28 [some (.ref 12)] st (Hp S)))) ?_
    refine wp_st (pc' := 30) (L' := [some (.ref 12)]) (st' := [.int 32, .int (S 1 m1)]) (h' := Hp S) 1 (fun Z => rfl) ?_
    by_cases hc : (S 1 m1) = 32
    · rw [if_pos hc] at hw
      refine wp_st (pc' := 47) (L' := [some (.ref 12)]) (st' := []) (h' := Hp S) 1 (fun Z => if_pos hc) ?_
      refine wp_st (pc' := 49) (L' := [some (.ref 12)]) (st' := [.ref 12, .ref 12]) (h' := Hp S) 2 (fun Z => rfl) ?_
      refine wp_st (pc' := 52) (L' := [some (.ref 12)]) (st' := [.int (S 12 6), .ref 12]) (h' := Hp S) 1 (fun Z => gfI (E := E) sh12 rfl _) ?_
      refine wp_st (pc' := 54) (L' := [some (.ref 12)]) (st' := [.int ((S 12 6) + (1 : Int32)), .ref 12]) (h' := Hp S) 2 (fun Z => rfl) ?_
      have hw := hw _ rfl
      refine wp_st (pc' := 57) (L' := [some (.ref 12)]) (st' := []) (h' := Hp (up S 12 6 ((S 12 6) + (1 : Int32)))) 1 (fun Z => pfI sh12 rfl (Nat.le_of_ble_eq_true rfl) rfl _) ?_
      generalize up S 12 6 ((S 12 6) + (1 : Int32)) = S2 at hw ⊢
      exact wp_st 1 (fun Z => rfl) (show wp E (d + 1) m_Reader_nextToken 8 [some (.ref 12)] [] (Hp S2) (QV Q) from hw)
    · rw [if_neg hc] at hw
      refine wp_st (pc' := 33) (L' := [some (.ref 12)]) (st' := []) (h' := Hp S) 1 (fun Z => if_neg hc) ?_
      refine wp_st (pc' := 34) (L' := [some (.ref 12)]) (st' := [.ref 12]) (h' := Hp S) 1 (fun Z => rfl) ?_
      refine wp_st (pc' := 37) (L' := [some (.ref 12)]) (st' := [.ref 1]) (h' := Hp S) 1 (fun Z => gfR (E := E) sh12 rfl _) ?_
      refine wp_st (pc' := 38) (L' := [some (.ref 12)]) (st' := [.ref 12, .ref 1]) (h' := Hp S) 1 (fun Z => rfl) ?_
      refine wp_st (pc' := 41) (L' := [some (.ref 12)]) (st' := [.int (S 12 6), .ref 1]) (h' := Hp S) 1 (fun Z => gfI (E := E) sh12 rfl _) ?_
      obtain ⟨m3, em, hi, hw⟩ := hw
      refine wp_st (pc' := 42) (L' := [some (.ref 12)]) (st' := [.int (S 1 m3)]) (h' := Hp S) 1 (fun Z => (congrArg (fun v => zit E 1 Z (d + 1) m_Reader_nextToken 41 [some (.ref 12)] [.int v, .ref 1] (Hp S)) em).trans (ldN (E := E) sh1 (by decide) hi [] (fun st => Z (d + 1) m_Reader_nextToken 42 [some (.ref 12)] st (Hp S)))) ?_
      refine wp_st (pc' := 44) (L' := [some (.ref 12)]) (st' := [.int 10, .int (S 1 m3)]) (h' := Hp S) 1 (fun Z => rfl) ?_
      by_cases hc : (S 1 m3) = 10
      · rw [if_pos hc] at hw
        refine wp_st (pc' := 47) (L' := [some (.ref 12)]) (st' := []) (h' := Hp S) 1 (fun Z => if_pos hc) ?_
        refine wp_st (pc' := 49) (L' := [some (.ref 12)]) (st' := [.ref 12, .ref 12]) (h' := Hp S) 2 (fun Z => rfl) ?_
        refine wp_st (pc' := 52) (L' := [some (.ref 12)]) (st' := [.int (S 12 6), .ref 12]) (h' := Hp S) 1 (fun Z => gfI (E := E) sh12 rfl _) ?_
        refine wp_st (pc' := 54) (L' := [some (.ref 12)]) (st' := [.int ((S 12 6) + (1 : Int32)), .ref 12]) (h' := Hp S) 2 (fun Z => rfl) ?_
        have hw := hw _ rfl
        refine wp_st (pc' := 57) (L' := [some (.ref 12)]) (st' := []) (h' := Hp (up S 12 6 ((S 12 6) + (1 : Int32)))) 1 (fun Z => pfI sh12 rfl (Nat.le_of_ble_eq_true rfl) rfl _) ?_
        generalize up S 12 6 ((S 12 6) + (1 : Int32)) = S4 at hw ⊢
        exact wp_st 1 (fun Z => rfl) (show wp E (d + 1) m_Reader_nextToken 8 [some (.ref 12)] [] (Hp S4) (QV Q) from hw)
      · rw [if_neg hc] at hw
        refine wp_st (pc' := 60) (L' := [some (.ref 12)]) (st' := []) (h' := Hp S) 1 (fun Z => if_neg hc) ?_
        exact (show wp E (d + 1) m_Reader_nextToken 60 [some (.ref 12)] [] (Hp S) (QV Q) from hw)
set_option maxRecDepth 4000 in
theorem w_Reader_nextToken_60 {E : zX} {d : Nat} {S : St}  {Q : St → Prop} (hd : 1 ≤ d) 
    (hw : ∀ S1, S1 = up S 12 7 (S 12 6) →
    if (S1 12 6) < (S1 12 5) then (
      ∃ m2 : Nat, (S1 12 6) = nI m2 ∧ m2 < 700 ∧
      k_Reader_isLetter E (d - 1) S1 (S1 1 m2) (fun x3 S4 =>
      if x3 = 0 then (
        ∃ m5 : Nat, (S4 12 6) = nI m5 ∧ m5 < 700 ∧
        k_Reader_isDigit E (d - 1) S4 (S4 1 m5) (fun x6 S7 =>
        if x6 = 0 then (
          ∃ m8 : Nat, (S7 12 6) = nI m8 ∧ m8 < 700 ∧
          isT E 1 = true ∧
          k_String_indexOf_I E (d - 1) S7 1 (zi2c (S7 1 m8)) (fun x9 S10 =>
          if x9 < 0 then (
            ∀ S11, S11 = up S10 12 8 4 →
            ∀ S12, S12 = up S11 12 7 ((S11 12 7) + (1 : Int32)) →
            Q S12)
          else (
            ∀ S13, S13 = up S10 12 8 3 →
            ∀ S14, S14 = up S13 12 7 ((S13 12 7) + (1 : Int32)) →
            Q S14)))
        else (
          ∀ S15, S15 = up S7 12 8 2 →
          ∀ S16, S16 = up S15 12 9 0 →
          k_Reader_nextToken_171 E d S16 Q)))
      else (
        ∀ S17, S17 = up S4 12 8 1 →
        k_Reader_nextToken_107 E d S17 Q)))
    else (
      ∀ S18, S18 = up S1 12 8 0 →
      Q S18)) :
    k_Reader_nextToken_60 E d S Q := by
  obtain ⟨d, rfl⟩ := Nat.exists_eq_add_of_le' hd
  show wp E (d + 1) m_Reader_nextToken 60 [some (.ref 12)] [] (Hp S) (QV Q)
  refine wp_st (pc' := 62) (L' := [some (.ref 12)]) (st' := [.ref 12, .ref 12]) (h' := Hp S) 2 (fun Z => rfl) ?_
  refine wp_st (pc' := 65) (L' := [some (.ref 12)]) (st' := [.int (S 12 6), .ref 12]) (h' := Hp S) 1 (fun Z => gfI (E := E) sh12 rfl _) ?_
  have hw := hw _ rfl
  refine wp_st (pc' := 68) (L' := [some (.ref 12)]) (st' := []) (h' := Hp (up S 12 7 (S 12 6))) 1 (fun Z => pfI sh12 rfl (Nat.le_of_ble_eq_true rfl) rfl _) ?_
  generalize up S 12 7 (S 12 6) = S1 at hw ⊢
  refine wp_st (pc' := 69) (L' := [some (.ref 12)]) (st' := [.ref 12]) (h' := Hp S1) 1 (fun Z => rfl) ?_
  refine wp_st (pc' := 72) (L' := [some (.ref 12)]) (st' := [.int (S1 12 6)]) (h' := Hp S1) 1 (fun Z => gfI (E := E) sh12 rfl _) ?_
  refine wp_st (pc' := 73) (L' := [some (.ref 12)]) (st' := [.ref 12, .int (S1 12 6)]) (h' := Hp S1) 1 (fun Z => rfl) ?_
  refine wp_st (pc' := 76) (L' := [some (.ref 12)]) (st' := [.int (S1 12 5), .int (S1 12 6)]) (h' := Hp S1) 1 (fun Z => gfI (E := E) sh12 rfl _) ?_
  by_cases hc : (S1 12 6) < (S1 12 5)
  · rw [if_pos hc] at hw
    refine wp_st (pc' := 87) (L' := [some (.ref 12)]) (st' := []) (h' := Hp S1) 1 (fun Z => if_pos hc) ?_
    refine wp_st (pc' := 88) (L' := [some (.ref 12)]) (st' := [.ref 12]) (h' := Hp S1) 1 (fun Z => rfl) ?_
    refine wp_st (pc' := 91) (L' := [some (.ref 12)]) (st' := [.ref 1]) (h' := Hp S1) 1 (fun Z => gfR (E := E) sh12 rfl _) ?_
    refine wp_st (pc' := 92) (L' := [some (.ref 12)]) (st' := [.ref 12, .ref 1]) (h' := Hp S1) 1 (fun Z => rfl) ?_
    refine wp_st (pc' := 95) (L' := [some (.ref 12)]) (st' := [.int (S1 12 6), .ref 1]) (h' := Hp S1) 1 (fun Z => gfI (E := E) sh12 rfl _) ?_
    obtain ⟨m2, em, hi, hw⟩ := hw
    refine wp_st (pc' := 96) (L' := [some (.ref 12)]) (st' := [.int (S1 1 m2)]) (h' := Hp S1) 1 (fun Z => (congrArg (fun v => zit E 1 Z (d + 1) m_Reader_nextToken 95 [some (.ref 12)] [.int v, .ref 1] (Hp S1)) em).trans (ldN (E := E) sh1 (by decide) hi [] (fun st => Z (d + 1) m_Reader_nextToken 96 [some (.ref 12)] st (Hp S1)))) ?_
    refine wp_call (pc' := 99) (rest := []) (fun Z => rfl) rfl hw ?_
    rintro o h1 ⟨x3, S4, rfl, rfl, hw⟩
    refine ⟨_, rfl, ?_⟩
    show wp E (d + 1) m_Reader_nextToken 99 [some (.ref 12)] [.int x3] (Hp S4) (QV Q)
    by_cases hc : x3 = 0
    · rw [if_pos hc] at hw
      refine wp_st (pc' := 146) (L' := [some (.ref 12)]) (st' := []) (h' := Hp S4) 1 (fun Z => if_pos hc) ?_
      refine wp_st (pc' := 147) (L' := [some (.ref 12)]) (st' := [.ref 12]) (h' := Hp S4) 1 (fun Z => rfl) ?_
      refine wp_st (pc' := 150) (L' := [some (.ref 12)]) (st' := [.ref 1]) (h' := Hp S4) 1 (fun Z => gfR (E := E) sh12 rfl _) ?_
      refine wp_st (pc' := 151) (L' := [some (.ref 12)]) (st' := [.ref 12, .ref 1]) (h' := Hp S4) 1 (fun Z => rfl) ?_
      refine wp_st (pc' := 154) (L' := [some (.ref 12)]) (st' := [.int (S4 12 6), .ref 1]) (h' := Hp S4) 1 (fun Z => gfI (E := E) sh12 rfl _) ?_
      obtain ⟨m5, em, hi, hw⟩ := hw
      refine wp_st (pc' := 155) (L' := [some (.ref 12)]) (st' := [.int (S4 1 m5)]) (h' := Hp S4) 1 (fun Z => (congrArg (fun v => zit E 1 Z (d + 1) m_Reader_nextToken 154 [some (.ref 12)] [.int v, .ref 1] (Hp S4)) em).trans (ldN (E := E) sh1 (by decide) hi [] (fun st => Z (d + 1) m_Reader_nextToken 155 [some (.ref 12)] st (Hp S4)))) ?_
      refine wp_call (pc' := 158) (rest := []) (fun Z => rfl) rfl hw ?_
      rintro o h1 ⟨x6, S7, rfl, rfl, hw⟩
      refine ⟨_, rfl, ?_⟩
      show wp E (d + 1) m_Reader_nextToken 158 [some (.ref 12)] [.int x6] (Hp S7) (QV Q)
      by_cases hc : x6 = 0
      · rw [if_pos hc] at hw
        refine wp_st (pc' := 264) (L' := [some (.ref 12)]) (st' := []) (h' := Hp S7) 1 (fun Z => if_pos hc) ?_
        refine wp_st (pc' := 268) (L' := [some (.ref 12)]) (st' := [.ref 12, .float 1, .ref 12]) (h' := Hp S7) 3 (fun Z => rfl) ?_
        refine wp_st (pc' := 271) (L' := [some (.ref 12)]) (st' := [.ref 1, .float 1, .ref 12]) (h' := Hp S7) 1 (fun Z => gfR (E := E) sh12 rfl _) ?_
        refine wp_st (pc' := 272) (L' := [some (.ref 12)]) (st' := [.ref 12, .ref 1, .float 1, .ref 12]) (h' := Hp S7) 1 (fun Z => rfl) ?_
        refine wp_st (pc' := 275) (L' := [some (.ref 12)]) (st' := [.int (S7 12 6), .ref 1, .float 1, .ref 12]) (h' := Hp S7) 1 (fun Z => gfI (E := E) sh12 rfl _) ?_
        obtain ⟨m8, em, hi, hw⟩ := hw
        refine wp_st (pc' := 276) (L' := [some (.ref 12)]) (st' := [.int (S7 1 m8), .float 1, .ref 12]) (h' := Hp S7) 1 (fun Z => (congrArg (fun v => zit E 1 Z (d + 1) m_Reader_nextToken 275 [some (.ref 12)] [.int v, .ref 1, .float 1, .ref 12] (Hp S7)) em).trans (ldN (E := E) sh1 (by decide) hi [.float 1, .ref 12] (fun st => Z (d + 1) m_Reader_nextToken 276 [some (.ref 12)] st (Hp S7)))) ?_
        refine wp_st (pc' := 277) (L' := [some (.ref 12)]) (st' := [.int (zi2c (S7 1 m8)), .float 1, .ref 12]) (h' := Hp S7) 1 (fun Z => rfl) ?_
        obtain ⟨hq, hw⟩ := hw
        refine wp_call (pc' := 280) (rest := [.ref 12]) (fun Z => rfl) hq hw ?_
        rintro o h1 ⟨x9, S10, rfl, rfl, hw⟩
        refine ⟨_, rfl, ?_⟩
        show wp E (d + 1) m_Reader_nextToken 280 [some (.ref 12)] [.int x9, .ref 12] (Hp S10) (QV Q)
        by_cases hc : x9 < 0
        · rw [if_pos hc] at hw
          refine wp_st (pc' := 287) (L' := [some (.ref 12)]) (st' := [.ref 12]) (h' := Hp S10) 1 (fun Z => if_pos hc) ?_
          refine wp_st (pc' := 288) (L' := [some (.ref 12)]) (st' := [.int 4, .ref 12]) (h' := Hp S10) 1 (fun Z => rfl) ?_
          have hw := hw _ rfl
          refine wp_st (pc' := 291) (L' := [some (.ref 12)]) (st' := []) (h' := Hp (up S10 12 8 4)) 1 (fun Z => pfI sh12 rfl (Nat.le_of_ble_eq_true rfl) rfl _) ?_
          generalize up S10 12 8 4 = S11 at hw ⊢
          refine wp_st (pc' := 293) (L' := [some (.ref 12)]) (st' := [.ref 12, .ref 12]) (h' := Hp S11) 2 (fun Z => rfl) ?_
          refine wp_st (pc' := 296) (L' := [some (.ref 12)]) (st' := [.int (S11 12 7), .ref 12]) (h' := Hp S11) 1 (fun Z => gfI (E := E) sh12 rfl _) ?_
          refine wp_st (pc' := 298) (L' := [some (.ref 12)]) (st' := [.int ((S11 12 7) + (1 : Int32)), .ref 12]) (h' := Hp S11) 2 (fun Z => rfl) ?_
          have hw := hw _ rfl
          refine wp_st (pc' := 301) (L' := [some (.ref 12)]) (st' := []) (h' := Hp (up S11 12 7 ((S11 12 7) + (1 : Int32)))) 1 (fun Z => pfI sh12 rfl (Nat.le_of_ble_eq_true rfl) rfl _) ?_
          generalize up S11 12 7 ((S11 12 7) + (1 : Int32)) = S12 at hw ⊢
          exact wp_ret (fun Z => rfl) ⟨_, rfl, rfl, hw⟩
        · rw [if_neg hc] at hw
          refine wp_st (pc' := 283) (L' := [some (.ref 12)]) (st' := [.ref 12]) (h' := Hp S10) 1 (fun Z => if_neg hc) ?_
          refine wp_st (pc' := 288) (L' := [some (.ref 12)]) (st' := [.int 3, .ref 12]) (h' := Hp S10) 2 (fun Z => rfl) ?_
          have hw := hw _ rfl
          refine wp_st (pc' := 291) (L' := [some (.ref 12)]) (st' := []) (h' := Hp (up S10 12 8 3)) 1 (fun Z => pfI sh12 rfl (Nat.le_of_ble_eq_true rfl) rfl _) ?_
          generalize up S10 12 8 3 = S13 at hw ⊢
          refine wp_st (pc' := 293) (L' := [some (.ref 12)]) (st' := [.ref 12, .ref 12]) (h' := Hp S13) 2 (fun Z => rfl) ?_
          refine wp_st (pc' := 296) (L' := [some (.ref 12)]) (st' := [.int (S13 12 7), .ref 12]) (h' := Hp S13) 1 (fun Z => gfI (E := E) sh12 rfl _) ?_
          refine wp_st (pc' := 298) (L' := [some (.ref 12)]) (st' := [.int ((S13 12 7) + (1 : Int32)), .ref 12]) (h' := Hp S13) 2 (fun Z => rfl) ?_
          have hw := hw _ rfl
          refine wp_st (pc' := 301) (L' := [some (.ref 12)]) (st' := []) (h' := Hp (up S13 12 7 ((S13 12 7) + (1 : Int32)))) 1 (fun Z => pfI sh12 rfl (Nat.le_of_ble_eq_true rfl) rfl _) ?_
          generalize up S13 12 7 ((S13 12 7) + (1 : Int32)) = S14 at hw ⊢
          exact wp_ret (fun Z => rfl) ⟨_, rfl, rfl, hw⟩
      · rw [if_neg hc] at hw
        refine wp_st (pc' := 161) (L' := [some (.ref 12)]) (st' := []) (h' := Hp S7) 1 (fun Z => if_neg hc) ?_
        refine wp_st (pc' := 163) (L' := [some (.ref 12)]) (st' := [.int 2, .ref 12]) (h' := Hp S7) 2 (fun Z => rfl) ?_
        have hw := hw _ rfl
        refine wp_st (pc' := 166) (L' := [some (.ref 12)]) (st' := []) (h' := Hp (up S7 12 8 2)) 1 (fun Z => pfI sh12 rfl (Nat.le_of_ble_eq_true rfl) rfl _) ?_
        generalize up S7 12 8 2 = S15 at hw ⊢
        refine wp_st (pc' := 168) (L' := [some (.ref 12)]) (st' := [.int 0, .ref 12]) (h' := Hp S15) 2 (fun Z => rfl) ?_
        have hw := hw _ rfl
        refine wp_st (pc' := 171) (L' := [some (.ref 12)]) (st' := []) (h' := Hp (up S15 12 9 0)) 1 (fun Z => pfI sh12 rfl (Nat.le_of_ble_eq_true rfl) rfl _) ?_
        generalize up S15 12 9 0 = S16 at hw ⊢
        exact (show wp E (d + 1) m_Reader_nextToken 171 [some (.ref 12)] [] (Hp S16) (QV Q) from hw)
    · rw [if_neg hc] at hw
      refine wp_st (pc' := 102) (L' := [some (.ref 12)]) (st' := []) (h' := Hp S4) 1 (fun Z => if_neg hc) ?_
      refine wp_st (pc' := 104) (L' := [some (.ref 12)]) (st' := [.int 1, .ref 12]) (h' := Hp S4) 2 (fun Z => rfl) ?_
      have hw := hw _ rfl
      refine wp_st (pc' := 107) (L' := [some (.ref 12)]) (st' := []) (h' := Hp (up S4 12 8 1)) 1 (fun Z => pfI sh12 rfl (Nat.le_of_ble_eq_true rfl) rfl _) ?_
      generalize up S4 12 8 1 = S17 at hw ⊢
      exact (show wp E (d + 1) m_Reader_nextToken 107 [some (.ref 12)] [] (Hp S17) (QV Q) from hw)
  · rw [if_neg hc] at hw
    refine wp_st (pc' := 79) (L' := [some (.ref 12)]) (st' := []) (h' := Hp S1) 1 (fun Z => if_neg hc) ?_
    refine wp_st (pc' := 81) (L' := [some (.ref 12)]) (st' := [.int 0, .ref 12]) (h' := Hp S1) 2 (fun Z => rfl) ?_
    have hw := hw _ rfl
    refine wp_st (pc' := 84) (L' := [some (.ref 12)]) (st' := []) (h' := Hp (up S1 12 8 0)) 1 (fun Z => pfI sh12 rfl (Nat.le_of_ble_eq_true rfl) rfl _) ?_
    generalize up S1 12 8 0 = S18 at hw ⊢
    refine wp_st (pc' := 301) (L' := [some (.ref 12)]) (st' := []) (h' := Hp S18) 1 (fun Z => rfl) ?_
    exact wp_ret (fun Z => rfl) ⟨_, rfl, rfl, hw⟩
set_option maxRecDepth 4000 in
theorem w_Reader_nextToken_107 {E : zX} {d : Nat} {S : St}  {Q : St → Prop} (hd : 1 ≤ d) 
    (hw : if (S 12 5) ≤ (S 12 7) then (
      Q S)
    else (
      ∃ m1 : Nat, (S 12 7) = nI m1 ∧ m1 < 700 ∧
      k_Reader_isLetter E (d - 1) S (S 1 m1) (fun x2 S3 =>
      if x2 = 0 then (
        Q S3)
      else (
        ∀ S4, S4 = up S3 12 7 ((S3 12 7) + (1 : Int32)) →
        k_Reader_nextToken_107 E d S4 Q)))) :
    k_Reader_nextToken_107 E d S Q := by
  obtain ⟨d, rfl⟩ := Nat.exists_eq_add_of_le' hd
  show wp E (d + 1) m_Reader_nextToken 107 [some (.ref 12)] [] (Hp S) (QV Q)
  refine wp_st (pc' := 108) (L' := [some (.ref 12)]) (st' := [.ref 12]) (h' := Hp S) 1 (fun Z => rfl) ?_
  refine wp_st (pc' := 111) (L' := [some (.ref 12)]) (st' := [.int (S 12 7)]) (h' := Hp S) 1 (fun Z => gfI (E := E) sh12 rfl _) ?_
  refine wp_st (pc' := 112) (L' := [some (.ref 12)]) (st' := [.ref 12, .int (S 12 7)]) (h' := Hp S) 1 (fun Z => rfl) ?_
  refine wp_st (pc' := 115) (L' := [some (.ref 12)]) (st' := [.int (S 12 5), .int (S 12 7)]) (h' := Hp S) 1 (fun Z => gfI (E := E) sh12 rfl _) ?_
  by_cases hc : (S 12 5) ≤ (S 12 7)
  · rw [if_pos hc] at hw
    refine wp_st (pc' := 301) (L' := [some (.ref 12)]) (st' := []) (h' := Hp S) 1 (fun Z => if_pos hc) ?_
    exact wp_ret (fun Z => rfl) ⟨_, rfl, rfl, hw⟩
  · rw [if_neg hc] at hw
    refine wp_st (pc' := 118) (L' := [some (.ref 12)]) (st' := []) (h' := Hp S) 1 (fun Z => if_neg hc) ?_
    refine wp_st (pc' := 119) (L' := [some (.ref 12)]) (st' := [.ref 12]) (h' := Hp S) 1 (fun Z => rfl) ?_
    refine wp_st (pc' := 122) (L' := [some (.ref 12)]) (st' := [.ref 1]) (h' := Hp S) 1 (fun Z => gfR (E := E) sh12 rfl _) ?_
    refine wp_st (pc' := 123) (L' := [some (.ref 12)]) (st' := [.ref 12, .ref 1]) (h' := Hp S) 1 (fun Z => rfl) ?_
    refine wp_st (pc' := 126) (L' := [some (.ref 12)]) (st' := [.int (S 12 7), .ref 1]) (h' := Hp S) 1 (fun Z => gfI (E := E) sh12 rfl _) ?_
    obtain ⟨m1, em, hi, hw⟩ := hw
    refine wp_st (pc' := 127) (L' := [some (.ref 12)]) (st' := [.int (S 1 m1)]) (h' := Hp S) 1 (fun Z => (congrArg (fun v => zit E 1 Z (d + 1) m_Reader_nextToken 126 [some (.ref 12)] [.int v, .ref 1] (Hp S)) em).trans (ldN (E := E) sh1 (by decide) hi [] (fun st => Z (d + 1) m_Reader_nextToken 127 [some (.ref 12)] st (Hp S)))) ?_
    refine wp_call (pc' := 130) (rest := []) (fun Z => rfl) rfl hw ?_
    rintro o h1 ⟨x2, S3, rfl, rfl, hw⟩
    refine ⟨_, rfl, ?_⟩
    show wp E (d + 1) m_Reader_nextToken 130 [some (.ref 12)] [.int x2] (Hp S3) (QV Q)
    by_cases hc : x2 = 0
    · rw [if_pos hc] at hw
      refine wp_st (pc' := 301) (L' := [some (.ref 12)]) (st' := []) (h' := Hp S3) 1 (fun Z => if_pos hc) ?_
      exact wp_ret (fun Z => rfl) ⟨_, rfl, rfl, hw⟩
    · rw [if_neg hc] at hw
      refine wp_st (pc' := 133) (L' := [some (.ref 12)]) (st' := []) (h' := Hp S3) 1 (fun Z => if_neg hc) ?_
      refine wp_st (pc' := 135) (L' := [some (.ref 12)]) (st' := [.ref 12, .ref 12]) (h' := Hp S3) 2 (fun Z => rfl) ?_
      refine wp_st (pc' := 138) (L' := [some (.ref 12)]) (st' := [.int (S3 12 7), .ref 12]) (h' := Hp S3) 1 (fun Z => gfI (E := E) sh12 rfl _) ?_
      refine wp_st (pc' := 140) (L' := [some (.ref 12)]) (st' := [.int ((S3 12 7) + (1 : Int32)), .ref 12]) (h' := Hp S3) 2 (fun Z => rfl) ?_
      have hw := hw _ rfl
      refine wp_st (pc' := 143) (L' := [some (.ref 12)]) (st' := []) (h' := Hp (up S3 12 7 ((S3 12 7) + (1 : Int32)))) 1 (fun Z => pfI sh12 rfl (Nat.le_of_ble_eq_true rfl) rfl _) ?_
      generalize up S3 12 7 ((S3 12 7) + (1 : Int32)) = S4 at hw ⊢
      exact wp_st 1 (fun Z => rfl) (show wp E (d + 1) m_Reader_nextToken 107 [some (.ref 12)] [] (Hp S4) (QV Q) from hw)
set_option maxRecDepth 4000 in
theorem w_Reader_nextToken_171 {E : zX} {d : Nat} {S : St}  {Q : St → Prop} (hd : 1 ≤ d) 
    (hw : if (S 12 5) ≤ (S 12 7) then (
      k_Reader_nextToken_239 E d S Q)
    else (
      ∃ m1 : Nat, (S 12 7) = nI m1 ∧ m1 < 700 ∧
      k_Reader_isDigit E (d - 1) S (S 1 m1) (fun x2 S3 =>
      if x2 = 0 then (
        k_Reader_nextToken_239 E d S3 Q)
      else (
        ∃ m4 : Nat, (S3 12 7) = nI m4 ∧ m4 < 700 ∧
        ∀ S5, S5 = up S3 12 9 (zmin ((((S3 12 9) * (10 : Int32)) + (S3 1 m4)) - (48 : Int32)) 99999) →
        ∀ S6, S6 = up S5 12 7 ((S5 12 7) + (1 : Int32)) →
        k_Reader_nextToken_171 E d S6 Q)))) :
    k_Reader_nextToken_171 E d S Q := by
  obtain ⟨d, rfl⟩ := Nat.exists_eq_add_of_le' hd
  show wp E (d + 1) m_Reader_nextToken 171 [some (.ref 12)] [] (Hp S) (QV Q)
  refine wp_st (pc' := 172) (L' := [some (.ref 12)]) (st' := [.ref 12]) (h' := Hp S) 1 (fun Z => rfl) ?_
  refine wp_st (pc' := 175) (L' := [some (.ref 12)]) (st' := [.int (S 12 7)]) (h' := Hp S) 1 (fun Z => gfI (E := E) sh12 rfl _) ?_
  refine wp_st (pc' := 176) (L' := [some (.ref 12)]) (st' := [.ref 12, .int (S 12 7)]) (h' := Hp S) 1 (fun Z => rfl) ?_
  refine wp_st (pc' := 179) (L' := [some (.ref 12)]) (st' := [.int (S 12 5), .int (S 12 7)]) (h' := Hp S) 1 (fun Z => gfI (E := E) sh12 rfl _) ?_
  by_cases hc : (S 12 5) ≤ (S 12 7)
  · rw [if_pos hc] at hw
    refine wp_st (pc' := 239) (L' := [some (.ref 12)]) (st' := []) (h' := Hp S) 1 (fun Z => if_pos hc) ?_
    exact (show wp E (d + 1) m_Reader_nextToken 239 [some (.ref 12)] [] (Hp S) (QV Q) from hw)
  · rw [if_neg hc] at hw
    refine wp_st (pc' := 182) (L' := [some (.ref 12)]) (st' := []) (h' := Hp S) 1 (fun Z => if_neg hc) ?_
    refine wp_st (pc' := 183) (L' := [some (.ref 12)]) (st' := [.ref 12]) (h' := Hp S) 1 (fun Z => rfl) ?_
    refine wp_st (pc' := 186) (L' := [some (.ref 12)]) (st' := [.ref 1]) (h' := Hp S) 1 (fun Z => gfR (E := E) sh12 rfl _) ?_
    refine wp_st (pc' := 187) (L' := [some (.ref 12)]) (st' := [.ref 12, .ref 1]) (h' := Hp S) 1 (fun Z => rfl) ?_
    refine wp_st (pc' := 190) (L' := [some (.ref 12)]) (st' := [.int (S 12 7), .ref 1]) (h' := Hp S) 1 (fun Z => gfI (E := E) sh12 rfl _) ?_
    obtain ⟨m1, em, hi, hw⟩ := hw
    refine wp_st (pc' := 191) (L' := [some (.ref 12)]) (st' := [.int (S 1 m1)]) (h' := Hp S) 1 (fun Z => (congrArg (fun v => zit E 1 Z (d + 1) m_Reader_nextToken 190 [some (.ref 12)] [.int v, .ref 1] (Hp S)) em).trans (ldN (E := E) sh1 (by decide) hi [] (fun st => Z (d + 1) m_Reader_nextToken 191 [some (.ref 12)] st (Hp S)))) ?_
    refine wp_call (pc' := 194) (rest := []) (fun Z => rfl) rfl hw ?_
    rintro o h1 ⟨x2, S3, rfl, rfl, hw⟩
    refine ⟨_, rfl, ?_⟩
    show wp E (d + 1) m_Reader_nextToken 194 [some (.ref 12)] [.int x2] (Hp S3) (QV Q)
    by_cases hc : x2 = 0
    · rw [if_pos hc] at hw
      refine wp_st (pc' := 239) (L' := [some (.ref 12)]) (st' := []) (h' := Hp S3) 1 (fun Z => if_pos hc) ?_
      exact (show wp E (d + 1) m_Reader_nextToken 239 [some (.ref 12)] [] (Hp S3) (QV Q) from hw)
    · rw [if_neg hc] at hw
      refine wp_st (pc' := 197) (L' := [some (.ref 12)]) (st' := []) (h' := Hp S3) 1 (fun Z => if_neg hc) ?_
      refine wp_st (pc' := 199) (L' := [some (.ref 12)]) (st' := [.ref 12, .ref 12]) (h' := Hp S3) 2 (fun Z => rfl) ?_
      refine wp_st (pc' := 202) (L' := [some (.ref 12)]) (st' := [.int (S3 12 9), .ref 12]) (h' := Hp S3) 1 (fun Z => gfI (E := E) sh12 rfl _) ?_
      refine wp_st (pc' := 206) (L' := [some (.ref 12)]) (st' := [.ref 12, .int ((S3 12 9) * (10 : Int32)), .ref 12]) (h' := Hp S3) 3 (fun Z => rfl) ?_
      refine wp_st (pc' := 209) (L' := [some (.ref 12)]) (st' := [.ref 1, .int ((S3 12 9) * (10 : Int32)), .ref 12]) (h' := Hp S3) 1 (fun Z => gfR (E := E) sh12 rfl _) ?_
      refine wp_st (pc' := 210) (L' := [some (.ref 12)]) (st' := [.ref 12, .ref 1, .int ((S3 12 9) * (10 : Int32)), .ref 12]) (h' := Hp S3) 1 (fun Z => rfl) ?_
      refine wp_st (pc' := 213) (L' := [some (.ref 12)]) (st' := [.int (S3 12 7), .ref 1, .int ((S3 12 9) * (10 : Int32)), .ref 12]) (h' := Hp S3) 1 (fun Z => gfI (E := E) sh12 rfl _) ?_
      obtain ⟨m4, em, hi, hw⟩ := hw
      refine wp_st (pc' := 214) (L' := [some (.ref 12)]) (st' := [.int (S3 1 m4), .int ((S3 12 9) * (10 : Int32)), .ref 12]) (h' := Hp S3) 1 (fun Z => (congrArg (fun v => zit E 1 Z (d + 1) m_Reader_nextToken 213 [some (.ref 12)] [.int v, .ref 1, .int ((S3 12 9) * (10 : Int32)), .ref 12] (Hp S3)) em).trans (ldN (E := E) sh1 (by decide) hi [.int ((S3 12 9) * (10 : Int32)), .ref 12] (fun st => Z (d + 1) m_Reader_nextToken 214 [some (.ref 12)] st (Hp S3)))) ?_
      refine wp_st (pc' := 223) (L' := [some (.ref 12)]) (st' := [.int (zmin ((((S3 12 9) * (10 : Int32)) + (S3 1 m4)) - (48 : Int32)) 99999), .ref 12]) (h' := Hp S3) 5 (fun Z => rfl) ?_
      have hw := hw _ rfl
      refine wp_st (pc' := 226) (L' := [some (.ref 12)]) (st' := []) (h' := Hp (up S3 12 9 (zmin ((((S3 12 9) * (10 : Int32)) + (S3 1 m4)) - (48 : Int32)) 99999))) 1 (fun Z => pfI sh12 rfl (Nat.le_of_ble_eq_true rfl) rfl _) ?_
      generalize up S3 12 9 (zmin ((((S3 12 9) * (10 : Int32)) + (S3 1 m4)) - (48 : Int32)) 99999) = S5 at hw ⊢
      refine wp_st (pc' := 228) (L' := [some (.ref 12)]) (st' := [.ref 12, .ref 12]) (h' := Hp S5) 2 (fun Z => rfl) ?_
      refine wp_st (pc' := 231) (L' := [some (.ref 12)]) (st' := [.int (S5 12 7), .ref 12]) (h' := Hp S5) 1 (fun Z => gfI (E := E) sh12 rfl _) ?_
      refine wp_st (pc' := 233) (L' := [some (.ref 12)]) (st' := [.int ((S5 12 7) + (1 : Int32)), .ref 12]) (h' := Hp S5) 2 (fun Z => rfl) ?_
      have hw := hw _ rfl
      refine wp_st (pc' := 236) (L' := [some (.ref 12)]) (st' := []) (h' := Hp (up S5 12 7 ((S5 12 7) + (1 : Int32)))) 1 (fun Z => pfI sh12 rfl (Nat.le_of_ble_eq_true rfl) rfl _) ?_
      generalize up S5 12 7 ((S5 12 7) + (1 : Int32)) = S6 at hw ⊢
      exact wp_st 1 (fun Z => rfl) (show wp E (d + 1) m_Reader_nextToken 171 [some (.ref 12)] [] (Hp S6) (QV Q) from hw)
set_option maxRecDepth 4000 in
theorem w_Reader_nextToken_239 {E : zX} {d : Nat} {S : St}  {Q : St → Prop} (hd : 1 ≤ d) 
    (hw : if ((S 12 7) - (S 12 6)) ≤ 4 then (
      ∀ S1, S1 = up S 12 10 0 →
      Q S1)
    else (
      ∀ S2, S2 = up S 12 10 1 →
      Q S2)) :
    k_Reader_nextToken_239 E d S Q := by
  obtain ⟨d, rfl⟩ := Nat.exists_eq_add_of_le' hd
  show wp E (d + 1) m_Reader_nextToken 239 [some (.ref 12)] [] (Hp S) (QV Q)
  refine wp_st (pc' := 241) (L' := [some (.ref 12)]) (st' := [.ref 12, .ref 12]) (h' := Hp S) 2 (fun Z => rfl) ?_
  refine wp_st (pc' := 244) (L' := [some (.ref 12)]) (st' := [.int (S 12 7), .ref 12]) (h' := Hp S) 1 (fun Z => gfI (E := E) sh12 rfl _) ?_
  refine wp_st (pc' := 245) (L' := [some (.ref 12)]) (st' := [.ref 12, .int (S 12 7), .ref 12]) (h' := Hp S) 1 (fun Z => rfl) ?_
  refine wp_st (pc' := 248) (L' := [some (.ref 12)]) (st' := [.int (S 12 6), .int (S 12 7), .ref 12]) (h' := Hp S) 1 (fun Z => gfI (E := E) sh12 rfl _) ?_
  refine wp_st (pc' := 250) (L' := [some (.ref 12)]) (st' := [.int 4, .int ((S 12 7) - (S 12 6)), .ref 12]) (h' := Hp S) 2 (fun Z => rfl) ?_
  by_cases hc : ((S 12 7) - (S 12 6)) ≤ 4
  · rw [if_pos hc] at hw
    refine wp_st (pc' := 257) (L' := [some (.ref 12)]) (st' := [.ref 12]) (h' := Hp S) 1 (fun Z => if_pos hc) ?_
    refine wp_st (pc' := 258) (L' := [some (.ref 12)]) (st' := [.int 0, .ref 12]) (h' := Hp S) 1 (fun Z => rfl) ?_
    have hw := hw _ rfl
    refine wp_st (pc' := 261) (L' := [some (.ref 12)]) (st' := []) (h' := Hp (up S 12 10 0)) 1 (fun Z => pfI sh12 rfl (Nat.le_of_ble_eq_true rfl) rfl _) ?_
    generalize up S 12 10 0 = S1 at hw ⊢
    refine wp_st (pc' := 301) (L' := [some (.ref 12)]) (st' := []) (h' := Hp S1) 1 (fun Z => rfl) ?_
    exact wp_ret (fun Z => rfl) ⟨_, rfl, rfl, hw⟩
  · rw [if_neg hc] at hw
    refine wp_st (pc' := 253) (L' := [some (.ref 12)]) (st' := [.ref 12]) (h' := Hp S) 1 (fun Z => if_neg hc) ?_
    refine wp_st (pc' := 258) (L' := [some (.ref 12)]) (st' := [.int 1, .ref 12]) (h' := Hp S) 2 (fun Z => rfl) ?_
    have hw := hw _ rfl
    refine wp_st (pc' := 261) (L' := [some (.ref 12)]) (st' := []) (h' := Hp (up S 12 10 1)) 1 (fun Z => pfI sh12 rfl (Nat.le_of_ble_eq_true rfl) rfl _) ?_
    generalize up S 12 10 1 = S2 at hw ⊢
    refine wp_st (pc' := 301) (L' := [some (.ref 12)]) (st' := []) (h' := Hp S2) 1 (fun Z => rfl) ?_
    exact wp_ret (fun Z => rfl) ⟨_, rfl, rfl, hw⟩
set_option maxRecDepth 4000 in
theorem w_Reader_isLetter {E : zX} {d : Nat} {S : St} {a0 : Int32} {Q : Int32 → St → Prop} 
    (hw : if a0 < 97 then (
      Q (0 : Int32) S)
    else (
      if 122 < a0 then (
        Q (0 : Int32) S)
      else (
        Q (1 : Int32) S))) :
    k_Reader_isLetter E d S a0 Q := by
  show wp E d m_Reader_isLetter 0 [some (.int a0)] [] (Hp S) (QI Q)
  refine wp_st (pc' := 3) (L' := [some (.int a0)]) (st' := [.int 97, .int a0]) (h' := Hp S) 2 (fun Z => rfl) ?_
  by_cases hc : a0 < 97
  · rw [if_pos hc] at hw
    refine wp_st (pc' := 16) (L' := [some (.int a0)]) (st' := []) (h' := Hp S) 1 (fun Z => if_pos hc) ?_
    refine wp_st (pc' := 17) (L' := [some (.int a0)]) (st' := [.int 0]) (h' := Hp S) 1 (fun Z => rfl) ?_
    exact wp_ret (fun Z => rfl) ⟨_, _, rfl, rfl, hw⟩
  · rw [if_neg hc] at hw
    refine wp_st (pc' := 6) (L' := [some (.int a0)]) (st' := []) (h' := Hp S) 1 (fun Z => if_neg hc) ?_
    refine wp_st (pc' := 9) (L' := [some (.int a0)]) (st' := [.int 122, .int a0]) (h' := Hp S) 2 (fun Z => rfl) ?_
    by_cases hc : 122 < a0
    · rw [if_pos hc] at hw
      refine wp_st (pc' := 16) (L' := [some (.int a0)]) (st' := []) (h' := Hp S) 1 (fun Z => if_pos hc) ?_
      refine wp_st (pc' := 17) (L' := [some (.int a0)]) (st' := [.int 0]) (h' := Hp S) 1 (fun Z => rfl) ?_
      exact wp_ret (fun Z => rfl) ⟨_, _, rfl, rfl, hw⟩
    · rw [if_neg hc] at hw
      refine wp_st (pc' := 12) (L' := [some (.int a0)]) (st' := []) (h' := Hp S) 1 (fun Z => if_neg hc) ?_
      refine wp_st (pc' := 17) (L' := [some (.int a0)]) (st' := [.int 1]) (h' := Hp S) 2 (fun Z => rfl) ?_
      exact wp_ret (fun Z => rfl) ⟨_, _, rfl, rfl, hw⟩
set_option maxRecDepth 4000 in
theorem w_Reader_isDigit {E : zX} {d : Nat} {S : St} {a0 : Int32} {Q : Int32 → St → Prop} 
    (hw : if a0 < 48 then (
      Q (0 : Int32) S)
    else (
      if 57 < a0 then (
        Q (0 : Int32) S)
      else (
        Q (1 : Int32) S))) :
    k_Reader_isDigit E d S a0 Q := by
  show wp E d m_Reader_isDigit 0 [some (.int a0)] [] (Hp S) (QI Q)
  refine wp_st (pc' := 3) (L' := [some (.int a0)]) (st' := [.int 48, .int a0]) (h' := Hp S) 2 (fun Z => rfl) ?_
  by_cases hc : a0 < 48
  · rw [if_pos hc] at hw
    refine wp_st (pc' := 16) (L' := [some (.int a0)]) (st' := []) (h' := Hp S) 1 (fun Z => if_pos hc) ?_
    refine wp_st (pc' := 17) (L' := [some (.int a0)]) (st' := [.int 0]) (h' := Hp S) 1 (fun Z => rfl) ?_
    exact wp_ret (fun Z => rfl) ⟨_, _, rfl, rfl, hw⟩
  · rw [if_neg hc] at hw
    refine wp_st (pc' := 6) (L' := [some (.int a0)]) (st' := []) (h' := Hp S) 1 (fun Z => if_neg hc) ?_
    refine wp_st (pc' := 9) (L' := [some (.int a0)]) (st' := [.int 57, .int a0]) (h' := Hp S) 2 (fun Z => rfl) ?_
    by_cases hc : 57 < a0
    · rw [if_pos hc] at hw
      refine wp_st (pc' := 16) (L' := [some (.int a0)]) (st' := []) (h' := Hp S) 1 (fun Z => if_pos hc) ?_
      refine wp_st (pc' := 17) (L' := [some (.int a0)]) (st' := [.int 0]) (h' := Hp S) 1 (fun Z => rfl) ?_
      exact wp_ret (fun Z => rfl) ⟨_, _, rfl, rfl, hw⟩
    · rw [if_neg hc] at hw
      refine wp_st (pc' := 12) (L' := [some (.int a0)]) (st' := []) (h' := Hp S) 1 (fun Z => if_neg hc) ?_
      refine wp_st (pc' := 17) (L' := [some (.int a0)]) (st' := [.int 1]) (h' := Hp S) 2 (fun Z => rfl) ?_
      exact wp_ret (fun Z => rfl) ⟨_, _, rfl, rfl, hw⟩
set_option maxRecDepth 4000 in
theorem w_Reader_isWord {E : zX} {d : Nat} {S : St} {a1 : UInt32} {Q : Int32 → St → Prop} (hd : 1 ≤ d) 
    (hw : if (S 12 8) = 1 then (
      isT E a1 = true ∧
      k_String_length E (d - 1) S a1 (fun x1 S2 =>
      if ((S 12 7) - (S 12 6)) = x1 then (
        k_Reader_isWord_28 E d S2 a1 0 Q)
      else (
        Q (0 : Int32) S2)))
    else (
      Q (0 : Int32) S)) :
    k_Reader_isWord E d S a1 Q := by
  obtain ⟨d, rfl⟩ := Nat.exists_eq_add_of_le' hd
  show wp E (d + 1) m_Reader_isWord 0 [some (.ref 12), some (.float a1), none] [] (Hp S) (QI Q)
  refine wp_st (pc' := 1) (L' := [some (.ref 12), some (.float a1), none]) (st' := [.ref 12]) (h' := Hp S) 1 (fun Z => rfl) ?_
  refine wp_st (pc' := 4) (L' := [some (.ref 12), some (.float a1), none]) (st' := [.int (S 12 8)]) (h' := Hp S) 1 (fun Z => gfI (E := E) sh12 rfl _) ?_
  refine wp_st (pc' := 5) (L' := [some (.ref 12), some (.float a1), none]) (st' := [.int 1, .int (S 12 8)]) (h' := Hp S) 1 (fun Z => rfl) ?_
  by_cases hc : (S 12 8) = 1
  · rw [if_pos hc] at hw
    refine wp_st (pc' := 8) (L' := [some (.ref 12), some (.float a1), none]) (st' := []) (h' := Hp S) 1 (fun Z => if_pos hc) ?_
    refine wp_st (pc' := 9) (L' := [some (.ref 12), some (.float a1), none]) (st' := [.ref 12]) (h' := Hp S) 1 (fun Z => rfl) ?_
    refine wp_st (pc' := 12) (L' := [some (.ref 12), some (.float a1), none]) (st' := [.int (S 12 7)]) (h' := Hp S) 1 (fun Z => gfI (E := E) sh12 rfl _) ?_
    refine wp_st (pc' := 13) (L' := [some (.ref 12), some (.float a1), none]) (st' := [.ref 12, .int (S 12 7)]) (h' := Hp S) 1 (fun Z => rfl) ?_
    refine wp_st (pc' := 16) (L' := [some (.ref 12), some (.float a1), none]) (st' := [.int (S 12 6), .int (S 12 7)]) (h' := Hp S) 1 (fun Z => gfI (E := E) sh12 rfl _) ?_
    refine wp_st (pc' := 18) (L' := [some (.ref 12), some (.float a1), none]) (st' := [.float a1, .int ((S 12 7) - (S 12 6))]) (h' := Hp S) 2 (fun Z => rfl) ?_
    obtain ⟨hq, hw⟩ := hw
    refine wp_call (pc' := 21) (rest := [.int ((S 12 7) - (S 12 6))]) (fun Z => rfl) hq hw ?_
    rintro o h1 ⟨x1, S2, rfl, rfl, hw⟩
    refine ⟨_, rfl, ?_⟩
    show wp E (d + 1) m_Reader_isWord 21 [some (.ref 12), some (.float a1), none] [.int x1, .int ((S 12 7) - (S 12 6))] (Hp S2) (QI Q)
    by_cases hc : ((S 12 7) - (S 12 6)) = x1
    · rw [if_pos hc] at hw
      refine wp_st (pc' := 26) (L' := [some (.ref 12), some (.float a1), none]) (st' := []) (h' := Hp S2) 1 (fun Z => if_pos hc) ?_
      exact wp_st 2 (fun Z => rfl) (show wp E (d + 1) m_Reader_isWord 28 [some (.ref 12), some (.float a1), some (.int 0)] [] (Hp S2) (QI Q) from hw)
    · rw [if_neg hc] at hw
      refine wp_st (pc' := 24) (L' := [some (.ref 12), some (.float a1), none]) (st' := []) (h' := Hp S2) 1 (fun Z => if_neg hc) ?_
      refine wp_st (pc' := 25) (L' := [some (.ref 12), some (.float a1), none]) (st' := [.int 0]) (h' := Hp S2) 1 (fun Z => rfl) ?_
      exact wp_ret (fun Z => rfl) ⟨_, _, rfl, rfl, hw⟩
  · rw [if_neg hc] at hw
    refine wp_st (pc' := 24) (L' := [some (.ref 12), some (.float a1), none]) (st' := []) (h' := Hp S) 1 (fun Z => if_neg hc) ?_
    refine wp_st (pc' := 25) (L' := [some (.ref 12), some (.float a1), none]) (st' := [.int 0]) (h' := Hp S) 1 (fun Z => rfl) ?_
    exact wp_ret (fun Z => rfl) ⟨_, _, rfl, rfl, hw⟩
set_option maxRecDepth 4000 in
theorem w_Reader_isWord_28 {E : zX} {d : Nat} {S : St} {a1 : UInt32} {a2 : Nat} {Q : Int32 → St → Prop} (hd : 1 ≤ d) 
    (hw : isT E a1 = true ∧
    k_String_length E (d - 1) S a1 (fun x1 S2 =>
    if x1 ≤ (nI a2) then (
      Q (1 : Int32) S2)
    else (
      ∃ m3 : Nat, ((S2 12 6) + (nI a2)) = nI m3 ∧ m3 < 700 ∧
      isT E a1 = true ∧
      k_String_charAt E (d - 1) S2 a1 (nI a2) (fun x4 S5 =>
      if (S2 1 m3) = x4 then (
        k_Reader_isWord_28 E d S5 a1 (a2 + 1) Q)
      else (
        Q (0 : Int32) S5))))) :
    k_Reader_isWord_28 E d S a1 a2 Q := by
  obtain ⟨d, rfl⟩ := Nat.exists_eq_add_of_le' hd
  show wp E (d + 1) m_Reader_isWord 28 [some (.ref 12), some (.float a1), some (.int (nI a2))] [] (Hp S) (QI Q)
  refine wp_st (pc' := 30) (L' := [some (.ref 12), some (.float a1), some (.int (nI a2))]) (st' := [.float a1, .int (nI a2)]) (h' := Hp S) 2 (fun Z => rfl) ?_
  obtain ⟨hq, hw⟩ := hw
  refine wp_call (pc' := 33) (rest := [.int (nI a2)]) (fun Z => rfl) hq hw ?_
  rintro o h1 ⟨x1, S2, rfl, rfl, hw⟩
  refine ⟨_, rfl, ?_⟩
  show wp E (d + 1) m_Reader_isWord 33 [some (.ref 12), some (.float a1), some (.int (nI a2))] [.int x1, .int (nI a2)] (Hp S2) (QI Q)
  by_cases hc : x1 ≤ (nI a2)
  · rw [if_pos hc] at hw
    refine wp_st (pc' := 63) (L' := [some (.ref 12), some (.float a1), some (.int (nI a2))]) (st' := []) (h' := Hp S2) 1 (fun Z => if_pos hc) ?_
    refine wp_st (pc' := 64) (L' := [some (.ref 12), some (.float a1), some (.int (nI a2))]) (st' := [.int 1]) (h' := Hp S2) 1 (fun Z => rfl) ?_
    exact wp_ret (fun Z => rfl) ⟨_, _, rfl, rfl, hw⟩
  · rw [if_neg hc] at hw
    refine wp_st (pc' := 36) (L' := [some (.ref 12), some (.float a1), some (.int (nI a2))]) (st' := []) (h' := Hp S2) 1 (fun Z => if_neg hc) ?_
    refine wp_st (pc' := 37) (L' := [some (.ref 12), some (.float a1), some (.int (nI a2))]) (st' := [.ref 12]) (h' := Hp S2) 1 (fun Z => rfl) ?_
    refine wp_st (pc' := 40) (L' := [some (.ref 12), some (.float a1), some (.int (nI a2))]) (st' := [.ref 1]) (h' := Hp S2) 1 (fun Z => gfR (E := E) sh12 rfl _) ?_
    refine wp_st (pc' := 41) (L' := [some (.ref 12), some (.float a1), some (.int (nI a2))]) (st' := [.ref 12, .ref 1]) (h' := Hp S2) 1 (fun Z => rfl) ?_
    refine wp_st (pc' := 44) (L' := [some (.ref 12), some (.float a1), some (.int (nI a2))]) (st' := [.int (S2 12 6), .ref 1]) (h' := Hp S2) 1 (fun Z => gfI (E := E) sh12 rfl _) ?_
    refine wp_st (pc' := 46) (L' := [some (.ref 12), some (.float a1), some (.int (nI a2))]) (st' := [.int ((S2 12 6) + (nI a2)), .ref 1]) (h' := Hp S2) 2 (fun Z => rfl) ?_
    obtain ⟨m3, em, hi, hw⟩ := hw
    refine wp_st (pc' := 47) (L' := [some (.ref 12), some (.float a1), some (.int (nI a2))]) (st' := [.int (S2 1 m3)]) (h' := Hp S2) 1 (fun Z => (congrArg (fun v => zit E 1 Z (d + 1) m_Reader_isWord 46 [some (.ref 12), some (.float a1), some (.int (nI a2))] [.int v, .ref 1] (Hp S2)) em).trans (ldN (E := E) sh1 (by decide) hi [] (fun st => Z (d + 1) m_Reader_isWord 47 [some (.ref 12), some (.float a1), some (.int (nI a2))] st (Hp S2)))) ?_
    refine wp_st (pc' := 49) (L' := [some (.ref 12), some (.float a1), some (.int (nI a2))]) (st' := [.int (nI a2), .float a1, .int (S2 1 m3)]) (h' := Hp S2) 2 (fun Z => rfl) ?_
    obtain ⟨hq, hw⟩ := hw
    refine wp_call (pc' := 52) (rest := [.int (S2 1 m3)]) (fun Z => rfl) hq hw ?_
    rintro o h1 ⟨x4, S5, rfl, rfl, hw⟩
    refine ⟨_, rfl, ?_⟩
    show wp E (d + 1) m_Reader_isWord 52 [some (.ref 12), some (.float a1), some (.int (nI a2))] [.int x4, .int (S2 1 m3)] (Hp S5) (QI Q)
    by_cases hc : (S2 1 m3) = x4
    · rw [if_pos hc] at hw
      refine wp_st (pc' := 57) (L' := [some (.ref 12), some (.float a1), some (.int (nI a2))]) (st' := []) (h' := Hp S5) 1 (fun Z => if_pos hc) ?_
      refine wp_st (pc' := 60) (L' := [some (.ref 12), some (.float a1), some (.int (nI (a2 + 1)))]) (st' := []) (h' := Hp S5) 1 (fun Z => by rw [← nI_add a2 1]; rfl) ?_
      exact wp_st 1 (fun Z => rfl) (show wp E (d + 1) m_Reader_isWord 28 [some (.ref 12), some (.float a1), some (.int (nI (a2 + 1)))] [] (Hp S5) (QI Q) from hw)
    · rw [if_neg hc] at hw
      refine wp_st (pc' := 55) (L' := [some (.ref 12), some (.float a1), some (.int (nI a2))]) (st' := []) (h' := Hp S5) 1 (fun Z => if_neg hc) ?_
      refine wp_st (pc' := 56) (L' := [some (.ref 12), some (.float a1), some (.int (nI a2))]) (st' := [.int 0]) (h' := Hp S5) 1 (fun Z => rfl) ?_
      exact wp_ret (fun Z => rfl) ⟨_, _, rfl, rfl, hw⟩
set_option maxRecDepth 4000 in
theorem w_Reader_readDowns {E : zX} {d : Nat} {S : St}  {Q : Int32 → St → Prop} (hd : 1 ≤ d) 
    (hw : k_Reader_nextToken E (d - 1) S (fun S2 =>
    k_Reader_readNumber E (d - 1) S2 1 6 (fun x3 S4 =>
    if x3 = 0 then (
      Q (0 : Int32) S4)
    else (
      k_Reader_readNumber E (d - 1) S4 1 6 (fun x5 S6 =>
      if x5 = 0 then (
        Q (0 : Int32) S6)
      else (
        k_Land_measure E (d - 1) S6 13 (S4 12 11) (S6 12 11) (fun S8 =>
        k_Reader_readSign E (d - 1) S8 59 (fun x9 S10 =>
        (x9 = 0 ∨ x9 = 1) ∧ Q x9 S10)))))))) :
    k_Reader_readDowns E d S Q := by
  obtain ⟨d, rfl⟩ := Nat.exists_eq_add_of_le' hd
  show wp E (d + 1) m_Reader_readDowns 0 [some (.ref 12), none] [] (Hp S) (QI Q)
  refine wp_st (pc' := 1) (L' := [some (.ref 12), none]) (st' := [.ref 12]) (h' := Hp S) 1 (fun Z => rfl) ?_
  refine wp_call (pc' := 4) (rest := []) (fun Z => rfl) (isO_of sh12) hw ?_
  rintro o h1 ⟨S2, rfl, rfl, hw⟩
  refine ⟨_, rfl, ?_⟩
  show wp E (d + 1) m_Reader_readDowns 4 [some (.ref 12), none] [] (Hp S2) (QI Q)
  refine wp_st (pc' := 8) (L' := [some (.ref 12), none]) (st' := [.int 6, .int 1, .ref 12]) (h' := Hp S2) 3 (fun Z => rfl) ?_
  refine wp_call (pc' := 11) (rest := []) (fun Z => rfl) (isO_of sh12) hw ?_
  rintro o h1 ⟨x3, S4, rfl, rfl, hw⟩
  refine ⟨_, rfl, ?_⟩
  show wp E (d + 1) m_Reader_readDowns 11 [some (.ref 12), none] [.int x3] (Hp S4) (QI Q)
  by_cases hc : x3 = 0
  · rw [if_pos hc] at hw
    refine wp_st (pc' := 14) (L' := [some (.ref 12), none]) (st' := []) (h' := Hp S4) 1 (fun Z => if_pos hc) ?_
    refine wp_st (pc' := 15) (L' := [some (.ref 12), none]) (st' := [.int 0]) (h' := Hp S4) 1 (fun Z => rfl) ?_
    exact wp_ret (fun Z => rfl) ⟨_, _, rfl, rfl, hw⟩
  · rw [if_neg hc] at hw
    refine wp_st (pc' := 16) (L' := [some (.ref 12), none]) (st' := []) (h' := Hp S4) 1 (fun Z => if_neg hc) ?_
    refine wp_st (pc' := 17) (L' := [some (.ref 12), none]) (st' := [.ref 12]) (h' := Hp S4) 1 (fun Z => rfl) ?_
    refine wp_st (pc' := 20) (L' := [some (.ref 12), none]) (st' := [.int (S4 12 11)]) (h' := Hp S4) 1 (fun Z => gfI (E := E) sh12 rfl _) ?_
    refine wp_st (pc' := 25) (L' := [some (.ref 12), some (.int (S4 12 11))]) (st' := [.int 6, .int 1, .ref 12]) (h' := Hp S4) 4 (fun Z => rfl) ?_
    refine wp_call (pc' := 28) (rest := []) (fun Z => rfl) (isO_of sh12) hw ?_
    rintro o h1 ⟨x5, S6, rfl, rfl, hw⟩
    refine ⟨_, rfl, ?_⟩
    show wp E (d + 1) m_Reader_readDowns 28 [some (.ref 12), some (.int (S4 12 11))] [.int x5] (Hp S6) (QI Q)
    by_cases hc : x5 = 0
    · rw [if_pos hc] at hw
      refine wp_st (pc' := 31) (L' := [some (.ref 12), some (.int (S4 12 11))]) (st' := []) (h' := Hp S6) 1 (fun Z => if_pos hc) ?_
      refine wp_st (pc' := 32) (L' := [some (.ref 12), some (.int (S4 12 11))]) (st' := [.int 0]) (h' := Hp S6) 1 (fun Z => rfl) ?_
      exact wp_ret (fun Z => rfl) ⟨_, _, rfl, rfl, hw⟩
    · rw [if_neg hc] at hw
      refine wp_st (pc' := 33) (L' := [some (.ref 12), some (.int (S4 12 11))]) (st' := []) (h' := Hp S6) 1 (fun Z => if_neg hc) ?_
      refine wp_st (pc' := 34) (L' := [some (.ref 12), some (.int (S4 12 11))]) (st' := [.ref 12]) (h' := Hp S6) 1 (fun Z => rfl) ?_
      refine wp_st (pc' := 37) (L' := [some (.ref 12), some (.int (S4 12 11))]) (st' := [.ref 13]) (h' := Hp S6) 1 (fun Z => gfR (E := E) sh12 rfl _) ?_
      refine wp_st (pc' := 39) (L' := [some (.ref 12), some (.int (S4 12 11))]) (st' := [.ref 12, .int (S4 12 11), .ref 13]) (h' := Hp S6) 2 (fun Z => rfl) ?_
      refine wp_st (pc' := 42) (L' := [some (.ref 12), some (.int (S4 12 11))]) (st' := [.int (S6 12 11), .int (S4 12 11), .ref 13]) (h' := Hp S6) 1 (fun Z => gfI (E := E) sh12 rfl _) ?_
      refine wp_call (pc' := 45) (rest := []) (fun Z => rfl) (isO_of sh13) hw ?_
      rintro o h1 ⟨S8, rfl, rfl, hw⟩
      refine ⟨_, rfl, ?_⟩
      show wp E (d + 1) m_Reader_readDowns 45 [some (.ref 12), some (.int (S4 12 11))] [] (Hp S8) (QI Q)
      refine wp_st (pc' := 48) (L' := [some (.ref 12), some (.int (S4 12 11))]) (st' := [.int 59, .ref 12]) (h' := Hp S8) 2 (fun Z => rfl) ?_
      refine wp_call (pc' := 51) (rest := []) (fun Z => rfl) (isO_of sh12) hw ?_
      rintro o h1 ⟨x9, S10, rfl, rfl, hw⟩
      refine ⟨_, rfl, ?_⟩
      show wp E (d + 1) m_Reader_readDowns 51 [some (.ref 12), some (.int (S4 12 11))] [.int x9] (Hp S10) (QI Q)
      obtain ⟨hz, hw⟩ := hw
      refine wp_ret (h' := Hp S10) (o := .inl (some (.int x9))) (fun Z => ?_) ⟨_, _, rfl, rfl, hw⟩
      show (bif zfr _ _ then _ else none) = _
      rcases hz with hz | hz <;> rw [hz] <;> rfl
set_option maxRecDepth 4000 in
theorem w_Reader_readNumber {E : zX} {d : Nat} {S : St} {a1 : Int32} {a2 : Int32} {Q : Int32 → St → Prop} (hd : 1 ≤ d) 
    (hw : if (S 12 8) = 2 then (
      if (S 12 10) = 0 then (
        if (S 12 9) < a1 then (
          k_Reader_fail E (d - 1) S 2 (fun x1 S2 =>
          (x1 = 0 ∨ x1 = 1) ∧ Q x1 S2))
        else (
          if (S 12 9) ≤ a2 then (
            ∀ S3, S3 = up S 12 11 (S 12 9) →
            k_Reader_nextToken E (d - 1) S3 (fun S5 =>
            Q (1 : Int32) S5))
          else (
            k_Reader_fail E (d - 1) S 2 (fun x6 S7 =>
            (x6 = 0 ∨ x6 = 1) ∧ Q x6 S7))))
      else (
        k_Reader_fail E (d - 1) S 2 (fun x8 S9 =>
        (x8 = 0 ∨ x8 = 1) ∧ Q x8 S9)))
    else (
      k_Reader_fail E (d - 1) S 1 (fun x10 S11 =>
      (x10 = 0 ∨ x10 = 1) ∧ Q x10 S11))) :
    k_Reader_readNumber E d S a1 a2 Q := by
  obtain ⟨d, rfl⟩ := Nat.exists_eq_add_of_le' hd
  show wp E (d + 1) m_Reader_readNumber 0 [some (.ref 12), some (.int a1), some (.int a2)] [] (Hp S) (QI Q)
  refine wp_st (pc' := 1) (L' := [some (.ref 12), some (.int a1), some (.int a2)]) (st' := [.ref 12]) (h' := Hp S) 1 (fun Z => rfl) ?_
  refine wp_st (pc' := 4) (L' := [some (.ref 12), some (.int a1), some (.int a2)]) (st' := [.int (S 12 8)]) (h' := Hp S) 1 (fun Z => gfI (E := E) sh12 rfl _) ?_
  refine wp_st (pc' := 5) (L' := [some (.ref 12), some (.int a1), some (.int a2)]) (st' := [.int 2, .int (S 12 8)]) (h' := Hp S) 1 (fun Z => rfl) ?_
  by_cases hc : (S 12 8) = 2
  · rw [if_pos hc] at hw
    refine wp_st (pc' := 14) (L' := [some (.ref 12), some (.int a1), some (.int a2)]) (st' := []) (h' := Hp S) 1 (fun Z => if_pos hc) ?_
    refine wp_st (pc' := 15) (L' := [some (.ref 12), some (.int a1), some (.int a2)]) (st' := [.ref 12]) (h' := Hp S) 1 (fun Z => rfl) ?_
    refine wp_st (pc' := 18) (L' := [some (.ref 12), some (.int a1), some (.int a2)]) (st' := [.int (S 12 10)]) (h' := Hp S) 1 (fun Z => gfI (E := E) sh12 rfl _) ?_
    by_cases hc : (S 12 10) = 0
    · rw [if_pos hc] at hw
      refine wp_st (pc' := 21) (L' := [some (.ref 12), some (.int a1), some (.int a2)]) (st' := []) (h' := Hp S) 1 (fun Z => if_pos hc) ?_
      refine wp_st (pc' := 22) (L' := [some (.ref 12), some (.int a1), some (.int a2)]) (st' := [.ref 12]) (h' := Hp S) 1 (fun Z => rfl) ?_
      refine wp_st (pc' := 25) (L' := [some (.ref 12), some (.int a1), some (.int a2)]) (st' := [.int (S 12 9)]) (h' := Hp S) 1 (fun Z => gfI (E := E) sh12 rfl _) ?_
      refine wp_st (pc' := 26) (L' := [some (.ref 12), some (.int a1), some (.int a2)]) (st' := [.int a1, .int (S 12 9)]) (h' := Hp S) 1 (fun Z => rfl) ?_
      by_cases hc : (S 12 9) < a1
      · rw [if_pos hc] at hw
        refine wp_st (pc' := 37) (L' := [some (.ref 12), some (.int a1), some (.int a2)]) (st' := []) (h' := Hp S) 1 (fun Z => if_pos hc) ?_
        refine wp_st (pc' := 39) (L' := [some (.ref 12), some (.int a1), some (.int a2)]) (st' := [.int 2, .ref 12]) (h' := Hp S) 2 (fun Z => rfl) ?_
        refine wp_call (pc' := 42) (rest := []) (fun Z => rfl) (isO_of sh12) hw ?_
        rintro o h1 ⟨x1, S2, rfl, rfl, hw⟩
        refine ⟨_, rfl, ?_⟩
        show wp E (d + 1) m_Reader_readNumber 42 [some (.ref 12), some (.int a1), some (.int a2)] [.int x1] (Hp S2) (QI Q)
        obtain ⟨hz, hw⟩ := hw
        refine wp_ret (h' := Hp S2) (o := .inl (some (.int x1))) (fun Z => ?_) ⟨_, _, rfl, rfl, hw⟩
        show (bif zfr _ _ then _ else none) = _
        rcases hz with hz | hz <;> rw [hz] <;> rfl
      · rw [if_neg hc] at hw
        refine wp_st (pc' := 29) (L' := [some (.ref 12), some (.int a1), some (.int a2)]) (st' := []) (h' := Hp S) 1 (fun Z => if_neg hc) ?_
        refine wp_st (pc' := 30) (L' := [some (.ref 12), some (.int a1), some (.int a2)]) (st' := [.ref 12]) (h' := Hp S) 1 (fun Z => rfl) ?_
        refine wp_st (pc' := 33) (L' := [some (.ref 12), some (.int a1), some (.int a2)]) (st' := [.int (S 12 9)]) (h' := Hp S) 1 (fun Z => gfI (E := E) sh12 rfl _) ?_
        refine wp_st (pc' := 34) (L' := [some (.ref 12), some (.int a1), some (.int a2)]) (st' := [.int a2, .int (S 12 9)]) (h' := Hp S) 1 (fun Z => rfl) ?_
        by_cases hc : (S 12 9) ≤ a2
        · rw [if_pos hc] at hw
          refine wp_st (pc' := 43) (L' := [some (.ref 12), some (.int a1), some (.int a2)]) (st' := []) (h' := Hp S) 1 (fun Z => if_pos hc) ?_
          refine wp_st (pc' := 45) (L' := [some (.ref 12), some (.int a1), some (.int a2)]) (st' := [.ref 12, .ref 12]) (h' := Hp S) 2 (fun Z => rfl) ?_
          refine wp_st (pc' := 48) (L' := [some (.ref 12), some (.int a1), some (.int a2)]) (st' := [.int (S 12 9), .ref 12]) (h' := Hp S) 1 (fun Z => gfI (E := E) sh12 rfl _) ?_
          have hw := hw _ rfl
          refine wp_st (pc' := 51) (L' := [some (.ref 12), some (.int a1), some (.int a2)]) (st' := []) (h' := Hp (up S 12 11 (S 12 9))) 1 (fun Z => pfI sh12 rfl (Nat.le_of_ble_eq_true rfl) rfl _) ?_
          generalize up S 12 11 (S 12 9) = S3 at hw ⊢
          refine wp_st (pc' := 52) (L' := [some (.ref 12), some (.int a1), some (.int a2)]) (st' := [.ref 12]) (h' := Hp S3) 1 (fun Z => rfl) ?_
          refine wp_call (pc' := 55) (rest := []) (fun Z => rfl) (isO_of sh12) hw ?_
          rintro o h1 ⟨S5, rfl, rfl, hw⟩
          refine ⟨_, rfl, ?_⟩
          show wp E (d + 1) m_Reader_readNumber 55 [some (.ref 12), some (.int a1), some (.int a2)] [] (Hp S5) (QI Q)
          refine wp_st (pc' := 56) (L' := [some (.ref 12), some (.int a1), some (.int a2)]) (st' := [.int 1]) (h' := Hp S5) 1 (fun Z => rfl) ?_
          exact wp_ret (fun Z => rfl) ⟨_, _, rfl, rfl, hw⟩
        · rw [if_neg hc] at hw
          refine wp_st (pc' := 37) (L' := [some (.ref 12), some (.int a1), some (.int a2)]) (st' := []) (h' := Hp S) 1 (fun Z => if_neg hc) ?_
          refine wp_st (pc' := 39) (L' := [some (.ref 12), some (.int a1), some (.int a2)]) (st' := [.int 2, .ref 12]) (h' := Hp S) 2 (fun Z => rfl) ?_
          refine wp_call (pc' := 42) (rest := []) (fun Z => rfl) (isO_of sh12) hw ?_
          rintro o h1 ⟨x6, S7, rfl, rfl, hw⟩
          refine ⟨_, rfl, ?_⟩
          show wp E (d + 1) m_Reader_readNumber 42 [some (.ref 12), some (.int a1), some (.int a2)] [.int x6] (Hp S7) (QI Q)
          obtain ⟨hz, hw⟩ := hw
          refine wp_ret (h' := Hp S7) (o := .inl (some (.int x6))) (fun Z => ?_) ⟨_, _, rfl, rfl, hw⟩
          show (bif zfr _ _ then _ else none) = _
          rcases hz with hz | hz <;> rw [hz] <;> rfl
    · rw [if_neg hc] at hw
      refine wp_st (pc' := 37) (L' := [some (.ref 12), some (.int a1), some (.int a2)]) (st' := []) (h' := Hp S) 1 (fun Z => if_neg hc) ?_
      refine wp_st (pc' := 39) (L' := [some (.ref 12), some (.int a1), some (.int a2)]) (st' := [.int 2, .ref 12]) (h' := Hp S) 2 (fun Z => rfl) ?_
      refine wp_call (pc' := 42) (rest := []) (fun Z => rfl) (isO_of sh12) hw ?_
      rintro o h1 ⟨x8, S9, rfl, rfl, hw⟩
      refine ⟨_, rfl, ?_⟩
      show wp E (d + 1) m_Reader_readNumber 42 [some (.ref 12), some (.int a1), some (.int a2)] [.int x8] (Hp S9) (QI Q)
      obtain ⟨hz, hw⟩ := hw
      refine wp_ret (h' := Hp S9) (o := .inl (some (.int x8))) (fun Z => ?_) ⟨_, _, rfl, rfl, hw⟩
      show (bif zfr _ _ then _ else none) = _
      rcases hz with hz | hz <;> rw [hz] <;> rfl
  · rw [if_neg hc] at hw
    refine wp_st (pc' := 8) (L' := [some (.ref 12), some (.int a1), some (.int a2)]) (st' := []) (h' := Hp S) 1 (fun Z => if_neg hc) ?_
    refine wp_st (pc' := 10) (L' := [some (.ref 12), some (.int a1), some (.int a2)]) (st' := [.int 1, .ref 12]) (h' := Hp S) 2 (fun Z => rfl) ?_
    refine wp_call (pc' := 13) (rest := []) (fun Z => rfl) (isO_of sh12) hw ?_
    rintro o h1 ⟨x10, S11, rfl, rfl, hw⟩
    refine ⟨_, rfl, ?_⟩
    show wp E (d + 1) m_Reader_readNumber 13 [some (.ref 12), some (.int a1), some (.int a2)] [.int x10] (Hp S11) (QI Q)
    obtain ⟨hz, hw⟩ := hw
    refine wp_ret (h' := Hp S11) (o := .inl (some (.int x10))) (fun Z => ?_) ⟨_, _, rfl, rfl, hw⟩
    show (bif zfr _ _ then _ else none) = _
    rcases hz with hz | hz <;> rw [hz] <;> rfl
set_option maxRecDepth 4000 in
theorem w_Reader_fail {E : zX} {d : Nat} {S : St} {a1 : Int32} {Q : Int32 → St → Prop} 
    (hw : ∀ S1, S1 = up S 12 3 a1 →
    ∀ S2, S2 = up S1 12 2 (S1 12 6) →
    Q (0 : Int32) S2) :
    k_Reader_fail E d S a1 Q := by
  show wp E d m_Reader_fail 0 [some (.ref 12), some (.int a1)] [] (Hp S) (QI Q)
  refine wp_st (pc' := 2) (L' := [some (.ref 12), some (.int a1)]) (st' := [.int a1, .ref 12]) (h' := Hp S) 2 (fun Z => rfl) ?_
  have hw := hw _ rfl
  refine wp_st (pc' := 5) (L' := [some (.ref 12), some (.int a1)]) (st' := []) (h' := Hp (up S 12 3 a1)) 1 (fun Z => pfI sh12 rfl (Nat.le_of_ble_eq_true rfl) rfl _) ?_
  generalize up S 12 3 a1 = S1 at hw ⊢
  refine wp_st (pc' := 7) (L' := [some (.ref 12), some (.int a1)]) (st' := [.ref 12, .ref 12]) (h' := Hp S1) 2 (fun Z => rfl) ?_
  refine wp_st (pc' := 10) (L' := [some (.ref 12), some (.int a1)]) (st' := [.int (S1 12 6), .ref 12]) (h' := Hp S1) 1 (fun Z => gfI (E := E) sh12 rfl _) ?_
  have hw := hw _ rfl
  refine wp_st (pc' := 13) (L' := [some (.ref 12), some (.int a1)]) (st' := []) (h' := Hp (up S1 12 2 (S1 12 6))) 1 (fun Z => pfI sh12 rfl (Nat.le_of_ble_eq_true rfl) rfl _) ?_
  generalize up S1 12 2 (S1 12 6) = S2 at hw ⊢
  refine wp_st (pc' := 14) (L' := [some (.ref 12), some (.int a1)]) (st' := [.int 0]) (h' := Hp S2) 1 (fun Z => rfl) ?_
  exact wp_ret (fun Z => rfl) ⟨_, _, rfl, rfl, hw⟩
set_option maxRecDepth 4000 in
theorem w_Reader_readSign {E : zX} {d : Nat} {S : St} {a1 : Int32} {Q : Int32 → St → Prop} (hd : 1 ≤ d) 
    (hw : k_Reader_isSign E (d - 1) S a1 (fun x1 S2 =>
    if x1 = 0 then (
      k_Reader_fail E (d - 1) S2 1 (fun x3 S4 =>
      (x3 = 0 ∨ x3 = 1) ∧ Q x3 S4))
    else (
      k_Reader_nextToken E (d - 1) S2 (fun S6 =>
      Q (1 : Int32) S6)))) :
    k_Reader_readSign E d S a1 Q := by
  obtain ⟨d, rfl⟩ := Nat.exists_eq_add_of_le' hd
  show wp E (d + 1) m_Reader_readSign 0 [some (.ref 12), some (.int a1)] [] (Hp S) (QI Q)
  refine wp_st (pc' := 2) (L' := [some (.ref 12), some (.int a1)]) (st' := [.int a1, .ref 12]) (h' := Hp S) 2 (fun Z => rfl) ?_
  refine wp_call (pc' := 5) (rest := []) (fun Z => rfl) (isO_of sh12) hw ?_
  rintro o h1 ⟨x1, S2, rfl, rfl, hw⟩
  refine ⟨_, rfl, ?_⟩
  show wp E (d + 1) m_Reader_readSign 5 [some (.ref 12), some (.int a1)] [.int x1] (Hp S2) (QI Q)
  by_cases hc : x1 = 0
  · rw [if_pos hc] at hw
    refine wp_st (pc' := 8) (L' := [some (.ref 12), some (.int a1)]) (st' := []) (h' := Hp S2) 1 (fun Z => if_pos hc) ?_
    refine wp_st (pc' := 10) (L' := [some (.ref 12), some (.int a1)]) (st' := [.int 1, .ref 12]) (h' := Hp S2) 2 (fun Z => rfl) ?_
    refine wp_call (pc' := 13) (rest := []) (fun Z => rfl) (isO_of sh12) hw ?_
    rintro o h1 ⟨x3, S4, rfl, rfl, hw⟩
    refine ⟨_, rfl, ?_⟩
    show wp E (d + 1) m_Reader_readSign 13 [some (.ref 12), some (.int a1)] [.int x3] (Hp S4) (QI Q)
    obtain ⟨hz, hw⟩ := hw
    refine wp_ret (h' := Hp S4) (o := .inl (some (.int x3))) (fun Z => ?_) ⟨_, _, rfl, rfl, hw⟩
    show (bif zfr _ _ then _ else none) = _
    rcases hz with hz | hz <;> rw [hz] <;> rfl
  · rw [if_neg hc] at hw
    refine wp_st (pc' := 14) (L' := [some (.ref 12), some (.int a1)]) (st' := []) (h' := Hp S2) 1 (fun Z => if_neg hc) ?_
    refine wp_st (pc' := 15) (L' := [some (.ref 12), some (.int a1)]) (st' := [.ref 12]) (h' := Hp S2) 1 (fun Z => rfl) ?_
    refine wp_call (pc' := 18) (rest := []) (fun Z => rfl) (isO_of sh12) hw ?_
    rintro o h1 ⟨S6, rfl, rfl, hw⟩
    refine ⟨_, rfl, ?_⟩
    show wp E (d + 1) m_Reader_readSign 18 [some (.ref 12), some (.int a1)] [] (Hp S6) (QI Q)
    refine wp_st (pc' := 19) (L' := [some (.ref 12), some (.int a1)]) (st' := [.int 1]) (h' := Hp S6) 1 (fun Z => rfl) ?_
    exact wp_ret (fun Z => rfl) ⟨_, _, rfl, rfl, hw⟩
set_option maxRecDepth 4000 in
theorem w_Reader_isSign {E : zX} {d : Nat} {S : St} {a1 : Int32} {Q : Int32 → St → Prop} 
    (hw : if (S 12 8) = 3 then (
      ∃ m1 : Nat, (S 12 6) = nI m1 ∧ m1 < 700 ∧
      if (S 1 m1) = a1 then (
        Q (1 : Int32) S)
      else (
        Q (0 : Int32) S))
    else (
      Q (0 : Int32) S)) :
    k_Reader_isSign E d S a1 Q := by
  show wp E d m_Reader_isSign 0 [some (.ref 12), some (.int a1)] [] (Hp S) (QI Q)
  refine wp_st (pc' := 1) (L' := [some (.ref 12), some (.int a1)]) (st' := [.ref 12]) (h' := Hp S) 1 (fun Z => rfl) ?_
  refine wp_st (pc' := 4) (L' := [some (.ref 12), some (.int a1)]) (st' := [.int (S 12 8)]) (h' := Hp S) 1 (fun Z => gfI (E := E) sh12 rfl _) ?_
  refine wp_st (pc' := 5) (L' := [some (.ref 12), some (.int a1)]) (st' := [.int 3, .int (S 12 8)]) (h' := Hp S) 1 (fun Z => rfl) ?_
  by_cases hc : (S 12 8) = 3
  · rw [if_pos hc] at hw
    refine wp_st (pc' := 8) (L' := [some (.ref 12), some (.int a1)]) (st' := []) (h' := Hp S) 1 (fun Z => if_pos hc) ?_
    refine wp_st (pc' := 9) (L' := [some (.ref 12), some (.int a1)]) (st' := [.ref 12]) (h' := Hp S) 1 (fun Z => rfl) ?_
    refine wp_st (pc' := 12) (L' := [some (.ref 12), some (.int a1)]) (st' := [.ref 1]) (h' := Hp S) 1 (fun Z => gfR (E := E) sh12 rfl _) ?_
    refine wp_st (pc' := 13) (L' := [some (.ref 12), some (.int a1)]) (st' := [.ref 12, .ref 1]) (h' := Hp S) 1 (fun Z => rfl) ?_
    refine wp_st (pc' := 16) (L' := [some (.ref 12), some (.int a1)]) (st' := [.int (S 12 6), .ref 1]) (h' := Hp S) 1 (fun Z => gfI (E := E) sh12 rfl _) ?_
    obtain ⟨m1, em, hi, hw⟩ := hw
    refine wp_st (pc' := 17) (L' := [some (.ref 12), some (.int a1)]) (st' := [.int (S 1 m1)]) (h' := Hp S) 1 (fun Z => (congrArg (fun v => zit E 1 Z d m_Reader_isSign 16 [some (.ref 12), some (.int a1)] [.int v, .ref 1] (Hp S)) em).trans (ldN (E := E) sh1 (by decide) hi [] (fun st => Z d m_Reader_isSign 17 [some (.ref 12), some (.int a1)] st (Hp S)))) ?_
    refine wp_st (pc' := 18) (L' := [some (.ref 12), some (.int a1)]) (st' := [.int a1, .int (S 1 m1)]) (h' := Hp S) 1 (fun Z => rfl) ?_
    by_cases hc : (S 1 m1) = a1
    · rw [if_pos hc] at hw
      refine wp_st (pc' := 21) (L' := [some (.ref 12), some (.int a1)]) (st' := []) (h' := Hp S) 1 (fun Z => if_pos hc) ?_
      refine wp_st (pc' := 26) (L' := [some (.ref 12), some (.int a1)]) (st' := [.int 1]) (h' := Hp S) 2 (fun Z => rfl) ?_
      exact wp_ret (fun Z => rfl) ⟨_, _, rfl, rfl, hw⟩
    · rw [if_neg hc] at hw
      refine wp_st (pc' := 25) (L' := [some (.ref 12), some (.int a1)]) (st' := []) (h' := Hp S) 1 (fun Z => if_neg hc) ?_
      refine wp_st (pc' := 26) (L' := [some (.ref 12), some (.int a1)]) (st' := [.int 0]) (h' := Hp S) 1 (fun Z => rfl) ?_
      exact wp_ret (fun Z => rfl) ⟨_, _, rfl, rfl, hw⟩
  · rw [if_neg hc] at hw
    refine wp_st (pc' := 25) (L' := [some (.ref 12), some (.int a1)]) (st' := []) (h' := Hp S) 1 (fun Z => if_neg hc) ?_
    refine wp_st (pc' := 26) (L' := [some (.ref 12), some (.int a1)]) (st' := [.int 0]) (h' := Hp S) 1 (fun Z => rfl) ?_
    exact wp_ret (fun Z => rfl) ⟨_, _, rfl, rfl, hw⟩
set_option maxRecDepth 4000 in
theorem w_Reader_readLine {E : zX} {d : Nat} {S : St}  {Q : Int32 → St → Prop} (hd : 1 ≤ d) 
    (hw : k_Reader_isWord E (d - 1) S 5 (fun x1 S2 =>
    if x1 = 0 then (
      k_Reader_isWord E (d - 1) S2 7 (fun x3 S4 =>
      if x3 = 0 then (
        k_Reader_isWord E (d - 1) S4 11 (fun x5 S6 =>
        if x5 = 0 then (
          k_Reader_isWord E (d - 1) S6 35 (fun x7 S8 =>
          if x7 = 0 then (
            k_Reader_fail E (d - 1) S8 1 (fun x9 S10 =>
            (x9 = 0 ∨ x9 = 1) ∧ Q x9 S10))
          else (
            ∀ S11, S11 = up S8 12 13 0 →
            k_Reader_readRule E (d - 1) S11 18 (fun x12 S13 =>
            (x12 = 0 ∨ x12 = 1) ∧ Q x12 S13))))
        else (
          ∀ S14, S14 = up S6 12 13 1 →
          k_Reader_readRule E (d - 1) S14 16 (fun x15 S16 =>
          (x15 = 0 ∨ x15 = 1) ∧ Q x15 S16))))
      else (
        k_Reader_readBall E (d - 1) S4 (fun x17 S18 =>
        (x17 = 0 ∨ x17 = 1) ∧ Q x17 S18))))
    else (
      k_Reader_readPerson E (d - 1) S2 (fun x19 S20 =>
      (x19 = 0 ∨ x19 = 1) ∧ Q x19 S20)))) :
    k_Reader_readLine E d S Q := by
  obtain ⟨d, rfl⟩ := Nat.exists_eq_add_of_le' hd
  show wp E (d + 1) m_Reader_readLine 0 [some (.ref 12)] [] (Hp S) (QI Q)
  refine wp_st (pc' := 3) (L' := [some (.ref 12)]) (st' := [.float 5, .ref 12]) (h' := Hp S) 2 (fun Z => rfl) ?_
  refine wp_call (pc' := 6) (rest := []) (fun Z => rfl) (isO_of sh12) hw ?_
  rintro o h1 ⟨x1, S2, rfl, rfl, hw⟩
  refine ⟨_, rfl, ?_⟩
  show wp E (d + 1) m_Reader_readLine 6 [some (.ref 12)] [.int x1] (Hp S2) (QI Q)
  by_cases hc : x1 = 0
  · rw [if_pos hc] at hw
    refine wp_st (pc' := 14) (L' := [some (.ref 12)]) (st' := []) (h' := Hp S2) 1 (fun Z => if_pos hc) ?_
    refine wp_st (pc' := 17) (L' := [some (.ref 12)]) (st' := [.float 7, .ref 12]) (h' := Hp S2) 2 (fun Z => rfl) ?_
    refine wp_call (pc' := 20) (rest := []) (fun Z => rfl) (isO_of sh12) hw ?_
    rintro o h1 ⟨x3, S4, rfl, rfl, hw⟩
    refine ⟨_, rfl, ?_⟩
    show wp E (d + 1) m_Reader_readLine 20 [some (.ref 12)] [.int x3] (Hp S4) (QI Q)
    by_cases hc : x3 = 0
    · rw [if_pos hc] at hw
      refine wp_st (pc' := 28) (L' := [some (.ref 12)]) (st' := []) (h' := Hp S4) 1 (fun Z => if_pos hc) ?_
      refine wp_st (pc' := 31) (L' := [some (.ref 12)]) (st' := [.float 11, .ref 12]) (h' := Hp S4) 2 (fun Z => rfl) ?_
      refine wp_call (pc' := 34) (rest := []) (fun Z => rfl) (isO_of sh12) hw ?_
      rintro o h1 ⟨x5, S6, rfl, rfl, hw⟩
      refine ⟨_, rfl, ?_⟩
      show wp E (d + 1) m_Reader_readLine 34 [some (.ref 12)] [.int x5] (Hp S6) (QI Q)
      by_cases hc : x5 = 0
      · rw [if_pos hc] at hw
        refine wp_st (pc' := 54) (L' := [some (.ref 12)]) (st' := []) (h' := Hp S6) 1 (fun Z => if_pos hc) ?_
        refine wp_st (pc' := 57) (L' := [some (.ref 12)]) (st' := [.float 35, .ref 12]) (h' := Hp S6) 2 (fun Z => rfl) ?_
        refine wp_call (pc' := 60) (rest := []) (fun Z => rfl) (isO_of sh12) hw ?_
        rintro o h1 ⟨x7, S8, rfl, rfl, hw⟩
        refine ⟨_, rfl, ?_⟩
        show wp E (d + 1) m_Reader_readLine 60 [some (.ref 12)] [.int x7] (Hp S8) (QI Q)
        by_cases hc : x7 = 0
        · rw [if_pos hc] at hw
          refine wp_st (pc' := 80) (L' := [some (.ref 12)]) (st' := []) (h' := Hp S8) 1 (fun Z => if_pos hc) ?_
          refine wp_st (pc' := 82) (L' := [some (.ref 12)]) (st' := [.int 1, .ref 12]) (h' := Hp S8) 2 (fun Z => rfl) ?_
          refine wp_call (pc' := 85) (rest := []) (fun Z => rfl) (isO_of sh12) hw ?_
          rintro o h1 ⟨x9, S10, rfl, rfl, hw⟩
          refine ⟨_, rfl, ?_⟩
          show wp E (d + 1) m_Reader_readLine 85 [some (.ref 12)] [.int x9] (Hp S10) (QI Q)
          obtain ⟨hz, hw⟩ := hw
          refine wp_ret (h' := Hp S10) (o := .inl (some (.int x9))) (fun Z => ?_) ⟨_, _, rfl, rfl, hw⟩
          show (bif zfr _ _ then _ else none) = _
          rcases hz with hz | hz <;> rw [hz] <;> rfl
        · rw [if_neg hc] at hw
          refine wp_st (pc' := 63) (L' := [some (.ref 12)]) (st' := []) (h' := Hp S8) 1 (fun Z => if_neg hc) ?_
          refine wp_st (pc' := 65) (L' := [some (.ref 12)]) (st' := [.int 0, .ref 12]) (h' := Hp S8) 2 (fun Z => rfl) ?_
          have hw := hw _ rfl
          refine wp_st (pc' := 68) (L' := [some (.ref 12)]) (st' := []) (h' := Hp (up S8 12 13 0)) 1 (fun Z => pfI sh12 rfl (Nat.le_of_ble_eq_true rfl) rfl _) ?_
          generalize up S8 12 13 0 = S11 at hw ⊢
          refine wp_st (pc' := 70) (L' := [some (.ref 12)]) (st' := [.ref 12, .ref 12]) (h' := Hp S11) 2 (fun Z => rfl) ?_
          refine wp_st (pc' := 73) (L' := [some (.ref 12)]) (st' := [.ref 13, .ref 12]) (h' := Hp S11) 1 (fun Z => gfR (E := E) sh12 rfl _) ?_
          refine wp_st (pc' := 76) (L' := [some (.ref 12)]) (st' := [.ref 18, .ref 12]) (h' := Hp S11) 1 (fun Z => gfR (E := E) sh13 rfl _) ?_
          refine wp_call (pc' := 79) (rest := []) (fun Z => rfl) (isO_of sh12) hw ?_
          rintro o h1 ⟨x12, S13, rfl, rfl, hw⟩
          refine ⟨_, rfl, ?_⟩
          show wp E (d + 1) m_Reader_readLine 79 [some (.ref 12)] [.int x12] (Hp S13) (QI Q)
          obtain ⟨hz, hw⟩ := hw
          refine wp_ret (h' := Hp S13) (o := .inl (some (.int x12))) (fun Z => ?_) ⟨_, _, rfl, rfl, hw⟩
          show (bif zfr _ _ then _ else none) = _
          rcases hz with hz | hz <;> rw [hz] <;> rfl
      · rw [if_neg hc] at hw
        refine wp_st (pc' := 37) (L' := [some (.ref 12)]) (st' := []) (h' := Hp S6) 1 (fun Z => if_neg hc) ?_
        refine wp_st (pc' := 39) (L' := [some (.ref 12)]) (st' := [.int 1, .ref 12]) (h' := Hp S6) 2 (fun Z => rfl) ?_
        have hw := hw _ rfl
        refine wp_st (pc' := 42) (L' := [some (.ref 12)]) (st' := []) (h' := Hp (up S6 12 13 1)) 1 (fun Z => pfI sh12 rfl (Nat.le_of_ble_eq_true rfl) rfl _) ?_
        generalize up S6 12 13 1 = S14 at hw ⊢
        refine wp_st (pc' := 44) (L' := [some (.ref 12)]) (st' := [.ref 12, .ref 12]) (h' := Hp S14) 2 (fun Z => rfl) ?_
        refine wp_st (pc' := 47) (L' := [some (.ref 12)]) (st' := [.ref 13, .ref 12]) (h' := Hp S14) 1 (fun Z => gfR (E := E) sh12 rfl _) ?_
        refine wp_st (pc' := 50) (L' := [some (.ref 12)]) (st' := [.ref 16, .ref 12]) (h' := Hp S14) 1 (fun Z => gfR (E := E) sh13 rfl _) ?_
        refine wp_call (pc' := 53) (rest := []) (fun Z => rfl) (isO_of sh12) hw ?_
        rintro o h1 ⟨x15, S16, rfl, rfl, hw⟩
        refine ⟨_, rfl, ?_⟩
        show wp E (d + 1) m_Reader_readLine 53 [some (.ref 12)] [.int x15] (Hp S16) (QI Q)
        obtain ⟨hz, hw⟩ := hw
        refine wp_ret (h' := Hp S16) (o := .inl (some (.int x15))) (fun Z => ?_) ⟨_, _, rfl, rfl, hw⟩
        show (bif zfr _ _ then _ else none) = _
        rcases hz with hz | hz <;> rw [hz] <;> rfl
    · rw [if_neg hc] at hw
      refine wp_st (pc' := 23) (L' := [some (.ref 12)]) (st' := []) (h' := Hp S4) 1 (fun Z => if_neg hc) ?_
      refine wp_st (pc' := 24) (L' := [some (.ref 12)]) (st' := [.ref 12]) (h' := Hp S4) 1 (fun Z => rfl) ?_
      refine wp_call (pc' := 27) (rest := []) (fun Z => rfl) (isO_of sh12) hw ?_
      rintro o h1 ⟨x17, S18, rfl, rfl, hw⟩
      refine ⟨_, rfl, ?_⟩
      show wp E (d + 1) m_Reader_readLine 27 [some (.ref 12)] [.int x17] (Hp S18) (QI Q)
      obtain ⟨hz, hw⟩ := hw
      refine wp_ret (h' := Hp S18) (o := .inl (some (.int x17))) (fun Z => ?_) ⟨_, _, rfl, rfl, hw⟩
      show (bif zfr _ _ then _ else none) = _
      rcases hz with hz | hz <;> rw [hz] <;> rfl
  · rw [if_neg hc] at hw
    refine wp_st (pc' := 9) (L' := [some (.ref 12)]) (st' := []) (h' := Hp S2) 1 (fun Z => if_neg hc) ?_
    refine wp_st (pc' := 10) (L' := [some (.ref 12)]) (st' := [.ref 12]) (h' := Hp S2) 1 (fun Z => rfl) ?_
    refine wp_call (pc' := 13) (rest := []) (fun Z => rfl) (isO_of sh12) hw ?_
    rintro o h1 ⟨x19, S20, rfl, rfl, hw⟩
    refine ⟨_, rfl, ?_⟩
    show wp E (d + 1) m_Reader_readLine 13 [some (.ref 12)] [.int x19] (Hp S20) (QI Q)
    obtain ⟨hz, hw⟩ := hw
    refine wp_ret (h' := Hp S20) (o := .inl (some (.int x19))) (fun Z => ?_) ⟨_, _, rfl, rfl, hw⟩
    show (bif zfr _ _ then _ else none) = _
    rcases hz with hz | hz <;> rw [hz] <;> rfl
set_option maxRecDepth 4000 in
theorem w_Reader_readPerson {E : zX} {d : Nat} {S : St}  {Q : Int32 → St → Prop} (hd : 1 ≤ d) 
    (hw : if (S 13 3) < 7 then (
      k_Reader_nextToken E (d - 1) S (fun S2 =>
      k_Reader_readCell E (d - 1) S2 (fun x3 S4 =>
      if x3 = 0 then (
        Q (0 : Int32) S4)
      else (
        ∃ m6 : Nat, (S 13 3) = nI m6 ∧ m6 < 7 ∧
        ∀ S5, S5 = up S4 14 m6 (S4 12 11) →
        k_Reader_readNumber E (d - 1) S5 0 9 (fun x7 S8 =>
        if x7 = 0 then (
          Q (0 : Int32) S8)
        else (
          k_Scene_setMild E (d - 1) S8 22 (S 13 3) (S8 12 11) (fun S10 =>
          k_Reader_readNumber E (d - 1) S10 0 99 (fun x11 S12 =>
          if x11 = 0 then (
            Q (0 : Int32) S12)
          else (
            k_Scene_setTemper E (d - 1) S12 22 (S 13 3) (S12 12 11) (fun S14 =>
            ∀ S15, S15 = up S14 13 3 ((S14 13 3) + (1 : Int32)) →
            k_Reader_readSign E (d - 1) S15 59 (fun x16 S17 =>
            (x16 = 0 ∨ x16 = 1) ∧ Q x16 S17)))))))))))
    else (
      k_Reader_fail E (d - 1) S 2 (fun x18 S19 =>
      (x18 = 0 ∨ x18 = 1) ∧ Q x18 S19))) :
    k_Reader_readPerson E d S Q := by
  obtain ⟨d, rfl⟩ := Nat.exists_eq_add_of_le' hd
  show wp E (d + 1) m_Reader_readPerson 0 [some (.ref 12), none] [] (Hp S) (QI Q)
  refine wp_st (pc' := 1) (L' := [some (.ref 12), none]) (st' := [.ref 12]) (h' := Hp S) 1 (fun Z => rfl) ?_
  refine wp_st (pc' := 4) (L' := [some (.ref 12), none]) (st' := [.ref 13]) (h' := Hp S) 1 (fun Z => gfR (E := E) sh12 rfl _) ?_
  refine wp_st (pc' := 7) (L' := [some (.ref 12), none]) (st' := [.int (S 13 3)]) (h' := Hp S) 1 (fun Z => gfI (E := E) sh13 rfl _) ?_
  refine wp_st (pc' := 11) (L' := [some (.ref 12), some (.int (S 13 3))]) (st' := [.int 7, .int (S 13 3)]) (h' := Hp S) 3 (fun Z => rfl) ?_
  by_cases hc : (S 13 3) < 7
  · rw [if_pos hc] at hw
    refine wp_st (pc' := 20) (L' := [some (.ref 12), some (.int (S 13 3))]) (st' := []) (h' := Hp S) 1 (fun Z => if_pos hc) ?_
    refine wp_st (pc' := 21) (L' := [some (.ref 12), some (.int (S 13 3))]) (st' := [.ref 12]) (h' := Hp S) 1 (fun Z => rfl) ?_
    refine wp_call (pc' := 24) (rest := []) (fun Z => rfl) (isO_of sh12) hw ?_
    rintro o h1 ⟨S2, rfl, rfl, hw⟩
    refine ⟨_, rfl, ?_⟩
    show wp E (d + 1) m_Reader_readPerson 24 [some (.ref 12), some (.int (S 13 3))] [] (Hp S2) (QI Q)
    refine wp_st (pc' := 25) (L' := [some (.ref 12), some (.int (S 13 3))]) (st' := [.ref 12]) (h' := Hp S2) 1 (fun Z => rfl) ?_
    refine wp_call (pc' := 28) (rest := []) (fun Z => rfl) (isO_of sh12) hw ?_
    rintro o h1 ⟨x3, S4, rfl, rfl, hw⟩
    refine ⟨_, rfl, ?_⟩
    show wp E (d + 1) m_Reader_readPerson 28 [some (.ref 12), some (.int (S 13 3))] [.int x3] (Hp S4) (QI Q)
    by_cases hc : x3 = 0
    · rw [if_pos hc] at hw
      refine wp_st (pc' := 31) (L' := [some (.ref 12), some (.int (S 13 3))]) (st' := []) (h' := Hp S4) 1 (fun Z => if_pos hc) ?_
      refine wp_st (pc' := 32) (L' := [some (.ref 12), some (.int (S 13 3))]) (st' := [.int 0]) (h' := Hp S4) 1 (fun Z => rfl) ?_
      exact wp_ret (fun Z => rfl) ⟨_, _, rfl, rfl, hw⟩
    · rw [if_neg hc] at hw
      refine wp_st (pc' := 33) (L' := [some (.ref 12), some (.int (S 13 3))]) (st' := []) (h' := Hp S4) 1 (fun Z => if_neg hc) ?_
      refine wp_st (pc' := 34) (L' := [some (.ref 12), some (.int (S 13 3))]) (st' := [.ref 12]) (h' := Hp S4) 1 (fun Z => rfl) ?_
      refine wp_st (pc' := 37) (L' := [some (.ref 12), some (.int (S 13 3))]) (st' := [.ref 13]) (h' := Hp S4) 1 (fun Z => gfR (E := E) sh12 rfl _) ?_
      refine wp_st (pc' := 40) (L' := [some (.ref 12), some (.int (S 13 3))]) (st' := [.ref 14]) (h' := Hp S4) 1 (fun Z => gfR (E := E) sh13 rfl _) ?_
      refine wp_st (pc' := 42) (L' := [some (.ref 12), some (.int (S 13 3))]) (st' := [.ref 12, .int (S 13 3), .ref 14]) (h' := Hp S4) 2 (fun Z => rfl) ?_
      refine wp_st (pc' := 45) (L' := [some (.ref 12), some (.int (S 13 3))]) (st' := [.int (S4 12 11), .int (S 13 3), .ref 14]) (h' := Hp S4) 1 (fun Z => gfI (E := E) sh12 rfl _) ?_
      obtain ⟨m6, em, hi, hw⟩ := hw
      have hw := hw _ rfl
      refine wp_st (pc' := 46) (L' := [some (.ref 12), some (.int (S 13 3))]) (st' := []) (h' := Hp (up S4 14 m6 (S4 12 11))) 1 (fun Z => (congrArg (fun v => zit E 1 Z (d + 1) m_Reader_readPerson 45 [some (.ref 12), some (.int (S 13 3))] [.int (S4 12 11), .int v, .ref 14] (Hp S4)) em).trans (stN sh14 (by decide) hi _ _)) ?_
      generalize up S4 14 m6 (S4 12 11) = S5 at hw ⊢
      refine wp_st (pc' := 50) (L' := [some (.ref 12), some (.int (S 13 3))]) (st' := [.int 9, .int 0, .ref 12]) (h' := Hp S5) 3 (fun Z => rfl) ?_
      refine wp_call (pc' := 53) (rest := []) (fun Z => rfl) (isO_of sh12) hw ?_
      rintro o h1 ⟨x7, S8, rfl, rfl, hw⟩
      refine ⟨_, rfl, ?_⟩
      show wp E (d + 1) m_Reader_readPerson 53 [some (.ref 12), some (.int (S 13 3))] [.int x7] (Hp S8) (QI Q)
      by_cases hc : x7 = 0
      · rw [if_pos hc] at hw
        refine wp_st (pc' := 56) (L' := [some (.ref 12), some (.int (S 13 3))]) (st' := []) (h' := Hp S8) 1 (fun Z => if_pos hc) ?_
        refine wp_st (pc' := 57) (L' := [some (.ref 12), some (.int (S 13 3))]) (st' := [.int 0]) (h' := Hp S8) 1 (fun Z => rfl) ?_
        exact wp_ret (fun Z => rfl) ⟨_, _, rfl, rfl, hw⟩
      · rw [if_neg hc] at hw
        refine wp_st (pc' := 58) (L' := [some (.ref 12), some (.int (S 13 3))]) (st' := []) (h' := Hp S8) 1 (fun Z => if_neg hc) ?_
        refine wp_st (pc' := 59) (L' := [some (.ref 12), some (.int (S 13 3))]) (st' := [.ref 12]) (h' := Hp S8) 1 (fun Z => rfl) ?_
        refine wp_st (pc' := 62) (L' := [some (.ref 12), some (.int (S 13 3))]) (st' := [.ref 22]) (h' := Hp S8) 1 (fun Z => gfR (E := E) sh12 rfl _) ?_
        refine wp_st (pc' := 64) (L' := [some (.ref 12), some (.int (S 13 3))]) (st' := [.ref 12, .int (S 13 3), .ref 22]) (h' := Hp S8) 2 (fun Z => rfl) ?_
        refine wp_st (pc' := 67) (L' := [some (.ref 12), some (.int (S 13 3))]) (st' := [.int (S8 12 11), .int (S 13 3), .ref 22]) (h' := Hp S8) 1 (fun Z => gfI (E := E) sh12 rfl _) ?_
        refine wp_call (pc' := 70) (rest := []) (fun Z => rfl) (isO_of sh22) hw ?_
        rintro o h1 ⟨S10, rfl, rfl, hw⟩
        refine ⟨_, rfl, ?_⟩
        show wp E (d + 1) m_Reader_readPerson 70 [some (.ref 12), some (.int (S 13 3))] [] (Hp S10) (QI Q)
        refine wp_st (pc' := 74) (L' := [some (.ref 12), some (.int (S 13 3))]) (st' := [.int 99, .int 0, .ref 12]) (h' := Hp S10) 3 (fun Z => rfl) ?_
        refine wp_call (pc' := 77) (rest := []) (fun Z => rfl) (isO_of sh12) hw ?_
        rintro o h1 ⟨x11, S12, rfl, rfl, hw⟩
        refine ⟨_, rfl, ?_⟩
        show wp E (d + 1) m_Reader_readPerson 77 [some (.ref 12), some (.int (S 13 3))] [.int x11] (Hp S12) (QI Q)
        by_cases hc : x11 = 0
        · rw [if_pos hc] at hw
          refine wp_st (pc' := 80) (L' := [some (.ref 12), some (.int (S 13 3))]) (st' := []) (h' := Hp S12) 1 (fun Z => if_pos hc) ?_
          refine wp_st (pc' := 81) (L' := [some (.ref 12), some (.int (S 13 3))]) (st' := [.int 0]) (h' := Hp S12) 1 (fun Z => rfl) ?_
          exact wp_ret (fun Z => rfl) ⟨_, _, rfl, rfl, hw⟩
        · rw [if_neg hc] at hw
          refine wp_st (pc' := 82) (L' := [some (.ref 12), some (.int (S 13 3))]) (st' := []) (h' := Hp S12) 1 (fun Z => if_neg hc) ?_
          refine wp_st (pc' := 83) (L' := [some (.ref 12), some (.int (S 13 3))]) (st' := [.ref 12]) (h' := Hp S12) 1 (fun Z => rfl) ?_
          refine wp_st (pc' := 86) (L' := [some (.ref 12), some (.int (S 13 3))]) (st' := [.ref 22]) (h' := Hp S12) 1 (fun Z => gfR (E := E) sh12 rfl _) ?_
          refine wp_st (pc' := 88) (L' := [some (.ref 12), some (.int (S 13 3))]) (st' := [.ref 12, .int (S 13 3), .ref 22]) (h' := Hp S12) 2 (fun Z => rfl) ?_
          refine wp_st (pc' := 91) (L' := [some (.ref 12), some (.int (S 13 3))]) (st' := [.int (S12 12 11), .int (S 13 3), .ref 22]) (h' := Hp S12) 1 (fun Z => gfI (E := E) sh12 rfl _) ?_
          refine wp_call (pc' := 94) (rest := []) (fun Z => rfl) (isO_of sh22) hw ?_
          rintro o h1 ⟨S14, rfl, rfl, hw⟩
          refine ⟨_, rfl, ?_⟩
          show wp E (d + 1) m_Reader_readPerson 94 [some (.ref 12), some (.int (S 13 3))] [] (Hp S14) (QI Q)
          refine wp_st (pc' := 95) (L' := [some (.ref 12), some (.int (S 13 3))]) (st' := [.ref 12]) (h' := Hp S14) 1 (fun Z => rfl) ?_
          refine wp_st (pc' := 98) (L' := [some (.ref 12), some (.int (S 13 3))]) (st' := [.ref 13]) (h' := Hp S14) 1 (fun Z => gfR (E := E) sh12 rfl _) ?_
          refine wp_st (pc' := 99) (L' := [some (.ref 12), some (.int (S 13 3))]) (st' := [.ref 13, .ref 13]) (h' := Hp S14) 1 (fun Z => rfl) ?_
          refine wp_st (pc' := 102) (L' := [some (.ref 12), some (.int (S 13 3))]) (st' := [.int (S14 13 3), .ref 13]) (h' := Hp S14) 1 (fun Z => gfI (E := E) sh13 rfl _) ?_
          refine wp_st (pc' := 104) (L' := [some (.ref 12), some (.int (S 13 3))]) (st' := [.int ((S14 13 3) + (1 : Int32)), .ref 13]) (h' := Hp S14) 2 (fun Z => rfl) ?_
          have hw := hw _ rfl
          refine wp_st (pc' := 107) (L' := [some (.ref 12), some (.int (S 13 3))]) (st' := []) (h' := Hp (up S14 13 3 ((S14 13 3) + (1 : Int32)))) 1 (fun Z => pfI sh13 rfl (Nat.le_of_ble_eq_true rfl) rfl _) ?_
          generalize up S14 13 3 ((S14 13 3) + (1 : Int32)) = S15 at hw ⊢
          refine wp_st (pc' := 110) (L' := [some (.ref 12), some (.int (S 13 3))]) (st' := [.int 59, .ref 12]) (h' := Hp S15) 2 (fun Z => rfl) ?_
          refine wp_call (pc' := 113) (rest := []) (fun Z => rfl) (isO_of sh12) hw ?_
          rintro o h1 ⟨x16, S17, rfl, rfl, hw⟩
          refine ⟨_, rfl, ?_⟩
          show wp E (d + 1) m_Reader_readPerson 113 [some (.ref 12), some (.int (S 13 3))] [.int x16] (Hp S17) (QI Q)
          obtain ⟨hz, hw⟩ := hw
          refine wp_ret (h' := Hp S17) (o := .inl (some (.int x16))) (fun Z => ?_) ⟨_, _, rfl, rfl, hw⟩
          show (bif zfr _ _ then _ else none) = _
          rcases hz with hz | hz <;> rw [hz] <;> rfl
  · rw [if_neg hc] at hw
    refine wp_st (pc' := 14) (L' := [some (.ref 12), some (.int (S 13 3))]) (st' := []) (h' := Hp S) 1 (fun Z => if_neg hc) ?_
    refine wp_st (pc' := 16) (L' := [some (.ref 12), some (.int (S 13 3))]) (st' := [.int 2, .ref 12]) (h' := Hp S) 2 (fun Z => rfl) ?_
    refine wp_call (pc' := 19) (rest := []) (fun Z => rfl) (isO_of sh12) hw ?_
    rintro o h1 ⟨x18, S19, rfl, rfl, hw⟩
    refine ⟨_, rfl, ?_⟩
    show wp E (d + 1) m_Reader_readPerson 19 [some (.ref 12), some (.int (S 13 3))] [.int x18] (Hp S19) (QI Q)
    obtain ⟨hz, hw⟩ := hw
    refine wp_ret (h' := Hp S19) (o := .inl (some (.int x18))) (fun Z => ?_) ⟨_, _, rfl, rfl, hw⟩
    show (bif zfr _ _ then _ else none) = _
    rcases hz with hz | hz <;> rw [hz] <;> rfl
set_option maxRecDepth 4000 in
theorem w_Reader_readCell {E : zX} {d : Nat} {S : St}  {Q : Int32 → St → Prop} (hd : 1 ≤ d) 
    (hw : if (S 12 8) = 2 then (
      if (S 12 10) = 0 then (
        if (S 12 9) < (S 13 2) then (
          k_Reader_readNumber E (d - 1) S 0 ((S 13 2) - (1 : Int32)) (fun x1 S2 =>
          (x1 = 0 ∨ x1 = 1) ∧ Q x1 S2))
        else (
          k_Reader_fail E (d - 1) S 3 (fun x3 S4 =>
          (x3 = 0 ∨ x3 = 1) ∧ Q x3 S4)))
      else (
        k_Reader_readNumber E (d - 1) S 0 ((S 13 2) - (1 : Int32)) (fun x5 S6 =>
        (x5 = 0 ∨ x5 = 1) ∧ Q x5 S6)))
    else (
      k_Reader_readNumber E (d - 1) S 0 ((S 13 2) - (1 : Int32)) (fun x7 S8 =>
      (x7 = 0 ∨ x7 = 1) ∧ Q x7 S8))) :
    k_Reader_readCell E d S Q := by
  obtain ⟨d, rfl⟩ := Nat.exists_eq_add_of_le' hd
  show wp E (d + 1) m_Reader_readCell 0 [some (.ref 12)] [] (Hp S) (QI Q)
  refine wp_st (pc' := 1) (L' := [some (.ref 12)]) (st' := [.ref 12]) (h' := Hp S) 1 (fun Z => rfl) ?_
  refine wp_st (pc' := 4) (L' := [some (.ref 12)]) (st' := [.int (S 12 8)]) (h' := Hp S) 1 (fun Z => gfI (E := E) sh12 rfl _) ?_
  refine wp_st (pc' := 5) (L' := [some (.ref 12)]) (st' := [.int 2, .int (S 12 8)]) (h' := Hp S) 1 (fun Z => rfl) ?_
  by_cases hc : (S 12 8) = 2
  · rw [if_pos hc] at hw
    refine wp_st (pc' := 8) (L' := [some (.ref 12)]) (st' := []) (h' := Hp S) 1 (fun Z => if_pos hc) ?_
    refine wp_st (pc' := 9) (L' := [some (.ref 12)]) (st' := [.ref 12]) (h' := Hp S) 1 (fun Z => rfl) ?_
    refine wp_st (pc' := 12) (L' := [some (.ref 12)]) (st' := [.int (S 12 10)]) (h' := Hp S) 1 (fun Z => gfI (E := E) sh12 rfl _) ?_
    by_cases hc : (S 12 10) = 0
    · rw [if_pos hc] at hw
      refine wp_st (pc' := 15) (L' := [some (.ref 12)]) (st' := []) (h' := Hp S) 1 (fun Z => if_pos hc) ?_
      refine wp_st (pc' := 16) (L' := [some (.ref 12)]) (st' := [.ref 12]) (h' := Hp S) 1 (fun Z => rfl) ?_
      refine wp_st (pc' := 19) (L' := [some (.ref 12)]) (st' := [.int (S 12 9)]) (h' := Hp S) 1 (fun Z => gfI (E := E) sh12 rfl _) ?_
      refine wp_st (pc' := 20) (L' := [some (.ref 12)]) (st' := [.ref 12, .int (S 12 9)]) (h' := Hp S) 1 (fun Z => rfl) ?_
      refine wp_st (pc' := 23) (L' := [some (.ref 12)]) (st' := [.ref 13, .int (S 12 9)]) (h' := Hp S) 1 (fun Z => gfR (E := E) sh12 rfl _) ?_
      refine wp_st (pc' := 26) (L' := [some (.ref 12)]) (st' := [.int (S 13 2), .int (S 12 9)]) (h' := Hp S) 1 (fun Z => gfI (E := E) sh13 rfl _) ?_
      by_cases hc : (S 12 9) < (S 13 2)
      · rw [if_pos hc] at hw
        refine wp_st (pc' := 35) (L' := [some (.ref 12)]) (st' := []) (h' := Hp S) 1 (fun Z => if_pos hc) ?_
        refine wp_st (pc' := 38) (L' := [some (.ref 12)]) (st' := [.ref 12, .int 0, .ref 12]) (h' := Hp S) 3 (fun Z => rfl) ?_
        refine wp_st (pc' := 41) (L' := [some (.ref 12)]) (st' := [.ref 13, .int 0, .ref 12]) (h' := Hp S) 1 (fun Z => gfR (E := E) sh12 rfl _) ?_
        refine wp_st (pc' := 44) (L' := [some (.ref 12)]) (st' := [.int (S 13 2), .int 0, .ref 12]) (h' := Hp S) 1 (fun Z => gfI (E := E) sh13 rfl _) ?_
        refine wp_st (pc' := 46) (L' := [some (.ref 12)]) (st' := [.int ((S 13 2) - (1 : Int32)), .int 0, .ref 12]) (h' := Hp S) 2 (fun Z => rfl) ?_
        refine wp_call (pc' := 49) (rest := []) (fun Z => rfl) (isO_of sh12) hw ?_
        rintro o h1 ⟨x1, S2, rfl, rfl, hw⟩
        refine ⟨_, rfl, ?_⟩
        show wp E (d + 1) m_Reader_readCell 49 [some (.ref 12)] [.int x1] (Hp S2) (QI Q)
        obtain ⟨hz, hw⟩ := hw
        refine wp_ret (h' := Hp S2) (o := .inl (some (.int x1))) (fun Z => ?_) ⟨_, _, rfl, rfl, hw⟩
        show (bif zfr _ _ then _ else none) = _
        rcases hz with hz | hz <;> rw [hz] <;> rfl
      · rw [if_neg hc] at hw
        refine wp_st (pc' := 29) (L' := [some (.ref 12)]) (st' := []) (h' := Hp S) 1 (fun Z => if_neg hc) ?_
        refine wp_st (pc' := 31) (L' := [some (.ref 12)]) (st' := [.int 3, .ref 12]) (h' := Hp S) 2 (fun Z => rfl) ?_
        refine wp_call (pc' := 34) (rest := []) (fun Z => rfl) (isO_of sh12) hw ?_
        rintro o h1 ⟨x3, S4, rfl, rfl, hw⟩
        refine ⟨_, rfl, ?_⟩
        show wp E (d + 1) m_Reader_readCell 34 [some (.ref 12)] [.int x3] (Hp S4) (QI Q)
        obtain ⟨hz, hw⟩ := hw
        refine wp_ret (h' := Hp S4) (o := .inl (some (.int x3))) (fun Z => ?_) ⟨_, _, rfl, rfl, hw⟩
        show (bif zfr _ _ then _ else none) = _
        rcases hz with hz | hz <;> rw [hz] <;> rfl
    · rw [if_neg hc] at hw
      refine wp_st (pc' := 35) (L' := [some (.ref 12)]) (st' := []) (h' := Hp S) 1 (fun Z => if_neg hc) ?_
      refine wp_st (pc' := 38) (L' := [some (.ref 12)]) (st' := [.ref 12, .int 0, .ref 12]) (h' := Hp S) 3 (fun Z => rfl) ?_
      refine wp_st (pc' := 41) (L' := [some (.ref 12)]) (st' := [.ref 13, .int 0, .ref 12]) (h' := Hp S) 1 (fun Z => gfR (E := E) sh12 rfl _) ?_
      refine wp_st (pc' := 44) (L' := [some (.ref 12)]) (st' := [.int (S 13 2), .int 0, .ref 12]) (h' := Hp S) 1 (fun Z => gfI (E := E) sh13 rfl _) ?_
      refine wp_st (pc' := 46) (L' := [some (.ref 12)]) (st' := [.int ((S 13 2) - (1 : Int32)), .int 0, .ref 12]) (h' := Hp S) 2 (fun Z => rfl) ?_
      refine wp_call (pc' := 49) (rest := []) (fun Z => rfl) (isO_of sh12) hw ?_
      rintro o h1 ⟨x5, S6, rfl, rfl, hw⟩
      refine ⟨_, rfl, ?_⟩
      show wp E (d + 1) m_Reader_readCell 49 [some (.ref 12)] [.int x5] (Hp S6) (QI Q)
      obtain ⟨hz, hw⟩ := hw
      refine wp_ret (h' := Hp S6) (o := .inl (some (.int x5))) (fun Z => ?_) ⟨_, _, rfl, rfl, hw⟩
      show (bif zfr _ _ then _ else none) = _
      rcases hz with hz | hz <;> rw [hz] <;> rfl
  · rw [if_neg hc] at hw
    refine wp_st (pc' := 35) (L' := [some (.ref 12)]) (st' := []) (h' := Hp S) 1 (fun Z => if_neg hc) ?_
    refine wp_st (pc' := 38) (L' := [some (.ref 12)]) (st' := [.ref 12, .int 0, .ref 12]) (h' := Hp S) 3 (fun Z => rfl) ?_
    refine wp_st (pc' := 41) (L' := [some (.ref 12)]) (st' := [.ref 13, .int 0, .ref 12]) (h' := Hp S) 1 (fun Z => gfR (E := E) sh12 rfl _) ?_
    refine wp_st (pc' := 44) (L' := [some (.ref 12)]) (st' := [.int (S 13 2), .int 0, .ref 12]) (h' := Hp S) 1 (fun Z => gfI (E := E) sh13 rfl _) ?_
    refine wp_st (pc' := 46) (L' := [some (.ref 12)]) (st' := [.int ((S 13 2) - (1 : Int32)), .int 0, .ref 12]) (h' := Hp S) 2 (fun Z => rfl) ?_
    refine wp_call (pc' := 49) (rest := []) (fun Z => rfl) (isO_of sh12) hw ?_
    rintro o h1 ⟨x7, S8, rfl, rfl, hw⟩
    refine ⟨_, rfl, ?_⟩
    show wp E (d + 1) m_Reader_readCell 49 [some (.ref 12)] [.int x7] (Hp S8) (QI Q)
    obtain ⟨hz, hw⟩ := hw
    refine wp_ret (h' := Hp S8) (o := .inl (some (.int x7))) (fun Z => ?_) ⟨_, _, rfl, rfl, hw⟩
    show (bif zfr _ _ then _ else none) = _
    rcases hz with hz | hz <;> rw [hz] <;> rfl
set_option maxRecDepth 4000 in
theorem w_Reader_readBall {E : zX} {d : Nat} {S : St}  {Q : Int32 → St → Prop} (hd : 1 ≤ d) 
    (hw : if (S 13 4) < 10 then (
      k_Reader_nextToken E (d - 1) S (fun S2 =>
      k_Reader_readCell E (d - 1) S2 (fun x3 S4 =>
      if x3 = 0 then (
        Q (0 : Int32) S4)
      else (
        k_Scene_setCell E (d - 1) S4 22 (S 13 4) (S4 12 11) (fun S6 =>
        k_Reader_readNumber E (d - 1) S6 1 99 (fun x7 S8 =>
        if x7 = 0 then (
          Q (0 : Int32) S8)
        else (
          ∃ m10 : Nat, (S 13 4) = nI m10 ∧ m10 < 10 ∧
          ∀ S9, S9 = up S8 15 m10 (S8 12 11) →
          k_Reader_isWord E (d - 1) S9 9 (fun x11 S12 =>
          if x11 = 0 then (
            k_Reader_readBall_115 E d S12 Q)
          else (
            k_Reader_nextToken E (d - 1) S12 (fun S14 =>
            ∃ m15 : Nat, (S 13 4) = nI m15 ∧ m15 < 10 ∧
            k_Reader_readNumber E (d - 1) S14 1 (S14 15 m15) (fun x16 S17 =>
            if x16 = 0 then (
              Q (0 : Int32) S17)
            else (
              k_Scene_fill E (d - 1) S17 22 (S 13 4) (S17 12 11) (-1) (fun S19 =>
              k_Reader_readBall_115 E d S19 Q)))))))))))))
    else (
      k_Reader_fail E (d - 1) S 2 (fun x20 S21 =>
      (x20 = 0 ∨ x20 = 1) ∧ Q x20 S21))) :
    k_Reader_readBall E d S Q := by
  obtain ⟨d, rfl⟩ := Nat.exists_eq_add_of_le' hd
  show wp E (d + 1) m_Reader_readBall 0 [some (.ref 12), none] [] (Hp S) (QI Q)
  refine wp_st (pc' := 1) (L' := [some (.ref 12), none]) (st' := [.ref 12]) (h' := Hp S) 1 (fun Z => rfl) ?_
  refine wp_st (pc' := 4) (L' := [some (.ref 12), none]) (st' := [.ref 13]) (h' := Hp S) 1 (fun Z => gfR (E := E) sh12 rfl _) ?_
  refine wp_st (pc' := 7) (L' := [some (.ref 12), none]) (st' := [.int (S 13 4)]) (h' := Hp S) 1 (fun Z => gfI (E := E) sh13 rfl _) ?_
  refine wp_st (pc' := 11) (L' := [some (.ref 12), some (.int (S 13 4))]) (st' := [.int 10, .int (S 13 4)]) (h' := Hp S) 3 (fun Z => rfl) ?_
  by_cases hc : (S 13 4) < 10
  · rw [if_pos hc] at hw
    refine wp_st (pc' := 20) (L' := [some (.ref 12), some (.int (S 13 4))]) (st' := []) (h' := Hp S) 1 (fun Z => if_pos hc) ?_
    refine wp_st (pc' := 21) (L' := [some (.ref 12), some (.int (S 13 4))]) (st' := [.ref 12]) (h' := Hp S) 1 (fun Z => rfl) ?_
    refine wp_call (pc' := 24) (rest := []) (fun Z => rfl) (isO_of sh12) hw ?_
    rintro o h1 ⟨S2, rfl, rfl, hw⟩
    refine ⟨_, rfl, ?_⟩
    show wp E (d + 1) m_Reader_readBall 24 [some (.ref 12), some (.int (S 13 4))] [] (Hp S2) (QI Q)
    refine wp_st (pc' := 25) (L' := [some (.ref 12), some (.int (S 13 4))]) (st' := [.ref 12]) (h' := Hp S2) 1 (fun Z => rfl) ?_
    refine wp_call (pc' := 28) (rest := []) (fun Z => rfl) (isO_of sh12) hw ?_
    rintro o h1 ⟨x3, S4, rfl, rfl, hw⟩
    refine ⟨_, rfl, ?_⟩
    show wp E (d + 1) m_Reader_readBall 28 [some (.ref 12), some (.int (S 13 4))] [.int x3] (Hp S4) (QI Q)
    by_cases hc : x3 = 0
    · rw [if_pos hc] at hw
      refine wp_st (pc' := 31) (L' := [some (.ref 12), some (.int (S 13 4))]) (st' := []) (h' := Hp S4) 1 (fun Z => if_pos hc) ?_
      refine wp_st (pc' := 32) (L' := [some (.ref 12), some (.int (S 13 4))]) (st' := [.int 0]) (h' := Hp S4) 1 (fun Z => rfl) ?_
      exact wp_ret (fun Z => rfl) ⟨_, _, rfl, rfl, hw⟩
    · rw [if_neg hc] at hw
      refine wp_st (pc' := 33) (L' := [some (.ref 12), some (.int (S 13 4))]) (st' := []) (h' := Hp S4) 1 (fun Z => if_neg hc) ?_
      refine wp_st (pc' := 34) (L' := [some (.ref 12), some (.int (S 13 4))]) (st' := [.ref 12]) (h' := Hp S4) 1 (fun Z => rfl) ?_
      refine wp_st (pc' := 37) (L' := [some (.ref 12), some (.int (S 13 4))]) (st' := [.ref 22]) (h' := Hp S4) 1 (fun Z => gfR (E := E) sh12 rfl _) ?_
      refine wp_st (pc' := 39) (L' := [some (.ref 12), some (.int (S 13 4))]) (st' := [.ref 12, .int (S 13 4), .ref 22]) (h' := Hp S4) 2 (fun Z => rfl) ?_
      refine wp_st (pc' := 42) (L' := [some (.ref 12), some (.int (S 13 4))]) (st' := [.int (S4 12 11), .int (S 13 4), .ref 22]) (h' := Hp S4) 1 (fun Z => gfI (E := E) sh12 rfl _) ?_
      refine wp_call (pc' := 45) (rest := []) (fun Z => rfl) (isO_of sh22) hw ?_
      rintro o h1 ⟨S6, rfl, rfl, hw⟩
      refine ⟨_, rfl, ?_⟩
      show wp E (d + 1) m_Reader_readBall 45 [some (.ref 12), some (.int (S 13 4))] [] (Hp S6) (QI Q)
      refine wp_st (pc' := 49) (L' := [some (.ref 12), some (.int (S 13 4))]) (st' := [.int 99, .int 1, .ref 12]) (h' := Hp S6) 3 (fun Z => rfl) ?_
      refine wp_call (pc' := 52) (rest := []) (fun Z => rfl) (isO_of sh12) hw ?_
      rintro o h1 ⟨x7, S8, rfl, rfl, hw⟩
      refine ⟨_, rfl, ?_⟩
      show wp E (d + 1) m_Reader_readBall 52 [some (.ref 12), some (.int (S 13 4))] [.int x7] (Hp S8) (QI Q)
      by_cases hc : x7 = 0
      · rw [if_pos hc] at hw
        refine wp_st (pc' := 55) (L' := [some (.ref 12), some (.int (S 13 4))]) (st' := []) (h' := Hp S8) 1 (fun Z => if_pos hc) ?_
        refine wp_st (pc' := 56) (L' := [some (.ref 12), some (.int (S 13 4))]) (st' := [.int 0]) (h' := Hp S8) 1 (fun Z => rfl) ?_
        exact wp_ret (fun Z => rfl) ⟨_, _, rfl, rfl, hw⟩
      · rw [if_neg hc] at hw
        refine wp_st (pc' := 57) (L' := [some (.ref 12), some (.int (S 13 4))]) (st' := []) (h' := Hp S8) 1 (fun Z => if_neg hc) ?_
        refine wp_st (pc' := 58) (L' := [some (.ref 12), some (.int (S 13 4))]) (st' := [.ref 12]) (h' := Hp S8) 1 (fun Z => rfl) ?_
        refine wp_st (pc' := 61) (L' := [some (.ref 12), some (.int (S 13 4))]) (st' := [.ref 13]) (h' := Hp S8) 1 (fun Z => gfR (E := E) sh12 rfl _) ?_
        refine wp_st (pc' := 64) (L' := [some (.ref 12), some (.int (S 13 4))]) (st' := [.ref 15]) (h' := Hp S8) 1 (fun Z => gfR (E := E) sh13 rfl _) ?_
        refine wp_st (pc' := 66) (L' := [some (.ref 12), some (.int (S 13 4))]) (st' := [.ref 12, .int (S 13 4), .ref 15]) (h' := Hp S8) 2 (fun Z => rfl) ?_
        refine wp_st (pc' := 69) (L' := [some (.ref 12), some (.int (S 13 4))]) (st' := [.int (S8 12 11), .int (S 13 4), .ref 15]) (h' := Hp S8) 1 (fun Z => gfI (E := E) sh12 rfl _) ?_
        obtain ⟨m10, em, hi, hw⟩ := hw
        have hw := hw _ rfl
        refine wp_st (pc' := 70) (L' := [some (.ref 12), some (.int (S 13 4))]) (st' := []) (h' := Hp (up S8 15 m10 (S8 12 11))) 1 (fun Z => (congrArg (fun v => zit E 1 Z (d + 1) m_Reader_readBall 69 [some (.ref 12), some (.int (S 13 4))] [.int (S8 12 11), .int v, .ref 15] (Hp S8)) em).trans (stN sh15 (by decide) hi _ _)) ?_
        generalize up S8 15 m10 (S8 12 11) = S9 at hw ⊢
        refine wp_st (pc' := 73) (L' := [some (.ref 12), some (.int (S 13 4))]) (st' := [.float 9, .ref 12]) (h' := Hp S9) 2 (fun Z => rfl) ?_
        refine wp_call (pc' := 76) (rest := []) (fun Z => rfl) (isO_of sh12) hw ?_
        rintro o h1 ⟨x11, S12, rfl, rfl, hw⟩
        refine ⟨_, rfl, ?_⟩
        show wp E (d + 1) m_Reader_readBall 76 [some (.ref 12), some (.int (S 13 4))] [.int x11] (Hp S12) (QI Q)
        by_cases hc : x11 = 0
        · rw [if_pos hc] at hw
          refine wp_st (pc' := 115) (L' := [some (.ref 12), some (.int (S 13 4))]) (st' := []) (h' := Hp S12) 1 (fun Z => if_pos hc) ?_
          exact (show wp E (d + 1) m_Reader_readBall 115 [some (.ref 12), some (.int (S 13 4))] [] (Hp S12) (QI Q) from (hw (some (.int (S 13 4)))))
        · rw [if_neg hc] at hw
          refine wp_st (pc' := 79) (L' := [some (.ref 12), some (.int (S 13 4))]) (st' := []) (h' := Hp S12) 1 (fun Z => if_neg hc) ?_
          refine wp_st (pc' := 80) (L' := [some (.ref 12), some (.int (S 13 4))]) (st' := [.ref 12]) (h' := Hp S12) 1 (fun Z => rfl) ?_
          refine wp_call (pc' := 83) (rest := []) (fun Z => rfl) (isO_of sh12) hw ?_
          rintro o h1 ⟨S14, rfl, rfl, hw⟩
          refine ⟨_, rfl, ?_⟩
          show wp E (d + 1) m_Reader_readBall 83 [some (.ref 12), some (.int (S 13 4))] [] (Hp S14) (QI Q)
          refine wp_st (pc' := 86) (L' := [some (.ref 12), some (.int (S 13 4))]) (st' := [.ref 12, .int 1, .ref 12]) (h' := Hp S14) 3 (fun Z => rfl) ?_
          refine wp_st (pc' := 89) (L' := [some (.ref 12), some (.int (S 13 4))]) (st' := [.ref 13, .int 1, .ref 12]) (h' := Hp S14) 1 (fun Z => gfR (E := E) sh12 rfl _) ?_
          refine wp_st (pc' := 92) (L' := [some (.ref 12), some (.int (S 13 4))]) (st' := [.ref 15, .int 1, .ref 12]) (h' := Hp S14) 1 (fun Z => gfR (E := E) sh13 rfl _) ?_
          refine wp_st (pc' := 93) (L' := [some (.ref 12), some (.int (S 13 4))]) (st' := [.int (S 13 4), .ref 15, .int 1, .ref 12]) (h' := Hp S14) 1 (fun Z => rfl) ?_
          obtain ⟨m15, em, hi, hw⟩ := hw
          refine wp_st (pc' := 94) (L' := [some (.ref 12), some (.int (S 13 4))]) (st' := [.int (S14 15 m15), .int 1, .ref 12]) (h' := Hp S14) 1 (fun Z => (congrArg (fun v => zit E 1 Z (d + 1) m_Reader_readBall 93 [some (.ref 12), some (.int (S 13 4))] [.int v, .ref 15, .int 1, .ref 12] (Hp S14)) em).trans (ldN (E := E) sh15 (by decide) hi [.int 1, .ref 12] (fun st => Z (d + 1) m_Reader_readBall 94 [some (.ref 12), some (.int (S 13 4))] st (Hp S14)))) ?_
          refine wp_call (pc' := 97) (rest := []) (fun Z => rfl) (isO_of sh12) hw ?_
          rintro o h1 ⟨x16, S17, rfl, rfl, hw⟩
          refine ⟨_, rfl, ?_⟩
          show wp E (d + 1) m_Reader_readBall 97 [some (.ref 12), some (.int (S 13 4))] [.int x16] (Hp S17) (QI Q)
          by_cases hc : x16 = 0
          · rw [if_pos hc] at hw
            refine wp_st (pc' := 100) (L' := [some (.ref 12), some (.int (S 13 4))]) (st' := []) (h' := Hp S17) 1 (fun Z => if_pos hc) ?_
            refine wp_st (pc' := 101) (L' := [some (.ref 12), some (.int (S 13 4))]) (st' := [.int 0]) (h' := Hp S17) 1 (fun Z => rfl) ?_
            exact wp_ret (fun Z => rfl) ⟨_, _, rfl, rfl, hw⟩
          · rw [if_neg hc] at hw
            refine wp_st (pc' := 102) (L' := [some (.ref 12), some (.int (S 13 4))]) (st' := []) (h' := Hp S17) 1 (fun Z => if_neg hc) ?_
            refine wp_st (pc' := 103) (L' := [some (.ref 12), some (.int (S 13 4))]) (st' := [.ref 12]) (h' := Hp S17) 1 (fun Z => rfl) ?_
            refine wp_st (pc' := 106) (L' := [some (.ref 12), some (.int (S 13 4))]) (st' := [.ref 22]) (h' := Hp S17) 1 (fun Z => gfR (E := E) sh12 rfl _) ?_
            refine wp_st (pc' := 108) (L' := [some (.ref 12), some (.int (S 13 4))]) (st' := [.ref 12, .int (S 13 4), .ref 22]) (h' := Hp S17) 2 (fun Z => rfl) ?_
            refine wp_st (pc' := 111) (L' := [some (.ref 12), some (.int (S 13 4))]) (st' := [.int (S17 12 11), .int (S 13 4), .ref 22]) (h' := Hp S17) 1 (fun Z => gfI (E := E) sh12 rfl _) ?_
            refine wp_st (pc' := 112) (L' := [some (.ref 12), some (.int (S 13 4))]) (st' := [.int (-1), .int (S17 12 11), .int (S 13 4), .ref 22]) (h' := Hp S17) 1 (fun Z => congrArg (fun v => Z (d + 1) m_Reader_readBall 112 [some (.ref 12), some (.int (S 13 4))] [.int v, .int (S17 12 11), .int (S 13 4), .ref 22] (Hp S17)) (show Int32.ofInt (-1) = (-1) by decide)) ?_
            refine wp_call (pc' := 115) (rest := []) (fun Z => rfl) (isO_of sh22) hw ?_
            rintro o h1 ⟨S19, rfl, rfl, hw⟩
            refine ⟨_, rfl, ?_⟩
            show wp E (d + 1) m_Reader_readBall 115 [some (.ref 12), some (.int (S 13 4))] [] (Hp S19) (QI Q)
            exact (show wp E (d + 1) m_Reader_readBall 115 [some (.ref 12), some (.int (S 13 4))] [] (Hp S19) (QI Q) from (hw (some (.int (S 13 4)))))
  · rw [if_neg hc] at hw
    refine wp_st (pc' := 14) (L' := [some (.ref 12), some (.int (S 13 4))]) (st' := []) (h' := Hp S) 1 (fun Z => if_neg hc) ?_
    refine wp_st (pc' := 16) (L' := [some (.ref 12), some (.int (S 13 4))]) (st' := [.int 2, .ref 12]) (h' := Hp S) 2 (fun Z => rfl) ?_
    refine wp_call (pc' := 19) (rest := []) (fun Z => rfl) (isO_of sh12) hw ?_
    rintro o h1 ⟨x20, S21, rfl, rfl, hw⟩
    refine ⟨_, rfl, ?_⟩
    show wp E (d + 1) m_Reader_readBall 19 [some (.ref 12), some (.int (S 13 4))] [.int x20] (Hp S21) (QI Q)
    obtain ⟨hz, hw⟩ := hw
    refine wp_ret (h' := Hp S21) (o := .inl (some (.int x20))) (fun Z => ?_) ⟨_, _, rfl, rfl, hw⟩
    show (bif zfr _ _ then _ else none) = _
    rcases hz with hz | hz <;> rw [hz] <;> rfl
set_option maxRecDepth 4000 in
theorem w_Reader_readBall_115 {E : zX} {d : Nat} {S : St}  {Q : Int32 → St → Prop} (hd : 1 ≤ d) 
    (hw : ∀ S1, S1 = up S 13 4 ((S 13 4) + (1 : Int32)) →
    k_Reader_readSign E (d - 1) S1 59 (fun x2 S3 =>
    (x2 = 0 ∨ x2 = 1) ∧ Q x2 S3)) :
    k_Reader_readBall_115 E d S Q := by
  obtain ⟨d, rfl⟩ := Nat.exists_eq_add_of_le' hd
  intro j1
  show wp E (d + 1) m_Reader_readBall 115 [some (.ref 12), j1] [] (Hp S) (QI Q)
  refine wp_st (pc' := 116) (L' := [some (.ref 12), j1]) (st' := [.ref 12]) (h' := Hp S) 1 (fun Z => rfl) ?_
  refine wp_st (pc' := 119) (L' := [some (.ref 12), j1]) (st' := [.ref 13]) (h' := Hp S) 1 (fun Z => gfR (E := E) sh12 rfl _) ?_
  refine wp_st (pc' := 120) (L' := [some (.ref 12), j1]) (st' := [.ref 13, .ref 13]) (h' := Hp S) 1 (fun Z => rfl) ?_
  refine wp_st (pc' := 123) (L' := [some (.ref 12), j1]) (st' := [.int (S 13 4), .ref 13]) (h' := Hp S) 1 (fun Z => gfI (E := E) sh13 rfl _) ?_
  refine wp_st (pc' := 125) (L' := [some (.ref 12), j1]) (st' := [.int ((S 13 4) + (1 : Int32)), .ref 13]) (h' := Hp S) 2 (fun Z => rfl) ?_
  have hw := hw _ rfl
  refine wp_st (pc' := 128) (L' := [some (.ref 12), j1]) (st' := []) (h' := Hp (up S 13 4 ((S 13 4) + (1 : Int32)))) 1 (fun Z => pfI sh13 rfl (Nat.le_of_ble_eq_true rfl) rfl _) ?_
  generalize up S 13 4 ((S 13 4) + (1 : Int32)) = S1 at hw ⊢
  refine wp_st (pc' := 131) (L' := [some (.ref 12), j1]) (st' := [.int 59, .ref 12]) (h' := Hp S1) 2 (fun Z => rfl) ?_
  refine wp_call (pc' := 134) (rest := []) (fun Z => rfl) (isO_of sh12) hw ?_
  rintro o h1 ⟨x2, S3, rfl, rfl, hw⟩
  refine ⟨_, rfl, ?_⟩
  show wp E (d + 1) m_Reader_readBall 134 [some (.ref 12), j1] [.int x2] (Hp S3) (QI Q)
  obtain ⟨hz, hw⟩ := hw
  refine wp_ret (h' := Hp S3) (o := .inl (some (.int x2))) (fun Z => ?_) ⟨_, _, rfl, rfl, hw⟩
  show (bif zfr _ _ then _ else none) = _
  rcases hz with hz | hz <;> rw [hz] <;> rfl
set_option maxRecDepth 4000 in
theorem w_Reader_readRule {E : zX} {d : Nat} {S : St} {a1 : Nat} {Q : Int32 → St → Prop} (hd : 1 ≤ d) (ha1 : Ru a1)
    (hw : k_Rule_isTold E (d - 1) S a1 (fun x1 S2 =>
    if x1 = 0 then (
      a1 < 2 ^ 31 ∧
      ∀ S3, S3 = up S2 12 12 (nI a1) →
      k_Reader_nextToken E (d - 1) S3 (fun S5 =>
      k_Reader_readExpr E (d - 1) S5 0 (fun x6 S7 =>
      if x6 = 0 then (
        Q (0 : Int32) S7)
      else (
        k_Reader_readSign E (d - 1) S7 59 (fun x8 S9 =>
        if x8 = 0 then (
          Q (0 : Int32) S9)
        else (
          Q (1 : Int32) S9))))))
    else (
      k_Reader_fail E (d - 1) S2 5 (fun x10 S11 =>
      (x10 = 0 ∨ x10 = 1) ∧ Q x10 S11)))) :
    k_Reader_readRule E d S a1 Q := by
  obtain ⟨d, rfl⟩ := Nat.exists_eq_add_of_le' hd
  show wp E (d + 1) m_Reader_readRule 0 [some (.ref 12), some (.ref a1)] [] (Hp S) (QI Q)
  refine wp_st (pc' := 1) (L' := [some (.ref 12), some (.ref a1)]) (st' := [.ref a1]) (h' := Hp S) 1 (fun Z => rfl) ?_
  refine wp_call (pc' := 4) (rest := []) (fun Z => rfl) (isO_of (ha1).1) hw ?_
  rintro o h1 ⟨x1, S2, rfl, rfl, hw⟩
  refine ⟨_, rfl, ?_⟩
  show wp E (d + 1) m_Reader_readRule 4 [some (.ref 12), some (.ref a1)] [.int x1] (Hp S2) (QI Q)
  by_cases hc : x1 = 0
  · rw [if_pos hc] at hw
    refine wp_st (pc' := 13) (L' := [some (.ref 12), some (.ref a1)]) (st' := []) (h' := Hp S2) 1 (fun Z => if_pos hc) ?_
    refine wp_st (pc' := 15) (L' := [some (.ref 12), some (.ref a1)]) (st' := [.ref a1, .ref 12]) (h' := Hp S2) 2 (fun Z => rfl) ?_
    obtain ⟨hlt, hw⟩ := hw
    have hw := hw _ rfl
    refine wp_st (pc' := 18) (L' := [some (.ref 12), some (.ref a1)]) (st' := []) (h' := Hp (up S2 12 12 (nI a1))) 1 (fun Z => pfV sh12 rfl (Nat.le_of_ble_eq_true rfl) hlt _) ?_
    generalize up S2 12 12 (nI a1) = S3 at hw ⊢
    refine wp_st (pc' := 19) (L' := [some (.ref 12), some (.ref a1)]) (st' := [.ref 12]) (h' := Hp S3) 1 (fun Z => rfl) ?_
    refine wp_call (pc' := 22) (rest := []) (fun Z => rfl) (isO_of sh12) hw ?_
    rintro o h1 ⟨S5, rfl, rfl, hw⟩
    refine ⟨_, rfl, ?_⟩
    show wp E (d + 1) m_Reader_readRule 22 [some (.ref 12), some (.ref a1)] [] (Hp S5) (QI Q)
    refine wp_st (pc' := 24) (L' := [some (.ref 12), some (.ref a1)]) (st' := [.int 0, .ref 12]) (h' := Hp S5) 2 (fun Z => rfl) ?_
    refine wp_call (pc' := 27) (rest := []) (fun Z => rfl) (isO_of sh12) hw ?_
    rintro o h1 ⟨x6, S7, rfl, rfl, hw⟩
    refine ⟨_, rfl, ?_⟩
    show wp E (d + 1) m_Reader_readRule 27 [some (.ref 12), some (.ref a1)] [.int x6] (Hp S7) (QI Q)
    by_cases hc : x6 = 0
    · rw [if_pos hc] at hw
      refine wp_st (pc' := 43) (L' := [some (.ref 12), some (.ref a1)]) (st' := []) (h' := Hp S7) 1 (fun Z => if_pos hc) ?_
      refine wp_st (pc' := 44) (L' := [some (.ref 12), some (.ref a1)]) (st' := [.int 0]) (h' := Hp S7) 1 (fun Z => rfl) ?_
      exact wp_ret (fun Z => rfl) ⟨_, _, rfl, rfl, hw⟩
    · rw [if_neg hc] at hw
      refine wp_st (pc' := 30) (L' := [some (.ref 12), some (.ref a1)]) (st' := []) (h' := Hp S7) 1 (fun Z => if_neg hc) ?_
      refine wp_st (pc' := 33) (L' := [some (.ref 12), some (.ref a1)]) (st' := [.int 59, .ref 12]) (h' := Hp S7) 2 (fun Z => rfl) ?_
      refine wp_call (pc' := 36) (rest := []) (fun Z => rfl) (isO_of sh12) hw ?_
      rintro o h1 ⟨x8, S9, rfl, rfl, hw⟩
      refine ⟨_, rfl, ?_⟩
      show wp E (d + 1) m_Reader_readRule 36 [some (.ref 12), some (.ref a1)] [.int x8] (Hp S9) (QI Q)
      by_cases hc : x8 = 0
      · rw [if_pos hc] at hw
        refine wp_st (pc' := 43) (L' := [some (.ref 12), some (.ref a1)]) (st' := []) (h' := Hp S9) 1 (fun Z => if_pos hc) ?_
        refine wp_st (pc' := 44) (L' := [some (.ref 12), some (.ref a1)]) (st' := [.int 0]) (h' := Hp S9) 1 (fun Z => rfl) ?_
        exact wp_ret (fun Z => rfl) ⟨_, _, rfl, rfl, hw⟩
      · rw [if_neg hc] at hw
        refine wp_st (pc' := 39) (L' := [some (.ref 12), some (.ref a1)]) (st' := []) (h' := Hp S9) 1 (fun Z => if_neg hc) ?_
        refine wp_st (pc' := 44) (L' := [some (.ref 12), some (.ref a1)]) (st' := [.int 1]) (h' := Hp S9) 2 (fun Z => rfl) ?_
        exact wp_ret (fun Z => rfl) ⟨_, _, rfl, rfl, hw⟩
  · rw [if_neg hc] at hw
    refine wp_st (pc' := 7) (L' := [some (.ref 12), some (.ref a1)]) (st' := []) (h' := Hp S2) 1 (fun Z => if_neg hc) ?_
    refine wp_st (pc' := 9) (L' := [some (.ref 12), some (.ref a1)]) (st' := [.int 5, .ref 12]) (h' := Hp S2) 2 (fun Z => rfl) ?_
    refine wp_call (pc' := 12) (rest := []) (fun Z => rfl) (isO_of sh12) hw ?_
    rintro o h1 ⟨x10, S11, rfl, rfl, hw⟩
    refine ⟨_, rfl, ?_⟩
    show wp E (d + 1) m_Reader_readRule 12 [some (.ref 12), some (.ref a1)] [.int x10] (Hp S11) (QI Q)
    obtain ⟨hz, hw⟩ := hw
    refine wp_ret (h' := Hp S11) (o := .inl (some (.int x10))) (fun Z => ?_) ⟨_, _, rfl, rfl, hw⟩
    show (bif zfr _ _ then _ else none) = _
    rcases hz with hz | hz <;> rw [hz] <;> rfl
set_option maxRecDepth 4000 in
theorem w_Reader_readExpr {E : zX} {d : Nat} {S : St} {a1 : Int32} {Q : Int32 → St → Prop} (hd : 1 ≤ d) 
    (hw : if a1 < 6 then (
      k_Reader_readAnd E (d - 1) S a1 (fun x1 S2 =>
      if x1 = 0 then (
        Q (0 : Int32) S2)
      else (
        k_Reader_readExpr_49 E d S2 a1 0 Q)))
    else (
      if (S 12 8) = 2 then (
        k_Reader_fail E (d - 1) S 2 (fun x3 S4 =>
        (x3 = 0 ∨ x3 = 1) ∧ Q x3 S4))
      else (
        if (S 12 8) = 1 then (
          k_Reader_fail E (d - 1) S 2 (fun x5 S6 =>
          (x5 = 0 ∨ x5 = 1) ∧ Q x5 S6))
        else (
          k_Reader_isSign E (d - 1) S 40 (fun x7 S8 =>
          if x7 = 0 then (
            k_Reader_readAnd E (d - 1) S8 a1 (fun x9 S10 =>
            if x9 = 0 then (
              Q (0 : Int32) S10)
            else (
              k_Reader_readExpr_49 E d S10 a1 0 Q)))
          else (
            k_Reader_fail E (d - 1) S8 2 (fun x11 S12 =>
            (x11 = 0 ∨ x11 = 1) ∧ Q x11 S12))))))) :
    k_Reader_readExpr E d S a1 Q := by
  obtain ⟨d, rfl⟩ := Nat.exists_eq_add_of_le' hd
  show wp E (d + 1) m_Reader_readExpr 0 [some (.ref 12), some (.int a1), none] [] (Hp S) (QI Q)
  refine wp_st (pc' := 3) (L' := [some (.ref 12), some (.int a1), none]) (st' := [.int 6, .int a1]) (h' := Hp S) 2 (fun Z => rfl) ?_
  by_cases hc : a1 < 6
  · rw [if_pos hc] at hw
    refine wp_st (pc' := 37) (L' := [some (.ref 12), some (.int a1), none]) (st' := []) (h' := Hp S) 1 (fun Z => if_pos hc) ?_
    refine wp_st (pc' := 39) (L' := [some (.ref 12), some (.int a1), none]) (st' := [.int a1, .ref 12]) (h' := Hp S) 2 (fun Z => rfl) ?_
    refine wp_call (pc' := 42) (rest := []) (fun Z => rfl) (isO_of sh12) hw ?_
    rintro o h1 ⟨x1, S2, rfl, rfl, hw⟩
    refine ⟨_, rfl, ?_⟩
    show wp E (d + 1) m_Reader_readExpr 42 [some (.ref 12), some (.int a1), none] [.int x1] (Hp S2) (QI Q)
    by_cases hc : x1 = 0
    · rw [if_pos hc] at hw
      refine wp_st (pc' := 45) (L' := [some (.ref 12), some (.int a1), none]) (st' := []) (h' := Hp S2) 1 (fun Z => if_pos hc) ?_
      refine wp_st (pc' := 46) (L' := [some (.ref 12), some (.int a1), none]) (st' := [.int 0]) (h' := Hp S2) 1 (fun Z => rfl) ?_
      exact wp_ret (fun Z => rfl) ⟨_, _, rfl, rfl, hw⟩
    · rw [if_neg hc] at hw
      refine wp_st (pc' := 47) (L' := [some (.ref 12), some (.int a1), none]) (st' := []) (h' := Hp S2) 1 (fun Z => if_neg hc) ?_
      exact wp_st 2 (fun Z => rfl) (show wp E (d + 1) m_Reader_readExpr 49 [some (.ref 12), some (.int a1), some (.int 0)] [] (Hp S2) (QI Q) from hw)
  · rw [if_neg hc] at hw
    refine wp_st (pc' := 6) (L' := [some (.ref 12), some (.int a1), none]) (st' := []) (h' := Hp S) 1 (fun Z => if_neg hc) ?_
    refine wp_st (pc' := 7) (L' := [some (.ref 12), some (.int a1), none]) (st' := [.ref 12]) (h' := Hp S) 1 (fun Z => rfl) ?_
    refine wp_st (pc' := 10) (L' := [some (.ref 12), some (.int a1), none]) (st' := [.int (S 12 8)]) (h' := Hp S) 1 (fun Z => gfI (E := E) sh12 rfl _) ?_
    refine wp_st (pc' := 11) (L' := [some (.ref 12), some (.int a1), none]) (st' := [.int 2, .int (S 12 8)]) (h' := Hp S) 1 (fun Z => rfl) ?_
    by_cases hc : (S 12 8) = 2
    · rw [if_pos hc] at hw
      refine wp_st (pc' := 31) (L' := [some (.ref 12), some (.int a1), none]) (st' := []) (h' := Hp S) 1 (fun Z => if_pos hc) ?_
      refine wp_st (pc' := 33) (L' := [some (.ref 12), some (.int a1), none]) (st' := [.int 2, .ref 12]) (h' := Hp S) 2 (fun Z => rfl) ?_
      refine wp_call (pc' := 36) (rest := []) (fun Z => rfl) (isO_of sh12) hw ?_
      rintro o h1 ⟨x3, S4, rfl, rfl, hw⟩
      refine ⟨_, rfl, ?_⟩
      show wp E (d + 1) m_Reader_readExpr 36 [some (.ref 12), some (.int a1), none] [.int x3] (Hp S4) (QI Q)
      obtain ⟨hz, hw⟩ := hw
      refine wp_ret (h' := Hp S4) (o := .inl (some (.int x3))) (fun Z => ?_) ⟨_, _, rfl, rfl, hw⟩
      show (bif zfr _ _ then _ else none) = _
      rcases hz with hz | hz <;> rw [hz] <;> rfl
    · rw [if_neg hc] at hw
      refine wp_st (pc' := 14) (L' := [some (.ref 12), some (.int a1), none]) (st' := []) (h' := Hp S) 1 (fun Z => if_neg hc) ?_
      refine wp_st (pc' := 15) (L' := [some (.ref 12), some (.int a1), none]) (st' := [.ref 12]) (h' := Hp S) 1 (fun Z => rfl) ?_
      refine wp_st (pc' := 18) (L' := [some (.ref 12), some (.int a1), none]) (st' := [.int (S 12 8)]) (h' := Hp S) 1 (fun Z => gfI (E := E) sh12 rfl _) ?_
      refine wp_st (pc' := 19) (L' := [some (.ref 12), some (.int a1), none]) (st' := [.int 1, .int (S 12 8)]) (h' := Hp S) 1 (fun Z => rfl) ?_
      by_cases hc : (S 12 8) = 1
      · rw [if_pos hc] at hw
        refine wp_st (pc' := 31) (L' := [some (.ref 12), some (.int a1), none]) (st' := []) (h' := Hp S) 1 (fun Z => if_pos hc) ?_
        refine wp_st (pc' := 33) (L' := [some (.ref 12), some (.int a1), none]) (st' := [.int 2, .ref 12]) (h' := Hp S) 2 (fun Z => rfl) ?_
        refine wp_call (pc' := 36) (rest := []) (fun Z => rfl) (isO_of sh12) hw ?_
        rintro o h1 ⟨x5, S6, rfl, rfl, hw⟩
        refine ⟨_, rfl, ?_⟩
        show wp E (d + 1) m_Reader_readExpr 36 [some (.ref 12), some (.int a1), none] [.int x5] (Hp S6) (QI Q)
        obtain ⟨hz, hw⟩ := hw
        refine wp_ret (h' := Hp S6) (o := .inl (some (.int x5))) (fun Z => ?_) ⟨_, _, rfl, rfl, hw⟩
        show (bif zfr _ _ then _ else none) = _
        rcases hz with hz | hz <;> rw [hz] <;> rfl
      · rw [if_neg hc] at hw
        refine wp_st (pc' := 22) (L' := [some (.ref 12), some (.int a1), none]) (st' := []) (h' := Hp S) 1 (fun Z => if_neg hc) ?_
        refine wp_st (pc' := 25) (L' := [some (.ref 12), some (.int a1), none]) (st' := [.int 40, .ref 12]) (h' := Hp S) 2 (fun Z => rfl) ?_
        refine wp_call (pc' := 28) (rest := []) (fun Z => rfl) (isO_of sh12) hw ?_
        rintro o h1 ⟨x7, S8, rfl, rfl, hw⟩
        refine ⟨_, rfl, ?_⟩
        show wp E (d + 1) m_Reader_readExpr 28 [some (.ref 12), some (.int a1), none] [.int x7] (Hp S8) (QI Q)
        by_cases hc : x7 = 0
        · rw [if_pos hc] at hw
          refine wp_st (pc' := 37) (L' := [some (.ref 12), some (.int a1), none]) (st' := []) (h' := Hp S8) 1 (fun Z => if_pos hc) ?_
          refine wp_st (pc' := 39) (L' := [some (.ref 12), some (.int a1), none]) (st' := [.int a1, .ref 12]) (h' := Hp S8) 2 (fun Z => rfl) ?_
          refine wp_call (pc' := 42) (rest := []) (fun Z => rfl) (isO_of sh12) hw ?_
          rintro o h1 ⟨x9, S10, rfl, rfl, hw⟩
          refine ⟨_, rfl, ?_⟩
          show wp E (d + 1) m_Reader_readExpr 42 [some (.ref 12), some (.int a1), none] [.int x9] (Hp S10) (QI Q)
          by_cases hc : x9 = 0
          · rw [if_pos hc] at hw
            refine wp_st (pc' := 45) (L' := [some (.ref 12), some (.int a1), none]) (st' := []) (h' := Hp S10) 1 (fun Z => if_pos hc) ?_
            refine wp_st (pc' := 46) (L' := [some (.ref 12), some (.int a1), none]) (st' := [.int 0]) (h' := Hp S10) 1 (fun Z => rfl) ?_
            exact wp_ret (fun Z => rfl) ⟨_, _, rfl, rfl, hw⟩
          · rw [if_neg hc] at hw
            refine wp_st (pc' := 47) (L' := [some (.ref 12), some (.int a1), none]) (st' := []) (h' := Hp S10) 1 (fun Z => if_neg hc) ?_
            exact wp_st 2 (fun Z => rfl) (show wp E (d + 1) m_Reader_readExpr 49 [some (.ref 12), some (.int a1), some (.int 0)] [] (Hp S10) (QI Q) from hw)
        · rw [if_neg hc] at hw
          refine wp_st (pc' := 31) (L' := [some (.ref 12), some (.int a1), none]) (st' := []) (h' := Hp S8) 1 (fun Z => if_neg hc) ?_
          refine wp_st (pc' := 33) (L' := [some (.ref 12), some (.int a1), none]) (st' := [.int 2, .ref 12]) (h' := Hp S8) 2 (fun Z => rfl) ?_
          refine wp_call (pc' := 36) (rest := []) (fun Z => rfl) (isO_of sh12) hw ?_
          rintro o h1 ⟨x11, S12, rfl, rfl, hw⟩
          refine ⟨_, rfl, ?_⟩
          show wp E (d + 1) m_Reader_readExpr 36 [some (.ref 12), some (.int a1), none] [.int x11] (Hp S12) (QI Q)
          obtain ⟨hz, hw⟩ := hw
          refine wp_ret (h' := Hp S12) (o := .inl (some (.int x11))) (fun Z => ?_) ⟨_, _, rfl, rfl, hw⟩
          show (bif zfr _ _ then _ else none) = _
          rcases hz with hz | hz <;> rw [hz] <;> rfl
set_option maxRecDepth 4000 in
theorem w_Reader_readExpr_49 {E : zX} {d : Nat} {S : St} {a1 : Int32} {a2 : Nat} {Q : Int32 → St → Prop} (hd : 1 ≤ d) 
    (hw : if nI 700 ≤ (nI a2) then (
      Q (1 : Int32) S)
    else (
      k_Reader_isWord E (d - 1) S 33 (fun x1 S2 =>
      if x1 = 0 then (
        Q (1 : Int32) S2)
      else (
        k_Reader_nextToken E (d - 1) S2 (fun S4 =>
        k_Reader_readAnd E (d - 1) S4 a1 (fun x5 S6 =>
        if x5 = 0 then (
          Q (0 : Int32) S6)
        else (
          Ru ((S6 12 12).toNatClampNeg) ∧
          k_Rule_add E (d - 1) S6 ((S6 12 12).toNatClampNeg) (-1) (fun S8 =>
          k_Reader_readExpr_49 E d S8 a1 (a2 + 1) Q)))))))) :
    k_Reader_readExpr_49 E d S a1 a2 Q := by
  obtain ⟨d, rfl⟩ := Nat.exists_eq_add_of_le' hd
  show wp E (d + 1) m_Reader_readExpr 49 [some (.ref 12), some (.int a1), some (.int (nI a2))] [] (Hp S) (QI Q)
  refine wp_st (pc' := 53) (L' := [some (.ref 12), some (.int a1), some (.int (nI a2))]) (st' := [.int 700, .int (nI a2)]) (h' := Hp S) 2 (fun Z => rfl) ?_
  by_cases hc : nI 700 ≤ (nI a2)
  · rw [if_pos hc] at hw
    refine wp_st (pc' := 93) (L' := [some (.ref 12), some (.int a1), some (.int (nI a2))]) (st' := []) (h' := Hp S) 1 (fun Z => if_pos hc) ?_
    refine wp_st (pc' := 94) (L' := [some (.ref 12), some (.int a1), some (.int (nI a2))]) (st' := [.int 1]) (h' := Hp S) 1 (fun Z => rfl) ?_
    exact wp_ret (fun Z => rfl) ⟨_, _, rfl, rfl, hw⟩
  · rw [if_neg hc] at hw
    refine wp_st (pc' := 56) (L' := [some (.ref 12), some (.int a1), some (.int (nI a2))]) (st' := []) (h' := Hp S) 1 (fun Z => if_neg hc) ?_
    refine wp_st (pc' := 59) (L' := [some (.ref 12), some (.int a1), some (.int (nI a2))]) (st' := [.float 33, .ref 12]) (h' := Hp S) 2 (fun Z => rfl) ?_
    refine wp_call (pc' := 62) (rest := []) (fun Z => rfl) (isO_of sh12) hw ?_
    rintro o h1 ⟨x1, S2, rfl, rfl, hw⟩
    refine ⟨_, rfl, ?_⟩
    show wp E (d + 1) m_Reader_readExpr 62 [some (.ref 12), some (.int a1), some (.int (nI a2))] [.int x1] (Hp S2) (QI Q)
    by_cases hc : x1 = 0
    · rw [if_pos hc] at hw
      refine wp_st (pc' := 93) (L' := [some (.ref 12), some (.int a1), some (.int (nI a2))]) (st' := []) (h' := Hp S2) 1 (fun Z => if_pos hc) ?_
      refine wp_st (pc' := 94) (L' := [some (.ref 12), some (.int a1), some (.int (nI a2))]) (st' := [.int 1]) (h' := Hp S2) 1 (fun Z => rfl) ?_
      exact wp_ret (fun Z => rfl) ⟨_, _, rfl, rfl, hw⟩
    · rw [if_neg hc] at hw
      refine wp_st (pc' := 65) (L' := [some (.ref 12), some (.int a1), some (.int (nI a2))]) (st' := []) (h' := Hp S2) 1 (fun Z => if_neg hc) ?_
      refine wp_st (pc' := 66) (L' := [some (.ref 12), some (.int a1), some (.int (nI a2))]) (st' := [.ref 12]) (h' := Hp S2) 1 (fun Z => rfl) ?_
      refine wp_call (pc' := 69) (rest := []) (fun Z => rfl) (isO_of sh12) hw ?_
      rintro o h1 ⟨S4, rfl, rfl, hw⟩
      refine ⟨_, rfl, ?_⟩
      show wp E (d + 1) m_Reader_readExpr 69 [some (.ref 12), some (.int a1), some (.int (nI a2))] [] (Hp S4) (QI Q)
      refine wp_st (pc' := 71) (L' := [some (.ref 12), some (.int a1), some (.int (nI a2))]) (st' := [.int a1, .ref 12]) (h' := Hp S4) 2 (fun Z => rfl) ?_
      refine wp_call (pc' := 74) (rest := []) (fun Z => rfl) (isO_of sh12) hw ?_
      rintro o h1 ⟨x5, S6, rfl, rfl, hw⟩
      refine ⟨_, rfl, ?_⟩
      show wp E (d + 1) m_Reader_readExpr 74 [some (.ref 12), some (.int a1), some (.int (nI a2))] [.int x5] (Hp S6) (QI Q)
      by_cases hc : x5 = 0
      · rw [if_pos hc] at hw
        refine wp_st (pc' := 77) (L' := [some (.ref 12), some (.int a1), some (.int (nI a2))]) (st' := []) (h' := Hp S6) 1 (fun Z => if_pos hc) ?_
        refine wp_st (pc' := 78) (L' := [some (.ref 12), some (.int a1), some (.int (nI a2))]) (st' := [.int 0]) (h' := Hp S6) 1 (fun Z => rfl) ?_
        exact wp_ret (fun Z => rfl) ⟨_, _, rfl, rfl, hw⟩
      · rw [if_neg hc] at hw
        refine wp_st (pc' := 79) (L' := [some (.ref 12), some (.int a1), some (.int (nI a2))]) (st' := []) (h' := Hp S6) 1 (fun Z => if_neg hc) ?_
        refine wp_st (pc' := 80) (L' := [some (.ref 12), some (.int a1), some (.int (nI a2))]) (st' := [.ref 12]) (h' := Hp S6) 1 (fun Z => rfl) ?_
        refine wp_st (pc' := 83) (L' := [some (.ref 12), some (.int a1), some (.int (nI a2))]) (st' := [.ref ((S6 12 12).toNatClampNeg)]) (h' := Hp S6) 1 (fun Z => gfV (E := E) sh12 rfl _) ?_
        refine wp_st (pc' := 84) (L' := [some (.ref 12), some (.int a1), some (.int (nI a2))]) (st' := [.int (-1), .ref ((S6 12 12).toNatClampNeg)]) (h' := Hp S6) 1 (fun Z => congrArg (fun v => Z (d + 1) m_Reader_readExpr 84 [some (.ref 12), some (.int a1), some (.int (nI a2))] [.int v, .ref ((S6 12 12).toNatClampNeg)] (Hp S6)) (show Int32.ofInt (-1) = (-1) by decide)) ?_
        obtain ⟨g9, hw⟩ := hw
        refine wp_call (pc' := 87) (rest := []) (fun Z => rfl) (isO_of (g9).1) hw ?_
        rintro o h1 ⟨S8, rfl, rfl, hw⟩
        refine ⟨_, rfl, ?_⟩
        show wp E (d + 1) m_Reader_readExpr 87 [some (.ref 12), some (.int a1), some (.int (nI a2))] [] (Hp S8) (QI Q)
        refine wp_st (pc' := 90) (L' := [some (.ref 12), some (.int a1), some (.int (nI (a2 + 1)))]) (st' := []) (h' := Hp S8) 1 (fun Z => by rw [← nI_add a2 1]; rfl) ?_
        exact wp_st 1 (fun Z => rfl) (show wp E (d + 1) m_Reader_readExpr 49 [some (.ref 12), some (.int a1), some (.int (nI (a2 + 1)))] [] (Hp S8) (QI Q) from hw)
set_option maxRecDepth 4000 in
theorem w_Reader_readAnd {E : zX} {d : Nat} {S : St} {a1 : Int32} {Q : Int32 → St → Prop} (hd : 1 ≤ d) 
    (hw : k_Reader_readNot E (d - 1) S a1 (fun x1 S2 =>
    if x1 = 0 then (
      Q (0 : Int32) S2)
    else (
      k_Reader_readAnd_12 E d S2 a1 0 Q))) :
    k_Reader_readAnd E d S a1 Q := by
  obtain ⟨d, rfl⟩ := Nat.exists_eq_add_of_le' hd
  show wp E (d + 1) m_Reader_readAnd 0 [some (.ref 12), some (.int a1), none] [] (Hp S) (QI Q)
  refine wp_st (pc' := 2) (L' := [some (.ref 12), some (.int a1), none]) (st' := [.int a1, .ref 12]) (h' := Hp S) 2 (fun Z => rfl) ?_
  refine wp_call (pc' := 5) (rest := []) (fun Z => rfl) (isO_of sh12) hw ?_
  rintro o h1 ⟨x1, S2, rfl, rfl, hw⟩
  refine ⟨_, rfl, ?_⟩
  show wp E (d + 1) m_Reader_readAnd 5 [some (.ref 12), some (.int a1), none] [.int x1] (Hp S2) (QI Q)
  by_cases hc : x1 = 0
  · rw [if_pos hc] at hw
    refine wp_st (pc' := 8) (L' := [some (.ref 12), some (.int a1), none]) (st' := []) (h' := Hp S2) 1 (fun Z => if_pos hc) ?_
    refine wp_st (pc' := 9) (L' := [some (.ref 12), some (.int a1), none]) (st' := [.int 0]) (h' := Hp S2) 1 (fun Z => rfl) ?_
    exact wp_ret (fun Z => rfl) ⟨_, _, rfl, rfl, hw⟩
  · rw [if_neg hc] at hw
    refine wp_st (pc' := 10) (L' := [some (.ref 12), some (.int a1), none]) (st' := []) (h' := Hp S2) 1 (fun Z => if_neg hc) ?_
    exact wp_st 2 (fun Z => rfl) (show wp E (d + 1) m_Reader_readAnd 12 [some (.ref 12), some (.int a1), some (.int 0)] [] (Hp S2) (QI Q) from hw)
set_option maxRecDepth 4000 in
theorem w_Reader_readAnd_12 {E : zX} {d : Nat} {S : St} {a1 : Int32} {a2 : Nat} {Q : Int32 → St → Prop} (hd : 1 ≤ d) 
    (hw : if nI 700 ≤ (nI a2) then (
      Q (1 : Int32) S)
    else (
      k_Reader_isWord E (d - 1) S 31 (fun x1 S2 =>
      if x1 = 0 then (
        Q (1 : Int32) S2)
      else (
        k_Reader_nextToken E (d - 1) S2 (fun S4 =>
        k_Reader_readNot E (d - 1) S4 a1 (fun x5 S6 =>
        if x5 = 0 then (
          Q (0 : Int32) S6)
        else (
          Ru ((S6 12 12).toNatClampNeg) ∧
          k_Rule_add E (d - 1) S6 ((S6 12 12).toNatClampNeg) (-2) (fun S8 =>
          k_Reader_readAnd_12 E d S8 a1 (a2 + 1) Q)))))))) :
    k_Reader_readAnd_12 E d S a1 a2 Q := by
  obtain ⟨d, rfl⟩ := Nat.exists_eq_add_of_le' hd
  show wp E (d + 1) m_Reader_readAnd 12 [some (.ref 12), some (.int a1), some (.int (nI a2))] [] (Hp S) (QI Q)
  refine wp_st (pc' := 16) (L' := [some (.ref 12), some (.int a1), some (.int (nI a2))]) (st' := [.int 700, .int (nI a2)]) (h' := Hp S) 2 (fun Z => rfl) ?_
  by_cases hc : nI 700 ≤ (nI a2)
  · rw [if_pos hc] at hw
    refine wp_st (pc' := 57) (L' := [some (.ref 12), some (.int a1), some (.int (nI a2))]) (st' := []) (h' := Hp S) 1 (fun Z => if_pos hc) ?_
    refine wp_st (pc' := 58) (L' := [some (.ref 12), some (.int a1), some (.int (nI a2))]) (st' := [.int 1]) (h' := Hp S) 1 (fun Z => rfl) ?_
    exact wp_ret (fun Z => rfl) ⟨_, _, rfl, rfl, hw⟩
  · rw [if_neg hc] at hw
    refine wp_st (pc' := 19) (L' := [some (.ref 12), some (.int a1), some (.int (nI a2))]) (st' := []) (h' := Hp S) 1 (fun Z => if_neg hc) ?_
    refine wp_st (pc' := 22) (L' := [some (.ref 12), some (.int a1), some (.int (nI a2))]) (st' := [.float 31, .ref 12]) (h' := Hp S) 2 (fun Z => rfl) ?_
    refine wp_call (pc' := 25) (rest := []) (fun Z => rfl) (isO_of sh12) hw ?_
    rintro o h1 ⟨x1, S2, rfl, rfl, hw⟩
    refine ⟨_, rfl, ?_⟩
    show wp E (d + 1) m_Reader_readAnd 25 [some (.ref 12), some (.int a1), some (.int (nI a2))] [.int x1] (Hp S2) (QI Q)
    by_cases hc : x1 = 0
    · rw [if_pos hc] at hw
      refine wp_st (pc' := 57) (L' := [some (.ref 12), some (.int a1), some (.int (nI a2))]) (st' := []) (h' := Hp S2) 1 (fun Z => if_pos hc) ?_
      refine wp_st (pc' := 58) (L' := [some (.ref 12), some (.int a1), some (.int (nI a2))]) (st' := [.int 1]) (h' := Hp S2) 1 (fun Z => rfl) ?_
      exact wp_ret (fun Z => rfl) ⟨_, _, rfl, rfl, hw⟩
    · rw [if_neg hc] at hw
      refine wp_st (pc' := 28) (L' := [some (.ref 12), some (.int a1), some (.int (nI a2))]) (st' := []) (h' := Hp S2) 1 (fun Z => if_neg hc) ?_
      refine wp_st (pc' := 29) (L' := [some (.ref 12), some (.int a1), some (.int (nI a2))]) (st' := [.ref 12]) (h' := Hp S2) 1 (fun Z => rfl) ?_
      refine wp_call (pc' := 32) (rest := []) (fun Z => rfl) (isO_of sh12) hw ?_
      rintro o h1 ⟨S4, rfl, rfl, hw⟩
      refine ⟨_, rfl, ?_⟩
      show wp E (d + 1) m_Reader_readAnd 32 [some (.ref 12), some (.int a1), some (.int (nI a2))] [] (Hp S4) (QI Q)
      refine wp_st (pc' := 34) (L' := [some (.ref 12), some (.int a1), some (.int (nI a2))]) (st' := [.int a1, .ref 12]) (h' := Hp S4) 2 (fun Z => rfl) ?_
      refine wp_call (pc' := 37) (rest := []) (fun Z => rfl) (isO_of sh12) hw ?_
      rintro o h1 ⟨x5, S6, rfl, rfl, hw⟩
      refine ⟨_, rfl, ?_⟩
      show wp E (d + 1) m_Reader_readAnd 37 [some (.ref 12), some (.int a1), some (.int (nI a2))] [.int x5] (Hp S6) (QI Q)
      by_cases hc : x5 = 0
      · rw [if_pos hc] at hw
        refine wp_st (pc' := 40) (L' := [some (.ref 12), some (.int a1), some (.int (nI a2))]) (st' := []) (h' := Hp S6) 1 (fun Z => if_pos hc) ?_
        refine wp_st (pc' := 41) (L' := [some (.ref 12), some (.int a1), some (.int (nI a2))]) (st' := [.int 0]) (h' := Hp S6) 1 (fun Z => rfl) ?_
        exact wp_ret (fun Z => rfl) ⟨_, _, rfl, rfl, hw⟩
      · rw [if_neg hc] at hw
        refine wp_st (pc' := 42) (L' := [some (.ref 12), some (.int a1), some (.int (nI a2))]) (st' := []) (h' := Hp S6) 1 (fun Z => if_neg hc) ?_
        refine wp_st (pc' := 43) (L' := [some (.ref 12), some (.int a1), some (.int (nI a2))]) (st' := [.ref 12]) (h' := Hp S6) 1 (fun Z => rfl) ?_
        refine wp_st (pc' := 46) (L' := [some (.ref 12), some (.int a1), some (.int (nI a2))]) (st' := [.ref ((S6 12 12).toNatClampNeg)]) (h' := Hp S6) 1 (fun Z => gfV (E := E) sh12 rfl _) ?_
        refine wp_st (pc' := 48) (L' := [some (.ref 12), some (.int a1), some (.int (nI a2))]) (st' := [.int (-2), .ref ((S6 12 12).toNatClampNeg)]) (h' := Hp S6) 1 (fun Z => congrArg (fun v => Z (d + 1) m_Reader_readAnd 48 [some (.ref 12), some (.int a1), some (.int (nI a2))] [.int v, .ref ((S6 12 12).toNatClampNeg)] (Hp S6)) (show (Int8.ofInt (-2)).toInt32 = (-2) by decide)) ?_
        obtain ⟨g9, hw⟩ := hw
        refine wp_call (pc' := 51) (rest := []) (fun Z => rfl) (isO_of (g9).1) hw ?_
        rintro o h1 ⟨S8, rfl, rfl, hw⟩
        refine ⟨_, rfl, ?_⟩
        show wp E (d + 1) m_Reader_readAnd 51 [some (.ref 12), some (.int a1), some (.int (nI a2))] [] (Hp S8) (QI Q)
        refine wp_st (pc' := 54) (L' := [some (.ref 12), some (.int a1), some (.int (nI (a2 + 1)))]) (st' := []) (h' := Hp S8) 1 (fun Z => by rw [← nI_add a2 1]; rfl) ?_
        exact wp_st 1 (fun Z => rfl) (show wp E (d + 1) m_Reader_readAnd 12 [some (.ref 12), some (.int a1), some (.int (nI (a2 + 1)))] [] (Hp S8) (QI Q) from hw)
set_option maxRecDepth 4000 in
theorem w_Reader_readNot {E : zX} {d : Nat} {S : St} {a1 : Int32} {Q : Int32 → St → Prop} (hd : 1 ≤ d) 
    (hw : k_Reader_readNot_2 E d S a1 0 Q) :
    k_Reader_readNot E d S a1 Q := by
  obtain ⟨d, rfl⟩ := Nat.exists_eq_add_of_le' hd
  show wp E (d + 1) m_Reader_readNot 0 [some (.ref 12), some (.int a1), none, none] [] (Hp S) (QI Q)
  exact wp_st 2 (fun Z => rfl) (show wp E (d + 1) m_Reader_readNot 2 [some (.ref 12), some (.int a1), some (.int 0), none] [] (Hp S) (QI Q) from (hw none))
set_option maxRecDepth 4000 in
theorem w_Reader_readNot_2 {E : zX} {d : Nat} {S : St} {a1 : Int32} {a2 : Nat} {Q : Int32 → St → Prop} (hd : 1 ≤ d) 
    (hw : if nI 6 ≤ (nI a2) then (
      k_Reader_readNot_27 E d S a1 a2 Q)
    else (
      k_Reader_isWord E (d - 1) S 13 (fun x1 S2 =>
      if x1 = 0 then (
        k_Reader_readNot_27 E d S2 a1 a2 Q)
      else (
        k_Reader_nextToken E (d - 1) S2 (fun S4 =>
        k_Reader_readNot_2 E d S4 a1 (a2 + 1) Q))))) :
    k_Reader_readNot_2 E d S a1 a2 Q := by
  obtain ⟨d, rfl⟩ := Nat.exists_eq_add_of_le' hd
  intro j3
  show wp E (d + 1) m_Reader_readNot 2 [some (.ref 12), some (.int a1), some (.int (nI a2)), j3] [] (Hp S) (QI Q)
  refine wp_st (pc' := 5) (L' := [some (.ref 12), some (.int a1), some (.int (nI a2)), j3]) (st' := [.int 6, .int (nI a2)]) (h' := Hp S) 2 (fun Z => rfl) ?_
  by_cases hc : nI 6 ≤ (nI a2)
  · rw [if_pos hc] at hw
    refine wp_st (pc' := 27) (L' := [some (.ref 12), some (.int a1), some (.int (nI a2)), j3]) (st' := []) (h' := Hp S) 1 (fun Z => if_pos hc) ?_
    exact (show wp E (d + 1) m_Reader_readNot 27 [some (.ref 12), some (.int a1), some (.int (nI a2)), j3] [] (Hp S) (QI Q) from (hw j3))
  · rw [if_neg hc] at hw
    refine wp_st (pc' := 8) (L' := [some (.ref 12), some (.int a1), some (.int (nI a2)), j3]) (st' := []) (h' := Hp S) 1 (fun Z => if_neg hc) ?_
    refine wp_st (pc' := 11) (L' := [some (.ref 12), some (.int a1), some (.int (nI a2)), j3]) (st' := [.float 13, .ref 12]) (h' := Hp S) 2 (fun Z => rfl) ?_
    refine wp_call (pc' := 14) (rest := []) (fun Z => rfl) (isO_of sh12) hw ?_
    rintro o h1 ⟨x1, S2, rfl, rfl, hw⟩
    refine ⟨_, rfl, ?_⟩
    show wp E (d + 1) m_Reader_readNot 14 [some (.ref 12), some (.int a1), some (.int (nI a2)), j3] [.int x1] (Hp S2) (QI Q)
    by_cases hc : x1 = 0
    · rw [if_pos hc] at hw
      refine wp_st (pc' := 27) (L' := [some (.ref 12), some (.int a1), some (.int (nI a2)), j3]) (st' := []) (h' := Hp S2) 1 (fun Z => if_pos hc) ?_
      exact (show wp E (d + 1) m_Reader_readNot 27 [some (.ref 12), some (.int a1), some (.int (nI a2)), j3] [] (Hp S2) (QI Q) from (hw j3))
    · rw [if_neg hc] at hw
      refine wp_st (pc' := 17) (L' := [some (.ref 12), some (.int a1), some (.int (nI a2)), j3]) (st' := []) (h' := Hp S2) 1 (fun Z => if_neg hc) ?_
      refine wp_st (pc' := 20) (L' := [some (.ref 12), some (.int a1), some (.int (nI (a2 + 1))), j3]) (st' := []) (h' := Hp S2) 1 (fun Z => by rw [← nI_add a2 1]; rfl) ?_
      refine wp_st (pc' := 21) (L' := [some (.ref 12), some (.int a1), some (.int (nI (a2 + 1))), j3]) (st' := [.ref 12]) (h' := Hp S2) 1 (fun Z => rfl) ?_
      refine wp_call (pc' := 24) (rest := []) (fun Z => rfl) (isO_of sh12) hw ?_
      rintro o h1 ⟨S4, rfl, rfl, hw⟩
      refine ⟨_, rfl, ?_⟩
      show wp E (d + 1) m_Reader_readNot 24 [some (.ref 12), some (.int a1), some (.int (nI (a2 + 1))), j3] [] (Hp S4) (QI Q)
      exact wp_st 1 (fun Z => rfl) (show wp E (d + 1) m_Reader_readNot 2 [some (.ref 12), some (.int a1), some (.int (nI (a2 + 1))), j3] [] (Hp S4) (QI Q) from (hw j3))
set_option maxRecDepth 4000 in
theorem w_Reader_readNot_27 {E : zX} {d : Nat} {S : St} {a1 : Int32} {a2 : Nat} {Q : Int32 → St → Prop} (hd : 1 ≤ d) 
    (hw : if (nI a2) = nI 6 then (
      k_Reader_isWord E (d - 1) S 13 (fun x1 S2 =>
      if x1 = 0 then (
        k_Reader_readTest E (d - 1) S2 a1 (fun x3 S4 =>
        if x3 = 0 then (
          Q (0 : Int32) S4)
        else (
          k_Reader_readNot_60 E d S4 a2 0 Q)))
      else (
        k_Reader_fail E (d - 1) S2 2 (fun x5 S6 =>
        (x5 = 0 ∨ x5 = 1) ∧ Q x5 S6))))
    else (
      k_Reader_readTest E (d - 1) S a1 (fun x7 S8 =>
      if x7 = 0 then (
        Q (0 : Int32) S8)
      else (
        k_Reader_readNot_60 E d S8 a2 0 Q)))) :
    k_Reader_readNot_27 E d S a1 a2 Q := by
  obtain ⟨d, rfl⟩ := Nat.exists_eq_add_of_le' hd
  intro j3
  show wp E (d + 1) m_Reader_readNot 27 [some (.ref 12), some (.int a1), some (.int (nI a2)), j3] [] (Hp S) (QI Q)
  refine wp_st (pc' := 30) (L' := [some (.ref 12), some (.int a1), some (.int (nI a2)), j3]) (st' := [.int 6, .int (nI a2)]) (h' := Hp S) 2 (fun Z => rfl) ?_
  by_cases hc : (nI a2) = nI 6
  · rw [if_pos hc] at hw
    refine wp_st (pc' := 33) (L' := [some (.ref 12), some (.int a1), some (.int (nI a2)), j3]) (st' := []) (h' := Hp S) 1 (fun Z => if_pos hc) ?_
    refine wp_st (pc' := 36) (L' := [some (.ref 12), some (.int a1), some (.int (nI a2)), j3]) (st' := [.float 13, .ref 12]) (h' := Hp S) 2 (fun Z => rfl) ?_
    refine wp_call (pc' := 39) (rest := []) (fun Z => rfl) (isO_of sh12) hw ?_
    rintro o h1 ⟨x1, S2, rfl, rfl, hw⟩
    refine ⟨_, rfl, ?_⟩
    show wp E (d + 1) m_Reader_readNot 39 [some (.ref 12), some (.int a1), some (.int (nI a2)), j3] [.int x1] (Hp S2) (QI Q)
    by_cases hc : x1 = 0
    · rw [if_pos hc] at hw
      refine wp_st (pc' := 48) (L' := [some (.ref 12), some (.int a1), some (.int (nI a2)), j3]) (st' := []) (h' := Hp S2) 1 (fun Z => if_pos hc) ?_
      refine wp_st (pc' := 50) (L' := [some (.ref 12), some (.int a1), some (.int (nI a2)), j3]) (st' := [.int a1, .ref 12]) (h' := Hp S2) 2 (fun Z => rfl) ?_
      refine wp_call (pc' := 53) (rest := []) (fun Z => rfl) (isO_of sh12) hw ?_
      rintro o h1 ⟨x3, S4, rfl, rfl, hw⟩
      refine ⟨_, rfl, ?_⟩
      show wp E (d + 1) m_Reader_readNot 53 [some (.ref 12), some (.int a1), some (.int (nI a2)), j3] [.int x3] (Hp S4) (QI Q)
      by_cases hc : x3 = 0
      · rw [if_pos hc] at hw
        refine wp_st (pc' := 56) (L' := [some (.ref 12), some (.int a1), some (.int (nI a2)), j3]) (st' := []) (h' := Hp S4) 1 (fun Z => if_pos hc) ?_
        refine wp_st (pc' := 57) (L' := [some (.ref 12), some (.int a1), some (.int (nI a2)), j3]) (st' := [.int 0]) (h' := Hp S4) 1 (fun Z => rfl) ?_
        exact wp_ret (fun Z => rfl) ⟨_, _, rfl, rfl, hw⟩
      · rw [if_neg hc] at hw
        refine wp_st (pc' := 58) (L' := [some (.ref 12), some (.int a1), some (.int (nI a2)), j3]) (st' := []) (h' := Hp S4) 1 (fun Z => if_neg hc) ?_
        exact wp_st 2 (fun Z => rfl) (show wp E (d + 1) m_Reader_readNot 60 [some (.ref 12), some (.int a1), some (.int (nI a2)), some (.int 0)] [] (Hp S4) (QI Q) from (hw (some (.int a1))))
    · rw [if_neg hc] at hw
      refine wp_st (pc' := 42) (L' := [some (.ref 12), some (.int a1), some (.int (nI a2)), j3]) (st' := []) (h' := Hp S2) 1 (fun Z => if_neg hc) ?_
      refine wp_st (pc' := 44) (L' := [some (.ref 12), some (.int a1), some (.int (nI a2)), j3]) (st' := [.int 2, .ref 12]) (h' := Hp S2) 2 (fun Z => rfl) ?_
      refine wp_call (pc' := 47) (rest := []) (fun Z => rfl) (isO_of sh12) hw ?_
      rintro o h1 ⟨x5, S6, rfl, rfl, hw⟩
      refine ⟨_, rfl, ?_⟩
      show wp E (d + 1) m_Reader_readNot 47 [some (.ref 12), some (.int a1), some (.int (nI a2)), j3] [.int x5] (Hp S6) (QI Q)
      obtain ⟨hz, hw⟩ := hw
      refine wp_ret (h' := Hp S6) (o := .inl (some (.int x5))) (fun Z => ?_) ⟨_, _, rfl, rfl, hw⟩
      show (bif zfr _ _ then _ else none) = _
      rcases hz with hz | hz <;> rw [hz] <;> rfl
  · rw [if_neg hc] at hw
    refine wp_st (pc' := 48) (L' := [some (.ref 12), some (.int a1), some (.int (nI a2)), j3]) (st' := []) (h' := Hp S) 1 (fun Z => if_neg hc) ?_
    refine wp_st (pc' := 50) (L' := [some (.ref 12), some (.int a1), some (.int (nI a2)), j3]) (st' := [.int a1, .ref 12]) (h' := Hp S) 2 (fun Z => rfl) ?_
    refine wp_call (pc' := 53) (rest := []) (fun Z => rfl) (isO_of sh12) hw ?_
    rintro o h1 ⟨x7, S8, rfl, rfl, hw⟩
    refine ⟨_, rfl, ?_⟩
    show wp E (d + 1) m_Reader_readNot 53 [some (.ref 12), some (.int a1), some (.int (nI a2)), j3] [.int x7] (Hp S8) (QI Q)
    by_cases hc : x7 = 0
    · rw [if_pos hc] at hw
      refine wp_st (pc' := 56) (L' := [some (.ref 12), some (.int a1), some (.int (nI a2)), j3]) (st' := []) (h' := Hp S8) 1 (fun Z => if_pos hc) ?_
      refine wp_st (pc' := 57) (L' := [some (.ref 12), some (.int a1), some (.int (nI a2)), j3]) (st' := [.int 0]) (h' := Hp S8) 1 (fun Z => rfl) ?_
      exact wp_ret (fun Z => rfl) ⟨_, _, rfl, rfl, hw⟩
    · rw [if_neg hc] at hw
      refine wp_st (pc' := 58) (L' := [some (.ref 12), some (.int a1), some (.int (nI a2)), j3]) (st' := []) (h' := Hp S8) 1 (fun Z => if_neg hc) ?_
      exact wp_st 2 (fun Z => rfl) (show wp E (d + 1) m_Reader_readNot 60 [some (.ref 12), some (.int a1), some (.int (nI a2)), some (.int 0)] [] (Hp S8) (QI Q) from (hw (some (.int a1))))
set_option maxRecDepth 4000 in
theorem w_Reader_readNot_60 {E : zX} {d : Nat} {S : St} {a2 : Nat} {a3 : Nat} {Q : Int32 → St → Prop} (hd : 1 ≤ d) 
    (hw : if (nI a2) ≤ (nI a3) then (
      Q (1 : Int32) S)
    else (
      Ru ((S 12 12).toNatClampNeg) ∧
      k_Rule_add E (d - 1) S ((S 12 12).toNatClampNeg) (-3) (fun S2 =>
      k_Reader_readNot_60 E d S2 a2 (a3 + 1) Q))) :
    k_Reader_readNot_60 E d S a2 a3 Q := by
  obtain ⟨d, rfl⟩ := Nat.exists_eq_add_of_le' hd
  intro j1
  show wp E (d + 1) m_Reader_readNot 60 [some (.ref 12), j1, some (.int (nI a2)), some (.int (nI a3))] [] (Hp S) (QI Q)
  refine wp_st (pc' := 62) (L' := [some (.ref 12), j1, some (.int (nI a2)), some (.int (nI a3))]) (st' := [.int (nI a2), .int (nI a3)]) (h' := Hp S) 2 (fun Z => rfl) ?_
  by_cases hc : (nI a2) ≤ (nI a3)
  · rw [if_pos hc] at hw
    refine wp_st (pc' := 80) (L' := [some (.ref 12), j1, some (.int (nI a2)), some (.int (nI a3))]) (st' := []) (h' := Hp S) 1 (fun Z => if_pos hc) ?_
    refine wp_st (pc' := 81) (L' := [some (.ref 12), j1, some (.int (nI a2)), some (.int (nI a3))]) (st' := [.int 1]) (h' := Hp S) 1 (fun Z => rfl) ?_
    exact wp_ret (fun Z => rfl) ⟨_, _, rfl, rfl, hw⟩
  · rw [if_neg hc] at hw
    refine wp_st (pc' := 65) (L' := [some (.ref 12), j1, some (.int (nI a2)), some (.int (nI a3))]) (st' := []) (h' := Hp S) 1 (fun Z => if_neg hc) ?_
    refine wp_st (pc' := 66) (L' := [some (.ref 12), j1, some (.int (nI a2)), some (.int (nI a3))]) (st' := [.ref 12]) (h' := Hp S) 1 (fun Z => rfl) ?_
    refine wp_st (pc' := 69) (L' := [some (.ref 12), j1, some (.int (nI a2)), some (.int (nI a3))]) (st' := [.ref ((S 12 12).toNatClampNeg)]) (h' := Hp S) 1 (fun Z => gfV (E := E) sh12 rfl _) ?_
    refine wp_st (pc' := 71) (L' := [some (.ref 12), j1, some (.int (nI a2)), some (.int (nI a3))]) (st' := [.int (-3), .ref ((S 12 12).toNatClampNeg)]) (h' := Hp S) 1 (fun Z => congrArg (fun v => Z (d + 1) m_Reader_readNot 71 [some (.ref 12), j1, some (.int (nI a2)), some (.int (nI a3))] [.int v, .ref ((S 12 12).toNatClampNeg)] (Hp S)) (show (Int8.ofInt (-3)).toInt32 = (-3) by decide)) ?_
    obtain ⟨g3, hw⟩ := hw
    refine wp_call (pc' := 74) (rest := []) (fun Z => rfl) (isO_of (g3).1) hw ?_
    rintro o h1 ⟨S2, rfl, rfl, hw⟩
    refine ⟨_, rfl, ?_⟩
    show wp E (d + 1) m_Reader_readNot 74 [some (.ref 12), j1, some (.int (nI a2)), some (.int (nI a3))] [] (Hp S2) (QI Q)
    refine wp_st (pc' := 77) (L' := [some (.ref 12), j1, some (.int (nI a2)), some (.int (nI (a3 + 1)))]) (st' := []) (h' := Hp S2) 1 (fun Z => by rw [← nI_add a3 1]; rfl) ?_
    exact wp_st 1 (fun Z => rfl) (show wp E (d + 1) m_Reader_readNot 60 [some (.ref 12), j1, some (.int (nI a2)), some (.int (nI (a3 + 1)))] [] (Hp S2) (QI Q) from (hw j1))
set_option maxRecDepth 4000 in
theorem w_Reader_readTest {E : zX} {d : Nat} {S : St} {a1 : Int32} {Q : Int32 → St → Prop} (hd : 1 ≤ d) 
    (hw : k_Reader_readSum E (d - 1) S a1 (fun x1 S2 =>
    if x1 = 0 then (
      Q (0 : Int32) S2)
    else (
      k_Reader_isSign E (d - 1) S2 60 (fun x3 S4 =>
      if x3 = 0 then (
        k_Reader_isSign E (d - 1) S4 61 (fun x5 S6 =>
        if x5 = 0 then (
          Q (1 : Int32) S6)
        else (
          k_Reader_isSign E (d - 1) S6 60 (fun x7 S8 =>
          if x7 = 0 then (
            k_Reader_readTest_46 E d S8 a1 (-5) Q)
          else (
            k_Reader_readTest_46 E d S8 a1 (-4) Q)))))
      else (
        k_Reader_isSign E (d - 1) S4 60 (fun x9 S10 =>
        if x9 = 0 then (
          k_Reader_readTest_46 E d S10 a1 (-5) Q)
        else (
          k_Reader_readTest_46 E d S10 a1 (-4) Q))))))) :
    k_Reader_readTest E d S a1 Q := by
  obtain ⟨d, rfl⟩ := Nat.exists_eq_add_of_le' hd
  show wp E (d + 1) m_Reader_readTest 0 [some (.ref 12), some (.int a1), none] [] (Hp S) (QI Q)
  refine wp_st (pc' := 2) (L' := [some (.ref 12), some (.int a1), none]) (st' := [.int a1, .ref 12]) (h' := Hp S) 2 (fun Z => rfl) ?_
  refine wp_call (pc' := 5) (rest := []) (fun Z => rfl) (isO_of sh12) hw ?_
  rintro o h1 ⟨x1, S2, rfl, rfl, hw⟩
  refine ⟨_, rfl, ?_⟩
  show wp E (d + 1) m_Reader_readTest 5 [some (.ref 12), some (.int a1), none] [.int x1] (Hp S2) (QI Q)
  by_cases hc : x1 = 0
  · rw [if_pos hc] at hw
    refine wp_st (pc' := 8) (L' := [some (.ref 12), some (.int a1), none]) (st' := []) (h' := Hp S2) 1 (fun Z => if_pos hc) ?_
    refine wp_st (pc' := 9) (L' := [some (.ref 12), some (.int a1), none]) (st' := [.int 0]) (h' := Hp S2) 1 (fun Z => rfl) ?_
    exact wp_ret (fun Z => rfl) ⟨_, _, rfl, rfl, hw⟩
  · rw [if_neg hc] at hw
    refine wp_st (pc' := 10) (L' := [some (.ref 12), some (.int a1), none]) (st' := []) (h' := Hp S2) 1 (fun Z => if_neg hc) ?_
    refine wp_st (pc' := 13) (L' := [some (.ref 12), some (.int a1), none]) (st' := [.int 60, .ref 12]) (h' := Hp S2) 2 (fun Z => rfl) ?_
    refine wp_call (pc' := 16) (rest := []) (fun Z => rfl) (isO_of sh12) hw ?_
    rintro o h1 ⟨x3, S4, rfl, rfl, hw⟩
    refine ⟨_, rfl, ?_⟩
    show wp E (d + 1) m_Reader_readTest 16 [some (.ref 12), some (.int a1), none] [.int x3] (Hp S4) (QI Q)
    by_cases hc : x3 = 0
    · rw [if_pos hc] at hw
      refine wp_st (pc' := 19) (L' := [some (.ref 12), some (.int a1), none]) (st' := []) (h' := Hp S4) 1 (fun Z => if_pos hc) ?_
      refine wp_st (pc' := 22) (L' := [some (.ref 12), some (.int a1), none]) (st' := [.int 61, .ref 12]) (h' := Hp S4) 2 (fun Z => rfl) ?_
      refine wp_call (pc' := 25) (rest := []) (fun Z => rfl) (isO_of sh12) hw ?_
      rintro o h1 ⟨x5, S6, rfl, rfl, hw⟩
      refine ⟨_, rfl, ?_⟩
      show wp E (d + 1) m_Reader_readTest 25 [some (.ref 12), some (.int a1), none] [.int x5] (Hp S6) (QI Q)
      by_cases hc : x5 = 0
      · rw [if_pos hc] at hw
        refine wp_st (pc' := 28) (L' := [some (.ref 12), some (.int a1), none]) (st' := []) (h' := Hp S6) 1 (fun Z => if_pos hc) ?_
        refine wp_st (pc' := 29) (L' := [some (.ref 12), some (.int a1), none]) (st' := [.int 1]) (h' := Hp S6) 1 (fun Z => rfl) ?_
        exact wp_ret (fun Z => rfl) ⟨_, _, rfl, rfl, hw⟩
      · rw [if_neg hc] at hw
        refine wp_st (pc' := 30) (L' := [some (.ref 12), some (.int a1), none]) (st' := []) (h' := Hp S6) 1 (fun Z => if_neg hc) ?_
        refine wp_st (pc' := 33) (L' := [some (.ref 12), some (.int a1), none]) (st' := [.int 60, .ref 12]) (h' := Hp S6) 2 (fun Z => rfl) ?_
        refine wp_call (pc' := 36) (rest := []) (fun Z => rfl) (isO_of sh12) hw ?_
        rintro o h1 ⟨x7, S8, rfl, rfl, hw⟩
        refine ⟨_, rfl, ?_⟩
        show wp E (d + 1) m_Reader_readTest 36 [some (.ref 12), some (.int a1), none] [.int x7] (Hp S8) (QI Q)
        by_cases hc : x7 = 0
        · rw [if_pos hc] at hw
          refine wp_st (pc' := 44) (L' := [some (.ref 12), some (.int a1), none]) (st' := []) (h' := Hp S8) 1 (fun Z => if_pos hc) ?_
          refine wp_st (pc' := 46) (L' := [some (.ref 12), some (.int a1), none]) (st' := [.int (-5)]) (h' := Hp S8) 1 (fun Z => congrArg (fun v => Z (d + 1) m_Reader_readTest 46 [some (.ref 12), some (.int a1), none] [.int v] (Hp S8)) (show (Int8.ofInt (-5)).toInt32 = (-5) by decide)) ?_
          exact (show wp E (d + 1) m_Reader_readTest 46 [some (.ref 12), some (.int a1), none] [.int (-5)] (Hp S8) (QI Q) from (hw none))
        · rw [if_neg hc] at hw
          refine wp_st (pc' := 39) (L' := [some (.ref 12), some (.int a1), none]) (st' := []) (h' := Hp S8) 1 (fun Z => if_neg hc) ?_
          refine wp_st (pc' := 41) (L' := [some (.ref 12), some (.int a1), none]) (st' := [.int (-4)]) (h' := Hp S8) 1 (fun Z => congrArg (fun v => Z (d + 1) m_Reader_readTest 41 [some (.ref 12), some (.int a1), none] [.int v] (Hp S8)) (show (Int8.ofInt (-4)).toInt32 = (-4) by decide)) ?_
          exact wp_st 1 (fun Z => rfl) (show wp E (d + 1) m_Reader_readTest 46 [some (.ref 12), some (.int a1), none] [.int (-4)] (Hp S8) (QI Q) from (hw none))
    · rw [if_neg hc] at hw
      refine wp_st (pc' := 30) (L' := [some (.ref 12), some (.int a1), none]) (st' := []) (h' := Hp S4) 1 (fun Z => if_neg hc) ?_
      refine wp_st (pc' := 33) (L' := [some (.ref 12), some (.int a1), none]) (st' := [.int 60, .ref 12]) (h' := Hp S4) 2 (fun Z => rfl) ?_
      refine wp_call (pc' := 36) (rest := []) (fun Z => rfl) (isO_of sh12) hw ?_
      rintro o h1 ⟨x9, S10, rfl, rfl, hw⟩
      refine ⟨_, rfl, ?_⟩
      show wp E (d + 1) m_Reader_readTest 36 [some (.ref 12), some (.int a1), none] [.int x9] (Hp S10) (QI Q)
      by_cases hc : x9 = 0
      · rw [if_pos hc] at hw
        refine wp_st (pc' := 44) (L' := [some (.ref 12), some (.int a1), none]) (st' := []) (h' := Hp S10) 1 (fun Z => if_pos hc) ?_
        refine wp_st (pc' := 46) (L' := [some (.ref 12), some (.int a1), none]) (st' := [.int (-5)]) (h' := Hp S10) 1 (fun Z => congrArg (fun v => Z (d + 1) m_Reader_readTest 46 [some (.ref 12), some (.int a1), none] [.int v] (Hp S10)) (show (Int8.ofInt (-5)).toInt32 = (-5) by decide)) ?_
        exact (show wp E (d + 1) m_Reader_readTest 46 [some (.ref 12), some (.int a1), none] [.int (-5)] (Hp S10) (QI Q) from (hw none))
      · rw [if_neg hc] at hw
        refine wp_st (pc' := 39) (L' := [some (.ref 12), some (.int a1), none]) (st' := []) (h' := Hp S10) 1 (fun Z => if_neg hc) ?_
        refine wp_st (pc' := 41) (L' := [some (.ref 12), some (.int a1), none]) (st' := [.int (-4)]) (h' := Hp S10) 1 (fun Z => congrArg (fun v => Z (d + 1) m_Reader_readTest 41 [some (.ref 12), some (.int a1), none] [.int v] (Hp S10)) (show (Int8.ofInt (-4)).toInt32 = (-4) by decide)) ?_
        exact wp_st 1 (fun Z => rfl) (show wp E (d + 1) m_Reader_readTest 46 [some (.ref 12), some (.int a1), none] [.int (-4)] (Hp S10) (QI Q) from (hw none))
set_option maxRecDepth 4000 in
theorem w_Reader_readTest_46 {E : zX} {d : Nat} {S : St} {a1 : Int32} {s0 : Int32} {Q : Int32 → St → Prop} (hd : 1 ≤ d) 
    (hw : k_Reader_nextToken E (d - 1) S (fun S2 =>
    k_Reader_readSum E (d - 1) S2 a1 (fun x3 S4 =>
    if x3 = 0 then (
      Q (0 : Int32) S4)
    else (
      Ru ((S4 12 12).toNatClampNeg) ∧
      k_Rule_add E (d - 1) S4 ((S4 12 12).toNatClampNeg) s0 (fun S6 =>
      Q (1 : Int32) S6))))) :
    k_Reader_readTest_46 E d S a1 s0 Q := by
  obtain ⟨d, rfl⟩ := Nat.exists_eq_add_of_le' hd
  intro j2
  show wp E (d + 1) m_Reader_readTest 46 [some (.ref 12), some (.int a1), j2] [.int s0] (Hp S) (QI Q)
  refine wp_st (pc' := 48) (L' := [some (.ref 12), some (.int a1), some (.int s0)]) (st' := [.ref 12]) (h' := Hp S) 2 (fun Z => rfl) ?_
  refine wp_call (pc' := 51) (rest := []) (fun Z => rfl) (isO_of sh12) hw ?_
  rintro o h1 ⟨S2, rfl, rfl, hw⟩
  refine ⟨_, rfl, ?_⟩
  show wp E (d + 1) m_Reader_readTest 51 [some (.ref 12), some (.int a1), some (.int s0)] [] (Hp S2) (QI Q)
  refine wp_st (pc' := 53) (L' := [some (.ref 12), some (.int a1), some (.int s0)]) (st' := [.int a1, .ref 12]) (h' := Hp S2) 2 (fun Z => rfl) ?_
  refine wp_call (pc' := 56) (rest := []) (fun Z => rfl) (isO_of sh12) hw ?_
  rintro o h1 ⟨x3, S4, rfl, rfl, hw⟩
  refine ⟨_, rfl, ?_⟩
  show wp E (d + 1) m_Reader_readTest 56 [some (.ref 12), some (.int a1), some (.int s0)] [.int x3] (Hp S4) (QI Q)
  by_cases hc : x3 = 0
  · rw [if_pos hc] at hw
    refine wp_st (pc' := 59) (L' := [some (.ref 12), some (.int a1), some (.int s0)]) (st' := []) (h' := Hp S4) 1 (fun Z => if_pos hc) ?_
    refine wp_st (pc' := 60) (L' := [some (.ref 12), some (.int a1), some (.int s0)]) (st' := [.int 0]) (h' := Hp S4) 1 (fun Z => rfl) ?_
    exact wp_ret (fun Z => rfl) ⟨_, _, rfl, rfl, hw⟩
  · rw [if_neg hc] at hw
    refine wp_st (pc' := 61) (L' := [some (.ref 12), some (.int a1), some (.int s0)]) (st' := []) (h' := Hp S4) 1 (fun Z => if_neg hc) ?_
    refine wp_st (pc' := 62) (L' := [some (.ref 12), some (.int a1), some (.int s0)]) (st' := [.ref 12]) (h' := Hp S4) 1 (fun Z => rfl) ?_
    refine wp_st (pc' := 65) (L' := [some (.ref 12), some (.int a1), some (.int s0)]) (st' := [.ref ((S4 12 12).toNatClampNeg)]) (h' := Hp S4) 1 (fun Z => gfV (E := E) sh12 rfl _) ?_
    refine wp_st (pc' := 66) (L' := [some (.ref 12), some (.int a1), some (.int s0)]) (st' := [.int s0, .ref ((S4 12 12).toNatClampNeg)]) (h' := Hp S4) 1 (fun Z => rfl) ?_
    obtain ⟨g7, hw⟩ := hw
    refine wp_call (pc' := 69) (rest := []) (fun Z => rfl) (isO_of (g7).1) hw ?_
    rintro o h1 ⟨S6, rfl, rfl, hw⟩
    refine ⟨_, rfl, ?_⟩
    show wp E (d + 1) m_Reader_readTest 69 [some (.ref 12), some (.int a1), some (.int s0)] [] (Hp S6) (QI Q)
    refine wp_st (pc' := 70) (L' := [some (.ref 12), some (.int a1), some (.int s0)]) (st' := [.int 1]) (h' := Hp S6) 1 (fun Z => rfl) ?_
    exact wp_ret (fun Z => rfl) ⟨_, _, rfl, rfl, hw⟩
set_option maxRecDepth 4000 in
theorem w_Reader_readSum {E : zX} {d : Nat} {S : St} {a1 : Int32} {Q : Int32 → St → Prop} (hd : 1 ≤ d) 
    (hw : k_Reader_readProduct E (d - 1) S a1 (fun x1 S2 =>
    if x1 = 0 then (
      Q (0 : Int32) S2)
    else (
      k_Reader_readSum_12 E d S2 a1 0 Q))) :
    k_Reader_readSum E d S a1 Q := by
  obtain ⟨d, rfl⟩ := Nat.exists_eq_add_of_le' hd
  show wp E (d + 1) m_Reader_readSum 0 [some (.ref 12), some (.int a1), none, none] [] (Hp S) (QI Q)
  refine wp_st (pc' := 2) (L' := [some (.ref 12), some (.int a1), none, none]) (st' := [.int a1, .ref 12]) (h' := Hp S) 2 (fun Z => rfl) ?_
  refine wp_call (pc' := 5) (rest := []) (fun Z => rfl) (isO_of sh12) hw ?_
  rintro o h1 ⟨x1, S2, rfl, rfl, hw⟩
  refine ⟨_, rfl, ?_⟩
  show wp E (d + 1) m_Reader_readSum 5 [some (.ref 12), some (.int a1), none, none] [.int x1] (Hp S2) (QI Q)
  by_cases hc : x1 = 0
  · rw [if_pos hc] at hw
    refine wp_st (pc' := 8) (L' := [some (.ref 12), some (.int a1), none, none]) (st' := []) (h' := Hp S2) 1 (fun Z => if_pos hc) ?_
    refine wp_st (pc' := 9) (L' := [some (.ref 12), some (.int a1), none, none]) (st' := [.int 0]) (h' := Hp S2) 1 (fun Z => rfl) ?_
    exact wp_ret (fun Z => rfl) ⟨_, _, rfl, rfl, hw⟩
  · rw [if_neg hc] at hw
    refine wp_st (pc' := 10) (L' := [some (.ref 12), some (.int a1), none, none]) (st' := []) (h' := Hp S2) 1 (fun Z => if_neg hc) ?_
    exact wp_st 2 (fun Z => rfl) (show wp E (d + 1) m_Reader_readSum 12 [some (.ref 12), some (.int a1), some (.int 0), none] [] (Hp S2) (QI Q) from (hw none))
set_option maxRecDepth 4000 in
theorem w_Reader_readSum_12 {E : zX} {d : Nat} {S : St} {a1 : Int32} {a2 : Nat} {Q : Int32 → St → Prop} (hd : 1 ≤ d) 
    (hw : if nI 700 ≤ (nI a2) then (
      Q (1 : Int32) S)
    else (
      k_Reader_isSign E (d - 1) S 43 (fun x1 S2 =>
      if x1 = 0 then (
        k_Reader_isSign E (d - 1) S2 45 (fun x3 S4 =>
        if x3 = 0 then (
          Q (1 : Int32) S4)
        else (
          k_Reader_isSign E (d - 1) S4 43 (fun x5 S6 =>
          if x5 = 0 then (
            k_Reader_readSum_53 E d S6 a1 a2 (-7) Q)
          else (
            k_Reader_readSum_53 E d S6 a1 a2 (-6) Q)))))
      else (
        k_Reader_isSign E (d - 1) S2 43 (fun x7 S8 =>
        if x7 = 0 then (
          k_Reader_readSum_53 E d S8 a1 a2 (-7) Q)
        else (
          k_Reader_readSum_53 E d S8 a1 a2 (-6) Q)))))) :
    k_Reader_readSum_12 E d S a1 a2 Q := by
  obtain ⟨d, rfl⟩ := Nat.exists_eq_add_of_le' hd
  intro j3
  show wp E (d + 1) m_Reader_readSum 12 [some (.ref 12), some (.int a1), some (.int (nI a2)), j3] [] (Hp S) (QI Q)
  refine wp_st (pc' := 16) (L' := [some (.ref 12), some (.int a1), some (.int (nI a2)), j3]) (st' := [.int 700, .int (nI a2)]) (h' := Hp S) 2 (fun Z => rfl) ?_
  by_cases hc : nI 700 ≤ (nI a2)
  · rw [if_pos hc] at hw
    refine wp_st (pc' := 82) (L' := [some (.ref 12), some (.int a1), some (.int (nI a2)), j3]) (st' := []) (h' := Hp S) 1 (fun Z => if_pos hc) ?_
    refine wp_st (pc' := 83) (L' := [some (.ref 12), some (.int a1), some (.int (nI a2)), j3]) (st' := [.int 1]) (h' := Hp S) 1 (fun Z => rfl) ?_
    exact wp_ret (fun Z => rfl) ⟨_, _, rfl, rfl, hw⟩
  · rw [if_neg hc] at hw
    refine wp_st (pc' := 19) (L' := [some (.ref 12), some (.int a1), some (.int (nI a2)), j3]) (st' := []) (h' := Hp S) 1 (fun Z => if_neg hc) ?_
    refine wp_st (pc' := 22) (L' := [some (.ref 12), some (.int a1), some (.int (nI a2)), j3]) (st' := [.int 43, .ref 12]) (h' := Hp S) 2 (fun Z => rfl) ?_
    refine wp_call (pc' := 25) (rest := []) (fun Z => rfl) (isO_of sh12) hw ?_
    rintro o h1 ⟨x1, S2, rfl, rfl, hw⟩
    refine ⟨_, rfl, ?_⟩
    show wp E (d + 1) m_Reader_readSum 25 [some (.ref 12), some (.int a1), some (.int (nI a2)), j3] [.int x1] (Hp S2) (QI Q)
    by_cases hc : x1 = 0
    · rw [if_pos hc] at hw
      refine wp_st (pc' := 28) (L' := [some (.ref 12), some (.int a1), some (.int (nI a2)), j3]) (st' := []) (h' := Hp S2) 1 (fun Z => if_pos hc) ?_
      refine wp_st (pc' := 31) (L' := [some (.ref 12), some (.int a1), some (.int (nI a2)), j3]) (st' := [.int 45, .ref 12]) (h' := Hp S2) 2 (fun Z => rfl) ?_
      refine wp_call (pc' := 34) (rest := []) (fun Z => rfl) (isO_of sh12) hw ?_
      rintro o h1 ⟨x3, S4, rfl, rfl, hw⟩
      refine ⟨_, rfl, ?_⟩
      show wp E (d + 1) m_Reader_readSum 34 [some (.ref 12), some (.int a1), some (.int (nI a2)), j3] [.int x3] (Hp S4) (QI Q)
      by_cases hc : x3 = 0
      · rw [if_pos hc] at hw
        refine wp_st (pc' := 82) (L' := [some (.ref 12), some (.int a1), some (.int (nI a2)), j3]) (st' := []) (h' := Hp S4) 1 (fun Z => if_pos hc) ?_
        refine wp_st (pc' := 83) (L' := [some (.ref 12), some (.int a1), some (.int (nI a2)), j3]) (st' := [.int 1]) (h' := Hp S4) 1 (fun Z => rfl) ?_
        exact wp_ret (fun Z => rfl) ⟨_, _, rfl, rfl, hw⟩
      · rw [if_neg hc] at hw
        refine wp_st (pc' := 37) (L' := [some (.ref 12), some (.int a1), some (.int (nI a2)), j3]) (st' := []) (h' := Hp S4) 1 (fun Z => if_neg hc) ?_
        refine wp_st (pc' := 40) (L' := [some (.ref 12), some (.int a1), some (.int (nI a2)), j3]) (st' := [.int 43, .ref 12]) (h' := Hp S4) 2 (fun Z => rfl) ?_
        refine wp_call (pc' := 43) (rest := []) (fun Z => rfl) (isO_of sh12) hw ?_
        rintro o h1 ⟨x5, S6, rfl, rfl, hw⟩
        refine ⟨_, rfl, ?_⟩
        show wp E (d + 1) m_Reader_readSum 43 [some (.ref 12), some (.int a1), some (.int (nI a2)), j3] [.int x5] (Hp S6) (QI Q)
        by_cases hc : x5 = 0
        · rw [if_pos hc] at hw
          refine wp_st (pc' := 51) (L' := [some (.ref 12), some (.int a1), some (.int (nI a2)), j3]) (st' := []) (h' := Hp S6) 1 (fun Z => if_pos hc) ?_
          refine wp_st (pc' := 53) (L' := [some (.ref 12), some (.int a1), some (.int (nI a2)), j3]) (st' := [.int (-7)]) (h' := Hp S6) 1 (fun Z => congrArg (fun v => Z (d + 1) m_Reader_readSum 53 [some (.ref 12), some (.int a1), some (.int (nI a2)), j3] [.int v] (Hp S6)) (show (Int8.ofInt (-7)).toInt32 = (-7) by decide)) ?_
          exact (show wp E (d + 1) m_Reader_readSum 53 [some (.ref 12), some (.int a1), some (.int (nI a2)), j3] [.int (-7)] (Hp S6) (QI Q) from (hw j3))
        · rw [if_neg hc] at hw
          refine wp_st (pc' := 46) (L' := [some (.ref 12), some (.int a1), some (.int (nI a2)), j3]) (st' := []) (h' := Hp S6) 1 (fun Z => if_neg hc) ?_
          refine wp_st (pc' := 48) (L' := [some (.ref 12), some (.int a1), some (.int (nI a2)), j3]) (st' := [.int (-6)]) (h' := Hp S6) 1 (fun Z => congrArg (fun v => Z (d + 1) m_Reader_readSum 48 [some (.ref 12), some (.int a1), some (.int (nI a2)), j3] [.int v] (Hp S6)) (show (Int8.ofInt (-6)).toInt32 = (-6) by decide)) ?_
          exact wp_st 1 (fun Z => rfl) (show wp E (d + 1) m_Reader_readSum 53 [some (.ref 12), some (.int a1), some (.int (nI a2)), j3] [.int (-6)] (Hp S6) (QI Q) from (hw j3))
    · rw [if_neg hc] at hw
      refine wp_st (pc' := 37) (L' := [some (.ref 12), some (.int a1), some (.int (nI a2)), j3]) (st' := []) (h' := Hp S2) 1 (fun Z => if_neg hc) ?_
      refine wp_st (pc' := 40) (L' := [some (.ref 12), some (.int a1), some (.int (nI a2)), j3]) (st' := [.int 43, .ref 12]) (h' := Hp S2) 2 (fun Z => rfl) ?_
      refine wp_call (pc' := 43) (rest := []) (fun Z => rfl) (isO_of sh12) hw ?_
      rintro o h1 ⟨x7, S8, rfl, rfl, hw⟩
      refine ⟨_, rfl, ?_⟩
      show wp E (d + 1) m_Reader_readSum 43 [some (.ref 12), some (.int a1), some (.int (nI a2)), j3] [.int x7] (Hp S8) (QI Q)
      by_cases hc : x7 = 0
      · rw [if_pos hc] at hw
        refine wp_st (pc' := 51) (L' := [some (.ref 12), some (.int a1), some (.int (nI a2)), j3]) (st' := []) (h' := Hp S8) 1 (fun Z => if_pos hc) ?_
        refine wp_st (pc' := 53) (L' := [some (.ref 12), some (.int a1), some (.int (nI a2)), j3]) (st' := [.int (-7)]) (h' := Hp S8) 1 (fun Z => congrArg (fun v => Z (d + 1) m_Reader_readSum 53 [some (.ref 12), some (.int a1), some (.int (nI a2)), j3] [.int v] (Hp S8)) (show (Int8.ofInt (-7)).toInt32 = (-7) by decide)) ?_
        exact (show wp E (d + 1) m_Reader_readSum 53 [some (.ref 12), some (.int a1), some (.int (nI a2)), j3] [.int (-7)] (Hp S8) (QI Q) from (hw j3))
      · rw [if_neg hc] at hw
        refine wp_st (pc' := 46) (L' := [some (.ref 12), some (.int a1), some (.int (nI a2)), j3]) (st' := []) (h' := Hp S8) 1 (fun Z => if_neg hc) ?_
        refine wp_st (pc' := 48) (L' := [some (.ref 12), some (.int a1), some (.int (nI a2)), j3]) (st' := [.int (-6)]) (h' := Hp S8) 1 (fun Z => congrArg (fun v => Z (d + 1) m_Reader_readSum 48 [some (.ref 12), some (.int a1), some (.int (nI a2)), j3] [.int v] (Hp S8)) (show (Int8.ofInt (-6)).toInt32 = (-6) by decide)) ?_
        exact wp_st 1 (fun Z => rfl) (show wp E (d + 1) m_Reader_readSum 53 [some (.ref 12), some (.int a1), some (.int (nI a2)), j3] [.int (-6)] (Hp S8) (QI Q) from (hw j3))
set_option maxRecDepth 4000 in
theorem w_Reader_readSum_53 {E : zX} {d : Nat} {S : St} {a1 : Int32} {a2 : Nat} {s0 : Int32} {Q : Int32 → St → Prop} (hd : 1 ≤ d) 
    (hw : k_Reader_nextToken E (d - 1) S (fun S2 =>
    k_Reader_readProduct E (d - 1) S2 a1 (fun x3 S4 =>
    if x3 = 0 then (
      Q (0 : Int32) S4)
    else (
      Ru ((S4 12 12).toNatClampNeg) ∧
      k_Rule_add E (d - 1) S4 ((S4 12 12).toNatClampNeg) s0 (fun S6 =>
      k_Reader_readSum_12 E d S6 a1 (a2 + 1) Q))))) :
    k_Reader_readSum_53 E d S a1 a2 s0 Q := by
  obtain ⟨d, rfl⟩ := Nat.exists_eq_add_of_le' hd
  intro j3
  show wp E (d + 1) m_Reader_readSum 53 [some (.ref 12), some (.int a1), some (.int (nI a2)), j3] [.int s0] (Hp S) (QI Q)
  refine wp_st (pc' := 55) (L' := [some (.ref 12), some (.int a1), some (.int (nI a2)), some (.int s0)]) (st' := [.ref 12]) (h' := Hp S) 2 (fun Z => rfl) ?_
  refine wp_call (pc' := 58) (rest := []) (fun Z => rfl) (isO_of sh12) hw ?_
  rintro o h1 ⟨S2, rfl, rfl, hw⟩
  refine ⟨_, rfl, ?_⟩
  show wp E (d + 1) m_Reader_readSum 58 [some (.ref 12), some (.int a1), some (.int (nI a2)), some (.int s0)] [] (Hp S2) (QI Q)
  refine wp_st (pc' := 60) (L' := [some (.ref 12), some (.int a1), some (.int (nI a2)), some (.int s0)]) (st' := [.int a1, .ref 12]) (h' := Hp S2) 2 (fun Z => rfl) ?_
  refine wp_call (pc' := 63) (rest := []) (fun Z => rfl) (isO_of sh12) hw ?_
  rintro o h1 ⟨x3, S4, rfl, rfl, hw⟩
  refine ⟨_, rfl, ?_⟩
  show wp E (d + 1) m_Reader_readSum 63 [some (.ref 12), some (.int a1), some (.int (nI a2)), some (.int s0)] [.int x3] (Hp S4) (QI Q)
  by_cases hc : x3 = 0
  · rw [if_pos hc] at hw
    refine wp_st (pc' := 66) (L' := [some (.ref 12), some (.int a1), some (.int (nI a2)), some (.int s0)]) (st' := []) (h' := Hp S4) 1 (fun Z => if_pos hc) ?_
    refine wp_st (pc' := 67) (L' := [some (.ref 12), some (.int a1), some (.int (nI a2)), some (.int s0)]) (st' := [.int 0]) (h' := Hp S4) 1 (fun Z => rfl) ?_
    exact wp_ret (fun Z => rfl) ⟨_, _, rfl, rfl, hw⟩
  · rw [if_neg hc] at hw
    refine wp_st (pc' := 68) (L' := [some (.ref 12), some (.int a1), some (.int (nI a2)), some (.int s0)]) (st' := []) (h' := Hp S4) 1 (fun Z => if_neg hc) ?_
    refine wp_st (pc' := 69) (L' := [some (.ref 12), some (.int a1), some (.int (nI a2)), some (.int s0)]) (st' := [.ref 12]) (h' := Hp S4) 1 (fun Z => rfl) ?_
    refine wp_st (pc' := 72) (L' := [some (.ref 12), some (.int a1), some (.int (nI a2)), some (.int s0)]) (st' := [.ref ((S4 12 12).toNatClampNeg)]) (h' := Hp S4) 1 (fun Z => gfV (E := E) sh12 rfl _) ?_
    refine wp_st (pc' := 73) (L' := [some (.ref 12), some (.int a1), some (.int (nI a2)), some (.int s0)]) (st' := [.int s0, .ref ((S4 12 12).toNatClampNeg)]) (h' := Hp S4) 1 (fun Z => rfl) ?_
    obtain ⟨g7, hw⟩ := hw
    refine wp_call (pc' := 76) (rest := []) (fun Z => rfl) (isO_of (g7).1) hw ?_
    rintro o h1 ⟨S6, rfl, rfl, hw⟩
    refine ⟨_, rfl, ?_⟩
    show wp E (d + 1) m_Reader_readSum 76 [some (.ref 12), some (.int a1), some (.int (nI a2)), some (.int s0)] [] (Hp S6) (QI Q)
    refine wp_st (pc' := 79) (L' := [some (.ref 12), some (.int a1), some (.int (nI (a2 + 1))), some (.int s0)]) (st' := []) (h' := Hp S6) 1 (fun Z => by rw [← nI_add a2 1]; rfl) ?_
    exact wp_st 1 (fun Z => rfl) (show wp E (d + 1) m_Reader_readSum 12 [some (.ref 12), some (.int a1), some (.int (nI (a2 + 1))), some (.int s0)] [] (Hp S6) (QI Q) from (hw (some (.int s0))))
set_option maxRecDepth 4000 in
theorem w_Reader_readProduct {E : zX} {d : Nat} {S : St} {a1 : Int32} {Q : Int32 → St → Prop} (hd : 1 ≤ d) 
    (hw : k_Reader_readPart E (d - 1) S a1 (fun x1 S2 =>
    if x1 = 0 then (
      Q (0 : Int32) S2)
    else (
      k_Reader_readProduct_12 E d S2 a1 0 Q))) :
    k_Reader_readProduct E d S a1 Q := by
  obtain ⟨d, rfl⟩ := Nat.exists_eq_add_of_le' hd
  show wp E (d + 1) m_Reader_readProduct 0 [some (.ref 12), some (.int a1), none, none] [] (Hp S) (QI Q)
  refine wp_st (pc' := 2) (L' := [some (.ref 12), some (.int a1), none, none]) (st' := [.int a1, .ref 12]) (h' := Hp S) 2 (fun Z => rfl) ?_
  refine wp_call (pc' := 5) (rest := []) (fun Z => rfl) (isO_of sh12) hw ?_
  rintro o h1 ⟨x1, S2, rfl, rfl, hw⟩
  refine ⟨_, rfl, ?_⟩
  show wp E (d + 1) m_Reader_readProduct 5 [some (.ref 12), some (.int a1), none, none] [.int x1] (Hp S2) (QI Q)
  by_cases hc : x1 = 0
  · rw [if_pos hc] at hw
    refine wp_st (pc' := 8) (L' := [some (.ref 12), some (.int a1), none, none]) (st' := []) (h' := Hp S2) 1 (fun Z => if_pos hc) ?_
    refine wp_st (pc' := 9) (L' := [some (.ref 12), some (.int a1), none, none]) (st' := [.int 0]) (h' := Hp S2) 1 (fun Z => rfl) ?_
    exact wp_ret (fun Z => rfl) ⟨_, _, rfl, rfl, hw⟩
  · rw [if_neg hc] at hw
    refine wp_st (pc' := 10) (L' := [some (.ref 12), some (.int a1), none, none]) (st' := []) (h' := Hp S2) 1 (fun Z => if_neg hc) ?_
    exact wp_st 2 (fun Z => rfl) (show wp E (d + 1) m_Reader_readProduct 12 [some (.ref 12), some (.int a1), some (.int 0), none] [] (Hp S2) (QI Q) from (hw none))
set_option maxRecDepth 4000 in
theorem w_Reader_readProduct_12 {E : zX} {d : Nat} {S : St} {a1 : Int32} {a2 : Nat} {Q : Int32 → St → Prop} (hd : 1 ≤ d) 
    (hw : if nI 700 ≤ (nI a2) then (
      Q (1 : Int32) S)
    else (
      k_Reader_isSign E (d - 1) S 42 (fun x1 S2 =>
      if x1 = 0 then (
        k_Reader_isSign E (d - 1) S2 47 (fun x3 S4 =>
        if x3 = 0 then (
          Q (1 : Int32) S4)
        else (
          k_Reader_isSign E (d - 1) S4 42 (fun x5 S6 =>
          if x5 = 0 then (
            k_Reader_readProduct_53 E d S6 a1 a2 (-9) Q)
          else (
            k_Reader_readProduct_53 E d S6 a1 a2 (-8) Q)))))
      else (
        k_Reader_isSign E (d - 1) S2 42 (fun x7 S8 =>
        if x7 = 0 then (
          k_Reader_readProduct_53 E d S8 a1 a2 (-9) Q)
        else (
          k_Reader_readProduct_53 E d S8 a1 a2 (-8) Q)))))) :
    k_Reader_readProduct_12 E d S a1 a2 Q := by
  obtain ⟨d, rfl⟩ := Nat.exists_eq_add_of_le' hd
  intro j3
  show wp E (d + 1) m_Reader_readProduct 12 [some (.ref 12), some (.int a1), some (.int (nI a2)), j3] [] (Hp S) (QI Q)
  refine wp_st (pc' := 16) (L' := [some (.ref 12), some (.int a1), some (.int (nI a2)), j3]) (st' := [.int 700, .int (nI a2)]) (h' := Hp S) 2 (fun Z => rfl) ?_
  by_cases hc : nI 700 ≤ (nI a2)
  · rw [if_pos hc] at hw
    refine wp_st (pc' := 82) (L' := [some (.ref 12), some (.int a1), some (.int (nI a2)), j3]) (st' := []) (h' := Hp S) 1 (fun Z => if_pos hc) ?_
    refine wp_st (pc' := 83) (L' := [some (.ref 12), some (.int a1), some (.int (nI a2)), j3]) (st' := [.int 1]) (h' := Hp S) 1 (fun Z => rfl) ?_
    exact wp_ret (fun Z => rfl) ⟨_, _, rfl, rfl, hw⟩
  · rw [if_neg hc] at hw
    refine wp_st (pc' := 19) (L' := [some (.ref 12), some (.int a1), some (.int (nI a2)), j3]) (st' := []) (h' := Hp S) 1 (fun Z => if_neg hc) ?_
    refine wp_st (pc' := 22) (L' := [some (.ref 12), some (.int a1), some (.int (nI a2)), j3]) (st' := [.int 42, .ref 12]) (h' := Hp S) 2 (fun Z => rfl) ?_
    refine wp_call (pc' := 25) (rest := []) (fun Z => rfl) (isO_of sh12) hw ?_
    rintro o h1 ⟨x1, S2, rfl, rfl, hw⟩
    refine ⟨_, rfl, ?_⟩
    show wp E (d + 1) m_Reader_readProduct 25 [some (.ref 12), some (.int a1), some (.int (nI a2)), j3] [.int x1] (Hp S2) (QI Q)
    by_cases hc : x1 = 0
    · rw [if_pos hc] at hw
      refine wp_st (pc' := 28) (L' := [some (.ref 12), some (.int a1), some (.int (nI a2)), j3]) (st' := []) (h' := Hp S2) 1 (fun Z => if_pos hc) ?_
      refine wp_st (pc' := 31) (L' := [some (.ref 12), some (.int a1), some (.int (nI a2)), j3]) (st' := [.int 47, .ref 12]) (h' := Hp S2) 2 (fun Z => rfl) ?_
      refine wp_call (pc' := 34) (rest := []) (fun Z => rfl) (isO_of sh12) hw ?_
      rintro o h1 ⟨x3, S4, rfl, rfl, hw⟩
      refine ⟨_, rfl, ?_⟩
      show wp E (d + 1) m_Reader_readProduct 34 [some (.ref 12), some (.int a1), some (.int (nI a2)), j3] [.int x3] (Hp S4) (QI Q)
      by_cases hc : x3 = 0
      · rw [if_pos hc] at hw
        refine wp_st (pc' := 82) (L' := [some (.ref 12), some (.int a1), some (.int (nI a2)), j3]) (st' := []) (h' := Hp S4) 1 (fun Z => if_pos hc) ?_
        refine wp_st (pc' := 83) (L' := [some (.ref 12), some (.int a1), some (.int (nI a2)), j3]) (st' := [.int 1]) (h' := Hp S4) 1 (fun Z => rfl) ?_
        exact wp_ret (fun Z => rfl) ⟨_, _, rfl, rfl, hw⟩
      · rw [if_neg hc] at hw
        refine wp_st (pc' := 37) (L' := [some (.ref 12), some (.int a1), some (.int (nI a2)), j3]) (st' := []) (h' := Hp S4) 1 (fun Z => if_neg hc) ?_
        refine wp_st (pc' := 40) (L' := [some (.ref 12), some (.int a1), some (.int (nI a2)), j3]) (st' := [.int 42, .ref 12]) (h' := Hp S4) 2 (fun Z => rfl) ?_
        refine wp_call (pc' := 43) (rest := []) (fun Z => rfl) (isO_of sh12) hw ?_
        rintro o h1 ⟨x5, S6, rfl, rfl, hw⟩
        refine ⟨_, rfl, ?_⟩
        show wp E (d + 1) m_Reader_readProduct 43 [some (.ref 12), some (.int a1), some (.int (nI a2)), j3] [.int x5] (Hp S6) (QI Q)
        by_cases hc : x5 = 0
        · rw [if_pos hc] at hw
          refine wp_st (pc' := 51) (L' := [some (.ref 12), some (.int a1), some (.int (nI a2)), j3]) (st' := []) (h' := Hp S6) 1 (fun Z => if_pos hc) ?_
          refine wp_st (pc' := 53) (L' := [some (.ref 12), some (.int a1), some (.int (nI a2)), j3]) (st' := [.int (-9)]) (h' := Hp S6) 1 (fun Z => congrArg (fun v => Z (d + 1) m_Reader_readProduct 53 [some (.ref 12), some (.int a1), some (.int (nI a2)), j3] [.int v] (Hp S6)) (show (Int8.ofInt (-9)).toInt32 = (-9) by decide)) ?_
          exact (show wp E (d + 1) m_Reader_readProduct 53 [some (.ref 12), some (.int a1), some (.int (nI a2)), j3] [.int (-9)] (Hp S6) (QI Q) from (hw j3))
        · rw [if_neg hc] at hw
          refine wp_st (pc' := 46) (L' := [some (.ref 12), some (.int a1), some (.int (nI a2)), j3]) (st' := []) (h' := Hp S6) 1 (fun Z => if_neg hc) ?_
          refine wp_st (pc' := 48) (L' := [some (.ref 12), some (.int a1), some (.int (nI a2)), j3]) (st' := [.int (-8)]) (h' := Hp S6) 1 (fun Z => congrArg (fun v => Z (d + 1) m_Reader_readProduct 48 [some (.ref 12), some (.int a1), some (.int (nI a2)), j3] [.int v] (Hp S6)) (show (Int8.ofInt (-8)).toInt32 = (-8) by decide)) ?_
          exact wp_st 1 (fun Z => rfl) (show wp E (d + 1) m_Reader_readProduct 53 [some (.ref 12), some (.int a1), some (.int (nI a2)), j3] [.int (-8)] (Hp S6) (QI Q) from (hw j3))
    · rw [if_neg hc] at hw
      refine wp_st (pc' := 37) (L' := [some (.ref 12), some (.int a1), some (.int (nI a2)), j3]) (st' := []) (h' := Hp S2) 1 (fun Z => if_neg hc) ?_
      refine wp_st (pc' := 40) (L' := [some (.ref 12), some (.int a1), some (.int (nI a2)), j3]) (st' := [.int 42, .ref 12]) (h' := Hp S2) 2 (fun Z => rfl) ?_
      refine wp_call (pc' := 43) (rest := []) (fun Z => rfl) (isO_of sh12) hw ?_
      rintro o h1 ⟨x7, S8, rfl, rfl, hw⟩
      refine ⟨_, rfl, ?_⟩
      show wp E (d + 1) m_Reader_readProduct 43 [some (.ref 12), some (.int a1), some (.int (nI a2)), j3] [.int x7] (Hp S8) (QI Q)
      by_cases hc : x7 = 0
      · rw [if_pos hc] at hw
        refine wp_st (pc' := 51) (L' := [some (.ref 12), some (.int a1), some (.int (nI a2)), j3]) (st' := []) (h' := Hp S8) 1 (fun Z => if_pos hc) ?_
        refine wp_st (pc' := 53) (L' := [some (.ref 12), some (.int a1), some (.int (nI a2)), j3]) (st' := [.int (-9)]) (h' := Hp S8) 1 (fun Z => congrArg (fun v => Z (d + 1) m_Reader_readProduct 53 [some (.ref 12), some (.int a1), some (.int (nI a2)), j3] [.int v] (Hp S8)) (show (Int8.ofInt (-9)).toInt32 = (-9) by decide)) ?_
        exact (show wp E (d + 1) m_Reader_readProduct 53 [some (.ref 12), some (.int a1), some (.int (nI a2)), j3] [.int (-9)] (Hp S8) (QI Q) from (hw j3))
      · rw [if_neg hc] at hw
        refine wp_st (pc' := 46) (L' := [some (.ref 12), some (.int a1), some (.int (nI a2)), j3]) (st' := []) (h' := Hp S8) 1 (fun Z => if_neg hc) ?_
        refine wp_st (pc' := 48) (L' := [some (.ref 12), some (.int a1), some (.int (nI a2)), j3]) (st' := [.int (-8)]) (h' := Hp S8) 1 (fun Z => congrArg (fun v => Z (d + 1) m_Reader_readProduct 48 [some (.ref 12), some (.int a1), some (.int (nI a2)), j3] [.int v] (Hp S8)) (show (Int8.ofInt (-8)).toInt32 = (-8) by decide)) ?_
        exact wp_st 1 (fun Z => rfl) (show wp E (d + 1) m_Reader_readProduct 53 [some (.ref 12), some (.int a1), some (.int (nI a2)), j3] [.int (-8)] (Hp S8) (QI Q) from (hw j3))
set_option maxRecDepth 4000 in
theorem w_Reader_readProduct_53 {E : zX} {d : Nat} {S : St} {a1 : Int32} {a2 : Nat} {s0 : Int32} {Q : Int32 → St → Prop} (hd : 1 ≤ d) 
    (hw : k_Reader_nextToken E (d - 1) S (fun S2 =>
    k_Reader_readPart E (d - 1) S2 a1 (fun x3 S4 =>
    if x3 = 0 then (
      Q (0 : Int32) S4)
    else (
      Ru ((S4 12 12).toNatClampNeg) ∧
      k_Rule_add E (d - 1) S4 ((S4 12 12).toNatClampNeg) s0 (fun S6 =>
      k_Reader_readProduct_12 E d S6 a1 (a2 + 1) Q))))) :
    k_Reader_readProduct_53 E d S a1 a2 s0 Q := by
  obtain ⟨d, rfl⟩ := Nat.exists_eq_add_of_le' hd
  intro j3
  show wp E (d + 1) m_Reader_readProduct 53 [some (.ref 12), some (.int a1), some (.int (nI a2)), j3] [.int s0] (Hp S) (QI Q)
  refine wp_st (pc' := 55) (L' := [some (.ref 12), some (.int a1), some (.int (nI a2)), some (.int s0)]) (st' := [.ref 12]) (h' := Hp S) 2 (fun Z => rfl) ?_
  refine wp_call (pc' := 58) (rest := []) (fun Z => rfl) (isO_of sh12) hw ?_
  rintro o h1 ⟨S2, rfl, rfl, hw⟩
  refine ⟨_, rfl, ?_⟩
  show wp E (d + 1) m_Reader_readProduct 58 [some (.ref 12), some (.int a1), some (.int (nI a2)), some (.int s0)] [] (Hp S2) (QI Q)
  refine wp_st (pc' := 60) (L' := [some (.ref 12), some (.int a1), some (.int (nI a2)), some (.int s0)]) (st' := [.int a1, .ref 12]) (h' := Hp S2) 2 (fun Z => rfl) ?_
  refine wp_call (pc' := 63) (rest := []) (fun Z => rfl) (isO_of sh12) hw ?_
  rintro o h1 ⟨x3, S4, rfl, rfl, hw⟩
  refine ⟨_, rfl, ?_⟩
  show wp E (d + 1) m_Reader_readProduct 63 [some (.ref 12), some (.int a1), some (.int (nI a2)), some (.int s0)] [.int x3] (Hp S4) (QI Q)
  by_cases hc : x3 = 0
  · rw [if_pos hc] at hw
    refine wp_st (pc' := 66) (L' := [some (.ref 12), some (.int a1), some (.int (nI a2)), some (.int s0)]) (st' := []) (h' := Hp S4) 1 (fun Z => if_pos hc) ?_
    refine wp_st (pc' := 67) (L' := [some (.ref 12), some (.int a1), some (.int (nI a2)), some (.int s0)]) (st' := [.int 0]) (h' := Hp S4) 1 (fun Z => rfl) ?_
    exact wp_ret (fun Z => rfl) ⟨_, _, rfl, rfl, hw⟩
  · rw [if_neg hc] at hw
    refine wp_st (pc' := 68) (L' := [some (.ref 12), some (.int a1), some (.int (nI a2)), some (.int s0)]) (st' := []) (h' := Hp S4) 1 (fun Z => if_neg hc) ?_
    refine wp_st (pc' := 69) (L' := [some (.ref 12), some (.int a1), some (.int (nI a2)), some (.int s0)]) (st' := [.ref 12]) (h' := Hp S4) 1 (fun Z => rfl) ?_
    refine wp_st (pc' := 72) (L' := [some (.ref 12), some (.int a1), some (.int (nI a2)), some (.int s0)]) (st' := [.ref ((S4 12 12).toNatClampNeg)]) (h' := Hp S4) 1 (fun Z => gfV (E := E) sh12 rfl _) ?_
    refine wp_st (pc' := 73) (L' := [some (.ref 12), some (.int a1), some (.int (nI a2)), some (.int s0)]) (st' := [.int s0, .ref ((S4 12 12).toNatClampNeg)]) (h' := Hp S4) 1 (fun Z => rfl) ?_
    obtain ⟨g7, hw⟩ := hw
    refine wp_call (pc' := 76) (rest := []) (fun Z => rfl) (isO_of (g7).1) hw ?_
    rintro o h1 ⟨S6, rfl, rfl, hw⟩
    refine ⟨_, rfl, ?_⟩
    show wp E (d + 1) m_Reader_readProduct 76 [some (.ref 12), some (.int a1), some (.int (nI a2)), some (.int s0)] [] (Hp S6) (QI Q)
    refine wp_st (pc' := 79) (L' := [some (.ref 12), some (.int a1), some (.int (nI (a2 + 1))), some (.int s0)]) (st' := []) (h' := Hp S6) 1 (fun Z => by rw [← nI_add a2 1]; rfl) ?_
    exact wp_st 1 (fun Z => rfl) (show wp E (d + 1) m_Reader_readProduct 12 [some (.ref 12), some (.int a1), some (.int (nI (a2 + 1))), some (.int s0)] [] (Hp S6) (QI Q) from (hw (some (.int s0))))
set_option maxRecDepth 4000 in
theorem w_Reader_readPart {E : zX} {d : Nat} {S : St} {a1 : Int32} {Q : Int32 → St → Prop} (hd : 1 ≤ d) 
    (hw : if (S 12 8) = 2 then (
      k_Reader_readNumber E (d - 1) S 0 9999 (fun x1 S2 =>
      if x1 = 0 then (
        Q (0 : Int32) S2)
      else (
        Ru ((S2 12 12).toNatClampNeg) ∧
        k_Rule_add E (d - 1) S2 ((S2 12 12).toNatClampNeg) (S2 12 11) (fun S4 =>
        Q (1 : Int32) S4))))
    else (
      if (S 12 8) = 1 then (
        if (S 12 13) = 0 then (
          k_Reader_valueOfBall E (d - 1) S (fun x6 S7 =>
          k_Reader_readPart_60 E d S7 x6 Q))
        else (
          k_Reader_valueOfPerson E (d - 1) S (fun x8 S9 =>
          k_Reader_readPart_60 E d S9 x8 Q)))
      else (
        if 6 ≤ a1 then (
          k_Reader_fail E (d - 1) S 1 (fun x10 S11 =>
          (x10 = 0 ∨ x10 = 1) ∧ Q x10 S11))
        else (
          k_Reader_isSign E (d - 1) S 40 (fun x12 S13 =>
          if x12 = 0 then (
            k_Reader_fail E (d - 1) S13 1 (fun x14 S15 =>
            (x14 = 0 ∨ x14 = 1) ∧ Q x14 S15))
          else (
            k_Reader_nextToken E (d - 1) S13 (fun S17 =>
            k_Reader_readExpr E (d - 1) S17 (a1 + (1 : Int32)) (fun x18 S19 =>
            if x18 = 0 then (
              Q (0 : Int32) S19)
            else (
              k_Reader_readSign E (d - 1) S19 41 (fun x20 S21 =>
              if x20 = 0 then (
                Q (0 : Int32) S21)
              else (
                Q (1 : Int32) S21))))))))))) :
    k_Reader_readPart E d S a1 Q := by
  obtain ⟨d, rfl⟩ := Nat.exists_eq_add_of_le' hd
  show wp E (d + 1) m_Reader_readPart 0 [some (.ref 12), some (.int a1), none] [] (Hp S) (QI Q)
  refine wp_st (pc' := 1) (L' := [some (.ref 12), some (.int a1), none]) (st' := [.ref 12]) (h' := Hp S) 1 (fun Z => rfl) ?_
  refine wp_st (pc' := 4) (L' := [some (.ref 12), some (.int a1), none]) (st' := [.int (S 12 8)]) (h' := Hp S) 1 (fun Z => gfI (E := E) sh12 rfl _) ?_
  refine wp_st (pc' := 5) (L' := [some (.ref 12), some (.int a1), none]) (st' := [.int 2, .int (S 12 8)]) (h' := Hp S) 1 (fun Z => rfl) ?_
  by_cases hc : (S 12 8) = 2
  · rw [if_pos hc] at hw
    refine wp_st (pc' := 8) (L' := [some (.ref 12), some (.int a1), none]) (st' := []) (h' := Hp S) 1 (fun Z => if_pos hc) ?_
    refine wp_st (pc' := 13) (L' := [some (.ref 12), some (.int a1), none]) (st' := [.int 9999, .int 0, .ref 12]) (h' := Hp S) 3 (fun Z => rfl) ?_
    refine wp_call (pc' := 16) (rest := []) (fun Z => rfl) (isO_of sh12) hw ?_
    rintro o h1 ⟨x1, S2, rfl, rfl, hw⟩
    refine ⟨_, rfl, ?_⟩
    show wp E (d + 1) m_Reader_readPart 16 [some (.ref 12), some (.int a1), none] [.int x1] (Hp S2) (QI Q)
    by_cases hc : x1 = 0
    · rw [if_pos hc] at hw
      refine wp_st (pc' := 19) (L' := [some (.ref 12), some (.int a1), none]) (st' := []) (h' := Hp S2) 1 (fun Z => if_pos hc) ?_
      refine wp_st (pc' := 20) (L' := [some (.ref 12), some (.int a1), none]) (st' := [.int 0]) (h' := Hp S2) 1 (fun Z => rfl) ?_
      exact wp_ret (fun Z => rfl) ⟨_, _, rfl, rfl, hw⟩
    · rw [if_neg hc] at hw
      refine wp_st (pc' := 21) (L' := [some (.ref 12), some (.int a1), none]) (st' := []) (h' := Hp S2) 1 (fun Z => if_neg hc) ?_
      refine wp_st (pc' := 22) (L' := [some (.ref 12), some (.int a1), none]) (st' := [.ref 12]) (h' := Hp S2) 1 (fun Z => rfl) ?_
      refine wp_st (pc' := 25) (L' := [some (.ref 12), some (.int a1), none]) (st' := [.ref ((S2 12 12).toNatClampNeg)]) (h' := Hp S2) 1 (fun Z => gfV (E := E) sh12 rfl _) ?_
      refine wp_st (pc' := 26) (L' := [some (.ref 12), some (.int a1), none]) (st' := [.ref 12, .ref ((S2 12 12).toNatClampNeg)]) (h' := Hp S2) 1 (fun Z => rfl) ?_
      refine wp_st (pc' := 29) (L' := [some (.ref 12), some (.int a1), none]) (st' := [.int (S2 12 11), .ref ((S2 12 12).toNatClampNeg)]) (h' := Hp S2) 1 (fun Z => gfI (E := E) sh12 rfl _) ?_
      obtain ⟨g5, hw⟩ := hw
      refine wp_call (pc' := 32) (rest := []) (fun Z => rfl) (isO_of (g5).1) hw ?_
      rintro o h1 ⟨S4, rfl, rfl, hw⟩
      refine ⟨_, rfl, ?_⟩
      show wp E (d + 1) m_Reader_readPart 32 [some (.ref 12), some (.int a1), none] [] (Hp S4) (QI Q)
      refine wp_st (pc' := 33) (L' := [some (.ref 12), some (.int a1), none]) (st' := [.int 1]) (h' := Hp S4) 1 (fun Z => rfl) ?_
      exact wp_ret (fun Z => rfl) ⟨_, _, rfl, rfl, hw⟩
  · rw [if_neg hc] at hw
    refine wp_st (pc' := 34) (L' := [some (.ref 12), some (.int a1), none]) (st' := []) (h' := Hp S) 1 (fun Z => if_neg hc) ?_
    refine wp_st (pc' := 35) (L' := [some (.ref 12), some (.int a1), none]) (st' := [.ref 12]) (h' := Hp S) 1 (fun Z => rfl) ?_
    refine wp_st (pc' := 38) (L' := [some (.ref 12), some (.int a1), none]) (st' := [.int (S 12 8)]) (h' := Hp S) 1 (fun Z => gfI (E := E) sh12 rfl _) ?_
    refine wp_st (pc' := 39) (L' := [some (.ref 12), some (.int a1), none]) (st' := [.int 1, .int (S 12 8)]) (h' := Hp S) 1 (fun Z => rfl) ?_
    by_cases hc : (S 12 8) = 1
    · rw [if_pos hc] at hw
      refine wp_st (pc' := 42) (L' := [some (.ref 12), some (.int a1), none]) (st' := []) (h' := Hp S) 1 (fun Z => if_pos hc) ?_
      refine wp_st (pc' := 43) (L' := [some (.ref 12), some (.int a1), none]) (st' := [.ref 12]) (h' := Hp S) 1 (fun Z => rfl) ?_
      refine wp_st (pc' := 46) (L' := [some (.ref 12), some (.int a1), none]) (st' := [.int (S 12 13)]) (h' := Hp S) 1 (fun Z => gfI (E := E) sh12 rfl _) ?_
      by_cases hc : (S 12 13) = 0
      · rw [if_pos hc] at hw
        refine wp_st (pc' := 56) (L' := [some (.ref 12), some (.int a1), none]) (st' := []) (h' := Hp S) 1 (fun Z => if_pos hc) ?_
        refine wp_st (pc' := 57) (L' := [some (.ref 12), some (.int a1), none]) (st' := [.ref 12]) (h' := Hp S) 1 (fun Z => rfl) ?_
        refine wp_call (pc' := 60) (rest := []) (fun Z => rfl) (isO_of sh12) hw ?_
        rintro o h1 ⟨x6, S7, rfl, rfl, hw⟩
        refine ⟨_, rfl, ?_⟩
        show wp E (d + 1) m_Reader_readPart 60 [some (.ref 12), some (.int a1), none] [.int x6] (Hp S7) (QI Q)
        exact (show wp E (d + 1) m_Reader_readPart 60 [some (.ref 12), some (.int a1), none] [.int x6] (Hp S7) (QI Q) from (hw (some (.int a1)) none))
      · rw [if_neg hc] at hw
        refine wp_st (pc' := 49) (L' := [some (.ref 12), some (.int a1), none]) (st' := []) (h' := Hp S) 1 (fun Z => if_neg hc) ?_
        refine wp_st (pc' := 50) (L' := [some (.ref 12), some (.int a1), none]) (st' := [.ref 12]) (h' := Hp S) 1 (fun Z => rfl) ?_
        refine wp_call (pc' := 53) (rest := []) (fun Z => rfl) (isO_of sh12) hw ?_
        rintro o h1 ⟨x8, S9, rfl, rfl, hw⟩
        refine ⟨_, rfl, ?_⟩
        show wp E (d + 1) m_Reader_readPart 53 [some (.ref 12), some (.int a1), none] [.int x8] (Hp S9) (QI Q)
        exact wp_st 1 (fun Z => rfl) (show wp E (d + 1) m_Reader_readPart 60 [some (.ref 12), some (.int a1), none] [.int x8] (Hp S9) (QI Q) from (hw (some (.int a1)) none))
    · rw [if_neg hc] at hw
      refine wp_st (pc' := 89) (L' := [some (.ref 12), some (.int a1), none]) (st' := []) (h' := Hp S) 1 (fun Z => if_neg hc) ?_
      refine wp_st (pc' := 92) (L' := [some (.ref 12), some (.int a1), none]) (st' := [.int 6, .int a1]) (h' := Hp S) 2 (fun Z => rfl) ?_
      by_cases hc : 6 ≤ a1
      · rw [if_pos hc] at hw
        refine wp_st (pc' := 104) (L' := [some (.ref 12), some (.int a1), none]) (st' := []) (h' := Hp S) 1 (fun Z => if_pos hc) ?_
        refine wp_st (pc' := 106) (L' := [some (.ref 12), some (.int a1), none]) (st' := [.int 1, .ref 12]) (h' := Hp S) 2 (fun Z => rfl) ?_
        refine wp_call (pc' := 109) (rest := []) (fun Z => rfl) (isO_of sh12) hw ?_
        rintro o h1 ⟨x10, S11, rfl, rfl, hw⟩
        refine ⟨_, rfl, ?_⟩
        show wp E (d + 1) m_Reader_readPart 109 [some (.ref 12), some (.int a1), none] [.int x10] (Hp S11) (QI Q)
        obtain ⟨hz, hw⟩ := hw
        refine wp_ret (h' := Hp S11) (o := .inl (some (.int x10))) (fun Z => ?_) ⟨_, _, rfl, rfl, hw⟩
        show (bif zfr _ _ then _ else none) = _
        rcases hz with hz | hz <;> rw [hz] <;> rfl
      · rw [if_neg hc] at hw
        refine wp_st (pc' := 95) (L' := [some (.ref 12), some (.int a1), none]) (st' := []) (h' := Hp S) 1 (fun Z => if_neg hc) ?_
        refine wp_st (pc' := 98) (L' := [some (.ref 12), some (.int a1), none]) (st' := [.int 40, .ref 12]) (h' := Hp S) 2 (fun Z => rfl) ?_
        refine wp_call (pc' := 101) (rest := []) (fun Z => rfl) (isO_of sh12) hw ?_
        rintro o h1 ⟨x12, S13, rfl, rfl, hw⟩
        refine ⟨_, rfl, ?_⟩
        show wp E (d + 1) m_Reader_readPart 101 [some (.ref 12), some (.int a1), none] [.int x12] (Hp S13) (QI Q)
        by_cases hc : x12 = 0
        · rw [if_pos hc] at hw
          refine wp_st (pc' := 104) (L' := [some (.ref 12), some (.int a1), none]) (st' := []) (h' := Hp S13) 1 (fun Z => if_pos hc) ?_
          refine wp_st (pc' := 106) (L' := [some (.ref 12), some (.int a1), none]) (st' := [.int 1, .ref 12]) (h' := Hp S13) 2 (fun Z => rfl) ?_
          refine wp_call (pc' := 109) (rest := []) (fun Z => rfl) (isO_of sh12) hw ?_
          rintro o h1 ⟨x14, S15, rfl, rfl, hw⟩
          refine ⟨_, rfl, ?_⟩
          show wp E (d + 1) m_Reader_readPart 109 [some (.ref 12), some (.int a1), none] [.int x14] (Hp S15) (QI Q)
          obtain ⟨hz, hw⟩ := hw
          refine wp_ret (h' := Hp S15) (o := .inl (some (.int x14))) (fun Z => ?_) ⟨_, _, rfl, rfl, hw⟩
          show (bif zfr _ _ then _ else none) = _
          rcases hz with hz | hz <;> rw [hz] <;> rfl
        · rw [if_neg hc] at hw
          refine wp_st (pc' := 110) (L' := [some (.ref 12), some (.int a1), none]) (st' := []) (h' := Hp S13) 1 (fun Z => if_neg hc) ?_
          refine wp_st (pc' := 111) (L' := [some (.ref 12), some (.int a1), none]) (st' := [.ref 12]) (h' := Hp S13) 1 (fun Z => rfl) ?_
          refine wp_call (pc' := 114) (rest := []) (fun Z => rfl) (isO_of sh12) hw ?_
          rintro o h1 ⟨S17, rfl, rfl, hw⟩
          refine ⟨_, rfl, ?_⟩
          show wp E (d + 1) m_Reader_readPart 114 [some (.ref 12), some (.int a1), none] [] (Hp S17) (QI Q)
          refine wp_st (pc' := 118) (L' := [some (.ref 12), some (.int a1), none]) (st' := [.int (a1 + (1 : Int32)), .ref 12]) (h' := Hp S17) 4 (fun Z => rfl) ?_
          refine wp_call (pc' := 121) (rest := []) (fun Z => rfl) (isO_of sh12) hw ?_
          rintro o h1 ⟨x18, S19, rfl, rfl, hw⟩
          refine ⟨_, rfl, ?_⟩
          show wp E (d + 1) m_Reader_readPart 121 [some (.ref 12), some (.int a1), none] [.int x18] (Hp S19) (QI Q)
          by_cases hc : x18 = 0
          · rw [if_pos hc] at hw
            refine wp_st (pc' := 137) (L' := [some (.ref 12), some (.int a1), none]) (st' := []) (h' := Hp S19) 1 (fun Z => if_pos hc) ?_
            refine wp_st (pc' := 138) (L' := [some (.ref 12), some (.int a1), none]) (st' := [.int 0]) (h' := Hp S19) 1 (fun Z => rfl) ?_
            exact wp_ret (fun Z => rfl) ⟨_, _, rfl, rfl, hw⟩
          · rw [if_neg hc] at hw
            refine wp_st (pc' := 124) (L' := [some (.ref 12), some (.int a1), none]) (st' := []) (h' := Hp S19) 1 (fun Z => if_neg hc) ?_
            refine wp_st (pc' := 127) (L' := [some (.ref 12), some (.int a1), none]) (st' := [.int 41, .ref 12]) (h' := Hp S19) 2 (fun Z => rfl) ?_
            refine wp_call (pc' := 130) (rest := []) (fun Z => rfl) (isO_of sh12) hw ?_
            rintro o h1 ⟨x20, S21, rfl, rfl, hw⟩
            refine ⟨_, rfl, ?_⟩
            show wp E (d + 1) m_Reader_readPart 130 [some (.ref 12), some (.int a1), none] [.int x20] (Hp S21) (QI Q)
            by_cases hc : x20 = 0
            · rw [if_pos hc] at hw
              refine wp_st (pc' := 137) (L' := [some (.ref 12), some (.int a1), none]) (st' := []) (h' := Hp S21) 1 (fun Z => if_pos hc) ?_
              refine wp_st (pc' := 138) (L' := [some (.ref 12), some (.int a1), none]) (st' := [.int 0]) (h' := Hp S21) 1 (fun Z => rfl) ?_
              exact wp_ret (fun Z => rfl) ⟨_, _, rfl, rfl, hw⟩
            · rw [if_neg hc] at hw
              refine wp_st (pc' := 133) (L' := [some (.ref 12), some (.int a1), none]) (st' := []) (h' := Hp S21) 1 (fun Z => if_neg hc) ?_
              refine wp_st (pc' := 138) (L' := [some (.ref 12), some (.int a1), none]) (st' := [.int 1]) (h' := Hp S21) 2 (fun Z => rfl) ?_
              exact wp_ret (fun Z => rfl) ⟨_, _, rfl, rfl, hw⟩
set_option maxRecDepth 4000 in
theorem w_Reader_readPart_60 {E : zX} {d : Nat} {S : St} {s0 : Int32} {Q : Int32 → St → Prop} (hd : 1 ≤ d) 
    (hw : if s0 = (-1) then (
      k_Reader_fail E (d - 1) S 3 (fun x1 S2 =>
      (x1 = 0 ∨ x1 = 1) ∧ Q x1 S2))
    else (
      Ru ((S 12 12).toNatClampNeg) ∧
      k_Rule_add E (d - 1) S ((S 12 12).toNatClampNeg) (((-20) : Int32) - s0) (fun S4 =>
      k_Reader_nextToken E (d - 1) S4 (fun S7 =>
      Q (1 : Int32) S7)))) :
    k_Reader_readPart_60 E d S s0 Q := by
  obtain ⟨d, rfl⟩ := Nat.exists_eq_add_of_le' hd
  intro j1 j2
  show wp E (d + 1) m_Reader_readPart 60 [some (.ref 12), j1, j2] [.int s0] (Hp S) (QI Q)
  refine wp_st (pc' := 62) (L' := [some (.ref 12), j1, some (.int s0)]) (st' := [.int s0]) (h' := Hp S) 2 (fun Z => rfl) ?_
  refine wp_st (pc' := 63) (L' := [some (.ref 12), j1, some (.int s0)]) (st' := [.int (-1), .int s0]) (h' := Hp S) 1 (fun Z => congrArg (fun v => Z (d + 1) m_Reader_readPart 63 [some (.ref 12), j1, some (.int s0)] [.int v, .int s0] (Hp S)) (show Int32.ofInt (-1) = (-1) by decide)) ?_
  by_cases hc : s0 = (-1)
  · rw [if_pos hc] at hw
    refine wp_st (pc' := 66) (L' := [some (.ref 12), j1, some (.int s0)]) (st' := []) (h' := Hp S) 1 (fun Z => if_pos hc) ?_
    refine wp_st (pc' := 68) (L' := [some (.ref 12), j1, some (.int s0)]) (st' := [.int 3, .ref 12]) (h' := Hp S) 2 (fun Z => rfl) ?_
    refine wp_call (pc' := 71) (rest := []) (fun Z => rfl) (isO_of sh12) hw ?_
    rintro o h1 ⟨x1, S2, rfl, rfl, hw⟩
    refine ⟨_, rfl, ?_⟩
    show wp E (d + 1) m_Reader_readPart 71 [some (.ref 12), j1, some (.int s0)] [.int x1] (Hp S2) (QI Q)
    obtain ⟨hz, hw⟩ := hw
    refine wp_ret (h' := Hp S2) (o := .inl (some (.int x1))) (fun Z => ?_) ⟨_, _, rfl, rfl, hw⟩
    show (bif zfr _ _ then _ else none) = _
    rcases hz with hz | hz <;> rw [hz] <;> rfl
  · rw [if_neg hc] at hw
    refine wp_st (pc' := 72) (L' := [some (.ref 12), j1, some (.int s0)]) (st' := []) (h' := Hp S) 1 (fun Z => if_neg hc) ?_
    refine wp_st (pc' := 73) (L' := [some (.ref 12), j1, some (.int s0)]) (st' := [.ref 12]) (h' := Hp S) 1 (fun Z => rfl) ?_
    refine wp_st (pc' := 76) (L' := [some (.ref 12), j1, some (.int s0)]) (st' := [.ref ((S 12 12).toNatClampNeg)]) (h' := Hp S) 1 (fun Z => gfV (E := E) sh12 rfl _) ?_
    refine wp_st (pc' := 78) (L' := [some (.ref 12), j1, some (.int s0)]) (st' := [.int (-20), .ref ((S 12 12).toNatClampNeg)]) (h' := Hp S) 1 (fun Z => congrArg (fun v => Z (d + 1) m_Reader_readPart 78 [some (.ref 12), j1, some (.int s0)] [.int v, .ref ((S 12 12).toNatClampNeg)] (Hp S)) (show (Int8.ofInt (-20)).toInt32 = (-20) by decide)) ?_
    refine wp_st (pc' := 80) (L' := [some (.ref 12), j1, some (.int s0)]) (st' := [.int (((-20) : Int32) - s0), .ref ((S 12 12).toNatClampNeg)]) (h' := Hp S) 2 (fun Z => rfl) ?_
    obtain ⟨g5, hw⟩ := hw
    refine wp_call (pc' := 83) (rest := []) (fun Z => rfl) (isO_of (g5).1) hw ?_
    rintro o h1 ⟨S4, rfl, rfl, hw⟩
    refine ⟨_, rfl, ?_⟩
    show wp E (d + 1) m_Reader_readPart 83 [some (.ref 12), j1, some (.int s0)] [] (Hp S4) (QI Q)
    refine wp_st (pc' := 84) (L' := [some (.ref 12), j1, some (.int s0)]) (st' := [.ref 12]) (h' := Hp S4) 1 (fun Z => rfl) ?_
    refine wp_call (pc' := 87) (rest := []) (fun Z => rfl) (isO_of sh12) hw ?_
    rintro o h1 ⟨S7, rfl, rfl, hw⟩
    refine ⟨_, rfl, ?_⟩
    show wp E (d + 1) m_Reader_readPart 87 [some (.ref 12), j1, some (.int s0)] [] (Hp S7) (QI Q)
    refine wp_st (pc' := 88) (L' := [some (.ref 12), j1, some (.int s0)]) (st' := [.int 1]) (h' := Hp S7) 1 (fun Z => rfl) ?_
    exact wp_ret (fun Z => rfl) ⟨_, _, rfl, rfl, hw⟩
set_option maxRecDepth 4000 in
theorem w_Reader_valueOfPerson {E : zX} {d : Nat} {S : St}  {Q : Int32 → St → Prop} (hd : 1 ≤ d) 
    (hw : k_Reader_isWord E (d - 1) S 15 (fun x1 S2 =>
    if x1 = 0 then (
      k_Reader_isWord E (d - 1) S2 17 (fun x3 S4 =>
      if x3 = 0 then (
        k_Reader_isWord E (d - 1) S4 19 (fun x5 S6 =>
        if x5 = 0 then (
          k_Reader_isWord E (d - 1) S6 21 (fun x7 S8 =>
          if x7 = 0 then (
            k_Reader_isWord E (d - 1) S8 23 (fun x9 S10 =>
            if x9 = 0 then (
              Q ((-1) : Int32) S10)
            else (
              Q (4 : Int32) S10)))
          else (
            Q (3 : Int32) S8)))
        else (
          Q (2 : Int32) S6)))
      else (
        Q (1 : Int32) S4)))
    else (
      Q (0 : Int32) S2))) :
    k_Reader_valueOfPerson E d S Q := by
  obtain ⟨d, rfl⟩ := Nat.exists_eq_add_of_le' hd
  show wp E (d + 1) m_Reader_valueOfPerson 0 [some (.ref 12)] [] (Hp S) (QI Q)
  refine wp_st (pc' := 3) (L' := [some (.ref 12)]) (st' := [.float 15, .ref 12]) (h' := Hp S) 2 (fun Z => rfl) ?_
  refine wp_call (pc' := 6) (rest := []) (fun Z => rfl) (isO_of sh12) hw ?_
  rintro o h1 ⟨x1, S2, rfl, rfl, hw⟩
  refine ⟨_, rfl, ?_⟩
  show wp E (d + 1) m_Reader_valueOfPerson 6 [some (.ref 12)] [.int x1] (Hp S2) (QI Q)
  by_cases hc : x1 = 0
  · rw [if_pos hc] at hw
    refine wp_st (pc' := 11) (L' := [some (.ref 12)]) (st' := []) (h' := Hp S2) 1 (fun Z => if_pos hc) ?_
    refine wp_st (pc' := 14) (L' := [some (.ref 12)]) (st' := [.float 17, .ref 12]) (h' := Hp S2) 2 (fun Z => rfl) ?_
    refine wp_call (pc' := 17) (rest := []) (fun Z => rfl) (isO_of sh12) hw ?_
    rintro o h1 ⟨x3, S4, rfl, rfl, hw⟩
    refine ⟨_, rfl, ?_⟩
    show wp E (d + 1) m_Reader_valueOfPerson 17 [some (.ref 12)] [.int x3] (Hp S4) (QI Q)
    by_cases hc : x3 = 0
    · rw [if_pos hc] at hw
      refine wp_st (pc' := 22) (L' := [some (.ref 12)]) (st' := []) (h' := Hp S4) 1 (fun Z => if_pos hc) ?_
      refine wp_st (pc' := 25) (L' := [some (.ref 12)]) (st' := [.float 19, .ref 12]) (h' := Hp S4) 2 (fun Z => rfl) ?_
      refine wp_call (pc' := 28) (rest := []) (fun Z => rfl) (isO_of sh12) hw ?_
      rintro o h1 ⟨x5, S6, rfl, rfl, hw⟩
      refine ⟨_, rfl, ?_⟩
      show wp E (d + 1) m_Reader_valueOfPerson 28 [some (.ref 12)] [.int x5] (Hp S6) (QI Q)
      by_cases hc : x5 = 0
      · rw [if_pos hc] at hw
        refine wp_st (pc' := 33) (L' := [some (.ref 12)]) (st' := []) (h' := Hp S6) 1 (fun Z => if_pos hc) ?_
        refine wp_st (pc' := 36) (L' := [some (.ref 12)]) (st' := [.float 21, .ref 12]) (h' := Hp S6) 2 (fun Z => rfl) ?_
        refine wp_call (pc' := 39) (rest := []) (fun Z => rfl) (isO_of sh12) hw ?_
        rintro o h1 ⟨x7, S8, rfl, rfl, hw⟩
        refine ⟨_, rfl, ?_⟩
        show wp E (d + 1) m_Reader_valueOfPerson 39 [some (.ref 12)] [.int x7] (Hp S8) (QI Q)
        by_cases hc : x7 = 0
        · rw [if_pos hc] at hw
          refine wp_st (pc' := 44) (L' := [some (.ref 12)]) (st' := []) (h' := Hp S8) 1 (fun Z => if_pos hc) ?_
          refine wp_st (pc' := 47) (L' := [some (.ref 12)]) (st' := [.float 23, .ref 12]) (h' := Hp S8) 2 (fun Z => rfl) ?_
          refine wp_call (pc' := 50) (rest := []) (fun Z => rfl) (isO_of sh12) hw ?_
          rintro o h1 ⟨x9, S10, rfl, rfl, hw⟩
          refine ⟨_, rfl, ?_⟩
          show wp E (d + 1) m_Reader_valueOfPerson 50 [some (.ref 12)] [.int x9] (Hp S10) (QI Q)
          by_cases hc : x9 = 0
          · rw [if_pos hc] at hw
            refine wp_st (pc' := 57) (L' := [some (.ref 12)]) (st' := []) (h' := Hp S10) 1 (fun Z => if_pos hc) ?_
            refine wp_st (pc' := 58) (L' := [some (.ref 12)]) (st' := [.int (-1)]) (h' := Hp S10) 1 (fun Z => congrArg (fun v => Z (d + 1) m_Reader_valueOfPerson 58 [some (.ref 12)] [.int v] (Hp S10)) (show Int32.ofInt (-1) = (-1) by decide)) ?_
            exact wp_ret (fun Z => rfl) ⟨_, _, rfl, rfl, hw⟩
          · rw [if_neg hc] at hw
            refine wp_st (pc' := 53) (L' := [some (.ref 12)]) (st' := []) (h' := Hp S10) 1 (fun Z => if_neg hc) ?_
            refine wp_st (pc' := 58) (L' := [some (.ref 12)]) (st' := [.int 4]) (h' := Hp S10) 2 (fun Z => rfl) ?_
            exact wp_ret (fun Z => rfl) ⟨_, _, rfl, rfl, hw⟩
        · rw [if_neg hc] at hw
          refine wp_st (pc' := 42) (L' := [some (.ref 12)]) (st' := []) (h' := Hp S8) 1 (fun Z => if_neg hc) ?_
          refine wp_st (pc' := 43) (L' := [some (.ref 12)]) (st' := [.int 3]) (h' := Hp S8) 1 (fun Z => rfl) ?_
          exact wp_ret (fun Z => rfl) ⟨_, _, rfl, rfl, hw⟩
      · rw [if_neg hc] at hw
        refine wp_st (pc' := 31) (L' := [some (.ref 12)]) (st' := []) (h' := Hp S6) 1 (fun Z => if_neg hc) ?_
        refine wp_st (pc' := 32) (L' := [some (.ref 12)]) (st' := [.int 2]) (h' := Hp S6) 1 (fun Z => rfl) ?_
        exact wp_ret (fun Z => rfl) ⟨_, _, rfl, rfl, hw⟩
    · rw [if_neg hc] at hw
      refine wp_st (pc' := 20) (L' := [some (.ref 12)]) (st' := []) (h' := Hp S4) 1 (fun Z => if_neg hc) ?_
      refine wp_st (pc' := 21) (L' := [some (.ref 12)]) (st' := [.int 1]) (h' := Hp S4) 1 (fun Z => rfl) ?_
      exact wp_ret (fun Z => rfl) ⟨_, _, rfl, rfl, hw⟩
  · rw [if_neg hc] at hw
    refine wp_st (pc' := 9) (L' := [some (.ref 12)]) (st' := []) (h' := Hp S2) 1 (fun Z => if_neg hc) ?_
    refine wp_st (pc' := 10) (L' := [some (.ref 12)]) (st' := [.int 0]) (h' := Hp S2) 1 (fun Z => rfl) ?_
    exact wp_ret (fun Z => rfl) ⟨_, _, rfl, rfl, hw⟩
set_option maxRecDepth 4000 in
theorem w_Reader_valueOfBall {E : zX} {d : Nat} {S : St}  {Q : Int32 → St → Prop} (hd : 1 ≤ d) 
    (hw : k_Reader_isWord E (d - 1) S 9 (fun x1 S2 =>
    if x1 = 0 then (
      k_Reader_isWord E (d - 1) S2 25 (fun x3 S4 =>
      if x3 = 0 then (
        k_Reader_isWord E (d - 1) S4 27 (fun x5 S6 =>
        if x5 = 0 then (
          k_Reader_isWord E (d - 1) S6 29 (fun x7 S8 =>
          if x7 = 0 then (
            k_Reader_isWord E (d - 1) S8 23 (fun x9 S10 =>
            if x9 = 0 then (
              Q ((-1) : Int32) S10)
            else (
              Q (4 : Int32) S10)))
          else (
            Q (3 : Int32) S8)))
        else (
          Q (2 : Int32) S6)))
      else (
        Q (1 : Int32) S4)))
    else (
      Q (0 : Int32) S2))) :
    k_Reader_valueOfBall E d S Q := by
  obtain ⟨d, rfl⟩ := Nat.exists_eq_add_of_le' hd
  show wp E (d + 1) m_Reader_valueOfBall 0 [some (.ref 12)] [] (Hp S) (QI Q)
  refine wp_st (pc' := 3) (L' := [some (.ref 12)]) (st' := [.float 9, .ref 12]) (h' := Hp S) 2 (fun Z => rfl) ?_
  refine wp_call (pc' := 6) (rest := []) (fun Z => rfl) (isO_of sh12) hw ?_
  rintro o h1 ⟨x1, S2, rfl, rfl, hw⟩
  refine ⟨_, rfl, ?_⟩
  show wp E (d + 1) m_Reader_valueOfBall 6 [some (.ref 12)] [.int x1] (Hp S2) (QI Q)
  by_cases hc : x1 = 0
  · rw [if_pos hc] at hw
    refine wp_st (pc' := 11) (L' := [some (.ref 12)]) (st' := []) (h' := Hp S2) 1 (fun Z => if_pos hc) ?_
    refine wp_st (pc' := 14) (L' := [some (.ref 12)]) (st' := [.float 25, .ref 12]) (h' := Hp S2) 2 (fun Z => rfl) ?_
    refine wp_call (pc' := 17) (rest := []) (fun Z => rfl) (isO_of sh12) hw ?_
    rintro o h1 ⟨x3, S4, rfl, rfl, hw⟩
    refine ⟨_, rfl, ?_⟩
    show wp E (d + 1) m_Reader_valueOfBall 17 [some (.ref 12)] [.int x3] (Hp S4) (QI Q)
    by_cases hc : x3 = 0
    · rw [if_pos hc] at hw
      refine wp_st (pc' := 22) (L' := [some (.ref 12)]) (st' := []) (h' := Hp S4) 1 (fun Z => if_pos hc) ?_
      refine wp_st (pc' := 25) (L' := [some (.ref 12)]) (st' := [.float 27, .ref 12]) (h' := Hp S4) 2 (fun Z => rfl) ?_
      refine wp_call (pc' := 28) (rest := []) (fun Z => rfl) (isO_of sh12) hw ?_
      rintro o h1 ⟨x5, S6, rfl, rfl, hw⟩
      refine ⟨_, rfl, ?_⟩
      show wp E (d + 1) m_Reader_valueOfBall 28 [some (.ref 12)] [.int x5] (Hp S6) (QI Q)
      by_cases hc : x5 = 0
      · rw [if_pos hc] at hw
        refine wp_st (pc' := 33) (L' := [some (.ref 12)]) (st' := []) (h' := Hp S6) 1 (fun Z => if_pos hc) ?_
        refine wp_st (pc' := 36) (L' := [some (.ref 12)]) (st' := [.float 29, .ref 12]) (h' := Hp S6) 2 (fun Z => rfl) ?_
        refine wp_call (pc' := 39) (rest := []) (fun Z => rfl) (isO_of sh12) hw ?_
        rintro o h1 ⟨x7, S8, rfl, rfl, hw⟩
        refine ⟨_, rfl, ?_⟩
        show wp E (d + 1) m_Reader_valueOfBall 39 [some (.ref 12)] [.int x7] (Hp S8) (QI Q)
        by_cases hc : x7 = 0
        · rw [if_pos hc] at hw
          refine wp_st (pc' := 44) (L' := [some (.ref 12)]) (st' := []) (h' := Hp S8) 1 (fun Z => if_pos hc) ?_
          refine wp_st (pc' := 47) (L' := [some (.ref 12)]) (st' := [.float 23, .ref 12]) (h' := Hp S8) 2 (fun Z => rfl) ?_
          refine wp_call (pc' := 50) (rest := []) (fun Z => rfl) (isO_of sh12) hw ?_
          rintro o h1 ⟨x9, S10, rfl, rfl, hw⟩
          refine ⟨_, rfl, ?_⟩
          show wp E (d + 1) m_Reader_valueOfBall 50 [some (.ref 12)] [.int x9] (Hp S10) (QI Q)
          by_cases hc : x9 = 0
          · rw [if_pos hc] at hw
            refine wp_st (pc' := 57) (L' := [some (.ref 12)]) (st' := []) (h' := Hp S10) 1 (fun Z => if_pos hc) ?_
            refine wp_st (pc' := 58) (L' := [some (.ref 12)]) (st' := [.int (-1)]) (h' := Hp S10) 1 (fun Z => congrArg (fun v => Z (d + 1) m_Reader_valueOfBall 58 [some (.ref 12)] [.int v] (Hp S10)) (show Int32.ofInt (-1) = (-1) by decide)) ?_
            exact wp_ret (fun Z => rfl) ⟨_, _, rfl, rfl, hw⟩
          · rw [if_neg hc] at hw
            refine wp_st (pc' := 53) (L' := [some (.ref 12)]) (st' := []) (h' := Hp S10) 1 (fun Z => if_neg hc) ?_
            refine wp_st (pc' := 58) (L' := [some (.ref 12)]) (st' := [.int 4]) (h' := Hp S10) 2 (fun Z => rfl) ?_
            exact wp_ret (fun Z => rfl) ⟨_, _, rfl, rfl, hw⟩
        · rw [if_neg hc] at hw
          refine wp_st (pc' := 42) (L' := [some (.ref 12)]) (st' := []) (h' := Hp S8) 1 (fun Z => if_neg hc) ?_
          refine wp_st (pc' := 43) (L' := [some (.ref 12)]) (st' := [.int 3]) (h' := Hp S8) 1 (fun Z => rfl) ?_
          exact wp_ret (fun Z => rfl) ⟨_, _, rfl, rfl, hw⟩
      · rw [if_neg hc] at hw
        refine wp_st (pc' := 31) (L' := [some (.ref 12)]) (st' := []) (h' := Hp S6) 1 (fun Z => if_neg hc) ?_
        refine wp_st (pc' := 32) (L' := [some (.ref 12)]) (st' := [.int 2]) (h' := Hp S6) 1 (fun Z => rfl) ?_
        exact wp_ret (fun Z => rfl) ⟨_, _, rfl, rfl, hw⟩
    · rw [if_neg hc] at hw
      refine wp_st (pc' := 20) (L' := [some (.ref 12)]) (st' := []) (h' := Hp S4) 1 (fun Z => if_neg hc) ?_
      refine wp_st (pc' := 21) (L' := [some (.ref 12)]) (st' := [.int 1]) (h' := Hp S4) 1 (fun Z => rfl) ?_
      exact wp_ret (fun Z => rfl) ⟨_, _, rfl, rfl, hw⟩
  · rw [if_neg hc] at hw
    refine wp_st (pc' := 9) (L' := [some (.ref 12)]) (st' := []) (h' := Hp S2) 1 (fun Z => if_neg hc) ?_
    refine wp_st (pc' := 10) (L' := [some (.ref 12)]) (st' := [.int 0]) (h' := Hp S2) 1 (fun Z => rfl) ?_
    exact wp_ret (fun Z => rfl) ⟨_, _, rfl, rfl, hw⟩
set_option maxRecDepth 4000 in
theorem w_Integer_bitCount {E : zX} {d : Nat} {S : St} {a0 : Int32} {Q : Int32 → St → Prop} 
    (hw : Q ((((((((a0 - ((zushr a0 1) &&& (1431655765 : Int32))) &&& (858993459 : Int32)) + ((zushr (a0 - ((zushr a0 1) &&& (1431655765 : Int32))) 2) &&& (858993459 : Int32))) + (zushr (((a0 - ((zushr a0 1) &&& (1431655765 : Int32))) &&& (858993459 : Int32)) + ((zushr (a0 - ((zushr a0 1) &&& (1431655765 : Int32))) 2) &&& (858993459 : Int32))) 4)) &&& (252645135 : Int32)) + (zushr (((((a0 - ((zushr a0 1) &&& (1431655765 : Int32))) &&& (858993459 : Int32)) + ((zushr (a0 - ((zushr a0 1) &&& (1431655765 : Int32))) 2) &&& (858993459 : Int32))) + (zushr (((a0 - ((zushr a0 1) &&& (1431655765 : Int32))) &&& (858993459 : Int32)) + ((zushr (a0 - ((zushr a0 1) &&& (1431655765 : Int32))) 2) &&& (858993459 : Int32))) 4)) &&& (252645135 : Int32)) 8)) + (zushr ((((((a0 - ((zushr a0 1) &&& (1431655765 : Int32))) &&& (858993459 : Int32)) + ((zushr (a0 - ((zushr a0 1) &&& (1431655765 : Int32))) 2) &&& (858993459 : Int32))) + (zushr (((a0 - ((zushr a0 1) &&& (1431655765 : Int32))) &&& (858993459 : Int32)) + ((zushr (a0 - ((zushr a0 1) &&& (1431655765 : Int32))) 2) &&& (858993459 : Int32))) 4)) &&& (252645135 : Int32)) + (zushr (((((a0 - ((zushr a0 1) &&& (1431655765 : Int32))) &&& (858993459 : Int32)) + ((zushr (a0 - ((zushr a0 1) &&& (1431655765 : Int32))) 2) &&& (858993459 : Int32))) + (zushr (((a0 - ((zushr a0 1) &&& (1431655765 : Int32))) &&& (858993459 : Int32)) + ((zushr (a0 - ((zushr a0 1) &&& (1431655765 : Int32))) 2) &&& (858993459 : Int32))) 4)) &&& (252645135 : Int32)) 8)) 16)) &&& (63 : Int32)) S) :
    k_Integer_bitCount E d S a0 Q := by
  show wp E d m_Integer_bitCount 0 [some (.int a0)] [] (Hp S) (QI Q)
  refine wp_st (pc' := 52) (L' := [some (.int (((((((a0 - ((zushr a0 1) &&& (1431655765 : Int32))) &&& (858993459 : Int32)) + ((zushr (a0 - ((zushr a0 1) &&& (1431655765 : Int32))) 2) &&& (858993459 : Int32))) + (zushr (((a0 - ((zushr a0 1) &&& (1431655765 : Int32))) &&& (858993459 : Int32)) + ((zushr (a0 - ((zushr a0 1) &&& (1431655765 : Int32))) 2) &&& (858993459 : Int32))) 4)) &&& (252645135 : Int32)) + (zushr (((((a0 - ((zushr a0 1) &&& (1431655765 : Int32))) &&& (858993459 : Int32)) + ((zushr (a0 - ((zushr a0 1) &&& (1431655765 : Int32))) 2) &&& (858993459 : Int32))) + (zushr (((a0 - ((zushr a0 1) &&& (1431655765 : Int32))) &&& (858993459 : Int32)) + ((zushr (a0 - ((zushr a0 1) &&& (1431655765 : Int32))) 2) &&& (858993459 : Int32))) 4)) &&& (252645135 : Int32)) 8)) + (zushr ((((((a0 - ((zushr a0 1) &&& (1431655765 : Int32))) &&& (858993459 : Int32)) + ((zushr (a0 - ((zushr a0 1) &&& (1431655765 : Int32))) 2) &&& (858993459 : Int32))) + (zushr (((a0 - ((zushr a0 1) &&& (1431655765 : Int32))) &&& (858993459 : Int32)) + ((zushr (a0 - ((zushr a0 1) &&& (1431655765 : Int32))) 2) &&& (858993459 : Int32))) 4)) &&& (252645135 : Int32)) + (zushr (((((a0 - ((zushr a0 1) &&& (1431655765 : Int32))) &&& (858993459 : Int32)) + ((zushr (a0 - ((zushr a0 1) &&& (1431655765 : Int32))) 2) &&& (858993459 : Int32))) + (zushr (((a0 - ((zushr a0 1) &&& (1431655765 : Int32))) &&& (858993459 : Int32)) + ((zushr (a0 - ((zushr a0 1) &&& (1431655765 : Int32))) 2) &&& (858993459 : Int32))) 4)) &&& (252645135 : Int32)) 8)) 16)))]) (st' := [.int ((((((((a0 - ((zushr a0 1) &&& (1431655765 : Int32))) &&& (858993459 : Int32)) + ((zushr (a0 - ((zushr a0 1) &&& (1431655765 : Int32))) 2) &&& (858993459 : Int32))) + (zushr (((a0 - ((zushr a0 1) &&& (1431655765 : Int32))) &&& (858993459 : Int32)) + ((zushr (a0 - ((zushr a0 1) &&& (1431655765 : Int32))) 2) &&& (858993459 : Int32))) 4)) &&& (252645135 : Int32)) + (zushr (((((a0 - ((zushr a0 1) &&& (1431655765 : Int32))) &&& (858993459 : Int32)) + ((zushr (a0 - ((zushr a0 1) &&& (1431655765 : Int32))) 2) &&& (858993459 : Int32))) + (zushr (((a0 - ((zushr a0 1) &&& (1431655765 : Int32))) &&& (858993459 : Int32)) + ((zushr (a0 - ((zushr a0 1) &&& (1431655765 : Int32))) 2) &&& (858993459 : Int32))) 4)) &&& (252645135 : Int32)) 8)) + (zushr ((((((a0 - ((zushr a0 1) &&& (1431655765 : Int32))) &&& (858993459 : Int32)) + ((zushr (a0 - ((zushr a0 1) &&& (1431655765 : Int32))) 2) &&& (858993459 : Int32))) + (zushr (((a0 - ((zushr a0 1) &&& (1431655765 : Int32))) &&& (858993459 : Int32)) + ((zushr (a0 - ((zushr a0 1) &&& (1431655765 : Int32))) 2) &&& (858993459 : Int32))) 4)) &&& (252645135 : Int32)) + (zushr (((((a0 - ((zushr a0 1) &&& (1431655765 : Int32))) &&& (858993459 : Int32)) + ((zushr (a0 - ((zushr a0 1) &&& (1431655765 : Int32))) 2) &&& (858993459 : Int32))) + (zushr (((a0 - ((zushr a0 1) &&& (1431655765 : Int32))) &&& (858993459 : Int32)) + ((zushr (a0 - ((zushr a0 1) &&& (1431655765 : Int32))) 2) &&& (858993459 : Int32))) 4)) &&& (252645135 : Int32)) 8)) 16)) &&& (63 : Int32))]) (h' := Hp S) 41 (fun Z => rfl) ?_
  exact wp_ret (fun Z => rfl) ⟨_, _, rfl, rfl, hw⟩
set_option maxRecDepth 4000 in
theorem w_String_indexOf_I {E : zX} {d : Nat} {S : St} {a0 : UInt32} {a1 : Int32} {Q : Int32 → St → Prop} (hd : 1 ≤ d) 
    (hw : isT E a0 = true ∧
    k_String_indexOf_II E (d - 1) S a0 a1 0 (fun x1 S2 =>
    Q x1 S2)) :
    k_String_indexOf_I E d S a0 a1 Q := by
  obtain ⟨d, rfl⟩ := Nat.exists_eq_add_of_le' hd
  show wp E (d + 1) m_String_indexOf_I 0 [some (.float a0), some (.int a1)] [] (Hp S) (QI Q)
  refine wp_st (pc' := 3) (L' := [some (.float a0), some (.int a1)]) (st' := [.int 0, .int a1, .float a0]) (h' := Hp S) 3 (fun Z => rfl) ?_
  obtain ⟨hq, hw⟩ := hw
  refine wp_call (pc' := 6) (rest := []) (fun Z => rfl) hq hw ?_
  rintro o h1 ⟨x1, S2, rfl, rfl, hw⟩
  refine ⟨_, rfl, ?_⟩
  show wp E (d + 1) m_String_indexOf_I 6 [some (.float a0), some (.int a1)] [.int x1] (Hp S2) (QI Q)
  exact wp_ret (fun Z => rfl) ⟨_, _, rfl, rfl, hw⟩
set_option maxRecDepth 4000 in
theorem w_String_indexOf_II {E : zX} {d : Nat} {S : St} {a0 : UInt32} {a1 : Int32} {a2 : Int32} {Q : Int32 → St → Prop} (hd : 1 ≤ d) 
    (hw : isT E a0 = true ∧
    k_String_isLatin1 E (d - 1) S a0 (fun x1 S2 =>
    if x1 = 0 then (
      ∃ u3 : UInt32, txt E a0 = some u3 ∧
      isT E a0 = true ∧
      k_String_length E (d - 1) S2 a0 (fun x4 S5 =>
      False))
    else (
      ∃ u6 : UInt32, txt E a0 = some u6 ∧
      isT E a0 = true ∧
      k_String_length E (d - 1) S2 a0 (fun x7 S8 =>
      k_StringLatin1_indexOf E (d - 1) S8 u6 a1 a2 x7 (fun x9 S10 =>
      Q x9 S10))))) :
    k_String_indexOf_II E d S a0 a1 a2 Q := by
  obtain ⟨d, rfl⟩ := Nat.exists_eq_add_of_le' hd
  show wp E (d + 1) m_String_indexOf_II 0 [some (.float a0), some (.int a1), some (.int a2)] [] (Hp S) (QI Q)
  refine wp_st (pc' := 1) (L' := [some (.float a0), some (.int a1), some (.int a2)]) (st' := [.float a0]) (h' := Hp S) 1 (fun Z => rfl) ?_
  obtain ⟨hq, hw⟩ := hw
  refine wp_call (pc' := 4) (rest := []) (fun Z => rfl) hq hw ?_
  rintro o h1 ⟨x1, S2, rfl, rfl, hw⟩
  refine ⟨_, rfl, ?_⟩
  show wp E (d + 1) m_String_indexOf_II 4 [some (.float a0), some (.int a1), some (.int a2)] [.int x1] (Hp S2) (QI Q)
  by_cases hc : x1 = 0
  · rw [if_pos hc] at hw
    refine wp_st (pc' := 23) (L' := [some (.float a0), some (.int a1), some (.int a2)]) (st' := []) (h' := Hp S2) 1 (fun Z => if_pos hc) ?_
    refine wp_st (pc' := 24) (L' := [some (.float a0), some (.int a1), some (.int a2)]) (st' := [.float a0]) (h' := Hp S2) 1 (fun Z => rfl) ?_
    obtain ⟨u3, e, hw⟩ := hw
    refine wp_st (pc' := 27) (L' := [some (.float a0), some (.int a1), some (.int a2)]) (st' := [.float u3]) (h' := Hp S2) 1 (fun Z => (show zgf E (Hp S2) (.float a0) 100 0 (fun w => Z (d + 1) m_String_indexOf_II 27 [some (.float a0), some (.int a1), some (.int a2)] (w :: []) (Hp S2)) = _ from txtV_eq (E := E) e _)) ?_
    refine wp_st (pc' := 30) (L' := [some (.float a0), some (.int a1), some (.int a2)]) (st' := [.float a0, .int a2, .int a1, .float u3]) (h' := Hp S2) 3 (fun Z => rfl) ?_
    obtain ⟨hq, hw⟩ := hw
    refine wp_call (pc' := 33) (rest := [.int a2, .int a1, .float u3]) (fun Z => rfl) hq hw ?_
    rintro o h1 ⟨x4, S5, rfl, rfl, hw⟩
    refine ⟨_, rfl, ?_⟩
    show wp E (d + 1) m_String_indexOf_II 33 [some (.float a0), some (.int a1), some (.int a2)] [.int x4, .int a2, .int a1, .float u3] (Hp S5) (QI Q)
    exact hw.elim
  · rw [if_neg hc] at hw
    refine wp_st (pc' := 7) (L' := [some (.float a0), some (.int a1), some (.int a2)]) (st' := []) (h' := Hp S2) 1 (fun Z => if_neg hc) ?_
    refine wp_st (pc' := 8) (L' := [some (.float a0), some (.int a1), some (.int a2)]) (st' := [.float a0]) (h' := Hp S2) 1 (fun Z => rfl) ?_
    obtain ⟨u6, e, hw⟩ := hw
    refine wp_st (pc' := 11) (L' := [some (.float a0), some (.int a1), some (.int a2)]) (st' := [.float u6]) (h' := Hp S2) 1 (fun Z => (show zgf E (Hp S2) (.float a0) 100 0 (fun w => Z (d + 1) m_String_indexOf_II 11 [some (.float a0), some (.int a1), some (.int a2)] (w :: []) (Hp S2)) = _ from txtV_eq (E := E) e _)) ?_
    refine wp_st (pc' := 14) (L' := [some (.float a0), some (.int a1), some (.int a2)]) (st' := [.float a0, .int a2, .int a1, .float u6]) (h' := Hp S2) 3 (fun Z => rfl) ?_
    obtain ⟨hq, hw⟩ := hw
    refine wp_call (pc' := 17) (rest := [.int a2, .int a1, .float u6]) (fun Z => rfl) hq hw ?_
    rintro o h1 ⟨x7, S8, rfl, rfl, hw⟩
    refine ⟨_, rfl, ?_⟩
    show wp E (d + 1) m_String_indexOf_II 17 [some (.float a0), some (.int a1), some (.int a2)] [.int x7, .int a2, .int a1, .float u6] (Hp S8) (QI Q)
    refine wp_call (pc' := 20) (rest := []) (fun Z => rfl) rfl hw ?_
    rintro o h1 ⟨x9, S10, rfl, rfl, hw⟩
    refine ⟨_, rfl, ?_⟩
    show wp E (d + 1) m_String_indexOf_II 20 [some (.float a0), some (.int a1), some (.int a2)] [.int x9] (Hp S10) (QI Q)
    refine wp_st (pc' := 36) (L' := [some (.float a0), some (.int a1), some (.int a2)]) (st' := [.int x9]) (h' := Hp S10) 1 (fun Z => rfl) ?_
    exact wp_ret (fun Z => rfl) ⟨_, _, rfl, rfl, hw⟩
set_option maxRecDepth 4000 in
theorem w_String_isLatin1 {E : zX} {d : Nat} {S : St} {a0 : UInt32} {Q : Int32 → St → Prop} 
    (hw : isT E a0 = true ∧
    Q (1 : Int32) S) :
    k_String_isLatin1 E d S a0 Q := by
  show wp E d m_String_isLatin1 0 [some (.float a0)] [] (Hp S) (QI Q)
  refine wp_st (pc' := 3) (L' := [some (.float a0)]) (st' := [.int 1]) (h' := Hp S) 1 (fun Z => rfl) ?_
  refine wp_st (pc' := 6) (L' := [some (.float a0)]) (st' := []) (h' := Hp S) 1 (fun Z => rfl) ?_
  refine wp_st (pc' := 7) (L' := [some (.float a0)]) (st' := [.float a0]) (h' := Hp S) 1 (fun Z => rfl) ?_
  obtain ⟨e, hw⟩ := hw
  refine wp_st (pc' := 10) (L' := [some (.float a0)]) (st' := [.int 0]) (h' := Hp S) 1 (fun Z => (show zgf E (Hp S) (.float a0) 100 1 (fun w => Z d m_String_isLatin1 10 [some (.float a0)] (w :: []) (Hp S)) = _ from txtC_eq (E := E) e _)) ?_
  refine wp_st (pc' := 13) (L' := [some (.float a0)]) (st' := []) (h' := Hp S) 1 (fun Z => rfl) ?_
  refine wp_st (pc' := 18) (L' := [some (.float a0)]) (st' := [.int 1]) (h' := Hp S) 2 (fun Z => rfl) ?_
  exact wp_ret (fun Z => rfl) ⟨_, _, rfl, rfl, hw⟩
set_option maxRecDepth 4000 in
theorem w_String_length {E : zX} {d : Nat} {S : St} {a0 : UInt32} {Q : Int32 → St → Prop} (hd : 1 ≤ d) 
    (hw : ∃ u1 : UInt32, txt E a0 = some u1 ∧
    ∃ (t4 : Nat) (n2 : Nat) (f3 : Nat → Int32), out E u1 = some (t4, n2, f3) ∧ (Nat.beq t4 0 || Nat.beq t4 3) = true ∧
    isT E a0 = true ∧
    k_String_coder E (d - 1) S a0 (fun x5 S6 =>
    Q ((Int32.ofNat n2) >>> (x5 &&& 31)) S6)) :
    k_String_length E d S a0 Q := by
  obtain ⟨d, rfl⟩ := Nat.exists_eq_add_of_le' hd
  show wp E (d + 1) m_String_length 0 [some (.float a0)] [] (Hp S) (QI Q)
  refine wp_st (pc' := 1) (L' := [some (.float a0)]) (st' := [.float a0]) (h' := Hp S) 1 (fun Z => rfl) ?_
  obtain ⟨u1, e, hw⟩ := hw
  refine wp_st (pc' := 4) (L' := [some (.float a0)]) (st' := [.float u1]) (h' := Hp S) 1 (fun Z => (show zgf E (Hp S) (.float a0) 100 0 (fun w => Z (d + 1) m_String_length 4 [some (.float a0)] (w :: []) (Hp S)) = _ from txtV_eq (E := E) e _)) ?_
  obtain ⟨t4, n2, f3, e, hz, hw⟩ := hw
  refine wp_st (pc' := 5) (L' := [some (.float a0)]) (st' := [.int (Int32.ofNat n2)]) (h' := Hp S) 1 (fun Z => outL_eq (E := E) (h := Hp S) e hz [] (fun st => Z (d + 1) m_String_length 5 [some (.float a0)] st (Hp S))) ?_
  refine wp_st (pc' := 6) (L' := [some (.float a0)]) (st' := [.float a0, .int (Int32.ofNat n2)]) (h' := Hp S) 1 (fun Z => rfl) ?_
  obtain ⟨hq, hw⟩ := hw
  refine wp_call (pc' := 9) (rest := [.int (Int32.ofNat n2)]) (fun Z => rfl) hq hw ?_
  rintro o h1 ⟨x5, S6, rfl, rfl, hw⟩
  refine ⟨_, rfl, ?_⟩
  show wp E (d + 1) m_String_length 9 [some (.float a0)] [.int x5, .int (Int32.ofNat n2)] (Hp S6) (QI Q)
  refine wp_st (pc' := 10) (L' := [some (.float a0)]) (st' := [.int ((Int32.ofNat n2) >>> (x5 &&& 31))]) (h' := Hp S6) 1 (fun Z => rfl) ?_
  exact wp_ret (fun Z => rfl) ⟨_, _, rfl, rfl, hw⟩
set_option maxRecDepth 4000 in
theorem w_String_coder {E : zX} {d : Nat} {S : St} {a0 : UInt32} {Q : Int32 → St → Prop} 
    (hw : isT E a0 = true ∧
    Q (0 : Int32) S) :
    k_String_coder E d S a0 Q := by
  show wp E d m_String_coder 0 [some (.float a0)] [] (Hp S) (QI Q)
  refine wp_st (pc' := 3) (L' := [some (.float a0)]) (st' := [.int 1]) (h' := Hp S) 1 (fun Z => rfl) ?_
  refine wp_st (pc' := 6) (L' := [some (.float a0)]) (st' := []) (h' := Hp S) 1 (fun Z => rfl) ?_
  refine wp_st (pc' := 7) (L' := [some (.float a0)]) (st' := [.float a0]) (h' := Hp S) 1 (fun Z => rfl) ?_
  obtain ⟨e, hw⟩ := hw
  refine wp_st (pc' := 10) (L' := [some (.float a0)]) (st' := [.int 0]) (h' := Hp S) 1 (fun Z => (show zgf E (Hp S) (.float a0) 100 1 (fun w => Z d m_String_coder 10 [some (.float a0)] (w :: []) (Hp S)) = _ from txtC_eq (E := E) e _)) ?_
  refine wp_st (pc' := 14) (L' := [some (.float a0)]) (st' := [.int 0]) (h' := Hp S) 1 (fun Z => rfl) ?_
  exact wp_ret (fun Z => rfl) ⟨_, _, rfl, rfl, hw⟩
set_option maxRecDepth 4000 in
theorem w_String_charAt {E : zX} {d : Nat} {S : St} {a0 : UInt32} {a1 : Int32} {Q : Int32 → St → Prop} (hd : 1 ≤ d) 
    (hw : isT E a0 = true ∧
    k_String_isLatin1 E (d - 1) S a0 (fun x1 S2 =>
    if x1 = 0 then (
      ∃ u3 : UInt32, txt E a0 = some u3 ∧
      False)
    else (
      ∃ u4 : UInt32, txt E a0 = some u4 ∧
      k_StringLatin1_charAt E (d - 1) S2 u4 a1 (fun x5 S6 =>
      zfr (some .char) x5 = true ∧ Q x5 S6)))) :
    k_String_charAt E d S a0 a1 Q := by
  obtain ⟨d, rfl⟩ := Nat.exists_eq_add_of_le' hd
  show wp E (d + 1) m_String_charAt 0 [some (.float a0), some (.int a1)] [] (Hp S) (QI Q)
  refine wp_st (pc' := 1) (L' := [some (.float a0), some (.int a1)]) (st' := [.float a0]) (h' := Hp S) 1 (fun Z => rfl) ?_
  obtain ⟨hq, hw⟩ := hw
  refine wp_call (pc' := 4) (rest := []) (fun Z => rfl) hq hw ?_
  rintro o h1 ⟨x1, S2, rfl, rfl, hw⟩
  refine ⟨_, rfl, ?_⟩
  show wp E (d + 1) m_String_charAt 4 [some (.float a0), some (.int a1)] [.int x1] (Hp S2) (QI Q)
  by_cases hc : x1 = 0
  · rw [if_pos hc] at hw
    refine wp_st (pc' := 16) (L' := [some (.float a0), some (.int a1)]) (st' := []) (h' := Hp S2) 1 (fun Z => if_pos hc) ?_
    refine wp_st (pc' := 17) (L' := [some (.float a0), some (.int a1)]) (st' := [.float a0]) (h' := Hp S2) 1 (fun Z => rfl) ?_
    obtain ⟨u3, e, hw⟩ := hw
    refine wp_st (pc' := 20) (L' := [some (.float a0), some (.int a1)]) (st' := [.float u3]) (h' := Hp S2) 1 (fun Z => (show zgf E (Hp S2) (.float a0) 100 0 (fun w => Z (d + 1) m_String_charAt 20 [some (.float a0), some (.int a1)] (w :: []) (Hp S2)) = _ from txtV_eq (E := E) e _)) ?_
    exact hw.elim
  · rw [if_neg hc] at hw
    refine wp_st (pc' := 7) (L' := [some (.float a0), some (.int a1)]) (st' := []) (h' := Hp S2) 1 (fun Z => if_neg hc) ?_
    refine wp_st (pc' := 8) (L' := [some (.float a0), some (.int a1)]) (st' := [.float a0]) (h' := Hp S2) 1 (fun Z => rfl) ?_
    obtain ⟨u4, e, hw⟩ := hw
    refine wp_st (pc' := 11) (L' := [some (.float a0), some (.int a1)]) (st' := [.float u4]) (h' := Hp S2) 1 (fun Z => (show zgf E (Hp S2) (.float a0) 100 0 (fun w => Z (d + 1) m_String_charAt 11 [some (.float a0), some (.int a1)] (w :: []) (Hp S2)) = _ from txtV_eq (E := E) e _)) ?_
    refine wp_st (pc' := 12) (L' := [some (.float a0), some (.int a1)]) (st' := [.int a1, .float u4]) (h' := Hp S2) 1 (fun Z => rfl) ?_
    refine wp_call (pc' := 15) (rest := []) (fun Z => rfl) rfl hw ?_
    rintro o h1 ⟨x5, S6, rfl, rfl, hw⟩
    refine ⟨_, rfl, ?_⟩
    show wp E (d + 1) m_String_charAt 15 [some (.float a0), some (.int a1)] [.int x5] (Hp S6) (QI Q)
    obtain ⟨hz, hw⟩ := hw
    refine wp_ret (h' := Hp S6) (o := .inl (some (.int x5))) (fun Z => ?_) ⟨_, _, rfl, rfl, hw⟩
    show (bif zfr _ _ then _ else none) = _
    rw [hz]
    rfl
set_option maxRecDepth 4000 in
theorem w_String_checkIndex {E : zX} {d : Nat} {S : St} {a0 : Int32} {a1 : Int32} {Q : St → Prop} (hd : 1 ≤ d) 
    (hw : k_Preconditions_checkIndex E (d - 1) S a0 a1 59 (fun x1 S2 =>
    Q S2)) :
    k_String_checkIndex E d S a0 a1 Q := by
  obtain ⟨d, rfl⟩ := Nat.exists_eq_add_of_le' hd
  show wp E (d + 1) m_String_checkIndex 0 [some (.int a0), some (.int a1)] [] (Hp S) (QV Q)
  refine wp_st (pc' := 5) (L' := [some (.int a0), some (.int a1)]) (st' := [.float 59, .int a1, .int a0]) (h' := Hp S) 3 (fun Z => rfl) ?_
  refine wp_call (pc' := 8) (rest := []) (fun Z => rfl) rfl hw ?_
  rintro o h1 ⟨x1, S2, rfl, rfl, hw⟩
  refine ⟨_, rfl, ?_⟩
  show wp E (d + 1) m_String_checkIndex 8 [some (.int a0), some (.int a1)] [.int x1] (Hp S2) (QV Q)
  refine wp_st (pc' := 9) (L' := [some (.int a0), some (.int a1)]) (st' := []) (h' := Hp S2) 1 (fun Z => rfl) ?_
  exact wp_ret (fun Z => rfl) ⟨_, rfl, rfl, hw⟩
set_option maxRecDepth 4000 in
theorem w_StringLatin1_indexOf {E : zX} {d : Nat} {S : St} {a0 : UInt32} {a1 : Int32} {a2 : Int32} {a3 : Int32} {Q : Int32 → St → Prop} (hd : 1 ≤ d) 
    (hw : k_StringLatin1_canEncode E (d - 1) S a1 (fun x1 S2 =>
    if x1 = 0 then (
      Q ((-1) : Int32) S2)
    else (
      ∃ (t5 : Nat) (n3 : Nat) (f4 : Nat → Int32), out E a0 = some (t5, n3, f4) ∧ (Nat.beq t5 0 || Nat.beq t5 3) = true ∧
      if (zmax a2 0) < (zmin a3 (Int32.ofNat n3)) then (
        k_StringLatin1_indexOfChar E (d - 1) S2 a0 a1 (zmax a2 0) (zmin a3 (Int32.ofNat n3)) (fun x6 S7 =>
        Q x6 S7))
      else (
        Q ((-1) : Int32) S2)))) :
    k_StringLatin1_indexOf E d S a0 a1 a2 a3 Q := by
  obtain ⟨d, rfl⟩ := Nat.exists_eq_add_of_le' hd
  show wp E (d + 1) m_StringLatin1_indexOf 0 [some (.float a0), some (.int a1), some (.int a2), some (.int a3)] [] (Hp S) (QI Q)
  refine wp_st (pc' := 1) (L' := [some (.float a0), some (.int a1), some (.int a2), some (.int a3)]) (st' := [.int a1]) (h' := Hp S) 1 (fun Z => rfl) ?_
  refine wp_call (pc' := 4) (rest := []) (fun Z => rfl) rfl hw ?_
  rintro o h1 ⟨x1, S2, rfl, rfl, hw⟩
  refine ⟨_, rfl, ?_⟩
  show wp E (d + 1) m_StringLatin1_indexOf 4 [some (.float a0), some (.int a1), some (.int a2), some (.int a3)] [.int x1] (Hp S2) (QI Q)
  by_cases hc : x1 = 0
  · rw [if_pos hc] at hw
    refine wp_st (pc' := 7) (L' := [some (.float a0), some (.int a1), some (.int a2), some (.int a3)]) (st' := []) (h' := Hp S2) 1 (fun Z => if_pos hc) ?_
    refine wp_st (pc' := 8) (L' := [some (.float a0), some (.int a1), some (.int a2), some (.int a3)]) (st' := [.int (-1)]) (h' := Hp S2) 1 (fun Z => congrArg (fun v => Z (d + 1) m_StringLatin1_indexOf 8 [some (.float a0), some (.int a1), some (.int a2), some (.int a3)] [.int v] (Hp S2)) (show Int32.ofInt (-1) = (-1) by decide)) ?_
    exact wp_ret (fun Z => rfl) ⟨_, _, rfl, rfl, hw⟩
  · rw [if_neg hc] at hw
    refine wp_st (pc' := 9) (L' := [some (.float a0), some (.int a1), some (.int a2), some (.int a3)]) (st' := []) (h' := Hp S2) 1 (fun Z => if_neg hc) ?_
    refine wp_st (pc' := 17) (L' := [some (.float a0), some (.int a1), some (.int (zmax a2 0)), some (.int a3)]) (st' := [.float a0, .int a3]) (h' := Hp S2) 6 (fun Z => rfl) ?_
    obtain ⟨t5, n3, f4, e, hz, hw⟩ := hw
    refine wp_st (pc' := 18) (L' := [some (.float a0), some (.int a1), some (.int (zmax a2 0)), some (.int a3)]) (st' := [.int (Int32.ofNat n3), .int a3]) (h' := Hp S2) 1 (fun Z => outL_eq (E := E) (h := Hp S2) e hz [.int a3] (fun st => Z (d + 1) m_StringLatin1_indexOf 18 [some (.float a0), some (.int a1), some (.int (zmax a2 0)), some (.int a3)] st (Hp S2))) ?_
    refine wp_st (pc' := 24) (L' := [some (.float a0), some (.int a1), some (.int (zmax a2 0)), some (.int (zmin a3 (Int32.ofNat n3)))]) (st' := [.int (zmin a3 (Int32.ofNat n3)), .int (zmax a2 0)]) (h' := Hp S2) 4 (fun Z => rfl) ?_
    by_cases hc : (zmax a2 0) < (zmin a3 (Int32.ofNat n3))
    · rw [if_pos hc] at hw
      refine wp_st (pc' := 29) (L' := [some (.float a0), some (.int a1), some (.int (zmax a2 0)), some (.int (zmin a3 (Int32.ofNat n3)))]) (st' := []) (h' := Hp S2) 1 (fun Z => if_pos hc) ?_
      refine wp_st (pc' := 33) (L' := [some (.float a0), some (.int a1), some (.int (zmax a2 0)), some (.int (zmin a3 (Int32.ofNat n3)))]) (st' := [.int (zmin a3 (Int32.ofNat n3)), .int (zmax a2 0), .int a1, .float a0]) (h' := Hp S2) 4 (fun Z => rfl) ?_
      refine wp_call (pc' := 36) (rest := []) (fun Z => rfl) rfl hw ?_
      rintro o h1 ⟨x6, S7, rfl, rfl, hw⟩
      refine ⟨_, rfl, ?_⟩
      show wp E (d + 1) m_StringLatin1_indexOf 36 [some (.float a0), some (.int a1), some (.int (zmax a2 0)), some (.int (zmin a3 (Int32.ofNat n3)))] [.int x6] (Hp S7) (QI Q)
      exact wp_ret (fun Z => rfl) ⟨_, _, rfl, rfl, hw⟩
    · rw [if_neg hc] at hw
      refine wp_st (pc' := 27) (L' := [some (.float a0), some (.int a1), some (.int (zmax a2 0)), some (.int (zmin a3 (Int32.ofNat n3)))]) (st' := []) (h' := Hp S2) 1 (fun Z => if_neg hc) ?_
      refine wp_st (pc' := 28) (L' := [some (.float a0), some (.int a1), some (.int (zmax a2 0)), some (.int (zmin a3 (Int32.ofNat n3)))]) (st' := [.int (-1)]) (h' := Hp S2) 1 (fun Z => congrArg (fun v => Z (d + 1) m_StringLatin1_indexOf 28 [some (.float a0), some (.int a1), some (.int (zmax a2 0)), some (.int (zmin a3 (Int32.ofNat n3)))] [.int v] (Hp S2)) (show Int32.ofInt (-1) = (-1) by decide)) ?_
      exact wp_ret (fun Z => rfl) ⟨_, _, rfl, rfl, hw⟩
set_option maxRecDepth 4000 in
theorem w_StringLatin1_canEncode {E : zX} {d : Nat} {S : St} {a0 : Int32} {Q : Int32 → St → Prop} 
    (hw : if a0 < 0 then (
      Q (0 : Int32) S)
    else (
      if 255 < a0 then (
        Q (0 : Int32) S)
      else (
        Q (1 : Int32) S))) :
    k_StringLatin1_canEncode E d S a0 Q := by
  show wp E d m_StringLatin1_canEncode 0 [some (.int a0)] [] (Hp S) (QI Q)
  refine wp_st (pc' := 1) (L' := [some (.int a0)]) (st' := [.int a0]) (h' := Hp S) 1 (fun Z => rfl) ?_
  by_cases hc : a0 < 0
  · rw [if_pos hc] at hw
    refine wp_st (pc' := 15) (L' := [some (.int a0)]) (st' := []) (h' := Hp S) 1 (fun Z => if_pos hc) ?_
    refine wp_st (pc' := 16) (L' := [some (.int a0)]) (st' := [.int 0]) (h' := Hp S) 1 (fun Z => rfl) ?_
    exact wp_ret (fun Z => rfl) ⟨_, _, rfl, rfl, hw⟩
  · rw [if_neg hc] at hw
    refine wp_st (pc' := 4) (L' := [some (.int a0)]) (st' := []) (h' := Hp S) 1 (fun Z => if_neg hc) ?_
    refine wp_st (pc' := 8) (L' := [some (.int a0)]) (st' := [.int 255, .int a0]) (h' := Hp S) 2 (fun Z => rfl) ?_
    by_cases hc : 255 < a0
    · rw [if_pos hc] at hw
      refine wp_st (pc' := 15) (L' := [some (.int a0)]) (st' := []) (h' := Hp S) 1 (fun Z => if_pos hc) ?_
      refine wp_st (pc' := 16) (L' := [some (.int a0)]) (st' := [.int 0]) (h' := Hp S) 1 (fun Z => rfl) ?_
      exact wp_ret (fun Z => rfl) ⟨_, _, rfl, rfl, hw⟩
    · rw [if_neg hc] at hw
      refine wp_st (pc' := 11) (L' := [some (.int a0)]) (st' := []) (h' := Hp S) 1 (fun Z => if_neg hc) ?_
      refine wp_st (pc' := 16) (L' := [some (.int a0)]) (st' := [.int 1]) (h' := Hp S) 2 (fun Z => rfl) ?_
      exact wp_ret (fun Z => rfl) ⟨_, _, rfl, rfl, hw⟩
set_option maxRecDepth 4000 in
theorem w_StringLatin1_indexOfChar {E : zX} {d : Nat} {S : St} {a0 : UInt32} {a1 : Int32} {a2 : Int32} {a3 : Int32} {Q : Int32 → St → Prop} 
    (hw : k_StringLatin1_indexOfChar_7 E d S a0 a3 (zi2b a1) a2 Q) :
    k_StringLatin1_indexOfChar E d S a0 a1 a2 a3 Q := by
  show wp E d m_StringLatin1_indexOfChar 0 [some (.float a0), some (.int a1), some (.int a2), some (.int a3), none, none] [] (Hp S) (QI Q)
  exact wp_st 5 (fun Z => rfl) (show wp E d m_StringLatin1_indexOfChar 7 [some (.float a0), some (.int a1), some (.int a2), some (.int a3), some (.int (zi2b a1)), some (.int a2)] [] (Hp S) (QI Q) from (hw (some (.int a1)) (some (.int a2))))
set_option maxRecDepth 4000 in
theorem w_StringLatin1_indexOfChar_7 {E : zX} {d : Nat} {S : St} {a0 : UInt32} {a3 : Int32} {a4 : Int32} {a5 : Int32} {Q : Int32 → St → Prop} 
    (hw : if a3 ≤ a5 then (
      Q ((-1) : Int32) S)
    else (
      ∃ (n1 : Nat) (f2 : Nat → Int32), out E a0 = some (3, n1, f2) ∧ ix a5 n1 ∧
      if (f2 a5.toNatClampNeg) = a4 then (
        Q a5 S)
      else (
        k_StringLatin1_indexOfChar_7 E d S a0 a3 a4 (a5 + 1) Q))) :
    k_StringLatin1_indexOfChar_7 E d S a0 a3 a4 a5 Q := by
  intro j1 j2
  show wp E d m_StringLatin1_indexOfChar 7 [some (.float a0), j1, j2, some (.int a3), some (.int a4), some (.int a5)] [] (Hp S) (QI Q)
  refine wp_st (pc' := 10) (L' := [some (.float a0), j1, j2, some (.int a3), some (.int a4), some (.int a5)]) (st' := [.int a3, .int a5]) (h' := Hp S) 2 (fun Z => rfl) ?_
  by_cases hc : a3 ≤ a5
  · rw [if_pos hc] at hw
    refine wp_st (pc' := 31) (L' := [some (.float a0), j1, j2, some (.int a3), some (.int a4), some (.int a5)]) (st' := []) (h' := Hp S) 1 (fun Z => if_pos hc) ?_
    refine wp_st (pc' := 32) (L' := [some (.float a0), j1, j2, some (.int a3), some (.int a4), some (.int a5)]) (st' := [.int (-1)]) (h' := Hp S) 1 (fun Z => congrArg (fun v => Z d m_StringLatin1_indexOfChar 32 [some (.float a0), j1, j2, some (.int a3), some (.int a4), some (.int a5)] [.int v] (Hp S)) (show Int32.ofInt (-1) = (-1) by decide)) ?_
    exact wp_ret (fun Z => rfl) ⟨_, _, rfl, rfl, hw⟩
  · rw [if_neg hc] at hw
    refine wp_st (pc' := 13) (L' := [some (.float a0), j1, j2, some (.int a3), some (.int a4), some (.int a5)]) (st' := []) (h' := Hp S) 1 (fun Z => if_neg hc) ?_
    refine wp_st (pc' := 16) (L' := [some (.float a0), j1, j2, some (.int a3), some (.int a4), some (.int a5)]) (st' := [.int a5, .float a0]) (h' := Hp S) 2 (fun Z => rfl) ?_
    obtain ⟨n1, f2, e, hi, hw⟩ := hw
    refine wp_st (pc' := 17) (L' := [some (.float a0), j1, j2, some (.int a3), some (.int a4), some (.int a5)]) (st' := [.int (f2 a5.toNatClampNeg)]) (h' := Hp S) 1 (fun Z => outB_eq (E := E) (h := Hp S) e hi [] (fun st => Z d m_StringLatin1_indexOfChar 17 [some (.float a0), j1, j2, some (.int a3), some (.int a4), some (.int a5)] st (Hp S))) ?_
    refine wp_st (pc' := 19) (L' := [some (.float a0), j1, j2, some (.int a3), some (.int a4), some (.int a5)]) (st' := [.int a4, .int (f2 a5.toNatClampNeg)]) (h' := Hp S) 1 (fun Z => rfl) ?_
    by_cases hc : (f2 a5.toNatClampNeg) = a4
    · rw [if_pos hc] at hw
      refine wp_st (pc' := 22) (L' := [some (.float a0), j1, j2, some (.int a3), some (.int a4), some (.int a5)]) (st' := []) (h' := Hp S) 1 (fun Z => if_pos hc) ?_
      refine wp_st (pc' := 24) (L' := [some (.float a0), j1, j2, some (.int a3), some (.int a4), some (.int a5)]) (st' := [.int a5]) (h' := Hp S) 1 (fun Z => rfl) ?_
      exact wp_ret (fun Z => rfl) ⟨_, _, rfl, rfl, hw⟩
    · rw [if_neg hc] at hw
      refine wp_st (pc' := 25) (L' := [some (.float a0), j1, j2, some (.int a3), some (.int a4), some (.int a5)]) (st' := []) (h' := Hp S) 1 (fun Z => if_neg hc) ?_
      refine wp_st (pc' := 28) (L' := [some (.float a0), j1, j2, some (.int a3), some (.int a4), some (.int (a5 + 1))]) (st' := []) (h' := Hp S) 1 (fun Z => congrArg (fun v => Z d m_StringLatin1_indexOfChar 28 [some (.float a0), j1, j2, some (.int a3), some (.int a4), some (.int (a5 + v))] [] (Hp S)) (show Int32.ofInt (1) = (1) by decide)) ?_
      exact wp_st 1 (fun Z => rfl) (show wp E d m_StringLatin1_indexOfChar 7 [some (.float a0), j1, j2, some (.int a3), some (.int a4), some (.int (a5 + 1))] [] (Hp S) (QI Q) from (hw j1 j2))
set_option maxRecDepth 4000 in
theorem w_StringLatin1_charAt {E : zX} {d : Nat} {S : St} {a0 : UInt32} {a1 : Int32} {Q : Int32 → St → Prop} (hd : 1 ≤ d) 
    (hw : ∃ (t3 : Nat) (n1 : Nat) (f2 : Nat → Int32), out E a0 = some (t3, n1, f2) ∧ (Nat.beq t3 0 || Nat.beq t3 3) = true ∧
    k_String_checkIndex E (d - 1) S a1 (Int32.ofNat n1) (fun S5 =>
    ∃ (n6 : Nat) (f7 : Nat → Int32), out E a0 = some (3, n6, f7) ∧ ix a1 n6 ∧
    zfr (some .char) (zi2c ((f7 a1.toNatClampNeg) &&& (255 : Int32))) = true ∧ Q (zi2c ((f7 a1.toNatClampNeg) &&& (255 : Int32))) S5)) :
    k_StringLatin1_charAt E d S a0 a1 Q := by
  obtain ⟨d, rfl⟩ := Nat.exists_eq_add_of_le' hd
  show wp E (d + 1) m_StringLatin1_charAt 0 [some (.float a0), some (.int a1)] [] (Hp S) (QI Q)
  refine wp_st (pc' := 2) (L' := [some (.float a0), some (.int a1)]) (st' := [.float a0, .int a1]) (h' := Hp S) 2 (fun Z => rfl) ?_
  obtain ⟨t3, n1, f2, e, hz, hw⟩ := hw
  refine wp_st (pc' := 3) (L' := [some (.float a0), some (.int a1)]) (st' := [.int (Int32.ofNat n1), .int a1]) (h' := Hp S) 1 (fun Z => outL_eq (E := E) (h := Hp S) e hz [.int a1] (fun st => Z (d + 1) m_StringLatin1_charAt 3 [some (.float a0), some (.int a1)] st (Hp S))) ?_
  refine wp_call (pc' := 6) (rest := []) (fun Z => rfl) rfl hw ?_
  rintro o h1 ⟨S5, rfl, rfl, hw⟩
  refine ⟨_, rfl, ?_⟩
  show wp E (d + 1) m_StringLatin1_charAt 6 [some (.float a0), some (.int a1)] [] (Hp S5) (QI Q)
  refine wp_st (pc' := 8) (L' := [some (.float a0), some (.int a1)]) (st' := [.int a1, .float a0]) (h' := Hp S5) 2 (fun Z => rfl) ?_
  obtain ⟨n6, f7, e, hi, hw⟩ := hw
  refine wp_st (pc' := 9) (L' := [some (.float a0), some (.int a1)]) (st' := [.int (f7 a1.toNatClampNeg)]) (h' := Hp S5) 1 (fun Z => outB_eq (E := E) (h := Hp S5) e hi [] (fun st => Z (d + 1) m_StringLatin1_charAt 9 [some (.float a0), some (.int a1)] st (Hp S5))) ?_
  refine wp_st (pc' := 14) (L' := [some (.float a0), some (.int a1)]) (st' := [.int (zi2c ((f7 a1.toNatClampNeg) &&& (255 : Int32)))]) (h' := Hp S5) 3 (fun Z => rfl) ?_
  obtain ⟨hz, hw⟩ := hw
  refine wp_ret (h' := Hp S5) (o := .inl (some (.int (zi2c ((f7 a1.toNatClampNeg) &&& (255 : Int32)))))) (fun Z => ?_) ⟨_, _, rfl, rfl, hw⟩
  show (bif zfr _ _ then _ else none) = _
  rw [hz]
  rfl
set_option maxRecDepth 4000 in
theorem w_Preconditions_checkIndex {E : zX} {d : Nat} {S : St} {a0 : Int32} {a1 : Int32} {a2 : UInt32} {Q : Int32 → St → Prop} 
    (hw : if a0 < 0 then (
      False)
    else (
      if a0 < a1 then (
        Q a0 S)
      else (
        False))) :
    k_Preconditions_checkIndex E d S a0 a1 a2 Q := by
  show wp E d m_Preconditions_checkIndex 0 [some (.int a0), some (.int a1), some (.float a2)] [] (Hp S) (QI Q)
  refine wp_st (pc' := 1) (L' := [some (.int a0), some (.int a1), some (.float a2)]) (st' := [.int a0]) (h' := Hp S) 1 (fun Z => rfl) ?_
  by_cases hc : a0 < 0
  · rw [if_pos hc] at hw
    refine wp_st (pc' := 9) (L' := [some (.int a0), some (.int a1), some (.float a2)]) (st' := []) (h' := Hp S) 1 (fun Z => if_pos hc) ?_
    exact hw.elim
  · rw [if_neg hc] at hw
    refine wp_st (pc' := 4) (L' := [some (.int a0), some (.int a1), some (.float a2)]) (st' := []) (h' := Hp S) 1 (fun Z => if_neg hc) ?_
    refine wp_st (pc' := 6) (L' := [some (.int a0), some (.int a1), some (.float a2)]) (st' := [.int a1, .int a0]) (h' := Hp S) 2 (fun Z => rfl) ?_
    by_cases hc : a0 < a1
    · rw [if_pos hc] at hw
      refine wp_st (pc' := 16) (L' := [some (.int a0), some (.int a1), some (.float a2)]) (st' := []) (h' := Hp S) 1 (fun Z => if_pos hc) ?_
      refine wp_st (pc' := 17) (L' := [some (.int a0), some (.int a1), some (.float a2)]) (st' := [.int a0]) (h' := Hp S) 1 (fun Z => rfl) ?_
      exact wp_ret (fun Z => rfl) ⟨_, _, rfl, rfl, hw⟩
    · rw [if_neg hc] at hw
      refine wp_st (pc' := 9) (L' := [some (.int a0), some (.int a1), some (.float a2)]) (st' := []) (h' := Hp S) 1 (fun Z => if_neg hc) ?_
      exact hw.elim
