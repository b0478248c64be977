section LN2
variable {t : Txt} {S : St} {E : zX} {d : Nat} {p : Nat} {K : Kst}
theorem c_readBall (hd : 16 ≤ d) (hE : TE E) (hK : KOk K) : LnC t (fun p => pBal t K p) (fun S Q => k_Reader_readBall E d S Q) K := by
  intro S p Q hR h1 h0
  obtain ⟨hT, hL, hX, h3⟩ := hR
  have hlo := hK.1
  have b10 := hlo.b10
  have c1 : 1 ≤ lw K.1 * lh K.1 := Nat.mul_pos hlo.1 hlo.2.2.1
  have c36 := hlo.c36
  have eP : pBal t K p = if 10 ≤ lb K.1 then .inl (2, tf t p) else match rdC t (lw K.1 * lh K.1) (te t p) with
    | .inl g => .inl g
    | .inr a => match rdN t 1 99 a.1 with
      | .inl g => .inl g
      | .inr b => if isW t b.1 wHolds then (match rdN t 1 b.2 (te t b.1) with
          | .inl g => .inl g
          | .inr c => pEnd t c.1 (lBn K.1 b.2, uX (uX K.2 5 (lb K.1) a.2) 6 (lb K.1) c.2))
        else pEnd t b.1 (lBn K.1 b.2, uX K.2 5 (lb K.1) a.2) := rfl
  have h1 : ∀ (S' : St) (a : Nat × Kst), pBal t K p = .inr a → FrL S S' → S' 12 5 = S 12 5 → KC t S' a.1 a.2 → Q 1 S' := h1
  have h0 : ∀ (S' : St) (g : Nat × Nat), pBal t K p = .inl g → FrL S S' → S' 12 3 = nI g.1 → S' 12 2 = nI g.2 → Q 0 S' := h0
  refine w_Reader_readBall (by omega) ?_
  rw [hL.2.2.2.2.1]
  refine ife (fun e => ?_) (fun e => ?_)
  · have e : nI (lb K.1) < nI 10 := e
    rw [nI_ltI (by omega) (by omega)] at e
    rw [if_neg (by omega)] at eP
    refine c_nextG (by omega) hE hT (fun S2 f2 T2 => ?_)
    have L2 := KLC_12 hL f2.1
    refine c_readCell (by omega) hE T2 L2.2.2.1 c1 c36 (fun S4 c ec f4 v11 T4 => ?_) (fun S4 g eg f4 v3 v2 => ?_)
    · rw [ec] at eP
      simp only at eP
      rw [if_neg (by decide), v11]
      refine w_Scene_setCell sc22 ⟨by omega, fun S6 e6 => ?_⟩
      have T6 : TkC t S6 (te t (te t p)) := TkC_up T4 (by rw [e6, up_ne _ _ _ (by decide)]) (by rw [e6, up_ne _ _ _ (by decide)])
      refine c_readNumber (lo := 1) (hi := 99) (by omega) hE T6 (by omega) (by omega) (fun S8 z ez f8 w11 T8 => ?_) (fun S8 g eg f8 v3 v2 => ?_)
      · rw [ez] at eP
        simp only at eP
        have rz := rdN_r T6.2.1 ez
        have z99 : z ≤ 99 := rz.2.2.2
        rw [if_neg (by decide)]
        refine ⟨lb K.1, rfl, e, fun S9 e9 => ?_⟩
        have T9 : TkC t S9 (te t (te t (te t p))) := TkC_up T8 (by rw [e9, up_ne _ _ _ (by decide)]) (by rw [e9, up_ne _ _ _ (by decide)])
        -- all that changed until here
        have ch : ∀ k, k ≠ 12 → k ≠ 15 → k ≠ 23 → S9 k = S k := fun k a1 a3 a4 => by
          rw [e9, up_ne _ _ _ a3, f8.1 k (by rw [List.mem_singleton]; exact a1), e6, up_ne _ _ _ a4, f4.1 k (by rw [List.mem_singleton]; exact a1), f2.1 k (by rw [List.mem_singleton]; exact a1)]
        have c15 : ∀ i, i < lb K.1 + 1 → S9 15 i = nI (upN K.1.2.2.1 (lb K.1) z i) := fun i hi => by
          rw [e9, up_same]
          by_cases e : i = lb K.1
          · rw [e, upd_same, upN_s]
            exact w11
          · rw [upd_ne _ _ e, upN_n _ _ e, f8.1 15 (by decide), e6, up_ne _ _ _ (by decide), f4.1 15 (by decide), f2.1 15 (by decide)]
            exact hL.2.2.2.2.2.2.1 i (by omega)
        have x9 : KXC (uX K.2 5 (lb K.1) c) S9 := by
          have x4 : KXC K.2 S4 := KXC_fr hX (by rw [f4.1 23 (by decide), f2.1 23 (by decide)])
          have x6 : KXC (uX K.2 5 (lb K.1) c) S6 := by
            rw [e6]
            exact KXC_up (k := 5) x4 (by omega) e
          exact KXC_fr (KXC_12 x6 f8.1) (by rw [e9, up_ne _ _ _ (by decide)])
        have z3 : S9 12 3 = 0 ∧ S9 12 5 = S 12 5 := by
          rw [e9, up_ne _ _ _ (by decide), f8.2 3 (by decide), f8.2 5 (by decide), e6, up_ne _ _ _ (by decide), f4.2 3 (by decide), f4.2 5 (by decide), f2.2 3 (by decide), f2.2 5 (by decide)]
          exact ⟨h3, rfl⟩
        -- the end of the line
        have l115 : ∀ (S3 : St) (q : Nat) (X : Xst), (∀ k, k ≠ 12 → k ≠ 23 → S3 k = S9 k) → S3 12 3 = 0 → S3 12 5 = S 12 5 → TkC t S3 q → KXC X S3 → pBal t K p = pEnd t q (lBn K.1 z, X) → k_Reader_readBall_115 E d S3 Q := by
          intro S3 q X c3 a3 a5 T3 x3 eQ
          refine w_Reader_readBall_115 (by omega) (fun S5 e5 => ?_)
          have T5 : TkC t S5 q := TkC_up T3 (by rw [e5, up_ne _ _ _ (by decide)]) (by rw [e5, up_ne _ _ _ (by decide)])
          have k13 : S3 13 = S 13 := by rw [c3 13 (by decide) (by decide), ch 13 (by decide) (by decide) (by decide)]
          have c13 : ∀ i, i ≠ 4 → S5 13 i = S 13 i := fun i hi => by rw [e5, up_same, upd_ne _ _ hi, k13]
          have cl : KLC (lBn K.1 z) S5 := by
            obtain ⟨g0, g1, g2, g3, g4, g5, g6, g7, g8⟩ := hL
            have o : ∀ k, k ≠ 12 → k ≠ 13 → k ≠ 15 → k ≠ 23 → S5 k = S k := fun k a1 a2 a3 a4 => by rw [e5, up_ne _ _ _ a2, c3 k a1 a4, ch k a1 a3 a4]
            refine ⟨?_, ?_, ?_, ?_, ?_, ?_, ?_, ?_, ?_⟩
            · rw [c13 0 (by decide)]
              exact g0
            · rw [c13 1 (by decide)]
              exact g1
            · rw [c13 2 (by decide)]
              exact g2
            · rw [c13 3 (by decide)]
              exact g3
            · rw [e5, up_same, upd_same, k13, g4, nI_1]
              rfl
            · rw [o 14 (by decide) (by decide) (by decide) (by decide)]
              exact g5
            · rw [e5, up_ne _ _ _ (by decide), c3 15 (by decide) (by decide)]
              exact c15
            · rw [o 16 (by decide) (by decide) (by decide) (by decide), o 17 (by decide) (by decide) (by decide) (by decide)]
              exact g7
            · rw [o 18 (by decide) (by decide) (by decide) (by decide), o 19 (by decide) (by decide) (by decide) (by decide)]
              exact g8
          have cx : KXC X S5 := KXC_fr x3 (by rw [e5, up_ne _ _ _ (by decide)])
          have y3 : S5 12 3 = 0 ∧ S5 12 5 = S 12 5 := by
            rw [e5, up_ne _ _ _ (by decide)]
            exact ⟨a3, a5⟩
          have fl : FrL S S5 := fun k hk => by rw [e5, up_ne _ _ _ (by omega), c3 k (by omega) (by omega), ch k (by omega) (by omega) (by omega)]
          refine c_readSignG (by omega) hE T5 (c := 59) (by omega) (fun S7 es f7 T7 => ⟨Or.inr rfl, ?_⟩) (fun S7 g es f7 v3 v2 => ⟨Or.inl rfl, ?_⟩)
          · refine h1 S7 (te t q, (lBn K.1 z, X)) ?_ (fl.trans (FrL_12 f7.1)) (by rw [f7.2 5 (by decide)]; exact y3.2) ⟨T7, KLC_12 cl f7.1, KXC_12 cx f7.1, by rw [f7.2 3 (by decide)]; exact y3.1⟩
            rw [eQ]
            unfold pEnd
            rw [es]
          · refine h0 S7 g ?_ (fl.trans (FrL_12 f7)) v3 v2
            rw [eQ]
            unfold pEnd
            rw [es]
        refine c_isWord (k := 4) (by omega) hE T9 (by omega) rfl (izb (fun ew => ?_) (fun ew => ?_))
        · rw [if_pos (show isW t (te t (te t (te t p))) wHolds = true from ew)] at eP
          refine c_nextG (by omega) hE T9 (fun S14 f14 T14 => ⟨lb K.1, rfl, e, ?_⟩)
          have r15 : S14 15 (lb K.1) = nI z := by
            rw [f14.1 15 (by decide), c15 (lb K.1) (by omega), upN_s]
          rw [r15]
          refine c_readNumber (lo := 1) (hi := z) (by omega) hE T14 (by omega) (by omega) (fun S17 v ev f17 x11 T17 => ?_) (fun S17 g eg f17 v3 v2 => ?_)
          · rw [ev] at eP
            simp only at eP
            rw [if_neg (by decide), x11]
            refine w_Scene_fill sc22 ⟨by omega, fun S18 e18 => ⟨by omega, fun S19 e19 => ⟨by omega, fun S20 e20 => ?_⟩⟩⟩
            have k12 : S20 12 = S17 12 := by rw [e20, up_ne _ _ _ (by decide), e19, up_ne _ _ _ (by decide), e18, up_ne _ _ _ (by decide)]
            have c20 : ∀ k, k ≠ 12 → k ≠ 23 → S20 k = S9 k := fun k a1 a4 => by rw [e20, up_ne _ _ _ a4, e19, up_ne _ _ _ a4, e18, up_ne _ _ _ a4, f17.1 k (by rw [List.mem_singleton]; exact a1), f14.1 k (by rw [List.mem_singleton]; exact a1)]
            refine l115 S20 _ (uX (uX K.2 5 (lb K.1) c) 6 (lb K.1) v) c20 ?_ ?_ (TkC_up T17 k12 (by rw [c20 1 (by decide) (by decide), f17.1 1 (by decide), f14.1 1 (by decide)])) ?_ eP
            · rw [k12, f17.2 3 (by decide), f14.2 3 (by decide)]
              exact z3.1
            · rw [k12, f17.2 5 (by decide), f14.2 5 (by decide)]
              exact z3.2
            · have x17 : KXC (uX K.2 5 (lb K.1) c) S17 := KXC_12 (KXC_12 x9 f14.1) f17.1
              have x18 : KXC (uX (uX K.2 5 (lb K.1) c) 6 (lb K.1) v) S18 := by
                rw [e18]
                exact KXC_up (k := 6) x17 (by omega) e
              have a7 : S18 23 (40 + lb K.1) = 0 := x18.1 7 (lb K.1) (by decide) e
              have a8 : S18 23 (50 + lb K.1) = -1 := x18.1 8 (lb K.1) (by decide) e
              have u : S20 23 = S18 23 := by
                have q1 : upd (S18 23) (40 + lb K.1) 0 = S18 23 := by
                  have := upd_self (S18 23) (40 + lb K.1)
                  rw [a7] at this
                  exact this
                have q2 : upd (S18 23) (50 + lb K.1) (-1) = S18 23 := by
                  have := upd_self (S18 23) (50 + lb K.1)
                  rw [a8] at this
                  exact this
                rw [e20, up_same, e19, up_same, q1, q2]
              exact KXC_fr x18 u
          · rw [eg] at eP
            rw [if_pos rfl]
            refine h0 S17 g eP (fun k hk => ?_) v3 v2
            rw [f17 k (by rw [List.mem_singleton]; omega), f14.1 k (by rw [List.mem_singleton]; omega), ch k (by omega) (by omega) (by omega)]
        · rw [if_neg (show ¬ isW t (te t (te t (te t p))) wHolds = true from ew)] at eP
          exact l115 S9 _ _ (fun _ _ _ => rfl) z3.1 z3.2 T9 x9 eP
      · rw [eg] at eP
        rw [if_pos rfl]
        refine h0 S8 g eP (fun k hk => ?_) v3 v2
        rw [f8 k (by rw [List.mem_singleton]; omega), e6, up_ne _ _ _ (by omega), f4.1 k (by rw [List.mem_singleton]; omega), f2.1 k (by rw [List.mem_singleton]; omega)]
    · rw [eg] at eP
      rw [if_pos rfl]
      exact h0 S4 g eP ((FrL_12 f2.1).trans (FrL_12 f4)) v3 v2
  · have e : ¬ nI (lb K.1) < nI 10 := e
    rw [nI_ltI (by omega) (by omega)] at e
    rw [if_pos (by omega)] at eP
    exact c_failG (c := 2) hT (fun S' f v3 v2 => h0 S' _ eP (FrL_12 f) v3 v2)
/-- the rule that is read: 16 rises, 18 bursts -/
theorem c_readRule {pe : Bool} (hd : 76 ≤ d) (hE : TE E) (hK : KOk K) : LnC t (fun p => pRul t pe K p) (fun S Q => S 12 13 = zb (pe = true) → k_Reader_readRule E d S (if pe then 16 else 18) Q) K := by
  intro S p Q hR h1 h0 h13
  obtain ⟨hT, hL, hX, h3⟩ := hR
  have n7 := hT.1.1
  have eP : pRul t pe K p = if 0 < (if pe then lri K.1 else lbu K.1).1 then .inl (5, tf t p) else match pEx t pe 6 (te t p) with
    | .inl g => .inl g
    | .inr a => pEnd t a.1 (if pe then lRn K.1 a.2 else lUn K.1 a.2, K.2) := rfl
  have h1 : ∀ (S' : St) (a : Nat × Kst), pRul t pe K p = .inr a → FrL S S' → S' 12 5 = S 12 5 → KC t S' a.1 a.2 → Q 1 S' := h1
  have h0 : ∀ (S' : St) (g : Nat × Nat), pRul t pe K p = .inl g → FrL S S' → S' 12 3 = nI g.1 → S' 12 2 = nI g.2 → Q 0 S' := h0
  have hru : Ru (if pe then 16 else 18) := by
    cases pe
    · exact ru18
    · exact ru16
  have hru2 : (if pe then 16 else 18) = 16 ∨ (if pe then 16 else 18) = 18 := by
    cases pe
    · exact Or.inr rfl
    · exact Or.inl rfl
  have hlen : S (if pe then 16 else 18) 1 = nI (if pe then lri K.1 else lbu K.1).1 := by
    cases pe
    · exact hL.2.2.2.2.2.2.2.2.1
    · exact hL.2.2.2.2.2.2.2.1.1
  have l700 : (if pe then lri K.1 else lbu K.1).1 ≤ 700 := by
    cases pe
    · exact hK.1.2.2.2.2.2.2.2.2.2.2.2
    · exact hK.1.2.2.2.2.2.2.2.2.1.2.2
  refine w_Reader_readRule (by omega) hru (w_Rule_isTold hru ?_)
  rw [hlen]
  refine ife (fun e => ?_) (fun e => ?_)
  · have e : nI (if pe then lri K.1 else lbu K.1).1 ≤ nI 0 := e
    rw [nI_leI (by omega) (by omega)] at e
    rw [if_neg (by omega)] at eP
    rw [if_pos rfl]
    generalize hr : (if pe then 16 else 18) = ru at hru2 hlen
    refine ⟨by omega, fun S3 e3 => ?_⟩
    have u : ∀ i, i ≠ 12 → S3 12 i = S 12 i := fun i hi => by rw [e3, up_same, upd_ne _ _ hi]
    have f3 : Fr [12] S S3 := by
      rw [e3]
      exact Fr.up _ _ (by decide)
    have T3 : TkC t S3 p := by
      obtain ⟨⟨a1, a2, a3, a4⟩, a5, a6, a7, a8, a9⟩ := hT
      refine ⟨⟨a1, a2, ?_, ?_⟩, a5, ?_, ?_, ?_, ?_⟩
      · rw [u 5 (by decide)]
        exact a3
      · rw [f3 1 (by decide)]
        exact a4
      · rw [u 6 (by decide)]
        exact a6
      · rw [u 7 (by decide)]
        exact a7
      · rw [u 8 (by decide)]
        exact a8
      · rw [u 9 (by decide), u 10 (by decide)]
        exact a9
    have R3 : RdC t ru pe S3 p [] := by
      refine ⟨T3, hru2, ?_, ?_, ?_, fun i hi => absurd hi (Nat.not_lt_zero i)⟩
      · rw [e3, up_same, upd_same]
      · rw [u 13 (by decide)]
        exact h13
      · rw [f3 ru (by rw [List.mem_singleton]; omega), hlen, show (if pe then lri K.1 else lbu K.1).1 = 0 by omega]
        rfl
    refine c_next (by omega) hE R3 (fun S5 f5 R5 => ?_)
    have ex := c_ex (t := t) (ru := ru) (pe := pe) hE 6 0 (d - 1) (by omega) (by omega)
    refine ex S5 (te t p) [] _ R5 (Nat.zero_le _) (fun S7 r er f7 R7 => ?_) (fun S7 g eg f7 v3 v2 => ?_)
    · rw [er] at eP
      simp only at eP
      rw [List.nil_append] at R7
      rw [if_neg (by decide)]
      have F7 : FrR ru S5 S7 := f7
      have ch : ∀ k, k ≠ 12 → k ≠ ru → k ≠ ru + 1 → S7 k = S k := fun k a1 a2 a3 => by
        rw [f7.1 k (by simp only [List.mem_cons, List.not_mem_nil, or_false]; omega), f5.1 k (by simp only [List.mem_cons, List.not_mem_nil, or_false]; omega), f3 k (by rw [List.mem_singleton]; exact a1)]
      have y : S7 12 3 = 0 ∧ S7 12 5 = S 12 5 := by
        rw [f7.2 3 (by decide), f7.2 5 (by decide), f5.2 3 (by decide), f5.2 5 (by decide), u 3 (by decide), u 5 (by decide)]
        exact ⟨h3, rfl⟩
      have rr : RuC (rOf r.2) (S7 ru 1) (S7 (ru + 1)) := ⟨R7.2.2.2.2.1, fun i hi => R7.2.2.2.2.2 i hi⟩
      have cl : KLC (if pe then lRn K.1 r.2 else lUn K.1 r.2) S7 := by
        obtain ⟨g0, g1, g2, g3, g4, g5, g6, g7, g8⟩ := hL
        have q13 : S7 13 = S 13 := ch 13 (by decide) (by omega) (by omega)
        have q14 : S7 14 = S 14 := ch 14 (by decide) (by omega) (by omega)
        have q15 : S7 15 = S 15 := ch 15 (by decide) (by omega) (by omega)
        cases pe with
        | true =>
          have hr : 16 = ru := hr
          subst hr
          rw [if_pos rfl]
          unfold KLC
          rw [q13, q14, q15, ch 18 (by decide) (by decide) (by decide), ch 19 (by decide) (by decide) (by decide)]
          exact ⟨g0, g1, g2, g3, g4, g5, g6, rr, g8⟩
        | false =>
          have hr : 18 = ru := hr
          subst hr
          rw [if_neg (by decide)]
          unfold KLC
          rw [q13, q14, q15, ch 16 (by decide) (by decide) (by decide), ch 17 (by decide) (by decide) (by decide)]
          exact ⟨g0, g1, g2, g3, g4, g5, g6, g7, rr⟩
      have cx : KXC K.2 S7 := KXC_fr hX (ch 23 (by decide) (by omega) (by omega))
      have fl : FrL S S7 := fun k hk => ch k (by omega) (by omega) (by omega)
      refine c_readSignG (by omega) hE R7.1 (c := 59) (by omega) (fun S9 es f9 T9 => ?_) (fun S9 g es f9 v3 v2 => ?_)
      · rw [if_neg (by decide)]
        refine h1 S9 (te t r.1, (if pe then lRn K.1 r.2 else lUn K.1 r.2, K.2)) ?_ (fl.trans (FrL_12 f9.1)) (by rw [f9.2 5 (by decide)]; exact y.2) ⟨T9, KLC_12 cl f9.1, KXC_12 cx f9.1, by rw [f9.2 3 (by decide)]; exact y.1⟩
        rw [eP]
        unfold pEnd
        rw [es]
      · rw [if_pos rfl]
        refine h0 S9 g ?_ (fl.trans (FrL_12 f9)) v3 v2
        rw [eP]
        unfold pEnd
        rw [es]
    · rw [eg] at eP
      rw [if_pos rfl]
      refine h0 S7 g eP (fun k hk => ?_) v3 v2
      rw [f7 k (by simp only [List.mem_cons, List.not_mem_nil, or_false]; omega), f5.1 k (by simp only [List.mem_cons, List.not_mem_nil, or_false]; omega), f3 k (by rw [List.mem_singleton]; omega)]
  · have e : ¬ nI (if pe then lri K.1 else lbu K.1).1 ≤ nI 0 := e
    rw [nI_leI (by omega) (by omega)] at e
    rw [if_pos (by omega)] at eP
    rw [if_neg (by decide)]
    exact c_failG (c := 5) hT (fun S' f v3 v2 => h0 S' _ eP (FrL_12 f) v3 v2)
theorem c_readLine (hd : 78 ≤ d) (hE : TE E) (hK : KOk K) : LnC t (fun p => pLine t K p) (fun S Q => k_Reader_readLine E d S Q) K := by
  intro S p Q hR h1 h0
  have h1 : ∀ (S' : St) (a : Nat × Kst), pLine t K p = .inr a → FrL S S' → S' 12 5 = S 12 5 → KC t S' a.1 a.2 → Q 1 S' := h1
  have h0 : ∀ (S' : St) (g : Nat × Nat), pLine t K p = .inl g → FrL S S' → S' 12 3 = nI g.1 → S' 12 2 = nI g.2 → Q 0 S' := h0
  have hT := hR.1
  have u13 : ∀ (v : Int32) (S3 : St), S3 = up S 12 13 v → KC t S3 p K ∧ FrL S S3 ∧ S3 12 5 = S 12 5 := fun v S3 e3 => by
    obtain ⟨hT, hL, hX, h3⟩ := hR
    have u : ∀ i, i ≠ 13 → S3 12 i = S 12 i := fun i hi => by rw [e3, up_same, upd_ne _ _ hi]
    have f3 : Fr [12] S S3 := by
      rw [e3]
      exact Fr.up _ _ (by decide)
    have T3 : TkC t S3 p := by
      obtain ⟨⟨a1, a2, a3, a4⟩, a5, a6, a7, a8, a9⟩ := hT
      refine ⟨⟨a1, a2, ?_, ?_⟩, a5, ?_, ?_, ?_, ?_⟩
      · rw [u 5 (by decide)]
        exact a3
      · rw [f3 1 (by decide)]
        exact a4
      · rw [u 6 (by decide)]
        exact a6
      · rw [u 7 (by decide)]
        exact a7
      · rw [u 8 (by decide)]
        exact a8
      · rw [u 9 (by decide), u 10 (by decide)]
        exact a9
    exact ⟨⟨T3, KLC_12 hL f3, KXC_12 hX f3, by rw [u 3 (by decide)]; exact h3⟩, FrL_12 f3, u 5 (by decide)⟩
  refine w_Reader_readLine (by omega) ?_
  refine c_isWord (k := 2) (by omega) hE hT (by omega) rfl (izb (fun e => ?_) (fun e => ?_))
  · have eL : pLine t K p = pPer t K p := by
      unfold pLine
      exact if_pos e
    refine c_readPerson (by omega) hE hK S p _ hR (fun S' a ea f f5 k => ⟨Or.inr rfl, h1 S' a (eL.trans ea) f f5 k⟩) (fun S' g eg f v3 v2 => ⟨Or.inl rfl, h0 S' g (eL.trans eg) f v3 v2⟩)
  have e : ¬ isW t p wPerson = true := e
  refine c_isWord (k := 3) (by omega) hE hT (by omega) rfl (izb (fun e2 => ?_) (fun e2 => ?_))
  · have eL : pLine t K p = pBal t K p := by
      unfold pLine
      rw [if_neg e]
      exact if_pos e2
    refine c_readBall (by omega) hE hK S p _ hR (fun S' a ea f f5 k => ⟨Or.inr rfl, h1 S' a (eL.trans ea) f f5 k⟩) (fun S' g eg f v3 v2 => ⟨Or.inl rfl, h0 S' g (eL.trans eg) f v3 v2⟩)
  have e2 : ¬ isW t p wBall = true := e2
  refine c_isWord (k := 5) (by omega) hE hT (by omega) rfl (izb (fun e3 => fun S3 s3 => ?_) (fun e3 => ?_))
  · have eL : pLine t K p = pRul t true K p := by
      unfold pLine
      rw [if_neg e, if_neg e2]
      exact if_pos e3
    obtain ⟨k3, f3, f35⟩ := u13 1 S3 s3
    refine c_readRule (pe := true) (by omega) hE hK S3 p _ k3 (fun S' a ea f f5 k => ⟨Or.inr rfl, h1 S' a (eL.trans ea) (f3.trans f) (f5.trans f35) k⟩) (fun S' g eg f v3 v2 => ⟨Or.inl rfl, h0 S' g (eL.trans eg) (f3.trans f) v3 v2⟩) ?_
    rw [s3, up_same, upd_same]
    rfl
  have e3 : ¬ isW t p wRises = true := e3
  refine c_isWord (k := 17) (by omega) hE hT (by omega) rfl (izb (fun e4 => fun S3 s3 => ?_) (fun e4 => ?_))
  · have eL : pLine t K p = pRul t false K p := by
      unfold pLine
      rw [if_neg e, if_neg e2, if_neg e3]
      exact if_pos e4
    obtain ⟨k3, f3, f35⟩ := u13 0 S3 s3
    refine c_readRule (pe := false) (by omega) hE hK S3 p _ k3 (fun S' a ea f f5 k => ⟨Or.inr rfl, h1 S' a (eL.trans ea) (f3.trans f) (f5.trans f35) k⟩) (fun S' g eg f v3 v2 => ⟨Or.inl rfl, h0 S' g (eL.trans eg) (f3.trans f) v3 v2⟩) ?_
    rw [s3, up_same, upd_same]
    rfl
  · have e4 : ¬ isW t p wBursts = true := e4
    have eL : pLine t K p = .inl (1, tf t p) := by
      unfold pLine
      rw [if_neg e, if_neg e2, if_neg e3, if_neg e4]
    exact c_failG (c := 1) hT (fun S' f v3 v2 => h0 S' _ eL (FrL_12 f) v3 v2)
end LN2
