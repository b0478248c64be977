section LNB
variable {t : Txt} {S : St} {E : zX} {d : Nat} {p : Nat} {K : Kst} {top : Nat}
theorem TkM_i {i : Nat} {v : Int32} (h : TkM t S p) (hi : i < 13 ∨ (22 ≤ i ∧ i < 1000)) : TkM t (up S 65 i v) p := by
  obtain ⟨⟨a1, a2, a3, a4⟩, b1, b2, b3, b4, b5, b6, b7, b8⟩ := h
  have w : ∀ j, j ≠ i → up S 65 i v 65 j = S 65 j := fun j hj => by rw [up_same, upd_ne _ _ hj]
  refine ⟨⟨a1, a2, ?_, ?_⟩, b1, ?_, ?_, ?_, ?_, ?_, ?_, ?_⟩
  · rw [w 15 (by omega)]
    exact a3
  · rw [w 13 (by omega), up_ne _ _ _ (by decide)]
    exact a4
  · rw [w 16 (by omega)]
    exact b2
  · rw [w 17 (by omega)]
    exact b3
  · rw [w 18 (by omega)]
    exact b4
  · rw [w 19 (by omega)]
    exact b5
  · rw [w 20 (by omega)]
    exact b6
  · rw [w 21 (by omega)]
    exact b7
  · rw [wM_up _ (by omega)]
    exact b8
theorem FLn_65 {i : Nat} {v : Int32} (hi : 12 ≤ i ∧ i < 34 ∧ i ≠ 15) : FLn S (up S 65 i v) := ⟨fun k hk => up_ne _ _ _ (fun e => hk (by rw [e]; decide)), fun j hj => by rw [up_same, upd_ne _ _ (by omega)]⟩
theorem KXM_ball {nb c : Nat} {X : Xst} {f : Nat → Int32} (h : KXM nb X f) (hnb : nb < 10) (h6 : X 6 nb = 0) : KXM (nb + 1) (uX X 5 nb c) (upd (upd (upd f (29 + nb) (nI c)) (39 + nb) 0) (59 + nb) (-1)) := by
  have c10 := cap_10
  have h5 := KXM_up (k := 5) (i := nb) (v := c) h (by omega) (show nb < cap 5 from hnb) (by omega)
  have e6 : upd (upd f (29 + nb) (nI c)) (39 + nb) 0 = upd f (29 + nb) (nI c) := by
    have := upd_self (upd f (29 + nb) (nI c)) (39 + nb)
    rw [show upd f (29 + nb) (nI c) (39 + nb) = 0 from ?_] at this
    · exact this
    · have := h5.1 6 nb (by decide) (by decide) (show nb < cap 6 from hnb)
      rw [show offM 6 + nb = 39 + nb from rfl] at this
      rw [show upd f (29 + nb) (nI c) = upd f (offM 5 + nb) (nI c) from rfl, this, sK_up (by omega), if_neg (by omega)]
      show nI (X 6 nb) = 0
      rw [h6]
      rfl
  rw [e6]
  refine ⟨fun k i hk h8 hi => ?_, fun x hx => ?_⟩
  · rw [upd_ne _ _ (fun g => ?_)]
    · exact h5.1 k i hk h8 hi
    · have := c10 k
      have := (offM_inj k hk 8 (by decide) i (by omega) nb (by omega) hi (show nb < cap 8 from hnb) g).1
      exact h8 this
  · by_cases e : x = nb
    · rw [e, upd_same]
    · rw [upd_ne _ _ (by omega)]
      exact h5.2 x (by omega)
/-- puffballs -/
theorem e_readsBall {Q : St → Prop} (hd : 6 ≤ d) (hK : KOk K) (hR : KM t S p K top) (h10 : lb K.1 < 10) (h1 : ∀ (S' : St) (q : Nat) (a b : Nat × Nat) (X : Xst), rdC t (lw K.1 * lh K.1) p = .inr a → rdN t 1 99 a.1 = .inr b → ((isW t b.1 wHolds = true ∧ ∃ c, rdN t 1 b.2 (te t b.1) = .inr c ∧ q = c.1 ∧ X = uX (uX K.2 5 (lb K.1) a.2) 6 (lb K.1) c.2) ∨ (¬ isW t b.1 wHolds = true ∧ q = b.1 ∧ X = uX K.2 5 (lb K.1) a.2)) → FLn S S' → KM t S' q (lBn K.1 b.2, X) top → Q S') (h0 : ∀ (S' : St) (g : Nat × Nat), (rdC t (lw K.1 * lh K.1) p = .inl g ∨ (∃ a, rdC t (lw K.1 * lh K.1) p = .inr a ∧ (rdN t 1 99 a.1 = .inl g ∨ ∃ b, rdN t 1 99 a.1 = .inr b ∧ isW t b.1 wHolds = true ∧ rdN t 1 b.2 (te t b.1) = .inl g))) → FLn S S' → FaN S' g → Q S') : k_m_readsBall E d S Q := by
  obtain ⟨hT, hg, hL, hX, ht⟩ := hR
  have hlo := hK.1
  obtain ⟨l23, l24, l25, l26, l71, l72, lr, lu, l29⟩ := hL
  have faU : ∀ (S2 : St) (k i : Nat) (v : Int32) (g : Nat × Nat), k ≠ 65 → FaN S2 g → FaN (up S2 k i v) g := fun S2 k i v g hk F => by
    unfold FaN
    rw [up_ne _ _ _ (Ne.symm hk)]
    exact F
  -- the end in a fault
  have bad90 : ∀ (S2 : St) (g : Nat × Nat), FaN S2 g → Q S2 → k_m_readsBall_90 E d S2 Q := fun S2 g F k => by
    refine w_m_readsBall_90 (by omega) (e_badN F ?_)
    rw [if_pos rfl]
    exact k
  -- from the size on in a fault
  have junk : ∀ (S6 : St) (g : Nat × Nat) (x5 : Int32), FaN S6 g → FLn S S6 → (∀ S', FLn S S' → FaN S' g → Q S') → ∃ m8 : Nat, (S 65 26) = nI m8 ∧ m8 < 10 ∧ ∀ S7, S7 = up S6 72 m8 x5 → ∃ m10 : Nat, ((39 : Int32) + (S 65 26)) = nI m10 ∧ m10 < 79 ∧ ∀ S9, S9 = up S7 73 m10 0 → ∃ m12 : Nat, ((59 : Int32) + (S 65 26)) = nI m12 ∧ m12 < 79 ∧ ∀ S11, S11 = up S9 73 m12 (-1) → k_m_isGood E (d - 1) S11 (fun x13 S14 => if x13 = 0 then k_m_readsBall_90 E d S14 Q else k_m_knownWord E (d - 1) S14 (fun x15 S16 => if x15 = 5 then k_m_goes E (d - 1) S16 (fun S18 => ∃ m19 : Nat, (S 65 26) = nI m19 ∧ m19 < 10 ∧ k_m_number E (d - 1) S18 1 (S18 72 m19) (fun x20 S21 => ∃ m23 : Nat, ((39 : Int32) + (S 65 26)) = nI m23 ∧ m23 < 79 ∧ ∀ S22, S22 = up S21 73 m23 x20 → k_m_readsBall_90 E d S22 Q)) else k_m_readsBall_90 E d S16 Q)) := fun S6 g x5 F f6 k => by
    refine ⟨lb K.1, l26, h10, fun S7 e7 => ⟨39 + lb K.1, by rw [l26]; exact nI_add 39 _, by omega, fun S9 e9 => ⟨59 + lb K.1, by rw [l26]; exact nI_add 59 _, by omega, fun S11 e11 => ?_⟩⟩⟩
    have F11 : FaN S11 g := by
      rw [e11, e9, e7]
      exact faU _ _ _ _ _ (by decide) (faU _ _ _ _ _ (by decide) (faU _ _ _ _ _ (by decide) F))
    have fl7 : FLn S S7 := f6.trans (by rw [e7]; exact FLn_up _ _ (by omega))
    have fl9 : FLn S S9 := fl7.trans (by rw [e9]; exact FLn_up _ _ (by omega))
    have fl11 : FLn S S11 := fl9.trans (by rw [e11]; exact FLn_up _ _ (by omega))
    refine e_badN F11 ?_
    rw [if_pos rfl]
    exact bad90 S11 g F11 (k S11 fl11 F11)
  refine w_m_readsBall (by omega) (e_cellHere (by omega) hT hg l23 l24 hlo.2.1 hlo.2.2.2.1 (fun S2 c ec f2 T2 => ?_) (fun S2 g x eg f2 F => ?_))
  · refine ⟨29 + lb K.1, by rw [l26]; exact nI_add 29 _, by omega, fun S3 e3 => ?_⟩
    have T3 : TkM t S3 (te t p) := TkM_o T2 (by rw [e3, up_ne _ _ _ (by decide)]) (by rw [e3, up_ne _ _ _ (by decide)])
    have g3 : S3 65 12 = 0 := by
      rw [e3, up_ne _ _ _ (by decide), f2.2 12 (by omega)]
      exact hg
    have fl3 : FLn S S3 := (FLn_ft f2).trans (by rw [e3]; exact FLn_up _ _ (by omega))
    refine e_number (lo := 1) (hi := 99) (by omega) T3 g3 (by omega) (by omega) (fun S6 z ez f6 T6 => ?_) (fun S6 g x eg f6 F => ?_)
    · refine ⟨lb K.1, l26, h10, fun S7 e7 => ⟨39 + lb K.1, by rw [l26]; exact nI_add 39 _, by omega, fun S9 e9 => ⟨59 + lb K.1, by rw [l26]; exact nI_add 59 _, by omega, fun S11 e11 => ?_⟩⟩⟩
      have s1 := rdC_r hT.2.1 ec
      have s2 := rdN_r T3.2.1 ez
      have z99 : z ≤ 99 := s2.2.2.2
      have u11 : ∀ i, i < 16 ∨ (22 ≤ i ∧ i < 1000) → S11 65 i = S 65 i := fun i hi => by
        rw [e11, up_ne _ _ _ (by decide), e9, up_ne _ _ _ (by decide), e7, up_ne _ _ _ (by decide), f6.2 i hi, e3, up_ne _ _ _ (by decide), f2.2 i hi]
      have o11 : ∀ k, k ≠ 65 → k ≠ 72 → k ≠ 73 → S11 k = S k := fun k a b c => by
        rw [e11, up_ne _ _ _ c, e9, up_ne _ _ _ c, e7, up_ne _ _ _ b, f6.1 k (by rw [List.mem_singleton]; exact a), e3, up_ne _ _ _ c, f2.1 k (by rw [List.mem_singleton]; exact a)]
      have q72 : ∀ x, x < lb K.1 + 1 → S11 72 x = nI (upN K.1.2.2.1 (lb K.1) z x) := fun x hx => by
        rw [e11, up_ne _ _ _ (by decide), e9, up_ne _ _ _ (by decide), e7, up_same]
        by_cases e : x = lb K.1
        · rw [e, upd_same, upN_s]
        · rw [upd_ne _ _ e, upN_n _ _ e, f6.1 72 (by decide), e3, up_ne _ _ _ (by decide), f2.1 72 (by decide)]
          exact l72 x (by omega)
      have x11 : KXM (lb K.1 + 1) (uX K.2 5 (lb K.1) c) (S11 73) := by
        rw [e11, up_same, e9, up_same, e7, up_ne _ _ _ (by decide), f6.1 73 (by decide), e3, up_same, f2.1 73 (by decide)]
        exact KXM_ball hX h10 (hK.2.2.2 _ (Nat.le_refl _))
      have T11 : TkM t S11 (te t (te t p)) := TkM_o T6 (by rw [e11, up_ne _ _ _ (by decide), e9, up_ne _ _ _ (by decide), e7, up_ne _ _ _ (by decide)]) (by rw [e11, up_ne _ _ _ (by decide), e9, up_ne _ _ _ (by decide), e7, up_ne _ _ _ (by decide)])
      have fl11 : FLn S S11 := by
        have a7 : FLn S S7 := (fl3.trans (FLn_ft f6)).trans (by rw [e7]; exact FLn_up _ _ (by omega))
        have a9 : FLn S S9 := a7.trans (by rw [e9]; exact FLn_up _ _ (by omega))
        exact a9.trans (by rw [e11]; exact FLn_up _ _ (by omega))
      have g11 : S11 65 12 = 0 := by rw [u11 12 (by omega)]; exact hg
      have a1 : p < te t p := s1.1
      have a2 : te t p < te t (te t p) := s2.1
      -- one more
      have l90 : ∀ (S3 : St) (q : Nat) (X : Xst), (∀ k, k ≠ 65 → k ≠ 73 → S3 k = S11 k) → (∀ i, i < 16 ∨ (22 ≤ i ∧ i < 1000) → S3 65 i = S11 65 i) → TkM t S3 q → te t (te t p) ≤ q → KXM (lb K.1 + 1) X (S3 73) → ((isW t (te t (te t p)) wHolds = true ∧ ∃ c1, rdN t 1 z (te t (te t (te t p))) = .inr c1 ∧ q = c1.1 ∧ X = uX (uX K.2 5 (lb K.1) c) 6 (lb K.1) c1.2) ∨ (¬ isW t (te t (te t p)) wHolds = true ∧ q = te t (te t p) ∧ X = uX K.2 5 (lb K.1) c)) → FLn S S3 → k_m_readsBall_90 E d S3 Q := by
        intro S3 q X c3 u3 T3' hq x3 hor fl3'
        refine w_m_readsBall_90 (by omega) (e_okN (by rw [u3 12 (by omega)]; exact g11) ?_)
        rw [if_neg (by decide)]
        refine fun S5 e5 => ?_
        have u5 : ∀ i, i ≠ 26 → (i < 16 ∨ (22 ≤ i ∧ i < 1000)) → S5 65 i = S 65 i := fun i hi h => by rw [e5, up_same, upd_ne _ _ hi, u3 i h, u11 i h]
        have o5 : ∀ k, k ≠ 65 → k ≠ 72 → k ≠ 73 → S5 k = S k := fun k a b c => by rw [e5, up_ne _ _ _ a, c3 k a c, o11 k a b c]
        refine h1 S5 q (te t p, c) (te t (te t p), z) X ec ez hor (fl3'.trans (by rw [e5]; exact FLn_65 (by omega))) ⟨by rw [e5]; exact TkM_i T3' (by omega), ?_, ⟨?_, ?_, ?_, ?_, ?_, ?_, ?_, ?_, ?_⟩, ?_, by show top ≤ 2 * q; omega⟩
        · rw [u5 12 (by decide) (by omega)]
          exact hg
        · rw [u5 23 (by decide) (by omega)]
          exact l23
        · rw [u5 24 (by decide) (by omega)]
          exact l24
        · rw [u5 25 (by decide) (by omega)]
          exact l25
        · rw [e5, up_same, upd_same, u3 26 (by omega), u11 26 (by omega), l26, nI_1]
          rfl
        · rw [o5 71 (by decide) (by decide) (by decide)]
          exact l71
        · intro x hx
          rw [e5, up_ne _ _ _ (by decide), c3 72 (by decide) (by decide)]
          exact q72 x hx
        · rw [u5 27 (by decide) (by omega), o5 74 (by decide) (by decide) (by decide)]
          exact lr
        · rw [u5 28 (by decide) (by omega), o5 74 (by decide) (by decide) (by decide)]
          exact lu
        · rw [u5 29 (by decide) (by omega)]
          exact l29
        · rw [e5, up_ne _ _ _ (by decide)]
          exact x3
      refine e_okN g11 ?_
      rw [if_neg (by decide)]
      refine e_knownWord (by omega) T11 ?_
      have kw5 : oI (kwd t (te t (te t p))) = 5 ↔ isW t (te t (te t p)) wHolds = true := by
        constructor
        · intro g
          cases e : kwd t (te t (te t p)) with
          | none =>
            rw [e] at g
            cases g
          | some m =>
            have := (fstF_inv _ _ e).2.1
            rw [e] at g
            have g : nI m = nI 5 := g
            rw [nI_eq (by omega) (by omega)] at g
            rw [g] at e
            exact (kwd_iff (by omega)).mp e
        · intro g
          rw [(kwd_iff (k := 5) (by omega)).mpr g]
          rfl
      refine ife (fun e => ?_) (fun e => ?_)
      · have hw := kw5.mp e
        have s3 := step_p T11.2.1 (isW_k hw)
        refine e_nextM (by omega) T11 (fun S18 f18 T18 => ⟨lb K.1, l26, h10, ?_⟩)
        have r72 : S18 72 (lb K.1) = nI z := by
          rw [f18.1 72 (by decide), q72 _ (by omega), upN_s]
        rw [r72]
        have g18 : S18 65 12 = 0 := by
          rw [f18.2 12 (by omega)]
          exact g11
        refine e_number (lo := 1) (hi := z) (by omega) T18 g18 (by omega) (by omega) (fun S21 v ev f21 T21 => ?_) (fun S21 g x eg f21 F => ?_)
        · have s4 := rdN_r T18.2.1 ev
          have a4 : te t (te t (te t p)) < te t (te t (te t (te t p))) := s4.1
          refine ⟨39 + lb K.1, by rw [l26]; exact nI_add 39 _, by omega, fun S22 e22 => ?_⟩
          refine l90 S22 _ (uX (uX K.2 5 (lb K.1) c) 6 (lb K.1) v) (fun k a b => by rw [e22, up_ne _ _ _ b, f21.1 k (by rw [List.mem_singleton]; exact a), f18.1 k (by rw [List.mem_singleton]; exact a)]) (fun i hi => by rw [e22, up_ne _ _ _ (by decide), f21.2 i hi, f18.2 i hi]) (TkM_o T21 (by rw [e22, up_ne _ _ _ (by decide)]) (by rw [e22, up_ne _ _ _ (by decide)])) (by omega) ?_ (Or.inl ⟨hw, _, ev, rfl, rfl⟩) (((fl11.trans (FLn_ft f18)).trans (FLn_ft f21)).trans (by rw [e22]; exact FLn_up _ _ (by omega)))
          rw [e22, up_same, f21.1 73 (by decide), f18.1 73 (by decide)]
          exact KXM_up (k := 6) x11 (by omega) h10 (by omega)
        · refine ⟨39 + lb K.1, by rw [l26]; exact nI_add 39 _, by omega, fun S22 e22 => ?_⟩
          have F22 : FaN S22 g := by
            rw [e22]
            exact faU _ _ _ _ _ (by decide) F
          exact bad90 S22 g F22 (h0 S22 g (Or.inr ⟨_, ec, Or.inr ⟨_, ez, hw, eg⟩⟩) (((fl11.trans (FLn_ft f18)).trans (FLn_f2 f21)).trans (by rw [e22]; exact FLn_up _ _ (by omega))) F22)
      · have hw : ¬ isW t (te t (te t p)) wHolds = true := fun g => e (kw5.mpr g)
        exact l90 S11 _ _ (fun _ _ _ => rfl) (fun _ _ => rfl) T11 (Nat.le_refl _) x11 (Or.inr ⟨hw, rfl, rfl⟩) fl11
    · exact junk S6 g x F (fl3.trans (FLn_f2 f6)) (fun S' f' F' => h0 S' g (Or.inr ⟨_, ec, Or.inl eg⟩) f' F')
  · refine ⟨29 + lb K.1, by rw [l26]; exact nI_add 29 _, by omega, fun S3 e3 => ?_⟩
    have F3 : FaN S3 g := by
      rw [e3]
      exact faU _ _ _ _ _ (by decide) F
    refine e_numberX (by omega) F3 ?_
    exact junk S3 g 0 F3 ((FLn_f2 f2).trans (by rw [e3]; exact FLn_up _ _ (by omega))) (fun S' f' F' => h0 S' g (Or.inl eg) f' F')
end LNB
