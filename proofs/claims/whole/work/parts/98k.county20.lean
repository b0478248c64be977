/-- a rule that is laid below top stays -/
def RuT (b : Bool) (r : Rul) (a0 : Int32) (f : Nat → Int32) (top : Nat) : Prop := (r.1 = 0 → a0 = -1) ∧ (0 < r.1 → ∃ o : List Tok, ∃ a, r = rOf o ∧ a0 = nI a ∧ a + ofL o < top ∧ CodeAt b f a o ∧ f (a + ofL o) = 0 ∧ ∀ x, x ∈ o → tOk x)
theorem RuT_of {b : Bool} {r : Rul} {a0 : Int32} {f g : Nat → Int32} {top top' : Nat} (h : RuT b r a0 f top) (ht : top ≤ top') (e : ∀ i, i < top → g i = f i) : RuT b r a0 g top' := by
  refine ⟨h.1, fun h0 => ?_⟩
  obtain ⟨o, a, h1, h2, h3, h4, h5, h6⟩ := h.2 h0
  exact ⟨o, a, h1, h2, by omega, CodeAt_of o a h4 (fun i x y => e i (by omega)), by rw [e _ h3]; exact h5, h6⟩
theorem RuT_m {b : Bool} {r : Rul} {a0 : Int32} {f : Nat → Int32} {top : Nat} (h : RuT b r a0 f top) (ht : top ≤ 1400) : RuM b r a0 f := by
  by_cases h0 : 0 < r.1
  · obtain ⟨o, a, h1, h2, h3, h4, h5, h6⟩ := h.2 h0
    subst h1
    rw [h2]
    exact RuM_L h0 h4 h5 (by omega) h6
  · exact ⟨h.1, fun g => absurd g h0⟩
/-- what is told so far, in the reference -/
def KLM (l : Lnd) (S : St) (top : Nat) : Prop := S 65 23 = nI (lw l) ∧ S 65 24 = nI (lh l) ∧ S 65 25 = nI (lp l) ∧ S 65 26 = nI (lb l) ∧ (∀ i, i < lp l → S 71 i = nI (lhm l i)) ∧ (∀ x, x < lb l → S 72 x = nI (lsz l x)) ∧ RuT false (lri l) (S 65 27) (S 74) top ∧ RuT true (lbu l) (S 65 28) (S 74) top ∧ S 65 29 = nI top
def KXM (nb : Nat) (X : Xst) (f : Nat → Int32) : Prop := (∀ k i, k < 10 → k ≠ 8 → i < cap k → f (offM k + i) = sK X k i) ∧ ∀ x, x < nb → f (59 + x) = -1
def KM (t : Txt) (S : St) (p : Nat) (K : Kst) (top : Nat) : Prop := TkM t S p ∧ S 65 12 = 0 ∧ KLM K.1 S top ∧ KXM (lb K.1) K.2 (S 73) ∧ top ≤ 2 * p
def FLn (S S' : St) : Prop := (∀ k, k ∉ [65, 71, 72, 73, 74, 75, 76] → S' k = S k) ∧ (∀ i, i < 12 ∨ i = 15 ∨ (34 ≤ i ∧ i < 1000) → S' 65 i = S 65 i)
theorem FLn.refl (S : St) : FLn S S := ⟨fun _ _ => rfl, fun _ _ => rfl⟩
theorem FLn.trans {S S1 S2 : St} (h1 : FLn S S1) (h2 : FLn S1 S2) : FLn S S2 := ⟨fun k hk => (h2.1 k hk).trans (h1.1 k hk), fun i hi => (h2.2 i hi).trans (h1.2 i hi)⟩
theorem FLn_ft {S S' : St} (h : FT S S') : FLn S S' := ⟨fun k hk => h.1 k (fun hm => hk (by rw [List.mem_singleton.mp hm]; decide)), fun i hi => h.2 i (by omega)⟩
theorem FLn_f2 {S S' : St} (h : F2 S S') : FLn S S' := ⟨fun k hk => h.1 k (fun hm => hk (by rw [List.mem_singleton.mp hm]; decide)), fun i hi => h.2 i (by omega) (by omega)⟩
theorem FLn_fb {S S' : St} (h : FB S S') : FLn S S' := ⟨fun k hk => h.1 k (fun hm => hk (by simp only [List.mem_cons, List.not_mem_nil, or_false] at hm ⊢; omega)), fun i hi => h.2 i (by omega)⟩
theorem FLn_up {S : St} {k : Nat} (i : Nat) (v : Int32) (h : k = 71 ∨ k = 72 ∨ k = 73) : FLn S (up S k i v) := ⟨fun a ha => up_ne _ _ _ (fun e => ha (by rw [e]; simp only [List.mem_cons, List.not_mem_nil, or_false]; omega)), fun j _ => by rw [up_ne _ _ _ (by omega)]⟩
theorem KXM_up {nb : Nat} {X : Xst} {f : Nat → Int32} {k i v : Nat} (h : KXM nb X f) (hk : k = 1 ∨ k = 4 ∨ k = 5 ∨ k = 6) (hi : i < cap k) (hnb : nb ≤ 10) : KXM nb (uX X k i v) (upd f (offM k + i) (nI v)) := by
  have c10 := cap_10
  refine ⟨fun a b ha h8 hb => ?_, fun x hx => ?_⟩
  · rw [sK_up hk]
    by_cases e : a = k ∧ b = i
    · rw [if_pos e, e.1, e.2, upd_same]
    · rw [if_neg e, upd_ne _ _ (fun g => e ?_)]
      · exact h.1 a b ha h8 hb
      · have := c10 a
        have := c10 k
        exact offM_inj a ha k (by omega) b (by omega) i (by omega) hb hi g
  · rw [upd_ne _ _ (fun g => ?_)]
    · exact h.2 x hx
    · have := c10 k
      have := (offM_inj 8 (by decide) k (by omega) x (by omega) i (by omega) (show x < cap 8 from Nat.lt_of_lt_of_le hx hnb) hi g).1
      omega
section LNM
variable {t : Txt} {S : St} {E : zX} {d : Nat} {p : Nat} {K : Kst} {top : Nat}
theorem TkM_o {S' : St} (h : TkM t S p) (e : S' 65 = S 65) (e69 : S' 69 = S 69) : TkM t S' p := TkM_k h (fun i _ => by rw [e]) e69
/-- persons -/
theorem e_readsPerson {Q : St → Prop} (hd : 6 ≤ d) (hK : KOk K) (hR : KM t S p K top) (h7 : lp K.1 < 7) (h1 : ∀ (S' : St) (a : Nat × Nat) (b c : Nat × Nat), rdC t (lw K.1 * lh K.1) p = .inr a → rdN t 0 9 a.1 = .inr b → rdN t 0 99 b.1 = .inr c → FLn S S' → KM t S' c.1 (lPn K.1 a.2, uX (uX K.2 4 (lp K.1) b.2) 1 (lp K.1) c.2) top → Q S') (h0 : ∀ (S' : St) (g : Nat × Nat), (rdC t (lw K.1 * lh K.1) p = .inl g ∨ (∃ a, rdC t (lw K.1 * lh K.1) p = .inr a ∧ (rdN t 0 9 a.1 = .inl g ∨ ∃ b, rdN t 0 9 a.1 = .inr b ∧ rdN t 0 99 b.1 = .inl g))) → FLn S S' → FaN S' g → Q S') : k_m_readsPerson E d S Q := by
  obtain ⟨hT, hg, hL, hX, ht⟩ := hR
  have hlo := hK.1
  obtain ⟨l23, l24, l25, l26, l71, l72, lr, lu, l29⟩ := hL
  -- in a fault the rest writes rows alone
  have junk2 : ∀ (S2 : St) (g : Nat × Nat), FaN S2 g → FLn S S2 → (∀ S', FLn S S' → FaN S' g → Q S') → k_m_number E (d - 1) S2 0 99 (fun x9 S10 => ∃ m12 : Nat, ((1 : Int32) + (S 65 25)) = nI m12 ∧ m12 < 79 ∧ ∀ S11, S11 = up S10 73 m12 x9 → k_m_isGood E (d - 1) S11 (fun x13 S14 => if x13 = 0 then Q S14 else ∀ S15, S15 = up S14 65 25 ((S14 65 25) + (1 : Int32)) → Q S15)) := fun S2 g F2' f2 k => by
    refine e_numberX (by omega) F2' ⟨1 + lp K.1, by rw [l25]; exact nI_add 1 _, by omega, fun S11 e11 => ?_⟩
    have F11 : FaN S11 g := by
      unfold FaN
      rw [e11, up_ne _ _ _ (by decide)]
      exact F2'
    refine e_badN F11 ?_
    rw [if_pos rfl]
    exact k S11 (f2.trans (by rw [e11]; exact FLn_up _ _ (by omega))) F11
  refine w_m_readsPerson (by omega) (e_cellHere (by omega) hT hg l23 l24 hlo.2.1 hlo.2.2.2.1 (fun S2 c ec f2 T2 => ?_) (fun S2 g x eg f2 F => ?_))
  · refine ⟨lp K.1, l25, h7, fun S3 e3 => ?_⟩
    have T3 : TkM t S3 (te t p) := TkM_o T2 (by rw [e3, up_ne _ _ _ (by decide)]) (by rw [e3, up_ne _ _ _ (by decide)])
    have g3 : S3 65 12 = 0 := by
      rw [e3, up_ne _ _ _ (by decide), f2.2 12 (by omega)]
      exact hg
    have fl3 : FLn S S3 := (FLn_ft f2).trans (by rw [e3]; exact FLn_up _ _ (by omega))
    refine e_number (lo := 0) (hi := 9) (by omega) T3 g3 (by omega) (by omega) (fun S6 m em f6 T6 => ?_) (fun S6 g x eg f6 F => ?_)
    · refine ⟨22 + lp K.1, by rw [l25]; exact nI_add 22 _, by omega, fun S7 e7 => ?_⟩
      have T7 : TkM t S7 (te t (te t p)) := TkM_o T6 (by rw [e7, up_ne _ _ _ (by decide)]) (by rw [e7, up_ne _ _ _ (by decide)])
      have g7 : S7 65 12 = 0 := by
        rw [e7, up_ne _ _ _ (by decide), f6.2 12 (by omega)]
        exact g3
      have fl7 : FLn S S7 := (fl3.trans (FLn_ft f6)).trans (by rw [e7]; exact FLn_up _ _ (by omega))
      refine e_number (lo := 0) (hi := 99) (by omega) T7 g7 (by omega) (by omega) (fun S10 v ev f10 T10 => ?_) (fun S10 g x eg f10 F => ?_)
      · refine ⟨1 + lp K.1, by rw [l25]; exact nI_add 1 _, by omega, fun S11 e11 => ?_⟩
        have u11 : ∀ i, i < 16 ∨ (22 ≤ i ∧ i < 1000) → S11 65 i = S 65 i := fun i hi => by
          rw [e11, up_ne _ _ _ (by decide), f10.2 i hi, e7, up_ne _ _ _ (by decide), f6.2 i hi, e3, up_ne _ _ _ (by decide), f2.2 i hi]
        have o11 : ∀ k, k ≠ 65 → k ≠ 71 → k ≠ 73 → S11 k = S k := fun k a b c => by
          rw [e11, up_ne _ _ _ c, f10.1 k (by rw [List.mem_singleton]; exact a), e7, up_ne _ _ _ c, f6.1 k (by rw [List.mem_singleton]; exact a), e3, up_ne _ _ _ b, f2.1 k (by rw [List.mem_singleton]; exact a)]
        have T11 : TkM t S11 (te t (te t (te t p))) := TkM_o T10 (by rw [e11, up_ne _ _ _ (by decide)]) (by rw [e11, up_ne _ _ _ (by decide)])
        refine e_okN (by rw [u11 12 (by omega)]; exact hg) ?_
        rw [if_neg (by decide)]
        refine fun S15 e15 => ?_
        have u15 : ∀ i, i ≠ 25 → (i < 16 ∨ (22 ≤ i ∧ i < 1000)) → S15 65 i = S 65 i := fun i hi h => by rw [e15, up_same, upd_ne _ _ hi, u11 i h]
        have o15 : ∀ k, k ≠ 65 → k ≠ 71 → k ≠ 73 → S15 k = S k := fun k a b c => by rw [e15, up_ne _ _ _ a, o11 k a b c]
        have T15 : TkM t S15 (te t (te t (te t p))) := by
          obtain ⟨⟨a1, a2, a3, a4⟩, b1, b2, b3, b4, b5, b6, b7, b8⟩ := T11
          have w : ∀ i, i ≠ 25 → S15 65 i = S11 65 i := fun i hi => by rw [e15, up_same, upd_ne _ _ hi]
          have hw : wM S15 = wM S11 := by rw [e15, wM_up _ (by decide)]
          refine ⟨⟨a1, a2, ?_, ?_⟩, b1, ?_, ?_, ?_, ?_, ?_, ?_, ?_⟩
          · rw [w 15 (by decide)]
            exact a3
          · rw [w 13 (by decide), e15, up_ne _ _ _ (by decide)]
            exact a4
          · rw [w 16 (by decide)]
            exact b2
          · rw [w 17 (by decide)]
            exact b3
          · rw [w 18 (by decide)]
            exact b4
          · rw [w 19 (by decide)]
            exact b5
          · rw [w 20 (by decide)]
            exact b6
          · rw [w 21 (by decide)]
            exact b7
          · rw [hw]
            exact b8
        have s1 := rdC_r hT.2.1 ec
        have s2 := rdN_r T3.2.1 em
        have s3 := rdN_r T7.2.1 ev
        refine h1 S15 (te t p, c) (te t (te t p), m) (te t (te t (te t p)), v) ec em ev ?_ ⟨T15, ?_, ⟨?_, ?_, ?_, ?_, fun i hi => ?_, ?_, ?_, ?_, ?_⟩, ?_, ?_⟩
        · have fl11 : FLn S S11 := (fl7.trans (FLn_ft f10)).trans (by rw [e11]; exact FLn_up _ _ (by omega))
          refine fl11.trans ?_
          rw [e15]
          exact ⟨fun k hk => up_ne _ _ _ (fun e => hk (by rw [e]; decide)), fun i hi => by rw [up_same, upd_ne _ _ (by omega)]⟩
        · rw [u15 12 (by decide) (by omega)]
          exact hg
        · rw [u15 23 (by decide) (by omega)]
          exact l23
        · rw [u15 24 (by decide) (by omega)]
          exact l24
        · rw [e15, up_same, upd_same, u11 25 (by omega), l25, nI_1]
          rfl
        · rw [u15 26 (by decide) (by omega)]
          exact l26
        · have hi : i < lp K.1 + 1 := hi
          show S15 71 i = nI (upN K.1.2.1 (lp K.1) c i)
          rw [e15, up_ne _ _ _ (by decide), e11, up_ne _ _ _ (by decide), f10.1 71 (by decide), e7, up_ne _ _ _ (by decide), f6.1 71 (by decide), e3, up_same]
          by_cases e : i = lp K.1
          · rw [e, upd_same, upN_s]
          · rw [upd_ne _ _ e, upN_n _ _ e, f2.1 71 (by decide)]
            exact l71 i (by omega)
        · rw [o15 72 (by decide) (by decide) (by decide)]
          exact l72
        · rw [u15 27 (by decide) (by omega), o15 74 (by decide) (by decide) (by decide)]
          exact lr
        · rw [u15 28 (by decide) (by omega), o15 74 (by decide) (by decide) (by decide)]
          exact lu
        · rw [u15 29 (by decide) (by omega)]
          exact l29
        · rw [e15, up_ne _ _ _ (by decide), e11, up_same, f10.1 73 (by decide), e7, up_same, f6.1 73 (by decide), e3, up_ne _ _ _ (by decide), f2.1 73 (by decide)]
          exact KXM_up (k := 1) (KXM_up (k := 4) hX (by omega) h7 hlo.b10) (by omega) h7 hlo.b10
        · show top ≤ 2 * te t (te t (te t p))
          have a1 : p < te t p := s1.1
          have a2 : te t p < te t (te t p) := s2.1
          have a3 : te t (te t p) < te t (te t (te t p)) := s3.1
          omega
      · refine ⟨1 + lp K.1, by rw [l25]; exact nI_add 1 _, by omega, fun S11 e11 => ?_⟩
        have F11 : FaN S11 g := by
          unfold FaN
          rw [e11, up_ne _ _ _ (by decide)]
          exact F
        refine e_badN F11 ?_
        rw [if_pos rfl]
        exact h0 S11 g (Or.inr ⟨_, ec, Or.inr ⟨_, em, eg⟩⟩) ((fl7.trans (FLn_f2 f10)).trans (by rw [e11]; exact FLn_up _ _ (by omega))) F11
    · refine ⟨22 + lp K.1, by rw [l25]; exact nI_add 22 _, by omega, fun S7 e7 => ?_⟩
      have F7 : FaN S7 g := by
        unfold FaN
        rw [e7, up_ne _ _ _ (by decide)]
        exact F
      exact junk2 S7 g F7 ((fl3.trans (FLn_f2 f6)).trans (by rw [e7]; exact FLn_up _ _ (by omega))) (fun S' f' F' => h0 S' g (Or.inr ⟨_, ec, Or.inl eg⟩) f' F')
  · refine ⟨lp K.1, l25, h7, fun S3 e3 => ?_⟩
    have F3 : FaN S3 g := by
      unfold FaN
      rw [e3, up_ne _ _ _ (by decide)]
      exact F
    refine e_numberX (by omega) F3 ⟨22 + lp K.1, by rw [l25]; exact nI_add 22 _, by omega, fun S7 e7 => ?_⟩
    have F7 : FaN S7 g := by
      unfold FaN
      rw [e7, up_ne _ _ _ (by decide)]
      exact F3
    have fl3 : FLn S S3 := (FLn_f2 f2).trans (by rw [e3]; exact FLn_up _ _ (by omega))
    exact junk2 S7 g F7 (fl3.trans (by rw [e7]; exact FLn_up _ _ (by omega))) (fun S' f' F' => h0 S' g (Or.inl eg) f' F')
end LNM
