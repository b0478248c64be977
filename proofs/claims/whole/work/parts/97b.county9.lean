section XCT
variable {S : St} {E : zX} {d : Nat}
theorem cpy_in0 {f g : Nat → Int32} {n j : Nat} (h : j < n) : va_cpy f g 0 0 n j = f j := by
  rw [pk_cpy_in (Nat.zero_le _) (by omega), Nat.sub_zero, Nat.zero_add]
theorem c_ruleCopy {a0 a1 : Nat} {r : Rul} {Q : St → Prop} (hd : 1 ≤ d) (h0 : Ru a0) (h1 : Ru a1) (hne : a0 + 1 < a1 ∨ a1 + 1 < a0) (hr : RuC r (S a1 1) (S (a1 + 1))) (h7 : r.1 ≤ 700) (h : ∀ S' : St, Fr [a0, a0 + 1] S S' → RuC r (S' a0 1) (S' (a0 + 1)) → Q S') : k_Rule_copyFrom E d S a0 a1 Q := by
  refine w_Rule_copyFrom hd h0 h1 (fun S1 e1 => ?_)
  have v1 : S1 a0 1 = nI r.1 := by
    rw [e1, up_same, upd_same]
    exact hr.1
  refine ⟨r.1, v1, by omega, by omega, fun S2 e2 => ?_⟩
  have f1 : Fr [a0, a0 + 1] S S1 := by
    rw [e1]
    exact Fr.up _ _ (by simp)
  refine h S2 (f1.trans (by rw [e2]; exact Fr.set _ (by simp))) ⟨?_, fun i hi => ?_⟩
  · rw [e2, setR_ne _ _ (by omega)]
    exact v1
  · rw [e2, setR_same, cpy_in0 hi, e1, up_ne _ _ _ (by omega)]
    exact hr.2 i hi
theorem c_landCopy {K : Kst} {Q : St → Prop} (hd : 3 ≤ d) (hK : KOk K) (hL : KLC K.1 S) (h : ∀ S' : St, Fr [3, 4, 5, 6, 7, 8, 9, 10, 11] S S' → LC K.1 S' → Q S') : k_Land_copyFrom E d S Q := by
  have hl := hK.1
  obtain ⟨g0, g1, g2, g3, g4, g5, g6, g7, g8⟩ := hL
  refine w_Land_copyFrom (by omega) ?_
  rw [g0, g1]
  refine c_measure (w := lw K.1) (h := lh K.1) la3 ⟨hl.1, hl.2.1⟩ ⟨hl.2.2.1, hl.2.2.2.1⟩ (fun S2 f2 r2 m0 m1 m2 mc S3 e3 S4 e4 S5 e5 S6 e6 => ?_)
  have F2 : Fr [3, 4, 5, 6, 7, 8, 9, 10, 11] S S2 := f2.mono (by decide)
  have F3 : Fr [3, 4, 5, 6, 7, 8, 9, 10, 11] S S3 := F2.trans (by rw [e3]; exact Fr.up _ _ (by decide))
  have F4 : Fr [3, 4, 5, 6, 7, 8, 9, 10, 11] S S4 := F3.trans (by rw [e4]; exact Fr.up _ _ (by decide))
  have F5 : Fr [3, 4, 5, 6, 7, 8, 9, 10, 11] S S5 := F4.trans (by rw [e5]; exact Fr.set _ (by decide))
  have F6 : Fr [3, 4, 5, 6, 7, 8, 9, 10, 11] S S6 := F5.trans (by rw [e6]; exact Fr.set _ (by decide))
  have p7 := hl.p7
  have b10 := hl.b10
  refine c_ruleCopy (by omega) ru6 ru16 (by omega) (r := lri K.1) ?_ hl.2.2.2.2.2.2.2.2.1.2.2 (fun S8 f8 r8 => ?_)
  · rw [F6 16 (by decide), F6 17 (by decide)]
    exact g7
  refine c_ruleCopy (by omega) ru8 ru18 (by omega) (r := lbu K.1) ?_ hl.2.2.2.2.2.2.2.2.2.2.2 (fun S9 f9 r9 => ?_)
  · rw [f8 18 (by decide), f8 19 (by decide), F6 18 (by decide), F6 19 (by decide)]
    exact g8
  have c9 : ∀ k, k ≠ 6 → k ≠ 7 → k ≠ 8 → k ≠ 9 → S9 k = S6 k := fun k a b c d => by rw [f9 k (by simp only [List.mem_cons, List.not_mem_nil, or_false]; omega), f8 k (by simp only [List.mem_cons, List.not_mem_nil, or_false]; omega)]
  have q3 : S9 3 = S4 3 := by rw [c9 3 (by decide) (by decide) (by decide) (by decide), e6, setR_ne _ _ (by decide), e5, setR_ne _ _ (by decide)]
  refine h S9 ((F6.trans (f8.mono (by decide))).trans (f9.mono (by decide))) ⟨hl, ?_, ?_, ?_, ?_, ?_, fun i hi => ?_, fun x hx => ?_, fun c hc => ?_, ?_, r9⟩
  · rw [q3, e4, up_same, upd_ne _ _ (by decide), e3, up_same, upd_ne _ _ (by decide)]
    exact m0
  · rw [q3, e4, up_same, upd_ne _ _ (by decide), e3, up_same, upd_ne _ _ (by decide)]
    exact m1
  · rw [q3, e4, up_same, upd_ne _ _ (by decide), e3, up_same, upd_ne _ _ (by decide)]
    exact m2
  · rw [q3, e4, up_same, upd_ne _ _ (by decide), e3, up_same, upd_same, f2 13 (by decide)]
    exact g3
  · rw [q3, e4, up_same, upd_same, F3 13 (by decide)]
    exact g4
  · rw [c9 4 (by decide) (by decide) (by decide) (by decide), e6, setR_ne _ _ (by decide), e5, setR_same, cpy_in0 (by omega), F4 14 (by decide)]
    exact g5 i hi
  · rw [c9 5 (by decide) (by decide) (by decide) (by decide), e6, setR_same, cpy_in0 (by omega), F5 15 (by decide)]
    exact g6 x hx
  · have o : ∀ k, k = 10 ∨ k = 11 → S9 k = S2 k := fun k hk => by
      rw [c9 k (by omega) (by omega) (by omega) (by omega), e6, setR_ne _ _ (by omega), e5, setR_ne _ _ (by omega), e4, up_ne _ _ _ (by omega), e3, up_ne _ _ _ (by omega)]
    rw [o 10 (Or.inl rfl), o 11 (Or.inr rfl)]
    exact mc c hc
  · rw [f9 6 (by decide), f9 7 (by decide)]
    exact r8
theorem ScC_K {l : Lnd} {X : Xst} {S : St} (hl : LOk l) (h : KXC X S) : ScC l (S 23) (sK X) := by
  refine ⟨fun k i hk hi => h.1 k i hk (Nat.lt_of_lt_of_le hi (rng_cap hl k)), ?_⟩
  have g0 : grdM l (sK X) = 0 := by
    refine bits_ext (fun i => ?_)
    unfold grdM
    rw [mkN_bit, Nat.zero_testBit]
    have : decide (sK X 9 i = 1) = false := decide_eq_false (by show ¬ (0 : Int32) = 1; decide)
    rw [this, Bool.and_false]
  rw [g0]
  exact h.2
end XCT
/-- the text of the tape -/
def gTx (G : Gst) (n : Nat) : Txt := (n, fun i => tN (gt G i))
/-- what county does -/
noncomputable def eCty (G : Gst) (n : Nat) : Int32 × Gst := match pCty (gTx G n) with
  | .inl g => (nI g.1, (G.1, G.2.1, G.2.2.1, (0, gt G), nI g.2, upd (gr G) 0 (gr G 0 + 1)))
  | .inr K => (0, (K.1, (sK K.2, (0, fun _ => sK K.2), (0, fun _ => (0, 0, 0))), none, (0, gt G), -1, gr G))
/-- whether that many bytes are there -/
def ngC (G : Gst) (a : Int32) : Bool := decide (a < 0 ∨ nI (gtn G + 1) ≤ a)
theorem tx_b {G : Gst} (hG : GInv G) {n : Nat} (hn : n ≤ gtn G) : ∀ i, i < n → (gTx G n).2 i < 256 ∧ gt G i = nI ((gTx G n).2 i) := fun i hi => by
  obtain ⟨b, hb, e⟩ := hG.2.2.2.2 i (by omega)
  show tN (gt G i) < 256 ∧ gt G i = nI (tN (gt G i))
  rw [e, tN_nI (by omega)]
  exact ⟨hb, rfl⟩
section XC2
variable {G : Gst} {S : St} {E : zX} {d : Nat} {Q : Int32 → St → Prop} {X : Nat → St → Prop}
theorem x_county {a : Int32} (hd : 90 ≤ d) (hE : TE E) (hG : GInv G) (hR : RelC G S) (hn : (S 1000 0).toNatClampNeg < 1000000) (h : ngC G a = false → ∀ S', CE (eCty G (tN a)).2 S S' → Q (eCty G (tN a)).1 S') (hX : ngC G a = true → X 1 (upT S)) : k_x_county E d S a Q X := by
  have t700 : gtn G ≤ 700 := hG.2.2.2.1
  obtain ⟨R1, R2, R3, R4, R5, R6, R7, R8⟩ := hR
  refine w_x_county (by omega) ?_
  rw [R5]
  refine ife (fun e => ⟨hn, hX (decide_eq_true (Or.inl e))⟩) (fun e => ?_)
  refine ife (fun e2 => ?_) (fun e2 => ⟨hn, hX (decide_eq_true (Or.inr ((lt_le (n := gtn G) (by omega)).mp (Int32.not_le.mp e2))))⟩)
  rcases pk_ix a (n := gtn G + 1) (by omega) with g | g | ⟨n, hn1, ea⟩
  · exact absurd g e
  · exact absurd e2 (Int32.not_le.mpr ((lt_le (n := gtn G) (by omega)).mpr g))
  subst ea
  have hf : ngC G (nI n) = false := decide_eq_false (fun g => by
    rcases g with g | g
    · exact e g
    · exact nI_ge (a := n) (b := gtn G + 1) hn1 (by omega) g)
  have h := h hf
  rw [tN_nI (by omega)] at h
  have tb := tx_b hG (show n ≤ gtn G by omega)
  refine fun S1 e1 => ?_
  have f1 : ∀ k, k ≠ 0 → S1 k = S k := fun k hk => by rw [e1, up_ne _ _ _ hk]
  refine c_readText (t := gTx G n) (by omega) hE rfl (by omega) (fun i hi => (tb i hi).1) (fun i hi => ?_) (fun S3 K ec f3 L3 X3 => ?_) (fun S3 g ec f3 v2 => ?_)
  · rw [f1 1 (by decide), R6 i (by omega)]
    exact (tb i hi).2
  · have hK : KOk K := pCty_ok (show n ≤ 700 by omega) ec
    unfold eCty at h
    rw [ec] at h
    rw [if_pos rfl]
    refine fun S4 e4 => ?_
    have L4 : KLC K.1 S4 := KLC_fr L3 (fun k h1 h2 => by rw [e4, up_ne _ _ _ (by omega)])
    refine c_landCopy (by omega) hK L4 (fun S6 f6 L6 => ?_)
    have X6 : KXC K.2 S6 := KXC_fr X3 (by rw [f6 23 (by decide), e4, up_ne _ _ _ (by decide)])
    have sc6 : ScC K.1 (S6 23) (sK K.2) := ScC_K hK.1 X6
    refine w_Book_begin (by omega) (c_copy (q := 25) (q' := 22) (by omega) hK.1 sc25 sc22 sc6 (fun S7 f7 A7 S8 e8 S9 e9 S10 e10 => ?_))
    have o : ∀ k, k ≠ 0 → k ≠ 24 → k ≠ 26 → (k < 3 ∨ 31 ≤ k) → S10 k = S k := fun k a1 a2 a3 a4 => by
      rw [e10, up_ne _ _ _ a1, e9, up_ne _ _ _ a2, e8, up_ne _ _ _ a2, f7 k (by rw [List.mem_singleton]; exact a3), f6 k (by simp only [List.mem_cons, List.not_mem_nil, or_false]; omega), e4, up_ne _ _ _ a1, f3 k (by omega), f1 k a1]
    have q0 : ∀ i, i ≠ 8 → i ≠ 2 → i ≠ 1 → S10 0 i = S 0 i := fun i a1 a2 a3 => by
      rw [e10, up_same, upd_ne _ _ a1, e9, up_ne _ _ _ (by decide), e8, up_ne _ _ _ (by decide), f7 0 (by decide), f6 0 (by decide), e4, up_same, upd_ne _ _ a2, f3 0 (by omega), e1, up_same, upd_ne _ _ a3]
    have L10 : LC K.1 S10 := LC_fr L6 (fun k h1 h2 => by
      rw [e10, up_ne _ _ _ (by omega), e9, up_ne _ _ _ (by omega), e8, up_ne _ _ _ (by omega), f7 k (by rw [List.mem_singleton]; omega)])
    refine h S10 ⟨⟨L10, ⟨?_, ?_, fun j hj => absurd hj (Nat.not_lt_zero j), ?_, fun j hj => absurd hj (Nat.not_lt_zero j)⟩, ?_, (fun b hb => by cases hb), ?_, fun i hi => absurd hi (Nat.not_lt_zero i), ?_, fun i hi => ?_⟩, fun k hk => o k (by omega) (by omega) (by omega) (by omega)⟩
    · show ScC K.1 (S10 26) (sK K.2)
      rw [e10, up_ne _ _ _ (by decide), e9, up_ne _ _ _ (by decide), e8, up_ne _ _ _ (by decide)]
      exact A7
    · show S10 24 1 = nI 0
      rw [e10, up_ne _ _ _ (by decide), e9, up_same, upd_ne _ _ (by decide), e8, up_same, upd_same]
      rfl
    · show S10 24 3 = nI 0
      rw [e10, up_ne _ _ _ (by decide), e9, up_same, upd_same]
      rfl
    · rw [e10, up_same, upd_same]
      rfl
    · show S10 0 1 = nI 0
      rw [e10, up_same, upd_ne _ _ (by decide), e9, up_ne _ _ _ (by decide), e8, up_ne _ _ _ (by decide), f7 0 (by decide), f6 0 (by decide), e4, up_same, upd_ne _ _ (by decide), f3 0 (by omega), e1, up_same, upd_same]
      rfl
    · show S10 0 2 = -1
      rw [e10, up_same, upd_ne _ _ (by decide), e9, up_ne _ _ _ (by decide), e8, up_ne _ _ _ (by decide), f7 0 (by decide), f6 0 (by decide), e4, up_same, upd_same]
    · rw [o 2 (by decide) (by decide) (by decide) (by omega)]
      exact R8 i hi
  · have fo := fo_cty (t := gTx G n)
    rw [ec] at fo
    unfold eCty at h
    rw [ec] at h
    rw [if_neg (nI_ne0 (by have := fo.1; omega) (by have := fo.2; omega))]
    refine fun S4 e4 S5 e5 => ?_
    have o : ∀ k, k ≠ 0 → k ≠ 2 → (k < 12 ∨ 24 ≤ k) → S5 k = S k := fun k a1 a2 a3 => by
      rw [e5, up_ne _ _ _ a1, e4, up_ne _ _ _ a2, f3 k a3, f1 k a1]
    refine h S5 ⟨⟨LC_fr R1 (fun k h1 h2 => o k (by omega) (by omega) (by omega)), BkC_of R2 (fun k h1 h2 => o k (by omega) (by omega) (by omega)), ?_, fun b hb => BkC_of (R4 b hb) (fun k h1 h2 => o k (by omega) (by omega) (by omega)), ?_, fun i hi => absurd hi (Nat.not_lt_zero i), ?_, fun i hi => ?_⟩, fun k hk => o k (by omega) (by omega) (by omega)⟩
    · rw [e5, up_same, upd_ne _ _ (by decide), e4, up_ne _ _ _ (by decide), f3 0 (by omega), e1, up_same, upd_ne _ _ (by decide)]
      exact R3
    · show S5 0 1 = nI 0
      rw [e5, up_same, upd_ne _ _ (by decide), e4, up_ne _ _ _ (by decide), f3 0 (by omega), e1, up_same, upd_same]
      rfl
    · show S5 0 2 = nI g.2
      rw [e5, up_same, upd_same, e4, up_ne _ _ _ (by decide)]
      exact v2
    · show S5 2 i = upd (gr G) 0 (gr G 0 + 1) i
      rw [e5, up_ne _ _ _ (by decide), e4, up_same, f3 2 (by omega), f1 2 (by decide)]
      by_cases e : i = 0
      · rw [e, upd_same, upd_same, R8 0 (by decide)]
      · rw [upd_ne _ _ e, upd_ne _ _ e]
        exact R8 i hi
theorem i_cty {n : Nat} (hG : GInv G) (hn : n ≤ gtn G) : GInv (eCty G n).2 := by
  have t700 : gtn G ≤ 700 := hG.2.2.2.1
  unfold eCty
  cases ec : pCty (gTx G n) with
  | inl g =>
    obtain ⟨g1, g2, g3, g4, g5⟩ := hG
    exact ⟨g1, g2, g3, Nat.zero_le _, fun i hi => absurd hi (Nat.not_lt_zero i)⟩
  | inr K =>
    have hK : KOk K := pCty_ok (show n ≤ 700 by omega) ec
    refine ⟨hK.1, ⟨⟨fun x hx => ⟨⟨K.2 5 x, (hK.2.1 x hx).1, rfl⟩, ⟨K.2 6 x, (hK.2.1 x hx).2, rfl⟩, Or.inl rfl⟩, fun p hp => ⟨⟨K.2 1 p, (hK.2.2.1 p hp).1, rfl⟩, ⟨K.2 4 p, (hK.2.2.1 p hp).2, rfl⟩⟩⟩, Nat.zero_le _, fun j hj => absurd hj (Nat.not_lt_zero j), Nat.zero_le _, fun j hj => absurd hj (Nat.not_lt_zero j)⟩, (fun b hb => by cases hb), Nat.zero_le _, fun i hi => absurd hi (Nat.not_lt_zero i)⟩
end XC2
