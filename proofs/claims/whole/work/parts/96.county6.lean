/-! COUNTY in the class: lines, a whole text -/
section MS
variable {S : St} {E : zX} {d : Nat}
theorem c_measure {a0 w h : Nat} {Q : St → Prop} (ha : La a0) (hw : 1 ≤ w ∧ w ≤ 6) (hh : 1 ≤ h ∧ h ≤ 6) (hQ : ∀ S' : St, Fr [a0, a0 + 7, a0 + 8] S S' → (∀ i, 3 ≤ i → S' a0 i = S a0 i) → S' a0 0 = nI w → S' a0 1 = nI h → S' a0 2 = nI (w * h) → (∀ c, c < w * h → S' (a0 + 7) c = nI (c % w) ∧ S' (a0 + 8) c = nI (c / w)) → Q S') : k_Land_measure E d S a0 (nI w) (nI h) Q := by
  have w36 : w * h ≤ 36 := Nat.mul_le_mul hw.2 hh.2
  refine w_Land_measure ha (fun S1 e1 S2 e2 S3 e3 => ?_)
  have v0 : S3 a0 0 = nI w := by rw [e3, up_same, upd_ne _ _ (by decide), e2, up_same, upd_ne _ _ (by decide), e1, up_same, upd_same]
  have v1 : S3 a0 1 = nI h := by rw [e3, up_same, upd_ne _ _ (by decide), e2, up_same, upd_same]
  have v2 : S3 a0 2 = nI (w * h) := by rw [e3, up_same, upd_same, pk_mul]
  have f3 : Fr [a0, a0 + 7, a0 + 8] S S3 := by
    have g1 : Fr [a0, a0 + 7, a0 + 8] S S1 := by
      rw [e1]
      exact Fr.up _ _ (by simp)
    have g2 : Fr [a0, a0 + 7, a0 + 8] S S2 := g1.trans (by rw [e2]; exact Fr.up _ _ (by simp))
    exact g2.trans (by rw [e3]; exact Fr.up _ _ (by simp))
  have r3 : ∀ i, 3 ≤ i → S3 a0 i = S a0 i := fun i hi => by rw [e3, up_same, upd_ne _ _ (by omega), e2, up_same, upd_ne _ _ (by omega), e1, up_same, upd_ne _ _ (by omega)]
  have l22 : ∀ y, y ≤ h → ∀ S4 : St, Fr [a0 + 7, a0 + 8] S3 S4 → (∀ c, c < y * w → S4 (a0 + 7) c = nI (c % w) ∧ S4 (a0 + 8) c = nI (c / w)) → k_Land_measure_22 E d S4 a0 (nI w) (nI h) (y * w) y Q := by
    refine dn h ?_ (fun y hy ihy => ?_)
    · intro S4 f4 hc
      refine w_Land_measure_22 ha ?_
      rw [if_pos (Int32.le_refl _)]
      have e0 : S4 a0 = S3 a0 := f4 a0 (by simp)
      refine hQ S4 (f3.trans (f4.mono (fun k hk => by simp only [List.mem_cons, List.not_mem_nil, or_false] at hk ⊢; omega))) (fun i hi => by rw [e0]; exact r3 i hi) (by rw [e0]; exact v0) (by rw [e0]; exact v1) (by rw [e0]; exact v2) (fun c hcw => hc c (by rw [Nat.mul_comm]; exact hcw))
    · intro S4 f4 hc
      refine w_Land_measure_22 ha ?_
      rw [if_neg (nI_ge hy (by omega))]
      have yw : y * w + w ≤ w * h := by
        have := Nat.mul_le_mul_right w (show y + 1 ≤ h from hy)
        rw [Nat.succ_mul, Nat.mul_comm h w] at this
        exact this
      have l31 : ∀ x, x ≤ w → ∀ S5 : St, Fr [a0 + 7, a0 + 8] S3 S5 → (∀ c, c < y * w + x → S5 (a0 + 7) c = nI (c % w) ∧ S5 (a0 + 8) c = nI (c / w)) → k_Land_measure_31 E d S5 a0 (nI w) (nI h) (y * w + x) y x Q := by
        refine dn w ?_ (fun x hx ihx => ?_)
        · intro S5 f5 hc5
          refine w_Land_measure_31 ha ?_
          rw [if_pos (Int32.le_refl _)]
          have := ihy S5 f5 (by rw [Nat.succ_mul]; exact hc5)
          rw [Nat.succ_mul] at this
          exact this
        · intro S5 f5 hc5
          refine w_Land_measure_31 ha ?_
          rw [if_neg (nI_ge hx (by omega)), if_neg (nI_ge (show y * w + x < 36 by omega) (by omega))]
          refine ⟨by omega, fun S6 e6 => ⟨by omega, fun S7 e7 => ?_⟩⟩
          have f7 : Fr [a0 + 7, a0 + 8] S5 S7 := by
            have g : Fr [a0 + 7, a0 + 8] S5 S6 := by
              rw [e6]
              exact Fr.up _ _ (by simp)
            exact g.trans (by rw [e7]; exact Fr.up _ _ (by simp))
          refine ihx S7 (f5.trans f7) (fun c hc2 => ?_)
          rw [e7, up_same, up_ne _ _ _ (by omega), e6, up_same, up_ne _ _ _ (by omega)]
          by_cases e : c = y * w + x
          · rw [e, upd_same, upd_same]
            have m1 : (y * w + x) % w = x := by rw [Nat.mul_comm, Nat.mul_add_mod, Nat.mod_eq_of_lt hx]
            have m2 : (y * w + x) / w = y := by
              rw [Nat.mul_comm, Nat.mul_add_div (by omega), Nat.div_eq_of_lt hx, Nat.add_zero]
            rw [m1, m2]
            exact ⟨rfl, rfl⟩
          · rw [upd_ne _ _ e, upd_ne _ _ e]
            exact hc5 c (by omega)
      exact l31 0 (Nat.zero_le _) S4 f4 hc
  have := l22 0 (Nat.zero_le _) S3 (Fr.refl _ _) (fun c hc => absurd hc (by rw [Nat.zero_mul]; exact Nat.not_lt_zero c))
  rw [Nat.zero_mul] at this
  exact this
end MS
/-- what is told so far, in the class -/
def KLC (l : Lnd) (S : St) : Prop := S 13 0 = nI (lw l) ∧ S 13 1 = nI (lh l) ∧ S 13 2 = nI (lw l * lh l) ∧ S 13 3 = nI (lp l) ∧ S 13 4 = nI (lb l) ∧ (∀ i, i < lp l → S 14 i = nI (lhm l i)) ∧ (∀ x, x < lb l → S 15 x = nI (lsz l x)) ∧ RuC (lri l) (S 16 1) (S 17) ∧ RuC (lbu l) (S 18 1) (S 19)
def KXC (X : Xst) (S : St) : Prop := (∀ k i, k < 9 → i < cap k → S 23 (offC k + i) = sK X k i) ∧ S 23 1 = 0
/-- reading changes these alone -/
def FrL (S S' : St) : Prop := (∀ k, k < 12 ∨ 24 ≤ k → S' k = S k)
theorem FrL.refl (S : St) : FrL S S := fun _ _ => rfl
theorem FrL.trans {S S1 S2 : St} (h1 : FrL S S1) (h2 : FrL S1 S2) : FrL S S2 := fun k hk => (h2 k hk).trans (h1 k hk)
theorem FrL_fr {S S' : St} {ks : List Nat} (h : Fr ks S S') (hk : ∀ k, k ∈ ks → 12 ≤ k ∧ k < 24) : FrL S S' := fun k hq => h k (fun hm => by have := hk k hm; omega)
theorem FrL_12 {S S' : St} (h : Fr [12] S S') : FrL S S' := FrL_fr h (fun k hk => by rw [List.mem_singleton.mp hk]; omega)
theorem KLC_fr {l : Lnd} {S S' : St} (h : KLC l S) (f : ∀ k, 13 ≤ k → k ≤ 19 → S' k = S k) : KLC l S' := by
  unfold KLC
  rw [f 13 (by decide) (by decide), f 14 (by decide) (by decide), f 15 (by decide) (by decide), f 16 (by decide) (by decide), f 17 (by decide) (by decide), f 18 (by decide) (by decide), f 19 (by decide) (by decide)]
  exact h
theorem KXC_fr {X : Xst} {S S' : St} (h : KXC X S) (f : S' 23 = S 23) : KXC X S' := by
  unfold KXC
  rw [f]
  exact h
theorem KLC_12 {l : Lnd} {S S' : St} (h : KLC l S) (f : Fr [12] S S') : KLC l S' := KLC_fr h (fun k _ _ => f k (by rw [List.mem_singleton]; omega))
theorem KXC_12 {X : Xst} {S S' : St} (h : KXC X S) (f : Fr [12] S S') : KXC X S' := KXC_fr h (f 23 (by decide))
theorem sK_up {X : Xst} {k i v a b : Nat} (hk : k = 1 ∨ k = 4 ∨ k = 5 ∨ k = 6) : sK (uX X k i v) a b = if a = k ∧ b = i then nI v else sK X a b := by
  unfold sK
  by_cases e : a = k
  · subst e
    have h8 : ¬ a = 8 := by omega
    rw [if_neg h8, if_neg h8, if_pos hk, if_pos hk, uX_s]
    by_cases e2 : b = i
    · rw [if_pos ⟨rfl, e2⟩, e2, upN_s]
    · rw [if_neg (fun g => e2 g.2), upN_n _ _ e2]
  · rw [if_neg (show ¬ (a = k ∧ b = i) from fun g => e g.1), uX_n _ _ _ e]
theorem KXC_up {X : Xst} {S : St} {k i v : Nat} (h : KXC X S) (hk : k = 1 ∨ k = 4 ∨ k = 5 ∨ k = 6) (hi : i < cap k) : KXC (uX X k i v) (up S 23 (offC k + i) (nI v)) := by
  have c10 := cap_10
  refine ⟨fun a b ha hb => ?_, ?_⟩
  · rw [up_same, sK_up hk]
    by_cases e : a = k ∧ b = i
    · rw [if_pos e, e.1, e.2, upd_same]
    · rw [if_neg e, upd_ne _ _ (fun g => e ?_)]
      · exact h.1 a b ha hb
      · have := c10 a
        have := c10 k
        exact offC_inj a ha k (by omega) b (by omega) i (by omega) hb hi g
  · have := c10 k
    rw [up_same, upd_ne _ _ (Ne.symm (offC_1 k (by omega) i (by omega) hi).1)]
    exact h.2
section LN
variable {t : Txt} {S : St} {E : zX} {d : Nat} {p : Nat} {K : Kst}
/-- the whole state of reading -/
def KC (t : Txt) (S : St) (p : Nat) (K : Kst) : Prop := TkC t S p ∧ KLC K.1 S ∧ KXC K.2 S ∧ S 12 3 = 0
theorem c_readSignG {c : Nat} {Q : Int32 → St → Prop} (hd : 10 ≤ d) (hE : TE E) (hT : TkC t S p) (hc : c < 256) (h1 : ∀ S' : St, rdS t c p = .inr (te t p) → F12 S S' → TkC t S' (te t p) → Q 1 S') (h0 : ∀ (S' : St) (g : Nat × Nat), rdS t c p = .inl g → Fr [12] S S' → S' 12 3 = nI g.1 → S' 12 2 = nI g.2 → Q 0 S') : k_Reader_readSign E d S (nI c) Q := by
  refine w_Reader_readSign (by omega) (c_isSign hT hc (izb (fun e => ?_) (fun e => ?_)))
  · exact c_nextG (by omega) hE hT (fun S' f T' => h1 S' (by unfold rdS; rw [if_pos e]) f T')
  · exact c_failG (c := 1) hT (fun S' f v3 v2 => h0 S' (1, tf t p) (by unfold rdS; rw [if_neg e]) f v3 v2)
theorem c_readCell {cells : Nat} {Q : Int32 → St → Prop} (hd : 12 ≤ d) (hE : TE E) (hT : TkC t S p) (hc : S 13 2 = nI cells) (hc1 : 1 ≤ cells) (hc6 : cells ≤ 36) (h1 : ∀ (S' : St) (v : Nat), rdC t cells p = .inr (te t p, v) → G12 S S' → S' 12 11 = nI v → TkC t S' (te t p) → Q 1 S') (h0 : ∀ (S' : St) (g : Nat × Nat), rdC t cells p = .inl g → Fr [12] S S' → S' 12 3 = nI g.1 → S' 12 2 = nI g.2 → Q 0 S') : k_Reader_readCell E d S Q := by
  have t4 := tk_4 (t := t) (p := p)
  have num : ∀ (he : tk t p = 2 → 4 < te t p - tf t p ∨ nv t p < cells), k_Reader_readNumber E (d - 1) S 0 ((S 13 2) - (1 : Int32)) (fun x S2 => (x = 0 ∨ x = 1) ∧ Q x S2) := fun he => by
    rw [hc, show (1 : Int32) = nI 1 from rfl, pk_sub hc1]
    refine c_readNumber (lo := 0) (hi := cells - 1) (by omega) hE hT (by omega) (by omega) (fun S' v ev f v11 T' => ⟨Or.inr rfl, h1 S' v ?_ f v11 T'⟩) (fun S' g eg f v3 v2 => ⟨Or.inl rfl, h0 S' g ?_ f v3 v2⟩)
    · unfold rdN at ev
      unfold rdC
      split at ev
      · rename_i e
        rw [if_pos e]
        split at ev
        · cases ev
        · rw [if_neg (by omega), if_neg (by omega)]
          exact ev
      · cases ev
    · unfold rdN at eg
      unfold rdC
      split at eg
      · rename_i e
        rw [if_pos e]
        have := he e
        split at eg
        · rw [if_pos (by omega)]
          exact eg
        · cases eg
      · rename_i e
        rw [if_neg e]
        exact eg
  refine w_Reader_readCell (by omega) ?_
  rw [hT.2.2.2.2.1]
  refine ife (fun e => ?_) (fun e => ?_)
  · have e : nI (tk t p) = nI 2 := e
    rw [nI_eq (by omega) (by omega)] at e
    obtain ⟨g10, g9⟩ := hT.2.2.2.2.2 e
    rw [g10]
    refine izb (fun l4 => ?_) (fun l4 => ?_)
    · exact num (fun _ => Or.inl l4)
    · have n9 := nv_le e l4
      rw [g9 l4, hc]
      refine ife (fun b => ?_) (fun b => ?_)
      · rw [nI_ltI (by omega) (by omega)] at b
        have := num (fun _ => Or.inr b)
        rw [hc] at this
        exact this
      · rw [nI_ltI (by omega) (by omega)] at b
        refine c_failG (c := 3) hT (fun S' f v3 v2 => h0 S' (3, tf t p) ?_ f v3 v2)
        unfold rdC
        rw [if_pos e, if_neg l4, if_pos (by omega)]
  · have e : ¬ nI (tk t p) = nI 2 := e
    rw [nI_eq (by omega) (by omega)] at e
    exact num (fun g => absurd g e)
/-- what reading a line comes to -/
def LnC (t : Txt) (f : Nat → Rl) (k : St → (Int32 → St → Prop) → Prop) (K : Kst) : Prop := ∀ (S : St) (p : Nat) (Q : Int32 → St → Prop), KC t S p K → (∀ (S' : St) (a : Nat × Kst), f p = .inr a → FrL S S' → S' 12 5 = S 12 5 → KC t S' a.1 a.2 → Q 1 S') → (∀ (S' : St) (g : Nat × Nat), f p = .inl g → FrL S S' → S' 12 3 = nI g.1 → S' 12 2 = nI g.2 → Q 0 S') → k S Q
theorem TkC_up {S' : St} (h : TkC t S p) (e : S' 12 = S 12) (e1 : S' 1 = S 1) : TkC t S' p := by
  unfold TkC TxC at h ⊢
  rw [e, e1]
  exact h
theorem c_readPerson (hd : 16 ≤ d) (hE : TE E) (hK : KOk K) : LnC t (fun p => pPer t K p) (fun S Q => k_Reader_readPerson E d S Q) K := by
  intro S p Q hR h1 h0
  obtain ⟨hT, hL, hX, h3⟩ := hR
  have hlo := hK.1
  have p7 := hlo.p7
  have c1 : 1 ≤ lw K.1 * lh K.1 := Nat.mul_pos hlo.1 hlo.2.2.1
  have c36 := hlo.c36
  have eP : pPer t K p = if 7 ≤ lp K.1 then .inl (2, tf t p) else match rdC t (lw K.1 * lh K.1) (te t p) with
    | .inl g => .inl g
    | .inr a => match rdN t 0 9 a.1 with
      | .inl g => .inl g
      | .inr b => match rdN t 0 99 b.1 with
        | .inl g => .inl g
        | .inr c => pEnd t c.1 (lPn K.1 a.2, uX (uX K.2 4 (lp K.1) b.2) 1 (lp K.1) c.2) := rfl
  have h1 : ∀ (S' : St) (a : Nat × Kst), pPer t K p = .inr a → FrL S S' → S' 12 5 = S 12 5 → KC t S' a.1 a.2 → Q 1 S' := h1
  have h0 : ∀ (S' : St) (g : Nat × Nat), pPer t K p = .inl g → FrL S S' → S' 12 3 = nI g.1 → S' 12 2 = nI g.2 → Q 0 S' := h0
  refine w_Reader_readPerson (by omega) ?_
  rw [hL.2.2.2.1]
  refine ife (fun e => ?_) (fun e => ?_)
  · have e : nI (lp K.1) < nI 7 := e
    rw [nI_ltI (by omega) (by omega)] at e
    rw [if_neg (by omega)] at eP
    refine c_nextG (by omega) hE hT (fun S2 f2 T2 => ?_)
    have L2 := KLC_12 hL f2.1
    refine c_readCell (by omega) hE T2 L2.2.2.1 c1 c36 (fun S4 c ec f4 v11 T4 => ?_) (fun S4 g eg f4 v3 v2 => ?_)
    · rw [ec] at eP
      simp only at eP
      rw [if_neg (by decide)]
      refine ⟨lp K.1, rfl, e, fun S5 e5 => ?_⟩
      have T5 : TkC t S5 (te t (te t p)) := TkC_up T4 (by rw [e5, up_ne _ _ _ (by decide)]) (by rw [e5, up_ne _ _ _ (by decide)])
      refine c_readNumber (lo := 0) (hi := 9) (by omega) hE T5 (by omega) (by omega) (fun S8 m em f8 w11 T8 => ?_) (fun S8 g eg f8 v3 v2 => ?_)
      · rw [em] at eP
        simp only at eP
        rw [if_neg (by decide), w11]
        refine w_Scene_setMild sc22 ⟨by omega, fun S9 e9 => ?_⟩
        have T9 : TkC t S9 (te t (te t (te t p))) := TkC_up T8 (by rw [e9, up_ne _ _ _ (by decide)]) (by rw [e9, up_ne _ _ _ (by decide)])
        refine c_readNumber (lo := 0) (hi := 99) (by omega) hE T9 (by omega) (by omega) (fun S12 v ev f12 x11 T12 => ?_) (fun S12 g eg f12 v3 v2 => ?_)
        · rw [ev] at eP
          simp only at eP
          rw [if_neg (by decide), x11]
          have rv := rdN_r T9.2.1 ev
          have v99 : v ≤ 99 := rv.2.2.2
          refine w_Scene_setTemper (by omega) sc22 ⟨by omega, fun S14 e14 S15 e15 => ?_⟩
          have em99 : m99 (nI v) = nI v := by
            unfold m99
            exact if_neg (show ¬ (99 : Int32) < nI v from nI_nlt (a := 99) v99 (by omega))
          have e14 : S14 = up S12 23 (9 + lp K.1) (nI v) := by
            rw [← em99]
            exact e14
          -- all that changed
          have k12 : S15 12 = S12 12 := by rw [e15, up_ne _ _ _ (by decide), e14, up_ne _ _ _ (by decide)]
          have T15 : TkC t S15 (te t (te t (te t (te t p)))) := TkC_up T12 k12 (by rw [e15, up_ne _ _ _ (by decide), e14, up_ne _ _ _ (by decide)])
          have ch : ∀ k, k ≠ 12 → k ≠ 13 → k ≠ 14 → k ≠ 23 → S15 k = S k := fun k a1 a2 a3 a4 => by
            rw [e15, up_ne _ _ _ a2, e14, up_ne _ _ _ a4, f12.1 k (by rw [List.mem_singleton]; exact a1), e9, up_ne _ _ _ a4, f8.1 k (by rw [List.mem_singleton]; exact a1), e5, up_ne _ _ _ a3, f4.1 k (by rw [List.mem_singleton]; exact a1), f2.1 k (by rw [List.mem_singleton]; exact a1)]
          have c13 : ∀ i, i ≠ 3 → S15 13 i = S 13 i := fun i hi => by
            rw [e15, up_same, upd_ne _ _ hi, e14, up_ne _ _ _ (by decide), f12.1 13 (by decide), e9, up_ne _ _ _ (by decide), f8.1 13 (by decide), e5, up_ne _ _ _ (by decide), f4.1 13 (by decide), f2.1 13 (by decide)]
          have d13 : S15 13 3 = nI (lp K.1 + 1) := by
            rw [e15, up_same, upd_same, e14, up_ne _ _ _ (by decide), f12.1 13 (by decide), e9, up_ne _ _ _ (by decide), f8.1 13 (by decide), e5, up_ne _ _ _ (by decide), f4.1 13 (by decide), f2.1 13 (by decide), hL.2.2.2.1, nI_1]
          have c14 : ∀ i, i < lp K.1 + 1 → S15 14 i = nI (upN K.1.2.1 (lp K.1) c i) := fun i hi => by
            rw [e15, up_ne _ _ _ (by decide), e14, up_ne _ _ _ (by decide), f12.1 14 (by decide), e9, up_ne _ _ _ (by decide), f8.1 14 (by decide), e5, up_same]
            by_cases e : i = lp K.1
            · rw [e, upd_same, upN_s]
              exact v11
            · rw [upd_ne _ _ e, upN_n _ _ e, f4.1 14 (by decide), f2.1 14 (by decide)]
              exact hL.2.2.2.2.2.1 i (by omega)
          have cx : KXC (uX (uX K.2 4 (lp K.1) m) 1 (lp K.1) v) S15 := by
            have x4 : KXC K.2 S8 := KXC_fr hX (by rw [f8.1 23 (by decide), e5, up_ne _ _ _ (by decide), f4.1 23 (by decide), f2.1 23 (by decide)])
            have x9 : KXC (uX K.2 4 (lp K.1) m) S9 := by
              rw [e9]
              exact KXC_up (k := 4) x4 (by omega) e
            have x12 := KXC_12 x9 f12.1
            have x14 : KXC (uX (uX K.2 4 (lp K.1) m) 1 (lp K.1) v) S14 := by
              rw [e14]
              exact KXC_up (k := 1) x12 (by omega) e
            exact KXC_fr x14 (by rw [e15, up_ne _ _ _ (by decide)])
          have cl : KLC (lPn K.1 c) S15 := by
            obtain ⟨b0, b1, b2, b3, b4, b5, b6, b7, b8⟩ := hL
            refine ⟨?_, ?_, ?_, d13, ?_, c14, ?_, ?_, ?_⟩
            · rw [c13 0 (by decide)]
              exact b0
            · rw [c13 1 (by decide)]
              exact b1
            · rw [c13 2 (by decide)]
              exact b2
            · rw [c13 4 (by decide)]
              exact b4
            · rw [ch 15 (by decide) (by decide) (by decide) (by decide)]
              exact b6
            · rw [ch 16 (by decide) (by decide) (by decide) (by decide), ch 17 (by decide) (by decide) (by decide) (by decide)]
              exact b7
            · rw [ch 18 (by decide) (by decide) (by decide) (by decide), ch 19 (by decide) (by decide) (by decide) (by decide)]
              exact b8
          have z3 : S15 12 3 = 0 ∧ S15 12 5 = S 12 5 := by
            rw [k12, f12.2 3 (by decide), f12.2 5 (by decide), e9, up_ne _ _ _ (by decide), f8.2 3 (by decide), f8.2 5 (by decide), e5, up_ne _ _ _ (by decide), f4.2 3 (by decide), f4.2 5 (by decide), f2.2 3 (by decide), f2.2 5 (by decide)]
            exact ⟨h3, rfl⟩
          have fl : FrL S S15 := fun k hk => ch k (by omega) (by omega) (by omega) (by omega)
          refine c_readSignG (by omega) hE T15 (c := 59) (by omega) (fun S17 es f17 T17 => ⟨Or.inr rfl, ?_⟩) (fun S17 g es f17 v3 v2 => ⟨Or.inl rfl, ?_⟩)
          · refine h1 S17 (te t (te t (te t (te t (te t p)))), (lPn K.1 c, uX (uX K.2 4 (lp K.1) m) 1 (lp K.1) v)) ?_ (fl.trans (FrL_12 f17.1)) (by rw [f17.2 5 (by decide)]; exact z3.2) ⟨T17, KLC_12 cl f17.1, KXC_12 cx f17.1, by rw [f17.2 3 (by decide)]; exact z3.1⟩
            rw [eP]
            unfold pEnd
            rw [es]
          · refine h0 S17 g ?_ (fl.trans (FrL_12 f17)) v3 v2
            rw [eP]
            unfold pEnd
            rw [es]
        · rw [eg] at eP
          rw [if_pos rfl]
          refine h0 S12 g eP (fun k hk => ?_) v3 v2
          rw [f12 k (by rw [List.mem_singleton]; omega), e9, up_ne _ _ _ (by omega), f8.1 k (by rw [List.mem_singleton]; omega), e5, up_ne _ _ _ (by omega), f4.1 k (by rw [List.mem_singleton]; omega), f2.1 k (by rw [List.mem_singleton]; omega)]
      · rw [eg] at eP
        rw [if_pos rfl]
        refine h0 S8 g eP (fun k hk => ?_) v3 v2
        rw [f8 k (by rw [List.mem_singleton]; omega), e5, up_ne _ _ _ (by omega), f4.1 k (by rw [List.mem_singleton]; omega), f2.1 k (by rw [List.mem_singleton]; omega)]
    · rw [eg] at eP
      rw [if_pos rfl]
      exact h0 S4 g eP ((FrL_12 f2.1).trans (FrL_12 f4)) v3 v2
  · have e : ¬ nI (lp K.1) < nI 7 := e
    rw [nI_ltI (by omega) (by omega)] at e
    rw [if_pos (by omega)] at eP
    exact c_failG (c := 2) hT (fun S' f v3 v2 => h0 S' _ eP (FrL_12 f) v3 v2)
end LN
