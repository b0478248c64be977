/-! THE REFERENCE: a day whole; what is told of a row -/
section MW
variable {l : Lnd} {S : St} {E : zX} {d o : Nat} {A : Scn}
/-- kinds that days leave -/
theorem pdayK {k : Nat} (hk : k = 5 ∨ k = 9 ∨ k = 4) (p : Nat) (r : Scn × Nat × Nat) : (pday l p r).1 k = r.1 k := by
  unfold pday
  simp only
  have e0 : ua r.1 1 p (m99 (r.1 1 p + rise l r.1 p)) k = r.1 k := ua_ne _ _ _ (by omega)
  generalize ua r.1 1 p (m99 (r.1 1 p + rise l r.1 p)) = B at e0 ⊢
  split
  · exact e0
  · unfold goO
    cases nw l B p with
    | none =>
      show ua (ua B 2 p (B 2 p + 1)) 1 p (B 1 p / 2) k = r.1 k
      rw [ua_ne _ _ _ (by omega), ua_ne _ _ _ (by omega)]
      exact e0
    | some x =>
      show ua (fill B x (B 1 p) (nI p)) 1 p 0 k = r.1 k
      unfold fill
      rw [ua_ne _ _ _ (by omega), ua_ne _ _ _ (by omega), ua_ne _ _ _ (by omega), ua_ne _ _ _ (by omega)]
      exact e0
theorem agesK {k : Nat} (hk : k ≠ 7) (n : Nat) : zfo (fun x (A : Scn) => if held A x then ua A 7 x (A 7 x + 1) else A) n A k = A k := zfo_inv (P := fun A' : Scn => A' k = A k) (fun j A' _ h => by
  show (if held A' j then ua A' 7 j (A' 7 j + 1) else A') k = A k
  split
  · rw [ua_ne _ _ _ hk, h]
  · exact h) rfl
theorem goFK {k : Nat} (hk : k = 5 ∨ k = 9 ∨ k = 4 ∨ k = 0 ∨ k = 2) (T : Nat) : goF l A T k = A k := by
  unfold goF
  refine zfo_inv (P := fun A' : Scn => A' k = A k) (fun j A' _ h => ?_) (zfo_inv (P := fun A' : Scn => A' k = A k) (fun j A' _ h => ?_) rfl)
  · show (if T.testBit j then fill A' j 0 (-1) else A') k = A k
    split
    · unfold fill
      rw [ua_ne _ _ _ (by omega), ua_ne _ _ _ (by omega), ua_ne _ _ _ (by omega)]
      exact h
    · exact h
  · unfold hear
    rw [ua_ne _ _ _ (by omega), ua_ne _ _ _ (by omega)]
    exact h
theorem bstK {k : Nat} (hk : k = 5 ∨ k = 9 ∨ k = 4 ∨ k = 0 ∨ k = 2) (s : Nat) : (bst l A s).1 k = A k := by
  unfold bst
  split
  · rfl
  · exact goFK hk _
theorem dayK {k : Nat} (hk : k = 5 ∨ k = 9 ∨ k = 4) : (dayF l A).1 k = A k := by
  unfold dayF
  show ua _ 0 0 _ k = A k
  rw [ua_ne _ _ _ (by omega), bstK (by omega)]
  unfold ages
  rw [agesK (by omega)]
  exact zfo_inv (P := fun r : Scn × Nat × Nat => r.1 k = A k) (fun j r _ h => (pdayK hk j r).trans h) rfl
theorem GOk_of {A' : Scn} (h : GOk l A) (e : A' 9 = A 9) : GOk l A' := by
  unfold GOk
  rw [e]
  exact h
theorem day5 : COk l A → COk l (dayF l A).1 := fun h => COk_of h (dayK (Or.inl rfl))
theorem day9 : GOk l A → GOk l (dayF l A).1 := fun h => GOk_of h (dayK (Or.inr (Or.inl rfl)))
theorem upd_self (f : Nat → Int32) (i : Nat) : upd f i (f i) = f := by
  funext j
  unfold upd
  split
  · rename_i e
    rw [e]
  · rfl
theorem e_dayGoes {e1 : Nat} {e2 : Int32} {Q : St → Prop} (hd : 5 ≤ d) (hL : LM l S) (ho : o ≤ 79) (hA : ScM l (S 77) o A) (hO : COk l A) (hG : GOk l A) (h45 : S 65 45 = nI e1) (h46 : S 65 46 = e2) (h47 : S 65 47 = nI 0) (h48 : S 65 48 = nI 0) (h : ∀ S', FM o S S' → ScM l (S' 77) o (dayF l A).1 → S' 65 45 = nI (e1 ||| (dayF l A).2.2.2) → S' 65 46 = e2 + nI (cnt (dayF l A).2.2.2 10) → S' 65 47 = nI (dayF l A).2.1 → S' 65 48 = nI (dayF l A).2.2.1 → Q S') : k_m_dayGoes E d S (nI o) Q := by
  have b10 := hL.ok.b10
  have p7 := hL.ok.p7
  have hL' : ∀ S', FM o S S' → LM l S' := fun S' f => LM_fm hL f
  refine w_m_dayGoes (by omega) ?_
  refine dn (P := fun k => ∀ S', FM o S S' → Ev S S' [45, 46] → ScM l (S' 77) o (zfo (pday l) k (A, 0, 0)).1 → S' 65 47 = nI (zfo (pday l) k (A, 0, 0)).2.1 → S' 65 48 = nI (zfo (pday l) k (A, 0, 0)).2.2 → k_m_dayGoes_2 E d S' o (nI k) Q) (lp l) ?_ ?_ 0 (Nat.zero_le _) S (FM.refl _ _) (Ev.refl _ _) hA h47 h48
  · intro S3 F3 V3 A3 o3 s3
    have L3 := hL' S3 F3
    refine w_m_dayGoes_2 (by omega) (ilp (lp l) L3.p (by omega) (by omega) (fun _ => ?_) (fun h => absurd h (Nat.lt_irrefl _)))
    unfold dayF at h
    simp only at h
    have K3 : ∀ k, k = 5 ∨ k = 9 ∨ k = 4 → (zfo (pday l) (lp l) (A, 0, 0)).1 k = A k := fun k hk => zfo_inv (P := fun r : Scn × Nat × Nat => r.1 k = A k) (fun j r _ h => (pdayK hk j r).trans h) rfl
    generalize zfo (pday l) (lp l) (A, 0, 0) = r at h A3 o3 s3 K3
    obtain ⟨B, oo, ss⟩ := r
    have A3 : ScM l (S3 77) o B := A3
    have OB : COk l B := COk_of hO (K3 5 (by omega))
    have GB : GOk l B := GOk_of hG (K3 9 (by omega))
    have o3 : S3 65 47 = nI oo := o3
    have s3 : S3 65 48 = nI ss := s3
    have h : ∀ S', FM o S S' → ScM l (S' 77) o (ua (bst l (ages l B) (ripM l (ages l B))).1 0 0 ((bst l (ages l B) (ripM l (ages l B))).1 0 0 + 1)) → S' 65 45 = nI (e1 ||| (bst l (ages l B) (ripM l (ages l B))).2) → S' 65 46 = e2 + nI (cnt (bst l (ages l B) (ripM l (ages l B))).2 10) → S' 65 47 = nI oo → S' 65 48 = nI ss → Q S' := h
    refine e_heldOnes (by omega) L3 ho A3 ?_
    have hM : heldM l B < 2 ^ 31 := Nat.lt_of_lt_of_le (mkN_lt _ _) (Nat.pow_le_pow_right (by decide) (by omega))
    refine dn (P := fun k => ∀ S', FM o S S' → Ev S3 S' [45, 46, 47, 48] → ScM l (S' 77) o (zfo (fun x (A : Scn) => if held A x then ua A 7 x (A 7 x + 1) else A) k B) → k_m_dayGoes_30 E d S' o (nI (heldM l B)) (nI k) Q) (lb l) ?_ ?_ 0 (Nat.zero_le _) S3 F3 (Ev.refl _ _) A3
    · intro S4 F4 V4 A4
      have L4 := hL' S4 F4
      refine w_m_dayGoes_30 (by omega) (ilp (lb l) L4.b (by omega) (by omega) (fun _ => ?_) (fun h => absurd h (Nat.lt_irrefl _)))
      have A4 : ScM l (S4 77) o (ages l B) := A4
      have KC : ∀ k, k ≠ 7 → ages l B k = B k := fun k hk => agesK hk _
      generalize ages l B = C at h A4 KC
      have OC : COk l C := COk_of OB (KC 5 (by omega))
      have GC : GOk l C := GOk_of GB (KC 9 (by omega))
      have hHB : heldM l B = heldM l C := by
        unfold heldM held
        rw [KC 6 (by omega)]
      rw [hHB] at hM ⊢
      refine dn (P := fun k => ∀ S', FM o S S' → Ev S3 S' [45, 46, 47, 48] → ScM l (S' 77) o C → k_m_dayGoes_68 E d S' o (nI (heldM l C)) (nI (mkN (fun x => held C x && rip l C x) k)) k Q) (lb l) ?_ ?_ 0 (Nat.zero_le _) S4 F4 V4 A4
      · intro S5 F5 V5 A5
        have L5 := hL' S5 F5
        have x45 : S5 65 45 = nI e1 := by rw [V5 45 (by decide), V3 45 (by decide), h45]
        have x46 : S5 65 46 = e2 := by rw [V5 46 (by decide), V3 46 (by decide), h46]
        have x47 : S5 65 47 = nI oo := by rw [V5 47 (by decide), o3]
        have x48 : S5 65 48 = nI ss := by rw [V5 48 (by decide), s3]
        have fin : ∀ S6, FM o S S6 → ScM l (S6 77) o (bst l C (ripM l C)).1 → S6 65 45 = nI (e1 ||| (bst l C (ripM l C)).2) → S6 65 46 = e2 + nI (cnt (bst l C (ripM l C)).2 10) → S6 65 47 = nI oo → S6 65 48 = nI ss → k_m_dayGoes_125 E d S6 o Q := by
          intro S6 F6 A6 y45 y46 y47 y48
          have h0 : 0 < rng l 0 := Nat.one_pos
          refine w_m_dayGoes_125 (by omega) ⟨by omega, by omega, fun S7 e7 => ?_⟩
          rw [show S6 77 (o + 0) = (bst l C (ripM l C)).1 0 0 from A6 0 0 (by decide) h0] at e7
          have A7 := ScM_set (k := 0) (i := 0) (v := (bst l C (ripM l C)).1 0 0 + 1) hL.ok A6 (by decide) h0
          have e7 : S7 = up S6 77 (o + offM 0 + 0) ((bst l C (ripM l C)).1 0 0 + 1) := e7
          rw [← e7] at A7
          refine h S7 ?_ A7 ?_ ?_ ?_ ?_
          · rw [e7]
            exact F6.trans (FM_row _ _ (by show o ≤ o + 0 + 0; omega) (by show o + 0 + 0 < o + 79; omega))
          · rw [e7, up_ne _ _ _ (by decide), y45]
          · rw [e7, up_ne _ _ _ (by decide), y46]
          · rw [e7, up_ne _ _ _ (by decide), y47]
          · rw [e7, up_ne _ _ _ (by decide), y48]
        refine w_m_dayGoes_68 (by omega) (ilp (lb l) L5.b (by omega) (by omega) (fun _ => ?_) (fun h => absurd h (Nat.lt_irrefl _)))
        have hlt : ripM l C < 2 ^ lb l := mkN_lt _ _
        have hr31 : ripM l C < 2 ^ 31 := Nat.lt_of_lt_of_le hlt (Nat.pow_le_pow_right (by decide) (by omega))
        show if nI (ripM l C) = 0 then _ else _
        refine ife (fun er => ?_) (fun er => ?_)
        · have er : ripM l C = 0 := by
            rcases Nat.eq_zero_or_pos (ripM l C) with h0 | h0
            · exact h0
            · exact absurd er (nI_ne0 h0 hr31)
          refine fin S5 F5 ?_ ?_ ?_ x47 x48
          · unfold bst
            rw [if_pos er]
            exact A5
          · unfold bst
            rw [if_pos er, x45]
            rw [show e1 ||| (C, 0).2 = e1 from Nat.or_zero _]
          · unfold bst
            rw [if_pos er, x46, show cnt (C, 0).2 10 = 0 from (by decide : cnt 0 10 = 0)]
            show e2 = e2 + 0
            exact (Int32.add_zero _).symm
        · have er : ¬ ripM l C = 0 := fun e2 => er (by rw [e2]; rfl)
          refine e_goOff (by omega) L5 ho A5 OC GC hlt (fun S6 F6 A6 V6 y45 y46 _ => ?_)
          have eb : bst l C (ripM l C) = (goOff l C (ripM l C), clo l C (freM l C) (ripM l C)) := if_neg er
          refine fin S6 (F5.trans F6) ?_ ?_ ?_ ?_ ?_
          · rw [eb]
            exact A6
          · rw [eb, y45, x45, nI_or]
            rfl
          · rw [eb, y46, x46]
            rfl
          · rw [V6 47 (by decide), x47]
          · rw [V6 48 (by decide), x48]
      · intro k hk ih S5 F5 V5 A5
        have L5 := hL' S5 F5
        refine w_m_dayGoes_68 (by omega) (ilp (lb l) L5.b (by omega) (by omega) (fun h => by omega) (fun _ => ?_))
        rw [nI_sbit hM (by omega), nI_or0]
        refine ife (fun hc => ?_) (fun hc => ?_)
        · rw [zb_1, held_bit] at hc
          refine e_bursts (by omega) L5 ho A5 OC hk (fun S6 f6 => ?_)
          have F6 : FM o S S6 := F5.trans (FM_fr f6)
          have V6 : Ev S3 S6 [45, 46, 47, 48] := V5.trans (Ev_fr f6)
          have A6 : ScM l (S6 77) o C := by
            rw [f6 77 (by decide)]
            exact A5
          refine izb (fun hr => ?_) (fun hr => ?_)
          · rw [mkN_or (by omega) (by rw [hc.2, hr]; rfl)]
            exact ih S6 F6 V6 A6
          · rw [mkN_no (by rw [hc.2]; simpa using hr)]
            exact ih S6 F6 V6 A6
        · rw [zb_1, held_bit] at hc
          rw [mkN_no (by
            have : held C k = false := by
              cases hh : held C k with
              | false => rfl
              | true => exact absurd ⟨hk, hh⟩ hc
            rw [this]
            rfl)]
          exact ih S5 F5 V5 A5
    · intro k hk ih S4 F4 V4 A4
      have L4 := hL' S4 F4
      have e : zfo (fun x (A : Scn) => if held A x then ua A 7 x (A 7 x + 1) else A) (k + 1) B = (if held (zfo (fun x (A : Scn) => if held A x then ua A 7 x (A 7 x + 1) else A) k B) k then ua (zfo (fun x (A : Scn) => if held A x then ua A 7 x (A 7 x + 1) else A) k B) 7 k ((zfo (fun x (A : Scn) => if held A x then ua A 7 x (A 7 x + 1) else A) k B) 7 k + 1) else (zfo (fun x (A : Scn) => if held A x then ua A 7 x (A 7 x + 1) else A) k B)) := rfl
      have K6 : (zfo (fun x (A : Scn) => if held A x then ua A 7 x (A 7 x + 1) else A) k B) 6 = B 6 := agesK (by omega) k
      rw [e] at ih
      generalize zfo (fun x (A : Scn) => if held A x then ua A 7 x (A 7 x + 1) else A) k B = C at ih A4 K6
      refine w_m_dayGoes_30 (by omega) (ilp (lb l) L4.b (by omega) (by omega) (fun h => by omega) (fun _ => ?_))
      refine ⟨o + 49 + k, nI_add _ _, by omega, o + 49 + k, nI_add _ _, by omega, fun S5 e5 => ?_⟩
      rw [nI_1, nI_sbit hM (by omega)] at *
      have a7 : S4 77 (o + 49 + k) = C 7 k := A4 7 k (by decide) hk
      rw [a7] at e5
      have F5 : FM o S S5 := by
        rw [e5]
        exact F4.trans (FM_row _ _ (by omega) (by omega))
      have V5 : Ev S3 S5 [45, 46, 47, 48] := by
        rw [e5]
        exact V4.trans (Ev_row _ _)
      refine ih S5 F5 V5 ?_
      by_cases hh : held C k = true
      · rw [if_pos hh]
        have hb : (heldM l B).testBit k = true := held_bit.mpr ⟨hk, by unfold held at hh ⊢; rw [← K6]; exact hh⟩
        rw [zb_t hb] at e5
        rw [e5]
        exact ScM_set (k := 7) (i := k) (v := C 7 k + 1) hL.ok A4 (by decide) hk
      · rw [if_neg hh]
        have hb : ¬ (heldM l B).testBit k = true := fun hb => hh (by
          have := (held_bit.mp hb).2
          unfold held at this ⊢
          rw [K6]
          exact this)
        rw [zb_f hb, Int32.add_zero, ← a7] at e5
        rw [e5, up_same, upd_self]
        exact A4
  · intro k hk ih S3 F3 V3 A3 o3 s3
    have L3 := hL' S3 F3
    refine w_m_dayGoes_2 (by omega) (ilp (lp l) L3.p (by omega) (by omega) (fun h => by omega) (fun _ => ?_))
    have O3 : COk l (zfo (pday l) k (A, 0, 0)).1 := COk_of hO (zfo_inv (P := fun r : Scn × Nat × Nat => r.1 5 = A 5) (fun j r _ h => (pdayK (Or.inl rfl) j r).trans h) rfl)
    refine e_rises (by omega) L3 ho A3 O3 hk o3 s3 (fun S4 F4 A4 V4 o4 s4 => ?_)
    rw [nI_1]
    exact ih S4 (F3.trans F4) (V3.trans V4) A4 o4 s4
theorem e_begins0 {Q : St → Prop} (h : ∀ S', FM o S S' → S' 77 = S 77 → S' 65 45 = nI 0 → S' 65 46 = 0 → S' 65 47 = nI 0 → S' 65 48 = nI 0 → Q S') : k_m_begins0 E d S Q := by
  refine w_m_begins0 (fun S1 e1 S2 e2 S3 e3 S4 e4 => ?_)
  refine h S4 ?_ ?_ ?_ ?_ ?_ ?_
  · rw [e4, e3, e2, e1]
    exact (((FM_ev _ _ (by decide)).trans (FM_ev _ _ (by decide))).trans (FM_ev _ _ (by decide))).trans (FM_ev _ _ (by decide))
  · rw [e4, e3, e2, e1, up_ne _ _ _ (by decide), up_ne _ _ _ (by decide), up_ne _ _ _ (by decide), up_ne _ _ _ (by decide)]
  · rw [e4, e3, e2, e1, up_same, upd_ne _ _ (by decide), up_same, upd_ne _ _ (by decide), up_same, upd_ne _ _ (by decide), up_same, upd_same]
    rfl
  · rw [e4, e3, e2, up_same, upd_ne _ _ (by decide), up_same, upd_ne _ _ (by decide), up_same, upd_same]
  · rw [e4, e3, up_same, upd_ne _ _ (by decide), up_same, upd_same]
    rfl
  · rw [e4, up_same, upd_same]
    rfl
theorem e_dayOf {Q : St → Prop} (hd : 6 ≤ d) (hL : LM l S) (ho : o ≤ 79) (hA : ScM l (S 77) o A) (hO : COk l A) (hG : GOk l A) (h : ∀ S', FM o S S' → ScM l (S' 77) o (dayF l A).1 → S' 65 45 = nI (dayF l A).2.2.2 → S' 65 46 = nI (cnt (dayF l A).2.2.2 10) → S' 65 47 = nI (dayF l A).2.1 → S' 65 48 = nI (dayF l A).2.2.1 → Q S') : k_m_dayOf E d S (nI o) Q := by
  refine w_m_dayOf (by omega) (e_begins0 (o := o) (fun S2 F2 r2 x45 x46 x47 x48 => ?_))
  refine e_dayGoes (by omega) (LM_fm hL F2) ho (by rw [r2]; exact hA) hO hG x45 x46 x47 x48 (fun S4 F4 A4 y45 y46 y47 y48 => h S4 (F2.trans F4) A4 ?_ ?_ y47 y48)
  · rw [y45, Nat.zero_or]
  · rw [y46, Int32.zero_add]
end MW
