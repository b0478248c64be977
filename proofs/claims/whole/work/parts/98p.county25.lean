section CTT
variable {G : Gst} {S : St} {E : zX} {d : Nat} {Q : Int32 → St → Prop}
theorem m_county {a : Int32} (hd : 20 ≤ d) (hG : GInv G) (hR : RelM G S) (h : ngC G a = false → ∀ S', ME (eCty G (tN a)).2 S S' → S' 65 0 = 0 → Q (eCty G (tN a)).1 S') (hX : ngC G a = true → ∀ S', QM S S' → S' 65 0 = 1 → Q 0 S') : k_m_county E d S a Q := by
  have t700 : gtn G ≤ 700 := hG.2.2.2.1
  have R5 : S 65 11 = nI (gtn G) := hR.2.2.2.2.1
  have R6 := hR.2.2.2.2.2.1
  refine w_m_county (by omega) (fun S1 e1 => ?_)
  have q1 : QM S S1 := by
    rw [e1]
    exact QM_up _ (by decide)
  have z1 : S1 65 0 = 0 := by rw [e1, up_same, upd_same]
  have r11 : S1 65 11 = nI (gtn G) := by
    rw [e1, up_same, upd_ne _ _ (by decide)]
    exact R5
  have bad : ngC G a = true → k_m_county_23 E d S1 a 0 Q := fun hb => by
    refine w_m_county_23 (by omega) (e_right0 z1 (by decide) ?_)
    rw [if_pos rfl]
    exact hX hb _ (q1.trans (QM_up _ (by decide))) (by rw [up_same, upd_same])
  rw [r11]
  refine ife (fun e => bad (decide_eq_true (Or.inl e))) (fun e => ?_)
  refine ife (fun e2 => bad (decide_eq_true (Or.inr ((lt_le (n := gtn G) (by omega)).mp e2)))) (fun e2 => ?_)
  rcases pk_ix a (n := gtn G + 1) (by omega) with g | g | ⟨n, hn1, ea⟩
  · exact absurd g e
  · exact absurd ((lt_le (n := gtn G) (by omega)).mpr g) e2
  subst ea
  have hf : ngC G (nI n) = false := decide_eq_false (fun g => by
    rcases g with g | g
    · exact e g
    · exact nI_ge (a := n) (b := gtn G + 1) hn1 (by omega) g)
  have h := h hf
  rw [tN_nI (by omega)] at h
  have tb := tx_b hG (show n ≤ gtn G by omega)
  refine w_m_county_23 (by omega) (e_right1 z1 ?_)
  rw [if_neg (by decide)]
  refine fun S3 e3 S4 e4 S5 e5 S6 e6 S7 e7 S8 e8 S9 e9 S10 e10 S11 e11 S12 e12 S13 e13 => ?_
  have o13 : ∀ k, k ≠ 65 → S13 k = S k := fun k hk => by
    rw [e13, up_ne _ _ _ hk, e12, up_ne _ _ _ hk, e11, up_ne _ _ _ hk, e10, up_ne _ _ _ hk, e9, up_ne _ _ _ hk, e8, up_ne _ _ _ hk, e7, up_ne _ _ _ hk, e6, up_ne _ _ _ hk, e5, up_ne _ _ _ hk, e4, up_ne _ _ _ hk, e3, up_ne _ _ _ hk, e1, up_ne _ _ _ hk]
  have v13 : ∀ i, S13 65 i = if i = 28 then -1 else if i = 27 then -1 else if i = 26 then 0 else if i = 25 then 0 else if i = 24 then 4 else if i = 23 then 4 else if i = 16 then 0 else if i = 15 then nI n else if i = 12 then 0 else if i = 13 then -1 else if i = 11 then 0 else if i = 0 then 0 else S 65 i := fun i => by
    rw [e13, up_same, e12, up_same, e11, up_same, e10, up_same, e9, up_same, e8, up_same, e7, up_same, e6, up_same, e5, up_same, e4, up_same, e3, up_same, e1, up_same]
    rfl
  clear e13 e12 e11 e10 e9 e8 e7 e6 e5 e4 e3
  have fc13 : ∀ S2 : St, (∀ k, k ≠ 73 → S2 k = S13 k) → FC S S2 := fun S2 f => by
    refine ⟨fun k hk => ?_, fun i hi => ?_, ?_, ?_⟩
    · rw [f k (fun e => hk (by rw [e]; decide)), o13 k (fun e => hk (by rw [e]; decide))]
    · rw [f 65 (by decide), v13 i, if_neg (by omega), if_neg (by omega), if_neg (by omega), if_neg (by omega), if_neg (by omega), if_neg (by omega), if_neg (by omega), if_neg (by omega), if_neg (by omega), if_neg (by omega), if_neg (by omega), if_neg (by omega)]
    · rw [f 65 (by decide), v13 11]
      rfl
    · rw [f 65 (by decide), v13 0]
      rfl
  -- the ends
  have endB : ∀ (S2 : St) (g : Nat × Nat), pCty (gTx G n) = .inl g → FC S S2 → FaN S2 g → k_m_county_183 E d S2 Q := fun S2 g ec f F => by
    unfold eCty at h
    rw [ec] at h
    exact e_ctyBad (by omega) hR f F h
  have endG : ∀ (S2 : St) (q : Nat) (K : Kst) (top : Nat), pCty (gTx G n) = .inr K → KOk K → FC S S2 → KM (gTx G n) S2 q K top → k_m_county_183 E d S2 Q := fun S2 q K top ec hK f R => by
    unfold eCty at h
    rw [ec] at h
    exact e_ctyGood (by omega) hK hR f R h
  have go : ∀ k, k ≤ 79 → ∀ S2 : St, (∀ k, k ≠ 73 → S2 k = S13 k) → (∀ i, i < k → S2 73 i = 0) → k_m_county_89 E d S2 k Q := by
    refine dn (P := fun k => ∀ S2 : St, (∀ k, k ≠ 73 → S2 k = S13 k) → (∀ i, i < k → S2 73 i = 0) → k_m_county_89 E d S2 k Q) 79 ?_ ?_
    · intro S2 f2 z2
      refine w_m_county_89 (by omega) ?_
      rw [if_pos (Int32.le_refl _)]
      refine fun T1 t1 => ?_
      have w1 : ∀ i, i ≠ 29 → T1 65 i = S13 65 i := fun i hi => by rw [t1, up_same, upd_ne _ _ hi, f2 65 (by decide)]
      have o1 : ∀ k, k ≠ 65 → T1 k = S2 k := fun k hk => by rw [t1, up_ne _ _ _ hk]
      have fc1 : FC S T1 := FC_fl (fc13 S2 f2) (by rw [t1]; exact FLn_65 (by omega))
      have tx1 : TxM (gTx G n) T1 := by
        refine ⟨show n ≤ 700 by omega, fun i hi => (tb i hi).1, ?_, fun i hi => ?_, ?_⟩
        · rw [w1 15 (by decide), v13 15]
          rfl
        · have hi : i < n := hi
          rw [o1 69 (by decide), f2 69 (by decide), o13 69 (by decide), R6 i (by omega)]
          exact (tb i hi).2
        · rw [w1 13 (by decide), v13 13]
          rfl
      refine e_goes (p := 0) (by omega) tx1 (by rw [w1 16 (by decide), v13 16]; rfl) (Nat.zero_le _) (fun T3 f3 K3 => ?_)
      have x3 : ∀ i, (i < 16 ∨ (22 ≤ i ∧ i < 1000)) → i ≠ 29 → T3 65 i = S13 65 i := fun i hi h9 => by rw [f3.2 i hi, w1 i h9]
      have fc3 : FC S T3 := FC_fl fc1 (FLn_ft f3)
      have KM3 : KM (gTx G n) T3 0 (l0, fun _ _ => 0) 0 := by
        refine KM_0 K3 ?_ ?_ ?_ ?_ ?_ ?_ ?_ ?_ (fun i hi => ?_)
        · rw [x3 12 (by omega) (by omega), v13 12]
          rfl
        · rw [x3 23 (by omega) (by omega), v13 23]
          rfl
        · rw [x3 24 (by omega) (by omega), v13 24]
          rfl
        · rw [x3 25 (by omega) (by omega), v13 25]
          rfl
        · rw [x3 26 (by omega) (by omega), v13 26]
          rfl
        · rw [x3 27 (by omega) (by omega), v13 27]
          rfl
        · rw [x3 28 (by omega) (by omega), v13 28]
          rfl
        · rw [f3.2 29 (by omega), t1, up_same, upd_same]
        · rw [f3.1 73 (by decide), o1 73 (by decide)]
          exact z2 i hi
      have g3 := KM3.2.1
      have tn : (gTx G n).1 ≤ 700 := show n ≤ 700 by omega
      refine e_knownWord (by omega) K3 ?_
      have kw : oI (kwd (gTx G n) 0) = 9 ↔ isW (gTx G n) 0 wDowns = true := by
        constructor
        · intro g
          cases e : kwd (gTx G n) 0 with
          | none =>
            rw [e] at g
            exact absurd g.symm (oI_ne (y := 9) (by omega))
          | some m =>
            have := (fstF_inv _ _ e).2.1
            rw [e] at g
            have g : nI m = nI 9 := g
            rw [nI_eq (by omega) (by omega)] at g
            rw [g] at e
            exact (kwd_iff (by omega)).mp e
        · intro g
          rw [(kwd_iff (k := 9) (by omega)).mpr g]
          rfl
      refine ife (fun e9 => ?_) (fun e9 => ?_)
      · have hw := kw.mp e9
        have s0 := step_p K3.2.1 (isW_k hw)
        refine e_nextM (by omega) K3 (fun T7 f7 K7 => ?_)
        have KM7 := KM_ft KM3 f7 K7 (by omega)
        have fc7 : FC S T7 := FC_fl fc3 (FLn_ft f7)
        have pc0 : ∀ g, (rdN (gTx G n) 1 6 (te (gTx G n) 0) = .inl g ∨ ∃ a, rdN (gTx G n) 1 6 (te (gTx G n) 0) = .inr a ∧ (rdN (gTx G n) 1 6 a.1 = .inl g ∨ ∃ b, rdN (gTx G n) 1 6 a.1 = .inr b ∧ rdS (gTx G n) 59 b.1 = .inl g)) → pCty (gTx G n) = .inl g := fun g hor => by
          unfold pCty
          rcases hor with e | ⟨a, ea, e | ⟨b, eb, e⟩⟩
          · simp only [if_pos hw, e]
          · simp only [if_pos hw, ea, e]
          · simp only [if_pos hw, ea, eb, e]
        refine e_number (lo := 1) (hi := 6) (by omega) K7 KM7.2.1 (by omega) (by omega) (fun T9 v ev f9 K9 => ?_) (fun T9 g x eg f9 F => ?_)
        · have s1 := rdN_r K7.2.1 ev
          have s1a : te (gTx G n) 0 < te (gTx G n) (te (gTx G n) 0) := s1.1
          refine fun T10 t10 => ?_
          have K10 : TkM (gTx G n) T10 (te (gTx G n) (te (gTx G n) 0)) := by
            rw [t10]
            exact TkM_i K9 (by omega)
          have fl10 : FLn T7 T10 := (FLn_ft f9).trans (by rw [t10]; exact FLn_65 (by omega))
          have g10 : T10 65 12 = 0 := by
            rw [t10, up_same, upd_ne _ _ (by decide), f9.2 12 (by omega)]
            exact KM7.2.1
          refine e_number (lo := 1) (hi := 6) (by omega) K10 g10 (by omega) (by omega) (fun T12 v2 ev2 f12 K12 => ?_) (fun T12 g x eg f12 F => ?_)
          · have s2 := rdN_r K10.2.1 ev2
            have s2a : te (gTx G n) (te (gTx G n) 0) < te (gTx G n) (te (gTx G n) (te (gTx G n) 0)) := s2.1
            refine fun T13 t13 => ?_
            have K13 : TkM (gTx G n) T13 (te (gTx G n) (te (gTx G n) (te (gTx G n) 0))) := by
              rw [t13]
              exact TkM_i K12 (by omega)
            have fl13 : FLn T7 T13 := (fl10.trans (FLn_ft f12)).trans (by rw [t13]; exact FLn_65 (by omega))
            have u13 : ∀ i, i ≠ 23 → i ≠ 24 → (i < 16 ∨ (22 ≤ i ∧ i < 1000)) → T13 65 i = T7 65 i := fun i a b c => by rw [t13, up_same, upd_ne _ _ b, f12.2 i c, t10, up_same, upd_ne _ _ a, f9.2 i c]
            have p13 : ∀ k, k ≠ 65 → T13 k = T7 k := fun k hk => by rw [t13, up_ne _ _ _ hk, f12.1 k (by rw [List.mem_singleton]; exact hk), t10, up_ne _ _ _ hk, f9.1 k (by rw [List.mem_singleton]; exact hk)]
            have KM13 : KM (gTx G n) T13 (te (gTx G n) (te (gTx G n) (te (gTx G n) 0))) (lMs l0 v v2, fun _ _ => 0) 0 := by
              refine KM_ms KM7 K13 (by omega) p13 u13 ?_ ?_
              · rw [t13, up_same, upd_ne _ _ (by decide), f12.2 23 (by omega), t10, up_same, upd_same]
              · rw [t13, up_same, upd_same]
            have k0 : KOk (lMs l0 v v2, fun _ _ => 0) := KOk_0 s1.2.2 s2.2.2
            refine e_needS (c := 59) (by omega) K13 KM13.2.1 (by omega) (fun T17 e17 f17 K17 => ?_) (fun T17 g e17 f17 F => ?_)
            · have s3 := (rdS_r K13.2.1 e17).1
              have pc : ∀ r, lns (gTx G n) 700 (te (gTx G n) (te (gTx G n) (te (gTx G n) (te (gTx G n) 0)))) (lMs l0 v v2, fun _ _ => 0) = r → pCty (gTx G n) = r := fun r er => by
                unfold pCty
                simp only [if_pos hw, ev, ev2, e17]
                exact er
              refine e_lns (by omega) 700 _ _ 0 T17 (by omega) k0 (KM_ft KM13 f17 K17 (by omega)) (fun S' q K' top' el hK fl R => ?_) (fun S' g el fl F => ?_)
              · exact endG S' q K' top' (pc _ el) hK (FC_fl (FC_fl (FC_fl fc7 fl13) (FLn_ft f17)) fl) R
              · exact endB S' g (pc _ el) (FC_fl (FC_fl (FC_fl fc7 fl13) (FLn_ft f17)) fl) F
            · exact e_162F (by omega) F (endB T17 g (pc0 g (Or.inr ⟨_, ev, Or.inr ⟨_, ev2, e17⟩⟩)) (FC_fl (FC_fl fc7 fl13) (FLn_f2 f17)) F)
          · refine fun T13 t13 => ?_
            have F13 : FaN T13 g := by
              rw [t13]
              exact ⟨by rw [up_same, upd_ne _ _ (by decide)]; exact F.1, by rw [up_same, upd_ne _ _ (by decide)]; exact F.2.1, F.2.2⟩
            have fl13 : FLn T7 T13 := (fl10.trans (FLn_f2 f12)).trans (by rw [t13]; exact FLn_65 (by omega))
            exact e_needX (by omega) F13 (e_162F (by omega) F13 (endB T13 g (pc0 g (Or.inr ⟨_, ev, Or.inl eg⟩)) (FC_fl fc7 fl13) F13))
        · refine fun T10 t10 => ?_
          have F10 : FaN T10 g := by
            rw [t10]
            exact ⟨by rw [up_same, upd_ne _ _ (by decide)]; exact F.1, by rw [up_same, upd_ne _ _ (by decide)]; exact F.2.1, F.2.2⟩
          have fl10 : FLn T7 T10 := (FLn_f2 f9).trans (by rw [t10]; exact FLn_65 (by omega))
          refine e_numberX (by omega) F10 (fun T13 t13 => ?_)
          have F13 : FaN T13 g := by
            rw [t13]
            exact ⟨by rw [up_same, upd_ne _ _ (by decide)]; exact F10.1, by rw [up_same, upd_ne _ _ (by decide)]; exact F10.2.1, F10.2.2⟩
          have fl13 : FLn T7 T13 := fl10.trans (by rw [t13]; exact FLn_65 (by omega))
          exact e_needX (by omega) F13 (e_162F (by omega) F13 (endB T13 g (pc0 g (Or.inl eg)) (FC_fl fc7 fl13) F13))
      · have hw : ¬ isW (gTx G n) 0 wDowns = true := fun g => e9 (kw.mpr g)
        have pc : pCty (gTx G n) = lns (gTx G n) 700 0 (l0, fun _ _ => 0) := by
          unfold pCty
          rw [if_neg hw]
        have k4 : KOk (l0, fun _ _ => 0) := by
          rw [← l0_ms]
          exact KOk_0 (by omega) (by omega)
        refine e_lns (by omega) 700 0 _ 0 T3 (by omega) k4 KM3 (fun S' q K' top' el hK fl R => ?_) (fun S' g el fl F => ?_)
        · exact endG S' q K' top' (pc.trans el) hK (FC_fl fc3 fl) R
        · exact endB S' g (pc.trans el) (FC_fl fc3 fl) F
    · intro k hk ih S2 f2 z2
      refine w_m_county_89 (by omega) ?_
      rw [if_neg (nI_ge (a := k) (b := 79) hk (by omega))]
      refine ⟨hk, fun T1 t1 => ih T1 (fun j hj => by rw [t1, up_ne _ _ _ hj, f2 j hj]) (fun i hi => ?_)⟩
      rw [t1, up_same]
      by_cases e : i = k
      · rw [e, upd_same]
      · rw [upd_ne _ _ e]
        exact z2 i (by omega)
  exact go 0 (by omega) S13 (fun _ _ => rfl) (fun i hi => absurd hi (Nat.not_lt_zero i))
end CTT
