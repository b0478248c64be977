/-! CALLS: cell, person, ball -/
section XE
variable {G : Gst} {S : St} {E : zX} {d : Nat} {Q : Int32 → St → Prop} {X : Nat → St → Prop}
theorem x_cell {a c : Int32} (hd : 20 ≤ d) (hG : GInv G) (hR : RelC G S) (hn : (S 1000 0).toNatClampNeg < 1000000) (h : cCell G a c = 0 → ∀ S', QC S S' → Q (vCell G a c) S') (hX : ∀ k, cCell G a c = k + 1 → X k (upT S)) : k_x_cell E d S a c Q X := by
  have c36 := hG.1.c36
  refine w_x_cell (by omega) (n_cell (by omega) hR.lc hn (fun x hx ea => ?_) (fun e => hX 0 (by unfold cCell cd3; rw [e]; rfl)))
  subst ea
  have e1 := ng_f (n := lw (gl G) * lh (gl G)) (x := x) (by omega) hx
  refine n_what (n := 1) (by omega) (by omega) hn (fun w hw ec => ?_) (fun e => hX 0 (by unfold cCell cd3; rw [e1, e]; rfl))
  subst ec
  have e2 := ng_f (n := 2) (x := w) (by omega) (by omega)
  have h := h (by unfold cCell cd3; rw [e1, e2]; rfl) S (QC.refl S)
  unfold vCell at h
  rw [tN_nI (by omega)] at h
  have hw : w = 0 ∨ w = 1 := by omega
  rcases hw with rfl | rfl
  · rw [if_pos e00] at h ⊢
    exact c_over (by omega) hR.lc sc25 hR.sc hG.cok hx h
  · rw [if_neg (by decide)] at h ⊢
    exact c_nearestBall (by omega) hR.lc sc25 hR.sc hG.cok hx h
theorem m_cell {a c : Int32} (hd : 20 ≤ d) (hG : GInv G) (hR : RelM G S) (h : ∀ S' v, QM S S' → S' 65 0 = nI (cCell G a c) → (cCell G a c = 0 → v = vCell G a c) → Q v S') : k_m_cell E d S a c Q := by
  have b10 := hG.1.b10
  have c36 := hG.1.c36
  refine w_m_cell (by omega) (fun S1 e1 => ?_)
  have q1 : QM S S1 := by
    rw [e1]
    exact QM_up _ (by decide)
  have t1 : S1 65 0 = 0 := by rw [e1, up_same, upd_same]
  have L1 := LM_qm hR.lm q1
  have A1 : ScM (gl G) (S1 77) 0 (gA G) := ScM_lo hG.1 hR.sc (fun i hi => q1.2.2 i hi)
  refine e_isCell (by omega) L1 t1 (fun x hx ea => ?_) (fun e => ?_)
  · subst ea
    have g1 := ng_f (n := lw (gl G) * lh (gl G)) (x := x) (by omega) hx
    rw [if_neg (by decide)]
    refine e_isWhat (n := 1) (by omega) (by omega) t1 (fun w hw ec => ?_) (fun e => ?_)
    · subst ec
      have g2 := ng_f (n := 2) (x := w) (by omega) (by omega)
      have hc : cCell G (nI x) (nI w) = 0 := by unfold cCell cd3; rw [g1, g2]; rfl
      rw [if_neg (by decide)]
      have fin : ∀ v, v = vCell G (nI x) (nI w) → Q v S1 := fun v hv => h S1 v q1 (by rw [t1, hc]; rfl) (fun _ => hv)
      unfold vCell at fin
      rw [tN_nI (by omega)] at fin
      refine dn (P := fun k => k_m_cell_32 E d S1 (nI x) (nI w) (nI (mkN (fun y => held (gA G) y && rch (gl G) (gA G) y x) k)) (oI (bstF (fun _ => true) (fun u y => decide (far (lw (gl G)) (cel (gA G) u) x < far (lw (gl G)) (cel (gA G) y) x)) k)) k Q) (lb (gl G)) ?_ ?_ 0 (Nat.zero_le _)
      · refine w_m_cell_32 (by omega) (ilp (lb (gl G)) L1.b (by omega) (by omega) (fun _ => ?_) (fun h => absurd h (Nat.lt_irrefl _)))
        have hw : w = 0 ∨ w = 1 := by omega
        rcases hw with rfl | rfl
        · rw [if_pos e00] at fin ⊢
          exact fin _ rfl
        · rw [if_neg (by decide)] at fin ⊢
          exact fin _ rfl
      · intro k hk ih
        refine w_m_cell_32 (by omega) (ilp (lb (gl G)) L1.b (by omega) (by omega) (fun h => by omega) (fun _ => ?_))
        have hlt := bstF_lt (ok := fun _ => true) (lt := fun u y => decide (far (lw (gl G)) (cel (gA G) u) x < far (lw (gl G)) (cel (gA G) y) x)) k
        -- the second half: which is nearer
        have half : ∀ s1 : Int32, nI (mkN (fun y => held (gA G) y && rch (gl G) (gA G) y x) k) ||| s1 = nI (mkN (fun y => held (gA G) y && rch (gl G) (gA G) y x) (k + 1)) → k_m_cell_71 E d S1 (nI x) (nI w) (oI (bstF (fun _ => true) (fun u y => decide (far (lw (gl G)) (cel (gA G) u) x < far (lw (gl G)) (cel (gA G) y) x)) k)) k (nI (mkN (fun y => held (gA G) y && rch (gl G) (gA G) y x) k)) s1 Q := by
          intro s1 es
          refine w_m_cell_71 (by omega) ?_
          rw [es]
          have ih : k_m_cell_32 E d S1 (nI x) (nI w) (nI (mkN (fun y => held (gA G) y && rch (gl G) (gA G) y x) (k + 1))) (oI (bstS (fun _ => true) (fun u y => decide (far (lw (gl G)) (cel (gA G) u) x < far (lw (gl G)) (cel (gA G) y) x)) k (bstF (fun _ => true) (fun u y => decide (far (lw (gl G)) (cel (gA G) u) x < far (lw (gl G)) (cel (gA G) y) x)) k))) (k + 1) Q := ih
          cases hb : bstF (fun _ => true) (fun u y => decide (far (lw (gl G)) (cel (gA G) u) x < far (lw (gl G)) (cel (gA G) y) x)) k with
          | none =>
            rw [hb] at ih
            rw [if_pos (show oI none = -1 from rfl)]
            exact ih
          | some y =>
            rw [hb] at ih
            have hy := (hlt y hb).1
            rw [if_neg (show ¬ oI (some y) = -1 from oI_ne (by omega))]
            have g3 := far_lt hG.1.w6 hG.1.2.2.2.1 hG.1.w1 (hG.cok k hk).2 hx
            have g4 := far_lt hG.1.w6 hG.1.2.2.2.1 hG.1.w1 (hG.cok y (by omega)).2 hx
            refine ⟨by omega, ?_⟩
            rw [show S1 77 (29 + k) = gA G 5 k by rw [← A1 5 k (by decide) hk]; rw [show 0 + offM 5 + k = 29 + k by show 0 + 29 + k = 29 + k; omega]]
            refine e_farOf (by omega) L1 (hG.cok k hk).1 rfl (hG.cok k hk).2 hx ⟨29 + y, nI_add _ _, by omega, ?_⟩
            rw [show S1 77 (29 + y) = gA G 5 y by rw [← A1 5 y (by decide) (by show y < lb (gl G); omega)]; rw [show 0 + offM 5 + y = 29 + y by show 0 + 29 + y = 29 + y; omega]]
            refine e_farOf (by omega) L1 (hG.cok y (by omega)).1 rfl (hG.cok y (by omega)).2 hx ?_
            have e : bstS (fun _ => true) (fun u y => decide (far (lw (gl G)) (cel (gA G) u) x < far (lw (gl G)) (cel (gA G) y) x)) k (some y) = if decide (far (lw (gl G)) (cel (gA G) k) x < far (lw (gl G)) (cel (gA G) y) x) = true then some k else some y := rfl
            rw [e] at ih
            refine ife (fun hc => ?_) (fun hc => ?_)
            · rw [nI_leI (by omega) (by omega)] at hc
              rw [if_neg (by rw [decide_eq_true_eq]; omega)] at ih
              exact ih
            · rw [nI_leI (by omega) (by omega)] at hc
              rw [if_pos (by rw [decide_eq_true_eq]; omega)] at ih
              exact ih
        refine e_isWhite (o := 0) hG.1 (by omega) A1 hk (izb (fun e => ?_) (fun e => ?_))
        · refine half 0 ?_
          rw [nI_or0, mkN_no (by simp [held, e])]
        · refine e_isIn (o := 0) (by omega) L1 (by omega) A1 hG.cok hk rfl hx (izb (fun r => ?_) (fun r => ?_))
          · exact half (bt k) (mkN_or (by omega) (by rw [r]; simp [held, e]))
          · refine half 0 ?_
            rw [nI_or0, mkN_no (by simp [r])]
    · rw [if_pos rfl]
      have hc : cCell G (nI x) c = 1 := by unfold cCell cd3; rw [g1, show ng 2 c = true from decide_eq_true e]; rfl
      refine h _ _ (q1.trans (QM_up _ (by decide))) (by rw [up_same, upd_same, hc]; rfl) (fun h0 => by rw [hc] at h0; cases h0)
  · rw [if_pos rfl]
    have hc : cCell G a c = 1 := by unfold cCell cd3; rw [show ng (lw (gl G) * lh (gl G)) a = true from decide_eq_true e]; rfl
    refine h _ _ (q1.trans (QM_up _ (by decide))) (by rw [up_same, upd_same, hc]; rfl) (fun h0 => by rw [hc] at h0; cases h0)
/-! person -/
theorem sw_out {n : Nat} {c : Int32} (h : ng n c = true) (k : Nat) (hk : k < n) (hn : n < 1000) : ¬ c = nI k := fun e => by
  rw [e, ng_f (by omega) hk] at h
  cases h
theorem x_person {a c : Int32} (hd : 20 ≤ d) (hG : GInv G) (hR : RelC G S) (hn : (S 1000 0).toNatClampNeg < 1000000) (h : cPerson G a c = 0 → ∀ S', QC S S' → Q (vPerson G a c) S') (hX : ∀ k, cPerson G a c = k + 1 → X k (upT S)) : k_x_person E d S a c Q X := by
  have p7 := hG.1.p7
  refine w_x_person (by omega) (n_person (by omega) hR.lc hn (fun x hx ea => ?_) (fun e => hX 0 (by unfold cPerson cd3; rw [e]; rfl)))
  subst ea
  have e1 := ng_f (n := lp (gl G)) (x := x) (by omega) hx
  rcases pk_ix c (n := 7) (by omega) with g | g | ⟨w, hw, rfl⟩
  · have e := ng_t (n := 7) (Or.inl g)
    rw [if_neg (show ¬ c = 0 from sw_out e 0 (by omega) (by omega)), if_neg (show ¬ c = 1 from sw_out e 1 (by omega) (by omega)), if_neg (show ¬ c = 2 from sw_out e 2 (by omega) (by omega)), if_neg (show ¬ c = 3 from sw_out e 3 (by omega) (by omega)), if_neg (show ¬ c = 4 from sw_out e 4 (by omega) (by omega)), if_neg (show ¬ c = 5 from sw_out e 5 (by omega) (by omega)), if_neg (show ¬ c = 6 from sw_out e 6 (by omega) (by omega))]
    exact ⟨hn, hX 0 (by unfold cPerson cd3; rw [e1, e]; rfl)⟩
  · have e := ng_t (n := 7) (Or.inr g)
    rw [if_neg (show ¬ c = 0 from sw_out e 0 (by omega) (by omega)), if_neg (show ¬ c = 1 from sw_out e 1 (by omega) (by omega)), if_neg (show ¬ c = 2 from sw_out e 2 (by omega) (by omega)), if_neg (show ¬ c = 3 from sw_out e 3 (by omega) (by omega)), if_neg (show ¬ c = 4 from sw_out e 4 (by omega) (by omega)), if_neg (show ¬ c = 5 from sw_out e 5 (by omega) (by omega)), if_neg (show ¬ c = 6 from sw_out e 6 (by omega) (by omega))]
    exact ⟨hn, hX 0 (by unfold cPerson cd3; rw [e1, e]; rfl)⟩
  · have h := h (by unfold cPerson cd3; rw [e1, ng_f (n := 7) (by omega) hw]; rfl) S (QC.refl S)
    unfold vPerson at h
    rw [tN_nI (by omega)] at h
    have hw : w = 0 ∨ w = 1 ∨ w = 2 ∨ w = 3 ∨ w = 4 ∨ w = 5 ∨ w = 6 := by omega
    rcases hw with rfl | rfl | rfl | rfl | rfl | rfl | rfl
    · rw [if_pos e00] at h ⊢
      refine ⟨x, rfl, by omega, ?_⟩
      rw [hR.lc.hm hx]
      exact h
    · rw [if_neg (by decide), if_pos e11] at h ⊢
      exact c_mildOf hG.1 sc25 hR.sc hx h
    · rw [if_neg (by decide), if_neg (by decide), if_pos e22] at h ⊢
      exact c_temperOf hG.1 sc25 hR.sc hx h
    · rw [if_neg (by decide), if_neg (by decide), if_neg (by decide), if_pos e33] at h ⊢
      exact c_shoutedBy hG.1 sc25 hR.sc hx h
    · rw [if_neg (by decide), if_neg (by decide), if_neg (by decide), if_neg (by decide), if_pos e44] at h ⊢
      exact c_heardBy hG.1 sc25 hR.sc hx h
    · rw [if_neg (by decide), if_neg (by decide), if_neg (by decide), if_neg (by decide), if_neg (by decide), if_pos e55] at h ⊢
      exact c_ownedBy (by omega) hR.lc sc25 hR.sc h
    · rw [if_neg (by decide), if_neg (by decide), if_neg (by decide), if_neg (by decide), if_neg (by decide), if_neg (by decide)] at h ⊢
      rw [if_pos e66]
      exact c_nearestWhite (by omega) hR.lc sc25 hR.sc hG.cok hx (fun _ => h)
theorem m_person {a c : Int32} (hd : 20 ≤ d) (hG : GInv G) (hR : RelM G S) (h : ∀ S' v, QM S S' → S' 65 0 = nI (cPerson G a c) → (cPerson G a c = 0 → v = vPerson G a c) → Q v S') : k_m_person E d S a c Q := by
  have p7 := hG.1.p7
  refine w_m_person (by omega) (fun S1 e1 => ?_)
  have q1 : QM S S1 := by
    rw [e1]
    exact QM_up _ (by decide)
  have t1 : S1 65 0 = 0 := by rw [e1, up_same, upd_same]
  have L1 := LM_qm hR.lm q1
  have A1 : ScM (gl G) (S1 77) 0 (gA G) := ScM_lo hG.1 hR.sc (fun i hi => q1.2.2 i hi)
  have at0 : ∀ k i, k < 10 → i < rng (gl G) k → S1 77 (offM k + i) = gA G k i := fun k i hk hi => by
    rw [← A1 k i hk hi]
    congr 1
    omega
  refine e_isPerson (by omega) L1 t1 (fun x hx ea => ?_) (fun e => ?_)
  · subst ea
    have g1 := ng_f (n := lp (gl G)) (x := x) (by omega) hx
    rw [if_neg (by decide)]
    refine e_isWhat (n := 6) (by omega) (by omega) t1 (fun w hw ec => ?_) (fun e => ?_)
    · subst ec
      have g2 := ng_f (n := 7) (x := w) (by omega) (by omega)
      have hc : cPerson G (nI x) (nI w) = 0 := by unfold cPerson cd3; rw [g1, g2]; rfl
      rw [if_neg (by decide)]
      have fin : ∀ v, v = vPerson G (nI x) (nI w) → Q v S1 := fun v hv => h S1 v q1 (by rw [t1, hc]; rfl) (fun _ => hv)
      unfold vPerson at fin
      rw [tN_nI (by omega)] at fin
      have hw : w = 0 ∨ w = 1 ∨ w = 2 ∨ w = 3 ∨ w = 4 ∨ w = 5 ∨ w = 6 := by omega
      rcases hw with rfl | rfl | rfl | rfl | rfl | rfl | rfl
      · rw [if_pos e00] at fin ⊢
        exact ⟨x, rfl, by omega, fin _ (L1.hm hx)⟩
      · rw [if_neg (by decide), if_pos e11] at fin ⊢
        exact ⟨22 + x, nI_add _ _, by omega, fin _ (at0 4 x (by decide) hx)⟩
      · rw [if_neg (by decide), if_neg (by decide), if_pos e22] at fin ⊢
        exact ⟨1 + x, nI_add _ _, by omega, fin _ (at0 1 x (by decide) hx)⟩
      · rw [if_neg (by decide), if_neg (by decide), if_neg (by decide), if_pos e33] at fin ⊢
        exact ⟨8 + x, nI_add _ _, by omega, fin _ (at0 2 x (by decide) hx)⟩
      · rw [if_neg (by decide), if_neg (by decide), if_neg (by decide), if_neg (by decide), if_pos e44] at fin ⊢
        exact ⟨15 + x, nI_add _ _, by omega, fin _ (at0 3 x (by decide) hx)⟩
      · rw [if_neg (by decide), if_neg (by decide), if_neg (by decide), if_neg (by decide), if_neg (by decide), if_pos e55] at fin ⊢
        exact e_ownOnes (o := 0) L1 (by omega) A1 (fin _ rfl)
      · rw [if_neg (by decide), if_neg (by decide), if_neg (by decide), if_neg (by decide), if_neg (by decide), if_neg (by decide)] at fin ⊢
        exact e_ballFor (o := 0) (by omega) L1 (by omega) A1 hG.cok hx (fun _ => fin _ rfl)
    · rw [if_pos rfl]
      have hc : cPerson G (nI x) c = 1 := by unfold cPerson cd3; rw [g1, show ng 7 c = true from decide_eq_true e]; rfl
      refine h _ _ (q1.trans (QM_up _ (by decide))) (by rw [up_same, upd_same, hc]; rfl) (fun h0 => by rw [hc] at h0; cases h0)
  · rw [if_pos rfl]
    have hc : cPerson G a c = 1 := by unfold cPerson cd3; rw [show ng (lp (gl G)) a = true from decide_eq_true e]; rfl
    refine h _ _ (q1.trans (QM_up _ (by decide))) (by rw [up_same, upd_same, hc]; rfl) (fun h0 => by rw [hc] at h0; cases h0)
/-! ball -/
theorem sob_lt (hl : LOk (gl G)) (x : Nat) : sobM (gl G) (gA G) x < 1024 := by
  unfold sobM
  split
  · decide
  · exact mkN_lt10 hl.b10
theorem x_ball {a c : Int32} (hd : 20 ≤ d) (hG : GInv G) (hR : RelC G S) (hn : (S 1000 0).toNatClampNeg < 1000000) (h : cBall G a c = 0 → ∀ S', QC S S' → Q (vBall G a c) S') (hX : ∀ k, cBall G a c = k + 1 → X k (upT S)) : k_x_ball E d S a c Q X := by
  have b10 := hG.1.b10
  refine w_x_ball (by omega) (n_ball (by omega) hR.lc hn (fun x hx ea => ?_) (fun e => hX 0 (by unfold cBall cd3; rw [e]; rfl)))
  subst ea
  have e1 := ng_f (n := lb (gl G)) (x := x) (by omega) hx
  have bad : ng 8 c = true → k_x_ball E d S (nI x) c Q X ∨ True := fun _ => Or.inr trivial
  rcases pk_ix c (n := 8) (by omega) with g | g | ⟨w, hw, rfl⟩
  · have e := ng_t (n := 8) (Or.inl g)
    rw [if_neg (show ¬ c = 0 from sw_out e 0 (by omega) (by omega)), if_neg (show ¬ c = 1 from sw_out e 1 (by omega) (by omega)), if_neg (show ¬ c = 2 from sw_out e 2 (by omega) (by omega)), if_neg (show ¬ c = 3 from sw_out e 3 (by omega) (by omega)), if_neg (show ¬ c = 4 from sw_out e 4 (by omega) (by omega)), if_neg (show ¬ c = 5 from sw_out e 5 (by omega) (by omega)), if_neg (show ¬ c = 6 from sw_out e 6 (by omega) (by omega)), if_neg (show ¬ c = 7 from sw_out e 7 (by omega) (by omega))]
    exact ⟨hn, hX 0 (by unfold cBall cd3; rw [e1, e]; rfl)⟩
  · have e := ng_t (n := 8) (Or.inr g)
    rw [if_neg (show ¬ c = 0 from sw_out e 0 (by omega) (by omega)), if_neg (show ¬ c = 1 from sw_out e 1 (by omega) (by omega)), if_neg (show ¬ c = 2 from sw_out e 2 (by omega) (by omega)), if_neg (show ¬ c = 3 from sw_out e 3 (by omega) (by omega)), if_neg (show ¬ c = 4 from sw_out e 4 (by omega) (by omega)), if_neg (show ¬ c = 5 from sw_out e 5 (by omega) (by omega)), if_neg (show ¬ c = 6 from sw_out e 6 (by omega) (by omega)), if_neg (show ¬ c = 7 from sw_out e 7 (by omega) (by omega))]
    exact ⟨hn, hX 0 (by unfold cBall cd3; rw [e1, e]; rfl)⟩
  · have h := h (by unfold cBall cd3; rw [e1, ng_f (n := 8) (by omega) hw]; rfl)
    have hS := h S (QC.refl S)
    unfold vBall at h hS
    rw [tN_nI (by omega)] at h hS
    have hw : w = 0 ∨ w = 1 ∨ w = 2 ∨ w = 3 ∨ w = 4 ∨ w = 5 ∨ w = 6 ∨ w = 7 := by omega
    rcases hw with rfl | rfl | rfl | rfl | rfl | rfl | rfl | rfl
    · rw [if_pos e00] at hS ⊢
      exact c_cellOf hG.1 sc25 hR.sc hx hS
    · rw [if_neg (by decide), if_pos e11] at hS ⊢
      refine ⟨x, rfl, by omega, ?_⟩
      rw [hR.lc.sz hx]
      exact hS
    · rw [if_neg (by decide), if_neg (by decide), if_pos e22] at hS ⊢
      exact c_heldIn hG.1 sc25 hR.sc hx hS
    · rw [if_neg (by decide), if_neg (by decide), if_neg (by decide), if_pos e33] at hS ⊢
      exact c_ageOf hG.1 sc25 hR.sc hx hS
    · rw [if_neg (by decide), if_neg (by decide), if_neg (by decide), if_neg (by decide), if_pos e44] at hS ⊢
      exact c_ownerOf hG.1 sc25 hR.sc hx hS
    · rw [if_neg (by decide), if_neg (by decide), if_neg (by decide), if_neg (by decide), if_neg (by decide), if_pos e55] at hS ⊢
      refine c_isGuarded hG.1 sc25 hR.sc hx (izb (fun e => ?_) (fun e => ?_))
      · rw [zb_t e] at hS
        exact hS
      · rw [zb_f e] at hS
        exact hS
    · rw [if_neg (by decide), if_neg (by decide), if_neg (by decide), if_neg (by decide), if_neg (by decide), if_neg (by decide), if_pos e66] at h ⊢
      exact c_setOffBy (by omega) hR.lc sc25 hR.sc hG.cok hx (fun S' f _ => h S' (QC_fr f (fun k hk => by simp only [List.mem_cons, List.not_mem_nil, or_false] at hk; omega)))
    · rw [if_neg (by decide), if_neg (by decide), if_neg (by decide), if_neg (by decide), if_neg (by decide), if_neg (by decide), if_neg (by decide)] at h ⊢
      rw [if_pos e77]
      refine c_setOffBy (by omega) hR.lc sc25 hR.sc hG.cok hx (fun S' f _ => ?_)
      have A' : ScC (gl G) (S' 26) (gA G) := by
        rw [f 26 (by decide)]
        exact hR.sc
      exact c_hearers (by omega) (LC_dl sc25 hR.lc (fr_40 f)) sc25 A' hG.cok (h S' (QC_fr f (fun k hk => by simp only [List.mem_cons, List.not_mem_nil, or_false] at hk; omega)))
theorem e_setOffBy {l : Lnd} {A : Scn} {x : Nat} (hd : 5 ≤ d) (hL : LM l S) (hA : ScM l (S 77) 0 A) (hO : COk l A) (hGo : GOk l A) (hx : x < lb l) (h : Q (nI (sobM l A x)) S) : k_m_setOffBy E d S (nI x) Q := by
  have b10 := hL.ok.b10
  refine w_m_setOffBy (by omega) (e_isWhite (o := 0) hL.ok (by omega) hA hx (izb (fun e => ?_) (fun e => ?_)))
  · unfold sobM at h
    rw [if_pos e] at h
    exact h
  · unfold sobM at h
    rw [if_neg e] at h
    rw [bt_eq x (by omega)]
    refine e_free (o := 0) (by omega) hL (by omega) hA hGo (e_setOff (o := 0) (by omega) hL (by omega) hA hO (Nat.pow_lt_pow_right (by decide) hx) ?_ h)
    exact Nat.lt_of_lt_of_le (bits_lt (n := lb l) (fun i hi => by
      unfold freM
      rw [sdf_bit, show (heldM l A).testBit i = false from bit_ge (mkN_lt _ _) hi]
      rfl)) (Nat.pow_le_pow_right (by decide) (by omega))
theorem e_hearers {l : Lnd} {A : Scn} {T : Nat} (hd : 3 ≤ d) (hL : LM l S) (hA : ScM l (S 77) 0 A) (hO : COk l A) (hT : T < 1024) (h : Q (nI (hrsM l A T)) S) : k_m_hearers E d S (nI T) Q := by
  have b10 := hL.ok.b10
  have p7 := hL.ok.p7
  refine w_m_hearers (by omega) ?_
  refine dn (P := fun k => k_m_hearers_4 E d S (nI T) (nI (mkN (fun p => decide (0 < nhr l A T p (lb l))) k)) k Q) (lp l) ?_ ?_ 0 (Nat.zero_le _)
  · exact w_m_hearers_4 (by omega) (ilp (lp l) hL.p (by omega) (by omega) (fun _ => h) (fun h => absurd h (Nat.lt_irrefl _)))
  · intro k hk ih
    refine w_m_hearers_4 (by omega) (ilp (lp l) hL.p (by omega) (by omega) (fun h => by omega) (fun _ => ?_))
    generalize hM : mkN (fun p => decide (0 < nhr l A T p (lb l))) k = M at *
    refine dn (P := fun j => k_m_hearers_15 E d S (nI T) (nI (if 0 < nhr l A T k j then M ||| 2 ^ k else M)) k j Q) (lb l) ?_ ?_ 0 (Nat.zero_le _)
    · refine w_m_hearers_15 (by omega) (ilp (lb l) hL.b (by omega) (by omega) (fun _ => ?_) (fun h => absurd h (Nat.lt_irrefl _)))
      have e : mkN (fun p => decide (0 < nhr l A T p (lb l))) (k + 1) = if 0 < nhr l A T k (lb l) then M ||| 2 ^ k else M := by
        show (if decide (0 < nhr l A T k (lb l)) = true then mkN (fun p => decide (0 < nhr l A T p (lb l))) k ||| 2 ^ k else mkN (fun p => decide (0 < nhr l A T p (lb l))) k) = _
        rw [hM]
        simp only [decide_eq_true_eq]
      rw [← e]
      exact ih
    · intro j hj ihj
      refine w_m_hearers_15 (by omega) (ilp (lb l) hL.b (by omega) (by omega) (fun h => by omega) (fun _ => ?_))
      have en : nhr l A T k (j + 1) = if T.testBit j && rch l A j (lhm l k) then nhr l A T k j + 1 else nhr l A T k j := rfl
      rw [nI_sbit (by omega) (by omega), nI_or0]
      refine ife (fun hb => ?_) (fun hb => ?_)
      · rw [zb_1] at hb
        refine ⟨by omega, e_isIn (o := 0) (by omega) hL (by omega) hA hO hj (hL.hm hk) (hL.ok.hm hk) (izb (fun hr => ?_) (fun hr => ?_))⟩
        · have en : nhr l A T k (j + 1) = nhr l A T k j + 1 := by rw [en]; exact if_pos (by rw [hb, hr]; rfl)
          rw [en, if_pos (by omega)] at ihj
          rw [nI_orb (by omega)]
          have e : (if 0 < nhr l A T k j then M ||| 2 ^ k else M) ||| 2 ^ k = M ||| 2 ^ k := by
            split
            · rw [Nat.or_assoc, Nat.or_self]
            · rfl
          rw [e]
          exact ihj
        · have en : nhr l A T k (j + 1) = nhr l A T k j := by rw [en]; exact if_neg (by rw [hb]; simpa using hr)
          rw [en] at ihj
          exact ihj
      · rw [zb_1] at hb
        have en : nhr l A T k (j + 1) = nhr l A T k j := by rw [en]; exact if_neg (by simp [hb])
        rw [en] at ihj
        exact ihj
theorem m_ball {a c : Int32} (hd : 20 ≤ d) (hG : GInv G) (hR : RelM G S) (h : ∀ S' v, QM S S' → S' 65 0 = nI (cBall G a c) → (cBall G a c = 0 → v = vBall G a c) → Q v S') : k_m_ball E d S a c Q := by
  have b10 := hG.1.b10
  refine w_m_ball (by omega) (fun S1 e1 => ?_)
  have q1 : QM S S1 := by
    rw [e1]
    exact QM_up _ (by decide)
  have t1 : S1 65 0 = 0 := by rw [e1, up_same, upd_same]
  have L1 := LM_qm hR.lm q1
  have A1 : ScM (gl G) (S1 77) 0 (gA G) := ScM_lo hG.1 hR.sc (fun i hi => q1.2.2 i hi)
  have at0 : ∀ k i, k < 10 → i < rng (gl G) k → S1 77 (offM k + i) = gA G k i := fun k i hk hi => by
    rw [← A1 k i hk hi]
    congr 1
    omega
  refine e_isBall (by omega) L1 t1 (fun x hx ea => ?_) (fun e => ?_)
  · subst ea
    have g1 := ng_f (n := lb (gl G)) (x := x) (by omega) hx
    rw [if_neg (by decide)]
    refine e_isWhat (n := 7) (by omega) (by omega) t1 (fun w hw ec => ?_) (fun e => ?_)
    · subst ec
      have g2 := ng_f (n := 8) (x := w) (by omega) (by omega)
      have hc : cBall G (nI x) (nI w) = 0 := by unfold cBall cd3; rw [g1, g2]; rfl
      rw [if_neg (by decide)]
      have fin : ∀ v, v = vBall G (nI x) (nI w) → Q v S1 := fun v hv => h S1 v q1 (by rw [t1, hc]; rfl) (fun _ => hv)
      unfold vBall at fin
      rw [tN_nI (by omega)] at fin
      have hw : w = 0 ∨ w = 1 ∨ w = 2 ∨ w = 3 ∨ w = 4 ∨ w = 5 ∨ w = 6 ∨ w = 7 := by omega
      rcases hw with rfl | rfl | rfl | rfl | rfl | rfl | rfl | rfl
      · rw [if_pos e00] at fin ⊢
        exact ⟨29 + x, nI_add _ _, by omega, fin _ (at0 5 x (by decide) hx)⟩
      · rw [if_neg (by decide), if_pos e11] at fin ⊢
        exact ⟨x, rfl, by omega, fin _ (L1.sz hx)⟩
      · rw [if_neg (by decide), if_neg (by decide), if_pos e22] at fin ⊢
        exact ⟨39 + x, nI_add _ _, by omega, fin _ (at0 6 x (by decide) hx)⟩
      · rw [if_neg (by decide), if_neg (by decide), if_neg (by decide), if_pos e33] at fin ⊢
        exact ⟨49 + x, nI_add _ _, by omega, fin _ (at0 7 x (by decide) hx)⟩
      · rw [if_neg (by decide), if_neg (by decide), if_neg (by decide), if_neg (by decide), if_pos e44] at fin ⊢
        exact ⟨59 + x, nI_add _ _, by omega, fin _ (at0 8 x (by decide) hx)⟩
      · rw [if_neg (by decide), if_neg (by decide), if_neg (by decide), if_neg (by decide), if_neg (by decide), if_pos e55] at fin ⊢
        refine ⟨69 + x, nI_add _ _, by omega, fin _ ?_⟩
        rw [show S1 77 (69 + x) = gA G 9 x from at0 9 x (by decide) hx]
        rcases hG.gok x hx with e | e
        · rw [zb_f (by rw [e]; decide), e]
        · rw [zb_t e, e]
      · rw [if_neg (by decide), if_neg (by decide), if_neg (by decide), if_neg (by decide), if_neg (by decide), if_neg (by decide), if_pos e66] at fin ⊢
        exact e_setOffBy (by omega) L1 A1 hG.cok hG.gok hx (fin _ rfl)
      · rw [if_neg (by decide), if_neg (by decide), if_neg (by decide), if_neg (by decide), if_neg (by decide), if_neg (by decide), if_neg (by decide)] at fin ⊢
        exact e_setOffBy (by omega) L1 A1 hG.cok hG.gok hx (e_hearers (by omega) L1 A1 hG.cok (sob_lt hG.1 x) (fin _ rfl))
    · rw [if_pos rfl]
      have hc : cBall G (nI x) c = 1 := by unfold cBall cd3; rw [g1, show ng 8 c = true from decide_eq_true e]; rfl
      refine h _ _ (q1.trans (QM_up _ (by decide))) (by rw [up_same, upd_same, hc]; rfl) (fun h0 => by rw [hc] at h0; cases h0)
  · rw [if_pos rfl]
    have hc : cBall G a c = 1 := by unfold cBall cd3; rw [show ng (lb (gl G)) a = true from decide_eq_true e]; rfl
    refine h _ _ (q1.trans (QM_up _ (by decide))) (by rw [up_same, upd_same, hc]; rfl) (fun h0 => by rw [hc] at h0; cases h0)
end XE
