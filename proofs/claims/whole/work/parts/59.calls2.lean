/-! CALLS: first, later, ahead, stays, cell, person, ball, fault -/
def cPerson (G : Gst) (a c : Int32) : Nat := cd3 (ng (lp (gl G)) a) (ng 7 c) false
def vPerson (G : Gst) (a c : Int32) : Int32 := if c = 0 then nI (lhm (gl G) (tN a)) else if c = 1 then gA G 4 (tN a) else if c = 2 then gA G 1 (tN a) else if c = 3 then gA G 2 (tN a) else if c = 4 then gA G 3 (tN a) else if c = 5 then nI (ownM (gl G) (gA G) a) else oI (nw (gl G) (gA G) (tN a))
def cBall (G : Gst) (a c : Int32) : Nat := cd3 (ng (lb (gl G)) a) (ng 8 c) false
def hrsM (l : Lnd) (A : Scn) (T : Nat) : Nat := mkN (fun p => decide (0 < nhr l A T p (lb l))) (lp l)
noncomputable def vBall (G : Gst) (a c : Int32) : Int32 := if c = 0 then gA G 5 (tN a) else if c = 1 then nI (lsz (gl G) (tN a)) else if c = 2 then gA G 6 (tN a) else if c = 3 then gA G 7 (tN a) else if c = 4 then gA G 8 (tN a) else if c = 5 then zb (gA G 9 (tN a) = 1) else if c = 6 then nI (sobM (gl G) (gA G) (tN a)) else nI (hrsM (gl G) (gA G) (sobM (gl G) (gA G) (tN a)))
section XD
variable {G : Gst} {S : St} {E : zX} {d : Nat} {Q : Int32 → St → Prop} {X : Nat → St → Prop}
theorem e33 : nI 3 = (3 : Int32) := rfl
theorem e44 : nI 4 = (4 : Int32) := rfl
theorem e55 : nI 5 = (5 : Int32) := rfl
theorem e66 : nI 6 = (6 : Int32) := rfl
theorem e77 : nI 7 = (7 : Int32) := rfl
theorem e88 : nI 8 = (8 : Int32) := rfl
theorem e99 : nI 9 = (9 : Int32) := rfl
theorem e1010 : nI 10 = (10 : Int32) := rfl
theorem e1111 : nI 11 = (11 : Int32) := rfl
theorem e1212 : nI 12 = (12 : Int32) := rfl
theorem e1313 : nI 13 = (13 : Int32) := rfl
theorem e1414 : nI 14 = (14 : Int32) := rfl
theorem e1515 : nI 15 = (15 : Int32) := rfl
theorem e1616 : nI 16 = (16 : Int32) := rfl
theorem x_fault (hR : RelC G S) (h : Q (gf G) S) : k_x_fault E d S Q := by
  refine w_x_fault ?_
  rw [hR.2.2.2.2.2.2.1]
  exact h
theorem m_fault (hR : RelM G S) (h : ∀ S', QM S S' → Q (gf G) S') : k_m_fault E d S Q := by
  refine w_m_fault (fun S1 e1 => ?_)
  rw [show S1 65 13 = gf G by rw [e1, up_same, upd_ne _ _ (by decide)]; exact hR.2.2.2.2.2.2.1]
  refine h S1 ?_
  rw [e1]
  exact QM_up _ (by decide)
theorem x_first (hd : 20 ≤ d) (hG : GInv G) (hR : RelC G S) (h : ∀ S', QC S S' → Q (vFirst G) S') : k_x_first E d S Q := by
  refine w_x_first (by omega) (c_firstToBurst (by omega) hR.lc hR.sc hG.cok (fun n => evv_lt hG.1 0 n) (fun S' f => h S' (QC_dl f (by omega))))
theorem m_first (hd : 20 ≤ d) (hG : GInv G) (hR : RelM G S) (h : ∀ S', QM S S' → Q (vFirst G) S') : k_m_first E d S Q := by
  refine w_m_first (by omega) (fun S1 e1 => ?_)
  have q1 : QM S S1 := by
    rw [e1]
    exact QM_up _ (by decide)
  have L1 := LM_qm hR.lm q1
  unfold vFirst at h
  refine e_tries hG.1 (ScM_lo hG.1 hR.sc (fun i hi => q1.2.2 i hi)) (fun S5 f5 A5 e5 => ?_)
  refine dn (P := fun k => ∀ S', FM 79 S1 S' → ScM (gl G) (S' 77) 79 (dayN (gl G) (gA G) k) → (∀ j, j < k → evv (gl G) (gA G) 0 j = 0) → k_m_first_11 E d S' (k + 1) Q) 60 ?_ ?_ 0 (Nat.zero_le _) S5 f5 A5 (fun j hj => absurd hj (Nat.not_lt_zero j))
  · intro S6 f6 A6 hn
    refine w_m_first_11 (by omega) (ilt (by omega) (by omega) (fun _ => ?_) (fun h => by omega))
    have h := h S6 (q1.trans (QM_fm f6))
    rw [fstF_none 60 (fun j hj => by simp [hn j hj])] at h
    exact h
  · intro k hk ih S6 f6 A6 hn
    refine w_m_first_11 (by omega) (ilt (by omega) (by omega) (fun h => by omega) (fun _ => ?_))
    refine e_dayOf (o := 79) (by omega) (LM_fm L1 f6) (by omega) A6 (COk_dayN hG.cok k) (GOk_dayN hG.gok k) (fun S7 f7 A7 y45 _ _ _ => ?_)
    have lt := evv_lt (l := gl G) (A := gA G) hG.1 0 k
    rw [show S7 65 45 = nI (evv (gl G) (gA G) 0 k) from y45]
    refine ife (fun hb => ?_) (fun hb => ?_)
    · rw [nI_is0 (by omega)] at hb
      refine ih S7 (f6.trans f7) A7 (fun j hj => ?_)
      by_cases e : j = k
      · rw [e]
        exact hb
      · exact hn j (by omega)
    · rw [nI_is0 (by omega)] at hb
      refine e_lowest lt hb ?_
      have h := h S7 ((q1.trans (QM_fm f6)).trans (QM_fm f7))
      rw [fstF_some (k := k) (by simp [hb]) (fun j hj => by simp [hn j hj]) 60 hk] at h
      exact h
theorem x_later {b c : Int32} (hd : 20 ≤ d) (hG : GInv G) (hR : RelC G S) (hn : (S 1000 0).toNatClampNeg < 1000000) (h : cLater b c = 0 → ∀ S', QC S S' → Q (vLater G b c) S') (hX : ∀ k, cLater b c = k + 1 → X k (upT S)) : k_x_later E d S b c Q X := by
  refine w_x_later (by omega) (n_what (n := 3) (by omega) (by omega) hn (fun w hw ec => ?_) (fun e => hX 0 (by unfold cLater cd3; rw [e]; rfl)))
  subst ec
  have e2 := ng_f (n := 4) (x := w) (by omega) (by omega)
  refine n_days (lo := 0) (by omega) (by omega) hn (fun n _ hn6 eb => ?_) (fun e => hX 1 (by unfold cLater cd3; rw [e2, e]; rfl))
  subst eb
  have e3 := ngD_f (lo := 0) (x := n) (by omega) hn6
  have h := h (by unfold cLater cd3; rw [e2, e3]; rfl)
  unfold vLater at h
  rw [tN_nI (by omega)] at h
  have hw : w = 0 ∨ w = 1 ∨ w = 2 ∨ w = 3 := by omega
  rcases hw with rfl | rfl | rfl | rfl
  · rw [if_pos e00] at h ⊢
    exact c_bursts (by omega) hR.lc hR.sc hG.cok (fun n => evv_lt hG.1 0 n) hn6 (fun S' f => h S' (QC_dl f (by omega)))
  · rw [if_neg (by decide)] at h ⊢
    refine c_behind (by omega) hR.lc hR.sc hG.cok hn6 (fun S8 f8 A8 => ?_)
    rw [if_pos e11] at h ⊢
    exact c_heldByAll (by omega) (LC_dl sc44 hR.lc f8) sc44 A8 (h S8 (QC_dl f8 (by omega)))
  · rw [if_neg (by decide)] at h ⊢
    refine c_behind (by omega) hR.lc hR.sc hG.cok hn6 (fun S8 f8 A8 => ?_)
    rw [if_neg (by decide), if_pos e22] at h ⊢
    exact c_whites (by omega) (LC_dl sc44 hR.lc f8) sc44 A8 (h S8 (QC_dl f8 (by omega)))
  · rw [if_neg (by decide)] at h ⊢
    refine c_behind (by omega) hR.lc hR.sc hG.cok hn6 (fun S8 f8 A8 => ?_)
    rw [if_neg (by decide), if_neg (by decide)] at h ⊢
    exact c_crossest (by omega) (LC_dl sc44 hR.lc f8) sc44 A8 (h S8 (QC_dl f8 (by omega)))
theorem m_later {b c : Int32} (hd : 20 ≤ d) (hG : GInv G) (hR : RelM G S) (h : ∀ S' v, QM S S' → S' 65 0 = nI (cLater b c) → (cLater b c = 0 → v = vLater G b c) → Q v S') : k_m_later E d S b c Q := by
  have p7 := hG.1.p7
  refine w_m_later (by omega) (fun S1 e1 => ?_)
  have q1 : QM S S1 := by
    rw [e1]
    exact QM_up _ (by decide)
  have t1 : S1 65 0 = 0 := by rw [e1, up_same, upd_same]
  have L1 := LM_qm hR.lm q1
  refine e_isWhat (n := 3) (by omega) (by omega) t1 (fun w hw ec => ?_) (fun e => ?_)
  · subst ec
    have g2 := ng_f (n := 4) (x := w) (by omega) (by omega)
    rw [if_neg (by decide)]
    refine e_isSoon (lo := 0) (by omega) (by omega) t1 (fun n _ hn6 eb => ?_) (fun e => ?_)
    · subst eb
      have g3 := ngD_f (lo := 0) (x := n) (by omega) hn6
      have hc : cLater (nI n) (nI w) = 0 := by unfold cLater cd3; rw [g2, g3]; rfl
      rw [if_neg (by decide)]
      rw [hc] at h
      refine e_tries hG.1 (ScM_lo hG.1 hR.sc (fun i hi => q1.2.2 i hi)) (fun S5 f5 A5 e5 => ?_)
      refine dn (P := fun k => ∀ S', FM 79 S1 S' → ScM (gl G) (S' 77) 79 (dayN (gl G) (gA G) k) → k_m_later_35 E d S' (nI n) (nI w) (ofN (gl G) (gA G) k) (nI k) Q) n ?_ ?_ 0 (Nat.zero_le _) S5 f5 A5
      · intro S6 f6 A6
        have L6 := LM_fm L1 f6
        refine w_m_later_35 (by omega) (ilp n rfl (by omega) (by omega) (fun _ => ?_) (fun h => absurd h (Nat.lt_irrefl _)))
        have fin : ∀ v, v = vLater G (nI n) (nI w) → Q v S6 := fun v hv => h S6 v (q1.trans (QM_fm f6)) (by rw [f6.2.1 0 (by decide), t1]; rfl) (fun _ => hv)
        unfold vLater at fin
        rw [tN_nI (by omega)] at fin
        generalize dayN (gl G) (gA G) n = D at fin A6
        refine dn (P := fun k => k_m_later_66 E d S6 (nI w) (ofN (gl G) (gA G) n) (oI (bstF (fun _ => true) (fun x y => decide (D 1 y < D 1 x)) k)) k Q) (lp (gl G)) ?_ ?_ 0 (Nat.zero_le _)
        · refine w_m_later_66 (by omega) (ilp (lp (gl G)) L6.p (by omega) (by omega) (fun _ => ?_) (fun h => absurd h (Nat.lt_irrefl _)))
          have hw : w = 0 ∨ w = 1 ∨ w = 2 ∨ w = 3 := by omega
          rcases hw with rfl | rfl | rfl | rfl
          · rw [if_pos e00] at fin ⊢
            exact fin _ rfl
          · rw [if_neg (by decide), if_pos e11] at fin ⊢
            exact e_sumOf (o := 79) (k := 6) (by omega) A6 hG.1 (by decide) (Nat.le_refl _) L6.b (fin _ rfl)
          · rw [if_neg (by decide), if_neg (by decide), if_pos e22] at fin ⊢
            refine e_heldOnes (o := 79) (by omega) L6 (by omega) A6 ?_
            rw [L6.b, wht_of hG.1]
            exact fin _ rfl
          · rw [if_neg (by decide), if_neg (by decide), if_neg (by decide)] at fin ⊢
            exact fin _ rfl
        · intro k hk ih
          refine w_m_later_66 (by omega) (ilp (lp (gl G)) L6.p (by omega) (by omega) (fun h => by omega) (fun _ => ?_))
          have hlt := bstF_lt (ok := fun _ => true) (lt := fun x y => decide (D 1 y < D 1 x)) k
          have ih : k_m_later_66 E d S6 (nI w) (ofN (gl G) (gA G) n) (oI (bstS (fun _ => true) (fun x y => decide (D 1 y < D 1 x)) k (bstF (fun _ => true) (fun x y => decide (D 1 y < D 1 x)) k))) (k + 1) Q := ih
          cases hb : bstF (fun _ => true) (fun x y => decide (D 1 y < D 1 x)) k with
          | none =>
            rw [hb] at ih
            rw [if_pos (show oI none = -1 from rfl)]
            exact ih
          | some y =>
            rw [hb] at ih
            have hy := (hlt y hb).1
            rw [if_neg (show ¬ oI (some y) = -1 from oI_ne (by omega))]
            refine ⟨by omega, 80 + y, nI_add _ _, by omega, ?_⟩
            rw [show S6 77 (80 + k) = D 1 k from A6 1 k (by decide) hk, show S6 77 (80 + y) = D 1 y from A6 1 y (by decide) (by show y < lp (gl G); omega)]
            have e : bstS (fun _ => true) (fun x y => decide (D 1 y < D 1 x)) k (some y) = if decide (D 1 y < D 1 k) = true then some k else some y := rfl
            rw [e] at ih
            refine ife (fun hc => ?_) (fun hc => ?_)
            · rw [if_neg (by rw [decide_eq_true_eq]; exact Int32.not_lt.mpr hc)] at ih
              exact ih
            · rw [if_pos (by rw [decide_eq_true_eq]; exact Int32.not_le.mp hc)] at ih
              exact ih
      · intro k hk ih S6 f6 A6
        refine w_m_later_35 (by omega) (ilp n rfl (by omega) (by omega) (fun h => by omega) (fun _ => ?_))
        refine e_dayOf (o := 79) (by omega) (LM_fm L1 f6) (by omega) A6 (COk_dayN hG.cok k) (GOk_dayN hG.gok k) (fun S7 f7 A7 _ y46 _ _ => ?_)
        rw [y46, nI_1]
        exact ih S7 (f6.trans f7) A7
    · rw [if_pos rfl]
      have hc : cLater b (nI w) = 2 := by unfold cLater cd3; rw [g2, show ngD 0 b = true from decide_eq_true e]; rfl
      refine h _ _ (q1.trans (QM_up _ (by decide))) (by rw [up_same, upd_same, hc]; rfl) (fun h0 => by rw [hc] at h0; cases h0)
  · rw [if_pos rfl]
    have hc : cLater b c = 1 := by unfold cLater cd3; rw [show ng 4 c = true from decide_eq_true e]; rfl
    refine h _ _ (q1.trans (QM_up _ (by decide))) (by rw [up_same, upd_same, hc]; rfl) (fun h0 => by rw [hc] at h0; cases h0)
theorem x_ahead {b c : Int32} (hd : 20 ≤ d) (hG : GInv G) (hR : RelC G S) (hn : (S 1000 0).toNatClampNeg < 1000000) (h : cAhead b c = 0 → ∀ S', QC S S' → Q (vAhead G b c) S') (hX : ∀ k, cAhead b c = k + 1 → X k (upT S)) : k_x_ahead E d S b c Q X := by
  refine w_x_ahead (by omega) (n_what (n := 1) (by omega) (by omega) hn (fun w hw ec => ?_) (fun e => hX 0 (by unfold cAhead cd3; rw [e]; rfl)))
  subst ec
  have e2 := ng_f (n := 2) (x := w) (by omega) (by omega)
  unfold cAhead at h hX
  have hw : w = 0 ∨ w = 1 := by omega
  rcases hw with rfl | rfl
  · rw [if_pos e00] at h hX ⊢
    refine w_x_ahead_17 (by omega) (n_days (lo := 1) (by omega) (by omega) hn (fun n _ hn6 eb => ?_) (fun e => hX 1 (by unfold cd3; rw [e2, e]; rfl)))
    subst eb
    have h := h (by unfold cd3; rw [e2, ngD_f (lo := 1) (x := n) (by omega) hn6]; rfl)
    unfold vAhead at h
    rw [tN_nI (by omega), if_pos e00] at h
    rw [if_pos e00]
    exact c_calmDays (by omega) hR.lc hR.sc hG.cok (fun k n => evv_lt hG.1 k n) hn6 (fun S' f => h S' (QC_dl f (by omega)))
  · rw [if_neg (by decide)] at h hX ⊢
    refine w_x_ahead_17 (by omega) (n_days (lo := 0) (by omega) (by omega) hn (fun n _ hn6 eb => ?_) (fun e => hX 1 (by unfold cd3; rw [e2, e]; rfl)))
    subst eb
    have h := h (by unfold cd3; rw [e2, ngD_f (lo := 0) (x := n) (by omega) hn6]; rfl)
    unfold vAhead at h
    rw [tN_nI (by omega), if_neg (by decide)] at h
    rw [if_neg (by decide)]
    refine c_behind (by omega) hR.lc hR.sc hG.cok hn6 (fun S8 f8 A8 => ?_)
    exact c_fullest (g := 0) (by omega) (LC_dl sc44 hR.lc f8) sc44 A8 (h S8 (QC_dl f8 (by omega)))
theorem m_ahead {b c : Int32} (hd : 20 ≤ d) (hG : GInv G) (hR : RelM G S) (h : ∀ S' v, QM S S' → S' 65 0 = nI (cAhead b c) → (cAhead b c = 0 → v = vAhead G b c) → Q v S') : k_m_ahead E d S b c Q := by
  have b10 := hG.1.b10
  refine w_m_ahead (by omega) (fun S1 e1 => ?_)
  have q1 : QM S S1 := by
    rw [e1]
    exact QM_up _ (by decide)
  have t1 : S1 65 0 = 0 := by rw [e1, up_same, upd_same]
  have L1 := LM_qm hR.lm q1
  refine e_isWhat (n := 1) (by omega) (by omega) t1 (fun w hw ec => ?_) (fun e => ?_)
  · subst ec
    have g2 := ng_f (n := 2) (x := w) (by omega) (by omega)
    rw [if_neg (by decide)]
    -- from the test of days on
    have main : ∀ lo, lo ≤ 1 → (if nI w = 0 then ngD 1 b else ngD 0 b) = ngD lo b → k_m_ahead_25 E d S1 b (nI w) b (nI lo) Q := by
      intro lo hlo elo
      refine w_m_ahead_25 (by omega) (e_isSoon (lo := lo) (by omega) hlo t1 (fun n hn1 hn6 eb => ?_) (fun e => ?_))
      · subst eb
        have g3 := ngD_f (lo := lo) (x := n) hn1 hn6
        have hc : cAhead (nI n) (nI w) = 0 := by unfold cAhead cd3; rw [g2, elo, g3]; rfl
        rw [if_neg (by decide)]
        rw [hc] at h
        refine e_tries hG.1 (ScM_lo hG.1 hR.sc (fun i hi => q1.2.2 i hi)) (fun S5 f5 A5 e5 => ?_)
        refine dn (P := fun k => ∀ S', FM 79 S1 S' → ScM (gl G) (S' 77) 79 (dayN (gl G) (gA G) k) → k_m_ahead_43 E d S' (nI n) (nI w) (nI (clmN (gl G) (gA G) k)) (nI k) Q) n ?_ ?_ 0 (Nat.zero_le _) S5 f5 A5
        · intro S6 f6 A6
          have L6 := LM_fm L1 f6
          refine w_m_ahead_43 (by omega) (ilp n rfl (by omega) (by omega) (fun _ => ?_) (fun h => absurd h (Nat.lt_irrefl _)))
          have fin : ∀ v, v = vAhead G (nI n) (nI w) → Q v S6 := fun v hv => h S6 v (q1.trans (QM_fm f6)) (by rw [f6.2.1 0 (by decide), t1]; rfl) (fun _ => hv)
          unfold vAhead at fin
          rw [tN_nI (by omega)] at fin
          have OD := AOk_dayN hG.1 hG.aok n
          generalize dayN (gl G) (gA G) n = D at fin A6 OD
          refine dn (P := fun k => k_m_ahead_89 E d S6 (nI w) (nI (clmN (gl G) (gA G) n)) (oI (bstF (fun x => held D x && !(0 : Nat).testBit x) (fun x y => decide (D 6 y < D 6 x)) k)) k Q) (lb (gl G)) ?_ ?_ 0 (Nat.zero_le _)
          · refine w_m_ahead_89 (by omega) (ilp (lb (gl G)) L6.b (by omega) (by omega) (fun _ => ?_) (fun h => absurd h (Nat.lt_irrefl _)))
            have hw : w = 0 ∨ w = 1 := by omega
            rcases hw with rfl | rfl
            · rw [if_pos e00] at fin ⊢
              exact fin _ rfl
            · rw [if_neg (by decide)] at fin ⊢
              exact fin _ rfl
          · intro k hk ih
            refine w_m_ahead_89 (by omega) (ilp (lb (gl G)) L6.b (by omega) (by omega) (fun h => by omega) (fun _ => ⟨by omega, ?_⟩))
            have hlt := bstF_lt (ok := fun x => held D x && !(0 : Nat).testBit x) (lt := fun x y => decide (D 6 y < D 6 x)) k
            have ih : k_m_ahead_89 E d S6 (nI w) (nI (clmN (gl G) (gA G) n)) (oI (bstS (fun x => held D x && !(0 : Nat).testBit x) (fun x y => decide (D 6 y < D 6 x)) k (bstF (fun x => held D x && !(0 : Nat).testBit x) (fun x y => decide (D 6 y < D 6 x)) k))) (k + 1) Q := ih
            have a6 : S6 77 (118 + k) = D 6 k := A6 6 k (by decide) hk
            have pk := OD.pos hk
            rw [a6]
            generalize hb : bstF (fun x => held D x && !(0 : Nat).testBit x) (fun x y => decide (D 6 y < D 6 x)) k = bb at ih hlt
            unfold bstS at ih
            cases bb with
            | none =>
              rw [if_pos (show oI none = -1 from rfl)]
              refine ife (fun hc => ?_) (fun hc => ?_)
              · rw [pk.1] at hc
                rw [if_neg (by simp [held, hc])] at ih
                exact ih
              · rw [pk.1] at hc
                rw [if_pos (by simp [held, hc])] at ih
                exact ih
            | some y =>
              obtain ⟨hy, hoy⟩ := hlt y rfl
              have hy0 : ¬ D 6 y = 0 := by
                simp [held] at hoy
                exact hoy
              have py := OD.pos (x := y) (by omega)
              rw [if_neg (show ¬ oI (some y) = -1 from oI_ne (by omega))]
              refine ⟨118 + y, nI_add _ _, by omega, ?_⟩
              rw [show S6 77 (118 + y) = D 6 y from A6 6 y (by decide) (by show y < lb (gl G); omega)]
              by_cases hk0 : D 6 k = 0
              · rw [if_neg (by simp [held, hk0])] at ih
                rw [if_pos (by rw [hk0]; exact Int32.not_lt.mp py.2)]
                exact ih
              · rw [if_pos (by simp [held, hk0])] at ih
                have ih : k_m_ahead_89 E d S6 (nI w) (nI (clmN (gl G) (gA G) n)) (oI (if decide (D 6 y < D 6 k) = true then some k else some y)) (k + 1) Q := ih
                refine ife (fun hc => ?_) (fun hc => ?_)
                · rw [if_neg (by rw [decide_eq_true_eq]; exact Int32.not_lt.mpr hc)] at ih
                  exact ih
                · rw [if_pos (by rw [decide_eq_true_eq]; exact Int32.not_le.mp hc)] at ih
                  exact ih
        · intro k hk ih S6 f6 A6
          refine w_m_ahead_43 (by omega) (ilp n rfl (by omega) (by omega) (fun h => by omega) (fun _ => ?_))
          refine e_dayOf (o := 79) (by omega) (LM_fm L1 f6) (by omega) A6 (COk_dayN hG.cok k) (GOk_dayN hG.gok k) (fun S7 f7 A7 y45 _ _ y48 => ?_)
          have en : clmN (gl G) (gA G) (k + 1) = if decide (evv (gl G) (gA G) 0 k = 0) && decide (evv (gl G) (gA G) 2 k = 0) then clmN (gl G) (gA G) k + 1 else clmN (gl G) (gA G) k := rfl
          have ih := ih S7 (f6.trans f7) A7
          rw [en] at ih
          have l0 := evv_lt (l := gl G) (A := gA G) hG.1 0 k
          have l2 := evv_lt (l := gl G) (A := gA G) hG.1 2 k
          rw [show S7 65 45 = nI (evv (gl G) (gA G) 0 k) from y45, show S7 65 48 = nI (evv (gl G) (gA G) 2 k) from y48, nI_1, show nI (clmN (gl G) (gA G) k) + (0 : Int32) = nI (clmN (gl G) (gA G) k) from nI_add _ 0, nI_1]
          refine ife (fun h0 => ife (fun h2 => ?_) (fun h2 => ?_)) (fun h0 => ?_)
          · rw [nI_is0 (by omega)] at h0 h2
            rw [if_pos (by simp [h0, h2])] at ih
            exact ih
          · rw [nI_is0 (by omega)] at h0 h2
            rw [if_neg (by simp [h2])] at ih
            exact ih
          · rw [nI_is0 (by omega)] at h0
            rw [if_neg (by simp [h0])] at ih
            exact ih
      · rw [if_pos rfl]
        have hc : cAhead b (nI w) = 2 := by unfold cAhead cd3; rw [g2, elo, show ngD lo b = true from decide_eq_true e]; rfl
        refine h _ _ (q1.trans (QM_up _ (by decide))) (by rw [up_same, upd_same, hc]; rfl) (fun h0 => by rw [hc] at h0; cases h0)
    refine ife (fun hw0 => ?_) (fun hw0 => ?_)
    · exact main 1 (by omega) (if_pos hw0)
    · exact main 0 (by omega) (if_neg hw0)
  · rw [if_pos rfl]
    have hc : cAhead b c = 1 := by unfold cAhead cd3; rw [show ng 2 c = true from decide_eq_true e]; rfl
    refine h _ _ (q1.trans (QM_up _ (by decide))) (by rw [up_same, upd_same, hc]; rfl) (fun h0 => by rw [hc] at h0; cases h0)
theorem x_stays {a b : Int32} (hd : 20 ≤ d) (hG : GInv G) (hR : RelC G S) (hn : (S 1000 0).toNatClampNeg < 1000000) (h : cStays G a b = 0 → ∀ S', QC S S' → Q (styN (gl G) (gA G) a (tN b)) S') (hX : ∀ k, cStays G a b = k + 1 → X k (upT S)) : k_x_stays E d S a b Q X := by
  have p7 := hG.1.p7
  refine w_x_stays (by omega) (n_person (by omega) hR.lc hn (fun x hx ea => ?_) (fun e => hX 0 (by unfold cStays cd3; rw [e]; rfl)))
  subst ea
  have e1 := ng_f (n := lp (gl G)) (x := x) (by omega) hx
  refine n_days (lo := 1) (by omega) (by omega) hn (fun n hn1 hn6 eb => ?_) (fun e => hX 1 (by unfold cStays cd3; rw [e1, e]; rfl))
  subst eb
  have h := h (by unfold cStays cd3; rw [e1, ngD_f hn1 hn6]; rfl)
  rw [tN_nI (by omega)] at h
  exact c_outstayed (by omega) hR.lc hR.sc hG.cok hn6 (fun S' f => h S' (QC_dl f (by omega)))
theorem m_stays {a b : Int32} (hd : 20 ≤ d) (hG : GInv G) (hR : RelM G S) (h : ∀ S' v, QM S S' → S' 65 0 = nI (cStays G a b) → (cStays G a b = 0 → v = styN (gl G) (gA G) a (tN b)) → Q v S') : k_m_stays E d S a b Q := by
  have p7 := hG.1.p7
  refine w_m_stays (by omega) (fun S1 e1 => ?_)
  have q1 : QM S S1 := by
    rw [e1]
    exact QM_up _ (by decide)
  have t1 : S1 65 0 = 0 := by rw [e1, up_same, upd_same]
  have L1 := LM_qm hR.lm q1
  refine e_isPerson (by omega) L1 t1 (fun x hx ea => ?_) (fun e => ?_)
  · subst ea
    have g1 := ng_f (n := lp (gl G)) (x := x) (by omega) hx
    rw [if_neg (by decide)]
    refine e_isSoon (lo := 1) (by omega) (by omega) t1 (fun n hn1 hn6 eb => ?_) (fun e => ?_)
    · subst eb
      have hc : cStays G (nI x) (nI n) = 0 := by unfold cStays cd3; rw [g1, ngD_f hn1 hn6]; rfl
      rw [if_neg (by decide)]
      rw [hc, tN_nI (by omega)] at h
      refine e_tries hG.1 (ScM_lo hG.1 hR.sc (fun i hi => q1.2.2 i hi)) (fun S5 f5 A5 e5 => ?_)
      refine dn (P := fun k => ∀ S', FM 79 S1 S' → ScM (gl G) (S' 77) 79 (dayN (gl G) (gA G) k) → k_m_stays_34 E d S' (nI x) (nI n) (styN (gl G) (gA G) (nI x) k) k Q) n ?_ ?_ 0 (Nat.zero_le _) S5 f5 A5
      · intro S6 f6 A6
        exact w_m_stays_34 (by omega) (ilp n rfl (by omega) (by omega) (fun _ => h S6 _ (q1.trans (QM_fm f6)) (by rw [f6.2.1 0 (by decide), t1]; rfl) (fun _ => rfl)) (fun h => absurd h (Nat.lt_irrefl _)))
      · intro k hk ih S6 f6 A6
        refine w_m_stays_34 (by omega) (ilp n rfl (by omega) (by omega) (fun h => by omega) (fun _ => ?_))
        refine e_dayOf (o := 79) (by omega) (LM_fm L1 f6) (by omega) A6 (COk_dayN hG.cok k) (GOk_dayN hG.gok k) (fun S7 f7 A7 _ _ _ _ => ?_)
        have L7 := LM_fm L1 (f6.trans f7)
        refine e_ownOnes (o := 79) L7 (by omega) A7 (e_bits ?_ (ih S7 (f6.trans f7) A7))
        have := ownM_lt (A := (dayF (gl G) (dayN (gl G) (gA G) k)).1) hG.1 (nI x)
        omega
    · rw [if_pos rfl]
      have hc : cStays G (nI x) b = 2 := by unfold cStays cd3; rw [g1, show ngD 1 b = true from decide_eq_true e]; rfl
      refine h _ _ (q1.trans (QM_up _ (by decide))) (by rw [up_same, upd_same, hc]; rfl) (fun h0 => by rw [hc] at h0; cases h0)
  · rw [if_pos rfl]
    have hc : cStays G a b = 1 := by unfold cStays cd3; rw [show ng (lp (gl G)) a = true from decide_eq_true e]; rfl
    refine h _ _ (q1.trans (QM_up _ (by decide))) (by rw [up_same, upd_same, hc]; rfl) (fun h0 => by rw [hc] at h0; cases h0)
end XD
