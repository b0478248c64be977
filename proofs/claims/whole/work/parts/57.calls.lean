/-! CALLS: then, mood, off, first, later, when, ahead, stays, cell, person, ball, fault -/
def tN (a : Int32) : Nat := a.toNatClampNeg
theorem tN_nI {x : Nat} (h : x < 1000000) : tN (nI x) = x := nI_clamp (by omega)
/-- of the three the first that is wrong: 1, 1, 2 -/
def cd3 (p q r : Bool) : Nat := if p then 1 else if q then 1 else if r then 2 else 0
def cThen (G : Gst) (a b c : Int32) : Nat := cd3 (ng (lb (gl G)) a) (ng 3 c) (ngD 0 b)
noncomputable def vThen (G : Gst) (a b c : Int32) : Int32 := if c = 0 then dayN (gl G) (gA G) (tN b) 6 (tN a) else if c = 1 then dayN (gl G) (gA G) (tN b) 7 (tN a) else dayN (gl G) (gA G) (tN b) 8 (tN a)
def cMood (G : Gst) (a b c : Int32) : Nat := cd3 (ng (lp (gl G)) a) (ng 3 c) (ngD 0 b)
noncomputable def vMood (G : Gst) (a b c : Int32) : Int32 := if c = 0 then dayN (gl G) (gA G) (tN b) 1 (tN a) else if c = 1 then dayN (gl G) (gA G) (tN b) 2 (tN a) else dayN (gl G) (gA G) (tN b) 3 (tN a)
/-- none as -1, n as n + 1 -/
def oI1 : Option Nat → Int32
  | none => -1
  | some n => nI (n + 1)
noncomputable def vOff (G : Gst) (k : Nat) (a : Int32) : Int32 := oI1 (fstF (fun n => (evv (gl G) (gA G) k n).testBit (tN a)) 60)
noncomputable def vFirst (G : Gst) : Int32 := match fstF (fun n => decide (¬ evv (gl G) (gA G) 0 n = 0)) 60 with
  | none => -1
  | some n => oI (fstF (fun x => (evv (gl G) (gA G) 0 n).testBit x) 10)
def cLater (b c : Int32) : Nat := cd3 false (ng 4 c) (ngD 0 b)
noncomputable def vLater (G : Gst) (b c : Int32) : Int32 := if c = 0 then ofN (gl G) (gA G) (tN b) else if c = 1 then smK (dayN (gl G) (gA G) (tN b)) 6 (lb (gl G)) else if c = 2 then nI (whtM (gl G) (dayN (gl G) (gA G) (tN b))) else oI (crsP (gl G) (dayN (gl G) (gA G) (tN b)))
def cAhead (b c : Int32) : Nat := cd3 false (ng 2 c) (if c = 0 then ngD 1 b else ngD 0 b)
noncomputable def vAhead (G : Gst) (b c : Int32) : Int32 := if c = 0 then nI (clmN (gl G) (gA G) (tN b)) else oI (fulB (gl G) (dayN (gl G) (gA G) (tN b)) 0)
def cStays (G : Gst) (a b : Int32) : Nat := cd3 (ng (lp (gl G)) a) false (ngD 1 b)
def cCell (G : Gst) (a c : Int32) : Nat := cd3 (ng (lw (gl G) * lh (gl G)) a) (ng 2 c) false
noncomputable def vCell (G : Gst) (a c : Int32) : Int32 := if c = 0 then nI (ovrM (gl G) (gA G) (tN a)) else oI (nrB (gl G) (gA G) (tN a))
def cWhen (G : Gst) (a c : Int32) : Nat := cd3 (ng (lp (gl G)) a) (ng 2 c) false
section XC
variable {G : Gst} {S : St} {E : zX} {d : Nat} {Q : Int32 → St → Prop} {X : Nat → St → Prop}
theorem RelC.lc (h : RelC G S) : LC (gl G) S := h.1
theorem RelC.sc (h : RelC G S) : ScC (gl G) (S 26) (gA G) := h.2.1.1
theorem GInv.aok (h : GInv G) : AOk (gl G) (gA G) := h.2.1.1
theorem GInv.cok (h : GInv G) : COk (gl G) (gA G) := h.aok.cell h.1
theorem GInv.gok (h : GInv G) : GOk (gl G) (gA G) := h.aok.grd
theorem RelM.lm (h : RelM G S) : LM (gl G) S := h.1
theorem RelM.sc (h : RelM G S) : ScM (gl G) (S 77) 0 (gA G) := h.2.1.1
theorem e00 : nI 0 = (0 : Int32) := rfl
theorem e11 : nI 1 = (1 : Int32) := rfl
theorem e22 : nI 2 = (2 : Int32) := rfl
theorem w012 {x : Nat} (h : x ≤ 2) : x = 0 ∨ x = 1 ∨ x = 2 := by omega
/-! then -/
theorem x_then {a b c : Int32} (hd : 20 ≤ d) (hG : GInv G) (hR : RelC G S) (hn : (S 1000 0).toNatClampNeg < 1000000) (h : cThen G a b c = 0 → ∀ S', QC S S' → Q (vThen G a b c) S') (hX : ∀ k, cThen G a b c = k + 1 → X k (upT S)) : k_x_then E d S a b c Q X := by
  have b10 := hG.1.b10
  refine w_x_then (by omega) (n_ball (by omega) hR.lc hn (fun x hx ea => ?_) (fun e => hX 0 (by unfold cThen cd3; rw [e]; rfl)))
  subst ea
  have e1 := ng_f (n := lb (gl G)) (x := x) (by omega) hx
  refine n_what (n := 2) (by omega) (by omega) hn (fun w hw ec => ?_) (fun e => hX 0 (by unfold cThen cd3; rw [e1, e]; rfl))
  subst ec
  have e2 := ng_f (n := 3) (x := w) (by omega) (by omega)
  refine n_days (lo := 0) (by omega) (by omega) hn (fun n _ hn6 eb => ?_) (fun e => hX 1 (by unfold cThen cd3; rw [e1, e2, e]; rfl))
  subst eb
  have e3 := ngD_f (lo := 0) (x := n) (by omega) hn6
  have h := h (by unfold cThen cd3; rw [e1, e2, e3]; rfl)
  unfold vThen at h
  rw [tN_nI (by omega), tN_nI (by omega)] at h
  refine c_behind (by omega) hR.lc hR.sc hG.cok hn6 (fun S8 f8 A8 => ?_)
  have h := h S8 (QC_dl f8 (by omega))
  rcases w012 hw with rfl | rfl | rfl
  · rw [if_pos e00] at h ⊢
    exact ⟨sc44, c_heldIn hG.1 sc44 A8 hx h⟩
  · rw [if_neg (by decide), if_pos e11] at h ⊢
    exact ⟨sc44, c_ageOf hG.1 sc44 A8 hx h⟩
  · rw [if_neg (by decide), if_neg (by decide)] at h ⊢
    exact ⟨sc44, c_ownerOf hG.1 sc44 A8 hx h⟩
/-- the end of a query in the reference: code, value -/
theorem m_then {a b c : Int32} (hd : 20 ≤ d) (hG : GInv G) (hR : RelM G S) (h : ∀ S' v, QM S S' → S' 65 0 = nI (cThen G a b c) → (cThen G a b c = 0 → v = vThen G a b c) → Q v S') : k_m_then E d S a b c Q := by
  have b10 := hG.1.b10
  refine w_m_then (by omega) (fun S1 e1 => ?_)
  have q1 : QM S S1 := by
    rw [e1]
    exact QM_up _ (by decide)
  have t1 : S1 65 0 = 0 := by rw [e1, up_same, upd_same]
  have L1 := LM_qm hR.lm q1
  refine e_isBall (by omega) L1 t1 (fun x hx ea => ?_) (fun e => ?_)
  · subst ea
    have g1 := ng_f (n := lb (gl G)) (x := x) (by omega) hx
    rw [if_neg (by decide)]
    refine e_isWhat (n := 2) (by omega) (by omega) t1 (fun w hw ec => ?_) (fun e => ?_)
    · subst ec
      have g2 := ng_f (n := 3) (x := w) (by omega) (by omega)
      rw [if_neg (by decide)]
      refine e_isSoon (lo := 0) (by omega) (by omega) t1 (fun n _ hn6 eb => ?_) (fun e => ?_)
      · subst eb
        have g3 := ngD_f (lo := 0) (x := n) (by omega) hn6
        have hc : cThen G (nI x) (nI n) (nI w) = 0 := by unfold cThen cd3; rw [g1, g2, g3]; rfl
        rw [if_neg (by decide)]
        refine e_goesTo (by omega) L1 (ScM_lo hG.1 hR.sc (fun i hi => q1.2.2 i hi)) hG.cok hG.gok hn6 (fun S9 f9 A9 => ?_)
        have q9 : QM S S9 := q1.trans (QM_fm f9)
        have t9 : S9 65 0 = nI (cThen G (nI x) (nI n) (nI w)) := by
          rw [f9.2.1 0 (by decide), t1, hc]
          rfl
        have fin : ∀ v, v = vThen G (nI x) (nI n) (nI w) → Q v S9 := fun v hv => h S9 v q9 t9 (fun _ => hv)
        unfold vThen at fin
        rw [tN_nI (by omega), tN_nI (by omega)] at fin
        rcases w012 hw with rfl | rfl | rfl
        · rw [if_pos e00] at fin ⊢
          exact ⟨118 + x, nI_add _ _, by omega, fin _ (A9 6 x (by decide) hx)⟩
        · rw [if_neg (by decide), if_pos e11] at fin ⊢
          exact ⟨128 + x, nI_add _ _, by omega, fin _ (A9 7 x (by decide) hx)⟩
        · rw [if_neg (by decide), if_neg (by decide)] at fin ⊢
          exact ⟨138 + x, nI_add _ _, by omega, fin _ (A9 8 x (by decide) hx)⟩
      · rw [if_pos rfl]
        have hc : cThen G (nI x) b (nI w) = 2 := by unfold cThen cd3; rw [g1, g2, show ngD 0 b = true from decide_eq_true e]; rfl
        refine h _ _ (q1.trans (QM_up _ (by decide))) (by rw [up_same, upd_same, hc]; rfl) (fun h0 => by rw [hc] at h0; cases h0)
    · rw [if_pos rfl]
      have hc : cThen G (nI x) b c = 1 := by unfold cThen cd3; rw [g1, show ng 3 c = true from decide_eq_true e]; rfl
      refine h _ _ (q1.trans (QM_up _ (by decide))) (by rw [up_same, upd_same, hc]; rfl) (fun h0 => by rw [hc] at h0; cases h0)
  · rw [if_pos rfl]
    have hc : cThen G a b c = 1 := by unfold cThen cd3; rw [show ng (lb (gl G)) a = true from decide_eq_true e]; rfl
    refine h _ _ (q1.trans (QM_up _ (by decide))) (by rw [up_same, upd_same, hc]; rfl) (fun h0 => by rw [hc] at h0; cases h0)
/-! mood -/
theorem x_mood {a b c : Int32} (hd : 20 ≤ d) (hG : GInv G) (hR : RelC G S) (hn : (S 1000 0).toNatClampNeg < 1000000) (h : cMood G a b c = 0 → ∀ S', QC S S' → Q (vMood G a b c) S') (hX : ∀ k, cMood G a b c = k + 1 → X k (upT S)) : k_x_mood E d S a b c Q X := by
  have p7 := hG.1.p7
  refine w_x_mood (by omega) (n_person (by omega) hR.lc hn (fun x hx ea => ?_) (fun e => hX 0 (by unfold cMood cd3; rw [e]; rfl)))
  subst ea
  have e1 := ng_f (n := lp (gl G)) (x := x) (by omega) hx
  refine n_what (n := 2) (by omega) (by omega) hn (fun w hw ec => ?_) (fun e => hX 0 (by unfold cMood cd3; rw [e1, e]; rfl))
  subst ec
  have e2 := ng_f (n := 3) (x := w) (by omega) (by omega)
  refine n_days (lo := 0) (by omega) (by omega) hn (fun n _ hn6 eb => ?_) (fun e => hX 1 (by unfold cMood cd3; rw [e1, e2, e]; rfl))
  subst eb
  have e3 := ngD_f (lo := 0) (x := n) (by omega) hn6
  have h := h (by unfold cMood cd3; rw [e1, e2, e3]; rfl)
  unfold vMood at h
  rw [tN_nI (by omega), tN_nI (by omega)] at h
  refine c_behind (by omega) hR.lc hR.sc hG.cok hn6 (fun S8 f8 A8 => ?_)
  have h := h S8 (QC_dl f8 (by omega))
  rcases w012 hw with rfl | rfl | rfl
  · rw [if_pos e00] at h ⊢
    exact ⟨sc44, c_temperOf hG.1 sc44 A8 hx h⟩
  · rw [if_neg (by decide), if_pos e11] at h ⊢
    exact ⟨sc44, c_shoutedBy hG.1 sc44 A8 hx h⟩
  · rw [if_neg (by decide), if_neg (by decide)] at h ⊢
    exact ⟨sc44, c_heardBy hG.1 sc44 A8 hx h⟩
theorem m_mood {a b c : Int32} (hd : 20 ≤ d) (hG : GInv G) (hR : RelM G S) (h : ∀ S' v, QM S S' → S' 65 0 = nI (cMood G a b c) → (cMood G a b c = 0 → v = vMood G a b c) → Q v S') : k_m_mood E d S a b c Q := by
  have p7 := hG.1.p7
  refine w_m_mood (by omega) (fun S1 e1 => ?_)
  have q1 : QM S S1 := by
    rw [e1]
    exact QM_up _ (by decide)
  have t1 : S1 65 0 = 0 := by rw [e1, up_same, upd_same]
  have L1 := LM_qm hR.lm q1
  refine e_isPerson (by omega) L1 t1 (fun x hx ea => ?_) (fun e => ?_)
  · subst ea
    have g1 := ng_f (n := lp (gl G)) (x := x) (by omega) hx
    rw [if_neg (by decide)]
    refine e_isWhat (n := 2) (by omega) (by omega) t1 (fun w hw ec => ?_) (fun e => ?_)
    · subst ec
      have g2 := ng_f (n := 3) (x := w) (by omega) (by omega)
      rw [if_neg (by decide)]
      refine e_isSoon (lo := 0) (by omega) (by omega) t1 (fun n _ hn6 eb => ?_) (fun e => ?_)
      · subst eb
        have g3 := ngD_f (lo := 0) (x := n) (by omega) hn6
        have hc : cMood G (nI x) (nI n) (nI w) = 0 := by unfold cMood cd3; rw [g1, g2, g3]; rfl
        rw [if_neg (by decide)]
        refine e_goesTo (by omega) L1 (ScM_lo hG.1 hR.sc (fun i hi => q1.2.2 i hi)) hG.cok hG.gok hn6 (fun S9 f9 A9 => ?_)
        have q9 : QM S S9 := q1.trans (QM_fm f9)
        have t9 : S9 65 0 = nI (cMood G (nI x) (nI n) (nI w)) := by
          rw [f9.2.1 0 (by decide), t1, hc]
          rfl
        have fin : ∀ v, v = vMood G (nI x) (nI n) (nI w) → Q v S9 := fun v hv => h S9 v q9 t9 (fun _ => hv)
        unfold vMood at fin
        rw [tN_nI (by omega), tN_nI (by omega)] at fin
        rcases w012 hw with rfl | rfl | rfl
        · rw [if_pos e00] at fin ⊢
          exact ⟨80 + x, nI_add _ _, by omega, fin _ (A9 1 x (by decide) hx)⟩
        · rw [if_neg (by decide), if_pos e11] at fin ⊢
          exact ⟨87 + x, nI_add _ _, by omega, fin _ (A9 2 x (by decide) hx)⟩
        · rw [if_neg (by decide), if_neg (by decide)] at fin ⊢
          exact ⟨94 + x, nI_add _ _, by omega, fin _ (A9 3 x (by decide) hx)⟩
      · rw [if_pos rfl]
        have hc : cMood G (nI x) b (nI w) = 2 := by unfold cMood cd3; rw [g1, g2, show ngD 0 b = true from decide_eq_true e]; rfl
        refine h _ _ (q1.trans (QM_up _ (by decide))) (by rw [up_same, upd_same, hc]; rfl) (fun h0 => by rw [hc] at h0; cases h0)
    · rw [if_pos rfl]
      have hc : cMood G (nI x) b c = 1 := by unfold cMood cd3; rw [g1, show ng 3 c = true from decide_eq_true e]; rfl
      refine h _ _ (q1.trans (QM_up _ (by decide))) (by rw [up_same, upd_same, hc]; rfl) (fun h0 => by rw [hc] at h0; cases h0)
  · rw [if_pos rfl]
    have hc : cMood G a b c = 1 := by unfold cMood cd3; rw [show ng (lp (gl G)) a = true from decide_eq_true e]; rfl
    refine h _ _ (q1.trans (QM_up _ (by decide))) (by rw [up_same, upd_same, hc]; rfl) (fun h0 => by rw [hc] at h0; cases h0)
/-! off, when -/
theorem c_fd {k x : Nat} (hd : 5 ≤ d) (hG : GInv G) (hR : RelC G S) (hk : k < 3) (hx : x < 31) (h : ∀ S', QC S S' → Q (vOff G k (nI x)) S') : k_Forecast_firstDay E d S (nI k) (bt x) Q := by
  unfold vOff at h
  rw [tN_nI (by omega)] at h
  refine c_firstDay (p := fun n => (evv (gl G) (gA G) k n).testBit x) hd hR.lc hR.sc hG.cok hk (fun n _ => nI_tst hx) (fun n S' hn hf f _ => ?_) (fun hf S' f => ?_)
  · have h := h S' (QC_dl f (by omega))
    rw [hf] at h
    exact h
  · have h := h S' (QC_dl f (by omega))
    rw [hf] at h
    exact h
theorem x_off {a : Int32} (hd : 20 ≤ d) (hG : GInv G) (hR : RelC G S) (hn : (S 1000 0).toNatClampNeg < 1000000) (h : cd3 (ng (lb (gl G)) a) false false = 0 → ∀ S', QC S S' → Q (vOff G 0 a) S') (hX : ∀ k, cd3 (ng (lb (gl G)) a) false false = k + 1 → X k (upT S)) : k_x_off E d S a Q X := by
  have b10 := hG.1.b10
  refine w_x_off (by omega) (n_ball (by omega) hR.lc hn (fun x hx ea => ?_) (fun e => hX 0 (by unfold cd3; rw [e]; rfl)))
  subst ea
  exact c_fd (k := 0) (by omega) hG hR (by decide) (by omega) (h (by unfold cd3; rw [ng_f (by omega) hx]; rfl))
theorem x_when {a c : Int32} (hd : 20 ≤ d) (hG : GInv G) (hR : RelC G S) (hn : (S 1000 0).toNatClampNeg < 1000000) (h : cWhen G a c = 0 → ∀ S', QC S S' → Q (vOff G (if c = 0 then 1 else 2) a) S') (hX : ∀ k, cWhen G a c = k + 1 → X k (upT S)) : k_x_when E d S a c Q X := by
  have p7 := hG.1.p7
  refine w_x_when (by omega) (n_person (by omega) hR.lc hn (fun x hx ea => ?_) (fun e => hX 0 (by unfold cWhen cd3; rw [e]; rfl)))
  subst ea
  have e1 := ng_f (n := lp (gl G)) (x := x) (by omega) hx
  refine n_what (n := 1) (by omega) (by omega) hn (fun w hw ec => ?_) (fun e => hX 0 (by unfold cWhen cd3; rw [e1, e]; rfl))
  subst ec
  have e2 := ng_f (n := 2) (x := w) (by omega) (by omega)
  have h := h (by unfold cWhen cd3; rw [e1, e2]; rfl)
  have hw : w = 0 ∨ w = 1 := by omega
  rcases hw with rfl | rfl
  · rw [if_pos e00] at h ⊢
    exact c_fd (k := 1) (by omega) hG hR (by decide) (by omega) h
  · rw [if_neg (by decide)] at h ⊢
    exact c_fd (k := 2) (by omega) hG hR (by decide) (by omega) h
theorem e_first {k n : Nat} {p : Nat → Bool} (hp : p k = true) (hn : k < n) (h : ∀ j, j < k → p j = false) : oI1 (fstF p n) = nI (k + 1) := by rw [fstF_some hp h n hn]; rfl
theorem m_off {a : Int32} (hd : 20 ≤ d) (hG : GInv G) (hR : RelM G S) (h : ∀ S' v, QM S S' → S' 65 0 = nI (cd3 (ng (lb (gl G)) a) false false) → (cd3 (ng (lb (gl G)) a) false false = 0 → v = vOff G 0 a) → Q v S') : k_m_off E d S a Q := by
  have b10 := hG.1.b10
  refine w_m_off (by omega) (fun S1 e1 => ?_)
  have q1 : QM S S1 := by
    rw [e1]
    exact QM_up _ (by decide)
  have t1 : S1 65 0 = 0 := by rw [e1, up_same, upd_same]
  have L1 := LM_qm hR.lm q1
  refine e_isBall (by omega) L1 t1 (fun x hx ea => ?_) (fun e => ?_)
  · subst ea
    rw [if_neg (by decide)]
    have hc : cd3 (ng (lb (gl G)) (nI x)) false false = 0 := by unfold cd3; rw [ng_f (by omega) hx]; rfl
    rw [hc] at h
    unfold vOff at h
    rw [tN_nI (by omega)] at h
    refine e_tries hG.1 (ScM_lo hG.1 hR.sc (fun i hi => q1.2.2 i hi)) (fun S5 f5 A5 e5 => ?_)
    refine dn (P := fun k => ∀ S', FM 79 S1 S' → ScM (gl G) (S' 77) 79 (dayN (gl G) (gA G) k) → (∀ j, j < k → (evv (gl G) (gA G) 0 j).testBit x = false) → k_m_off_21 E d S' (nI x) (k + 1) Q) 60 ?_ ?_ 0 (Nat.zero_le _) S5 f5 A5 (fun j hj => absurd hj (Nat.not_lt_zero j))
    · intro S6 f6 A6 hn
      refine w_m_off_21 (by omega) (ilt (by omega) (by omega) (fun _ => ?_) (fun h => by omega))
      refine h S6 _ (q1.trans (QM_fm f6)) (by rw [f6.2.1 0 (by decide), t1]; rfl) (fun _ => ?_)
      rw [fstF_none 60 hn]
      rfl
    · intro k hk ih S6 f6 A6 hn
      refine w_m_off_21 (by omega) (ilt (by omega) (by omega) (fun h => by omega) (fun _ => ?_))
      refine e_dayOf (o := 79) (by omega) (LM_fm L1 f6) (by omega) A6 (COk_dayN hG.cok k) (GOk_dayN hG.gok k) (fun S7 f7 A7 y45 _ _ _ => ?_)
      have lt := evv_lt (l := gl G) (A := gA G) hG.1 0 k
      rw [show S7 65 45 = nI (evv (gl G) (gA G) 0 k) from y45, nI_sbit (by omega) (by omega)]
      refine ife (fun hb => ?_) (fun hb => ?_)
      · rw [zb_1] at hb
        refine h S7 _ ((q1.trans (QM_fm f6)).trans (QM_fm f7)) (by rw [f7.2.1 0 (by decide), f6.2.1 0 (by decide), t1]; rfl) (fun _ => (e_first (p := fun n => (evv (gl G) (gA G) 0 n).testBit x) hb hk hn).symm)
      · rw [zb_1] at hb
        refine ih S7 (f6.trans f7) A7 (fun j hj => ?_)
        by_cases e : j = k
        · rw [e]
          simpa using hb
        · exact hn j (by omega)
  · rw [if_pos rfl]
    have hc : cd3 (ng (lb (gl G)) a) false false = 1 := by unfold cd3; rw [show ng (lb (gl G)) a = true from decide_eq_true e]; rfl
    refine h _ _ (q1.trans (QM_up _ (by decide))) (by rw [up_same, upd_same, hc]; rfl) (fun h0 => by rw [hc] at h0; cases h0)
theorem m_when {a c : Int32} (hd : 20 ≤ d) (hG : GInv G) (hR : RelM G S) (h : ∀ S' v, QM S S' → S' 65 0 = nI (cWhen G a c) → (cWhen G a c = 0 → v = vOff G (if c = 0 then 1 else 2) a) → Q v S') : k_m_when E d S a c Q := by
  have p7 := hG.1.p7
  refine w_m_when (by omega) (fun S1 e1 => ?_)
  have q1 : QM S S1 := by
    rw [e1]
    exact QM_up _ (by decide)
  have t1 : S1 65 0 = 0 := by rw [e1, up_same, upd_same]
  have L1 := LM_qm hR.lm q1
  refine e_isPerson (by omega) L1 t1 (fun x hx ea => ?_) (fun e => ?_)
  · subst ea
    have g1 := ng_f (n := lp (gl G)) (x := x) (by omega) hx
    rw [if_neg (by decide)]
    refine e_isWhat (n := 1) (by omega) (by omega) t1 (fun w hw ec => ?_) (fun e => ?_)
    · subst ec
      have g2 := ng_f (n := 2) (x := w) (by omega) (by omega)
      rw [if_neg (by decide)]
      have hc : cWhen G (nI x) (nI w) = 0 := by unfold cWhen cd3; rw [g1, g2]; rfl
      rw [hc] at h
      unfold vOff at h
      rw [tN_nI (by omega)] at h
      refine e_tries hG.1 (ScM_lo hG.1 hR.sc (fun i hi => q1.2.2 i hi)) (fun S5 f5 A5 e5 => ?_)
      refine dn (P := fun k => ∀ S', FM 79 S1 S' → ScM (gl G) (S' 77) 79 (dayN (gl G) (gA G) k) → (∀ j, j < k → (evv (gl G) (gA G) (if nI w = 0 then 1 else 2) j).testBit x = false) → k_m_when_30 E d S' (nI x) (nI w) (k + 1) Q) 60 ?_ ?_ 0 (Nat.zero_le _) S5 f5 A5 (fun j hj => absurd hj (Nat.not_lt_zero j))
      · intro S6 f6 A6 hn
        refine w_m_when_30 (by omega) (ilt (by omega) (by omega) (fun _ => ?_) (fun h => by omega))
        refine h S6 _ (q1.trans (QM_fm f6)) (by rw [f6.2.1 0 (by decide), t1]; rfl) (fun _ => ?_)
        rw [fstF_none 60 hn]
        rfl
      · intro k hk ih S6 f6 A6 hn
        refine w_m_when_30 (by omega) (ilt (by omega) (by omega) (fun h => by omega) (fun _ => ?_))
        refine e_dayOf (o := 79) (by omega) (LM_fm L1 f6) (by omega) A6 (COk_dayN hG.cok k) (GOk_dayN hG.gok k) (fun S7 f7 A7 _ _ y47 y48 => ?_)
        have lt := evv_lt (l := gl G) (A := gA G) hG.1 (if nI w = 0 then 1 else 2) k
        have main : k_m_when_57 E d S7 (nI x) (nI w) (k + 1) (nI (evv (gl G) (gA G) (if nI w = 0 then 1 else 2) k)) Q := by
          refine w_m_when_57 (by omega) ?_
          rw [nI_sbit (by omega) (by omega)]
          refine ife (fun hb => ?_) (fun hb => ?_)
          · rw [zb_1] at hb
            refine h S7 _ ((q1.trans (QM_fm f6)).trans (QM_fm f7)) (by rw [f7.2.1 0 (by decide), f6.2.1 0 (by decide), t1]; rfl) (fun _ => (e_first (p := fun n => (evv (gl G) (gA G) (if nI w = 0 then 1 else 2) n).testBit x) hb hk hn).symm)
          · rw [zb_1] at hb
            refine ih S7 (f6.trans f7) A7 (fun j hj => ?_)
            by_cases e : j = k
            · rw [e]
              simpa using hb
            · exact hn j (by omega)
        refine ife (fun hw0 => ?_) (fun hw0 => ?_)
        · rw [if_pos hw0] at main
          rw [y47]
          exact main
        · rw [if_neg hw0] at main
          rw [y48]
          exact main
    · rw [if_pos rfl]
      have hc : cWhen G (nI x) c = 1 := by unfold cWhen cd3; rw [g1, show ng 2 c = true from decide_eq_true e]; rfl
      refine h _ _ (q1.trans (QM_up _ (by decide))) (by rw [up_same, upd_same, hc]; rfl) (fun h0 => by rw [hc] at h0; cases h0)
  · rw [if_pos rfl]
    have hc : cWhen G a c = 1 := by unfold cWhen cd3; rw [show ng (lp (gl G)) a = true from decide_eq_true e]; rfl
    refine h _ _ (q1.trans (QM_up _ (by decide))) (by rw [up_same, upd_same, hc]; rfl) (fun h0 => by rw [hc] at h0; cases h0)
end XC
