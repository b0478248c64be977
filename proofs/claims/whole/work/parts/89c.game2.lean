/-! A GAME OF TWO in the reference -/
section GMM
variable {l : Lnd} {S : St} {E : zX} {d : Nat} {A B : Scn}
theorem e_go1 {p : Nat} {Q : Int32 → St → Prop} (hd : 3 ≤ d) (hL : LM l S) (hB : ScM l (S 77) 79 B) (hO : COk l B) (hp : p < lp l) (h : ∀ (S' : St) (v : Int32), FM 79 S S' → ScM l (S' 77) 79 (gch l B p 1) → Q v S') : k_m_goesOut E d S 79 (nI p) Q := by
  unfold gch at h
  rw [if_pos rfl] at h
  refine e_goesOut (o := 79) hd hL (by omega) hB hO hp (fun A' hA' S' f _ A2 => ?_) (fun hn => ?_)
  · rw [hA'] at h
    exact h S' 1 f A2
  · rw [hn] at h
    exact h S 0 (FM.refl _ _) hB
theorem gch_0 {p : Nat} : gch l B p 0 = B := if_neg (by decide)
theorem e_gains {p o x y : Nat} {Q : Int32 → St → Prop} (hd : 10 ≤ d) (hL : LM l S) (hA : ScM l (S 77) 0 A) (hO : COk l A) (hG : GOk l A) (hp : p < lp l) (ho : o < lp l) (hpo : ¬ p = o) (hx : x ≤ 1) (hy : y ≤ 1) (h : ∀ S' : St, FM 79 S S' → Q (-(los A (gm l A p o x y) p x)) S') : k_m_gains E d S (nI p) (nI o) (nI x) (nI y) Q := by
  have p7 := hL.ok.p7
  have g54 : ∀ S3 : St, FM 79 S S3 → ScM l (S3 77) 79 (gm0 l A p o x y) → k_m_gains_54 E d S3 p (nI x) Q := fun S3 f3 A3 => by
    refine w_m_gains_54 (by omega) (e_daysGo (n := 10) (by omega) (LM_fm hL f3) A3 (COk_of hO (gm0K (by omega))) (GOk_of hG (gm0K (by omega))) (by omega) (fun S4 f4 A4 => ⟨by omega, by omega, by omega, by omega, ?_⟩))
    have f := f3.trans f4
    have A0 : ScM l (S4 77) 0 A := ScM_lo hL.ok hA (fun i hi => f.2.2 i (Or.inl hi))
    have r1 : S4 77 (8 + p) = A 2 p := by
      have := A0 2 p (by decide) hp
      rw [show 0 + offM 2 + p = 8 + p from by show 0 + 8 + p = 8 + p; omega] at this
      exact this
    have r2 : S4 77 (15 + p) = A 3 p := by
      have := A0 3 p (by decide) hp
      rw [show 0 + offM 3 + p = 15 + p from by show 0 + 15 + p = 15 + p; omega] at this
      exact this
    have r3 : S4 77 (87 + p) = gm l A p o x y 2 p := A4 2 p (by decide) hp
    have r4 : S4 77 (94 + p) = gm l A p o x y 3 p := A4 3 p (by decide) hp
    rw [r1, r2, r3, r4, gain_eq]
    exact h S4 f
  have g36 : ∀ (S3 : St) (C : Scn), FM 79 S S3 → ScM l (S3 77) 79 C → COk l C → gm0 l A p o x y = (if x = 1 ∧ o < p then gch l C p 1 else C) → k_m_gains_36 E d S3 p o (nI x) Q := fun S3 C f3 A3 o3 e => by
    refine w_m_gains_36 (by omega) ?_
    refine ife (fun e1 => ?_) (fun e1 => ?_)
    · have e1 : nI x = nI 1 := e1
      rw [nI_eq (by omega) (by omega)] at e1
      refine ife (fun e2 => ?_) (fun e2 => ?_)
      · rw [nI_leI (by omega) (by omega)] at e2
        rw [if_neg (by omega)] at e
        exact g54 S3 f3 (by rw [e]; exact A3)
      · rw [nI_leI (by omega) (by omega)] at e2
        rw [if_pos ⟨e1, by omega⟩] at e
        exact e_go1 (by omega) (LM_fm hL f3) A3 o3 hp (fun S4 v f4 A4 => g54 S4 (f3.trans f4) (by rw [e]; exact A4))
    · have e1 : ¬ nI x = nI 1 := e1
      rw [nI_eq (by omega) (by omega)] at e1
      rw [if_neg (fun g => e1 g.1)] at e
      exact g54 S3 f3 (by rw [e]; exact A3)
  refine w_m_gains (by omega) (e_tries hL.ok hA (fun S2 f2 A2 _ => ?_))
  have oc : ∀ (B : Scn) (q c : Nat), COk l B → COk l (gch l B q c) := fun B q c hB => COk_of hB (gchK (by omega))
  refine ife (fun e1 => ?_) (fun e1 => ?_)
  · have e1 : nI x = nI 1 := e1
    rw [nI_eq (by omega) (by omega)] at e1
    refine ife (fun e2 => ?_) (fun e2 => ?_)
    · rw [nI_leI (by omega) (by omega)] at e2
      have lt : o < p := by omega
      refine ife (fun e3 => ?_) (fun e3 => ?_)
      · have e3 : nI y = nI 1 := e3
        rw [nI_eq (by omega) (by omega)] at e3
        refine e_go1 (by omega) (LM_fm hL f2) A2 hO ho (fun S4 v f4 A4 => g36 S4 _ (f2.trans f4) A4 (oc _ _ _ hO) ?_)
        unfold gm0
        rw [if_neg (by omega), if_pos ⟨e1, lt⟩, e1, e3]
      · have e3 : ¬ nI y = nI 1 := e3
        rw [nI_eq (by omega) (by omega)] at e3
        refine g36 S2 _ f2 A2 hO ?_
        unfold gm0
        rw [if_neg (by omega), if_pos ⟨e1, lt⟩, e1, show y = 0 by omega, gch_0]
    · rw [nI_leI (by omega) (by omega)] at e2
      refine e_go1 (by omega) (LM_fm hL f2) A2 hO hp (fun S4 v f4 A4 => ?_)
      refine ife (fun e3 => ?_) (fun e3 => ?_)
      · have e3 : nI y = nI 1 := e3
        rw [nI_eq (by omega) (by omega)] at e3
        refine e_go1 (by omega) (LM_fm hL (f2.trans f4)) A4 (oc _ _ _ hO) ho (fun S5 v f5 A5 => g36 S5 _ ((f2.trans f4).trans f5) A5 (oc _ _ _ (oc _ _ _ hO)) ?_)
        unfold gm0
        rw [if_pos (by omega), if_neg (by omega), e1, e3]
      · have e3 : ¬ nI y = nI 1 := e3
        rw [nI_eq (by omega) (by omega)] at e3
        refine g36 S4 _ (f2.trans f4) A4 (oc _ _ _ hO) ?_
        unfold gm0
        rw [if_pos (by omega), if_neg (by omega), e1, show y = 0 by omega, gch_0]
  · have e1 : ¬ nI x = nI 1 := e1
    rw [nI_eq (by omega) (by omega)] at e1
    have x0 : x = 0 := by omega
    refine ife (fun e3 => ?_) (fun e3 => ?_)
    · have e3 : nI y = nI 1 := e3
      rw [nI_eq (by omega) (by omega)] at e3
      refine e_go1 (by omega) (LM_fm hL f2) A2 hO ho (fun S4 v f4 A4 => g36 S4 _ (f2.trans f4) A4 (oc _ _ _ hO) ?_)
      unfold gm0
      rw [if_neg (show ¬ (x = 1 ∧ o < p) from fun g => e1 g.1), x0, e3, gch_0, gch_0]
      split <;> rfl
    · have e3 : ¬ nI y = nI 1 := e3
      rw [nI_eq (by omega) (by omega)] at e3
      refine g36 S2 _ f2 A2 hO ?_
      unfold gm0
      rw [if_neg (show ¬ (x = 1 ∧ o < p) from fun g => e1 g.1), x0, show y = 0 by omega, gch_0, gch_0, gch_0, gch_0]
      split <;> rfl
end GMM
section GMN
variable {G : Gst} {S : St} {E : zX} {d : Nat} {Q : Int32 → St → Prop}
theorem c4_dm : ∀ c, c < 4 → nI c / (2 : Int32) = nI (c / 2) ∧ zrem (nI c) 2 = nI (c % 2) := by decide +kernel
theorem m_game {a b c : Int32} (hd : 20 ≤ d) (hG : GInv G) (hR : RelM G S) (h : ∀ S' v, QM S S' → S' 65 0 = nI (cGame G a b c) → (cGame G a b c = 0 → v = vGame G a b c) → Q v S') : k_m_game E d S a b c Q := by
  have p7 := hG.1.p7
  refine w_m_game (by omega) (fun S1 e1 => ?_)
  have q1 : QM S S1 := by
    rw [e1]
    exact QM_up _ (by decide)
  have t1 : S1 65 0 = 0 := by rw [e1, up_same, upd_same]
  have L1 := LM_qm hR.lm q1
  have A1 : ScM (gl G) (S1 77) 0 (gA G) := ScM_lo hG.1 hR.sc (fun i hi => q1.2.2 i hi)
  have bad : cGame G a b c = 1 → Q 0 (up S1 65 0 1) := fun hc => h _ _ (q1.trans (QM_up _ (by decide))) (by rw [up_same, upd_same, hc]; rfl) (fun hh => by rw [hh] at hc; cases hc)
  refine e_isPerson (by omega) L1 t1 (fun p hp ea => ?_) (fun e => ?_)
  · subst ea
    have g1 := ng_f (n := lp (gl G)) (x := p) (by omega) hp
    rw [if_neg (by decide)]
    refine e_isPerson (by omega) L1 t1 (fun o ho eb => ?_) (fun e => ?_)
    · subst eb
      have g2 := ng_f (n := lp (gl G)) (x := o) (by omega) ho
      rw [if_neg (by decide)]
      refine e_isWhat (n := 1) (by omega) (by omega) t1 (fun w hw ec => ?_) (fun e => ?_)
      · subst ec
        have g3 := ng_f (n := 2) (x := w) (by omega) (by omega)
        rw [if_neg (by decide)]
        refine ife (fun e => ?_) (fun e => ?_)
        · have hc : cGame G (nI p) (nI o) (nI w) = 2 := by unfold cGame cd3; rw [g1, g2, g3, decide_eq_true e]; rfl
          refine w_m_game_41 (by omega) (e_right0 (v := 2) t1 (by decide) ?_)
          rw [if_pos rfl]
          exact h _ _ (q1.trans (QM_up _ (by decide))) (by rw [up_same, upd_same, hc]; rfl) (fun h0 => by rw [hc] at h0; cases h0)
        · have hc : cGame G (nI p) (nI o) (nI w) = 0 := by unfold cGame cd3; rw [g1, g2, g3, decide_eq_false e]; rfl
          rw [nI_eq (by omega) (by omega)] at e
          refine w_m_game_41 (by omega) (e_right1 t1 ?_)
          rw [if_neg (by decide)]
          rw [hc] at h
          have h : ∀ S' v, FM 79 S1 S' → v = vGame G (nI p) (nI o) (nI w) → Q v S' := fun S' v f hv => h S' v (q1.trans (QM_fm f)) (by rw [f.2.1 0 (by decide), t1]; rfl) (fun _ => hv)
          unfold vGame at h
          rw [tN_nI (by omega), tN_nI (by omega)] at h
          have r1 : ∀ q, q < lp (gl G) → S1 77 (1 + q) = gA G 1 q := fun q hq => by
            have := A1 1 q (by decide) hq
            rw [show 0 + offM 1 + q = 1 + q from by show 0 + 1 + q = 1 + q; omega] at this
            exact this
          refine ⟨1 + p, nI_add 1 p, by omega, ?_⟩
          rw [r1 p hp]
          refine ife (fun t => ?_) (fun t => ⟨1 + o, nI_add 1 o, by omega, ?_⟩)
          · rw [if_pos (Or.inl t)] at h
            exact h S1 _ (FM.refl _ _) rfl
          rw [r1 o ho]
          refine ife (fun t2 => ?_) (fun t2 => ?_)
          · rw [if_pos (Or.inr t2)] at h
            exact h S1 _ (FM.refl _ _) rfl
          rw [if_neg (fun g => g.elim t t2)] at h
          refine dn (P := fun k => ∀ S' : St, FM 79 S1 S' → k_m_game_83 E d S' (nI p) (nI o) (nI w) (num (gRs G p o) k) (match fstF (gRs G p o) k with
            | none => -1
            | some j => nI (10 * (j / 2) + j % 2)) k Q) 4 ?_ ?_ 0 (Nat.zero_le _) S1 (FM.refl _ _)
          · intro S' f
            refine w_m_game_83 (by omega) ?_
            rw [if_pos (Int32.le_refl _)]
            refine ife (fun e => ?_) (fun e => ?_)
            · rw [if_pos e] at h
              exact h S' _ f rfl
            · rw [if_neg e] at h
              exact h S' _ f rfl
          · intro k hk ih S' f
            refine w_m_game_83 (by omega) ?_
            have b1 : k / 2 ≤ 1 := by omega
            have b2 : k % 2 ≤ 1 := by omega
            rw [if_neg (nI_ge hk (by omega)), (c4_dm k hk).1, (c4_dm k hk).2, show (1 : Int32) - nI (k / 2) = nI (1 - k / 2) from pk_sub (a := 1) b1, show (1 : Int32) - nI (k % 2) = nI (1 - k % 2) from pk_sub (a := 1) b2]
            have sc : ∀ S2 : St, FM 79 S1 S2 → ScM (gl G) (S2 77) 0 (gA G) := fun S2 f2 => ScM_lo hG.1 A1 (fun i hi => f2.2.2 i (Or.inl hi))
            have lb1 : ∀ x y q c, c ≤ 1 → (-2147483648 : Int) < (los (gA G) (gm (gl G) (gA G) p o x y) q c).toInt := fun x y q c hc => los_bd hG.1 hc
            have ne : ¬ o = p := fun g => e g.symm
            have next : ∀ S2 : St, FM 79 S1 S2 → gRs G p o k = false → k_m_game_83 E d S2 (nI p) (nI o) (nI w) (num (gRs G p o) k) (match fstF (gRs G p o) k with
              | none => -1
              | some j => nI (10 * (j / 2) + j % 2)) (k + 1) Q := fun S2 f2 hg => by
              have ih := ih S2 f2
              rw [num_succ, if_neg (by rw [hg]; decide), fstF_s, hg] at ih
              cases ef : fstF (gRs G p o) k with
              | none =>
                rw [ef] at ih
                exact ih
              | some j =>
                rw [ef] at ih
                exact ih
            refine e_gains (by omega) (LM_fm L1 f) (sc S' f) hG.cok hG.gok hp ho e (by omega) b2 (fun S2 f2 => ?_)
            refine e_gains (by omega) (LM_fm L1 (f.trans f2)) (sc S2 (f.trans f2)) hG.cok hG.gok hp ho e b1 b2 (fun S3 f3 => ?_)
            have F3 := (f.trans f2).trans f3
            have gdef : gRs G p o k = (!decide (los (gA G) (gm (gl G) (gA G) p o (1 - k / 2) (k % 2)) p (1 - k / 2) < los (gA G) (gm (gl G) (gA G) p o (k / 2) (k % 2)) p (k / 2)) && !decide (los (gA G) (gm (gl G) (gA G) p o (k / 2) (1 - k % 2)) o (1 - k % 2) < los (gA G) (gm (gl G) (gA G) p o (k / 2) (k % 2)) o (k % 2))) := rfl
            refine ife (fun u => ?_) (fun u => ?_)
            · rw [neg_lt (lb1 _ _ _ _ b1) (lb1 _ _ _ _ (by omega))] at u
              exact next S3 F3 (by rw [gdef, decide_eq_true u]; rfl)
            · rw [neg_lt (lb1 _ _ _ _ b1) (lb1 _ _ _ _ (by omega))] at u
              refine e_gains (by omega) (LM_fm L1 F3) (sc S3 F3) hG.cok hG.gok ho hp ne (by omega) b1 (fun S4 f4 => ?_)
              refine e_gains (by omega) (LM_fm L1 (F3.trans f4)) (sc S4 (F3.trans f4)) hG.cok hG.gok ho hp ne b2 b1 (fun S5 f5 => ?_)
              have F5 := (F3.trans f4).trans f5
              rw [gm_sym ne, gm_sym ne]
              refine ife (fun v => ?_) (fun v => ?_)
              · have v := Int32.not_lt.mpr v
                rw [neg_lt (lb1 _ _ _ _ b2) (lb1 _ _ _ _ (by omega))] at v
                have hg : gRs G p o k = true := by rw [gdef, decide_eq_false u, decide_eq_false v]; rfl
                have ih := ih S5 F5
                rw [num_succ, if_pos hg, fstF_s, hg] at ih
                cases ef : fstF (gRs G p o) k with
                | none =>
                  rw [ef] at ih
                  rw [if_pos rfl, show (10 : Int32) = nI 10 from rfl, pk_mul, nI_add]
                  exact ih
                | some j =>
                  have := (fstF_inv _ _ ef).2.1
                  rw [ef] at ih
                  simp only
                  rw [if_neg (oI_ne (show 10 * (j / 2) + j % 2 < 2 ^ 31 by omega))]
                  exact ih
              · have v := Int32.not_le.mp v
                rw [neg_lt (lb1 _ _ _ _ b2) (lb1 _ _ _ _ (by omega))] at v
                exact next S5 F5 (by rw [gdef, decide_eq_true v, Bool.and_comm]; rfl)
      · rw [if_pos rfl]
        exact bad (by unfold cGame cd3; rw [g1, g2, show ng 2 c = true from decide_eq_true e]; rfl)
    · rw [if_pos rfl]
      exact bad (by unfold cGame cd3; rw [g1, show ng (lp (gl G)) b = true from decide_eq_true e]; rfl)
  · rw [if_pos rfl]
    exact bad (by unfold cGame cd3; rw [show ng (lp (gl G)) a = true from decide_eq_true e]; rfl)
end GMN
