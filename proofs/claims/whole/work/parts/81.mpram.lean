/-! the call pram, in the reference -/
section PS
variable {G : Gst} {S : St} {E : zX} {d : Nat} {Q : Int32 → St → Prop}
theorem m_pram {a b c : Int32} (hd : 20 ≤ d) (hG : GInv G) (hR : RelM G S) (h : ∀ S' v, QM S S' → S' 65 0 = nI (cPram G a b c) → (cPram G a b c = 0 → v = vPram G a b c) → Q v S') : k_m_pram E d S a b c Q := by
  have c36 := hG.1.c36
  refine w_m_pram (by omega) (fun S1 e1 => ?_)
  have q1 : QM S S1 := by
    rw [e1]
    exact QM_up _ (by decide)
  have t1 : S1 65 0 = 0 := by rw [e1, up_same, upd_same]
  have L1 := LM_qm hR.lm q1
  have bad : cPram G a b c = 1 → Q 0 (up S1 65 0 1) := fun hc => h _ _ (q1.trans (QM_up _ (by decide))) (by rw [up_same, upd_same, hc]; rfl) (fun hh => by rw [hh] at hc; cases hc)
  have n1 : ¬ (1 : Int32) = 0 := by decide
  refine e_isCell (by omega) L1 t1 (fun o ho ea => ?_) (fun e => ?_)
  · subst ea
    rw [if_neg n1]
    refine e_isCell (by omega) L1 t1 (fun t ht eb => ?_) (fun e => ?_)
    · subst eb
      rw [if_neg n1]
      refine e_isWhat (n := 1) (by omega) (by omega) t1 (fun y hy ec => ?_) (fun e => ?_)
      · subst ec
        rw [if_neg n1]
        have c0 : cPram G (nI o) (nI t) (nI y) = 0 := by unfold cPram cd3; rw [ng_f (by omega) ho, ng_f (by omega) ht, ng_f (by omega) (by omega)]; rfl
        have A1 : ScM (gl G) (S1 77) 0 (gA G) := ScM_lo hG.1 hR.sc (fun i hi => q1.2.2 i hi)
        refine e_laysFar (by omega) L1 A1 hG.cok ht (fun S9 f f9 hf f0 g9 b9 => ?_)
        have fw : ∀ x, x < lw (gl G) * lh (gl G) → f x = wy (gl G) (gA G) t x := fun x hx => dst_same hf lvf_dst f0 lvf_t hx
        have q9 : QM S1 S9 := ⟨fun k hk => f9 k (fun hh => by rw [hh] at hk; revert hk; decide) (fun hh => by rw [hh] at hk; revert hk; decide), fun i _ => by rw [f9 65 (by decide) (by decide)], fun i _ => by rw [f9 77 (by decide) (by decide)]⟩
        have t9 : S9 65 0 = 0 := by
          rw [f9 65 (by decide) (by decide)]
          exact t1
        have h : ∀ v, v = vPram G (nI o) (nI t) (nI y) → Q v S9 := fun v hv => h S9 v (q1.trans q9) (by rw [t9, c0]; rfl) (fun _ => hv)
        unfold vPram at h
        rw [tN_nI (by omega), tN_nI (by omega)] at h
        have eo : S9 81 o = nin (wy (gl G) (gA G) t o) := by rw [g9 o ho, fw o ho]
        have bo : ∀ k, wy (gl G) (gA G) t o = some k → k < 1000 := fun k e => b9 o k ho (by rw [fw o ho]; exact e)
        refine ife (fun e => ?_) (fun e => ?_)
        · rw [if_pos e] at h
          refine ⟨o, rfl, by omega, ?_⟩
          rw [eo]
          cases ew : wy (gl G) (gA G) t o with
          | none =>
            rw [ew] at h
            rw [if_neg (by decide)]
            exact h _ rfl
          | some k =>
            have := bo k ew
            rw [ew] at h
            rw [if_pos (show nin (some k) < 9999 from nI_lt (b := 9999) (by omega) (by omega))]
            refine ⟨o, rfl, by omega, ?_⟩
            rw [eo, ew]
            exact h _ rfl
        · rw [if_neg e] at h
          have no : (∀ s, ¬ wy (gl G) (gA G) t o = some (s + 1)) → Q (-1) S9 := fun hs => h (-1) (fsV_eps (Or.inr ⟨rfl, fun s e => absurd e (hs s)⟩)).symm
          cases ew : wy (gl G) (gA G) t o with
          | none =>
            refine w_m_pram_70 (by omega) ?_
            rw [if_neg (by decide)]
            refine ⟨o, rfl, by omega, ?_⟩
            rw [eo, ew, if_neg (by decide)]
            refine ⟨o, rfl, by omega, ?_⟩
            rw [eo, ew, if_pos (by decide)]
            exact no (fun s hs => by rw [ew] at hs; cases hs)
          | some k =>
            cases k with
            | zero =>
              refine w_m_pram_70 (by omega) ?_
              rw [if_neg (by decide)]
              refine ⟨o, rfl, by omega, ?_⟩
              rw [eo, ew, if_pos (by decide)]
              exact no (fun s hs => by rw [ew] at hs; cases hs)
            | succ s =>
              have := bo (s + 1) ew
              have A9 : ScM (gl G) (S9 77) 0 (gA G) := by
                rw [f9 77 (by decide) (by decide)]
                exact A1
              exact e_sides (by omega) (LM_qm L1 q9) A9 hG.cok ho ew (by omega) (fun x hx => by rw [g9 x hx, fw x hx]) (fun x k hx e => b9 x k hx (by rw [fw x hx]; exact e)) (fun v hv => h v (fsV_eps hv).symm)
      · rw [if_pos rfl]
        exact bad (by unfold cPram cd3; rw [ng_f (by omega) ho, ng_f (by omega) ht, show ng 2 c = true from decide_eq_true e]; rfl)
    · rw [if_pos rfl]
      exact bad (by unfold cPram cd3; rw [ng_f (by omega) ho, show ng (lw (gl G) * lh (gl G)) b = true from decide_eq_true e]; rfl)
  · rw [if_pos rfl]
    exact bad (by unfold cPram cd3; rw [show ng (lw (gl G) * lh (gl G)) a = true from decide_eq_true e]; rfl)
end PS
