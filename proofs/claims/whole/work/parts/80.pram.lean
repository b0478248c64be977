/-! the call pram -/
noncomputable def vPram (G : Gst) (a b c : Int32) : Int32 := if c = 0 then oI (wy (gl G) (gA G) (tN b) (tN a)) else Classical.epsilon (fsV (gl G) (gA G) (tN a) (tN b))
def cPram (G : Gst) (a b c : Int32) : Nat := cd3 (ng (lw (gl G) * lh (gl G)) a) (ng (lw (gl G) * lh (gl G)) b || ng 2 c) false
theorem fsV_eps {l : Lnd} {A : Scn} {o t : Nat} {v : Int32} (h : fsV l A o t v) : Classical.epsilon (fsV l A o t) = v := fsV_one (Classical.epsilon_spec ⟨v, h⟩) h
section PR
variable {G : Gst} {S : St} {E : zX} {d : Nat} {Q : Int32 → St → Prop} {X : Nat → St → Prop}
theorem x_pram {a b c : Int32} (hd : 20 ≤ d) (hG : GInv G) (hR : RelC G S) (hn : (S 1000 0).toNatClampNeg < 1000000) (h : cPram G a b c = 0 → ∀ S', QC S S' → Q (vPram G a b c) S') (hX : ∀ k, cPram G a b c = k + 1 → X k (upT S)) : k_x_pram E d S a b c Q X := by
  have c36 := hG.1.c36
  refine w_x_pram (by omega) (n_cell (by omega) hR.lc hn (fun o ho ea => ?_) (fun e => hX 0 (by unfold cPram cd3; rw [e]; rfl)))
  subst ea
  refine n_cell (by omega) hR.lc hn (fun t ht eb => ?_) (fun e => hX 0 (by unfold cPram cd3; rw [e, ng_f (by omega) ho]; rfl))
  subst eb
  refine n_what (n := 1) (by omega) (by omega) hn (fun y hy ec => ?_) (fun e => hX 0 (by unfold cPram cd3; rw [e, ng_f (by omega) ho, ng_f (by omega) ht]; rfl))
  subst ec
  have h := h (by unfold cPram cd3; rw [ng_f (by omega) ho, ng_f (by omega) ht, ng_f (by omega) (by omega)]; rfl)
  unfold vPram at h
  rw [tN_nI (by omega), tN_nI (by omega)] at h
  have qc : ∀ S', Fr [48, 49] S S' → QC S S' := fun S' f => QC_fr f (fun k hk => by simp only [List.mem_cons, List.not_mem_nil, or_false] at hk; omega)
  refine ife (fun e => ?_) (fun e => ?_)
  · rw [if_pos e] at h
    exact c_steps (by omega) hR.lc hR.sc hG.cok ho ht (fun S' f _ => h S' (qc S' f))
  · rw [if_neg e] at h
    refine c_firstStep (by omega) hR.lc hR.sc hG.cok ho ht (fun S' v f hv => ?_)
    rw [fsV_eps hv] at h
    exact h S' (qc S' f)
end PR
