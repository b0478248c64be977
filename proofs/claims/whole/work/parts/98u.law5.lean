section LA
variable {S : St} {E : zX} {d : Nat} {a0 : UInt32} {a4 n m : Nat} {f : Nat → Int32} {Q : Int32 → St → Prop}
theorem l_first (hd : 25 ≤ d) (hI : LI S m) (h : ∀ S', LI S' m → k_law_law_2231 E d S' a0 a4 Q) : k_law_law_1067 E d S a0 a4 Q := by
  obtain ⟨G, hG, hC, hM, hn⟩ := hI
  refine w_law_law_1067 (by omega) (x_first (by omega) hG hC (fun S1 q1 => m_first (by omega) hG (RelM_c hM (fun k a _ => q1 k (by omega))) (fun S2 q2 => ?_)))
  rw [if_pos rfl]
  exact h S2 (LI_act (G := G) hG (CE_qc hC q1) (ME_qm (RelM_c hM (fun k a _ => q1 k (by omega))) q2) hn)
theorem l_days (hd : 25 ≤ d) (hO : out E a0 = some (0, n, f)) (hl : a4 + 5 < n) (h31 : n < 2 ^ 31) (hI : LI S m) (h : ∀ S', LI S' m → k_law_law_2231 E d S' a0 a4 Q) : k_law_law_530 E d S a0 a4 Q := by
  obtain ⟨G, hG, hC, hM, hn⟩ := hI
  have i : ∀ j, j ≤ 5 → ix (nI (a4 + j)) n := fun j hj => ix_nI (by omega) h31
  refine w_law_law_530 (by omega) ⟨n, f, hO, i 1 (by omega), x_days (by omega) hG hC (fun S1 c1 => ⟨n, f, hO, i 1 (by omega), m_days (by omega) hG (RelM_c hM (fun k a _ => c1.2 k a)) (fun S2 m2 => ?_)⟩)⟩
  rw [if_pos rfl]
  exact h S2 (LI_act (G := G) (i_days hG _) c1 m2 hn)
theorem l_undo (hd : 25 ≤ d) (hI : LI S m) (h : ∀ S', LI S' m → k_law_law_2231 E d S' a0 a4 Q) : k_law_law_838 E d S a0 a4 Q := by
  obtain ⟨G, hG, hC, hM, hn⟩ := hI
  refine w_law_law_838 (by omega) (x_undo (by omega) hG hC (fun S1 c1 => m_undo hG (RelM_c hM (fun k a _ => c1.2 k a)) (fun S2 m2 => ?_)))
  rw [if_pos rfl]
  exact h S2 (LI_act (G := G) (i_undo hG) c1 m2 hn)
theorem l_forget (hd : 25 ≤ d) (hI : LI S m) (h : ∀ S', LI S' m → k_law_law_2231 E d S' a0 a4 Q) : k_law_law_1572 E d S a0 a4 Q := by
  obtain ⟨G, hG, hC, hM, hn⟩ := hI
  exact w_law_law_1572 (by omega) (x_forget hC (fun S1 c1 => m_forget (RelM_c hM (fun k a _ => c1.2 k a)) (fun S2 m2 => h S2 (LI_act (G := G) (i_forget hG) c1 m2 hn))))
end LA
