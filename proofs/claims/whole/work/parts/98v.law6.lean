section LB
variable {S : St} {E : zX} {d : Nat} {a0 : UInt32} {a4 n m : Nat} {f : Nat → Int32} {Q : Int32 → St → Prop}
theorem l_image (hd : 25 ≤ d) (hI : LI S m) (h : ∀ S', LI S' m → k_law_law_2231 E d S' a0 a4 Q) : k_law_law_2207 E d S a0 a4 Q := by
  obtain ⟨G, hG, hC, hM, hn⟩ := hI
  exact w_law_law_2207 (by omega) (x_image (by omega) hG hC (fun S1 c1 => m_image (by omega) hG (RelM_c hM (fun k a _ => c1.2 k a)) (fun S2 m2 _ => h S2 (LI_act (G := G) (i_image hG) c1 m2 hn))))
theorem l_restore (hd : 25 ≤ d) (hI : LI S m) (h : ∀ S', LI S' m → k_law_law_2231 E d S' a0 a4 Q) : k_law_law_2218 E d S a0 a4 Q := by
  obtain ⟨G, hG, hC, hM, hn⟩ := hI
  refine w_law_law_2218 (by omega) (x_restore (by omega) hG hC (fun S1 c1 => m_restore (by omega) hG (RelM_c hM (fun k a _ => c1.2 k a)) (fun S2 m2 _ => ?_)))
  rw [if_pos rfl]
  exact h S2 (LI_act (G := G) (i_restore hG) c1 m2 hn)
theorem l_tread (hd : 25 ≤ d) (hm : m < 900000) (hO : out E a0 = some (0, n, f)) (hl : a4 + 5 < n) (h31 : n < 2 ^ 31) (hI : LI S m) (h : ∀ S', LI S' (m + 1) → k_law_law_2231 E d S' a0 a4 Q) : k_law_law_555 E d S a0 a4 Q := by
  obtain ⟨G, hG, hC, hM, hn⟩ := hI
  have i : ∀ j, j ≤ 5 → ix (nI (a4 + j)) n := fun j hj => ix_nI (by omega) h31
  have hb : cd3 (ng (lb (gl G)) (f (nI (a4 + 1)).toNatClampNeg)) false false ≤ 1 := (by decide : ∀ p, cd3 p false false ≤ 1) _
  refine w_law_law_555 (by omega) ⟨n, f, hO, i 1 (by omega), ?_⟩
  refine w_law_tread (by omega) (x_tread (by omega) hG hC (by omega) (fun e0 S2 c2 S3 e3 => ?_) (fun k ek => ?_))
  · refine ⟨n, f, hO, i 1 (by omega), ?_⟩
    have o3 : ∀ k, k ≠ 91 → S3 k = S2 k := fun k hk => by rw [e3, upA_ne _ hk]
    have M3 : RelM G S3 := RelM_c hM (fun k a b => by rw [o3 k (by omega), c2.2 k a])
    refine m_tread (by omega) hG M3 (fun _ S4 m4 z4 => ?_) (fun g => absurd e0 g)
    refine w_m_thrown ?_
    have e91 : S4 91 = S3 91 := m4.2 91 (by omega)
    rw [z4, if_pos rfl, if_pos rfl, e91, e3, upA_cat, if_pos ((lg0 _ _).mpr rfl)]
    refine h S4 ⟨_, i_tread hG _, RelC_of c2.1 (fun k hk => by rw [m4.2 k (by omega), o3 k (by omega)]), m4.1, ?_⟩
    rw [m4.2 1000 (by omega), o3 1000 (by omega), c2.2 1000 (by omega)]
    omega
  · have k0 : k = 0 := by omega
    subst k0
    refine ⟨rfl, n, f, hO, i 1 (by omega), ?_⟩
    have M3 : RelM G (upT S) := RelM_c hM (fun k a b => upT_ne (by omega))
    refine m_tread (by omega) hG M3 (fun g => by omega) (fun _ S4 v me z4 => ?_)
    refine w_m_thrown ?_
    have z5 : S4 65 0 = 1 := by
      rw [z4, ek]
      rfl
    rw [z5, if_pos rfl, if_neg (by decide)]
    refine h S4 ⟨G, hG, RelC_of hC (fun k hk => by rw [me.2 k (by omega), upT_ne (by omega)]), me.1, ?_⟩
    rw [me.2 1000 (by omega)]
    exact upT_n hm hn
end LB
