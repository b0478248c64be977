section LC2
variable {S : St} {E : zX} {d : Nat} {a0 : UInt32} {a4 n m : Nat} {f : Nat → Int32} {Q : Int32 → St → Prop}

theorem l_carry (hd : 25 ≤ d) (hm : m < 900000) (hO : out E a0 = some (0, n, f)) (hl : a4 + 5 < n) (h31 : n < 2 ^ 31) (hI : LI S m) (h : ∀ S', LI S' (m + 1) → k_law_law_2231 E d S' a0 a4 Q) : k_law_law_611 E d S a0 a4 Q := by
  obtain ⟨G, hG, hC, hM, hn⟩ := hI
  have i : ∀ j, j ≤ 5 → ix (nI (a4 + j)) n := fun j hj => ix_nI (by omega) h31
  have hb : cCarry G (f (nI (a4 + 1)).toNatClampNeg) (f (nI (a4 + 2)).toNatClampNeg) ≤ 1 := by unfold cCarry; first | exact (by decide : ∀ p q, cd3 p q false ≤ 1) _ _ | exact (by decide : ∀ p, cd3 p false false ≤ 1) _
  refine w_law_law_611 (by omega) ⟨n, f, hO, i 1 (by omega), n, f, hO, i 2 (by omega), ?_⟩
  refine w_law_carry (by omega) (x_carry (by omega) hG hC (by omega) (fun e0 S2 c2 S3 e3 => ?_) (fun k ek => ?_))
  · refine ⟨n, f, hO, i 1 (by omega), n, f, hO, i 2 (by omega), ?_⟩
    have o3 : ∀ k, k ≠ 91 → S3 k = S2 k := fun k hk => by rw [e3, upA_ne _ hk]
    have M3 : RelM G S3 := RelM_c hM (fun k a b => by rw [o3 k (by omega), c2.2 k a])
    refine m_carry (by omega) hG M3 (fun _ S4 m4 z4 => ?_) (fun g => absurd e0 g)
    refine w_m_thrown ?_
    have e91 : S4 91 = S3 91 := m4.2 91 (by omega)
    rw [z4, if_pos rfl, if_pos rfl, e91, e3, upA_cat, if_pos ((lg0 _ _).mpr rfl)]
    refine h S4 ⟨_, i_carry hG e0, RelC_of c2.1 (fun k hk => by rw [m4.2 k (by omega), o3 k (by omega)]), m4.1, ?_⟩
    rw [m4.2 1000 (by omega), o3 1000 (by omega), c2.2 1000 (by omega)]
    omega
  · have k0 : k = 0 := by omega
    subst k0
    refine ⟨rfl, n, f, hO, i 1 (by omega), n, f, hO, i 2 (by omega), ?_⟩
    have M3 : RelM G (upT S) := RelM_c hM (fun k a b => upT_ne (by omega))
    refine m_carry (by omega) hG M3 (fun g => by omega) (fun _ S4 v me z4 => ?_)
    refine w_m_thrown ?_
    have z5 : S4 65 0 = 1 := by
      rw [z4, ek]
      rfl
    rw [z5, if_pos rfl, if_neg (by decide)]
    refine h S4 ⟨G, hG, RelC_of hC (fun k hk => by rw [me.2 k (by omega), upT_ne (by omega)]), me.1, ?_⟩
    rw [me.2 1000 (by omega)]
    exact upT_n hm hn

theorem l_soothe (hd : 25 ≤ d) (hm : m < 900000) (hO : out E a0 = some (0, n, f)) (hl : a4 + 5 < n) (h31 : n < 2 ^ 31) (hI : LI S m) (h : ∀ S', LI S' (m + 1) → k_law_law_2231 E d S' a0 a4 Q) : k_law_law_770 E d S a0 a4 Q := by
  obtain ⟨G, hG, hC, hM, hn⟩ := hI
  have i : ∀ j, j ≤ 5 → ix (nI (a4 + j)) n := fun j hj => ix_nI (by omega) h31
  have hb : cd3 (ng (lp (gl G)) (f (nI (a4 + 1)).toNatClampNeg)) false false ≤ 1 := (by decide : ∀ p, cd3 p false false ≤ 1) _
  refine w_law_law_770 (by omega) ⟨n, f, hO, i 1 (by omega), n, f, hO, i 2 (by omega), ?_⟩
  refine w_law_soothe (by omega) (x_soothe (by omega) hG hC (by omega) (fun e0 S2 c2 S3 e3 => ?_) (fun k ek => ?_))
  · refine ⟨n, f, hO, i 1 (by omega), n, f, hO, i 2 (by omega), ?_⟩
    have o3 : ∀ k, k ≠ 91 → S3 k = S2 k := fun k hk => by rw [e3, upA_ne _ hk]
    have M3 : RelM G S3 := RelM_c hM (fun k a b => by rw [o3 k (by omega), c2.2 k a])
    refine m_soothe (by omega) hG M3 (fun _ S4 m4 z4 => ?_) (fun g => absurd e0 g)
    refine w_m_thrown ?_
    have e91 : S4 91 = S3 91 := m4.2 91 (by omega)
    rw [z4, if_pos rfl, if_pos rfl, e91, e3, upA_cat, if_pos ((lg0 _ _).mpr rfl)]
    refine h S4 ⟨_, i_soothe hG, RelC_of c2.1 (fun k hk => by rw [m4.2 k (by omega), o3 k (by omega)]), m4.1, ?_⟩
    rw [m4.2 1000 (by omega), o3 1000 (by omega), c2.2 1000 (by omega)]
    omega
  · have k0 : k = 0 := by omega
    subst k0
    refine ⟨rfl, n, f, hO, i 1 (by omega), n, f, hO, i 2 (by omega), ?_⟩
    have M3 : RelM G (upT S) := RelM_c hM (fun k a b => upT_ne (by omega))
    refine m_soothe (by omega) hG M3 (fun g => by omega) (fun _ S4 v me z4 => ?_)
    refine w_m_thrown ?_
    have z5 : S4 65 0 = 1 := by
      rw [z4, ek]
      rfl
    rw [z5, if_pos rfl, if_neg (by decide)]
    refine h S4 ⟨G, hG, RelC_of hC (fun k hk => by rw [me.2 k (by omega), upT_ne (by omega)]), me.1, ?_⟩
    rw [me.2 1000 (by omega)]
    exact upT_n hm hn

end LC2
