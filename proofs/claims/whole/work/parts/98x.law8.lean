section LG
variable {S : St} {E : zX} {d : Nat} {a0 : UInt32} {a4 n m : Nat} {f : Nat → Int32} {Q : Int32 → St → Prop}
theorem l_guard (hd : 25 ≤ d) (hm : m < 900000) (hO : out E a0 = some (0, n, f)) (hl : a4 + 5 < n) (h31 : n < 2 ^ 31) (hI : LI S m) (h : ∀ S', LI S' (m + 1) → k_law_law_2231 E d S' a0 a4 Q) : k_law_law_679 E d S a0 a4 Q := by
  obtain ⟨G, hG, hC, hM, hn⟩ := hI
  have i : ∀ j, j ≤ 5 → ix (nI (a4 + j)) n := fun j hj => ix_nI (by omega) h31
  have hb : cd3 (ng (lb (gl G)) (f (nI (a4 + 1)).toNatClampNeg)) false false ≤ 1 := (by decide : ∀ p, cd3 p false false ≤ 1) _
  have fin : ∀ (v : Int32), (v = 0 ∨ v = 1) → cd3 (ng (lb (gl G)) (f (nI (a4 + 1)).toNatClampNeg)) false false = 0 → ∀ (S2 S3 : St) (w : Int64), CE (eGuard G (f (nI (a4 + 1)).toNatClampNeg) v).2 S S2 → ((eGuard G (f (nI (a4 + 1)).toNatClampNeg) v).1 = 0 → w = 0) → (¬ (eGuard G (f (nI (a4 + 1)).toNatClampNeg) v).1 = 0 → w = 1) → S3 = upA S2 91 w → k_law_law_727 E d S3 a0 a4 0 (f (nI (a4 + 1)).toNatClampNeg) v Q := by
    intro v hv e0 S2 S3 w c2 w0 w1 e3
    have o3 : ∀ k, k ≠ 91 → S3 k = S2 k := fun k hk => by rw [e3, upA_ne _ hk]
    have M3 : RelM G S3 := RelM_c hM (fun k a b => by rw [o3 k (by omega), c2.2 k a])
    refine w_law_law_727 (by omega) (m_guard (by omega) hG M3 hv (fun _ S4 m4 z4 => ?_) (fun g => absurd e0 g))
    refine w_m_thrown ?_
    have e91 : S4 91 = S3 91 := m4.2 91 (by omega)
    have g : k_law_law_2231 E d S4 a0 a4 Q := by
      refine h S4 ⟨_, i_guard hG hv, RelC_of c2.1 (fun k hk => by rw [m4.2 k (by omega), o3 k (by omega)]), m4.1, ?_⟩
      rw [m4.2 1000 (by omega), o3 1000 (by omega), c2.2 1000 (by omega)]
      omega
    rw [z4, if_pos rfl, if_pos rfl, e91, e3, upA_cat]
    refine ife (fun e => ?_) (fun e => ?_)
    · rw [w0 e, if_pos ((lg0 _ _).mpr rfl)]
      exact g
    · rw [w1 e, if_pos ((lg0 _ _).mpr rfl)]
      exact g
  have bad : ∀ (v : Int32), (v = 0 ∨ v = 1) → cd3 (ng (lb (gl G)) (f (nI (a4 + 1)).toNatClampNeg)) false false = 1 → k_law_law_727 E d (upT S) a0 a4 1 (f (nI (a4 + 1)).toNatClampNeg) v Q := by
    intro v hv e1
    have M3 : RelM G (upT S) := RelM_c hM (fun k a b => upT_ne (by omega))
    refine w_law_law_727 (by omega) (m_guard (by omega) hG M3 hv (fun g => by omega) (fun _ S4 w me z4 => ?_))
    refine w_m_thrown ?_
    have z5 : S4 65 0 = 1 := by
      rw [z4, e1]
      rfl
    rw [z5, if_pos rfl, if_neg (by decide)]
    refine h S4 ⟨G, hG, RelC_of hC (fun k hk => by rw [me.2 k (by omega), upT_ne (by omega)]), me.1, ?_⟩
    rw [me.2 1000 (by omega)]
    exact upT_n hm hn
  have mid : ∀ v : Int32, (v = 0 ∨ v = 1) → (∀ (S2 : St) (y : Int32), k_law_law_727 E d S2 a0 a4 y (f (nI (a4 + 1)).toNatClampNeg) v Q → if (f (nI (a4 + 2)).toNatClampNeg) = 0 then k_law_law_727 E d S2 a0 a4 y (f (nI (a4 + 1)).toNatClampNeg) 0 Q else k_law_law_727 E d S2 a0 a4 y (f (nI (a4 + 1)).toNatClampNeg) 1 Q) → k_law_law_700 E d S a0 a4 (f (nI (a4 + 1)).toNatClampNeg) v Q := by
    intro v hv hs
    refine w_law_law_700 (by omega) (w_law_guard (by omega) (x_guard (by omega) hG hC (by omega) hv (fun e0 S2 c2 => ?_) (fun k ek => ?_)))
    · refine ife (fun e => ?_) (fun e => ?_)
      · exact fun S3 e3 => ⟨n, f, hO, i 1 (by omega), n, f, hO, i 2 (by omega), hs S3 0 (fin v hv e0 S2 S3 0 c2 (fun _ => rfl) (fun g => absurd e g) e3)⟩
      · exact fun S3 e3 => ⟨n, f, hO, i 1 (by omega), n, f, hO, i 2 (by omega), hs S3 0 (fin v hv e0 S2 S3 1 c2 (fun g => absurd g e) (fun _ => rfl) e3)⟩
    · have k0 : k = 0 := by omega
      subst k0
      exact ⟨rfl, n, f, hO, i 1 (by omega), n, f, hO, i 2 (by omega), hs _ 1 (bad v hv ek)⟩
  refine w_law_law_679 (by omega) ⟨n, f, hO, i 1 (by omega), n, f, hO, i 2 (by omega), ?_⟩
  exact ife (fun e => mid 0 (Or.inl rfl) (fun S2 y g => by rw [if_pos e]; exact g)) (fun e => mid 1 (Or.inr rfl) (fun S2 y g => by rw [if_neg e]; exact g))

theorem l_see (hd : 25 ≤ d) (hm : m < 900000) (hO : out E a0 = some (0, n, f)) (hl : a4 + 5 < n) (h31 : n < 2 ^ 31) (hI : LI S m) (h : ∀ S', LI S' (m + 1) → k_law_law_2231 E d S' a0 a4 Q) : k_law_law_1476 E d S a0 a4 Q := by
  obtain ⟨G, hG, hC, hM, hn⟩ := hI
  have i : ∀ j, j ≤ 5 → ix (nI (a4 + j)) n := fun j hj => ix_nI (by omega) h31
  have hb : cd3 (ng (lb (gl G)) (f (nI (a4 + 1)).toNatClampNeg)) false false ≤ 1 := (by decide : ∀ p, cd3 p false false ≤ 1) _
  have fin : ∀ (v : Int32), cd3 (ng (lb (gl G)) (f (nI (a4 + 1)).toNatClampNeg)) false false = 0 → ∀ (S2 S3 : St), CE (eSee G (f (nI (a4 + 1)).toNatClampNeg) (f (nI (a4 + 2)).toNatClampNeg) v).2 S S2 → S3 = upA S2 91 (Int32.toInt64 (eSee G (f (nI (a4 + 1)).toNatClampNeg) (f (nI (a4 + 2)).toNatClampNeg) v).1) → k_law_law_1536 E d S3 a0 a4 0 (f (nI (a4 + 1)).toNatClampNeg) (f (nI (a4 + 2)).toNatClampNeg) v Q := by
    intro v e0 S2 S3 c2 e3
    have o3 : ∀ k, k ≠ 91 → S3 k = S2 k := fun k hk => by rw [e3, upA_ne _ hk]
    have M3 : RelM G S3 := RelM_c hM (fun k a b => by rw [o3 k (by omega), c2.2 k a])
    refine w_law_law_1536 (by omega) (m_see (by omega) hG M3 (fun _ S4 m4 z4 => ?_) (fun g => absurd e0 g))
    refine w_m_thrown ?_
    have e91 : S4 91 = S3 91 := m4.2 91 (by omega)
    rw [z4, if_pos rfl, if_pos rfl, e91, e3, upA_cat, if_pos ((lg0 _ _).mpr rfl)]
    refine h S4 ⟨_, i_see hG e0, RelC_of c2.1 (fun k hk => by rw [m4.2 k (by omega), o3 k (by omega)]), m4.1, ?_⟩
    rw [m4.2 1000 (by omega), o3 1000 (by omega), c2.2 1000 (by omega)]
    omega
  have bad : ∀ (v : Int32), cd3 (ng (lb (gl G)) (f (nI (a4 + 1)).toNatClampNeg)) false false = 1 → k_law_law_1536 E d (upT S) a0 a4 1 (f (nI (a4 + 1)).toNatClampNeg) (f (nI (a4 + 2)).toNatClampNeg) v Q := by
    intro v e1
    have M3 : RelM G (upT S) := RelM_c hM (fun k a b => upT_ne (by omega))
    refine w_law_law_1536 (by omega) (m_see (by omega) hG M3 (fun g => by omega) (fun _ S4 w me z4 => ?_))
    refine w_m_thrown ?_
    have z5 : S4 65 0 = 1 := by
      rw [z4, e1]
      rfl
    rw [z5, if_pos rfl, if_neg (by decide)]
    refine h S4 ⟨G, hG, RelC_of hC (fun k hk => by rw [me.2 k (by omega), upT_ne (by omega)]), me.1, ?_⟩
    rw [me.2 1000 (by omega)]
    exact upT_n hm hn
  have mid : ∀ v : Int32, (∀ (S2 : St) (y : Int32), k_law_law_1536 E d S2 a0 a4 y (f (nI (a4 + 1)).toNatClampNeg) (f (nI (a4 + 2)).toNatClampNeg) v Q → if (f (nI (a4 + 3)).toNatClampNeg) = 0 then k_law_law_1536 E d S2 a0 a4 y (f (nI (a4 + 1)).toNatClampNeg) (f (nI (a4 + 2)).toNatClampNeg) 0 Q else k_law_law_1536 E d S2 a0 a4 y (f (nI (a4 + 1)).toNatClampNeg) (f (nI (a4 + 2)).toNatClampNeg) 1 Q) → k_law_law_1503 E d S a0 a4 (f (nI (a4 + 1)).toNatClampNeg) (f (nI (a4 + 2)).toNatClampNeg) v Q := by
    intro v hs
    refine w_law_law_1503 (by omega) (w_law_see (by omega) (x_see (by omega) hG hC (by omega) (fun e0 S2 c2 => ?_) (fun k ek => ?_)))
    · exact fun S3 e3 => ⟨n, f, hO, i 1 (by omega), n, f, hO, i 2 (by omega), n, f, hO, i 3 (by omega), hs S3 0 (fin v e0 S2 S3 c2 e3)⟩
    · have k0 : k = 0 := by omega
      subst k0
      exact ⟨rfl, n, f, hO, i 1 (by omega), n, f, hO, i 2 (by omega), n, f, hO, i 3 (by omega), hs _ 1 (bad v ek)⟩
  refine w_law_law_1476 (by omega) ⟨n, f, hO, i 1 (by omega), n, f, hO, i 2 (by omega), n, f, hO, i 3 (by omega), ?_⟩
  exact ife (fun e => mid 0 (fun S2 y g => by rw [if_pos e]; exact g)) (fun e => mid 1 (fun S2 y g => by rw [if_neg e]; exact g))
end LG
