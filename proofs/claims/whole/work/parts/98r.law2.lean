section LW2
variable {S : St} {E : zX} {d : Nat} {a0 : UInt32} {a4 n m : Nat} {f : Nat → Int32} {Q : Int32 → St → Prop}
theorem upA_ne {k : Nat} (v : Int64) (h : k ≠ 91) : upA S 91 v k = S k := setR_ne _ _ h
theorem upA_cat (v : Int64) : catL (upA S 91 v 91 0) (upA S 91 v 91 1) = v := by
  unfold upA
  rw [setR_same, upd_same, upd_ne _ _ (by decide), upd_same, catL_eq]
theorem upT_ne {k : Nat} (h : k ≠ 1000) : upT S k = S k := up_ne _ _ _ h
theorem upT_n {m : Nat} (hm : m < 900000) (hn : (S 1000 0).toNatClampNeg ≤ m) : (upT S 1000 0).toNatClampNeg ≤ m + 1 := by
  unfold upT
  rw [up_same, upd_same]
  have := tN_nI (x := (S 1000 0).toNatClampNeg + 1) (by omega)
  have e : (nI ((S 1000 0).toNatClampNeg + 1)).toNatClampNeg = (S 1000 0).toNatClampNeg + 1 := this
  rw [e]
  omega
theorem LI_mono {m m' : Nat} (h : LI S m) (hm : m ≤ m') : LI S m' := by
  obtain ⟨G, a, b, c, e⟩ := h
  exact ⟨G, a, b, c, by omega⟩
theorem l_county (hd : 95 ≤ d) (hE : TE E) (hm : m < 900000) (hO : out E a0 = some (0, n, f)) (hl : a4 + 5 < n) (h31 : n < 2 ^ 31) (hI : LI S m) (h : ∀ S', LI S' (m + 1) → k_law_law_2231 E d S' a0 a4 Q) : k_law_law_269 E d S a0 a4 Q := by
  obtain ⟨G, hG, hC, hM, hn⟩ := hI
  have i : ∀ j, j ≤ 5 → ix (nI (a4 + j)) n := fun j hj => ix_nI (by omega) h31
  refine w_law_law_269 (by omega) ⟨n, f, hO, i 1 (by omega), ?_⟩
  refine w_law_county (by omega) (x_county (by omega) hE hG hC (by omega) (fun hng S2 c2 S3 e3 => ?_) (fun hng => ⟨rfl, ?_⟩))
  · refine ⟨n, f, hO, i 1 (by omega), ?_⟩
    have o3 : ∀ k, k ≠ 91 → S3 k = S2 k := fun k hk => by rw [e3, upA_ne _ hk]
    have M3 : RelM G S3 := RelM_c hM (fun k a b => by rw [o3 k (by omega), c2.2 k a])
    refine m_county (by omega) hG M3 (fun _ S4 m4 z4 => ?_) (fun hg => by rw [hng] at hg; cases hg)
    refine w_m_thrown ?_
    have e91 : S4 91 = S3 91 := m4.2 91 (by omega)
    rw [z4, if_pos rfl, if_pos rfl, e91, e3, upA_cat, if_pos ((lg0 _ _).mpr rfl)]
    have hnn : tN (f (nI (a4 + 1)).toNatClampNeg) ≤ gtn G := by
      have := of_decide_eq_false hng
      rcases pk_ix (f (nI (a4 + 1)).toNatClampNeg) (n := gtn G + 1) (by have := hG.2.2.2.1; have : gtn G ≤ 700 := this; omega) with g | g | ⟨q, hq, eq⟩
      · exact absurd (Or.inl g) this
      · exact absurd (Or.inr g) this
      · rw [eq, tN_nI (by have := hG.2.2.2.1; have : gtn G ≤ 700 := this; omega)]
        omega
    refine h S4 ⟨_, i_cty hG hnn, RelC_of c2.1 (fun k hk => by rw [m4.2 k (by omega), o3 k (by omega)]), m4.1, ?_⟩
    rw [m4.2 1000 (by omega), o3 1000 (by omega), c2.2 1000 (by omega)]
    omega
  · refine ⟨n, f, hO, i 1 (by omega), ?_⟩
    have M3 : RelM G (upT S) := RelM_c hM (fun k a b => upT_ne (by omega))
    refine m_county (by omega) hG M3 (fun hg => by rw [hng] at hg; cases hg) (fun _ S4 q4 z4 => ?_)
    refine w_m_thrown ?_
    rw [z4, if_pos rfl, if_neg (by decide)]
    have me := ME_qm M3 q4
    refine h S4 ⟨G, hG, RelC_of hC (fun k hk => by rw [me.2 k (by omega), upT_ne (by omega)]), me.1, ?_⟩
    rw [me.2 1000 (by omega)]
    exact upT_n hm hn
end LW2
