/-- what reading a text leaves -/
def FC (S S' : St) : Prop := (∀ k, k ∉ [65, 71, 72, 73, 74, 75, 76] → S' k = S k) ∧ (∀ i, (1 ≤ i ∧ i < 11) ∨ (34 ≤ i ∧ i < 1000) → S' 65 i = S 65 i) ∧ S' 65 11 = 0 ∧ S' 65 0 = 0
theorem FC_fl {S S1 S2 : St} (h : FC S S1) (f : FLn S1 S2) : FC S S2 := ⟨fun k hk => (f.1 k hk).trans (h.1 k hk), fun i hi => (f.2 i (by omega)).trans (h.2.1 i hi), (f.2 11 (by omega)).trans h.2.2.1, (f.2 0 (by omega)).trans h.2.2.2⟩
section CTE
variable {t : Txt} {G : Gst} {S S1 : St} {E : zX} {d : Nat} {Q : Int32 → St → Prop}
theorem e_ctyBad {g : Nat × Nat} (hd : 1 ≤ d) (hR : RelM G S) (hF : FC S S1) (F : FaN S1 g) (h : ∀ S', ME (G.1, G.2.1, G.2.2.1, (0, gt G), nI g.2, upd (gr G) 0 (gr G 0 + 1)) S S' → S' 65 0 = 0 → Q (nI g.1) S') : k_m_county_183 E d S1 Q := by
  refine w_m_county_183 hd (e_badN F ?_)
  rw [if_pos rfl]
  refine fun S3 e3 => ?_
  have e65 : S3 65 = S1 65 := by rw [e3, up_ne _ _ _ (by decide)]
  have e : ∀ k, k ∉ [65, 71, 72, 73, 74, 75, 76] → k ≠ 70 → S3 k = S k := fun k hk h7 => by rw [e3, up_ne _ _ _ h7, hF.1 k hk]
  have u : ∀ i, (1 ≤ i ∧ i < 11) ∨ (34 ≤ i ∧ i < 1000) → S3 65 i = S 65 i := fun i hi => by rw [e65, hF.2.1 i hi]
  rw [e65, F.1]
  obtain ⟨h1, h2, h3, h4, h5, h6, h7, h8⟩ := hR
  refine h S3 ⟨⟨LM_of h1 (fun i a b => u i (by omega)) (e 66 (by decide) (by decide)) (e 67 (by decide) (by decide)) (e 68 (by decide) (by decide)), ?_, ?_, fun b hb => ?_, ?_, fun i hi => absurd hi (Nat.not_lt_zero i), ?_, fun i hi => ?_⟩, fun k hk => e k (fun hm => by simp only [List.mem_cons, List.not_mem_nil, or_false] at hm; omega) (by omega)⟩ (by rw [e65]; exact hF.2.2.2)
  · rw [e 77 (by decide) (by decide), e 78 (by decide) (by decide), e 85 (by decide) (by decide), u 42 (by omega), u 53 (by omega)]
    exact h2
  · rw [u 58 (by omega)]
    exact h3
  · rw [e 88 (by decide) (by decide), e 89 (by decide) (by decide), e 90 (by decide) (by decide), u 59 (by omega), u 60 (by omega)]
    exact h4 b hb
  · rw [e65]
    exact hF.2.2.1
  · rw [e65]
    exact F.2.1
  · rw [e3, up_same]
    show _ = upd (gr G) 0 (gr G 0 + 1) i
    have r : S1 70 = S 70 := hF.1 70 (by decide)
    rw [r]
    unfold upd
    by_cases ei : i = 0
    · rw [if_pos ei, if_pos ei, h8 0 (by decide)]
    · rw [if_neg ei, if_neg ei, h8 i hi]
theorem e_ctyGood {p top : Nat} {K : Kst} (hd : 2 ≤ d) (hK : KOk K) (hR : RelM G S) (hF : FC S S1) (R : KM t S1 p K top) (h : ∀ S', ME (K.1, (sK K.2, (0, fun _ => sK K.2), (0, fun _ => (0, 0, 0))), none, (0, gt G), -1, gr G) S S' → S' 65 0 = 0 → Q 0 S') : k_m_county_183 E d S1 Q := by
  obtain ⟨hT, hg, ⟨l23, l24, l25, l26, l71, l72, lr, lu, l29⟩, hX, ht⟩ := R
  have p7 : p ≤ 700 := Nat.le_trans hT.2.1 hT.1.1
  have hlo := hK.1
  have l7 := hlo.2.2.2.2.1
  have l10 := hlo.2.2.2.2.2.1
  refine w_m_county_183 (by omega) (e_okN hg ?_)
  rw [if_neg (by decide)]
  refine fun S4 e4 S5 e5 S6 e6 S7 e7 S8 e8 S9 e9 => ?_
  have u9 : ∀ i, (i < 1 ∨ 6 < i) → S9 65 i = S1 65 i := fun i hi => by
    rw [e9, up_same, upd_ne _ _ (by omega), e8, up_same, upd_ne _ _ (by omega), e7, up_same, upd_ne _ _ (by omega), e6, up_same, upd_ne _ _ (by omega), e5, up_same, upd_ne _ _ (by omega), e4, up_same, upd_ne _ _ (by omega)]
  have o9 : ∀ k, k ≠ 65 → S9 k = S1 k := fun k hk => by rw [e9, up_ne _ _ _ hk, e8, up_ne _ _ _ hk, e7, up_ne _ _ _ hk, e6, up_ne _ _ _ hk, e5, up_ne _ _ _ hk, e4, up_ne _ _ _ hk]
  have v1 : S9 65 1 = S1 65 23 := by
    rw [e9, up_same, upd_ne _ _ (by omega), e8, up_same, upd_ne _ _ (by omega), e7, up_same, upd_ne _ _ (by omega), e6, up_same, upd_ne _ _ (by omega), e5, up_same, upd_ne _ _ (by omega), e4, up_same, upd_same]
  have v2 : S9 65 2 = S1 65 24 := by
    rw [e9, up_same, upd_ne _ _ (by omega), e8, up_same, upd_ne _ _ (by omega), e7, up_same, upd_ne _ _ (by omega), e6, up_same, upd_ne _ _ (by omega), e5, up_same, upd_same, e4, up_same, upd_ne _ _ (by omega)]
  have v3 : S9 65 3 = S1 65 25 := by
    rw [e9, up_same, upd_ne _ _ (by omega), e8, up_same, upd_ne _ _ (by omega), e7, up_same, upd_ne _ _ (by omega), e6, up_same, upd_same, e5, up_same, upd_ne _ _ (by omega), e4, up_same, upd_ne _ _ (by omega)]
  have v4 : S9 65 4 = S1 65 26 := by
    rw [e9, up_same, upd_ne _ _ (by omega), e8, up_same, upd_ne _ _ (by omega), e7, up_same, upd_same, e6, up_same, upd_ne _ _ (by omega), e5, up_same, upd_ne _ _ (by omega), e4, up_same, upd_ne _ _ (by omega)]
  have v5 : S9 65 5 = S1 65 27 := by
    rw [e9, up_same, upd_ne _ _ (by omega), e8, up_same, upd_same, e7, up_same, upd_ne _ _ (by omega), e6, up_same, upd_ne _ _ (by omega), e5, up_same, upd_ne _ _ (by omega), e4, up_same, upd_ne _ _ (by omega)]
  have v6 : S9 65 6 = S1 65 28 := by
    rw [e9, up_same, upd_same, e8, up_same, upd_ne _ _ (by omega), e7, up_same, upd_ne _ _ (by omega), e6, up_same, upd_ne _ _ (by omega), e5, up_same, upd_ne _ _ (by omega), e4, up_same, upd_ne _ _ (by omega)]
  refine e_copies (n := 7) rfl rfl (by omega) (by decide) (fun S11 f11 c11 => e_copies (n := 10) rfl rfl (by omega) (by decide) (fun S13 f13 c13 => e_copies (n := 1400) rfl rfl (by omega) (by decide) (fun S15 f15 c15 => ?_)))
  have o15 : ∀ k, k ≠ 65 → k ≠ 66 → k ≠ 67 → k ≠ 68 → S15 k = S1 k := fun k a b c e => by rw [f15 k e, f13 k c, f11 k b, o9 k a]
  have q65 : S15 65 = S9 65 := by rw [f15 65 (by decide), f13 65 (by decide), f11 65 (by decide)]
  have go : ∀ k, k ≤ 79 → ∀ S2 : St, (∀ k, k ≠ 77 → S2 k = S15 k) → (∀ i, i < k → S2 77 i = S15 73 i) → k_m_county_291 E d S2 k Q := by
    refine dn (P := fun k => ∀ S2 : St, (∀ k, k ≠ 77 → S2 k = S15 k) → (∀ i, i < k → S2 77 i = S15 73 i) → k_m_county_291 E d S2 k Q) 79 ?_ ?_
    · intro S2 a b
      refine w_m_county_291 (by omega) ?_
      rw [if_pos (Int32.le_refl _)]
      refine fun T1 t1 T2 t2 T3 t3 => ?_
      have w : ∀ i, i ≠ 42 → i ≠ 53 → i ≠ 58 → T3 65 i = S9 65 i := fun i x y z => by rw [t3, up_same, upd_ne _ _ z, t2, up_same, upd_ne _ _ y, t1, up_same, upd_ne _ _ x, a 65 (by decide), q65]
      have o : ∀ k, k ≠ 65 → T3 k = S2 k := fun k hk => by rw [t3, up_ne _ _ _ hk, t2, up_ne _ _ _ hk, t1, up_ne _ _ _ hk]
      have r66 : ∀ i, i < 7 → T3 66 i = S1 71 i := fun i hi => by rw [o 66 (by decide), a 66 (by decide), f15 66 (by decide), f13 66 (by decide), c11 i hi, o9 71 (by decide)]
      have r67 : ∀ i, i < 10 → T3 67 i = S1 72 i := fun i hi => by rw [o 67 (by decide), a 67 (by decide), f15 67 (by decide), c13 i hi, f11 72 (by decide), o9 72 (by decide)]
      have r68 : ∀ i, i < 1400 → T3 68 i = S1 74 i := fun i hi => by rw [o 68 (by decide), a 68 (by decide), c15 i hi, f13 74 (by decide), f11 74 (by decide), o9 74 (by decide)]
      have r77 : ∀ i, i < 79 → T3 77 i = S1 73 i := fun i hi => by rw [o 77 (by decide), b i hi, o15 73 (by decide) (by decide) (by decide) (by decide)]
      obtain ⟨h1, h2, h3, h4, h5, h6, h7, h8⟩ := hR
      refine h T3 ⟨⟨⟨hlo, ?_, ?_, ?_, ?_, fun i hi => ?_, fun x hx => ?_, ?_, ?_⟩, ⟨fun k i hk hi => ?_, ?_, fun j hj => absurd hj (Nat.not_lt_zero j), ?_, fun j hj => absurd hj (Nat.not_lt_zero j)⟩, ?_, (fun b hb => by cases hb), ?_, fun i hi => absurd hi (Nat.not_lt_zero i), ?_, fun i hi => ?_⟩, fun k hk => ?_⟩ ?_
      · rw [w 1 (by decide) (by decide) (by decide), v1]
        exact l23
      · rw [w 2 (by decide) (by decide) (by decide), v2]
        exact l24
      · rw [w 3 (by decide) (by decide) (by decide), v3]
        exact l25
      · rw [w 4 (by decide) (by decide) (by decide), v4]
        exact l26
      · have hi : i < lp K.1 := hi
        rw [r66 i (by omega)]
        exact l71 i hi
      · have hx : x < lb K.1 := hx
        rw [r67 x (by omega)]
        exact l72 x hx
      · rw [w 5 (by decide) (by decide) (by decide), v5]
        exact RuT_m (RuT_of lr (Nat.le_refl top) (fun i hi => r68 i (by omega))) (by omega)
      · rw [w 6 (by decide) (by decide) (by decide), v6]
        exact RuT_m (RuT_of lu (Nat.le_refl top) (fun i hi => r68 i (by omega))) (by omega)
      · show T3 77 (0 + offM k + i) = sK K.2 k i
        have hi : i < rng K.1 k := hi
        have hl : ∀ k, k < 10 → offM k + cap k ≤ 79 := by decide
        have := hl k hk
        have := rng_cap hlo k
        rw [Nat.zero_add, r77 _ (by omega)]
        by_cases e8' : k = 8
        · subst e8'
          exact hX.2 i hi
        · exact hX.1 k i hk e8' (by omega)
      · rw [t3, up_same, upd_ne _ _ (by decide), t2, up_same, upd_ne _ _ (by decide), t1, up_same, upd_same]
        rfl
      · rw [t3, up_same, upd_ne _ _ (by decide), t2, up_same, upd_same]
        rfl
      · rw [t3, up_same, upd_same]
        rfl
      · rw [w 11 (by decide) (by decide) (by decide), u9 11 (by omega)]
        exact hF.2.2.1
      · rw [w 13 (by decide) (by decide) (by decide), u9 13 (by omega)]
        exact hT.1.2.2.2.2
      · rw [o 70 (by decide), a 70 (by decide), o15 70 (by decide) (by decide) (by decide) (by decide), hF.1 70 (by decide)]
        exact h8 i hi
      · rw [o k (by omega), a k (by omega), o15 k (by omega) (by omega) (by omega) (by omega), hF.1 k (fun hm => by simp only [List.mem_cons, List.not_mem_nil, or_false] at hm; omega)]
      · rw [w 0 (by decide) (by decide) (by decide), u9 0 (by omega)]
        exact hF.2.2.2
    · intro k hk ih S2 a b
      refine w_m_county_291 (by omega) ?_
      rw [if_neg (nI_ge (a := k) (b := 79) hk (by omega))]
      refine ⟨hk, by omega, fun S4 e4' => ih S4 (fun j hj => by rw [e4', up_ne _ _ _ hj, a j hj]) (fun i hi => ?_)⟩
      rw [e4', up_same]
      by_cases e : i = k
      · rw [e, upd_same, a 73 (by decide)]
      · rw [upd_ne _ _ e]
        exact b i (by omega)
  exact go 0 (by omega) S15 (fun _ _ => rfl) (fun i hi => absurd hi (Nat.not_lt_zero i))
end CTE
