/-! CALLS THAT ACT: see, image, restore, feed -/
section EH
variable {G : Gst} {S : St} {E : zX} {d : Nat} {Q : Int32 → St → Prop} {X : Nat → St → Prop}
theorem GInv.s8 (h : GInv G) : (gb G).2.2.1 ≤ 8 := h.2.1.2.2.2.1
theorem x_see {a n w : Int32} (hd : 20 ≤ d) (hG : GInv G) (hR : RelC G S) (hn : (S 1000 0).toNatClampNeg < 1000000) (h : cd3 (ng (lb (gl G)) a) false false = 0 → ∀ S', CE (eSee G a n w).2 S S' → Q (eSee G a n w).1 S') (hX : ∀ k, cd3 (ng (lb (gl G)) a) false false = k + 1 → X k (upT S)) : k_x_see E d S a n w Q X := by
  have b10 := hG.1.b10
  have s8 := hG.s8
  refine w_x_see (by omega) (n_ball (by omega) hR.lc hn (fun x hx ea => ?_) (fun e => hX 0 (by unfold cd3; rw [e]; rfl)))
  subst ea
  have h := h (by unfold cd3; rw [ng_f (by omega) hx]; rfl)
  unfold eSee at h
  rw [tN_nI (by omega)] at h
  have e3 : S 24 3 = nI (gb G).2.2.1 := hR.bk.2.2.2.1
  refine ife (fun e => ?_) (fun e => ife (fun e2 => ?_) (fun e2 => ?_))
  · rw [if_pos (Or.inl e)] at h
    exact x_refuse (k := 2) hR rfl (by decide) h
  · rw [if_pos (Or.inr (Or.inl e2))] at h
    exact x_refuse (k := 2) hR rfl (by decide) h
  · rw [e3]
    by_cases h8 : (gb G).2.2.1 = 8
    · rw [if_neg (by rw [h8]; decide)]
      rw [if_pos (Or.inr (Or.inr h8))] at h
      exact x_refuse (k := 2) hR rfl (by decide) h
    · rw [if_pos (show nI (gb G).2.2.1 < (8 : Int32) from nI_lt (b := 8) (by omega) (by omega))]
      rw [if_neg (fun hh => hh.elim e (fun hh => hh.elim e2 h8))] at h
      have hm : ∃ m, m ≤ 20 ∧ n = nI m := by
        rcases pk_ix n (n := 21) (by omega) with g | g | ⟨y, hy, rfl⟩
        · exact absurd g e
        · exact absurd ((lt_le (n := 20) (by omega)).mpr g) e2
        · exact ⟨y, by omega, rfl⟩
      obtain ⟨m, hm, rfl⟩ := hm
      rw [tN_nI (by omega)] at h
      obtain ⟨b1, b2, b3, b4, b5⟩ := hR.bk
      generalize hsn : (gb G).2.2.1 = sn at *
      have fin : ∀ S' v, Fr [24, 28, 29, 30] S S' → S' 24 1 = S 24 1 → S' 24 3 = nI (sn + 1) → S' 28 = upd (S 28) sn (nI x) → S' 29 = upd (S 29) sn (nI m) → S' 30 = upd (S 30) sn (nI v) → v = (if w = 0 then 0 else 1) → Q (S' 24 3) S' := by
        intro S' v f g1 g3 g28 g29 g30 hv
        rw [g3]
        refine h S' (CE_b hR f (fun k hk => by simp only [List.mem_cons, List.not_mem_nil, or_false] at hk; omega) ⟨?_, ?_, fun j hj => ?_, ?_, fun j hj => ?_⟩)
        · show ScC (gl G) (S' 26) (gb G).1
          rw [f 26 (by decide)]
          exact b1
        · show S' 24 1 = nI (gb G).2.1.1
          rw [g1]
          exact b2
        · show ScC (gl G) (fun i => S' 27 (70 * j + i)) _
          rw [f 27 (by decide)]
          exact b3 j hj
        · show S' 24 3 = nI ((gb G).2.2.1 + 1)
          rw [g3, hsn]
        · have hj : j < (gb G).2.2.1 + 1 := hj
          show S' 28 j = nI ((if j = (gb G).2.2.1 then (x, m, if w = 0 then 0 else 1) else (gb G).2.2.2 j) : Nat × Nat × Nat).1 ∧ S' 29 j = nI ((if j = (gb G).2.2.1 then (x, m, if w = 0 then 0 else 1) else (gb G).2.2.2 j) : Nat × Nat × Nat).2.1 ∧ S' 30 j = nI ((if j = (gb G).2.2.1 then (x, m, if w = 0 then 0 else 1) else (gb G).2.2.2 j) : Nat × Nat × Nat).2.2
          rw [g28, g29, g30, hsn]
          by_cases ej : j = sn
          · rw [ej, upd_same, upd_same, upd_same, if_pos rfl, hv]
            exact ⟨rfl, rfl, rfl⟩
          · rw [upd_ne _ _ ej, upd_ne _ _ ej, upd_ne _ _ ej, if_neg ej]
            exact b5 j (by omega)
      refine w_Book_addSight ?_
      rw [e3, if_neg (show ¬ (8 : Int32) ≤ nI sn from nI_ge (b := 8) (by omega) (by omega))]
      refine ⟨sn, rfl, by omega, fun S1 e1 => ⟨sn, by rw [e1, up_ne _ _ _ (by decide)]; exact e3, by omega, fun S2 e2' => ?_⟩⟩
      have x24 : S2 24 3 = nI sn := by rw [e2', up_ne _ _ _ (by decide), e1, up_ne _ _ _ (by decide), e3]
      have step : ∀ v S5 S7, v = (if w = 0 then 0 else 1) → S5 = up S2 30 sn (nI v) → S7 = up S5 24 3 (S5 24 3 + 1) → Q (S7 24 3) S7 := by
        intro v S5 S7 hv e5 e7
        refine fin S7 v ?_ ?_ ?_ ?_ ?_ ?_ hv
        · rw [e7, e5, e2', e1]
          exact (((Fr.up _ _ (by decide)).trans (Fr.up _ _ (by decide))).trans (Fr.up _ _ (by decide))).trans (Fr.up _ _ (by decide))
        · rw [e7, up_same, upd_ne _ _ (by decide), e5, up_ne _ _ _ (by decide), e2', up_ne _ _ _ (by decide), e1, up_ne _ _ _ (by decide)]
        · rw [e7, up_same, upd_same, e5, up_ne _ _ _ (by decide), x24, nI_1]
        · rw [e7, up_ne _ _ _ (by decide), e5, up_ne _ _ _ (by decide), e2', up_ne _ _ _ (by decide), e1, up_same]
        · rw [e7, up_ne _ _ _ (by decide), e5, up_ne _ _ _ (by decide), e2', up_same, e1, up_ne _ _ _ (by decide)]
        · rw [e7, up_ne _ _ _ (by decide), e5, up_same, e2', up_ne _ _ _ (by decide), e1, up_ne _ _ _ (by decide)]
      refine ife (fun ew => ?_) (fun ew => ?_)
      · exact ⟨sn, x24, by omega, fun S5 e5 S7 e7 => step 0 S5 S7 (by rw [if_pos ew]) e5 e7⟩
      · exact ⟨sn, x24, by omega, fun S5 e5 S7 e7 => step 1 S5 S7 (by rw [if_neg ew]) e5 e7⟩
theorem m_see {a n w : Int32} (hd : 20 ≤ d) (hG : GInv G) (hR : RelM G S) (h0 : cd3 (ng (lb (gl G)) a) false false = 0 → ∀ S', ME (eSee G a n w).2 S S' → S' 65 0 = 0 → Q (eSee G a n w).1 S') (h1 : ¬ cd3 (ng (lb (gl G)) a) false false = 0 → ∀ S' v, ME G S S' → S' 65 0 = nI (cd3 (ng (lb (gl G)) a) false false) → Q v S') : k_m_see E d S a n w Q := by
  have b10 := hG.1.b10
  have s8 := hG.s8
  refine w_m_see (by omega) (fun S1 e1 => ?_)
  have q1 : QM S S1 := by
    rw [e1]
    exact QM_up _ (by decide)
  have t1 : S1 65 0 = 0 := by rw [e1, up_same, upd_same]
  have R1 := RelM_qm hR q1
  refine e_isBall (by omega) R1.lm t1 (fun x hx ea => ?_) (fun e => ?_)
  · subst ea
    have h := h0 (by unfold cd3; rw [ng_f (by omega) hx]; rfl)
    unfold eSee at h
    rw [tN_nI (by omega)] at h
    rw [if_neg (by decide)]
    obtain ⟨b1, b2, b3, b4, b5⟩ := R1.bk
    have rf : ∀ S', ME (wR G 2) S1 S' → S' 65 = S1 65 → (n < 0 ∨ 20 < n ∨ (gb G).2.2.1 = 8) → Q (-1) S' := fun S' m' e65 hc => by
      rw [if_pos hc] at h
      exact h S' (ME.trans q1 m') (by rw [e65]; exact t1)
    rw [b4]
    refine ife (fun e8 => ?_) (fun e8 => ?_)
    · have e8 : (gb G).2.2.1 = 8 := (nI_eq (b := 8) (by omega) (by omega)).mp e8
      exact m_refuse (k := 2) R1 rfl (by decide) (fun S' m' e65 => rf S' m' e65 (Or.inr (Or.inr e8)))
    · have h8 : ¬ (gb G).2.2.1 = 8 := fun hh => e8 (by rw [hh]; rfl)
      refine e_within (fun g1 g2 => ?_) (fun g => ?_)
      · rw [if_neg (by decide)]
        rw [if_neg (fun hh => hh.elim g1 (fun hh => hh.elim g2 h8))] at h
        have hm : ∃ m, m ≤ 20 ∧ n = nI m := by
          rcases pk_ix n (n := 21) (by omega) with g | g | ⟨y, hy, rfl⟩
          · exact absurd g g1
          · exact absurd ((lt_le (n := 20) (by omega)).mpr g) g2
          · exact ⟨y, by omega, rfl⟩
        obtain ⟨m, hm, rfl⟩ := hm
        rw [tN_nI (by omega)] at h
        generalize hsn : (gb G).2.2.1 = sn at *
        refine ⟨3 * sn, by rw [b4]; exact pk_mul 3 sn, by omega, fun S2 e2 => ?_⟩
        have x53 : S2 65 53 = nI sn := by rw [e2, up_ne _ _ _ (by decide), b4]
        rw [x53]
        refine ⟨3 * sn + 1, by rw [show (3 : Int32) * nI sn = nI (3 * sn) from pk_mul 3 sn, nI_1], by omega, fun S3 e3 => ?_⟩
        have y53 : S3 65 53 = nI sn := by rw [e3, up_ne _ _ _ (by decide), x53]
        rw [y53]
        have step : ∀ v, v = (if w = 0 then 0 else 1) → k_m_see_87 E d S3 ((3 : Int32) * nI sn + (2 : Int32)) (nI v) Q := by
          intro v hv
          refine w_m_see_87 (by omega) ⟨3 * sn + 2, by rw [show (3 : Int32) * nI sn = nI (3 * sn) from pk_mul 3 sn]; exact nI_add _ 2, by omega, fun S4 e4 S5 e5 => ?_⟩
          have z53 : S5 65 53 = nI (sn + 1) := by rw [e5, up_same, upd_same, e4, up_ne _ _ _ (by decide), y53, nI_1]
          have o65 : ∀ i, i ≠ 53 → S5 65 i = S1 65 i := fun i hi => by
            rw [e5, up_same, upd_ne _ _ hi, e4, up_ne _ _ _ (by decide), e3, up_ne _ _ _ (by decide), e2, up_ne _ _ _ (by decide)]
          have oth : ∀ k, k ≠ 65 → k ≠ 85 → S5 k = S1 k := fun k k1 k2 => by
            rw [e5, up_ne _ _ _ k1, e4, up_ne _ _ _ k2, e3, up_ne _ _ _ k2, e2, up_ne _ _ _ k2]
          have x85 : S5 85 = upd (upd (upd (S1 85) (3 * sn) (nI x)) (3 * sn + 1) (nI m)) (3 * sn + 2) (nI v) := by
            rw [e5, up_ne _ _ _ (by decide), e4, up_same, e3, up_same, e2, up_same]
          rw [z53]
          refine h S5 (ME.trans q1 (ME_b R1 (fun k hk => oth k (fun hh => hk (by rw [hh]; decide)) (fun hh => hk (by rw [hh]; decide))) (fun i hi => o65 i (fun hh => hi (by rw [hh]; decide))) ⟨?_, ?_, fun j hj => ?_, ?_, fun j hj => ?_⟩)) (by rw [o65 0 (by decide)]; exact t1)
          · rw [oth 77 (by decide) (by decide)]
            exact b1
          · rw [o65 42 (by decide)]
            exact b2
          · rw [oth 78 (by decide) (by decide)]
            exact b3 j hj
          · show S5 65 53 = nI ((gb G).2.2.1 + 1)
            rw [z53, hsn]
          · have hj : j < (gb G).2.2.1 + 1 := hj
            show S5 85 (3 * j) = nI ((if j = (gb G).2.2.1 then (x, m, if w = 0 then 0 else 1) else (gb G).2.2.2 j) : Nat × Nat × Nat).1 ∧ S5 85 (3 * j + 1) = nI ((if j = (gb G).2.2.1 then (x, m, if w = 0 then 0 else 1) else (gb G).2.2.2 j) : Nat × Nat × Nat).2.1 ∧ S5 85 (3 * j + 2) = nI ((if j = (gb G).2.2.1 then (x, m, if w = 0 then 0 else 1) else (gb G).2.2.2 j) : Nat × Nat × Nat).2.2
            rw [x85, hsn]
            by_cases ej : j = sn
            · rw [ej, if_pos rfl, hv]
              refine ⟨?_, ?_, ?_⟩
              · rw [upd_ne _ _ (by omega), upd_ne _ _ (by omega), upd_same]
              · rw [upd_ne _ _ (by omega), upd_same]
              · rw [upd_same]
            · rw [if_neg ej]
              have := b5 j (by omega)
              refine ⟨?_, ?_, ?_⟩
              · rw [upd_ne _ _ (by omega), upd_ne _ _ (by omega), upd_ne _ _ (by omega)]
                exact this.1
              · rw [upd_ne _ _ (by omega), upd_ne _ _ (by omega), upd_ne _ _ (by omega)]
                exact this.2.1
              · rw [upd_ne _ _ (by omega), upd_ne _ _ (by omega), upd_ne _ _ (by omega)]
                exact this.2.2
        refine ife (fun ew => ?_) (fun ew => ?_)
        · exact step 0 (by rw [if_pos ew])
        · exact step 1 (by rw [if_neg ew])
      · rw [if_pos rfl]
        exact m_refuse (k := 2) R1 rfl (by decide) (fun S' m' e65 => rf S' m' e65 (g.elim Or.inl (fun g => Or.inr (Or.inl g))))
  · rw [if_pos rfl]
    have hc : cd3 (ng (lb (gl G)) a) false false = 1 := by unfold cd3; rw [show ng (lb (gl G)) a = true from decide_eq_true e]; rfl
    exact h1 (by rw [hc]; decide) _ _ (ME_qm hR (q1.trans (QM_up _ (by decide)))) (by rw [up_same, upd_same, hc]; rfl)
/-! image, restore -/
def eImage (G : Gst) : Gst := (G.1, G.2.1, some (gb G), G.2.2.2)
def eRestore (G : Gst) : Int32 × Gst := match gi G with
  | none => (0, G)
  | some b => (1, wB G b)
theorem c_copyBook {l : Lnd} {o o' : Nat} {b : Bok} {Q : St → Prop} (hd : 2 ≤ d) (hl : LOk l) (ho : Bo o) (ho' : Bo o') (hne : (o = 24 ∧ o' = 31) ∨ (o = 31 ∧ o' = 24)) (h40 : b.2.1.1 ≤ 40) (h8 : b.2.2.1 ≤ 8) (hb : BkC l S o' b) (h : ∀ S', Fr [o, o + 2, o + 3, o + 4, o + 5, o + 6] S S' → BkC l S' o b → Q S') : k_Book_copyFrom E d S o o' Q := by
  obtain ⟨b1, b2, b3, b4, b5⟩ := hb
  refine w_Book_copyFrom (by omega) ho ho' (c_copy (by omega) hl ho.2.1 ho'.2.1 (show ScC l (S (o' + 1 + 1)) b.1 from b1) (fun S2 f2 A2 => ?_))
  intro S3 e3
  have f2 : ∀ k, k ≠ o + 2 → S2 k = S k := fun k hk => f2 k (by simp only [List.mem_cons, List.not_mem_nil, or_false]; omega)
  have x1 : S3 o 1 = nI b.2.1.1 := by rw [e3, up_same, upd_same, f2 o' (by omega), b2]
  refine ⟨b.2.1.1 * 70, by rw [x1]; exact pk_mul _ 70, by omega, by omega, fun S4 e4 S7 e7 S8 e8 S9 e9 S10 e10 => ?_⟩
  have g3 : ∀ k, k ≠ o + 2 → k ≠ o → S3 k = S k := fun k k1 k2 => by rw [e3, up_ne _ _ _ k2, f2 k k1]
  have g4 : ∀ k, k ≠ o + 2 → k ≠ o → k ≠ o + 3 → S4 k = S k := fun k k1 k2 k3 => by rw [e4, setR_ne _ _ k3, g3 k k1 k2]
  have g7 : ∀ k, k ≠ o + 2 → k ≠ o → k ≠ o + 3 → S7 k = S k := fun k k1 k2 k3 => by rw [e7, up_ne _ _ _ k2, g4 k k1 k2 k3]
  have g8 : ∀ k, k ≠ o + 2 → k ≠ o → k ≠ o + 3 → k ≠ o + 4 → S8 k = S k := fun k k1 k2 k3 k4 => by rw [e8, setR_ne _ _ k4, g7 k k1 k2 k3]
  have g9 : ∀ k, k ≠ o + 2 → k ≠ o → k ≠ o + 3 → k ≠ o + 4 → k ≠ o + 5 → S9 k = S k := fun k k1 k2 k3 k4 k5 => by rw [e9, setR_ne _ _ k5, g8 k k1 k2 k3 k4]
  refine h S10 (fun k hk => ?_) ⟨?_, ?_, fun j hj => ?_, ?_, fun j hj => ?_⟩
  · simp only [List.mem_cons, List.not_mem_nil, or_false, not_or] at hk
    rw [e10, setR_ne _ _ (by omega), g9 k (by omega) (by omega) (by omega) (by omega) (by omega)]
  · rw [e10, setR_ne _ _ (by omega), e9, setR_ne _ _ (by omega), e8, setR_ne _ _ (by omega), e7, up_ne _ _ _ (by omega), e4, setR_ne _ _ (by omega), e3, up_ne _ _ _ (by omega)]
    exact A2
  · rw [e10, setR_ne _ _ (by omega), e9, setR_ne _ _ (by omega), e8, setR_ne _ _ (by omega), e7, up_same, upd_ne _ _ (by decide), e4, setR_ne _ _ (by omega)]
    exact x1
  · refine ScC_cp hl (b3 j hj) (fun i hi => ?_)
    show S10 (o + 3) (70 * j + i) = S (o' + 3) (70 * j + i)
    rw [e10, setR_ne _ _ (by omega), e9, setR_ne _ _ (by omega), e8, setR_ne _ _ (by omega), e7, up_ne _ _ _ (by omega), e4, setR_same, cpy_in (by omega) (by omega), g3 (o' + 3) (by omega) (by omega)]
    congr 1
    omega
  · rw [e10, setR_ne _ _ (by omega), e9, setR_ne _ _ (by omega), e8, setR_ne _ _ (by omega), e7, up_same, upd_same, g4 o' (by omega) (by omega) (by omega)]
    exact b4
  · refine ⟨?_, ?_, ?_⟩
    · rw [e10, setR_ne _ _ (by omega), e9, setR_ne _ _ (by omega), e8, setR_same, cpy_in (by omega) (by omega), g7 (o' + 4) (by omega) (by omega) (by omega)]
      rw [show 0 + (j - 0) = j by omega]
      exact (b5 j hj).1
    · rw [e10, setR_ne _ _ (by omega), e9, setR_same, cpy_in (by omega) (by omega), g8 (o' + 5) (by omega) (by omega) (by omega) (by omega)]
      rw [show 0 + (j - 0) = j by omega]
      exact (b5 j hj).2.1
    · rw [e10, setR_same, cpy_in (by omega) (by omega), g9 (o' + 6) (by omega) (by omega) (by omega) (by omega) (by omega)]
      rw [show 0 + (j - 0) = j by omega]
      exact (b5 j hj).2.2
theorem x_image {Q : St → Prop} (hd : 20 ≤ d) (hG : GInv G) (hR : RelC G S) (h : ∀ S', CE (eImage G) S S' → Q S') : k_x_image E d S Q := by
  refine w_x_image (by omega) (c_copyBook (o := 31) (o' := 24) (by omega) hG.1 bo31 bo24 (by omega) hG.a40 hG.s8 hR.bk (fun S2 f2 b2 => ?_))
  intro S3 e3
  obtain ⟨h1, h2, h3, h4, h5, h6, h7, h8⟩ := hR
  have f2 : ∀ k, k < 31 ∨ 37 < k → S2 k = S k := fun k hk => f2 k (by simp only [List.mem_cons, List.not_mem_nil, or_false]; omega)
  have e : ∀ k, k ≠ 0 → k < 31 ∨ 37 < k → S3 k = S k := fun k h0 hk => by rw [e3, up_ne _ _ _ h0, f2 k hk]
  have x0 : ∀ i, i ≠ 8 → S3 0 i = S 0 i := fun i hi => by rw [e3, up_same, upd_ne _ _ hi, f2 0 (by omega)]
  refine h S3 ⟨⟨LC_fr h1 (fun k a b => e k (by omega) (by omega)), BkC_of h2 (fun k a b => e k (by omega) (by omega)), ?_, fun b hb => ?_, ?_, ?_, ?_, ?_⟩, fun k hk => e k (by omega) (by omega)⟩
  · rw [e3, up_same, upd_same]
    exact (zb_t rfl).symm
  · have hb : some (gb G) = some b := hb
    cases hb
    exact BkC_of b2 (fun k a c => by rw [e3, up_ne _ _ _ (by omega)])
  · rw [x0 1 (by decide)]
    exact h5
  · rw [e 1 (by decide) (by omega)]
    exact h6
  · rw [x0 2 (by decide)]
    exact h7
  · rw [e 2 (by decide) (by omega)]
    exact h8
theorem x_restore (hd : 20 ≤ d) (hG : GInv G) (hR : RelC G S) (h : ∀ S', CE (eRestore G).2 S S' → Q (eRestore G).1 S') : k_x_restore E d S Q := by
  refine w_x_restore (by omega) ?_
  rw [hR.2.2.1]
  unfold eRestore at h
  cases hi : gi G with
  | none =>
    rw [hi] at h
    rw [if_pos (zb_f (by decide))]
    exact h S (CE_qc hR (QC.refl S))
  | some b =>
    rw [hi] at h
    rw [zb_t (show (some b).isSome = true from rfl), if_neg (by decide)]
    have hB := hG.2.2.1 b hi
    refine c_copyBook (o := 24) (o' := 31) (by omega) hG.1 bo24 bo31 (by omega) hB.2.1 hB.2.2.2.1 (hR.2.2.2.1 b hi) (fun S2 f2 b2 => ?_)
    exact h S2 (CE_b hR f2 (fun k hk => by simp only [List.mem_cons, List.not_mem_nil, or_false] at hk; omega) b2)
end EH
