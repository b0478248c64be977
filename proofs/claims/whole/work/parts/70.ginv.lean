/-! WHAT IS SO STAYS SO -/
section GI
variable {l : Lnd} {A : Scn} {G : Gst} {b : Bok}
theorem cd3_1 {p q r : Bool} (h : cd3 p q r = 0) : p = false ∧ q = false ∧ r = false := by
  unfold cd3 at h
  cases p <;> cases q <;> cases r <;> first | exact ⟨rfl, rfl, rfl⟩ | cases h
theorem ng_ix {n : Nat} {a : Int32} (hn : n < 1000000) (h : ng n a = false) : ∃ x, x < n ∧ a = nI x := by
  have h := of_decide_eq_false h
  rcases pk_ix a (n := n) (by omega) with g | g | ⟨x, hx, e⟩
  · exact absurd (Or.inl g) h
  · exact absurd (Or.inr g) h
  · exact ⟨x, hx, e⟩
theorem BInv_keep (h : BInv l b) : BInv l (keepB b) := by
  obtain ⟨h1, h2, h3, h4, h5⟩ := h
  unfold keepB
  by_cases e : b.2.1.1 = 40
  · rw [if_pos e]
    refine ⟨h1, Nat.le_refl 40, fun j hj => ?_, h4, h5⟩
    have hj : j < 40 := hj
    show AOk l (if j = 39 then b.1 else b.2.1.2 (j + 1))
    by_cases ej : j = 39
    · rw [if_pos ej]
      exact h1
    · rw [if_neg ej]
      exact h3 _ (by omega)
  · rw [if_neg e]
    refine ⟨h1, show b.2.1.1 + 1 ≤ 40 by omega, fun j hj => ?_, h4, h5⟩
    have hj : j < b.2.1.1 + 1 := hj
    show AOk l (if j = b.2.1.1 then b.1 else b.2.1.2 j)
    by_cases ej : j = b.2.1.1
    · rw [if_pos ej]
      exact h1
    · rw [if_neg ej]
      exact h3 _ (by omega)
theorem BInv_sA (h : BInv l b) (hA : AOk l A) : BInv l (sA b A) := ⟨hA, h.2⟩
theorem GInv_wB (h : GInv G) (hb : BInv (gl G) b) : GInv (wB G b) := ⟨h.1, hb, h.2.2⟩
theorem GInv_wR (h : GInv G) (k : Nat) : GInv (wR G k) := h
theorem GInv_act (h : GInv G) (hA : AOk (gl G) A) : GInv (wB G (sA (keepB (gb G)) A)) := GInv_wB h (BInv_sA (BInv_keep h.2.1) hA)
theorem i_days (h : GInv G) (a : Int32) : GInv (eDays G a).2 := by
  unfold eDays
  by_cases hc : ¬ a < 1 ∧ ¬ 20 < a ∧ gA G 0 0 + a ≤ 9999
  · rw [if_pos hc]
    exact GInv_act h (AOk_dayN h.1 h.aok _)
  · rw [if_neg hc]
    exact GInv_wR h 1
theorem i_tread (h : GInv G) (a : Int32) : GInv (eTread G a).2 := by
  unfold eTread
  by_cases hc : ¬ gA G 6 (tN a) = 0 ∧ ¬ gA G 9 (tN a) = 1
  · rw [if_pos hc]
    exact GInv_act h (AOk_goOff h.1 h.aok _)
  · rw [if_neg hc]
    exact GInv_wR h 1
theorem i_carry {a c : Int32} (h : GInv G) (hc : cCarry G a c = 0) : GInv (eCarry G a c).2 := by
  have b10 := h.1.b10
  have c36 := h.1.c36
  obtain ⟨h1, h2, _⟩ := cd3_1 hc
  obtain ⟨y, hy, rfl⟩ := ng_ix (by omega) h2
  unfold eCarry
  by_cases e : gA G 5 (tN a) = nI y
  · rw [if_pos e]
    exact GInv_wR h 1
  · rw [if_neg e]
    refine GInv_act h ?_
    have hA := h.aok
    rw [AOk_iff] at hA ⊢
    obtain ⟨g1, g2, g3, g4⟩ := hA
    refine ⟨fun x hx => ?_, GOk_of g2 (ua_ne _ _ _ (by decide)), TOk_k g3 (by decide), MOk_of g4 (ua_ne _ _ _ (by decide))⟩
    rw [ua_same]
    by_cases ex : x = tN a
    · rw [ex, upd_same]
      exact ⟨y, hy, rfl⟩
    · rw [upd_ne _ _ ex]
      exact g1 x hx
theorem i_guard {a v : Int32} (h : GInv G) (hv : v = 0 ∨ v = 1) : GInv (eGuard G a v).2 := by
  unfold eGuard
  by_cases e : zb (gA G 9 (tN a) = 1) = v
  · rw [if_pos e]
    exact GInv_wR h 1
  · rw [if_neg e]
    refine GInv_act h ?_
    have hA := h.aok
    rw [AOk_iff] at hA ⊢
    obtain ⟨g1, g2, g3, g4⟩ := hA
    refine ⟨?_, fun x hx => ?_, TOk_k g3 (by decide), MOk_of g4 (ua_ne _ _ _ (by decide))⟩
    · rw [ua_ne _ _ _ (by decide)]
      exact g1
    · rw [ua_same]
      by_cases ex : x = tN a
      · rw [ex, upd_same]
        exact hv
      · rw [upd_ne _ _ ex]
        exact g2 x hx
theorem i_soothe {a t : Int32} (h : GInv G) : GInv (eSoothe G a t).2 := by
  unfold eSoothe
  by_cases e : t < 0 ∨ 99 < t
  · rw [if_pos e]
    exact GInv_wR h 1
  · rw [if_neg e]
    refine GInv_act h ?_
    have ht : ∃ n, n ≤ 99 ∧ t = nI n := by
      rcases pk_ix t (n := 100) (by omega) with g | g | ⟨y, hy, rfl⟩
      · exact absurd (Or.inl g) e
      · exact absurd (Or.inr ((lt_le (n := 99) (by omega)).mpr g)) e
      · exact ⟨y, by omega, rfl⟩
    have hA := h.aok
    rw [AOk_iff] at hA ⊢
    obtain ⟨g1, g2, g3, g4⟩ := hA
    refine ⟨?_, GOk_of g2 (ua_ne _ _ _ (by decide)), ⟨fun x hx => ?_, fun p hp => ?_⟩, MOk_of g4 (ua_ne _ _ _ (by decide))⟩
    · rw [ua_ne _ _ _ (by decide)]
      exact g1
    · rw [ua_ne _ _ _ (by decide)]
      exact g3.1 x hx
    · rw [ua_same]
      by_cases ex : p = tN a
      · rw [ex, upd_same]
        exact ht
      · rw [upd_ne _ _ ex]
        exact g3.2 p hp
theorem i_undo (h : GInv G) : GInv (eUndo G).2 := by
  unfold eUndo
  by_cases e : (gb G).2.1.1 = 0
  · rw [if_pos e]
    exact h
  · rw [if_neg e]
    obtain ⟨h1, h2, h3, h4, h5⟩ := h.2.1
    exact GInv_wB h ⟨h3 _ (by omega), show (gb G).2.1.1 - 1 ≤ 40 by omega, fun j hj => h3 j (by have hj : j < (gb G).2.1.1 - 1 := hj; omega), h4, h5⟩
theorem i_forget (h : GInv G) : GInv (eForget G) := by
  obtain ⟨h1, h2, h3, h4, h5⟩ := h.2.1
  exact GInv_wB h ⟨h1, h2, h3, Nat.zero_le _, fun j hj => absurd hj (Nat.not_lt_zero j)⟩
theorem i_see {a n w : Int32} (h : GInv G) (hc : cd3 (ng (lb (gl G)) a) false false = 0) : GInv (eSee G a n w).2 := by
  have b10 := h.1.b10
  obtain ⟨h1, _, _⟩ := cd3_1 hc
  obtain ⟨x, hx, rfl⟩ := ng_ix (by omega) h1
  unfold eSee
  by_cases e : n < 0 ∨ 20 < n ∨ (gb G).2.2.1 = 8
  · rw [if_pos e]
    exact GInv_wR h 2
  · rw [if_neg e, tN_nI (by omega)]
    have hn : ∃ m, m ≤ 20 ∧ n = nI m := by
      rcases pk_ix n (n := 21) (by omega) with g | g | ⟨y, hy, rfl⟩
      · exact absurd (Or.inl g) e
      · exact absurd (Or.inr (Or.inl ((lt_le (n := 20) (by omega)).mpr g))) e
      · exact ⟨y, by omega, rfl⟩
    obtain ⟨m, hm, rfl⟩ := hn
    rw [tN_nI (by omega)]
    have e8 : ¬ (gb G).2.2.1 = 8 := fun hh => e (Or.inr (Or.inr hh))
    obtain ⟨g1, g2, g3, g4, g5⟩ := h.2.1
    refine GInv_wB h ⟨g1, g2, g3, show (gb G).2.2.1 + 1 ≤ 8 by omega, fun j hj => ?_⟩
    have hj : j < (gb G).2.2.1 + 1 := hj
    show ((if j = (gb G).2.2.1 then (x, m, if w = 0 then 0 else 1) else (gb G).2.2.2 j) : Nat × Nat × Nat).1 < lb (gl G) ∧ ((if j = (gb G).2.2.1 then (x, m, if w = 0 then 0 else 1) else (gb G).2.2.2 j) : Nat × Nat × Nat).2.1 ≤ 20 ∧ ((if j = (gb G).2.2.1 then (x, m, if w = 0 then 0 else 1) else (gb G).2.2.2 j) : Nat × Nat × Nat).2.2 ≤ 1
    by_cases ej : j = (gb G).2.2.1
    · rw [if_pos ej]
      refine ⟨hx, hm, ?_⟩
      show (if w = 0 then 0 else 1) ≤ 1
      split <;> omega
    · rw [if_neg ej]
      exact g5 j (by omega)
theorem i_image (h : GInv G) : GInv (eImage G) := ⟨h.1, h.2.1, fun b hb => by
  have hb : some (gb G) = some b := hb
  cases hb
  exact h.2.1, h.2.2.2⟩
theorem i_restore (h : GInv G) : GInv (eRestore G).2 := by
  unfold eRestore
  cases e : gi G with
  | none => exact h
  | some b => exact GInv_wB h (h.2.2.1 b e)
def TOkT (T : Tap) : Prop := ∀ i, i < T.1 → ∃ n, n < 256 ∧ T.2 i = nI n
theorem TOkT_1 {T : Tap} {n : Nat} (h : TOkT T) (hn : n < 256) : TOkT (ad1 T (nI n)) := fun i hi => by
  have hi : i < T.1 + 1 := hi
  show ∃ k, k < 256 ∧ upd T.2 T.1 (nI n) i = nI k
  by_cases e : i = T.1
  · rw [e, upd_same]
    exact ⟨n, hn, rfl⟩
  · rw [upd_ne _ _ e]
    exact h i (by omega)
theorem TOkT_4 {T : Tap} {v : Int32} (h : TOkT T) : TOkT (ad4 T v) := TOkT_1 (TOkT_1 (TOkT_1 (TOkT_1 h (byt_lt _ _)) (byt_lt _ _)) (byt_lt _ _)) (byt_lt _ _)
theorem i_feed {a b c e f : Int32} (h : GInv G) : GInv (eFeed G a b c e f).2 := by
  unfold eFeed
  by_cases hc : gtn G + 20 ≤ 700
  · rw [if_pos hc]
    exact ⟨h.1, h.2.1, h.2.2.1, show gtn G + 4 + 4 + 4 + 4 + 4 ≤ 700 by omega, TOkT_4 (TOkT_4 (TOkT_4 (TOkT_4 (TOkT_4 (T := (gtn G, gt G)) h.2.2.2.2))))⟩
  · rw [if_neg hc]
    exact h
end GI
