/-! CALLS THAT ACT: days, tread, carry, guard, soothe, undo, see, forget -/
def rfs (G : Gst) (k : Nat) : Int32 × Gst := (-1, wR G k)
noncomputable def eDays (G : Gst) (a : Int32) : Int32 × Gst := if ¬ a < 1 ∧ ¬ 20 < a ∧ gA G 0 0 + a ≤ 9999 then (dayN (gl G) (gA G) (tN a) 0 0, wB G (sA (keepB (gb G)) (dayN (gl G) (gA G) (tN a)))) else rfs G 1
noncomputable def eTread (G : Gst) (a : Int32) : Int32 × Gst := if ¬ gA G 6 (tN a) = 0 ∧ ¬ gA G 9 (tN a) = 1 then (nI (cnt (clo (gl G) (gA G) (freM (gl G) (gA G)) (2 ^ tN a)) 10), wB G (sA (keepB (gb G)) (goOff (gl G) (gA G) (2 ^ tN a)))) else rfs G 1
def eCarry (G : Gst) (a c : Int32) : Int32 × Gst := if gA G 5 (tN a) = c then rfs G 1 else (gA G 5 (tN a), wB G (sA (keepB (gb G)) (ua (gA G) 5 (tN a) c)))
def eGuard (G : Gst) (a v : Int32) : Int32 × Gst := if zb (gA G 9 (tN a) = 1) = v then (0, wR G 1) else (1, wB G (sA (keepB (gb G)) (ua (gA G) 9 (tN a) v)))
def eSoothe (G : Gst) (a t : Int32) : Int32 × Gst := if t < 0 ∨ 99 < t then rfs G 1 else (gA G 1 (tN a), wB G (sA (keepB (gb G)) (ua (gA G) 1 (tN a) t)))
def eUndo (G : Gst) : Int32 × Gst := if (gb G).2.1.1 = 0 then (-1, G) else (nI ((gb G).2.1.1 - 1), wB G (undoB (gb G)))
def addS (b : Bok) (q : Nat × Nat × Nat) : Bok := (b.1, b.2.1, (b.2.2.1 + 1, fun j => if j = b.2.2.1 then q else b.2.2.2 j))
def eSee (G : Gst) (a n w : Int32) : Int32 × Gst := if n < 0 ∨ 20 < n ∨ (gb G).2.2.1 = 8 then rfs G 2 else (nI ((gb G).2.2.1 + 1), wB G (addS (gb G) (tN a, tN n, if w = 0 then 0 else 1)))
def eForget (G : Gst) : Gst := wB G ((gb G).1, (gb G).2.1, (0, (gb G).2.2.2))
section EF
variable {G : Gst} {S : St} {E : zX} {d : Nat} {Q : Int32 → St → Prop} {X : Nat → St → Prop}
theorem CE_b {S' : St} {b : Bok} {ks : List Nat} (h : RelC G S) (f : Fr ks S S') (hk : ∀ k, k ∈ ks → (12 ≤ k ∧ k < 31) ∨ (38 ≤ k ∧ k < 65)) (hb : BkC (gl G) S' 24 b) : CE (wB G b) S S' := ⟨RelC_b h (fun k hq => f k (fun hm => by have := hk k hm; omega)) hb, fun k hq => f k (fun hm => by have := hk k hm; omega)⟩
theorem BkC_row {l : Lnd} {S' : St} {b : Bok} {A : Scn} (h : BkC l S 24 b) (hA : ScC l (S' 26) A) (e : ∀ k, 24 ≤ k → k ≤ 30 → k ≠ 26 → S' k = S k) : BkC l S' 24 (sA b A) := by
  obtain ⟨h1, h2, h3, h4, h5⟩ := h
  refine ⟨hA, ?_, fun j hj => ?_, ?_, fun j hj => ?_⟩
  · rw [e 24 (by omega) (by omega) (by omega)]
    exact h2
  · rw [e 27 (by omega) (by omega) (by omega)]
    exact h3 j hj
  · rw [e 24 (by omega) (by omega) (by omega)]
    exact h4
  · rw [e 28 (by omega) (by omega) (by omega), e 29 (by omega) (by omega) (by omega), e 30 (by omega) (by omega) (by omega)]
    exact h5 j hj
theorem x_refuse {k : Nat} {a : Int32} (hR : RelC G S) (ha : a = nI k) (hk : k < 3) (h : ∀ S', CE (wR G k) S S' → Q (-1) S') : k_x_refuse E d S a Q := by
  refine w_x_refuse ⟨k, ha, hk, k, ha, hk, fun S2 e2 => h S2 ⟨?_, fun j hj => ?_⟩⟩
  · obtain ⟨h1, h2, h3, h4, h5, h6, h7, h8⟩ := hR
    have e : ∀ j, j ≠ 2 → S2 j = S j := fun j hj => by rw [e2, up_ne _ _ _ hj]
    refine ⟨LC_fr h1 (fun k _ _ => e k (by omega)), BkC_of h2 (fun k _ _ => e k (by omega)), ?_, fun b hb => BkC_of (h4 b hb) (fun k _ _ => e k (by omega)), ?_, ?_, ?_, fun i hi => ?_⟩
    · rw [e 0 (by omega)]
      exact h3
    · rw [e 0 (by omega)]
      exact h5
    · rw [e 1 (by omega)]
      exact h6
    · rw [e 0 (by omega)]
      exact h7
    · rw [e2, up_same]
      show _ = upd (gr G) k (gr G k + 1) i
      unfold upd
      by_cases ei : i = k
      · rw [if_pos ei, if_pos ei, h8 k hk]
      · rw [if_neg ei, if_neg ei, h8 i hi]
  · rw [e2, up_ne _ _ _ (by omega)]
theorem m_refuse {k : Nat} {a : Int32} (hR : RelM G S) (ha : a = nI k) (hk : k < 3) (h : ∀ S', ME (wR G k) S S' → S' 65 = S 65 → Q (-1) S') : k_m_refuses E d S a Q := by
  subst ha
  refine w_m_refuses ⟨hk, hk, fun S2 e2 => h S2 ⟨?_, fun j hj => ?_⟩ ?_⟩
  · obtain ⟨h1, h2, h3, h4, h5, h6, h7, h8⟩ := hR
    have e : ∀ j, j ≠ 70 → S2 j = S j := fun j hj => by rw [e2, up_ne _ _ _ hj]
    refine ⟨LM_of h1 (fun i _ _ => by rw [e 65 (by omega)]) (e 66 (by omega)) (e 67 (by omega)) (e 68 (by omega)), ?_, ?_, fun b hb => ?_, ?_, ?_, ?_, fun i hi => ?_⟩
    · rw [e 77 (by omega), e 78 (by omega), e 85 (by omega), e 65 (by omega)]
      exact h2
    · rw [e 65 (by omega)]
      exact h3
    · rw [e 88 (by omega), e 89 (by omega), e 90 (by omega), e 65 (by omega)]
      exact h4 b hb
    · rw [e 65 (by omega)]
      exact h5
    · rw [e 69 (by omega)]
      exact h6
    · rw [e 65 (by omega)]
      exact h7
    · rw [e2, up_same]
      show _ = upd (gr G) k (gr G k + 1) i
      unfold upd
      by_cases ei : i = k
      · rw [if_pos ei, if_pos ei, h8 k hk]
      · rw [if_neg ei, if_neg ei, h8 i hi]
  · rw [e2, up_ne _ _ _ (by omega)]
  · rw [e2, up_ne _ _ _ (by omega)]
theorem ME.trans {G' : Gst} {S1 S2 : St} (q : QM S S1) (h : ME G' S1 S2) : ME G' S S2 := ⟨h.1, fun k hk => (h.2 k hk).trans (q.1 k (by omega))⟩
/-- a new row in the reference -/
theorem ME_b {S' : St} {b : Bok} (h : RelM G S) (h0 : ∀ k, k ∉ [65, 71, 72, 73, 74, 75, 76, 77, 78, 79, 80, 85] → S' k = S k) (h1 : ∀ i, i ∉ [0, 42, 45, 46, 47, 48, 53, 57] → S' 65 i = S 65 i) (hb : BkM (gl G) (S' 77) (S' 78) (S' 85) (S' 65 42) (S' 65 53) b) : ME (wB G b) S S' := by
  refine ⟨RelM_b h h1 (fun k hk => h0 k (fun hm => ?_)) hb, fun k hk => h0 k (fun hm => ?_)⟩
  · simp only [List.mem_cons, List.not_mem_nil, or_false] at hk hm
    omega
  · simp only [List.mem_cons, List.not_mem_nil, or_false] at hm
    omega
theorem BkM_row {l : Lnd} {S' : St} {b : Bok} {A : Scn} (h : BkM l (S 77) (S 78) (S 85) (S 65 42) (S 65 53) b) (hA : ScM l (S' 77) 0 A) (e1 : S' 78 = S 78) (e2 : S' 85 = S 85) (e3 : S' 65 42 = S 65 42) (e4 : S' 65 53 = S 65 53) : BkM l (S' 77) (S' 78) (S' 85) (S' 65 42) (S' 65 53) (sA b A) := by
  obtain ⟨h1, h2, h3, h4, h5⟩ := h
  rw [e1, e2, e3, e4]
  exact ⟨hA, h2, h3, h4, h5⟩
theorem RelM.bk (h : RelM G S) : BkM (gl G) (S 77) (S 78) (S 85) (S 65 42) (S 65 53) (gb G) := h.2.1
theorem RelC.bk (h : RelC G S) : BkC (gl G) S 24 (gb G) := h.2.1
theorem GInv.a40 (h : GInv G) : (gb G).2.1.1 ≤ 40 := h.2.1.2.1
theorem keepB_1 (b : Bok) : (keepB b).1 = b.1 := rfl
/-! days -/
theorem x_days {a : Int32} (hd : 20 ≤ d) (hG : GInv G) (hR : RelC G S) (h : ∀ S', CE (eDays G a).2 S S' → Q (eDays G a).1 S') : k_x_days E d S a Q := by
  unfold eDays at h
  refine w_x_days (by omega) (ife (fun h1 => ?_) (fun h1 => ife (fun h2 => ?_) (fun h2 => ?_)))
  · rw [if_neg (fun hh => hh.1 h1)] at h
    exact x_refuse (k := 1) hR rfl (by decide) h
  · rw [if_neg (fun hh => hh.2.1 h2)] at h
    exact x_refuse (k := 1) hR rfl (by decide) h
  · refine c_day sc25 hR.sc (ife (fun h3 => ?_) (fun h3 => ?_))
    · rw [if_pos ⟨h1, h2, h3⟩] at h
      have hn : ∃ n, n ≤ 20 ∧ a = nI n := by
        rcases pk_ix a (n := 21) (by omega) with g | g | ⟨x, hx, rfl⟩
        · exact absurd (Int32.lt_trans g (by decide)) h1
        · exact absurd ((lt_le (n := 20) (by omega)).mpr g) h2
        · exact ⟨x, by omega, rfl⟩
      obtain ⟨n, hn, rfl⟩ := hn
      rw [tN_nI (by omega)] at h
      refine c_keepAct (by omega) hG.1 hR.bk hG.a40 (fun S8 f8 b8 => ?_)
      have L8 : LC (gl G) S8 := LC_fr hR.lc (fun k _ _ => f8 k (by simp only [List.mem_cons, List.not_mem_nil, or_false]; omega))
      refine dn (P := fun k => ∀ S', Fr (dl 25) S8 S' → ScC (gl G) (S' 26) (dayN (gl G) (gA G) k) → k_x_days_41 E d S' (nI n) k Q) n ?_ ?_ 0 (Nat.zero_le _) S8 (Fr.refl _ _) b8.1
      · intro S9 f9 A9
        refine w_x_days_41 (by omega) (ilp n rfl (by omega) (by omega) (fun _ => ?_) (fun h => absurd h (Nat.lt_irrefl _)))
        refine c_day sc25 A9 (h S9 (CE_b (ks := [24, 27, 26, 39, 40, 41, 42]) hR (fun k hk => ?_) (fun k hk => by simp only [List.mem_cons, List.not_mem_nil, or_false] at hk; omega) (BkC_row b8 A9 (fun k h1 h2 h3 => f9 k ?_))))
        · rw [f9 k (fun hm => hk (by unfold dl at hm; simp only [List.mem_cons, List.not_mem_nil, or_false] at hm ⊢; omega)), f8 k (fun hm => hk (by simp only [List.mem_cons, List.not_mem_nil, or_false] at hm ⊢; omega))]
        · unfold dl
          simp only [List.mem_cons, List.not_mem_nil, or_false]
          omega
      · intro k hk ih S9 f9 A9
        refine w_x_days_41 (by omega) (ilp n rfl (by omega) (by omega) (fun h => by omega) (fun _ => ?_))
        exact c_passDay (by omega) (LC_dl sc25 L8 f9) sc25 A9 (COk_dayN hG.cok k) (fun S10 f10 A10 _ _ _ => ih S10 (f9.trans f10) A10)
    · rw [if_neg (fun hh => h3 hh.2.2)] at h
      exact x_refuse (k := 1) hR rfl (by decide) h
theorem m_days {a : Int32} (hd : 20 ≤ d) (hG : GInv G) (hR : RelM G S) (h : ∀ S', ME (eDays G a).2 S S' → Q (eDays G a).1 S') : k_m_days E d S a Q := by
  unfold eDays at h
  refine w_m_days (by omega) (fun S1 e1 => ?_)
  have q1 : QM S S1 := by
    rw [e1]
    exact QM_up _ (by decide)
  have R1 := RelM_qm hR q1
  refine e_within (fun h1 h2 => ?_) (fun hb => ?_)
  · rw [if_neg (by decide)]
    rw [show S1 77 0 = gA G 0 0 from R1.sc 0 0 (by decide) (by show 0 < rng (gl G) 0; exact Nat.one_pos)]
    refine ife (fun h3 => ?_) (fun h3 => ?_)
    · rw [if_pos ⟨h1, h2, h3⟩] at h
      have hn : ∃ n, n ≤ 20 ∧ a = nI n := by
        rcases pk_ix a (n := 21) (by omega) with g | g | ⟨x, hx, rfl⟩
        · exact absurd (Int32.lt_trans g (by decide)) h1
        · exact absurd ((lt_le (n := 20) (by omega)).mpr g) h2
        · exact ⟨x, by omega, rfl⟩
      obtain ⟨n, hn, rfl⟩ := hn
      rw [tN_nI (by omega)] at h
      refine e_keeps hG.1 R1.bk hG.a40 (fun S8 f8 r8 b8 => ?_)
      have L8 : LM (gl G) S8 := LM_of R1.lm (fun i h1 h2 => r8 i (by omega)) (f8 66 (by decide)) (f8 67 (by decide)) (f8 68 (by decide))
      refine dn (P := fun k => ∀ S', FM 0 S8 S' → ScM (gl G) (S' 77) 0 (dayN (gl G) (gA G) k) → k_m_days_41 E d S' (nI n) k Q) n ?_ ?_ 0 (Nat.zero_le _) S8 (FM.refl _ _) b8.1
      · intro S9 f9 A9
        refine w_m_days_41 (by omega) (ilp n rfl (by omega) (by omega) (fun _ => ?_) (fun h => absurd h (Nat.lt_irrefl _)))
        rw [show S9 77 0 = dayN (gl G) (gA G) n 0 0 from A9 0 0 (by decide) (by show 0 < rng (gl G) 0; exact Nat.one_pos)]
        refine h S9 (ME.trans q1 (ME_b R1 (fun k hk => ?_) (fun i hi => ?_) (BkM_row b8 A9 (f9.1 78 (by decide)) (f9.1 85 (by decide)) (f9.2.1 42 (by decide)) (f9.2.1 53 (by decide)))))
        · rw [f9.1 k (fun hm => hk (by simp only [List.mem_cons, List.not_mem_nil, or_false] at hm ⊢; omega)), f8 k (fun hm => hk (by simp only [List.mem_cons, List.not_mem_nil, or_false] at hm ⊢; omega))]
        · rw [f9.2.1 i (fun hm => hi (by simp only [List.mem_cons, List.not_mem_nil, or_false] at hm ⊢; omega)), r8 i (fun hm => hi (by rw [hm]; decide))]
      · intro k hk ih S9 f9 A9
        refine w_m_days_41 (by omega) (ilp n rfl (by omega) (by omega) (fun h => by omega) (fun _ => ?_))
        exact e_dayOf (o := 0) (by omega) (LM_fm L8 f9) (by omega) A9 (COk_dayN hG.cok k) (GOk_dayN hG.gok k) (fun S10 f10 A10 _ _ _ _ => ih S10 (f9.trans f10) A10)
    · rw [if_neg (fun hh => h3 hh.2.2)] at h
      exact m_refuse (k := 1) R1 rfl (by decide) (fun S' m' _ => h S' (ME.trans q1 m'))
  · rw [if_pos rfl]
    rw [if_neg (fun hh => hb.elim hh.1 hh.2.1)] at h
    exact m_refuse (k := 1) R1 rfl (by decide) (fun S' m' _ => h S' (ME.trans q1 m'))
end EF
