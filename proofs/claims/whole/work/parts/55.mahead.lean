/-! DAYS AHEAD in the reference -/
/-- what queries leave in the reference -/
def QM (S S' : St) : Prop := (∀ k, k < 65 ∨ k ∈ [66, 67, 68, 69, 70, 78, 85, 88, 89, 90] ∨ 91 ≤ k → S' k = S k) ∧ (∀ i, i ∉ [0, 45, 46, 47, 48, 57] → S' 65 i = S 65 i) ∧ ∀ i, i < 79 → S' 77 i = S 77 i
theorem QM.refl (S : St) : QM S S := ⟨fun _ _ => rfl, fun _ _ => rfl, fun _ _ => rfl⟩
theorem QM.trans {S S1 S2 : St} (h1 : QM S S1) (h2 : QM S1 S2) : QM S S2 := ⟨fun k hk => (h2.1 k hk).trans (h1.1 k hk), fun i hi => (h2.2.1 i hi).trans (h1.2.1 i hi), fun i hi => (h2.2.2 i hi).trans (h1.2.2 i hi)⟩
theorem QM_fm {S S' : St} (h : FM 79 S S') : QM S S' := by
  refine ⟨fun k hk => h.1 k (fun hm => ?_), fun i hi => h.2.1 i (fun hm => hi ?_), fun i hi => h.2.2 i (Or.inl hi)⟩
  · simp only [List.mem_cons, List.not_mem_nil, or_false] at hm hk
    omega
  · simp only [List.mem_cons, List.not_mem_nil, or_false] at hm ⊢
    omega
theorem QM_up {S : St} {i : Nat} (v : Int32) (h : i ∈ [0, 45, 46, 47, 48, 57]) : QM S (up S 65 i v) := by
  refine ⟨fun k hk => up_ne _ _ _ (fun e => ?_), fun j hj => ?_, fun j _ => by rw [up_ne _ _ _ (by decide)]⟩
  · rw [e] at hk
    simp at hk
  · have hne : j ≠ i := fun e => hj (by rw [e]; exact h)
    rw [up_same, upd_ne _ _ hne]
theorem QM_row {S : St} {j : Nat} (v : Int32) (h : 79 ≤ j) : QM S (up S 77 j v) := by
  refine ⟨fun k hk => up_ne _ _ _ (fun e => ?_), fun i _ => by rw [up_ne _ _ _ (by decide)], fun i hi => by rw [up_same, upd_ne _ _ (by omega)]⟩
  rw [e] at hk
  simp at hk
theorem QM_fr {S S' : St} {ks : List Nat} (h : Fr ks S S') (hk : ∀ k, k ∈ ks → k ∈ [71, 72, 73, 74, 75, 76, 79, 80, 81, 82, 83, 84, 86, 87]) : QM S S' := by
  have no : ∀ k, k ∉ [71, 72, 73, 74, 75, 76, 79, 80, 81, 82, 83, 84, 86, 87] → S' k = S k := fun k hn => h k (fun hm => hn (hk k hm))
  refine ⟨fun k hk => no k (fun hm => ?_), fun i _ => by rw [no 65 (by decide)], fun i _ => by rw [no 77 (by decide)]⟩
  simp only [List.mem_cons, List.not_mem_nil, or_false] at hm hk
  omega
theorem LM_qm {l : Lnd} {S S' : St} (h : LM l S) (f : QM S S') : LM l S' := LM_of h (fun i h1 h2 => f.2.1 i (by simp only [List.mem_cons, List.not_mem_nil, or_false]; omega)) (f.1 66 (by decide)) (f.1 67 (by decide)) (f.1 68 (by decide))
theorem ScM_lo {l : Lnd} {f g : Nat → Int32} {A : Scn} (hl : LOk l) (h : ScM l f 0 A) (e : ∀ i, i < 79 → g i = f i) : ScM l g 0 A := by
  intro k i hk hi
  have h1 := rng_cap hl k
  have h2 := cap_10 k
  have := offM_79 k hk i (by omega) (by omega)
  rw [e _ (by omega)]
  exact h k i hk hi
section MQ
variable {l : Lnd} {S : St} {E : zX} {d o : Nat} {A : Scn}
/-! what is asked is right -/
theorem e_rightT {v : Int32} {Q : Int32 → St → Prop} (h0 : S 65 0 = 0) (h : Q 1 S) : k_m_right E d S 1 v Q := by
  refine w_m_right ?_
  rw [if_pos h0, if_neg (by decide), if_pos h0]
  exact h
theorem e_rightF {v : Int32} {Q : Int32 → St → Prop} (h0 : S 65 0 = 0) (hv : ¬ v = 0) (h : Q 0 (up S 65 0 v)) : k_m_right E d S 0 v Q := by
  refine w_m_right ?_
  rw [if_pos h0, if_pos rfl]
  intro S1 e1
  rw [if_neg (by rw [e1, up_same, upd_same]; exact hv), e1]
  exact h
theorem e_isBall {a : Int32} {Q : Int32 → St → Prop} (hd : 1 ≤ d) (hL : LM l S) (h0 : S 65 0 = 0) (h1 : ∀ x, x < lb l → a = nI x → Q 1 S) (hf : (a < 0 ∨ nI (lb l) ≤ a) → Q 0 (up S 65 0 1)) : k_m_isBall E d S a Q := by
  have b10 := hL.ok.b10
  refine w_m_isBall hd ?_
  rw [hL.b]
  rcases pk_ix a (n := lb l) (by omega) with h | h | ⟨x, hx, rfl⟩
  · rw [if_pos h]
    exact e_rightF h0 (by decide) ⟨Or.inl rfl, hf (Or.inl h)⟩
  · refine ife (fun _ => ?_) (fun _ => ?_)
    · exact e_rightF h0 (by decide) ⟨Or.inl rfl, hf (Or.inr h)⟩
    · rw [if_pos h]
      exact e_rightF h0 (by decide) ⟨Or.inl rfl, hf (Or.inr h)⟩
  · rw [if_neg (nI_pos (by omega)), if_neg (nI_ge hx (by omega))]
    exact e_rightT h0 ⟨Or.inr rfl, h1 x hx rfl⟩
theorem e_isPerson {a : Int32} {Q : Int32 → St → Prop} (hd : 1 ≤ d) (hL : LM l S) (h0 : S 65 0 = 0) (h1 : ∀ x, x < lp l → a = nI x → Q 1 S) (hf : (a < 0 ∨ nI (lp l) ≤ a) → Q 0 (up S 65 0 1)) : k_m_isPerson E d S a Q := by
  have p7 := hL.ok.p7
  refine w_m_isPerson hd ?_
  rw [hL.p]
  rcases pk_ix a (n := lp l) (by omega) with h | h | ⟨x, hx, rfl⟩
  · rw [if_pos h]
    exact e_rightF h0 (by decide) ⟨Or.inl rfl, hf (Or.inl h)⟩
  · refine ife (fun _ => ?_) (fun _ => ?_)
    · exact e_rightF h0 (by decide) ⟨Or.inl rfl, hf (Or.inr h)⟩
    · rw [if_pos h]
      exact e_rightF h0 (by decide) ⟨Or.inl rfl, hf (Or.inr h)⟩
  · rw [if_neg (nI_pos (by omega)), if_neg (nI_ge hx (by omega))]
    exact e_rightT h0 ⟨Or.inr rfl, h1 x hx rfl⟩
theorem e_isCell {a : Int32} {Q : Int32 → St → Prop} (hd : 1 ≤ d) (hL : LM l S) (h0 : S 65 0 = 0) (h1 : ∀ x, x < lw l * lh l → a = nI x → Q 1 S) (hf : (a < 0 ∨ nI (lw l * lh l) ≤ a) → Q 0 (up S 65 0 1)) : k_m_isCell E d S a Q := by
  have c36 := hL.ok.c36
  refine w_m_isCell hd ?_
  rw [hL.w, hL.h, pk_mul]
  rcases pk_ix a (n := lw l * lh l) (by omega) with h | h | ⟨x, hx, rfl⟩
  · rw [if_pos h]
    exact e_rightF h0 (by decide) ⟨Or.inl rfl, hf (Or.inl h)⟩
  · refine ife (fun _ => ?_) (fun _ => ?_)
    · exact e_rightF h0 (by decide) ⟨Or.inl rfl, hf (Or.inr h)⟩
    · rw [if_pos h]
      exact e_rightF h0 (by decide) ⟨Or.inl rfl, hf (Or.inr h)⟩
  · rw [if_neg (nI_pos (by omega)), if_neg (nI_ge hx (by omega))]
    exact e_rightT h0 ⟨Or.inr rfl, h1 x hx rfl⟩
theorem lt_le {a : Int32} {n : Nat} (hn : n < 1000000) : (nI n < a) ↔ nI (n + 1) ≤ a := by
  rw [Int32.lt_iff_toInt_lt, Int32.le_iff_toInt_le, nI_toInt (by omega), nI_toInt (by omega)]
  omega
theorem e_within {a lo hi : Int32} {Q : Int32 → St → Prop} (h1 : ¬ a < lo → ¬ hi < a → Q 1 S) (h0 : a < lo ∨ hi < a → Q 0 S) : k_m_within E d S a lo hi Q := by
  refine w_m_within (ife (fun e => h0 (Or.inl e)) (fun e => ife (fun e2 => h0 (Or.inr e2)) (fun e2 => h1 e e2)))
theorem e_isWhat {a : Int32} {n : Nat} {Q : Int32 → St → Prop} (hd : 1 ≤ d) (hn : n < 1000) (h0 : S 65 0 = 0) (h1 : ∀ x, x ≤ n → a = nI x → Q 1 S) (hf : (a < 0 ∨ nI (n + 1) ≤ a) → Q 0 (up S 65 0 1)) : k_m_isWhat E d S a (nI n) Q := by
  refine w_m_isWhat hd (e_within (fun g1 g2 => e_rightT h0 ⟨Or.inr rfl, ?_⟩) (fun g => e_rightF h0 (by decide) ⟨Or.inl rfl, hf ?_⟩))
  · rw [lt_le (by omega)] at g2
    rcases pk_ix a (n := n + 1) (by omega) with h | h | ⟨x, hx, rfl⟩
    · exact absurd h g1
    · exact absurd h g2
    · exact h1 x (by omega) rfl
  · rw [lt_le (by omega)] at g
    exact g
/-- days: from lo on to 60 -/
theorem e_isSoon {a : Int32} {lo : Nat} {Q : Int32 → St → Prop} (hd : 1 ≤ d) (hn : lo ≤ 1) (h0 : S 65 0 = 0) (h1 : ∀ x, lo ≤ x → x ≤ 60 → a = nI x → Q 1 S) (hf : (a < nI lo ∨ nI 61 ≤ a) → Q 0 (up S 65 0 2)) : k_m_isSoon E d S a (nI lo) 2 Q := by
  refine w_m_isSoon hd (e_within (hi := nI 60) (fun g1 g2 => e_rightT h0 ⟨Or.inr rfl, ?_⟩) (fun g => e_rightF h0 (by decide) ⟨Or.inl rfl, hf ?_⟩))
  · rw [lt_le (by omega)] at g2
    rcases pk_ix a (n := 61) (by omega) with h | h | ⟨x, hx, rfl⟩
    · refine absurd ?_ g1
      exact Int32.lt_of_lt_of_le h (nI_pos' (by omega))
    · exact absurd h g2
    · rw [nI_ltI (by omega) (by omega)] at g1
      exact h1 x (by omega) (by omega) rfl
  · rw [lt_le (by omega)] at g
    exact g
/-! a row is tried -/
theorem e_tries {Q : St → Prop} (hl : LOk l) (hA : ScM l (S 77) 0 A) (h : ∀ S', FM 79 S S' → ScM l (S' 77) 79 A → S' 65 = S 65 → Q S') : k_m_tries E d S Q := by
  refine w_m_tries ?_
  refine dn (P := fun k => ∀ S', Fr [77] S S' → (∀ i, i < 79 ∨ 158 ≤ i → S' 77 i = S 77 i) → (∀ i, i < k → S' 77 (79 + i) = S 77 i) → k_m_tries_2 E d S' k Q) 79 ?_ ?_ 0 (Nat.zero_le _) S (Fr.refl _ _) (fun _ _ => rfl) (fun i hi => absurd hi (Nat.not_lt_zero i))
  · intro S' f h1 h2
    refine w_m_tries_2 (ilp 79 rfl (by omega) (by omega) (fun _ => h S' ⟨fun k hk => f k (fun hm => hk (by simp only [List.mem_cons, List.not_mem_nil, or_false] at hm ⊢; omega)), fun i _ => by rw [f 65 (by decide)], fun i hi => h1 i (by omega)⟩ ?_ (f 65 (by decide))) (fun h => absurd h (Nat.lt_irrefl _)))
    intro k i hk hi
    have g1 := rng_cap hl k
    have g2 := cap_10 k
    have := offM_79 k hk i (by omega) (by omega)
    rw [show 79 + offM k + i = 79 + (offM k + i) by omega, h2 _ this]
    have := hA k i hk hi
    rw [show 0 + offM k + i = offM k + i by omega] at this
    exact this
  · intro k hk ih S' f h1 h2
    refine w_m_tries_2 (ilp 79 rfl (by omega) (by omega) (fun h => by omega) (fun _ => ⟨by omega, by omega, fun S1 e1 => ?_⟩))
    refine ih S1 ?_ ?_ ?_
    · rw [e1]
      exact f.trans (Fr.up _ _ (by decide))
    · intro i hi
      rw [e1, up_same, upd_ne _ _ (by omega), h1 i hi]
    · intro i hi
      rw [e1, up_same]
      by_cases e : i = k
      · rw [e, upd_same, h1 k (by omega)]
      · rw [upd_ne _ _ (by omega), h2 i (by omega)]
/-- n days on the row that is tried -/
theorem e_daysGo {n : Nat} {Q : St → Prop} (hd : 7 ≤ d) (hL : LM l S) (hA : ScM l (S 77) 79 A) (hO : COk l A) (hG : GOk l A) (hn : n ≤ 60) (h : ∀ S', FM 79 S S' → ScM l (S' 77) 79 (dayN l A n) → Q S') : k_m_daysGo E d S (nI n) Q := by
  refine w_m_daysGo (by omega) ?_
  refine dn (P := fun k => ∀ S', FM 79 S S' → ScM l (S' 77) 79 (dayN l A k) → k_m_daysGo_2 E d S' (nI n) k Q) n ?_ ?_ 0 (Nat.zero_le _) S (FM.refl _ _) hA
  · intro S3 f3 A3
    exact w_m_daysGo_2 (by omega) (ilp n rfl (by omega) (by omega) (fun _ => h S3 f3 A3) (fun h => absurd h (Nat.lt_irrefl _)))
  · intro k hk ih S3 f3 A3
    refine w_m_daysGo_2 (by omega) (ilp n rfl (by omega) (by omega) (fun h => by omega) (fun _ => ?_))
    exact e_dayOf (o := 79) (by omega) (LM_fm hL f3) (by omega) A3 (COk_dayN hO k) (GOk_dayN hG k) (fun S4 f4 A4 _ _ _ _ => ih S4 (f3.trans f4) A4)
theorem e_goesTo {n : Nat} {Q : St → Prop} (hd : 8 ≤ d) (hL : LM l S) (hA : ScM l (S 77) 0 A) (hO : COk l A) (hG : GOk l A) (hn : n ≤ 60) (h : ∀ S', FM 79 S S' → ScM l (S' 77) 79 (dayN l A n) → Q S') : k_m_goesTo E d S (nI n) Q := by
  refine w_m_goesTo (by omega) (e_tries hL.ok hA (fun S2 f2 A2 _ => ?_))
  exact e_daysGo (by omega) (LM_fm hL f2) A2 hO hG hn (fun S4 f4 A4 => h S4 (f2.trans f4) A4)
end MQ
