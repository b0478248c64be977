/-! THE CLASS: rules, going out, a day -/
section DY
variable {l : Lnd} {S : St} {E : zX} {d q : Nat} {A : Scn}
theorem oI_ne {y : Nat} (h : y < 2 ^ 31) : ¬ nI y = (-1 : Int32) := by
  intro e
  have := nI_pos h
  rw [e] at this
  exact this (by decide)
theorem c_nearestWhite {p : Nat} {Q : Int32 → St → Prop} (hd : 1 ≤ d) (hL : LC l S) (hq : Sc q) (hA : ScC l (S (q + 1)) A) (hO : COk l A) (hp : p < lp l) (h : (∀ y, nw l A p = some y → y < lb l) → Q (oI (nw l A p)) S) : k_Downs_nearestWhite E d S q (nI p) Q := by
  have b10 := hL.ok.b10
  have p7 := hL.ok.p7
  refine w_Downs_nearestWhite (by omega) hq ?_
  refine dn (P := fun k => ∀ a4, (∀ y, zfo (nwS l A p) k none = some y → y < k ∧ a4 = nI (far (lw l) (cel A y) (lhm l p))) → k_Downs_nearestWhite_8 E d S q p (oI (zfo (nwS l A p) k none)) a4 k Q) (lb l) ?_ ?_ 0 (Nat.zero_le _) 0 (fun y h => by cases h)
  · intro a4 ha
    exact w_Downs_nearestWhite_8 (by omega) hq (ilp (lb l) hL.b (by omega) (by omega) (fun _ => h (fun y hy => (ha y hy).1)) (fun h => absurd h (Nat.lt_irrefl _)))
  · intro k hk ih a4 ha
    have e : zfo (nwS l A p) (k + 1) none = nwS l A p k (zfo (nwS l A p) k none) := rfl
    generalize hb : zfo (nwS l A p) k none = b at ha e
    rw [e] at ih
    have keep : nwS l A p k b = b → k_Downs_nearestWhite_8 E d S q p (oI b) a4 (k + 1) Q := fun e2 => by
      rw [e2] at ih
      exact ih a4 (fun y hy => ⟨Nat.lt_succ_of_lt (ha y hy).1, (ha y hy).2⟩)
    have take : nwS l A p k b = some k → k_Downs_nearestWhite_8 E d S q p (nI k) (nI (far (lw l) (cel A k) (lhm l p))) (k + 1) Q := fun e2 => by
      rw [e2] at ih
      exact ih _ (fun y hy => by cases hy; exact ⟨Nat.lt_succ_self _, rfl⟩)
    refine w_Downs_nearestWhite_8 (by omega) hq (ilp (lb l) hL.b (by omega) (by omega) (fun h => by omega) (fun _ => ?_))
    refine c_isWhite hL.ok hq hA hk (izb (fun hw => ?_) (fun hw => ?_))
    · refine ⟨by omega, c_temperOf hL.ok hq hA hp ?_⟩
      rw [hL.sz hk]
      refine ife (fun hs => keep ?_) (fun hs => ?_)
      · unfold nwS
        rw [if_neg (fun h => h.2 hs)]
      · refine c_cellOf hL.ok hq hA hk ⟨by omega, c_far hL (hO k hk).1 (hL.hm hp) (hO k hk).2 (hL.ok.hm hp) ?_⟩
        cases b with
        | none =>
          rw [if_pos rfl]
          refine take ?_
          unfold nwS
          rw [if_pos ⟨hw, hs⟩]
        | some y =>
          obtain ⟨h1, h2⟩ := ha y rfl
          rw [if_neg (show ¬ oI (some y) = -1 from oI_ne (by omega)), h2]
          have g1 := far_lt hL.ok.w6 hL.ok.2.2.2.1 hL.ok.w1 (hO k hk).2 (hL.ok.hm hp)
          have g2 := far_lt hL.ok.w6 hL.ok.2.2.2.1 hL.ok.w1 (hO y (by omega)).2 (hL.ok.hm hp)
          refine ife (fun hc => ?_) (fun hc => ?_)
          · rw [nI_leI (by omega) (by omega)] at hc
            rw [← h2]
            refine keep ?_
            unfold nwS
            rw [if_pos ⟨hw, hs⟩]
            show (if _ then _ else _) = _
            rw [if_neg (by omega)]
          · rw [nI_leI (by omega) (by omega)] at hc
            refine take ?_
            unfold nwS
            rw [if_pos ⟨hw, hs⟩]
            show (if _ then _ else _) = _
            rw [if_pos (by omega)]
    · refine keep ?_
      unfold nwS
      rw [if_neg (fun h => hw h.1)]
theorem c_goOut {p : Nat} {Q : Int32 → St → Prop} (hd : 2 ≤ d) (hL : LC l S) (hq : Sc q) (hA : ScC l (S (q + 1)) A) (hO : COk l A) (hp : p < lp l) (h1 : ∀ A', goO l A p = some A' → ∀ S', Fr [q + 1] S S' → ScC l (S' (q + 1)) A' → Q 1 S') (h0 : goO l A p = none → Q 0 S) : k_Downs_goOut E d S q (nI p) Q := by
  have b10 := hL.ok.b10
  refine w_Downs_goOut (by omega) hq (c_nearestWhite (by omega) hL hq hA hO hp (fun hb => ?_))
  unfold goO at h1 h0
  cases e : nw l A p with
  | none =>
    rw [e] at h0
    rw [if_pos rfl]
    exact h0 rfl
  | some x =>
    have hx := hb x e
    rw [e] at h1
    rw [if_neg (show ¬ oI (some x) = -1 from oI_ne (by omega))]
    refine c_temperOf hL.ok hq hA hp (c_fill hL.ok hq hA hx (fun S2 f2 A2 => c_setTemper (by omega) hL.ok hq A2 hp (fun S3 f3 A3 => h1 _ rfl S3 (f2.trans f3) ?_)))
    rw [show m99 0 = 0 from by decide] at A3
    exact A3
/-! rules -/
theorem c_join {c n : Nat} {a b : Int32} {Q : Int32 → St → Prop} (h3 : 3 ≤ c) (h10 : c ≤ 10) (h : Q (jn c a b) S) : k_Rule_join E d S (encC (c, n)) a b Q := by
  refine w_Rule_join ?_
  have : c = 3 ∨ c = 4 ∨ c = 5 ∨ c = 6 ∨ c = 7 ∨ c = 8 ∨ c = 9 ∨ c = 10 := by omega
  rcases this with rfl | rfl | rfl | rfl | rfl | rfl | rfl | rfl
  · rw [show encC (3, n) = -1 from rfl]
    rw [if_neg (by decide), if_neg (by decide), if_neg (by decide), if_neg (by decide), if_neg (by decide), if_neg (by decide), if_neg (by decide), if_pos rfl]
    have h : Q (zb (¬ a = 0 ∨ ¬ b = 0)) S := h
    refine ife (fun e => ife (fun e2 => ?_) (fun e2 => ?_)) (fun e => ?_)
    · rw [zb_f (by simp [e, e2])] at h
      exact h
    · rw [zb_t (Or.inr e2)] at h
      exact h
    · rw [zb_t (Or.inl e)] at h
      exact h
  · rw [show encC (4, n) = -2 from rfl]
    rw [if_neg (by decide), if_neg (by decide), if_neg (by decide), if_neg (by decide), if_neg (by decide), if_neg (by decide), if_pos rfl]
    have h : Q (zb (¬ a = 0 ∧ ¬ b = 0)) S := h
    refine ife (fun e => ?_) (fun e => ife (fun e2 => ?_) (fun e2 => ?_))
    · rw [zb_f (fun h => h.1 e)] at h
      exact h
    · rw [zb_f (fun h => h.2 e2)] at h
      exact h
    · rw [zb_t ⟨e, e2⟩] at h
      exact h
  · rw [show encC (5, n) = -4 from rfl]
    rw [if_neg (by decide), if_neg (by decide), if_neg (by decide), if_neg (by decide), if_pos rfl]
    have h : Q (zb (a < b)) S := h
    refine ife (fun e => ?_) (fun e => ?_)
    · rw [zb_f (Int32.not_lt.mpr e)] at h
      exact h
    · rw [zb_t (Int32.not_le.mp e)] at h
      exact h
  · rw [show encC (6, n) = -5 from rfl]
    rw [if_neg (by decide), if_neg (by decide), if_neg (by decide), if_pos rfl]
    have h : Q (zb (a = b)) S := h
    refine ife (fun e => ?_) (fun e => ?_)
    · rw [zb_t e] at h
      exact h
    · rw [zb_f e] at h
      exact h
  · rw [show encC (7, n) = -6 from rfl]
    rw [if_neg (by decide), if_neg (by decide), if_pos rfl]
    exact h
  · rw [show encC (8, n) = -7 from rfl]
    rw [if_neg (by decide), if_pos rfl]
    exact h
  · rw [show encC (9, n) = -8 from rfl]
    rw [if_pos rfl]
    exact h
  · rw [show encC (10, n) = -9 from rfl]
    rw [if_neg (by decide), if_neg (by decide), if_neg (by decide), if_neg (by decide), if_neg (by decide), if_neg (by decide), if_neg (by decide), if_neg (by decide)]
    have h : Q (if b = 0 then 0 else a / b) S := h
    refine ife (fun e => ?_) (fun e => ⟨e, ?_⟩)
    · rw [if_pos e] at h
      exact h
    · rw [if_neg e] at h
      exact h
theorem c_valueAt {k : Nat} {Q : Int32 → St → Prop} (hk : k < 5) (h : Q (S 41 k) S) : k_Rule_valueAt E d S (nI k) Q := by
  refine w_Rule_valueAt ?_
  rw [if_neg (nI_pos (by omega)), if_neg (nI_ge hk (by omega))]
  exact ⟨hk, h⟩
theorem enc_val : ∀ k, k < 5 → ((-20) : Int32) - ((-20) - nI k) = nI k ∧ ¬ ((-20) - nI k : Int32) = -3 ∧ ¬ (0 : Int32) ≤ (-20) - nI k ∧ ¬ (-20 : Int32) < (-20) - nI k ∧ ((-20) - nI k : Int32) < 0 := by decide +kernel
theorem c_worth {u : Nat} {r : Rul} {v : Nat → Int32} {Q : Int32 → St → Prop} (hd : 1 ≤ d) (hu : Ru u) (hu1 : u ≠ 42) (hu2 : u + 1 ≠ 42) (hr : ROk r) (h0 : 0 < r.1) (hR : RuC r (S u 1) (S (u + 1))) (hv : ∀ k, k < 5 → S 41 k = v k) (h : ∀ S', Fr [42] S S' → Q (rval v r) S') : k_Rule_worth E d S u Q := by
  have h700 := hr.2.2
  refine w_Rule_worth hd hu ?_
  refine dn (P := fun i => ∀ S', Fr [42] S S' → S' 42 = (trn v r i (S 42)).1 → k_Rule_worth_5 E d S' u (nI (rdp r.2 i)) i Q) r.1 ?_ ?_ 0 (Nat.zero_le _) S (Fr.refl _ _) rfl
  · intro S' f e
    have eu : S' u = S u := f u (by simp [hu1])
    refine w_Rule_worth_5 hd hu (ilp r.1 (by rw [eu]; exact hR.1) (by omega) (by omega) (fun _ => ?_) (fun h => absurd h (Nat.lt_irrefl _)))
    rw [hr.2.1 h0, if_neg (by decide), e, rval_of hr h0]
    exact h S' f
  · intro i hi ih S' f e
    have eu : S' u = S u := f u (by simp [hu1])
    have eu1 : S' (u + 1) = S (u + 1) := f (u + 1) (by simp [hu2])
    have e41 : S' 41 = S 41 := f 41 (by simp)
    obtain ⟨g1, g2, g3, g4, g5, g6⟩ := hr.1 i hi
    have hdp := trn_2 v r (S 42) i
    have et : trn v r (i + 1) (S 42) = tst v (r.2 i) (trn v r i (S 42)) := rfl
    have ed : rdp r.2 (i + 1) = (tst v (r.2 i) (trn v r i (S 42))).2 := (trn_2 v r (S 42) (i + 1)).symm
    have d40 : rdp r.2 i ≤ 40 := by
      cases i with
      | zero => exact Nat.zero_le _
      | succ j =>
        have := (hr.1 j (by omega)).1
        show (if (r.2 j).1 ≤ 1 then rdp r.2 j + 1 else if (r.2 j).1 = 2 then rdp r.2 j else rdp r.2 j - 1) ≤ 40
        sorry
    refine w_Rule_worth_5 hd hu (ilp r.1 (by rw [eu]; exact hR.1) (by omega) (by omega) (fun h => by omega) (fun _ => ⟨by omega, ?_⟩))
    rw [eu1, hR.2 i hi]
    sorry
end DY
