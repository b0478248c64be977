/-! THE CLASS: a day whole; what is told of a scene -/
def bcf (a0 : Int32) : Int32 := ((((((((a0 - ((zushr a0 1) &&& (1431655765 : Int32))) &&& (858993459 : Int32)) + ((zushr (a0 - ((zushr a0 1) &&& (1431655765 : Int32))) 2) &&& (858993459 : Int32))) + (zushr (((a0 - ((zushr a0 1) &&& (1431655765 : Int32))) &&& (858993459 : Int32)) + ((zushr (a0 - ((zushr a0 1) &&& (1431655765 : Int32))) 2) &&& (858993459 : Int32))) 4)) &&& (252645135 : Int32)) + (zushr (((((a0 - ((zushr a0 1) &&& (1431655765 : Int32))) &&& (858993459 : Int32)) + ((zushr (a0 - ((zushr a0 1) &&& (1431655765 : Int32))) 2) &&& (858993459 : Int32))) + (zushr (((a0 - ((zushr a0 1) &&& (1431655765 : Int32))) &&& (858993459 : Int32)) + ((zushr (a0 - ((zushr a0 1) &&& (1431655765 : Int32))) 2) &&& (858993459 : Int32))) 4)) &&& (252645135 : Int32)) 8)) + (zushr ((((((a0 - ((zushr a0 1) &&& (1431655765 : Int32))) &&& (858993459 : Int32)) + ((zushr (a0 - ((zushr a0 1) &&& (1431655765 : Int32))) 2) &&& (858993459 : Int32))) + (zushr (((a0 - ((zushr a0 1) &&& (1431655765 : Int32))) &&& (858993459 : Int32)) + ((zushr (a0 - ((zushr a0 1) &&& (1431655765 : Int32))) 2) &&& (858993459 : Int32))) 4)) &&& (252645135 : Int32)) + (zushr (((((a0 - ((zushr a0 1) &&& (1431655765 : Int32))) &&& (858993459 : Int32)) + ((zushr (a0 - ((zushr a0 1) &&& (1431655765 : Int32))) 2) &&& (858993459 : Int32))) + (zushr (((a0 - ((zushr a0 1) &&& (1431655765 : Int32))) &&& (858993459 : Int32)) + ((zushr (a0 - ((zushr a0 1) &&& (1431655765 : Int32))) 2) &&& (858993459 : Int32))) 4)) &&& (252645135 : Int32)) 8)) 16)) &&& (63 : Int32))
theorem bc10 : ∀ n, n < 1024 → bcf (nI n) = nI (cnt n 10) := by decide +kernel
def num (p : Nat → Bool) (n : Nat) : Nat := zfo (fun y k => if p y then k + 1 else k) n 0
theorem num_le (p : Nat → Bool) : ∀ n, num p n ≤ n
  | 0 => Nat.le_refl _
  | n + 1 => by
    have := num_le p n
    show (if p n then num p n + 1 else num p n) ≤ n + 1
    split
    · exact Nat.succ_le_succ this
    · exact Nat.le_succ_of_le this
theorem num_congr {p q : Nat → Bool} {n : Nat} (h : ∀ i, i < n → p i = q i) : num p n = num q n := zfo_congr (fun k hk a => by rw [h k hk]) 0
theorem cnt_num (a : Nat) : ∀ n, cnt a n = num (fun i => a.testBit i) n
  | 0 => rfl
  | n + 1 => by
    show (if a.testBit n then cnt a n + 1 else cnt a n) = (if a.testBit n then num (fun i => a.testBit i) n + 1 else num (fun i => a.testBit i) n)
    rw [cnt_num a n]
theorem num_ext {p : Nat → Bool} {n m : Nat} (h : n ≤ m) (hp : ∀ i, n ≤ i → p i = false) : num p m = num p n := by
  induction h with
  | refl => rfl
  | step hm ih =>
    rename_i m
    show (if p m then num p m + 1 else num p m) = _
    rw [hp m hm]
    exact ih
theorem cnt_mkN (p : Nat → Bool) {n m : Nat} (h : n ≤ m) : cnt (mkN p n) m = num p n := by
  rw [cnt_num, num_ext h (fun i hi => by rw [mkN_bit]; simp [show ¬ i < n by omega])]
  exact num_congr (fun i hi => by rw [mkN_bit]; simp [hi])
theorem cnt_ext {a n m : Nat} (h : a < 2 ^ n) (hm : n ≤ m) : cnt a m = cnt a n := by
  rw [cnt_num, cnt_num, num_ext hm (fun i hi => bit_ge h hi)]
section PD
variable {l : Lnd} {S : St} {E : zX} {d q : Nat} {A : Scn}
theorem c_bitCount {n : Nat} {Q : Int32 → St → Prop} (hn : n < 1024) (h : Q (nI (cnt n 10)) S) : k_Integer_bitCount E d S (nI n) Q := by
  refine w_Integer_bitCount ?_
  have := bc10 n hn
  unfold bcf at this
  rw [this]
  exact h
theorem lnk_cnt {x : Nat} (hl : LOk l) (hx : held A x = true) : cnt (lnk l A x) 10 = nea l A x := by
  unfold lnk
  rw [cnt_mkN _ hl.b10]
  exact num_congr (fun i _ => by unfold lnkF; rw [hx, Bool.true_and])
theorem lnk_1024 {x : Nat} (hl : LOk l) : lnk l A x < 1024 := mkN_lt10 hl.b10
theorem c_isRipe {x : Nat} {Q : Int32 → St → Prop} (hd : 2 ≤ d) (hL : LC l S) (hq : Sc q) (hA : ScC l (S (q + 1)) A) (hx : x < lb l) (hh : held A x = true) (hk : ¬ (lbu l).1 = 0 → S 40 x = nI (lnk l A x)) (h : ∀ S', Fr [41, 42] S S' → Q (zb (rip l A x = true)) S') : k_Downs_isRipe E d S q (nI x) Q := by
  have hr := hL.ok.2.2.2.2.2.2.2.2.2
  have b10 := hL.ok.b10
  refine w_Downs_isRipe (by omega) hq (c_isTold ru8 hL.bu.1 hr.2.2 (izb (fun h0 => ?_) (fun h0 => ?_)))
  · unfold rip at h
    simp only [if_neg h0] at h
    refine c_heldIn hL.ok hq hA hx (fun S7 e7 => ⟨by omega, fun S8 e8 => ?_⟩)
    have f7 : Fr [41] S S7 := by
      rw [e7]
      exact Fr.up _ _ List.mem_cons_self
    rw [f7 5 (by decide), hL.sz hx] at e8
    have f8 : Fr [41] S S8 := by
      rw [e8]
      exact f7.trans (Fr.up _ _ List.mem_cons_self)
    have row : ∀ S', Fr [41] S S' → ScC l (S' (q + 1)) A := fun S' f => by
      rw [row_of hq f (fun k hk => by simp only [List.mem_cons, List.not_mem_nil, or_false] at hk; omega)]
      exact hA
    refine c_ageOf hL.ok hq (row _ f8) hx (fun S11 e11 => ⟨by omega, ?_⟩)
    have f11 : Fr [41] S S11 := by
      rw [e11]
      exact f8.trans (Fr.up _ _ List.mem_cons_self)
    rw [f11 40 (by decide), hk h0]
    refine c_bitCount (lnk_1024 hL.ok) (fun S14 e14 => ?_)
    rw [lnk_cnt hL.ok hh] at e14
    have f14 : Fr [41] S S14 := by
      rw [e14]
      exact f11.trans (Fr.up _ _ List.mem_cons_self)
    refine c_day hq (row _ f14) (fun S17 e17 => ?_)
    have f17 : Fr [41] S S17 := by
      rw [e17]
      exact f14.trans (Fr.up _ _ List.mem_cons_self)
    have hv : ∀ k, k < 5 → S17 41 k = vBu l A x k := by
      intro k hk
      rw [e17, up_same, e14, up_same, e11, up_same, e8, up_same, e7, up_same]
      have : k = 0 ∨ k = 1 ∨ k = 2 ∨ k = 3 ∨ k = 4 := by omega
      rcases this with rfl | rfl | rfl | rfl | rfl <;> rfl
    refine c_worth (u := 8) (r := lbu l) (v := vBu l A x) (by omega) ru8 (by decide) (by decide) hr (by omega) ?_ hv (fun S19 f19 => ?_)
    · rw [f17 8 (by decide), f17 9 (by decide)]
      exact hL.bu
    · have F : Fr [41, 42] S S19 := fun k hk => by
        rw [f19 k (fun hm => hk (by simp only [List.mem_cons, List.not_mem_nil, or_false] at hm ⊢; omega)), f17 k (fun hm => hk (by simp only [List.mem_cons, List.not_mem_nil, or_false] at hm ⊢; omega))]
      have h := h S19 F
      refine ife (fun e => ?_) (fun e => ?_)
      · rw [zb_f (by rw [decide_eq_true_eq]; exact Int32.not_lt.mpr e)] at h
        exact h
      · rw [zb_t (by rw [decide_eq_true_eq]; exact Int32.not_le.mp e)] at h
        exact h
  · unfold rip at h
    simp only [if_pos (Classical.not_not.mp h0)] at h
    refine c_ageOf hL.ok hq hA hx ?_
    have h := h S (Fr.refl _ _)
    refine ife (fun e => ?_) (fun e => ?_)
    · rw [zb_f (by rw [decide_eq_true_eq]; exact Int32.not_le.mpr e)] at h
      exact h
    · rw [zb_t (by rw [decide_eq_true_eq]; exact Int32.not_lt.mp e)] at h
      exact h
theorem c_ripe {Q : Int32 → St → Prop} (hd : 3 ≤ d) (hL : LC l S) (hq : Sc q) (hA : ScC l (S (q + 1)) A) (hO : COk l A) (h : ∀ S', Fr [40, 41, 42] S S' → Q (nI (ripM l A)) S') : k_Downs_ripe E d S q Q := by
  have hr := hL.ok.2.2.2.2.2.2.2.2.2
  have b10 := hL.ok.b10
  have hL' : ∀ S', Fr [40, 41, 42] S S' → LC l S' := fun S' f => LC_dl hq hL (f.mono (fun k hk => by unfold dl; simp only [List.mem_cons, List.not_mem_nil, or_false] at hk ⊢; omega))
  have hA' : ∀ S', Fr [40, 41, 42] S S' → ScC l (S' (q + 1)) A := fun S' f => by
    rw [row_of hq f (fun k hk => by simp only [List.mem_cons, List.not_mem_nil, or_false] at hk; omega)]
    exact hA
  have main : ∀ S2, Fr [40, 41, 42] S S2 → (¬ (lbu l).1 = 0 → ∀ x, x < lb l → S2 40 x = nI (lnk l A x)) → k_Downs_ripe_22 E d S2 q 0 0 Q := by
    intro S2 f2 k2
    refine dn (P := fun k => ∀ S', Fr [40, 41, 42] S S' → (¬ (lbu l).1 = 0 → ∀ x, x < lb l → S' 40 x = nI (lnk l A x)) → k_Downs_ripe_22 E d S' q (nI (mkN (fun x => held A x && rip l A x) k)) k Q) (lb l) ?_ ?_ 0 (Nat.zero_le _) S2 f2 k2
    · intro S3 f3 _
      exact w_Downs_ripe_22 (by omega) hq (ilp (lb l) (hL' S3 f3).b (by omega) (by omega) (fun _ => h S3 f3) (fun h => absurd h (Nat.lt_irrefl _)))
    · intro k hk ih S3 f3 k3
      refine w_Downs_ripe_22 (by omega) hq (ilp (lb l) (hL' S3 f3).b (by omega) (by omega) (fun h => by omega) (fun _ => ?_))
      refine c_isWhite hL.ok hq (hA' S3 f3) hk (izb (fun hw => ?_) (fun hw => ?_))
      · rw [mkN_no (by simp [held, hw])]
        exact ih S3 f3 k3
      · have hh : held A k = true := decide_eq_true hw
        refine c_isRipe (by omega) (hL' S3 f3) hq (hA' S3 f3) hk hh (fun h0 => k3 h0 k hk) (fun S4 f4 => ?_)
        have F4 : Fr [40, 41, 42] S S4 := f3.trans (f4.mono (fun k hk => by simp only [List.mem_cons, List.not_mem_nil, or_false] at hk ⊢; omega))
        have k4 : ¬ (lbu l).1 = 0 → ∀ x, x < lb l → S4 40 x = nI (lnk l A x) := fun h0 x hx => by
          rw [f4 40 (by decide)]
          exact k3 h0 x hx
        refine izb (fun hr => ?_) (fun hr => ?_)
        · rw [mkN_or (by omega) (by rw [hh, hr]; rfl)]
          exact ih S4 F4 k4
        · rw [mkN_no (by rw [hh]; simpa using hr)]
          exact ih S4 F4 k4
  refine w_Downs_ripe (by omega) hq (c_isTold ru8 hL.bu.1 hr.2.2 (izb (fun h0 => ?_) (fun h0 => ?_)))
  · refine c_link (by omega) hL hq hA hO (fun S4 f4 k4 => main S4 (f4.mono (fun k hk => by simp only [List.mem_cons, List.not_mem_nil, or_false] at hk ⊢; omega)) (fun _ => k4))
  · exact main S (Fr.refl _ _) (fun h1 => absurd h1 h0)
theorem pday5 (p : Nat) (r : Scn × Nat × Nat) : (pday l p r).1 5 = r.1 5 := by
  unfold pday
  simp only
  have e0 : ua r.1 1 p (m99 (r.1 1 p + rise l r.1 p)) 5 = r.1 5 := ua5 _ _ (by decide)
  generalize ua r.1 1 p (m99 (r.1 1 p + rise l r.1 p)) = B at e0 ⊢
  split
  · exact e0
  · unfold goO
    cases nw l B p with
    | none =>
      show ua (ua B 2 p (B 2 p + 1)) 1 p (B 1 p / 2) 5 = r.1 5
      rw [ua5 _ _ (by decide), ua5 _ _ (by decide)]
      exact e0
    | some x =>
      show ua (fill B x (B 1 p) (nI p)) 1 p 0 5 = r.1 5
      rw [ua5 _ _ (by decide), fill5]
      exact e0
theorem ripM_sub : sub (ripM l A) (heldM l A) := fun i h => by
  unfold ripM at h
  rw [mkN_bit, Bool.and_eq_true, Bool.and_eq_true] at h
  exact held_bit.mpr ⟨of_decide_eq_true h.1, h.2.1⟩
theorem ages5 : ages l A 5 = A 5 := zfo_inv (P := fun A' : Scn => A' 5 = A 5) (fun k A' _ h => by
  show (if held A' k then ua A' 7 k (A' 7 k + 1) else A') 5 = A 5
  split
  · rw [ua5 _ _ (by decide), h]
  · exact h) rfl
theorem c_passDay {Q : St → Prop} (hd : 4 ≤ d) (hL : LC l S) (hq : Sc q) (hA : ScC l (S (q + 1)) A) (hO : COk l A) (h : ∀ S', Fr (dl q) S S' → ScC l (S' (q + 1)) (dayF l A).1 → S' 39 1 = nI (dayF l A).2.1 → S' 39 2 = nI (dayF l A).2.2.1 → S' 39 0 = nI (dayF l A).2.2.2 → Q S') : k_Downs_passDay E d S q Q := by
  have b10 := hL.ok.b10
  have p7 := hL.ok.p7
  have ni := sc_ni hq
  have hL' : ∀ S', Fr (dl q) S S' → LC l S' := fun S' f => LC_dl hq hL f
  refine w_Downs_passDay (by omega) hq (fun S1 e1 S2 e2 => ?_)
  have F2 : Fr (dl q) S S2 := by
    rw [e2, e1]
    exact (fr_u _ _ (Or.inl rfl)).trans (fr_u _ _ (Or.inl rfl))
  have A2 : ScC l (S2 (q + 1)) A := by
    rw [e2, e1, up_ne _ _ _ (by omega), up_ne _ _ _ (by omega)]
    exact hA
  have o2 : S2 39 1 = nI 0 := by
    rw [e2, e1, up_same, upd_ne _ _ (by decide), up_same, upd_same]
    rfl
  have s2 : S2 39 2 = nI 0 := by
    rw [e2, up_same, upd_same]
    rfl
  refine dn (P := fun k => ∀ S', Fr (dl q) S S' → ScC l (S' (q + 1)) (zfo (pday l) k (A, 0, 0)).1 → S' 39 1 = nI (zfo (pday l) k (A, 0, 0)).2.1 → S' 39 2 = nI (zfo (pday l) k (A, 0, 0)).2.2 → k_Downs_passDay_16 E d S' q k Q) (lp l) ?_ ?_ 0 (Nat.zero_le _) S2 F2 A2 o2 s2
  · intro S3 F3 A3 o3 s3
    refine w_Downs_passDay_16 (by omega) hq (ilp (lp l) (hL' S3 F3).p (by omega) (by omega) (fun _ => ?_) (fun h => absurd h (Nat.lt_irrefl _)))
    unfold dayF at h
    simp only at h
    have O3 : COk l (zfo (pday l) (lp l) (A, 0, 0)).1 := COk_of hO (zfo_inv (P := fun r : Scn × Nat × Nat => r.1 5 = A 5) (fun k r _ h => (pday5 k r).trans h) rfl)
    generalize zfo (pday l) (lp l) (A, 0, 0) = r at h A3 o3 s3 O3
    obtain ⟨B, o, s⟩ := r
    have A3 : ScC l (S3 (q + 1)) B := A3
    have O3 : COk l B := O3
    have h : ∀ S', Fr (dl q) S S' → ScC l (S' (q + 1)) (ua (bst l (ages l B) (ripM l (ages l B))).1 0 0 ((bst l (ages l B) (ripM l (ages l B))).1 0 0 + 1)) → S' 39 1 = nI o → S' 39 2 = nI s → S' 39 0 = nI (bst l (ages l B) (ripM l (ages l B))).2 → Q S' := h
    refine dn (P := fun k => ∀ S', Fr (dl q) S S' → ScC l (S' (q + 1)) (zfo (fun x A => if held A x then ua A 7 x (A 7 x + 1) else A) k B) → S' 39 1 = nI o → S' 39 2 = nI s → k_Downs_passDay_41 E d S' q k Q) (lb l) ?_ ?_ 0 (Nat.zero_le _) S3 F3 A3 o3 s3
    · intro S4 F4 A4 o4 s4
      refine w_Downs_passDay_41 (by omega) hq (ilp (lb l) (hL' S4 F4).b (by omega) (by omega) (fun _ => ?_) (fun h => absurd h (Nat.lt_irrefl _)))
      have A4 : ScC l (S4 (q + 1)) (ages l B) := A4
      have O4 : COk l (ages l B) := COk_of O3 ages5
      refine c_ripe (by omega) (hL' S4 F4) hq A4 O4 (fun S5 f5 => ?_)
      have F5 : Fr (dl q) S S5 := F4.trans (f5.mono (fun k hk => by unfold dl; simp only [List.mem_cons, List.not_mem_nil, or_false] at hk ⊢; omega))
      have A5 : ScC l (S5 (q + 1)) (ages l B) := by
        rw [row_of hq f5 (fun k hk => by simp only [List.mem_cons, List.not_mem_nil, or_false] at hk; omega)]
        exact A4
      refine c_burst (by omega) (hL' S5 F5) hq A5 O4 ripM_sub (fun S6 f6 A6 => ?_)
      have F6 : Fr (dl q) S S6 := F5.trans (f6.mono (fun k hk => by unfold dl; simp only [List.mem_cons, List.not_mem_nil, or_false] at hk ⊢; omega))
      intro S7 e7
      have F7 : Fr (dl q) S S7 := by
        rw [e7]
        exact F6.trans (fr_u _ _ (Or.inl rfl))
      have A7 : ScC l (S7 (q + 1)) (bst l (ages l B) (ripM l (ages l B))).1 := by
        rw [e7, up_ne _ _ _ (by omega)]
        exact A6
      have x39 : S6 39 = S4 39 := by rw [f6 39 (by simp; omega), f5 39 (by decide)]
      refine c_nextDay hL.ok hq A7 (fun S8 f8 A8 => ?_)
      have y39 : S8 39 = S7 39 := f8 39 (by simp; omega)
      refine h S8 (F7.trans (fr_q f8)) A8 ?_ ?_ ?_
      · rw [y39, e7, up_same, upd_ne _ _ (by decide), x39, o4]
      · rw [y39, e7, up_same, upd_ne _ _ (by decide), x39, s4]
      · rw [y39, e7, up_same, upd_same]
    · intro k hk ih S4 F4 A4 o4 s4
      have e : zfo (fun x A => if held A x then ua A 7 x (A 7 x + 1) else A) (k + 1) B = (if held (zfo (fun x A => if held A x then ua A 7 x (A 7 x + 1) else A) k B) k then ua (zfo (fun x A => if held A x then ua A 7 x (A 7 x + 1) else A) k B) 7 k ((zfo (fun x A => if held A x then ua A 7 x (A 7 x + 1) else A) k B) 7 k + 1) else (zfo (fun x A => if held A x then ua A 7 x (A 7 x + 1) else A) k B)) := rfl
      rw [e] at ih
      generalize zfo (fun x A => if held A x then ua A 7 x (A 7 x + 1) else A) k B = C at ih A4
      refine w_Downs_passDay_41 (by omega) hq (ilp (lb l) (hL' S4 F4).b (by omega) (by omega) (fun h => by omega) (fun _ => ?_))
      refine c_isWhite hL.ok hq A4 hk (izb (fun hw => ?_) (fun hw => ?_))
      · rw [if_neg (by simp [held, hw])] at ih
        exact ih S4 F4 A4 o4 s4
      · rw [if_pos (show held C k = true from decide_eq_true hw)] at ih
        refine c_growOld hL.ok hq A4 hk (fun S5 f5 A5 => ih S5 (F4.trans (fr_q f5)) A5 ?_ ?_)
        · rw [f5 39 (by simp; omega)]
          exact o4
        · rw [f5 39 (by simp; omega)]
          exact s4
  · intro k hk ih S3 F3 A3 o3 s3
    refine w_Downs_passDay_16 (by omega) hq (ilp (lp l) (hL' S3 F3).p (by omega) (by omega) (fun h => by omega) (fun _ => ?_))
    have O3 : COk l (zfo (pday l) k (A, 0, 0)).1 := COk_of hO (zfo_inv (P := fun r : Scn × Nat × Nat => r.1 5 = A 5) (fun k r _ h => (pday5 k r).trans h) rfl)
    refine c_pday (by omega) (hL' S3 F3) hq A3 O3 hk o3 s3 (fun S4 F4 A4 o4 s4 => ih S4 (F3.trans F4) A4 o4 s4)
end PD
