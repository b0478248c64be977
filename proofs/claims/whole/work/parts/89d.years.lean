/-! YEARS BY A SEED -/
def r16 (s : Int32) : Nat := s.toBitVec.toNat / 65536 % 32768
theorem ydr_ex : ∃ f : Int32 → Int32, ∀ s, f s = s * (1103515245 : Int32) + (12345 : Int32) := ⟨_, fun _ => rfl⟩
theorem yv_ex : ∃ f : Int32 → Nat → Nat, ∀ s n, f s n = r16 s % n := ⟨_, fun _ _ => rfl⟩
/-- by choice, so that nothing computes them -/
noncomputable def ydr : Int32 → Int32 := Classical.choose ydr_ex
noncomputable def yv : Int32 → Nat → Nat := Classical.choose yv_ex
theorem ydr_def (s : Int32) : ydr s = s * (1103515245 : Int32) + (12345 : Int32) := Classical.choose_spec ydr_ex s
theorem yv_def (s : Int32) (n : Nat) : yv s n = r16 s % n := Classical.choose_spec yv_ex s n
theorem yv_lt {s : Int32} {n : Nat} (h : 0 < n) : yv s n < n := by
  rw [yv_def]
  exact Nat.mod_lt _ h
theorem r16_c (s : Int32) : (zushr s 16) &&& (32767 : Int32) = nI (r16 s) := by
  have e := nI_zushr (a := s.toBitVec.toNat) (k := 16) s.toBitVec.isLt (by omega)
  rw [← i_nI s, show nI 16 = (16 : Int32) from rfl] at e
  rw [e, show (32767 : Int32) = nI (2 ^ 15 - 1) from rfl, nI_and, Nat.and_two_pow_sub_one_eq_mod, Nat.shiftRight_eq_div_pow]
  rfl
theorem m15 : ∀ i, i < 32 → ((32767 : Int32)).toBitVec.getLsbD i = decide (i < 15) := by decide +kernel
theorem sh16s : ((16 : Int32) &&& 31).toBitVec.smod 32 = 16#32 := by decide +kernel
theorem r16_m (s : Int32) : (s >>> ((16 : Int32) &&& 31)) &&& (32767 : Int32) = nI (r16 s) := by
  rw [← r16_c]
  refine i_ext (fun i hi => ?_)
  rw [Int32.toBitVec_and, Int32.toBitVec_and, BitVec.getLsbD_and, BitVec.getLsbD_and, m15 i hi]
  by_cases h : i < 15
  · rw [decide_eq_true h, Bool.and_true, Bool.and_true, Int32.toBitVec_shiftRight]
    have e := nI_zushr (a := s.toBitVec.toNat) (k := 16) s.toBitVec.isLt (by omega)
    rw [← i_nI s, show nI 16 = (16 : Int32) from rfl] at e
    rw [e, nI_bit, Nat.testBit_shiftRight]
    rw [show ((16 : Int32) &&& 31).toBitVec.smod 32 = 16#32 from sh16s]
    show (s.toBitVec.sshiftRight 16).getLsbD i = _
    rw [BitVec.getLsbD_sshiftRight]
    simp [show ¬ 32 ≤ i by omega, show 16 + i < 32 by omega, hi]
    rfl
  · rw [decide_eq_false h, Bool.and_false, Bool.and_false]
theorem r16_lt (s : Int32) : r16 s < 32768 := Nat.mod_lt _ (by decide)
/-- what is drawn on a day: the seed, the scene, how many went off -/
noncomputable def yhp (l : Lnd) (s : Int32) (B : Scn) : Int32 × Scn × Nat :=
  if yv (ydr s) 5 = 0 ∧ 0 < lb l then
    (if ¬ B 6 (yv (ydr (ydr s)) (lb l)) = 0 ∧ ¬ B 9 (yv (ydr (ydr s)) (lb l)) = 1 then (ydr (ydr s), goOff l B (2 ^ yv (ydr (ydr s)) (lb l)), cnt (clo l B (freM l B) (2 ^ yv (ydr (ydr s)) (lb l))) 10) else (ydr (ydr s), B, 0))
  else if yv (ydr s) 5 = 1 ∧ 0 < lp l then (ydr (ydr (ydr s)), ua B 1 (yv (ydr (ydr s)) (lp l)) (nI (yv (ydr (ydr (ydr s))) 60)), 0)
  else (ydr s, B, 0)
noncomputable def yrs (l : Lnd) (A : Scn) (s : Int32) : Nat → Int32 × Scn × Nat × Nat
  | 0 => (s, A, 0, 0)
  | k + 1 => ((yhp l (yrs l A s k).1 (yrs l A s k).2.1).1, (dayF l (yhp l (yrs l A s k).1 (yrs l A s k).2.1).2.1).1, (yrs l A s k).2.2.1 + (yhp l (yrs l A s k).1 (yrs l A s k).2.1).2.2 + cnt (dayF l (yhp l (yrs l A s k).1 (yrs l A s k).2.1).2.1).2.2.2 10, (yrs l A s k).2.2.2 + cnt (dayF l (yhp l (yrs l A s k).1 (yrs l A s k).2.1).2.1).2.2.1 10)
section YP
variable {l : Lnd} {A : Scn}
theorem AOk_t1 {B : Scn} (h : AOk l B) (p v : Nat) (hv : v ≤ 99) : AOk l (ua B 1 p (nI v)) := by
  have k5 : ua B 1 p (nI v) 5 = B 5 := ua_ne _ _ _ (by decide)
  have k9 : ua B 1 p (nI v) 9 = B 9 := ua_ne _ _ _ (by decide)
  have k4 : ua B 1 p (nI v) 4 = B 4 := ua_ne _ _ _ (by decide)
  rw [AOk_iff] at h ⊢
  refine ⟨?_, GOk_of h.2.1 k9, TOk_t h.2.2.1 ⟨v, hv, rfl⟩, MOk_of h.2.2.2 k4⟩
  rw [k5]
  exact h.1
theorem AOk_yhp (hl : LOk l) {B : Scn} (h : AOk l B) (s : Int32) : AOk l (yhp l s B).2.1 := by
  unfold yhp
  split
  · split
    · exact AOk_goOff hl h _
    · exact h
  · split
    · have := yv_lt (s := ydr (ydr (ydr s))) (n := 60) (by omega)
      exact AOk_t1 h _ _ (by omega)
    · exact h
theorem AOk_yrs (hl : LOk l) (h : AOk l A) (s : Int32) : ∀ k, AOk l (yrs l A s k).2.1
  | 0 => h
  | k + 1 => AOk_day hl (AOk_yhp hl (AOk_yrs hl h s k) _)
theorem sm_day : ∀ n, smK (dayF l A).1 2 n = smK A 2 n + nI (cnt (dayF l A).2.2.1 n)
  | 0 => rfl
  | n + 1 => by
    show smK (dayF l A).1 2 n + (dayF l A).1 2 n = (smK A 2 n + A 2 n) + nI (if (dayF l A).2.2.1.testBit n then cnt (dayF l A).2.2.1 n + 1 else cnt (dayF l A).2.2.1 n)
    rw [sm_day n, day_2]
    cases hb : (dayF l A).2.2.1.testBit n with
    | true =>
      rw [zb_t rfl, if_pos rfl, ← nI_1]
      simp only [Int32.add_assoc, Int32.add_comm, alc]
    | false =>
      rw [zb_f (by decide), if_neg (by decide), Int32.add_zero]
      simp only [Int32.add_assoc, Int32.add_comm, alc]
theorem shm_lt (hl : LOk l) : cnt (dayF l A).2.2.1 10 = cnt (dayF l A).2.2.1 (lp l) := by
  have p7 := hl.p7
  refine cnt_ext (bits_lt (fun i hi => ?_)) (by omega)
  exact (ps_sh (l := l) (A := A) (lp l) i).2 hi
theorem yhp_2 (s : Int32) : (yhp l s A).2.1 2 = A 2 := by
  unfold yhp
  split
  · split
    · exact goFK (by omega) _
    · rfl
  · split
    · show ua A 1 (yv (ydr (ydr s)) (lp l)) (nI (yv (ydr (ydr (ydr s))) 60)) 2 = A 2
      exact ua_ne A (k := 1) (a := 2) _ _ (by decide)
    · rfl
theorem sm_congr {A' : Scn} (h : A' 2 = A 2) : ∀ n, smK A' 2 n = smK A 2 n
  | 0 => rfl
  | n + 1 => by
    show smK A' 2 n + A' 2 n = smK A 2 n + A 2 n
    rw [sm_congr h n, h]
theorem yrs_sh (hl : LOk l) (s : Int32) : ∀ k, smK (yrs l A s k).2.1 2 (lp l) = smK A 2 (lp l) + nI (yrs l A s k).2.2.2
  | 0 => (Int32.add_zero _).symm
  | k + 1 => by
    have ih := yrs_sh hl s k
    show smK (dayF l (yhp l (yrs l A s k).1 (yrs l A s k).2.1).2.1).1 2 (lp l) = smK A 2 (lp l) + nI ((yrs l A s k).2.2.2 + cnt (dayF l (yhp l (yrs l A s k).1 (yrs l A s k).2.1).2.1).2.2.1 10)
    rw [sm_day, sm_congr (yhp_2 _), ih, shm_lt hl, ← nI_add, Int32.add_assoc]
end YP
theorem zr_nI {r n : Nat} (hr : r < 32768) (h0 : 0 < n) (hn : n < 1000) : zrem (nI r) (nI n) = nI (r % n) := by
  unfold zrem
  rw [pk_rem (by omega) (by omega) (by omega)]
section YC
variable {l : Lnd} {S : St} {E : zX} {d : Nat} {A B : Scn}
theorem c_draw {n : Nat} {v : Int32} {Q : Int32 → St → Prop} (h0 : 0 < n) (hn : n < 1000) (hv : v = nI n) (h : ∀ S' : St, S' = up S 60 9 (ydr (S 60 9)) → Q (nI (yv (ydr (S 60 9)) n)) S') : k_Chance_draw E d S v Q := by
  subst hv
  refine w_Chance_draw (fun S1 e1 => ?_)
  rw [if_neg (nI_nle h0 (by omega))]
  refine ⟨nI_ne0 h0 (by omega), ?_⟩
  rw [← ydr_def] at e1
  have e9 : S1 60 9 = ydr (S 60 9) := by rw [e1, up_same, upd_same]
  rw [e9, r16_c, zr_nI (r16_lt _) h0 hn, ← yv_def]
  exact h S1 e1
/-- the fields of the chances -/
def YSt (S : St) (r : Int32 × Scn × Nat × Nat) : Prop := S 60 9 = r.1 ∧ S 60 0 = nI r.2.2.1 ∧ S 60 1 = nI r.2.2.2
theorem c_live {s : Int32} {n : Nat} {Q : St → Prop} (hd : 7 ≤ d) (hL : LC l S) (hA : ScC l (S 26) A) (hO : AOk l A) (hn : n ≤ 60) (h : ∀ S' : St, Fr [60, 62, 39, 40, 41, 42] S S' → S' 60 0 = nI (yrs l A s n).2.2.1 → S' 60 1 = nI (yrs l A s n).2.2.2 → S' 60 2 = smK (yrs l A s n).2.1 1 (lp l) → Q S') : k_Chance_live E d S s (nI n) Q := by
  have b10 := hL.ok.b10
  have p7 := hL.ok.p7
  have lc : ∀ S' : St, Fr [60, 62, 39, 40, 41, 42] S S' → LC l S' := fun S' f => LC_fr hL (fun k h1 h2 => f k (by simp only [List.mem_cons, List.not_mem_nil, or_false]; omega))
  refine w_Chance_live (by omega) (fun S1 e1 => ?_)
  have A1 : ScC l (S1 26) A := by
    rw [e1, up_ne _ _ _ (by decide)]
    exact hA
  refine c_copy (q := 61) (q' := 25) (by omega) hL.ok sc61 sc25 A1 (fun S3 f3 A3 S4 e4 S5 e5 => ?_)
  have F5 : Fr [60, 62, 39, 40, 41, 42] S S5 := by
    have g1 : Fr [60, 62, 39, 40, 41, 42] S S1 := by rw [e1]; exact Fr.up _ _ (by decide)
    have g3 : Fr [60, 62, 39, 40, 41, 42] S S3 := g1.trans (f3.mono (by decide))
    have g4 : Fr [60, 62, 39, 40, 41, 42] S S4 := g3.trans (by rw [e4]; exact Fr.up _ _ (by decide))
    exact g4.trans (by rw [e5]; exact Fr.up _ _ (by decide))
  have y5 : YSt S5 (yrs l A s 0) := by
    refine ⟨?_, ?_, ?_⟩
    · rw [e5, up_same, upd_ne _ _ (by decide), e4, up_same, upd_ne _ _ (by decide), f3 60 (by decide), e1, up_same, upd_same]
      rfl
    · rw [e5, up_same, upd_ne _ _ (by decide), e4, up_same, upd_same]
      rfl
    · rw [e5, up_same, upd_same]
      rfl
  have A5 : ScC l (S5 62) A := by
    rw [e5, up_ne _ _ _ (by decide), e4, up_ne _ _ _ (by decide)]
    exact A3
  refine dn (P := fun k => ∀ S' : St, Fr [60, 62, 39, 40, 41, 42] S S' → YSt S' (yrs l A s k) → ScC l (S' 62) (yrs l A s k).2.1 → k_Chance_live_28 E d S' (nI n) k Q) n ?_ ?_ 0 (Nat.zero_le _) S5 F5 y5 A5
  · intro S' f y A'
    refine w_Chance_live_28 (by omega) ?_
    rw [if_pos (Int32.le_refl _)]
    refine c_temperOfAll (by omega) (lc S' f) sc61 A' (fun S3 e3 => ?_)
    refine h S3 (f.trans (by rw [e3]; exact Fr.up _ _ (by decide))) ?_ ?_ ?_
    · rw [e3, up_same, upd_ne _ _ (by decide)]
      exact y.2.1
    · rw [e3, up_same, upd_ne _ _ (by decide)]
      exact y.2.2
    · rw [e3, up_same, upd_same]
  · intro k hk ih S' f y A'
    have ok := AOk_yrs hL.ok hO s k
    -- the day
    have l106 : ∀ S2 : St, Fr [60, 62, 39, 40, 41, 42] S S2 → ScC l (S2 62) (yhp l (yrs l A s k).1 (yrs l A s k).2.1).2.1 → S2 60 9 = (yhp l (yrs l A s k).1 (yrs l A s k).2.1).1 → S2 60 0 = nI ((yrs l A s k).2.2.1 + (yhp l (yrs l A s k).1 (yrs l A s k).2.1).2.2) → S2 60 1 = nI (yrs l A s k).2.2.2 → k_Chance_live_106 E d S2 (nI n) k Q := by
      intro S2 f2 A2 v9 v0 v1
      have o2 := AOk_yhp hL.ok ok (yrs l A s k).1
      generalize hC : (yhp l (yrs l A s k).1 (yrs l A s k).2.1).2.1 = C at A2 o2
      refine w_Chance_live_106 (by omega) (c_passDay (q := 61) (by omega) (lc S2 f2) sc61 A2 (o2.cell hL.ok) (fun S3 f3 A3 _ s2 s0 => ?_))
      have lt0 : (dayF l C).2.2.2 < 1024 := evv_lt (A := C) hL.ok 0 0
      have lt2 : (dayF l C).2.2.1 < 1024 := evv_lt (A := C) hL.ok 2 0
      rw [s0]
      refine c_bitCount lt0 (fun S4 e4 => ?_)
      have u39 : S4 39 2 = nI (dayF l C).2.2.1 := by
        rw [e4, up_ne _ _ _ (by decide)]
        exact s2
      rw [u39]
      refine c_bitCount lt2 (fun S5 e5 => ?_)
      have F3 : Fr [60, 62, 39, 40, 41, 42] S S3 := f2.trans (f3.mono (by decide))
      have F4 : Fr [60, 62, 39, 40, 41, 42] S S4 := F3.trans (by rw [e4]; exact Fr.up _ _ (by decide))
      have F5 : Fr [60, 62, 39, 40, 41, 42] S S5 := F4.trans (by rw [e5]; exact Fr.up _ _ (by decide))
      have f60 : S3 60 = S2 60 := f3 60 (by decide)
      refine ih S5 F5 ⟨?_, ?_, ?_⟩ ?_
      · rw [e5, up_same, upd_ne _ _ (by decide), e4, up_same, upd_ne _ _ (by decide), f60, v9]
        rfl
      · rw [e5, up_same, upd_ne _ _ (by decide), e4, up_same, upd_same, f60, v0, nI_add, ← hC]
        rfl
      · rw [e5, up_same, upd_same, e4, up_same, upd_ne _ _ (by decide), f60, v1, nI_add, ← hC]
        rfl
      · rw [e5, up_ne _ _ _ (by decide), e4, up_ne _ _ _ (by decide)]
        show ScC l (S3 62) (dayF l (yhp l (yrs l A s k).1 (yrs l A s k).2.1).2.1).1
        rw [hC]
        exact A3
    generalize hr : yrs l A s k = r at y A' ok l106
    refine w_Chance_live_28 (by omega) ?_
    rw [if_neg (nI_ge hk (by omega))]
    refine c_draw (n := 5) (by omega) (by omega) rfl (fun S2 e2 => ?_)
    rw [y.1] at e2 ⊢
    have F2 : Fr [60, 62, 39, 40, 41, 42] S S2 := f.trans (by rw [e2]; exact Fr.up _ _ (by decide))
    have A2 : ScC l (S2 62) r.2.1 := by
      rw [e2, up_ne _ _ _ (by decide)]
      exact A'
    have w9 : S2 60 9 = ydr r.1 := by rw [e2, up_same, upd_same]
    have w0 : S2 60 0 = nI r.2.2.1 := by
      rw [e2, up_same, upd_ne _ _ (by decide)]
      exact y.2.1
    have w1 : S2 60 1 = nI r.2.2.2 := by
      rw [e2, up_same, upd_ne _ _ (by decide)]
      exact y.2.2
    have v5 := yv_lt (s := ydr r.1) (n := 5) (by omega)
    have L2 := lc S2 F2
    have l62 : ¬ (yv (ydr r.1) 5 = 0 ∧ 0 < lb l) → k_Chance_live_62 E d S2 (nI n) k (nI (yv (ydr r.1) 5)) Q := fun hno => by
      refine w_Chance_live_62 (by omega) ?_
      have fin : ¬ (yv (ydr r.1) 5 = 1 ∧ 0 < lp l) → k_Chance_live_106 E d S2 (nI n) k Q := fun hno2 => by
        have e : yhp l r.1 r.2.1 = (ydr r.1, r.2.1, 0) := by
          unfold yhp
          rw [if_neg hno, if_neg hno2]
        rw [e] at l106
        exact l106 S2 F2 A2 w9 w0 w1
      refine ife (fun e => ?_) (fun e => ?_)
      · have e : nI (yv (ydr r.1) 5) = nI 1 := e
        rw [nI_eq (by omega) (by omega)] at e
        refine ife (fun g => ?_) (fun g => ?_)
        · rw [L2.p] at g
          have g : nI (lp l) ≤ nI 0 := g
          rw [nI_leI (by omega) (by omega)] at g
          exact fin (by omega)
        · rw [L2.p] at g
          have g : ¬ nI (lp l) ≤ nI 0 := g
          rw [nI_leI (by omega) (by omega)] at g
          have lpos : 0 < lp l := by omega
          refine c_draw lpos (by omega) L2.p (fun S3 e3 => ?_)
          rw [w9] at e3 ⊢
          have v9 : S3 60 9 = ydr (ydr r.1) := by rw [e3, up_same, upd_same]
          refine c_draw (n := 60) (by omega) (by omega) rfl (fun S4 e4 => ?_)
          rw [v9] at e4 ⊢
          have A4 : ScC l (S4 62) r.2.1 := by
            rw [e4, up_ne _ _ _ (by decide), e3, up_ne _ _ _ (by decide)]
            exact A2
          have v60 := yv_lt (s := ydr (ydr (ydr r.1))) (n := 60) (by omega)
          refine c_setTemper (q := 61) (by omega) hL.ok sc61 A4 (yv_lt lpos) (fun S5 f5 A5 => ?_)
          have em : m99 (nI (yv (ydr (ydr (ydr r.1))) 60)) = nI (yv (ydr (ydr (ydr r.1))) 60) := by
            unfold m99
            exact if_neg (show ¬ (99 : Int32) < nI _ from nI_nlt (a := 99) (by omega) (by omega))
          rw [em] at A5
          have ey : yhp l r.1 r.2.1 = (ydr (ydr (ydr r.1)), ua r.2.1 1 (yv (ydr (ydr r.1)) (lp l)) (nI (yv (ydr (ydr (ydr r.1))) 60)), 0) := by
            unfold yhp
            rw [if_neg hno, if_pos ⟨e, lpos⟩]
          rw [ey] at l106
          have F3 : Fr [60, 62, 39, 40, 41, 42] S S3 := F2.trans (by rw [e3]; exact Fr.up _ _ (by decide))
          have F4 : Fr [60, 62, 39, 40, 41, 42] S S4 := F3.trans (by rw [e4]; exact Fr.up _ _ (by decide))
          refine l106 S5 (F4.trans (f5.mono (by decide))) A5 ?_ ?_ ?_
          · rw [f5 60 (by decide), e4, up_same, upd_same]
          · rw [f5 60 (by decide), e4, up_same, upd_ne _ _ (by decide), e3, up_same, upd_ne _ _ (by decide)]
            exact w0
          · rw [f5 60 (by decide), e4, up_same, upd_ne _ _ (by decide), e3, up_same, upd_ne _ _ (by decide)]
            exact w1
      · have e : ¬ nI (yv (ydr r.1) 5) = nI 1 := e
        rw [nI_eq (by omega) (by omega)] at e
        exact fin (fun g => e g.1)
    refine ife (fun e => ?_) (fun e => ?_)
    · have e : nI (yv (ydr r.1) 5) = nI 0 := e
      rw [nI_eq (by omega) (by omega)] at e
      refine ife (fun g => ?_) (fun g => ?_)
      · rw [L2.b] at g
        have g : nI (lb l) ≤ nI 0 := g
        rw [nI_leI (by omega) (by omega)] at g
        exact l62 (by omega)
      · rw [L2.b] at g
        have g : ¬ nI (lb l) ≤ nI 0 := g
        rw [nI_leI (by omega) (by omega)] at g
        have lpos : 0 < lb l := by omega
        refine w_Chance_treadDrawn (by omega) (c_draw lpos (by omega) L2.b (fun S3 e3 => ?_))
        rw [w9] at e3 ⊢
        have vx := yv_lt (s := ydr (ydr r.1)) lpos
        generalize hx : yv (ydr (ydr r.1)) (lb l) = x at vx ⊢
        have A3 : ScC l (S3 62) r.2.1 := by
          rw [e3, up_ne _ _ _ (by decide)]
          exact A2
        have F3 : Fr [60, 62, 39, 40, 41, 42] S S3 := F2.trans (by rw [e3]; exact Fr.up _ _ (by decide))
        have v9 : S3 60 9 = ydr (ydr r.1) := by rw [e3, up_same, upd_same]
        have v0 : S3 60 0 = nI r.2.2.1 := by
          rw [e3, up_same, upd_ne _ _ (by decide)]
          exact w0
        have v1 : S3 60 1 = nI r.2.2.2 := by
          rw [e3, up_same, upd_ne _ _ (by decide)]
          exact w1
        refine c_isLoose (by omega) hL.ok sc61 A3 vx (izb (fun u => ?_) (fun u => ?_))
        · have ey : yhp l r.1 r.2.1 = (ydr (ydr r.1), goOff l r.2.1 (2 ^ x), cnt (clo l r.2.1 (freM l r.2.1) (2 ^ x)) 10) := by
            unfold yhp
            rw [if_pos ⟨e, lpos⟩, hx, if_pos u]
          rw [ey] at l106
          rw [show (1 : Int32) <<< (nI x &&& 31) = nI (2 ^ x) from bt_eq x (by omega)]
          have eb : bst l r.2.1 (2 ^ x) = (goOff l r.2.1 (2 ^ x), clo l r.2.1 (freM l r.2.1) (2 ^ x)) := if_neg (Nat.pos_iff_ne_zero.mp (Nat.pow_pos (by decide)))
          refine c_burst (q := 61) (by omega) (lc S3 F3) sc61 A3 (ok.cell hL.ok) (sub_p2 vx u.1) (fun S4 f4 A4 => ?_)
          rw [eb] at A4 ⊢
          refine c_bitCount (mkN_lt10 b10) (fun S5 e5 => ?_)
          refine l106 S5 ((F3.trans (f4.mono (by decide))).trans (by rw [e5]; exact Fr.up _ _ (by decide))) ?_ ?_ ?_ ?_
          · rw [e5, up_ne _ _ _ (by decide)]
            exact A4
          · rw [e5, up_same, upd_ne _ _ (by decide), f4 60 (by decide)]
            exact v9
          · rw [e5, up_same, upd_same, v0, nI_add]
          · rw [e5, up_same, upd_ne _ _ (by decide), f4 60 (by decide)]
            exact v1
        · have ey : yhp l r.1 r.2.1 = (ydr (ydr r.1), r.2.1, 0) := by
            unfold yhp
            rw [if_pos ⟨e, lpos⟩, hx, if_neg u]
          rw [ey] at l106
          exact l106 S3 F3 A3 v9 v0 v1
    · have e : ¬ nI (yv (ydr r.1) 5) = nI 0 := e
      rw [nI_eq (by omega) (by omega)] at e
      exact l62 (fun g => e g.1)
end YC
def cYears (b c : Int32) : Nat := cd3 false (ng 3 c) (ngD 0 b)
noncomputable def vYears (G : Gst) (a b c : Int32) : Int32 := if c = 0 then nI (yrs (gl G) (gA G) a (tN b)).2.2.1 else if c = 1 then nI (yrs (gl G) (gA G) a (tN b)).2.2.2 else smK (yrs (gl G) (gA G) a (tN b)).2.1 1 (lp (gl G))
section YX
variable {G : Gst} {S : St} {E : zX} {d : Nat} {Q : Int32 → St → Prop} {X : Nat → St → Prop}
theorem x_years {a b c : Int32} (hd : 20 ≤ d) (hG : GInv G) (hR : RelC G S) (hn : (S 1000 0).toNatClampNeg < 1000000) (h : cYears b c = 0 → ∀ S', QC S S' → Q (vYears G a b c) S') (hX : ∀ k, cYears b c = k + 1 → X k (upT S)) : k_x_years E d S a b c Q X := by
  refine w_x_years (by omega) (n_what (n := 2) (by omega) (by omega) hn (fun w hw ec => ?_) (fun e => hX 0 (by unfold cYears cd3; rw [e]; rfl)))
  subst ec
  have e1 := ng_f (n := 3) (x := w) (by omega) (by omega)
  refine n_days (lo := 0) (by omega) (by omega) hn (fun n _ hn6 eb => ?_) (fun e => hX 1 (by unfold cYears cd3; rw [e1, e]; rfl))
  subst eb
  have h := h (by unfold cYears cd3; rw [e1, ngD_f (Nat.zero_le _) hn6]; rfl)
  unfold vYears at h
  rw [tN_nI (by omega)] at h
  refine c_live (by omega) hR.lc hR.sc hG.aok hn6 (fun S' f v0 v1 v2 => ?_)
  have h := h S' (QC_fr f (fun k hk => by simp only [List.mem_cons, List.not_mem_nil, or_false] at hk; omega))
  rw [v0, v1, v2]
  refine ife (fun e => ?_) (fun e => ?_)
  · rw [if_pos e] at h
    exact h
  · rw [if_neg e] at h
    refine ife (fun e => ?_) (fun e => ?_)
    · rw [if_pos e] at h
      exact h
    · rw [if_neg e] at h
      exact h
end YX
/-! in the reference -/
def FY (S S' : St) : Prop := (∀ k, k ∉ [65, 77, 79, 80] → S' k = S k) ∧ (∀ i, i ∉ [45, 46, 47, 48, 57] → S' 65 i = S 65 i) ∧ ∀ i, i < 79 → S' 77 i = S 77 i
theorem FY.refl (S : St) : FY S S := ⟨fun _ _ => rfl, fun _ _ => rfl, fun _ _ => rfl⟩
theorem FY.trans {S S1 S2 : St} (h1 : FY S S1) (h2 : FY S1 S2) : FY S S2 := ⟨fun k hk => (h2.1 k hk).trans (h1.1 k hk), fun i hi => (h2.2.1 i hi).trans (h1.2.1 i hi), fun i hi => (h2.2.2 i hi).trans (h1.2.2 i hi)⟩
theorem FY_fm {S S' : St} (h : FM 79 S S') : FY S S' := ⟨h.1, fun i hi => h.2.1 i (fun hm => hi (by simp only [List.mem_cons, List.not_mem_nil, or_false] at hm ⊢; omega)), fun i hi => h.2.2 i (Or.inl hi)⟩
theorem FY_57 {S : St} (v : Int32) : FY S (up S 65 57 v) := ⟨fun k hk => up_ne _ _ _ (fun e => hk (by rw [e]; decide)), fun i hi => by rw [up_same, upd_ne _ _ (fun e => hi (by rw [e]; decide))], fun i _ => by rw [up_ne _ _ _ (by decide)]⟩
theorem FY_row {S : St} {j : Nat} (v : Int32) (h : 79 ≤ j) : FY S (up S 77 j v) := ⟨fun k hk => up_ne _ _ _ (fun e => hk (by rw [e]; decide)), fun i _ => by rw [up_ne _ _ _ (by decide)], fun i hi => by rw [up_same, upd_ne _ _ (by omega)]⟩
theorem QM_fy {S S' : St} (h : FY S S') : QM S S' := by
  refine ⟨fun k hk => h.1 k (fun hm => ?_), fun i hi => h.2.1 i (fun hm => hi ?_), h.2.2⟩
  · simp only [List.mem_cons, List.not_mem_nil, or_false] at hm hk
    omega
  · simp only [List.mem_cons, List.not_mem_nil, or_false] at hm ⊢
    omega
section YM
variable {l : Lnd} {S : St} {E : zX} {d : Nat} {A B : Scn}
theorem e_draw {n : Nat} {v : Int32} {Q : Int32 → St → Prop} (h0 : 0 < n) (hn : n < 1000) (hv : v = nI n) (h : ∀ S' : St, S' = up S 65 57 (ydr (S 65 57)) → Q (nI (yv (ydr (S 65 57)) n)) S') : k_m_draw E d S v Q := by
  subst hv
  refine w_m_draw (fun S1 e1 => ⟨nI_ne0 h0 (by omega), ?_⟩)
  rw [← ydr_def] at e1
  have e9 : S1 65 57 = ydr (S 65 57) := by rw [e1, up_same, upd_same]
  rw [e9, r16_m, zr_nI (r16_lt _) h0 hn, ← yv_def]
  exact h S1 e1
theorem e_happens {s : Int32} {Q : St → Prop} (hd : 6 ≤ d) (hL : LM l S) (hB : ScM l (S 77) 79 B) (hO : AOk l B) (h57 : S 65 57 = s) (h45 : S 65 45 = nI 0) (h46 : S 65 46 = 0) (h47 : S 65 47 = nI 0) (h48 : S 65 48 = nI 0) (h : ∀ S' : St, FY S S' → ScM l (S' 77) 79 (yhp l s B).2.1 → S' 65 57 = (yhp l s B).1 → (∃ e1, S' 65 45 = nI e1) → S' 65 46 = nI (yhp l s B).2.2 → S' 65 47 = nI 0 → S' 65 48 = nI 0 → Q S') : k_m_happens E d S Q := by
  have b10 := hL.ok.b10
  have p7 := hL.ok.p7
  have u57 : ∀ (S1 : St) (v : Int32) (i : Nat), i ≠ 57 → up S1 65 57 v 65 i = S1 65 i := fun S1 v i hi => by rw [up_same, upd_ne _ _ hi]
  refine w_m_happens (by omega) (e_draw (n := 5) (by omega) (by omega) rfl (fun S2 e2 => ?_))
  rw [h57] at e2 ⊢
  have F2 : FY S S2 := by rw [e2]; exact FY_57 _
  have L2 := LM_qm hL (QM_fy F2)
  have B2 : ScM l (S2 77) 79 B := by
    rw [e2, up_ne _ _ _ (by decide)]
    exact hB
  have w57 : S2 65 57 = ydr s := by rw [e2, up_same, upd_same]
  have ev : ∀ i, i ≠ 57 → S2 65 i = S 65 i := fun i hi => by rw [e2]; exact u57 S _ i hi
  have v5 := yv_lt (s := ydr s) (n := 5) (by omega)
  -- nothing more
  have l46 : ∀ S3 : St, (yv (ydr s) 5 = 1 → ¬ 0 < lp l → Q S3) → (¬ yv (ydr s) 5 = 1 → Q S3) → LM l S3 → (yv (ydr s) 5 = 1 → S3 = S2) → k_m_happens_46 E d S3 (nI (yv (ydr s) 5)) Q := by
    intro S3 ha hb L3 hc
    refine w_m_happens_46 (by omega) ?_
    refine ife (fun e => ?_) (fun e => ?_)
    · have e : nI (yv (ydr s) 5) = nI 1 := e
      rw [nI_eq (by omega) (by omega)] at e
      rw [L3.p]
      refine ife (fun g => ?_) (fun g => ?_)
      · have g : nI (lp l) ≤ nI 0 := g
        rw [nI_leI (by omega) (by omega)] at g
        exact ha e (by omega)
      · have g : ¬ nI (lp l) ≤ nI 0 := g
        rw [nI_leI (by omega) (by omega)] at g
        have lpos : 0 < lp l := by omega
        rw [hc e]
        refine e_draw lpos (by omega) rfl (fun S4 e4 => ?_)
        rw [w57] at e4 ⊢
        have v57 : S4 65 57 = ydr (ydr s) := by rw [e4, up_same, upd_same]
        refine e_draw (n := 60) (by omega) (by omega) rfl (fun S5 e5 => ?_)
        rw [v57] at e5 ⊢
        have vp := yv_lt (s := ydr (ydr s)) lpos
        refine ⟨80 + yv (ydr (ydr s)) (lp l), nI_add 80 _, by omega, fun S6 e6 => ?_⟩
        have ey : yhp l s B = (ydr (ydr (ydr s)), ua B 1 (yv (ydr (ydr s)) (lp l)) (nI (yv (ydr (ydr (ydr s))) 60)), 0) := by
          unfold yhp
          rw [if_neg (by omega), if_pos ⟨e, lpos⟩]
        rw [ey] at h
        have F4 : FY S S4 := F2.trans (by rw [e4]; exact FY_57 _)
        have F5 : FY S S5 := F4.trans (by rw [e5]; exact FY_57 _)
        have ev6 : ∀ i, i ≠ 57 → S6 65 i = S 65 i := fun i hi => by
          rw [e6, up_ne _ _ _ (by decide), e5, u57 _ _ _ hi, e4, u57 _ _ _ hi]
          exact ev i hi
        refine h S6 (F5.trans (by rw [e6]; exact FY_row _ (by omega))) ?_ ?_ ⟨0, ?_⟩ ?_ ?_ ?_
        · rw [e6, show 80 + yv (ydr (ydr s)) (lp l) = 79 + offM 1 + yv (ydr (ydr s)) (lp l) from rfl]
          refine ScM_set (k := 1) hL.ok ?_ (by decide) vp
          rw [e5, up_ne _ _ _ (by decide), e4, up_ne _ _ _ (by decide)]
          exact B2
        · rw [e6, up_ne _ _ _ (by decide), e5, up_same, upd_same]
        · rw [ev6 45 (by decide)]
          exact h45
        · rw [ev6 46 (by decide)]
          exact h46
        · rw [ev6 47 (by decide)]
          exact h47
        · rw [ev6 48 (by decide)]
          exact h48
    · have e : ¬ nI (yv (ydr s) 5) = nI 1 := e
      rw [nI_eq (by omega) (by omega)] at e
      exact hb e
  have plain : ¬ (yv (ydr s) 5 = 0 ∧ 0 < lb l) → ¬ (yv (ydr s) 5 = 1 ∧ 0 < lp l) → Q S2 := fun n1 n2 => by
    have ey : yhp l s B = (ydr s, B, 0) := by
      unfold yhp
      rw [if_neg n1, if_neg n2]
    rw [ey] at h
    exact h S2 F2 B2 w57 ⟨0, by rw [ev 45 (by decide)]; exact h45⟩ (by rw [ev 46 (by decide)]; exact h46) (by rw [ev 47 (by decide)]; exact h47) (by rw [ev 48 (by decide)]; exact h48)
  refine ife (fun e => ?_) (fun e => ?_)
  · have e : nI (yv (ydr s) 5) = nI 0 := e
    rw [nI_eq (by omega) (by omega)] at e
    rw [L2.b]
    refine ife (fun g => ?_) (fun g => ?_)
    · have g : nI (lb l) ≤ nI 0 := g
      rw [nI_leI (by omega) (by omega)] at g
      exact l46 S2 (fun g1 => by omega) (fun _ => plain (by omega) (by omega)) L2 (fun _ => rfl)
    · have g : ¬ nI (lb l) ≤ nI 0 := g
      rw [nI_leI (by omega) (by omega)] at g
      have lpos : 0 < lb l := by omega
      refine e_draw lpos (by omega) rfl (fun S4 e4 => ?_)
      rw [w57] at e4 ⊢
      have vx := yv_lt (s := ydr (ydr s)) lpos
      generalize hx : yv (ydr (ydr s)) (lb l) = x at vx ⊢
      have F4 : FY S S4 := F2.trans (by rw [e4]; exact FY_57 _)
      have L4 := LM_qm hL (QM_fy F4)
      have B4 : ScM l (S4 77) 79 B := by
        rw [e4, up_ne _ _ _ (by decide)]
        exact B2
      have v57 : S4 65 57 = ydr (ydr s) := by rw [e4, up_same, upd_same]
      have ev4 : ∀ i, i ≠ 57 → S4 65 i = S 65 i := fun i hi => by
        rw [e4, u57 _ _ _ hi]
        exact ev i hi
      refine e_mayTread (o := 79) (by omega) hL.ok (by omega) B4 hO.grd vx (izb (fun u => ?_) (fun u => ?_))
      · have ey : yhp l s B = (ydr (ydr s), goOff l B (2 ^ x), cnt (clo l B (freM l B) (2 ^ x)) 10) := by
          unfold yhp
          rw [if_pos ⟨e, lpos⟩, hx, if_pos u]
        rw [ey] at h
        rw [show (1 : Int32) <<< (nI x &&& 31) = nI (2 ^ x) from bt_eq x (by omega)]
        refine e_goOff (o := 79) (by omega) L4 (by omega) B4 (hO.cell hL.ok) hO.grd (Nat.pow_lt_pow_right (by decide) vx) (fun S5 f5 A5 k5 k45 k46 _ => ?_)
        refine l46 S5 (fun g1 => by omega) (fun _ => ?_) (LM_qm hL (QM_fy (F4.trans (FY_fm f5)))) (fun g1 => by omega)
        refine h S5 (F4.trans (FY_fm f5)) A5 ?_ ⟨0 ||| clo l B (freM l B) (2 ^ x), ?_⟩ ?_ ?_ ?_
        · rw [f5.2.1 57 (by decide)]
          exact v57
        · rw [k45, ev4 45 (by decide), h45, nI_or]
        · rw [k46, ev4 46 (by decide), h46, Int32.zero_add]
        · rw [k5 47 (by decide), ev4 47 (by decide)]
          exact h47
        · rw [k5 48 (by decide), ev4 48 (by decide)]
          exact h48
      · have ey : yhp l s B = (ydr (ydr s), B, 0) := by
          unfold yhp
          rw [if_pos ⟨e, lpos⟩, hx, if_neg u]
        rw [ey] at h
        refine l46 S4 (fun g1 => by omega) (fun _ => ?_) L4 (fun g1 => by omega)
        exact h S4 F4 B4 v57 ⟨0, by rw [ev4 45 (by decide)]; exact h45⟩ (by rw [ev4 46 (by decide)]; exact h46) (by rw [ev4 47 (by decide)]; exact h47) (by rw [ev4 48 (by decide)]; exact h48)
  · have e : ¬ nI (yv (ydr s) 5) = nI 0 := e
    rw [nI_eq (by omega) (by omega)] at e
    exact l46 S2 (fun g1 g2 => plain (by omega) (by omega)) (fun g1 => plain (by omega) (by omega)) L2 (fun _ => rfl)
end YM
section YN
variable {G : Gst} {S : St} {E : zX} {d : Nat} {Q : Int32 → St → Prop}
theorem m_years {a b c : Int32} (hd : 20 ≤ d) (hG : GInv G) (hR : RelM G S) (h : ∀ S' v, QM S S' → S' 65 0 = nI (cYears b c) → (cYears b c = 0 → v = vYears G a b c) → Q v S') : k_m_years E d S a b c Q := by
  have p7 := hG.1.p7
  refine w_m_years (by omega) (fun S1 e1 => ?_)
  have q1 : QM S S1 := by
    rw [e1]
    exact QM_up _ (by decide)
  have t1 : S1 65 0 = 0 := by rw [e1, up_same, upd_same]
  have L1 := LM_qm hR.lm q1
  have A1 : ScM (gl G) (S1 77) 0 (gA G) := ScM_lo hG.1 hR.sc (fun i hi => q1.2.2 i hi)
  refine e_isWhat (n := 2) (by omega) (by omega) t1 (fun w hw ec => ?_) (fun e => ?_)
  · subst ec
    have g1 := ng_f (n := 3) (x := w) (by omega) (by omega)
    rw [if_neg (by decide)]
    refine e_isSoon (lo := 0) (by omega) (by omega) t1 (fun n _ hn6 eb => ?_) (fun e => ?_)
    · subst eb
      rw [if_neg (by decide)]
      have hc : cYears (nI n) (nI w) = 0 := by unfold cYears cd3; rw [g1, ngD_f (Nat.zero_le _) hn6]; rfl
      rw [hc] at h
      have h : ∀ S' v, FY S1 S' → v = vYears G a (nI n) (nI w) → Q v S' := fun S' v f hv => h S' v (q1.trans (QM_fy f)) (by rw [f.2.1 0 (by decide), t1]; rfl) (fun _ => hv)
      unfold vYears at h
      rw [tN_nI (by omega)] at h
      refine e_tries hG.1 A1 (fun S2 f2 A2 _ S3 e3 => ?_)
      have F3 : FY S1 S3 := (FY_fm f2).trans (by rw [e3]; exact FY_57 _)
      have A3 : ScM (gl G) (S3 77) 79 (gA G) := by
        rw [e3, up_ne _ _ _ (by decide)]
        exact A2
      refine dn (P := fun k => ∀ S' : St, FY S1 S' → ScM (gl G) (S' 77) 79 (yrs (gl G) (gA G) a k).2.1 → S' 65 57 = (yrs (gl G) (gA G) a k).1 → k_m_years_41 E d S' (nI n) (nI w) (nI (yrs (gl G) (gA G) a k).2.2.1) k Q) n ?_ ?_ 0 (Nat.zero_le _) S3 F3 A3 (by rw [e3, up_same, upd_same]; rfl)
      · intro S' f A' _
        have L' := LM_qm L1 (QM_fy f)
        refine w_m_years_41 (by omega) ?_
        rw [if_pos (Int32.le_refl _)]
        refine ife (fun e => ?_) (fun e => ?_)
        · rw [if_pos e] at h
          exact h S' _ f rfl
        · rw [if_neg e] at h
          refine ife (fun e => ?_) (fun e => ?_)
          · rw [if_pos e] at h
            refine e_sumOf (o := 79) (k := 2) (n := lp (gl G)) (by omega) A' hG.1 (by decide) (Nat.le_refl _) L'.p ?_
            have A0 : ScM (gl G) (S' 77) 0 (gA G) := ScM_lo hG.1 A1 (fun i hi => f.2.2 i hi)
            refine e_sumOf (o := 0) (k := 2) (n := lp (gl G)) (by omega) A0 hG.1 (by decide) (Nat.le_refl _) L'.p ?_
            refine h S' _ f ?_
            rw [yrs_sh hG.1, Int32.add_comm, Int32.add_sub_cancel]
          · rw [if_neg e] at h
            exact e_sumOf (o := 79) (k := 1) (n := lp (gl G)) (by omega) A' hG.1 (by decide) (Nat.le_refl _) L'.p (h S' _ f rfl)
      · intro k hk ih S' f A' v57
        have ok := AOk_yrs hG.1 hG.aok a k
        have o2 := AOk_yhp hG.1 ok (yrs (gl G) (gA G) a k).1
        refine w_m_years_41 (by omega) ?_
        rw [if_neg (nI_ge hk (by omega))]
        refine e_begins0 (o := 79) (fun S4 f4 e77 z45 z46 z47 z48 => ?_)
        have F4 : FY S1 S4 := f.trans (FY_fm f4)
        have A4 : ScM (gl G) (S4 77) 79 (yrs (gl G) (gA G) a k).2.1 := by
          rw [e77]
          exact A'
        refine e_happens (s := (yrs (gl G) (gA G) a k).1) (by omega) (LM_qm L1 (QM_fy F4)) A4 ok (by rw [f4.2.1 57 (by decide)]; exact v57) z45 z46 z47 z48 (fun S5 f5 A5 y57 y45 y46 y47 y48 => ?_)
        obtain ⟨ee, y45⟩ := y45
        have F5 : FY S1 S5 := F4.trans f5
        refine e_dayGoes (o := 79) (by omega) (LM_qm L1 (QM_fy F5)) (by omega) A5 (o2.cell hG.1) o2.grd y45 y46 y47 y48 (fun S6 f6 A6 _ x46 _ _ => ?_)
        rw [x46, nI_add, nI_add, ← Nat.add_assoc]
        exact ih S6 (F5.trans (FY_fm f6)) A6 (by rw [f6.2.1 57 (by decide)]; exact y57)
    · rw [if_pos rfl]
      have hc : cYears b (nI w) = 2 := by unfold cYears cd3; rw [g1, show ngD 0 b = true from decide_eq_true e]; rfl
      refine h _ _ (q1.trans (QM_up _ (by decide))) (by rw [up_same, upd_same, hc]; rfl) (fun h0 => by rw [hc] at h0; cases h0)
  · rw [if_pos rfl]
    have hc : cYears b c = 1 := by unfold cYears cd3; rw [show ng 3 c = true from decide_eq_true e]; rfl
    refine h _ _ (q1.trans (QM_up _ (by decide))) (by rw [up_same, upd_same, hc]; rfl) (fun h0 => by rw [hc] at h0; cases h0)
end YN
