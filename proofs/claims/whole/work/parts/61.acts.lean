/-! ACTS: kept, taken back; refusals -/
def keepB (b : Bok) : Bok := (b.1, (if b.2.1.1 = 40 then (40, fun j => if j = 39 then b.1 else b.2.1.2 (j + 1)) else (b.2.1.1 + 1, fun j => if j = b.2.1.1 then b.1 else b.2.1.2 j)), b.2.2)
def undoB (b : Bok) : Bok := (b.2.1.2 (b.2.1.1 - 1), (b.2.1.1 - 1, b.2.1.2), b.2.2)
/-- another scene, another book, a refusal more -/
def sA (b : Bok) (A : Scn) : Bok := (A, b.2)
def wB (G : Gst) (b : Bok) : Gst := (G.1, b, G.2.2)
def wR (G : Gst) (k : Nat) : Gst := (G.1, G.2.1, G.2.2.1, G.2.2.2.1, G.2.2.2.2.1, upd (gr G) k (gr G k + 1))
/-- what a call does in the class, in the reference -/
def CE (G' : Gst) (S S' : St) : Prop := RelC G' S' ∧ ∀ k, 65 ≤ k → S' k = S k
def ME (G' : Gst) (S S' : St) : Prop := RelM G' S' ∧ ∀ k, k < 65 ∨ 91 ≤ k → S' k = S k
theorem CE_qc {G : Gst} {S S' : St} (h : RelC G S) (f : QC S S') : CE G S S' := ⟨RelC_qc h f, fun k hk => f k (by omega)⟩
theorem ME_qm {G : Gst} {S S' : St} (h : RelM G S) (f : QM S S') : ME G S S' := ⟨RelM_qm h f, fun k hk => f.1 k (by omega)⟩
theorem RelC_b {G : Gst} {S S' : St} {b : Bok} (h : RelC G S) (e : ∀ k, k < 12 ∨ (31 ≤ k ∧ k ≤ 37) → S' k = S k) (hb : BkC (gl G) S' 24 b) : RelC (wB G b) S' := by
  obtain ⟨h1, h2, h3, h4, h5, h6, h7, h8⟩ := h
  refine ⟨LC_fr h1 (fun k _ h2 => e k (by omega)), hb, ?_, fun b hb => BkC_of (h4 b hb) (fun k _ _ => e k (by omega)), ?_, ?_, ?_, ?_⟩
  · rw [e 0 (by omega)]
    exact h3
  · rw [e 0 (by omega)]
    exact h5
  · rw [e 1 (by omega)]
    exact h6
  · rw [e 0 (by omega)]
    exact h7
  · rw [e 2 (by omega)]
    exact h8
theorem RelM_b {G : Gst} {S S' : St} {b : Bok} (h : RelM G S) (h1 : ∀ i, i ∉ [0, 42, 45, 46, 47, 48, 53, 57] → S' 65 i = S 65 i) (h2 : ∀ k, k ∈ [66, 67, 68, 69, 70, 88, 89, 90] → S' k = S k) (hb : BkM (gl G) (S' 77) (S' 78) (S' 85) (S' 65 42) (S' 65 53) b) : RelM (wB G b) S' := by
  obtain ⟨g1, g2, g3, g4, g5, g6, g7, g8⟩ := h
  refine ⟨LM_of g1 (fun i a b => h1 i (by simp only [List.mem_cons, List.not_mem_nil, or_false]; omega)) (h2 66 (by decide)) (h2 67 (by decide)) (h2 68 (by decide)), hb, ?_, ?_, ?_, ?_, ?_, ?_⟩
  · rw [h1 58 (by decide)]
    exact g3
  · intro b hb
    rw [h2 88 (by decide), h2 89 (by decide), h2 90 (by decide), h1 59 (by decide), h1 60 (by decide)]
    exact g4 b hb
  · rw [h1 11 (by decide)]
    exact g5
  · rw [h2 69 (by decide)]
    exact g6
  · rw [h1 13 (by decide)]
    exact g7
  · rw [h2 70 (by decide)]
    exact g8
theorem ScM_cp {l : Lnd} {f g : Nat → Int32} {o o' : Nat} {A : Scn} (hl : LOk l) (h : ScM l f o A) (e : ∀ i, i < 79 → g (o' + i) = f (o + i)) : ScM l g o' A := by
  intro k i hk hi
  have h1 := rng_cap hl k
  have h2 := cap_10 k
  have h3 := offM_79 k hk i (by omega) (by omega)
  rw [Nat.add_assoc, e _ h3, ← Nat.add_assoc]
  exact h k i hk hi
section AC
variable {l : Lnd} {S : St} {E : zX} {d : Nat} {b : Bok}
theorem cpy_in {f g : Nat → Int32} {sp dp n k : Nat} (h1 : dp ≤ k) (h2 : k < dp + n) : va_cpy f g sp dp n k = f (sp + (k - dp)) := if_pos ⟨h1, h2⟩
theorem cpy_out {f g : Nat → Int32} {sp dp n k : Nat} (h : k < dp ∨ dp + n ≤ k) : va_cpy f g sp dp n k = g k := if_neg (fun h2 => by omega)
theorem c_keepAct {Q : St → Prop} (hd : 1 ≤ d) (hl : LOk l) (hb : BkC l S 24 b) (h40 : b.2.1.1 ≤ 40) (h : ∀ S', Fr [24, 27] S S' → BkC l S' 24 (keepB b) → Q S') : k_Book_keepAct E d S Q := by
  obtain ⟨b1, b2, b3, b4, b5⟩ := hb
  obtain ⟨A, ⟨n, ac⟩, ns, sg⟩ := b
  have b1 : ScC l (S 26) A := b1
  have b2 : S 24 1 = nI n := b2
  have b3 : ∀ j, j < n → ScC l (fun i => S 27 (70 * j + i)) (ac j) := b3
  have b4 : S 24 3 = nI ns := b4
  have b5 : ∀ j, j < ns → S 28 j = nI (sg j).1 ∧ S 29 j = nI (sg j).2.1 ∧ S 30 j = nI (sg j).2.2 := b5
  have h40 : n ≤ 40 := h40
  -- the last step, m acts being kept
  have last : ∀ S2 m, m ≤ 39 → Fr [24, 27] S S2 → S2 24 1 = nI m → S2 24 3 = nI ns → (∀ S', Fr [24, 27] S S' → S' 24 1 = nI (m + 1) → S' 24 3 = nI ns → (∀ i, i < 70 * m → S' 27 i = S2 27 i) → (∀ i, i < 70 → S' 27 (70 * m + i) = S 26 i) → Q S') → k_Book_keepAct_36 E d S2 Q := by
    intro S2 m hm f2 e1 e3 hq
    refine w_Book_keepAct_36 hd ⟨m * 70, by rw [e1]; exact pk_mul m 70, by omega, by omega, fun S3 e3' S4 e4 => ?_⟩
    have f3 : Fr [24, 27] S S3 := by
      rw [e3']
      exact f2.trans (Fr.set _ (by decide))
    have x24 : S3 24 = S2 24 := by rw [e3', setR_ne _ _ (by decide)]
    refine hq S4 ?_ ?_ ?_ ?_ ?_
    · rw [e4]
      exact f3.trans (Fr.up _ _ (by decide))
    · rw [e4, up_same, upd_same, x24, e1, nI_1]
    · rw [e4, up_same, upd_ne _ _ (by decide), x24, e3]
    · intro i hi
      rw [e4, up_ne _ _ _ (by decide), e3', setR_same, cpy_out (by omega)]
    · intro i hi
      rw [e4, up_ne _ _ _ (by decide), e3', setR_same, cpy_in (by omega) (by omega), f2 26 (by decide)]
      congr 1
      omega
  refine w_Book_keepAct hd ?_
  rw [b2]
  by_cases hn : n = 40
  · subst hn
    rw [if_neg (by decide)]
    refine fun S1 e1 => ⟨2730, ?_, by omega, by omega, fun S2 e2 => ?_⟩
    · rw [e1, up_same, upd_same]
      exact pk_mul 39 70
    have f1 : Fr [24, 27] S S1 := by
      rw [e1]
      exact Fr.up _ _ (by decide)
    refine last S2 39 (by omega) ?_ ?_ ?_ (fun S' f' g1 g3 lo hi => h S' f' ?_)
    · rw [e2]
      exact f1.trans (Fr.set _ (by decide))
    · rw [e2, setR_ne _ _ (by decide), e1, up_same, upd_same]
      rfl
    · rw [e2, setR_ne _ _ (by decide), e1, up_same, upd_ne _ _ (by decide), b4]
    · refine ⟨?_, g1, fun j hj => ?_, g3, fun j hj => ?_⟩
      · show ScC l (S' 26) A
        rw [f' 26 (by decide)]
        exact b1
      · have hj : j < 40 := hj
        show ScC l (fun i => S' 27 (70 * j + i)) (if j = 39 then A else ac (j + 1))
        by_cases e : j = 39
        · rw [if_pos e, e]
          exact ScC_cp hl b1 (fun i hi' => hi i hi')
        · rw [if_neg e]
          refine ScC_cp hl (b3 (j + 1) (by omega)) (fun i hi' => ?_)
          show S' 27 (70 * j + i) = S 27 (70 * (j + 1) + i)
          rw [lo _ (by omega), e2, setR_same, cpy_in (by omega) (by omega), e1, up_ne _ _ _ (by decide)]
          congr 1
          omega
      · show S' 28 j = _ ∧ S' 29 j = _ ∧ S' 30 j = _
        rw [f' 28 (by decide), f' 29 (by decide), f' 30 (by decide)]
        exact b5 j hj
  · rw [if_pos (show nI n < (40 : Int32) from nI_lt (b := 40) (by omega) (by omega))]
    refine last S n (by omega) (Fr.refl _ _) b2 b4 (fun S' f' g1 g3 lo hi => h S' f' ?_)
    have ek : keepB (A, (n, ac), ns, sg) = (A, (n + 1, fun j => if j = n then A else ac j), ns, sg) := by
      unfold keepB
      rw [if_neg hn]
    rw [ek]
    refine ⟨?_, g1, fun j hj => ?_, g3, fun j hj => ?_⟩
    · show ScC l (S' 26) A
      rw [f' 26 (by decide)]
      exact b1
    · have hj : j < n + 1 := hj
      show ScC l (fun i => S' 27 (70 * j + i)) (if j = n then A else ac j)
      by_cases e : j = n
      · rw [if_pos e, e]
        exact ScC_cp hl b1 (fun i hi' => hi i hi')
      · rw [if_neg e]
        refine ScC_cp hl (b3 j (by omega)) (fun i hi' => ?_)
        exact lo _ (by omega)
    · show S' 28 j = _ ∧ S' 29 j = _ ∧ S' 30 j = _
      rw [f' 28 (by decide), f' 29 (by decide), f' 30 (by decide)]
      exact b5 j hj
theorem c_takeBack {Q : St → Prop} (hd : 1 ≤ d) (hl : LOk l) (hb : BkC l S 24 b) (h40 : b.2.1.1 ≤ 40) (h0 : 0 < b.2.1.1) (h : ∀ S', Fr [24, 26] S S' → BkC l S' 24 (undoB b) → Q S') : k_Book_takeBackAct E d S Q := by
  obtain ⟨b1, b2, b3, b4, b5⟩ := hb
  obtain ⟨A, ⟨n, ac⟩, ns, sg⟩ := b
  have b2 : S 24 1 = nI n := b2
  have b3 : ∀ j, j < n → ScC l (fun i => S 27 (70 * j + i)) (ac j) := b3
  have b4 : S 24 3 = nI ns := b4
  have b5 : ∀ j, j < ns → S 28 j = nI (sg j).1 ∧ S 29 j = nI (sg j).2.1 ∧ S 30 j = nI (sg j).2.2 := b5
  have h40 : n ≤ 40 := h40
  have h0 : 0 < n := h0
  refine w_Book_takeBackAct hd ?_
  rw [b2, if_neg (nI_nle h0 (by omega))]
  intro S1 e1
  have e11 : S1 24 1 = nI (n - 1) := by
    rw [e1, up_same, upd_same]
    exact pk_sub (a := n) (b := 1) (by omega)
  refine ⟨(n - 1) * 70, by rw [e11]; exact pk_mul (n - 1) 70, by omega, by omega, fun S2 e2 => h S2 ?_ ?_⟩
  · rw [e2, e1]
    exact (Fr.up _ _ (by decide)).trans (Fr.set _ (by decide))
  · have x27 : S2 27 = S 27 := by rw [e2, setR_ne _ _ (by decide), e1, up_ne _ _ _ (by decide)]
    refine ⟨?_, ?_, fun j hj => ?_, ?_, fun j hj => ?_⟩
    · show ScC l (S2 26) (ac (n - 1))
      refine ScC_cp hl (b3 (n - 1) (by omega)) (fun i hi => ?_)
      show S2 26 i = S 27 (70 * (n - 1) + i)
      rw [e2, setR_same, cpy_in (by omega) (by omega), e1, up_ne _ _ _ (by decide)]
      congr 1
      omega
    · show S2 24 1 = nI (n - 1)
      rw [e2, setR_ne _ _ (by decide)]
      exact e11
    · have hj : j < n - 1 := hj
      show ScC l (fun i => S2 27 (70 * j + i)) (ac j)
      rw [x27]
      exact b3 j (by omega)
    · show S2 24 3 = nI ns
      rw [e2, setR_ne _ _ (by decide), e1, up_same, upd_ne _ _ (by decide), b4]
    · show S2 28 j = _ ∧ S2 29 j = _ ∧ S2 30 j = _
      rw [e2, setR_ne _ _ (by decide), setR_ne _ _ (by decide), setR_ne _ _ (by decide), e1, up_ne _ _ _ (by decide), up_ne _ _ _ (by decide), up_ne _ _ _ (by decide)]
      exact b5 j hj
/-- in the reference -/
theorem e_keeps {Q : St → Prop} (hl : LOk l) (hb : BkM l (S 77) (S 78) (S 85) (S 65 42) (S 65 53) b) (h40 : b.2.1.1 ≤ 40) (h : ∀ S', Fr [65, 78] S S' → (∀ i, i ≠ 42 → S' 65 i = S 65 i) → BkM l (S' 77) (S' 78) (S' 85) (S' 65 42) (S' 65 53) (keepB b) → Q S') : k_m_keeps E d S Q := by
  obtain ⟨b1, b2, b3, b4, b5⟩ := hb
  obtain ⟨A, ⟨n, ac⟩, ns, sg⟩ := b
  have b1 : ScM l (S 77) 0 A := b1
  have b2 : S 65 42 = nI n := b2
  have b3 : ∀ j, j < n → ScM l (S 78) (79 * j) (ac j) := b3
  have b4 : S 65 53 = nI ns := b4
  have b5 : ∀ j, j < ns → S 85 (3 * j) = nI (sg j).1 ∧ S 85 (3 * j + 1) = nI (sg j).2.1 ∧ S 85 (3 * j + 2) = nI (sg j).2.2 := b5
  have h40 : n ≤ 40 := h40
  have last : ∀ S2 m, m ≤ 39 → Fr [65, 78] S S2 → (∀ i, i ≠ 42 → S2 65 i = S 65 i) → S2 65 42 = nI m → (∀ S', Fr [65, 78] S S' → (∀ i, i ≠ 42 → S' 65 i = S 65 i) → S' 65 42 = nI (m + 1) → (∀ i, i < 79 * m → S' 78 i = S2 78 i) → (∀ i, i < 79 → S' 78 (79 * m + i) = S 77 i) → Q S') → k_m_keeps_52 E d S2 0 Q := by
    intro S2 m hm f2 r2 e2 hq
    refine dn (P := fun k => ∀ S', Fr [65, 78] S S' → (∀ i, i ≠ 42 → S' 65 i = S 65 i) → S' 65 42 = nI m → (∀ i, i < 79 * m → S' 78 i = S2 78 i) → (∀ i, i < k → S' 78 (79 * m + i) = S 77 i) → k_m_keeps_52 E d S' k Q) 79 ?_ ?_ 0 (Nat.zero_le _) S2 f2 r2 e2 (fun _ _ => rfl) (fun i hi => absurd hi (Nat.not_lt_zero i))
    · intro S3 f3 r3 e3 lo hi
      refine w_m_keeps_52 (ilp 79 rfl (by omega) (by omega) (fun _ => ?_) (fun h => absurd h (Nat.lt_irrefl _)))
      intro S4 e4
      refine hq S4 ?_ (fun i hi => ?_) ?_ (fun i hi => ?_) (fun i hi' => ?_)
      · rw [e4]
        exact f3.trans (Fr.up _ _ (by decide))
      · rw [e4, up_same, upd_ne _ _ hi, r3 i hi]
      · rw [e4, up_same, upd_same, e3, nI_1]
      · rw [e4, up_ne _ _ _ (by decide), lo i hi]
      · rw [e4, up_ne _ _ _ (by decide), hi i hi']
    · intro k hk ih S3 f3 r3 e3 lo hi
      refine w_m_keeps_52 (ilp 79 rfl (by omega) (by omega) (fun h => by omega) (fun _ => ⟨by omega, 79 * m + k, ?_, by omega, fun S4 e4 => ?_⟩))
      · rw [e3, show (79 : Int32) * nI m = nI (79 * m) from pk_mul 79 m, nI_add]
      · refine ih S4 ?_ (fun i hi => ?_) ?_ (fun i hi => ?_) (fun i hi' => ?_)
        · rw [e4]
          exact f3.trans (Fr.up _ _ (by decide))
        · rw [e4, up_ne _ _ _ (by decide), r3 i hi]
        · rw [e4, up_ne _ _ _ (by decide), e3]
        · rw [e4, up_same, upd_ne _ _ (by omega), lo i hi]
        · rw [e4, up_same]
          by_cases e : i = k
          · rw [e, upd_same, f3 77 (by decide)]
          · rw [upd_ne _ _ (by omega), hi i (by omega)]
  refine w_m_keeps ?_
  rw [b2]
  by_cases hn : n = 40
  · subst hn
    rw [if_pos (show nI 40 = (40 : Int32) from rfl)]
    have sh : ∀ k, k ≤ 3081 → ∀ S', Fr [78] S S' → (∀ i, i < k → S' 78 i = S 78 (i + 79)) → (∀ i, k ≤ i → S' 78 i = S 78 i) → k_m_keeps_12 E d S' (79 + k) Q := by
      refine dn 3081 ?_ ?_
      · intro S3 f3 lo hi
        refine w_m_keeps_12 (ilp 3160 rfl (by omega) (by omega) (fun _ => ?_) (fun h => by omega))
        intro S4 e4
        have x65 : S3 65 = S 65 := f3 65 (by decide)
        refine last S4 39 (by omega) ?_ (fun i hi => ?_) ?_ (fun S' f' r' g1 lo2 hi2 => h S' f' r' ?_)
        · rw [e4]
          exact (f3.mono (fun k hk => by simp only [List.mem_cons, List.not_mem_nil, or_false] at hk ⊢; omega)).trans (Fr.up _ _ (by decide))
        · rw [e4, up_same, upd_ne _ _ hi, x65]
        · rw [e4, up_same, upd_same, x65, b2]
          rfl
        · refine ⟨?_, g1, fun j hj => ?_, ?_, fun j hj => ?_⟩
          · show ScM l (S' 77) 0 A
            rw [f' 77 (by decide)]
            exact b1
          · have hj : j < 40 := hj
            show ScM l (S' 78) (79 * j) (if j = 39 then A else ac (j + 1))
            by_cases e : j = 39
            · rw [if_pos e, e]
              refine ScM_cp hl b1 (fun i hi' => ?_)
              rw [hi2 i hi', Nat.zero_add]
            · rw [if_neg e]
              refine ScM_cp hl (b3 (j + 1) (by omega)) (fun i hi' => ?_)
              rw [lo2 _ (by omega), e4, up_ne _ _ _ (by decide), lo _ (by omega)]
              congr 1
              omega
          · show S' 65 53 = nI ns
            rw [r' 53 (by decide), b4]
          · show S' 85 (3 * j) = _ ∧ S' 85 (3 * j + 1) = _ ∧ S' 85 (3 * j + 2) = _
            rw [f' 85 (by decide)]
            exact b5 j hj
      · intro k hk ih S3 f3 lo hi
        refine w_m_keeps_12 (ilp 3160 rfl (by omega) (by omega) (fun h => by omega) (fun _ => ⟨by omega, k, ?_, by omega, fun S4 e4 => ?_⟩))
        · rw [show nI (79 + k) - (79 : Int32) = nI (79 + k - 79) from pk_sub (a := 79 + k) (b := 79) (by omega)]
          congr 1
          omega
        · refine ih S4 ?_ (fun i hi' => ?_) (fun i hi' => ?_)
          · rw [e4]
            exact f3.trans (Fr.up _ _ (by decide))
          · rw [e4, up_same]
            by_cases e : i = k
            · rw [e, upd_same, hi _ (by omega)]
              congr 1
              omega
            · rw [upd_ne _ _ e, lo i (by omega)]
          · rw [e4, up_same, upd_ne _ _ (by omega), hi i (by omega)]
    exact sh 0 (by omega) S (Fr.refl _ _) (fun i hi => absurd hi (Nat.not_lt_zero i)) (fun _ _ => rfl)
  · rw [if_neg (show ¬ nI n = (40 : Int32) from fun e => hn ((nI_eq (b := 40) (by omega) (by omega)).mp e))]
    refine last S n (by omega) (Fr.refl _ _) (fun _ _ => rfl) b2 (fun S' f' r' g1 lo hi => h S' f' r' ?_)
    have ek : keepB (A, (n, ac), ns, sg) = (A, (n + 1, fun j => if j = n then A else ac j), ns, sg) := by
      unfold keepB
      rw [if_neg hn]
    rw [ek]
    refine ⟨?_, g1, fun j hj => ?_, ?_, fun j hj => ?_⟩
    · show ScM l (S' 77) 0 A
      rw [f' 77 (by decide)]
      exact b1
    · have hj : j < n + 1 := hj
      show ScM l (S' 78) (79 * j) (if j = n then A else ac j)
      by_cases e : j = n
      · rw [if_pos e, e]
        refine ScM_cp hl b1 (fun i hi' => ?_)
        rw [hi i hi', Nat.zero_add]
      · rw [if_neg e]
        refine ScM_cp hl (b3 j (by omega)) (fun i hi' => ?_)
        exact lo _ (by omega)
    · show S' 65 53 = nI ns
      rw [r' 53 (by decide), b4]
    · show S' 85 (3 * j) = _ ∧ S' 85 (3 * j + 1) = _ ∧ S' 85 (3 * j + 2) = _
      rw [f' 85 (by decide)]
      exact b5 j hj
end AC
