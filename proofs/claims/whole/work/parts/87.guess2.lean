/-! GUESS in the class -/
section GC
variable {l : Lnd} {S : St} {E : zX} {d : Nat} {B : Scn} {b : Bok}
theorem c_agreesOn {n : Nat} {Q : Int32 → St → Prop} (hd : 2 ≤ d) (hl : LOk l) (hb : BInv l b) (hB : BkC l S 24 b) (hA : ScC l (S 56) B) (hn : n < 1000) (h1 : (∀ j, j < b.2.2.1 → (b.2.2.2 j).2.1 = n → (B 6 (b.2.2.2 j).1 = 0 ↔ (b.2.2.2 j).2.2 = 1)) → Q 1 S) (h0 : ∀ j, j < b.2.2.1 → (b.2.2.2 j).2.1 = n → ¬ (B 6 (b.2.2.2 j).1 = 0 ↔ (b.2.2.2 j).2.2 = 1) → Q 0 S) : k_Guess_agreesOn E d S (nI n) Q := by
  have n8 := hb.2.2.2.1
  refine w_Guess_agreesOn (by omega) ?_
  refine dn (P := fun k => (∀ j, j < k → (b.2.2.2 j).2.1 = n → (B 6 (b.2.2.2 j).1 = 0 ↔ (b.2.2.2 j).2.2 = 1)) → k_Guess_agreesOn_2 E d S (nI n) k Q) b.2.2.1 ?_ ?_ 0 (Nat.zero_le _) (fun j hj => absurd hj (Nat.not_lt_zero j))
  · intro ha
    exact w_Guess_agreesOn_2 (by omega) (ilp b.2.2.1 hB.2.2.2.1 (by omega) (by omega) (fun _ => h1 ha) (fun h => absurd h (Nat.lt_irrefl _)))
  · intro k hk ih ha
    have bk := hB.2.2.2.2 k hk
    have ok := hb.2.2.2.2 k hk
    refine w_Guess_agreesOn_2 (by omega) (ilp b.2.2.1 hB.2.2.2.1 (by omega) (by omega) (fun h => by omega) (fun _ => ⟨by omega, ?_⟩))
    rw [show S 29 k = nI (b.2.2.2 k).2.1 from bk.2.1]
    have next : ((b.2.2.2 k).2.1 = n → (B 6 (b.2.2.2 k).1 = 0 ↔ (b.2.2.2 k).2.2 = 1)) → k_Guess_agreesOn_2 E d S (nI n) (k + 1) Q := fun hk2 => ih (fun j hj => by
      by_cases e : j = k
      · rw [e]
        exact hk2
      · exact ha j (by omega))
    refine ife (fun e => ⟨by omega, ?_⟩) (fun e => ?_)
    · rw [nI_eq (by omega) (by omega)] at e
      rw [show S 28 k = nI (b.2.2.2 k).1 from bk.1]
      refine c_isWhite hl sc55 hA ok.1 ⟨by omega, ?_⟩
      rw [show S 30 k = nI (b.2.2.2 k).2.2 from bk.2.2]
      refine ife (fun w => ?_) (fun w => ?_)
      · have w : nI (b.2.2.2 k).2.2 = nI 1 := w
        rw [nI_eq (by omega) (by omega)] at w
        refine ife (fun z => ?_) (fun z => ?_)
        · rw [zb_1] at z
          exact next (fun _ => ⟨fun _ => w, fun _ => z⟩)
        · rw [zb_1] at z
          exact h0 k hk e (fun g => z (g.mpr w))
      · have w : ¬ nI (b.2.2.2 k).2.2 = nI 1 := w
        rw [nI_eq (by omega) (by omega)] at w
        refine izb (fun z => ?_) (fun z => ?_)
        · exact h0 k hk e (fun g => w (g.mp z))
        · exact next (fun _ => ⟨fun g => absurd g z, fun g => absurd g w⟩)
    · rw [nI_eq (by omega) (by omega)] at e
      exact next (fun g => absurd g e)
theorem c_agrees {n : Nat} {Q : Int32 → St → Prop} (hd : 6 ≤ d) (hL : LC l S) (hb : BInv l b) (hB : BkC l S 24 b) (hA : ScC l (S 56) B) (hO : COk l B) (hn : n < 1000) (h1 : ∀ S' : St, Fr [56, 58, 39, 40, 41, 42] S S' → (∀ j, j < b.2.2.1 → (b.2.2.2 j).2.1 ≤ n → sAg l B (b.2.2.2 j)) → (8 ≤ n → ScC l (S' 58) (dayN l B 8)) → Q 1 S') (h0 : ∀ S' : St, Fr [56, 58, 39, 40, 41, 42] S S' → ∀ j, j < b.2.2.1 → (b.2.2.2 j).2.1 ≤ n → ¬ sAg l B (b.2.2.2 j) → Q 0 S') : k_Guess_agrees E d S (nI n) Q := by
  have lc : ∀ S' : St, Fr [56, 58, 39, 40, 41, 42] S S' → LC l S' := fun S' f => LC_fr hL (fun k h1 h2 => f k (by simp only [List.mem_cons, List.not_mem_nil, or_false]; omega))
  have bc : ∀ S' : St, Fr [56, 58, 39, 40, 41, 42] S S' → BkC l S' 24 b := fun S' f => BkC_of hB (fun k h1 h2 => f k (by simp only [List.mem_cons, List.not_mem_nil, or_false]; omega))
  refine w_Guess_agrees (by omega) ?_
  have l22 : ∀ k, k ≤ n → (∀ S' : St, Fr [56, 58, 39, 40, 41, 42] S S' → ScC l (S' 56) (dayN l B k) → (∀ j, j < b.2.2.1 → (b.2.2.2 j).2.1 < k + 1 → sAg l B (b.2.2.2 j)) → (8 < k + 1 → ScC l (S' 58) (dayN l B 8)) → k_Guess_agrees_2 E d S' (nI n) (k + 1) Q) → ∀ S' : St, Fr [56, 58, 39, 40, 41, 42] S S' → ScC l (S' 56) (dayN l B k) → (∀ j, j < b.2.2.1 → (b.2.2.2 j).2.1 < k → sAg l B (b.2.2.2 j)) → (8 < k → ScC l (S' 58) (dayN l B 8)) → k_Guess_agrees_22 E d S' (nI n) k Q := by
    intro k hk ih S' f A' ag a8
    refine w_Guess_agrees_22 (by omega) (c_agreesOn (by omega) hL.ok hb (bc S' f) A' (by omega) (fun g => ?_) (fun j hj e g => ?_))
    · rw [if_neg (by decide)]
      have ag2 : ∀ j, j < b.2.2.1 → (b.2.2.2 j).2.1 < k + 1 → sAg l B (b.2.2.2 j) := fun j hj hlt => by
        by_cases e : (b.2.2.2 j).2.1 = k
        · have := g j hj e
          unfold sAg
          rw [e]
          exact this
        · exact ag j hj (by omega)
      refine ife (fun e => ?_) (fun e => ?_)
      · rw [nI_eq (by omega) (by omega)] at e
        refine c_copy (q := 57) (q' := 55) (by omega) hL.ok sc57 sc55 A' (fun S2 f2 A2 => ?_)
        have A3 : ScC l (S2 56) (dayN l B k) := by
          rw [f2 56 (by decide)]
          exact A'
        exact ih S2 (f.trans (f2.mono (by decide))) A3 ag2 (fun _ => by rw [e] at A2; exact A2)
      · rw [nI_eq (by omega) (by omega)] at e
        exact ih S' f A' ag2 (fun h8 => a8 (by omega))
    · rw [if_pos rfl]
      refine h0 S' f j hj (by omega) ?_
      unfold sAg
      rw [e]
      exact g
  have main : ∀ k, k ≤ n → ∀ S' : St, Fr [56, 58, 39, 40, 41, 42] S S' → ScC l (S' 56) (dayN l B k) → (∀ j, j < b.2.2.1 → (b.2.2.2 j).2.1 < k + 1 → sAg l B (b.2.2.2 j)) → (8 < k + 1 → ScC l (S' 58) (dayN l B 8)) → k_Guess_agrees_2 E d S' (nI n) (k + 1) Q := by
    refine dn n ?_ (fun k hk ih => ?_)
    · intro S' f A' ag a8
      refine w_Guess_agrees_2 (by omega) (ilt (by omega) (by omega) (fun _ => ?_) (fun h => by omega))
      exact h1 S' f (fun j hj hlt => ag j hj (by omega)) (fun h8 => a8 (by omega))
    · intro S' f A' ag a8
      refine w_Guess_agrees_2 (by omega) (ilt (by omega) (by omega) (fun h => by omega) (fun _ => ?_))
      rw [if_neg (nI_nle (by omega) (by omega))]
      refine c_passDay (q := 55) (by omega) (lc S' f) sc55 A' (COk_dayN hO k) (fun S2 f2 A2 _ _ _ => ?_)
      have F2 : Fr [56, 58, 39, 40, 41, 42] S S2 := f.trans (f2.mono (by decide))
      exact l22 (k + 1) hk ih S2 F2 A2 ag (fun h8 => by rw [f2 58 (by decide)]; exact a8 h8)
  refine w_Guess_agrees_2 (by omega) (ilt (by omega) (by omega) (fun h => by omega) (fun _ => ?_))
  rw [if_pos (show nI 0 ≤ 0 from Int32.le_refl 0)]
  exact l22 0 (Nat.zero_le _) (main 0 (Nat.zero_le _)) S (Fr.refl _ _) hA (fun j _ h => absurd h (Nat.not_lt_zero _)) (fun h => absurd h (by omega))
theorem zmax_nI {x y : Nat} (hx : x < 1000000) (hy : y < 1000000) : zmax (nI x) (nI y) = nI (if x < y then y else x) := by
  unfold zmax
  by_cases h : x < y
  · rw [if_pos (nI_lt h (by omega)), if_pos h]
  · rw [if_neg (nI_nlt (by omega) (by omega)), if_neg h]
theorem c_lastDay {Q : Int32 → St → Prop} (hd : 1 ≤ d) (hb : BInv l b) (hB : BkC l S 24 b) (h : ∀ n, n ≤ 20 → (∀ j, j < b.2.2.1 → (b.2.2.2 j).2.1 ≤ n) → Q (nI n) S) : k_Guess_lastDay E d S Q := by
  have n8 := hb.2.2.2.1
  refine w_Guess_lastDay hd ?_
  refine dn (P := fun k => ∀ n, n ≤ 20 → (∀ j, j < k → (b.2.2.2 j).2.1 ≤ n) → k_Guess_lastDay_4 E d S (nI n) k Q) b.2.2.1 ?_ ?_ 0 (Nat.zero_le _) 0 (by omega) (fun j hj => absurd hj (Nat.not_lt_zero j))
  · intro n hn ha
    exact w_Guess_lastDay_4 hd (ilp b.2.2.1 hB.2.2.2.1 (by omega) (by omega) (fun _ => h n hn ha) (fun h => absurd h (Nat.lt_irrefl _)))
  · intro k hk ih n hn ha
    have ok := hb.2.2.2.2 k hk
    refine w_Guess_lastDay_4 hd (ilp b.2.2.1 hB.2.2.2.1 (by omega) (by omega) (fun h => by omega) (fun _ => ⟨by omega, ?_⟩))
    rw [show S 29 k = nI (b.2.2.2 k).2.1 from (hB.2.2.2.2 k hk).2.1, zmax_nI (by omega) (by omega)]
    refine ih _ (by split <;> omega) (fun j hj => ?_)
    by_cases e : j = k
    · rw [e]
      split <;> omega
    · have := ha j (by omega)
      split <;> omega
theorem c_isSoAnyway {Q : Int32 → St → Prop} (hd : 8 ≤ d) (hL : LC l S) (hb : BInv l b) (hB : BkC l S 24 b) (hO : COk l b.1) (h1 : ∀ S' : St, Fr [56, 58, 39, 40, 41, 42] S S' → seeOk l b b.1 → Q 1 S') (h0 : ∀ S' : St, Fr [56, 58, 39, 40, 41, 42] S S' → ¬ seeOk l b b.1 → Q 0 S') : k_Guess_isSoAnyway E d S Q := by
  refine w_Guess_isSoAnyway (by omega) (c_copy (q := 55) (q' := 25) (by omega) hL.ok sc55 sc25 hB.1 (fun S2 f2 A2 => ?_))
  have L2 : LC l S2 := LC_fr hL (fun k h1 h2 => f2 k (by simp only [List.mem_cons, List.not_mem_nil, or_false]; omega))
  have B2 : BkC l S2 24 b := BkC_of hB (fun k h1 h2 => f2 k (by simp only [List.mem_cons, List.not_mem_nil, or_false]; omega))
  refine c_lastDay (by omega) hb B2 (fun n hn ha => ?_)
  refine c_agrees (by omega) L2 hb B2 A2 hO (by omega) (fun S' f g _ => ⟨Or.inr rfl, ?_⟩) (fun S' f j hj hj2 g => ⟨Or.inl rfl, ?_⟩)
  · exact h1 S' ((f2.mono (by decide)).trans f) (fun j hj => g j hj (ha j hj))
  · exact h0 S' ((f2.mono (by decide)).trans f) (fun k => g (k j hj))
/-- the marks of the first puffballs -/
def Mrk (f : Nat → Int32) (x : Nat) (P : Nat → Prop) : Prop := ∀ v, v < 128 → ((f (4 * x + v / 32)).toBitVec.getLsbD (v % 32) = true ↔ P v)
theorem mrk_up {f : Nat → Int32} {x u : Nat} {P : Nat → Prop} (hu : u < 128) (h : Mrk f x P) : Mrk (upd f (4 * x + u / 32) (f (4 * x + u / 32) ||| ((1 : Int32) <<< (nI (u % 32) &&& 31)))) x (fun v => P v ∨ v = u) := by
  intro v hv
  have h := h v hv
  by_cases e : v / 32 = u / 32
  · rw [e, upd_same, Int32.toBitVec_or, BitVec.getLsbD_or, bt_w _ (by omega) _ (by omega), Bool.or_eq_true, decide_eq_true_iff]
    rw [e] at h
    rw [h]
    constructor
    · intro g
      rcases g with g | g
      · exact Or.inl g
      · exact Or.inr (by omega)
    · intro g
      rcases g with g | g
      · exact Or.inl g
      · exact Or.inr (by rw [g])
  · rw [upd_ne _ _ (by omega), h]
    constructor
    · exact Or.inl
    · intro g
      rcases g with g | g
      · exact g
      · exact absurd (by rw [g]) e
theorem mrk_ne {f : Nat → Int32} {x y u : Nat} {w : Int32} {P : Nat → Prop} (hu : u < 128) (hxy : ¬ x = y) (h : Mrk f x P) : Mrk (upd f (4 * y + u / 32) w) x P := by
  intro v hv
  rw [upd_ne _ _ (by omega)]
  exact h v hv
theorem mrk_iff {f : Nat → Int32} {x : Nat} {P P' : Nat → Prop} (h : Mrk f x P) (e : ∀ v, v < 128 → (P v ↔ P' v)) : Mrk f x P' := fun v hv => (h v hv).trans (e v hv)
theorem nI_lo5 {v : Nat} (h : v < 128) : nI v &&& (31 : Int32) = nI (v % 32) := by
  rw [show (31 : Int32) = nI (2 ^ 5 - 1) from rfl, nI_and, Nat.and_two_pow_sub_one_eq_mod]
theorem nI_hi5 {v : Nat} (h : v < 128) : nI v >>> ((5 : Int32) &&& 31) = nI (v / 32) := nI_shr (a := v) (k := 5) (by omega) (by omega)
/-- note: one more, the first, marks -/
theorem c_note {g n : Nat} {P : Nat → Nat → Prop} {Q : St → Prop} (hd : 1 ≤ d) (hL : LC l S) (hn : n < 1000) (hg : g < 1000) (h58 : 8 ≤ n → ScC l (S 58) B) (hB : AOk l B) (hm : 8 ≤ n → ∀ x, x < lb l → Mrk (S 59) x (P x)) (h : ∀ S' : St, Fr [54, 59] S S' → S' 54 0 = S 54 0 + 1 → S' 54 1 = (if S 54 1 = -1 then nI g else S 54 1) → (8 ≤ n → ∀ x, x < lb l → Mrk (S' 59) x (fun v => P x v ∨ B 6 x = nI v)) → Q S') : k_Guess_note E d S (nI g) (nI n) Q := by
  have b10 := hL.ok.b10
  have loop : ∀ S0 : St, Fr [54] S S0 → S0 54 0 = S 54 0 + 1 → S0 54 1 = (if S 54 1 = -1 then nI g else S 54 1) → k_Guess_note_25 E d S0 (nI n) 0 Q := by
    intro S0 f0 v0 v1
    have F0 : Fr [54, 59] S S0 := f0.mono (by decide)
    have lc : ∀ S' : St, Fr [59] S0 S' → LC l S' := fun S' f => LC_fr hL (fun k h1 h2 => by
      rw [f k (by simp only [List.mem_cons, List.not_mem_nil, or_false]; omega)]
      exact F0 k (by simp only [List.mem_cons, List.not_mem_nil, or_false]; omega))
    refine dn (P := fun k => ∀ S' : St, Fr [59] S0 S' → (8 ≤ n → (∀ x, x < k → Mrk (S' 59) x (fun v => P x v ∨ B 6 x = nI v)) ∧ ∀ x, k ≤ x → x < lb l → Mrk (S' 59) x (P x)) → k_Guess_note_25 E d S' (nI n) k Q) (lb l) ?_ ?_ 0 (Nat.zero_le _) S0 (Fr.refl _ _) (fun h8 => ⟨fun x hx => absurd hx (Nat.not_lt_zero x), fun x _ hx => by rw [f0 59 (by decide)]; exact hm h8 x hx⟩)
    · intro S' f hM
      refine w_Guess_note_25 hd (ilp (lb l) (lc S' f).b (by omega) (by omega) (fun _ => ?_) (fun h => absurd h (Nat.lt_irrefl _)))
      exact h S' (F0.trans (f.mono (by decide))) (by rw [f 54 (by decide)]; exact v0) (by rw [f 54 (by decide)]; exact v1) (fun h8 x hx => (hM h8).1 x hx)
    · intro k hk ih S' f hM
      refine w_Guess_note_25 hd (ilp (lb l) (lc S' f).b (by omega) (by omega) (fun h => by omega) (fun _ => ?_))
      refine ife (fun e => ?_) (fun e => ?_)
      · have e : nI n < nI 8 := e
        rw [nI_ltI (by omega) (by omega)] at e
        exact h S' (F0.trans (f.mono (by decide))) (by rw [f 54 (by decide)]; exact v0) (by rw [f 54 (by decide)]; exact v1) (fun h8 => absurd h8 (by omega))
      · have e : ¬ nI n < nI 8 := e
        rw [nI_ltI (by omega) (by omega)] at e
        have h8 : 8 ≤ n := by omega
        obtain ⟨u, hu, eu⟩ := (hB.1 k hk).2.1
        have A58 : ScC l (S' 58) B := by
          rw [f 58 (by decide), f0 58 (by decide)]
          exact h58 h8
        refine c_heldIn hL.ok sc57 A58 hk ?_
        rw [eu]
        have ei : nI (k * 4) + nI u >>> ((5 : Int32) &&& 31) = nI (4 * k + u / 32) := by
          rw [nI_hi5 (by omega), nI_add, Nat.mul_comm]
        refine ⟨4 * k + u / 32, ei, by omega, 4 * k + u / 32, ei, by omega, fun S4 e4 => ?_⟩
        rw [nI_lo5 (by omega)] at e4
        refine ih S4 (f.trans (by rw [e4]; exact Fr.up _ _ (by decide))) (fun h8 => ⟨fun x hx => ?_, fun x h1 h2 => ?_⟩)
        · rw [e4, up_same]
          by_cases e : x = k
          · subst e
            refine mrk_iff (mrk_up (by omega) ((hM h8).2 x (Nat.le_refl _) hk)) (fun v hv => ?_)
            rw [eu, nI_eq (by omega) (by omega)]
            constructor
            · intro g
              rcases g with g | g
              · exact Or.inl g
              · exact Or.inr g.symm
            · intro g
              rcases g with g | g
              · exact Or.inl g
              · exact Or.inr g.symm
          · exact mrk_ne (by omega) e ((hM h8).1 x (by omega))
        · rw [e4, up_same]
          exact mrk_ne (by omega) (by omega) ((hM h8).2 x (by omega) h2)
  refine w_Guess_note hd (fun S1 e1 => ?_)
  have u54 : S1 54 1 = S 54 1 := by rw [e1, up_same, upd_ne _ _ (by decide)]
  have u50 : S1 54 0 = S 54 0 + 1 := by rw [e1, up_same, upd_same]
  have f1 : Fr [54] S S1 := by
    rw [e1]
    exact Fr.up _ _ (by decide)
  rw [u54]
  refine ife (fun e => fun S2 e2 => ?_) (fun e => ?_)
  · refine loop S2 (f1.trans (by rw [e2]; exact Fr.up _ _ (by decide))) (by rw [e2, up_same, upd_ne _ _ (by decide)]; exact u50) (by rw [e2, up_same, upd_same, if_pos e])
  · exact loop S1 f1 u50 (by rw [u54, if_neg e])
theorem c_search {n : Nat} {Q : St → Prop} (hd : 9 ≤ d) (hL : LC l S) (hb : BInv l b) (hB : BkC l S 24 b) (hn : n ≤ 8) (h : ∀ S' : St, Fr [54, 56, 58, 59, 39, 40, 41, 42] S S' → S' 54 0 = nI (num (gsV l b) (10 * lp l)) → S' 54 1 = oI (fstF (gsV l b) (10 * lp l)) → (n = 8 → ∀ x, x < lb l → Mrk (S' 59) x (fun v => ∃ g, g < 10 * lp l ∧ gsV l b g = true ∧ gsx l b g x = nI v)) → Q S') : k_Guess_search E d S (nI n) Q := by
  have p7 := hL.ok.p7
  have b10 := hL.ok.b10
  refine w_Guess_search (by omega) (c_lastDay (by omega) hb hB (fun ld hld ha => ?_))
  refine fun S3 e3 S4 e4 => ?_
  rw [zmax_nI (by omega) (by omega)]
  generalize hN : (if n < ld then ld else n) = N
  have hN1 : ld ≤ N ∧ n ≤ N ∧ N ≤ 20 := by
    rw [← hN]
    split <;> omega
  have f4 : Fr [54] S S4 := by
    rw [e4, e3]
    exact (Fr.up _ _ (by decide)).trans (Fr.up _ _ (by decide))
  have z0 : S4 54 0 = 0 := by rw [e4, up_same, upd_ne _ _ (by decide), e3, up_same, upd_same]
  have z1 : S4 54 1 = -1 := by rw [e4, up_same, upd_same]
  have main : ∀ k, k ≤ 10 * lp l → ∀ S' : St, Fr [54, 56, 58, 59, 39, 40, 41, 42] S S' → S' 54 0 = nI (num (gsV l b) k) → S' 54 1 = oI (fstF (gsV l b) k) → (8 ≤ N → ∀ x, x < lb l → Mrk (S' 59) x (fun v => ∃ g, g < k ∧ gsV l b g = true ∧ gsx l b g x = nI v)) → k_Guess_search_45 E d S' (nI N) k Q := by
    have lc : ∀ S' : St, Fr [54, 56, 58, 59, 39, 40, 41, 42] S S' → LC l S' := fun S' f => LC_fr hL (fun k h1 h2 => f k (by simp only [List.mem_cons, List.not_mem_nil, or_false]; omega))
    have bc : ∀ S' : St, Fr [54, 56, 58, 59, 39, 40, 41, 42] S S' → BkC l S' 24 b := fun S' f => BkC_of hB (fun k h1 h2 => f k (by simp only [List.mem_cons, List.not_mem_nil, or_false]; omega))
    refine dn (10 * lp l) ?_ (fun k hk ih => ?_)
    · intro S' f v0 v1 hM
      refine w_Guess_search_45 (by omega) ?_
      rw [(lc S' f).p, show (10 : Int32) = nI 10 from rfl, pk_mul, if_pos (nI_le (Nat.le_refl _) (by omega))]
      exact h S' f v0 v1 (fun e x hx => hM (by omega) x hx)
    · intro S' f v0 v1 hM
      have L' := lc S' f
      have B' := bc S' f
      have hp : k / 10 < lp l := by omega
      have no : gsV l b k = false → ∀ S2 : St, Fr [54, 56, 58, 59, 39, 40, 41, 42] S S2 → S2 54 = S' 54 → S2 59 = S' 59 → k_Guess_search_45 E d S2 (nI N) (k + 1) Q := fun hg S2 f2 w0 w1 => by
        refine ih S2 f2 ?_ ?_ (fun h8 x hx => ?_)
        · rw [w0, v0, num_succ, if_neg (by rw [hg]; decide)]
        · rw [w0, v1, fstF_s, hg]
          cases fstF (gsV l b) k <;> rfl
        · rw [w1]
          refine mrk_iff (hM h8 x hx) (fun v _ => ?_)
          constructor
          · intro ⟨g, g1, g2⟩
            exact ⟨g, by omega, g2⟩
          · intro ⟨g, g1, g2, g3⟩
            refine ⟨g, ?_, g2, g3⟩
            by_cases e : g = k
            · rw [e, hg] at g2
              cases g2
            · omega
      refine w_Guess_search_45 (by omega) ?_
      rw [L'.p, show (10 : Int32) = nI 10 from rfl, pk_mul, if_neg (nI_ge hk (by omega)), pk_div (by omega) (by omega) (by omega)]
      have er : zrem (nI k) (nI 10) = nI (k % 10) := by
        unfold zrem
        rw [pk_rem (by omega) (by omega) (by omega)]
      refine c_mildOf hL.ok sc25 B'.1 hp ?_
      rw [er]
      refine ife (fun e => ?_) (fun e => ?_)
      · exact no (gsV_f (fun g => g.1 e.symm)) S' f rfl rfl
      · refine c_copy (q := 55) (q' := 25) (by omega) hL.ok sc55 sc25 B'.1 (fun S5 f5 A5 => ?_)
        refine c_setMild (q := 55) hL.ok sc55 A5 hp (fun S6 f6 A6 => ?_)
        have f56 : Fr [56] S' S6 := f5.trans f6
        have F6 : Fr [54, 56, 58, 59, 39, 40, 41, 42] S S6 := f.trans (f56.mono (by decide))
        have A6 : ScC l (S6 56) (gsA b k) := A6
        refine c_agrees (b := b) (by omega) (lc S6 F6) hb (bc S6 F6) A6 ((AOk_gsA hb.1 k).cell hL.ok) (by omega) (fun S7 f7 ag a8 => ?_) (fun S7 f7 j hj _ g => ?_)
        · rw [if_neg (by decide)]
          have hg : gsV l b k = true := gsV_t.mpr ⟨fun g => e g.symm, fun j hj => ag j hj (by have := ha j hj; omega)⟩
          have f67 : Fr [56, 58, 39, 40, 41, 42] S' S7 := (f56.mono (by decide)).trans f7
          have F7 : Fr [54, 56, 58, 59, 39, 40, 41, 42] S S7 := f.trans (f67.mono (by decide))
          have lt : k < 1000 := by omega
          refine c_note (B := dayN l (gsA b k) 8) (P := fun x v => ∃ g, g < k ∧ gsV l b g = true ∧ gsx l b g x = nI v) (by omega) (lc S7 F7) (by omega) lt a8 (AOk_dayN hL.ok (AOk_gsA hb.1 k) 8) (fun h8 x hx => by rw [f67 59 (by decide)]; exact hM h8 x hx) (fun S8 f8 w0 w1 m8 => ?_)
          refine ih S8 (F7.trans (f8.mono (by decide))) ?_ ?_ (fun h8 x hx => ?_)
          · rw [w0, f67 54 (by decide), v0, nI_1, num_succ, if_pos hg]
          · rw [w1, f67 54 (by decide), v1, fstF_s]
            cases ef : fstF (gsV l b) k with
            | none =>
              rw [hg]
              exact if_pos (show oI none = -1 from rfl)
            | some y =>
              have := (fstF_inv _ _ ef).2.1
              exact if_neg (oI_ne (by omega))
          · refine mrk_iff (m8 h8 x hx) (fun v _ => ?_)
            constructor
            · intro g
              rcases g with ⟨g, g1, g2⟩ | g
              · exact ⟨g, by omega, g2⟩
              · exact ⟨k, by omega, hg, g⟩
            · intro ⟨g, g1, g2, g3⟩
              by_cases e : g = k
              · rw [e] at g3
                exact Or.inr g3
              · exact Or.inl ⟨g, by omega, g2, g3⟩
        · rw [if_pos rfl]
          have f67 : Fr [56, 58, 39, 40, 41, 42] S' S7 := (f56.mono (by decide)).trans f7
          exact no (gsV_f (fun k2 => g (k2.2 j hj))) S7 (f.trans (f67.mono (by decide))) (f67 54 (by decide)) (f67 59 (by decide))
  refine dn (P := fun k => ∀ S' : St, Fr [59] S4 S' → (∀ i, i < k → S' 59 i = 0) → k_Guess_search_21 E d S' (nI N) k Q) 40 ?_ ?_ 0 (Nat.zero_le _) S4 (Fr.refl _ _) (fun i hi => absurd hi (Nat.not_lt_zero i))
  · intro S' f hz
    refine w_Guess_search_21 (by omega) ?_
    rw [if_pos (Int32.le_refl _)]
    refine main 0 (Nat.zero_le _) S' ((f4.mono (by decide)).trans (f.mono (by decide))) (by rw [f 54 (by decide)]; exact z0) (by rw [f 54 (by decide)]; exact z1) (fun _ x hx v hv => ?_)
    rw [hz _ (by omega)]
    constructor
    · intro g
      rw [show (0 : Int32).toBitVec = 0#32 from rfl] at g
      simp at g
    · intro ⟨g, g1, _⟩
      omega
  · intro k hk ih S' f hz
    refine w_Guess_search_21 (by omega) ?_
    rw [if_neg (nI_ge hk (by omega))]
    refine ⟨hk, fun S1 e1 => ih S1 (f.trans (by rw [e1]; exact Fr.up _ _ (by decide))) (fun i hi => ?_)⟩
    rw [e1, up_same]
    by_cases e : i = k
    · rw [e, upd_same]
    · rw [upd_ne _ _ e]
      exact hz i (by omega)
theorem c_unlikeIn {x : Nat} {p : Nat → Bool} {Q : Int32 → St → Prop} (hd : 1 ≤ d) (hx : x < 10) (hM : Mrk (S 59) x (fun v => p v = true)) (h : Q (nI (num p 128)) S) : k_Guess_unlikeIn E d S (nI x) Q := by
  refine w_Guess_unlikeIn hd ?_
  refine dn (P := fun k => k_Guess_unlikeIn_4 E d S x (nI (num p (32 * k))) k Q) 4 ?_ ?_ 0 (Nat.zero_le _)
  · refine w_Guess_unlikeIn_4 hd ?_
    rw [if_pos (Int32.le_refl _)]
    exact h
  · intro k hk ih
    refine w_Guess_unlikeIn_4 hd ?_
    rw [if_neg (nI_ge hk (by omega))]
    refine ⟨by omega, c_bitCount32 ?_⟩
    rw [nI_add, ← num_32 (fun b hb => ?_)]
    · exact ih
    · have := hM (32 * k + b) (by omega)
      rw [show (32 * k + b) / 32 = k by omega, show (32 * k + b) % 32 = b by omega, show 4 * x + k = x * 4 + k by omega] at this
      have e : (S 59 (x * 4 + k)).toBitVec.toNat.testBit b = (S 59 (x * 4 + k)).toBitVec.getLsbD b := rfl
      rw [e]
      cases hp : p (32 * k + b) with
      | true => exact this.mpr hp
      | false =>
        cases hg : (S 59 (x * 4 + k)).toBitVec.getLsbD b with
        | false => rfl
        | true =>
          rw [this.mp hg] at hp
          cases hp
theorem c_mostUnlike {n : Nat} {u : Nat → Nat} {p : Nat → Nat → Bool} {Q : Int32 → St → Prop} (hd : 2 ≤ d) (hL : LC l S) (hn : S 54 0 = nI n) (hn1 : n < 1000000) (hM : ∀ x, x < lb l → Mrk (S 59) x (fun v => p x v = true)) (hu : ∀ x, u x = num (p x) 128) (h : Q (oI (if n = 0 then none else bsu u (lb l))) S) : k_Guess_mostUnlike E d S Q := by
  have b10 := hL.ok.b10
  refine w_Guess_mostUnlike (by omega) ?_
  have g0 : (if n = 0 then none else bsu u 0) = none := by split <;> rfl
  rw [show (-1 : Int32) = oI (if n = 0 then none else bsu u 0) by rw [g0]; rfl]
  refine dn (P := fun k => k_Guess_mostUnlike_4 E d S (oI (if n = 0 then none else bsu u k)) k Q) (lb l) ?_ ?_ 0 (Nat.zero_le _)
  · exact w_Guess_mostUnlike_4 (by omega) (ilp (lb l) hL.b (by omega) (by omega) (fun _ => h) (fun h => absurd h (Nat.lt_irrefl _)))
  · intro k hk ih
    refine w_Guess_mostUnlike_4 (by omega) (ilp (lb l) hL.b (by omega) (by omega) (fun h => by omega) (fun _ => ?_))
    rw [hn]
    refine ife (fun e => ?_) (fun e => ?_)
    · have e : nI n ≤ nI 0 := e
      rw [nI_leI (by omega) (by omega)] at e
      rw [if_pos (show n = 0 by omega)] at h ⊢
      exact h
    · have e : ¬ nI n ≤ nI 0 := e
      rw [nI_leI (by omega) (by omega)] at e
      rw [if_neg (show ¬ n = 0 by omega)] at ih ⊢
      rw [bsu] at ih
      cases eb : bsu u k with
      | none =>
        rw [eb] at ih
        rw [if_pos (show oI none = -1 from rfl)]
        exact ih
      | some y =>
        have hy := bsu_lt k y eb
        rw [eb] at ih
        rw [if_neg (show ¬ oI (some y) = -1 from oI_ne (show y < 2 ^ 31 by omega))]
        refine c_unlikeIn (by omega) (by omega) (hM k hk) (c_unlikeIn (x := y) (by omega) (by omega) (hM y (by omega)) ?_)
        rw [← hu, ← hu]
        have l1 := num_le (p k) 128
        have l2 := num_le (p y) 128
        rw [← hu] at l1 l2
        refine ife (fun g => ?_) (fun g => ?_)
        · rw [nI_leI (by omega) (by omega)] at g
          simp only at ih
          rw [if_neg (by omega)] at ih
          exact ih
        · rw [nI_leI (by omega) (by omega)] at g
          simp only at ih
          rw [if_pos (by omega)] at ih
          exact ih
end GC
noncomputable def vMilder (G : Gst) (c : Int32) : Int32 := if c = 2 then @ite _ (seeOk (gl G) (gb G) (gA G)) (Classical.propDecidable _) 1 0 else if c = 0 then nI (num (gsV (gl G) (gb G)) (10 * lp (gl G))) else oI (fstF (gsV (gl G) (gb G)) (10 * lp (gl G)))
noncomputable def bsL (G : Gst) : Option Nat := if num (gsV (gl G) (gb G)) (10 * lp (gl G)) = 0 then none else bsu (unl (gl G) (gb G)) (lb (gl G))
noncomputable def vLook (G : Gst) (c : Int32) : Int32 := if c = 0 then oI (bsL G) else match bsL G with
  | none => 0
  | some x => nI (unl (gl G) (gb G) x)
section GX
variable {G : Gst} {S : St} {E : zX} {d : Nat} {Q : Int32 → St → Prop} {X : Nat → St → Prop}
theorem x_milder {c : Int32} (hd : 20 ≤ d) (hG : GInv G) (hR : RelC G S) (hn : (S 1000 0).toNatClampNeg < 1000000) (h : cd3 false (ng 3 c) false = 0 → ∀ S', QC S S' → Q (vMilder G c) S') (hX : ∀ k, cd3 false (ng 3 c) false = k + 1 → X k (upT S)) : k_x_milder E d S c Q X := by
  refine w_x_milder (by omega) (n_what (n := 2) (by omega) (by omega) hn (fun w hw ec => ?_) (fun e => hX 0 (by unfold cd3; rw [e]; rfl)))
  subst ec
  have h := h (by unfold cd3; rw [ng_f (by omega) (by omega)]; rfl)
  unfold vMilder at h
  refine ife (fun e => ?_) (fun e => ?_)
  · rw [if_pos e] at h
    refine c_isSoAnyway (by omega) hR.lc hG.2.1 hR.2.1 hG.cok (fun S' f g => ?_) (fun S' f g => ?_)
    · have g : seeOk (gl G) (gb G) (gA G) := g
      rw [if_neg (by decide)]
      have h := h S' (QC_fr f (fun k hk => by simp only [List.mem_cons, List.not_mem_nil, or_false] at hk; omega))
      rw [if_pos g] at h
      exact h
    · have g : ¬ seeOk (gl G) (gb G) (gA G) := g
      rw [if_pos rfl]
      have h := h S' (QC_fr f (fun k hk => by simp only [List.mem_cons, List.not_mem_nil, or_false] at hk; omega))
      rw [if_neg g] at h
      exact h
  · rw [if_neg e] at h
    refine c_search (n := 0) (by omega) hR.lc hG.2.1 hR.2.1 (by omega) (fun S' f v0 v1 _ => ?_)
    have h := h S' (QC_fr f (fun k hk => by simp only [List.mem_cons, List.not_mem_nil, or_false] at hk; omega))
    rw [v0, v1]
    refine ife (fun e => ?_) (fun e => ?_)
    · rw [if_pos e] at h
      exact h
    · rw [if_neg e] at h
      exact h
theorem x_look {c : Int32} (hd : 20 ≤ d) (hG : GInv G) (hR : RelC G S) (hn : (S 1000 0).toNatClampNeg < 1000000) (h : cd3 false (ng 2 c) false = 0 → ∀ S', QC S S' → Q (vLook G c) S') (hX : ∀ k, cd3 false (ng 2 c) false = k + 1 → X k (upT S)) : k_x_look E d S c Q X := by
  have p7 := hG.1.p7
  have b10 := hG.1.b10
  refine w_x_look (by omega) (n_what (n := 1) (by omega) (by omega) hn (fun w hw ec => ?_) (fun e => hX 0 (by unfold cd3; rw [e]; rfl)))
  subst ec
  have h := h (by unfold cd3; rw [ng_f (by omega) (by omega)]; rfl)
  unfold vLook at h
  refine c_search (n := 8) (by omega) hR.lc hG.2.1 hR.2.1 (by omega) (fun S' f v0 v1 hM => ?_)
  have h := h S' (QC_fr f (fun k hk => by simp only [List.mem_cons, List.not_mem_nil, or_false] at hk; omega))
  have L' : LC (gl G) S' := LC_fr hR.lc (fun k h1 h2 => f k (by simp only [List.mem_cons, List.not_mem_nil, or_false]; omega))
  have nl := num_le (gsV (gl G) (gb G)) (10 * lp (gl G))
  have hM2 : ∀ x, x < lb (gl G) → Mrk (S' 59) x (fun v => @decide (∃ g, g < 10 * lp (gl G) ∧ gsV (gl G) (gb G) g = true ∧ gsx (gl G) (gb G) g x = nI v) (Classical.propDecidable _) = true) := fun x hx => mrk_iff (hM rfl x hx) (fun v _ => (@decide_eq_true_iff _ (Classical.propDecidable _)).symm)
  refine c_mostUnlike (u := unl (gl G) (gb G)) (by omega) L' v0 (by omega) hM2 (fun x => rfl) ?_
  rw [show (if num (gsV (gl G) (gb G)) (10 * lp (gl G)) = 0 then none else bsu (unl (gl G) (gb G)) (lb (gl G))) = bsL G from rfl]
  refine ife (fun e => ?_) (fun e => ?_)
  · rw [if_pos e] at h
    exact h
  · rw [if_neg e] at h
    cases eb : bsL G with
    | none =>
      rw [eb] at h
      rw [if_pos (show oI none = -1 from rfl)]
      exact h
    | some x =>
      rw [eb] at h
      have hx : x < lb (gl G) := by
        unfold bsL at eb
        by_cases e0 : num (gsV (gl G) (gb G)) (10 * lp (gl G)) = 0
        · rw [if_pos e0] at eb
          cases eb
        · rw [if_neg e0] at eb
          exact bsu_lt _ _ eb
      rw [if_neg (show ¬ oI (some x) = -1 from oI_ne (show x < 2 ^ 31 by omega))]
      show k_Guess_unlikeIn E (d - 1) S' (nI x) _
      exact c_unlikeIn (x := x) (by omega) (by omega) (hM2 x hx) h
end GX
