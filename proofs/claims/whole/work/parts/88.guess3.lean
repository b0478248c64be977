/-! GUESS in the reference -/
def FS (S S' : St) : Prop := (∀ k, k ∉ [65, 77, 79, 80, 86] → S' k = S k) ∧ (∀ i, i ∉ [45, 46, 47, 48] → S' 65 i = S 65 i) ∧ ∀ i, i < 79 → S' 77 i = S 77 i
theorem FS.refl (S : St) : FS S S := ⟨fun _ _ => rfl, fun _ _ => rfl, fun _ _ => rfl⟩
theorem FS.trans {S S1 S2 : St} (h1 : FS S S1) (h2 : FS S1 S2) : FS S S2 := ⟨fun k hk => (h2.1 k hk).trans (h1.1 k hk), fun i hi => (h2.2.1 i hi).trans (h1.2.1 i hi), fun i hi => (h2.2.2 i hi).trans (h1.2.2 i hi)⟩
theorem FS_fm {S S' : St} (h : FM 79 S S') : FS S S' := ⟨fun k hk => h.1 k (fun hm => hk (by simp only [List.mem_cons, List.not_mem_nil, or_false] at hm ⊢; omega)), h.2.1, fun i hi => h.2.2 i (Or.inl hi)⟩
theorem FS_86 {S : St} (i : Nat) (v : Int32) : FS S (up S 86 i v) := ⟨fun k hk => up_ne _ _ _ (fun e => hk (by rw [e]; decide)), fun i _ => by rw [up_ne _ _ _ (by decide)], fun i _ => by rw [up_ne _ _ _ (by decide)]⟩
theorem FS_row {S : St} {j : Nat} (v : Int32) (h : 79 ≤ j) : FS S (up S 77 j v) := ⟨fun k hk => up_ne _ _ _ (fun e => hk (by rw [e]; decide)), fun i _ => by rw [up_ne _ _ _ (by decide)], fun i hi => by rw [up_same, upd_ne _ _ (by omega)]⟩
theorem QM_fs {S S' : St} (h : FS S S') : QM S S' := by
  refine ⟨fun k hk => h.1 k (fun hm => ?_), fun i hi => h.2.1 i (fun hm => hi ?_), h.2.2⟩
  · simp only [List.mem_cons, List.not_mem_nil, or_false] at hm hk
    omega
  · simp only [List.mem_cons, List.not_mem_nil, or_false] at hm ⊢
    omega
theorem LM_fs {l : Lnd} {S S' : St} (h : LM l S) (f : FS S S') : LM l S' := LM_qm h (QM_fs f)
/-- the sights as they lie -/
def SiM (S : St) (b : Bok) : Prop := S 65 53 = nI b.2.2.1 ∧ ∀ j, j < b.2.2.1 → S 85 (3 * j) = nI (b.2.2.2 j).1 ∧ S 85 (3 * j + 1) = nI (b.2.2.2 j).2.1 ∧ S 85 (3 * j + 2) = nI (b.2.2.2 j).2.2
theorem SiM_fs {S S' : St} {b : Bok} (h : SiM S b) (f : FS S S') : SiM S' b := by
  unfold SiM
  rw [f.2.1 53 (by decide), f.1 85 (by decide)]
  exact h
section GM
variable {l : Lnd} {S : St} {E : zX} {d : Nat} {B : Scn} {b : Bok}
theorem e_isSeen {Q : Int32 → St → Prop} (hd : 8 ≤ d) (hL : LM l S) (hb : BInv l b) (hS : SiM S b) (hA : ScM l (S 77) 79 B) (hO : COk l B) (hG : GOk l B) (h1 : ∀ S' : St, FS S S' → seeOk l b B → (∀ x, x < lb l → S' 86 x = dayN l B 8 6 x) → Q 1 S') (h0 : ∀ S' : St, FS S S' → ¬ seeOk l b B → Q 0 S') : k_m_isSeen E d S Q := by
  have b10 := hL.ok.b10
  have n8 := hb.2.2.2.1
  refine w_m_isSeen (by omega) ?_
  have main : ∀ k, k ≤ 21 → ∀ S' : St, FS S S' → ScM l (S' 77) 79 (dayN l B k) → (∀ j, j < b.2.2.1 → (b.2.2.2 j).2.1 < k → sAg l B (b.2.2.2 j)) → (8 < k → ∀ x, x < lb l → S' 86 x = dayN l B 8 6 x) → k_m_isSeen_2 E d S' k Q := by
    refine dn 21 ?_ (fun k hk ih => ?_)
    · intro S' f A' ag a8
      refine w_m_isSeen_2 (by omega) (ilt (by omega) (by omega) (fun _ => ?_) (fun h => by omega))
      exact h1 S' f (fun j hj => ag j hj (by have := (hb.2.2.2.2 j hj).2.1; omega)) (a8 (by omega))
    · intro S' f A' ag a8
      refine w_m_isSeen_2 (by omega) (ilt (by omega) (by omega) (fun h => by omega) (fun _ => ?_))
      have L' := LM_fs hL f
      have S9 := SiM_fs hS f
      refine dn (P := fun j => (∀ i, i < j → (b.2.2.2 i).2.1 = k → sAg l B (b.2.2.2 i)) → k_m_isSeen_10 E d S' k j Q) b.2.2.1 ?_ ?_ 0 (Nat.zero_le _) (fun i hi => absurd hi (Nat.not_lt_zero i))
      · intro hk2
        have ag2 : ∀ j, j < b.2.2.1 → (b.2.2.2 j).2.1 < k + 1 → sAg l B (b.2.2.2 j) := fun j hj hlt => by
          by_cases e : (b.2.2.2 j).2.1 = k
          · exact hk2 j hj e
          · exact ag j hj (by omega)
        have day : ∀ S2 : St, FS S S2 → ScM l (S2 77) 79 (dayN l B k) → (8 < k + 1 → ∀ x, x < lb l → S2 86 x = dayN l B 8 6 x) → k_m_dayOf E (d - 1) S2 79 (fun S2 => k_m_isSeen_2 E d S2 (k + 1) Q) := fun S2 f2 A2 a82 => by
          refine e_dayOf (o := 79) (by omega) (LM_fs hL f2) (by omega) A2 (COk_dayN hO k) (GOk_dayN hG k) (fun S3 f3 A3 _ _ _ _ => ?_)
          exact ih S3 (f2.trans (FS_fm f3)) A3 ag2 (fun h8 x hx => by rw [f3.1 86 (by decide)]; exact a82 h8 x hx)
        refine w_m_isSeen_10 (by omega) (ilp b.2.2.1 S9.1 (by omega) (by omega) (fun _ => ?_) (fun h => absurd h (Nat.lt_irrefl _)))
        refine ife (fun e => ?_) (fun e => ?_)
        · rw [nI_eq (by omega) (by omega)] at e
          refine dn (P := fun x => ∀ S2 : St, FS S S2 → S2 77 = S' 77 → (∀ y, y < x → S2 86 y = dayN l B 8 6 y) → k_m_isSeen_83 E d S2 k x Q) (lb l) ?_ ?_ 0 (Nat.zero_le _) S' f rfl (fun y hy => absurd hy (Nat.not_lt_zero y))
          · intro S2 f2 e77 hv
            refine w_m_isSeen_83 (by omega) (ilp (lb l) (LM_fs hL f2).b (by omega) (by omega) (fun _ => ?_) (fun h => absurd h (Nat.lt_irrefl _)))
            exact day S2 f2 (by rw [e77]; exact A') (fun _ x hx => hv x hx)
          · intro x hx ihx S2 f2 e77 hv
            refine w_m_isSeen_83 (by omega) (ilp (lb l) (LM_fs hL f2).b (by omega) (by omega) (fun h => by omega) (fun _ => ⟨by omega, by omega, fun S3 e3 => ?_⟩))
            refine ihx S3 (f2.trans (by rw [e3]; exact FS_86 _ _)) (by rw [e3, up_ne _ _ _ (by decide)]; exact e77) (fun y hy => ?_)
            rw [e3, up_same]
            by_cases e2 : y = x
            · rw [e2, upd_same, e77]
              have := A' 6 x (by decide) hx
              rw [e] at this
              exact this
            · rw [upd_ne _ _ e2]
              exact hv y (by omega)
        · rw [nI_eq (by omega) (by omega)] at e
          exact day S' f A' (fun h8 => a8 (by omega))
      · intro j hj ihj hk2
        have bk := S9.2 j hj
        have ok := hb.2.2.2.2 j hj
        refine w_m_isSeen_10 (by omega) (ilp b.2.2.1 S9.1 (by omega) (by omega) (fun h => by omega) (fun _ => ⟨by omega, ?_⟩))
        rw [bk.2.1]
        have next : ((b.2.2.2 j).2.1 = k → sAg l B (b.2.2.2 j)) → k_m_isSeen_10 E d S' k (j + 1) Q := fun hk3 => ihj (fun i hi => by
          by_cases e : i = j
          · rw [e]
            exact hk3
          · exact hk2 i (by omega))
        refine ife (fun e => ⟨by omega, ?_⟩) (fun e => ?_)
        · rw [nI_eq (by omega) (by omega)] at e
          rw [bk.1]
          have sg2 : sAg l B (b.2.2.2 j) ↔ (dayN l B k 6 (b.2.2.2 j).1 = 0 ↔ (b.2.2.2 j).2.2 = 1) := by
            unfold sAg
            rw [e]
          refine e_isWhite (o := 79) hL.ok (by omega) A' ok.1 (izb (fun z => ?_) (fun z => ?_))
          · refine w_m_isSeen_54 (by omega) ⟨by omega, ?_⟩
            rw [bk.2.2, show (1 : Int32) = nI 1 from rfl]
            refine ife (fun w => ?_) (fun w => ?_)
            · rw [nI_eq (by omega) (by omega)] at w
              exact next (fun _ => sg2.mpr ⟨fun _ => w.symm, fun _ => z⟩)
            · rw [nI_eq (by omega) (by omega)] at w
              exact h0 S' f (fun g => w ((sg2.mp (g j hj)).mp z).symm)
          · refine w_m_isSeen_54 (by omega) ⟨by omega, ?_⟩
            rw [bk.2.2, show (0 : Int32) = nI 0 from rfl]
            refine ife (fun w => ?_) (fun w => ?_)
            · rw [nI_eq (by omega) (by omega)] at w
              exact next (fun _ => sg2.mpr ⟨fun g => absurd g z, fun g => by omega⟩)
            · rw [nI_eq (by omega) (by omega)] at w
              refine h0 S' f (fun g => z ((sg2.mp (g j hj)).mpr ?_))
              have := ok.2.2
              omega
        · rw [nI_eq (by omega) (by omega)] at e
          exact next (fun g => absurd g e)
  exact main 0 (Nat.zero_le _) S (FS.refl _) hA (fun j _ h => absurd h (Nat.not_lt_zero _)) (fun h => absurd h (by omega))
theorem e_isGuess {g : Nat} {Q : Int32 → St → Prop} (hd : 9 ≤ d) (hL : LM l S) (hb : BInv l b) (hS : SiM S b) (hA : ScM l (S 77) 0 b.1) (hg : g < 10 * lp l) (h1 : ∀ S' : St, FS S S' → gsV l b g = true → (∀ x, x < lb l → S' 86 x = gsx l b g x) → Q 1 S') (h0 : ∀ S' : St, FS S S' → gsV l b g = false → Q 0 S') : k_m_isGuess E d S (nI g) Q := by
  have p7 := hL.ok.p7
  have hp : g / 10 < lp l := by omega
  have er : zrem (nI g) (10 : Int32) = nI (g % 10) := by
    unfold zrem
    rw [show (10 : Int32) = nI 10 from rfl, pk_rem (by omega) (by omega) (by omega)]
  have ed : nI g / (10 : Int32) = nI (g / 10) := by rw [show (10 : Int32) = nI 10 from rfl, pk_div (by omega) (by omega) (by omega)]
  refine w_m_isGuess (by omega) ⟨22 + g / 10, ?_, by omega, ?_⟩
  · rw [ed, show (22 : Int32) = nI 22 from rfl, nI_add]
  · rw [er]
    have r4 : S 77 (22 + g / 10) = b.1 4 (g / 10) := by
      have := hA 4 (g / 10) (by decide) hp
      rw [show 0 + offM 4 + g / 10 = 22 + g / 10 from by show 0 + 22 + g / 10 = 22 + g / 10; omega] at this
      exact this
    rw [r4]
    refine ife (fun e => ?_) (fun e => ?_)
    · exact h0 S (FS.refl _) (gsV_f (fun g => g.1 e))
    · refine e_tries hL.ok hA (fun S3 f3 A3 _ => ⟨101 + g / 10, ?_, by omega, fun S4 e4 => ?_⟩)
      · rw [ed, show (101 : Int32) = nI 101 from rfl, nI_add]
      · have F4 : FS S S4 := (FS_fm f3).trans (by rw [e4]; exact FS_row _ (by omega))
        have A4 : ScM l (S4 77) 79 (gsA b g) := by
          rw [e4, show 101 + g / 10 = 79 + offM 4 + g / 10 from rfl]
          exact ScM_set (k := 4) hL.ok A3 (by decide) hp
        have ok := AOk_gsA hb.1 g
        refine e_isSeen (b := b) (by omega) (LM_fs hL F4) hb (SiM_fs hS F4) A4 (ok.cell hL.ok) ok.grd (fun S' f' so hv => ⟨Or.inr rfl, ?_⟩) (fun S' f' no => ⟨Or.inl rfl, ?_⟩)
        · exact h1 S' (F4.trans f') (gsV_t.mpr ⟨e, so⟩) hv
        · exact h0 S' (F4.trans f') (gsV_f (fun g => no g.2))
end GM
section GN
variable {G : Gst} {S : St} {E : zX} {d : Nat} {Q : Int32 → St → Prop}
theorem RelM.si (h : RelM G S) : SiM S (gb G) := ⟨h.2.1.2.2.2.1, h.2.1.2.2.2.2⟩
theorem m_milder {c : Int32} (hd : 20 ≤ d) (hG : GInv G) (hR : RelM G S) (h : ∀ S' v, QM S S' → S' 65 0 = nI (cd3 false (ng 3 c) false) → (cd3 false (ng 3 c) false = 0 → v = vMilder G c) → Q v S') : k_m_milder E d S c Q := by
  have p7 := hG.1.p7
  refine w_m_milder (by omega) (fun S1 e1 => ?_)
  have q1 : QM S S1 := by
    rw [e1]
    exact QM_up _ (by decide)
  have t1 : S1 65 0 = 0 := by rw [e1, up_same, upd_same]
  have L1 := LM_qm hR.lm q1
  have A1 : ScM (gl G) (S1 77) 0 (gA G) := ScM_lo hG.1 hR.sc (fun i hi => q1.2.2 i hi)
  have I1 : SiM S1 (gb G) := (RelM_qm hR q1).si
  refine e_isWhat (n := 2) (by omega) (by omega) t1 (fun w hw ec => ?_) (fun e => ?_)
  · subst ec
    rw [if_neg (by decide)]
    have hc : cd3 false (ng 3 (nI w)) false = 0 := by unfold cd3; rw [ng_f (by omega) (by omega)]; rfl
    rw [hc] at h
    have h : ∀ S' v, FS S1 S' → v = vMilder G (nI w) → Q v S' := fun S' v f hv => h S' v (q1.trans (QM_fs f)) (by rw [f.2.1 0 (by decide), t1]; rfl) (fun _ => hv)
    unfold vMilder at h
    refine ife (fun e => ?_) (fun e => ?_)
    · rw [if_pos e] at h
      refine e_tries hG.1 A1 (fun S5 f5 A5 _ => ?_)
      have F5 := FS_fm f5
      refine e_isSeen (b := gb G) (by omega) (LM_fs L1 F5) hG.2.1 (SiM_fs I1 F5) A5 hG.cok hG.gok (fun S' f' so _ => ?_) (fun S' f' no => ?_)
      · rw [if_neg (by decide)]
        exact h S' _ (F5.trans f') (if_pos so).symm
      · rw [if_pos rfl]
        exact h S' _ (F5.trans f') (if_neg no).symm
    · rw [if_neg e] at h
      refine dn (P := fun k => ∀ S' : St, FS S1 S' → k_m_milder_45 E d S' (nI w) (num (gsV (gl G) (gb G)) k) (oI (fstF (gsV (gl G) (gb G)) k)) k Q) (10 * lp (gl G)) ?_ ?_ 0 (Nat.zero_le _) S1 (FS.refl _)
      · intro S' f
        refine w_m_milder_45 (by omega) ?_
        rw [(LM_fs L1 f).p, show (10 : Int32) = nI 10 from rfl, pk_mul, if_pos (nI_le (Nat.le_refl _) (by omega))]
        refine ife (fun e => ?_) (fun e => ?_)
        · rw [if_pos e] at h
          exact h S' _ f rfl
        · rw [if_neg e] at h
          exact h S' _ f rfl
      · intro k hk ih S' f
        refine w_m_milder_45 (by omega) ?_
        rw [(LM_fs L1 f).p, show (10 : Int32) = nI 10 from rfl, pk_mul, if_neg (nI_ge hk (by omega))]
        have A' : ScM (gl G) (S' 77) 0 (gA G) := ScM_lo hG.1 A1 (fun i hi => f.2.2 i hi)
        refine e_isGuess (b := gb G) (by omega) (LM_fs L1 f) hG.2.1 (SiM_fs I1 f) A' hk (fun S2 f2 hg _ => ?_) (fun S2 f2 hg => ?_)
        · have ih := ih S2 (f.trans f2)
          rw [num_succ, if_pos hg, fstF_s, hg] at ih
          rw [if_neg (by decide)]
          cases ef : fstF (gsV (gl G) (gb G)) k with
          | none =>
            rw [ef] at ih
            rw [if_pos (show oI none = -1 from rfl)]
            exact ih
          | some y =>
            have := (fstF_inv _ _ ef).2.1
            rw [ef] at ih
            rw [if_neg (show ¬ oI (some y) = -1 from oI_ne (show y < 2 ^ 31 by omega))]
            exact ih
        · have ih := ih S2 (f.trans f2)
          rw [num_succ, if_neg (by rw [hg]; decide), fstF_s, hg] at ih
          rw [if_pos rfl]
          cases ef : fstF (gsV (gl G) (gb G)) k with
          | none =>
            rw [ef] at ih
            exact ih
          | some y =>
            rw [ef] at ih
            exact ih
  · rw [if_pos rfl]
    have hc : cd3 false (ng 3 c) false = 1 := by unfold cd3; rw [show ng 3 c = true from decide_eq_true e]; rfl
    refine h _ _ (q1.trans (QM_up _ (by decide))) (by rw [up_same, upd_same, hc]; rfl) (fun h0 => by rw [hc] at h0; cases h0)
/-- all values of one puffball as they lie -/
def SoA (l : Lnd) (b : Bok) (f : Nat → Int32) (k m : Nat) : Prop := ∀ x, x < lb l → (∀ a, a < m → ∃ g, g < k ∧ gsV l b g = true ∧ f (10 * a + x) = gsx l b g x) ∧ ∀ g, g < k → gsV l b g = true → ∃ a, a < m ∧ f (10 * a + x) = gsx l b g x
theorem m_look {c : Int32} (hd : 20 ≤ d) (hG : GInv G) (hR : RelM G S) (h : ∀ S' v, QM S S' → S' 65 0 = nI (cd3 false (ng 2 c) false) → (cd3 false (ng 2 c) false = 0 → v = vLook G c) → Q v S') : k_m_look E d S c Q := by
  have p7 := hG.1.p7
  have b10 := hG.1.b10
  refine w_m_look (by omega) (fun S1 e1 => ?_)
  have q1 : QM S S1 := by
    rw [e1]
    exact QM_up _ (by decide)
  have t1 : S1 65 0 = 0 := by rw [e1, up_same, upd_same]
  have L1 := LM_qm hR.lm q1
  have A1 : ScM (gl G) (S1 77) 0 (gA G) := ScM_lo hG.1 hR.sc (fun i hi => q1.2.2 i hi)
  have I1 : SiM S1 (gb G) := (RelM_qm hR q1).si
  refine e_isWhat (n := 1) (by omega) (by omega) t1 (fun w hw ec => ?_) (fun e => ?_)
  · subst ec
    rw [if_neg (by decide)]
    have hc : cd3 false (ng 2 (nI w)) false = 0 := by unfold cd3; rw [ng_f (by omega) (by omega)]; rfl
    rw [hc] at h
    -- frames: what is seen, and the row of all
    have lm : ∀ S' : St, (∃ S2, FS S1 S2 ∧ Fr [87] S2 S') → LM (gl G) S' := fun S' ⟨S2, f2, f3⟩ => LM_qm (LM_fs L1 f2) (QM_fr f3 (by decide))
    have qs : ∀ S' : St, QM S1 S' → S' 65 0 = 0 → S' 65 0 = nI 0 := fun S' _ h => h
    have mk : ∀ (S' S2 : St), QM S1 S' → S' 65 0 = 0 → FS S' S2 → QM S1 S2 ∧ S2 65 0 = 0 := fun S' S2 q z f => ⟨q.trans (QM_fs f), by rw [f.2.1 0 (by decide)]; exact z⟩
    have fin : ∀ S' : St, QM S1 S' → S' 65 0 = 0 → SoA (gl G) (gb G) (S' 87) (10 * lp (gl G)) (num (gsV (gl G) (gb G)) (10 * lp (gl G))) → k_m_look_96 E d S' (nI w) (num (gsV (gl G) (gb G)) (10 * lp (gl G))) (-1) 0 0 Q := by
      intro S' q' z' hS
      have L' := LM_qm L1 q'
      have h : ∀ v, v = vLook G (nI w) → Q v S' := fun v hv => h S' v (q1.trans q') z' (fun _ => hv)
      unfold vLook at h
      have nl := num_le (gsV (gl G) (gb G)) (10 * lp (gl G))
      generalize hN : num (gsV (gl G) (gb G)) (10 * lp (gl G)) = N at *
      -- how many unlike ones a puffball has
      have cntU : ∀ x, x < lb (gl G) → ∃ u : Nat → Nat, (∀ a, a < N → u a < 128 ∧ S' 87 (10 * a + x) = nI (u a)) ∧ num (fun a => decide (∀ b, b < a → ¬ u b = u a)) N = unl (gl G) (gb G) x := fun x hx => by
        have hS := hS x hx
        have vals : ∀ a, a < N → ∃ v, v < 128 ∧ S' 87 (10 * a + x) = nI v := fun a ha => by
          obtain ⟨g, _, _, e⟩ := hS.1 a ha
          obtain ⟨v, hv, ev⟩ := gsx_ok hG.1 hG.aok (g := g) hx
          exact ⟨v, by omega, by rw [e]; exact ev⟩
        refine ⟨fun a => tN (S' 87 (10 * a + x)), fun a ha => ?_, ?_⟩
        · obtain ⟨v, hv, ev⟩ := vals a ha
          show tN (S' 87 (10 * a + x)) < 128 ∧ S' 87 (10 * a + x) = nI (tN (S' 87 (10 * a + x)))
          rw [ev, tN_nI (by omega)]
          exact ⟨hv, rfl⟩
        · rw [num_unl N (fun a ha => by obtain ⟨v, hv, ev⟩ := vals a ha; rw [ev, tN_nI (by omega)]; exact hv)]
          unfold unl
          refine num_congr (fun v hv => ?_)
          by_cases e : ∃ g, g < 10 * lp (gl G) ∧ gsV (gl G) (gb G) g = true ∧ gsx (gl G) (gb G) g x = nI v
          · rw [@decide_eq_true _ (Classical.propDecidable _) e]
            refine decide_eq_true ?_
            obtain ⟨g, g1, g2, g3⟩ := e
            obtain ⟨a, ha, ea⟩ := hS.2 g g1 g2
            exact ⟨a, ha, by rw [ea, g3, tN_nI (by omega)]⟩
          · rw [@decide_eq_false _ (Classical.propDecidable _) e]
            refine decide_eq_false (fun ⟨a, ha, ea⟩ => e ?_)
            obtain ⟨g, g1, g2, g3⟩ := hS.1 a ha
            obtain ⟨v', hv', ev'⟩ := vals a ha
            rw [ev', tN_nI (by omega)] at ea
            exact ⟨g, g1, g2, by rw [← g3, ev', ea]⟩
      -- the loop over puffballs
      have bal : ∀ x, x ≤ lb (gl G) → ∀ o m, o = oI (if N = 0 then none else bsu (unl (gl G) (gb G)) x) → m = (match (if N = 0 then none else bsu (unl (gl G) (gb G)) x) with | none => 0 | some y => unl (gl G) (gb G) y) → k_m_look_96 E d S' (nI w) N o (nI m) x Q := by
        refine dn (lb (gl G)) ?_ (fun x hx ih => ?_)
        · intro o m ho hm
          refine w_m_look_96 (by omega) (ilp (lb (gl G)) L'.b (by omega) (by omega) (fun _ => ?_) (fun h => absurd h (Nat.lt_irrefl _)))
          unfold bsL at h
          rw [hN] at h
          refine ife (fun e => ?_) (fun e => ?_)
          · rw [if_pos e] at h
            exact h _ ho
          · rw [if_neg e] at h
            refine h _ ?_
            rw [hm]
            cases (if N = 0 then none else bsu (unl (gl G) (gb G)) (lb (gl G))) <;> rfl
        · intro o m ho hm
          refine w_m_look_96 (by omega) (ilp (lb (gl G)) L'.b (by omega) (by omega) (fun h => by omega) (fun _ => ?_))
          obtain ⟨u, hu, hc⟩ := cntU x hx
          refine dn (P := fun a => k_m_look_111 E d S' (nI w) N o (nI m) x (nI (num (fun a => decide (∀ b, b < a → ¬ u b = u a)) a)) a Q) N ?_ ?_ 0 (Nat.zero_le _)
          · rw [hc]
            refine w_m_look_111 (by omega) ?_
            rw [if_pos (Int32.le_refl _)]
            have ul : ∀ y, unl (gl G) (gb G) y ≤ 128 := fun y => num_le _ _
            by_cases n0 : N = 0
            · have uz : unl (gl G) (gb G) x = 0 := by
                rw [← hc, n0]
                rfl
              rw [if_pos n0] at ho hm
              have hm : m = 0 := hm
              rw [hm, uz, if_neg Int32.lt_irrefl]
              exact ih o 0 (by rw [ho, if_pos n0]) (by rw [if_pos n0])
            · rw [if_neg n0] at ho hm
              have pos : 0 < unl (gl G) (gb G) x := by
                rw [← hc]
                have := (num_0 (p := fun a => decide (∀ b, b < a → ¬ u b = u a)) N).mp
                refine Nat.pos_of_ne_zero (fun e => ?_)
                have := this e 0 (by omega)
                rw [decide_eq_false_iff_not] at this
                exact this (fun b hb => absurd hb (Nat.not_lt_zero b))
              have ux := ul x
              cases eb : bsu (unl (gl G) (gb G)) x with
              | none =>
                rw [eb] at hm ho
                have hm : m = 0 := hm
                rw [hm, if_pos (nI_lt (a := 0) pos (by omega))]
                refine ih _ _ ?_ ?_
                · rw [if_neg n0, bsu, eb]
                  rfl
                · rw [if_neg n0, bsu, eb]
              | some y =>
                rw [eb] at hm ho
                have hm : m = unl (gl G) (gb G) y := hm
                have uy := ul y
                refine ife (fun g => ?_) (fun g => ?_)
                · rw [nI_ltI (by omega) (by omega)] at g
                  have e2 : bsu (unl (gl G) (gb G)) (x + 1) = some x := by
                    rw [bsu, eb]
                    exact if_pos (by omega)
                  refine ih _ _ ?_ ?_
                  · rw [if_neg n0, e2]
                    rfl
                  · rw [if_neg n0, e2]
                · rw [nI_ltI (by omega) (by omega)] at g
                  have e2 : bsu (unl (gl G) (gb G)) (x + 1) = some y := by
                    rw [bsu, eb]
                    exact if_neg (by omega)
                  refine ih _ _ ?_ ?_
                  · rw [if_neg n0, e2, ho]
                  · rw [if_neg n0, e2, hm]
          · intro a ha iha
            refine w_m_look_111 (by omega) ?_
            rw [if_neg (nI_ge ha (by omega))]
            have ua := hu a ha
            have tail : ∀ is : Bool, is = decide (∀ b, b < a → ¬ u b = u a) → ∀ v : Int32, v = (if is then 1 else 0) → k_m_look_177 E d S' (nI w) N o (nI m) x (nI (num (fun a => decide (∀ b, b < a → ¬ u b = u a)) a)) a v Q := fun is his v hv => by
              rw [num_succ, ← his] at iha
              refine w_m_look_177 (by omega) ?_
              cases is with
              | true =>
                rw [hv, if_neg (show ¬ (if true = true then (1 : Int32) else 0) = 0 by decide), nI_1]
                exact iha
              | false =>
                rw [hv, if_pos (show (if false = true then (1 : Int32) else 0) = 0 by decide), Int32.add_zero]
                exact iha
            have l123 : ∀ b, b ≤ a → ∀ is : Bool, is = decide (∀ j, j < b → ¬ u j = u a) → k_m_look_123 E d S' (nI w) N o (nI m) x (nI (num (fun a => decide (∀ b, b < a → ¬ u b = u a)) a)) a (if is then 1 else 0) b Q := by
              refine dn a ?_ (fun b hb ihb => ?_)
              · intro is his
                refine w_m_look_123 (by omega) ?_
                rw [if_pos (Int32.le_refl _)]
                exact tail is his _ rfl
              · intro is his
                refine w_m_look_123 (by omega) ?_
                rw [if_neg (nI_ge hb (by omega))]
                have ub := hu b (by omega)
                cases is with
                | false =>
                  rw [if_pos (show (if false = true then (1 : Int32) else 0) = 0 by decide)]
                  refine tail false ?_ _ rfl
                  symm
                  refine decide_eq_false (fun g => ?_)
                  have := of_decide_eq_false his.symm
                  exact this (fun j hj => g j (by omega))
                | true =>
                  have all := of_decide_eq_true his.symm
                  rw [if_neg (show ¬ (if true = true then (1 : Int32) else 0) = 0 by decide)]
                  refine ⟨by omega, by omega, ?_⟩
                  rw [ua.2, ub.2]
                  refine ife (fun g => ?_) (fun g => ?_)
                  · rw [nI_eq (by omega) (by omega)] at g
                    refine ihb false ?_
                    symm
                    exact decide_eq_false (fun k => k b (by omega) g.symm)
                  · rw [nI_eq (by omega) (by omega)] at g
                    refine ihb true ?_
                    symm
                    refine decide_eq_true (fun j hj => ?_)
                    by_cases e : j = b
                    · rw [e]
                      exact fun e => g e.symm
                    · exact all j (by omega)
            exact l123 0 (Nat.zero_le _) true (by symm; exact decide_eq_true (fun j hj => absurd hj (Nat.not_lt_zero j)))
      have g0 : (if N = 0 then none else bsu (unl (gl G) (gb G)) 0) = none := by split <;> rfl
      refine bal 0 (Nat.zero_le _) _ 0 ?_ ?_
      · rw [g0]
        rfl
      · rw [g0]
    have main : ∀ k, k ≤ 10 * lp (gl G) → ∀ S' : St, QM S1 S' → S' 65 0 = 0 → SoA (gl G) (gb G) (S' 87) k (num (gsV (gl G) (gb G)) k) → k_m_look_20 E d S' (nI w) (num (gsV (gl G) (gb G)) k) (nI k) Q := by
      refine dn (10 * lp (gl G)) ?_ (fun k hk ih => ?_)
      · intro S' q' z' hS
        refine w_m_look_20 (by omega) ?_
        rw [(LM_qm L1 q').p, show (10 : Int32) = nI 10 from rfl, pk_mul, if_pos (nI_le (Nat.le_refl _) (by omega))]
        exact fin S' q' z' hS
      · intro S' q' z' hS
        refine w_m_look_20 (by omega) ?_
        rw [(LM_qm L1 q').p, show (10 : Int32) = nI 10 from rfl, pk_mul, if_neg (nI_ge hk (by omega))]
        have A' : ScM (gl G) (S' 77) 0 (gA G) := ScM_lo hG.1 A1 (fun i hi => q'.2.2 i hi)
        have I' : SiM S' (gb G) := (RelM_qm (RelM_qm hR q1) q').si
        have nl := num_le (gsV (gl G) (gb G)) k
        refine e_isGuess (b := gb G) (by omega) (LM_qm L1 q') hG.2.1 I' A' hk (fun S2 f2 hg hv => ?_) (fun S2 f2 hg => ?_)
        · rw [if_neg (by decide)]
          have m2 := mk S' S2 q' z' f2
          have e87 : S2 87 = S' 87 := f2.1 87 (by decide)
          generalize hM : num (gsV (gl G) (gb G)) k = M at *
          have ih := fun S3 q3 z3 hS3 => ih S3 q3 z3 (by rw [num_succ, hM, if_pos hg]; exact hS3)
          rw [num_succ, hM, if_pos hg] at ih
          refine dn (P := fun x => ∀ S3 : St, Fr [87] S2 S3 → (∀ j, j < 10 * M → S3 87 j = S' 87 j) → (∀ y, y < x → S3 87 (10 * M + y) = gsx (gl G) (gb G) k y) → k_m_look_45 E d S3 (nI w) M (nI k) (nI x) Q) (lb (gl G)) ?_ ?_ 0 (Nat.zero_le _) S2 (Fr.refl _ _) (fun j _ => by rw [e87]) (fun y hy => absurd hy (Nat.not_lt_zero y))
          · intro S3 f3 o3 v3
            have q3 : QM S1 S3 := m2.1.trans (QM_fr f3 (by decide))
            refine w_m_look_45 (by omega) ?_
            rw [(LM_qm L1 q3).b, if_pos (Int32.le_refl _), nI_1]
            refine ih S3 q3 (by rw [f3 65 (by decide)]; exact m2.2) (fun x hx => ⟨fun a ha => ?_, fun g g1 g2 => ?_⟩)
            · by_cases e : a = M
              · rw [e]
                exact ⟨k, by omega, hg, v3 x hx⟩
              · obtain ⟨g, g1, g2, g3⟩ := (hS x hx).1 a (by omega)
                exact ⟨g, by omega, g2, by rw [o3 _ (by omega)]; exact g3⟩
            · by_cases e : g = k
              · rw [e]
                exact ⟨M, by omega, v3 x hx⟩
              · obtain ⟨a, a1, a2⟩ := (hS x hx).2 g (by omega) g2
                exact ⟨a, by omega, by rw [o3 _ (by omega)]; exact a2⟩
          · intro x hx ihx S3 f3 o3 v3
            have q3 : QM S1 S3 := m2.1.trans (QM_fr f3 (by decide))
            refine w_m_look_45 (by omega) ?_
            rw [(LM_qm L1 q3).b, if_neg (nI_ge hx (by omega))]
            refine ⟨x, rfl, by omega, 10 * M + x, nI_add _ _, by omega, fun S4 e4 => ?_⟩
            rw [nI_1]
            refine ihx S4 (f3.trans (by rw [e4]; exact Fr.up _ _ (by decide))) (fun j hj => ?_) (fun y hy => ?_)
            · rw [e4, up_same, upd_ne _ _ (by omega)]
              exact o3 j hj
            · rw [e4, up_same]
              by_cases e : y = x
              · rw [e, upd_same, f3 86 (by decide)]
                exact hv x hx
              · rw [upd_ne _ _ (by omega)]
                exact v3 y (by omega)
        · rw [if_pos rfl, nI_1]
          have m2 := mk S' S2 q' z' f2
          have ih := ih S2 m2.1 m2.2
          rw [num_succ, if_neg (by rw [hg]; decide), f2.1 87 (by decide)] at ih
          refine ih (fun x hx => ⟨fun a ha => ?_, fun g g1 g2 => ?_⟩)
          · obtain ⟨g, g1, g2, g3⟩ := (hS x hx).1 a ha
            exact ⟨g, by omega, g2, g3⟩
          · refine (hS x hx).2 g ?_ g2
            by_cases e : g = k
            · rw [e, hg] at g2
              cases g2
            · omega
    exact main 0 (Nat.zero_le _) S1 (QM.refl _) t1 (fun x _ => ⟨fun a ha => absurd ha (Nat.not_lt_zero a), fun g hg => absurd hg (Nat.not_lt_zero g)⟩)
  · rw [if_pos rfl]
    have hc : cd3 false (ng 2 c) false = 1 := by unfold cd3; rw [show ng 2 c = true from decide_eq_true e]; rfl
    refine h _ _ (q1.trans (QM_up _ (by decide))) (by rw [up_same, upd_same, hc]; rfl) (fun h0 => by rw [hc] at h0; cases h0)
end GN
