/-! ALL THAT IS SO: land, scene, acts, sights, image, tape, fault, refusals; in the class, in the reference -/
/-- a book: the scene, acts, sights (which, when, white) -/
abbrev Bok : Type := Scn × (Nat × (Nat → Scn)) × (Nat × (Nat → Nat × Nat × Nat))
abbrev Gst : Type := Lnd × Bok × Option Bok × (Nat × (Nat → Int32)) × Int32 × (Nat → Int32)
def gl (G : Gst) : Lnd := G.1
def gb (G : Gst) : Bok := G.2.1
def gA (G : Gst) : Scn := G.2.1.1
def gi (G : Gst) : Option Bok := G.2.2.1
def gtn (G : Gst) : Nat := G.2.2.2.1.1
def gt (G : Gst) : Nat → Int32 := G.2.2.2.1.2
def gf (G : Gst) : Int32 := G.2.2.2.2.1
def gr (G : Gst) : Nat → Int32 := G.2.2.2.2.2
def BInv (l : Lnd) (b : Bok) : Prop := AOk l b.1 ∧ b.2.1.1 ≤ 40 ∧ (∀ j, j < b.2.1.1 → AOk l (b.2.1.2 j)) ∧ b.2.2.1 ≤ 8 ∧ ∀ j, j < b.2.2.1 → (b.2.2.2 j).1 < lb l ∧ (b.2.2.2 j).2.1 ≤ 20 ∧ (b.2.2.2 j).2.2 ≤ 1
def GInv (G : Gst) : Prop := LOk (gl G) ∧ BInv (gl G) (gb G) ∧ (∀ b, gi G = some b → BInv (gl G) b) ∧ gtn G ≤ 700 ∧ ∀ i, i < gtn G → ∃ n, n < 256 ∧ gt G i = nI n
def BkC (l : Lnd) (S : St) (o : Nat) (b : Bok) : Prop := ScC l (S (o + 2)) b.1 ∧ S o 1 = nI b.2.1.1 ∧ (∀ j, j < b.2.1.1 → ScC l (fun i => S (o + 3) (70 * j + i)) (b.2.1.2 j)) ∧ S o 3 = nI b.2.2.1 ∧ ∀ j, j < b.2.2.1 → S (o + 4) j = nI (b.2.2.2 j).1 ∧ S (o + 5) j = nI (b.2.2.2 j).2.1 ∧ S (o + 6) j = nI (b.2.2.2 j).2.2
def RelC (G : Gst) (S : St) : Prop := LC (gl G) S ∧ BkC (gl G) S 24 (gb G) ∧ S 0 8 = zb ((gi G).isSome = true) ∧ (∀ b, gi G = some b → BkC (gl G) S 31 b) ∧ S 0 1 = nI (gtn G) ∧ (∀ i, i < gtn G → S 1 i = gt G i) ∧ S 0 2 = gf G ∧ ∀ i, i < 3 → S 2 i = gr G i
/-- in the reference: where the row, acts, sights and their numbers lie -/
def BkM (l : Lnd) (r a s : Nat → Int32) (na ns : Int32) (b : Bok) : Prop := ScM l r 0 b.1 ∧ na = nI b.2.1.1 ∧ (∀ j, j < b.2.1.1 → ScM l a (79 * j) (b.2.1.2 j)) ∧ ns = nI b.2.2.1 ∧ ∀ j, j < b.2.2.1 → s (3 * j) = nI (b.2.2.2 j).1 ∧ s (3 * j + 1) = nI (b.2.2.2 j).2.1 ∧ s (3 * j + 2) = nI (b.2.2.2 j).2.2
def RelM (G : Gst) (S : St) : Prop := LM (gl G) S ∧ BkM (gl G) (S 77) (S 78) (S 85) (S 65 42) (S 65 53) (gb G) ∧ S 65 58 = zb ((gi G).isSome = true) ∧ (∀ b, gi G = some b → BkM (gl G) (S 88) (S 89) (S 90) (S 65 59) (S 65 60) b) ∧ S 65 11 = nI (gtn G) ∧ (∀ i, i < gtn G → S 69 i = gt G i) ∧ S 65 13 = gf G ∧ ∀ i, i < 3 → S 70 i = gr G i
/-- what queries leave in the class -/
def QC (S S' : St) : Prop := ∀ k, k < 12 ∨ (24 ≤ k ∧ k ≤ 37) ∨ 65 ≤ k → S' k = S k
theorem QC.refl (S : St) : QC S S := fun _ _ => rfl
theorem QC.trans {S S1 S2 : St} (h1 : QC S S1) (h2 : QC S1 S2) : QC S S2 := fun k hk => (h2 k hk).trans (h1 k hk)
theorem QC_fr {S S' : St} {ks : List Nat} (h : Fr ks S S') (hk : ∀ k, k ∈ ks → (12 ≤ k ∧ k < 24) ∨ (38 ≤ k ∧ k < 65)) : QC S S' := fun k hq => h k (fun hm => by
  have := hk k hm
  omega)
theorem QC_dl {q : Nat} {S S' : St} (h : Fr (dl q) S S') (hq : q = 44 ∨ q = 55 ∨ q = 57 ∨ q = 61) : QC S S' := QC_fr h (fun k hk => by
  unfold dl at hk
  simp only [List.mem_cons, List.not_mem_nil, or_false] at hk
  omega)
theorem BkC_of {l : Lnd} {S S' : St} {o : Nat} {b : Bok} (h : BkC l S o b) (e : ∀ k, o ≤ k → k ≤ o + 6 → S' k = S k) : BkC l S' o b := by
  unfold BkC
  rw [e o (by omega) (by omega), e (o + 2) (by omega) (by omega), e (o + 3) (by omega) (by omega), e (o + 4) (by omega) (by omega), e (o + 5) (by omega) (by omega), e (o + 6) (by omega) (by omega)]
  exact h
theorem RelC_of {G : Gst} {S S' : St} (h : RelC G S) (e : ∀ k, k < 12 ∨ (24 ≤ k ∧ k ≤ 37) → S' k = S k) : RelC G S' := by
  obtain ⟨h1, h2, h3, h4, h5, h6, h7, h8⟩ := h
  refine ⟨LC_fr h1 (fun k _ h2 => e k (by omega)), BkC_of h2 (fun k _ _ => e k (by omega)), ?_, fun b hb => BkC_of (h4 b hb) (fun k _ _ => e k (by omega)), ?_, ?_, ?_, ?_⟩
  · rw [e 0 (by omega)]
    exact h3
  · rw [e 0 (by omega)]
    exact h5
  · rw [e 1 (by omega)]
    exact h6
  · rw [e 0 (by omega)]
    exact h7
  · rw [e 2 (by omega)]
    exact h8
theorem RelC_qc {G : Gst} {S S' : St} (h : RelC G S) (f : QC S S') : RelC G S' := RelC_of h (fun k hk => f k (by omega))
theorem RelM_of {G : Gst} {S S' : St} (h : RelM G S) (h1 : ∀ i, i ∉ [0, 45, 46, 47, 48, 57] → S' 65 i = S 65 i) (h2 : ∀ k, k ∈ [66, 67, 68, 69, 70, 78, 85, 88, 89, 90] → S' k = S k) (h3 : ∀ i, i < 79 → S' 77 i = S 77 i) : RelM G S' := by
  obtain ⟨g1, g2, g3, g4, g5, g6, g7, g8⟩ := h
  refine ⟨LM_of g1 (fun i a b => h1 i (by simp only [List.mem_cons, List.not_mem_nil, or_false]; omega)) (h2 66 (by decide)) (h2 67 (by decide)) (h2 68 (by decide)), ?_, ?_, ?_, ?_, ?_, ?_, ?_⟩
  · obtain ⟨b1, b2, b3, b4, b5⟩ := g2
    rw [h2 78 (by decide), h2 85 (by decide), h1 42 (by decide), h1 53 (by decide)]
    exact ⟨ScM_lo g1.ok b1 h3, b2, b3, b4, b5⟩
  · rw [h1 58 (by decide)]
    exact g3
  · intro b hb
    rw [h2 88 (by decide), h2 89 (by decide), h2 90 (by decide), h1 59 (by decide), h1 60 (by decide)]
    exact g4 b hb
  · rw [h1 11 (by decide)]
    exact g5
  · rw [h2 69 (by decide)]
    exact g6
  · rw [h1 13 (by decide)]
    exact g7
  · rw [h2 70 (by decide)]
    exact g8
theorem RelM_qm {G : Gst} {S S' : St} (h : RelM G S) (f : QM S S') : RelM G S' := RelM_of h f.2.1 (fun k hk => f.1 k (Or.inr (Or.inl hk))) f.2.2
theorem AOk.grd {l : Lnd} {A : Scn} (h : AOk l A) : GOk l A := fun x hx => (h.1 x hx).2.2
/-! what is asked for is there -/
def ng (n : Nat) (a : Int32) : Bool := decide (a < 0 ∨ nI n ≤ a)
def ngD (lo : Nat) (a : Int32) : Bool := decide (a < nI lo ∨ nI 61 ≤ a)
section ND
variable {l : Lnd} {S : St} {E : zX} {d : Nat} {a : Int32} {Q : St → Prop} {X : Nat → St → Prop}
theorem ng_f {n x : Nat} (hn : n < 1000000) (hx : x < n) : ng n (nI x) = false := decide_eq_false (fun h => by
  rcases h with h | h
  · exact nI_pos (by omega) h
  · exact nI_ge hx (by omega) h)
theorem ng_t {n : Nat} (h : a < 0 ∨ nI n ≤ a) : ng n a = true := decide_eq_true h
theorem ngD_f {lo x : Nat} (h0 : lo ≤ x) (hx : x ≤ 60) : ngD lo (nI x) = false := decide_eq_false (fun h => by
  rcases h with h | h
  · exact nI_nlt h0 (by omega) h
  · exact nI_ge (b := 61) (by omega) (by omega) h)
theorem n_ball (hd : 8 ≤ d) (hL : LC l S) (hn : (S 1000 0).toNatClampNeg < 1000000) (h1 : ∀ x, x < lb l → a = nI x → Q S) (hX : ng (lb l) a = true → X 0 (upT S)) : k_x_needBall E d S a Q X := by
  have b10 := hL.ok.b10
  refine w_x_needBall hd ?_
  rw [hL.b]
  rcases pk_ix a (n := lb l) (by omega) with h | h | ⟨x, hx, rfl⟩
  · rw [if_pos h]
    exact ⟨hn, hX (ng_t (Or.inl h))⟩
  · refine ife (fun _ => ⟨hn, hX (ng_t (Or.inr h))⟩) (fun _ => ?_)
    rw [if_neg (Int32.not_lt.mpr h)]
    exact ⟨hn, hX (ng_t (Or.inr h))⟩
  · rw [if_neg (nI_pos (by omega)), if_pos (nI_lt hx (by omega))]
    exact h1 x hx rfl
theorem n_person (hd : 8 ≤ d) (hL : LC l S) (hn : (S 1000 0).toNatClampNeg < 1000000) (h1 : ∀ x, x < lp l → a = nI x → Q S) (hX : ng (lp l) a = true → X 0 (upT S)) : k_x_needPerson E d S a Q X := by
  have p7 := hL.ok.p7
  refine w_x_needPerson hd ?_
  rw [hL.p]
  rcases pk_ix a (n := lp l) (by omega) with h | h | ⟨x, hx, rfl⟩
  · rw [if_pos h]
    exact ⟨hn, hX (ng_t (Or.inl h))⟩
  · refine ife (fun _ => ⟨hn, hX (ng_t (Or.inr h))⟩) (fun _ => ?_)
    rw [if_neg (Int32.not_lt.mpr h)]
    exact ⟨hn, hX (ng_t (Or.inr h))⟩
  · rw [if_neg (nI_pos (by omega)), if_pos (nI_lt hx (by omega))]
    exact h1 x hx rfl
theorem n_cell (hd : 8 ≤ d) (hL : LC l S) (hn : (S 1000 0).toNatClampNeg < 1000000) (h1 : ∀ x, x < lw l * lh l → a = nI x → Q S) (hX : ng (lw l * lh l) a = true → X 0 (upT S)) : k_x_needCell E d S a Q X := by
  have c36 := hL.ok.c36
  refine w_x_needCell hd ?_
  rw [hL.cells]
  rcases pk_ix a (n := lw l * lh l) (by omega) with h | h | ⟨x, hx, rfl⟩
  · rw [if_pos h]
    exact ⟨hn, hX (ng_t (Or.inl h))⟩
  · refine ife (fun _ => ⟨hn, hX (ng_t (Or.inr h))⟩) (fun _ => ?_)
    rw [if_neg (Int32.not_lt.mpr h)]
    exact ⟨hn, hX (ng_t (Or.inr h))⟩
  · rw [if_neg (nI_pos (by omega)), if_pos (nI_lt hx (by omega))]
    exact h1 x hx rfl
theorem n_what {n : Nat} (hd : 8 ≤ d) (hn6 : n < 1000) (hn : (S 1000 0).toNatClampNeg < 1000000) (h1 : ∀ x, x ≤ n → a = nI x → Q S) (hX : ng (n + 1) a = true → X 0 (upT S)) : k_x_needWhat E d S a (nI n) Q X := by
  refine w_x_needWhat hd ?_
  rcases pk_ix a (n := n + 1) (by omega) with h | h | ⟨x, hx, rfl⟩
  · rw [if_pos h]
    exact ⟨hn, hX (ng_t (Or.inl h))⟩
  · refine ife (fun _ => ⟨hn, hX (ng_t (Or.inr h))⟩) (fun _ => ?_)
    rw [if_neg (Int32.not_le.mpr ((lt_le (by omega)).mpr h))]
    exact ⟨hn, hX (ng_t (Or.inr h))⟩
  · rw [if_neg (nI_pos (by omega)), if_pos (nI_le (by omega) (by omega))]
    exact h1 x (by omega) rfl
theorem n_days {lo : Nat} (hd : 8 ≤ d) (hlo : lo ≤ 1) (hn : (S 1000 0).toNatClampNeg < 1000000) (h1 : ∀ x, lo ≤ x → x ≤ 60 → a = nI x → Q S) (hX : ngD lo a = true → X 1 (upT S)) : k_x_needDays E d S a (nI lo) Q X := by
  refine w_x_needDays hd (ife (fun h => ⟨hn, hX (decide_eq_true (Or.inl h))⟩) (fun h => ife (fun h2 => ?_) (fun h2 => ⟨hn, hX (decide_eq_true (Or.inr ((lt_le (n := 60) (by omega)).mp (Int32.not_le.mp h2))))⟩)))
  rcases pk_ix a (n := 61) (by omega) with g | g | ⟨x, hx, rfl⟩
  · exact absurd (Int32.lt_of_lt_of_le g (nI_pos' (by omega))) h
  · exact absurd h2 (Int32.not_le.mpr ((lt_le (n := 60) (by omega)).mpr g))
  · refine h1 x ?_ (by omega) rfl
    rw [nI_ltI (by omega) (by omega)] at h
    omega
end ND
theorem evv_lt {l : Lnd} {A : Scn} (hl : LOk l) (k n : Nat) : evv l A k n < 1024 := by
  have p7 := hl.p7
  have h2 : ∀ B : Scn, (zfo (pday l) (lp l) (B, 0, 0)).2.1 < 1024 ∧ (zfo (pday l) (lp l) (B, 0, 0)).2.2 < 1024 := fun B => zfo_inv (P := fun r : Scn × Nat × Nat => r.2.1 < 1024 ∧ r.2.2 < 1024) (fun p r hp h => by
    have hb : 2 ^ p < 2 ^ 10 := Nat.pow_lt_pow_right (by decide) (by omega)
    unfold pday
    simp only
    split
    · exact h
    · split
      · exact ⟨Nat.or_lt_two_pow (n := 10) h.1 hb, h.2⟩
      · exact ⟨h.1, Nat.or_lt_two_pow (n := 10) h.2 hb⟩) ⟨by show (0 : Nat) < 1024; decide, by show (0 : Nat) < 1024; decide⟩
  unfold evv
  split
  · unfold dayF bst
    simp only
    split
    · show (0 : Nat) < 1024
      decide
    · exact mkN_lt10 hl.b10
  · split
    · exact (h2 _).1
    · exact (h2 _).2
