/-- behind a question to the class -/
def PQ (G : Gst) (c : Nat) (v : Int32) (m : Nat) (x : Int32) (S : St) : Prop := x = nI c ∧ RelC G S ∧ RelM G S ∧ (S 1000 0).toNatClampNeg ≤ m + 1 ∧ (c = 0 → catL (S 91 0) (S 91 1) = Int32.toInt64 v)
section LQ
variable {G : Gst} {S : St} {E : zX} {d : Nat} {a0 : UInt32} {a4 n m c : Nat} {v : Int32} {f : Nat → Int32} {Q : Int32 → St → Prop}
theorem pq_good {S2 S3 : St} (hC : RelC G S) (hM : RelM G S) (hn : (S 1000 0).toNatClampNeg ≤ m) (q : QC S S2) (e : S3 = upA S2 91 (Int32.toInt64 v)) (hc : c = 0) : PQ G c v m 0 S3 := by
  have o : ∀ k, k ≠ 91 → S3 k = S2 k := fun k hk => by rw [e, upA_ne _ hk]
  refine ⟨by rw [hc]; rfl, RelC_of hC (fun k hk => by rw [o k (by omega), q k (by omega)]), RelM_c hM (fun k a b => by rw [o k (by omega), q k (by omega)]), ?_, fun _ => by rw [e, upA_cat]⟩
  rw [o 1000 (by omega), q 1000 (by omega)]
  omega
theorem pq_bad {k : Nat} (hC : RelC G S) (hM : RelM G S) (hm : m < 900000) (hn : (S 1000 0).toNatClampNeg ≤ m) (hc : c = k + 1) : PQ G c v m (nI (k + 1)) (upT S) := ⟨by rw [hc], RelC_of hC (fun k hk => upT_ne (by omega)), RelM_c hM (fun k a b => upT_ne (by omega)), upT_n hm hn, fun h => by omega⟩
theorem l_end {S1 S2 : St} {x v' : Int32} (hG : GInv G) (hP : PQ G c v m x S1) (q : QM S1 S2) (z : S2 65 0 = nI c) (hv : c = 0 → v' = v) (h2 : c ≤ 2) (h : ∀ S', LI S' (m + 1) → k_law_law_2231 E d S' a0 a4 Q) : k_m_thrown E (d - 1) S2 (fun x13 S14 => if x13 = x then (if x = 0 then (if (lg_cmp (catL (S14 91 0) (S14 91 1)) (Int32.toInt64 v')) = 0 then k_law_law_2231 E d S14 a0 a4 Q else Q (0 : Int32) S14) else k_law_law_2231 E d S14 a0 a4 Q) else Q (0 : Int32) S14) := by
  obtain ⟨p1, p2, p3, p4, p5⟩ := hP
  have me := ME_qm p3 q
  have g := h S2 ⟨G, hG, RelC_of p2 (fun k hk => me.2 k (by omega)), me.1, by rw [me.2 1000 (by omega)]; exact p4⟩
  refine w_m_thrown ?_
  rw [z, p1, if_pos rfl]
  refine ife (fun e => ?_) (fun _ => g)
  have e : nI c = nI 0 := e
  rw [nI_eq (by omega) (by omega)] at e
  rw [me.2 91 (by omega), p5 e, hv e, if_pos ((lg0 _ _).mpr rfl)]
  exact g
theorem l_then (hd : 25 ≤ d) (hm : m < 900000) (hO : out E a0 = some (0, n, f)) (hl : a4 + 5 < n) (h31 : n < 2 ^ 31) (hI : LI S m) (h : ∀ S', LI S' (m + 1) → k_law_law_2231 E d S' a0 a4 Q) : k_law_law_851 E d S a0 a4 Q := by
  obtain ⟨G, hG, hC, hM, hn⟩ := hI
  have i : ∀ j, j ≤ 5 → ix (nI (a4 + j)) n := fun j hj => ix_nI (by omega) h31
  have c2 : ∀ p q r, cd3 p q r ≤ 2 := by decide
  refine w_law_law_851 (by omega) ⟨n, f, hO, i 1 (by omega), n, f, hO, i 2 (by omega), n, f, hO, i 3 (by omega), ?_⟩
  have go : ∀ (x : Int32) (S1 : St), PQ G (cThen G (f (nI (a4 + 1)).toNatClampNeg) (f (nI (a4 + 2)).toNatClampNeg) (f (nI (a4 + 3)).toNatClampNeg)) (vThen G (f (nI (a4 + 1)).toNatClampNeg) (f (nI (a4 + 2)).toNatClampNeg) (f (nI (a4 + 3)).toNatClampNeg)) m x S1 → k_m_then E (d - 1) S1 (f (nI (a4 + 1)).toNatClampNeg) (f (nI (a4 + 2)).toNatClampNeg) (f (nI (a4 + 3)).toNatClampNeg) (fun x15 S16 => k_m_thrown E (d - 1) S16 (fun x17 S18 => if x17 = x then (if x = 0 then (if (lg_cmp (catL (S18 91 0) (S18 91 1)) (Int32.toInt64 x15)) = 0 then k_law_law_2231 E d S18 a0 a4 Q else Q (0 : Int32) S18) else k_law_law_2231 E d S18 a0 a4 Q) else Q (0 : Int32) S18)) := fun x S1 P => m_then (by omega) hG P.2.2.1 (fun S2 v2 q2 z2 e2 => l_end hG P q2 z2 e2 (c2 _ _ _) h)
  refine w_law_then (by omega) (x_then (by omega) hG hC (by omega) (fun e0 S2 q S3 e3 => ⟨n, f, hO, i 1 (by omega), n, f, hO, i 2 (by omega), n, f, hO, i 3 (by omega), go 0 S3 (pq_good hC hM hn q e3 e0)⟩) (fun k ek => ?_))
  have hk : k < 2 := by
    have := c2 (ng (lb (gl G)) (f (nI (a4 + 1)).toNatClampNeg)) (ng 3 (f (nI (a4 + 3)).toNatClampNeg)) (ngD 0 (f (nI (a4 + 2)).toNatClampNeg))
    unfold cThen at ek
    omega
  have P := pq_bad (v := vThen G (f (nI (a4 + 1)).toNatClampNeg) (f (nI (a4 + 2)).toNatClampNeg) (f (nI (a4 + 3)).toNatClampNeg)) hC hM hm hn ek
  rcases (show k = 0 ∨ k = 1 by omega) with k0 | k1
  · subst k0
    exact Or.inl ⟨rfl, n, f, hO, i 1 (by omega), n, f, hO, i 2 (by omega), n, f, hO, i 3 (by omega), go 1 _ P⟩
  · subst k1
    exact Or.inr ⟨rfl, n, f, hO, i 1 (by omega), n, f, hO, i 2 (by omega), n, f, hO, i 3 (by omega), go 2 _ P⟩
end LQ
