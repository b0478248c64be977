section LQ2
variable {G : Gst} {S : St} {E : zX} {d : Nat} {a0 : UInt32} {a4 n m : Nat} {f : Nat → Int32} {Q : Int32 → St → Prop}
theorem l_count (hd : 25 ≤ d) (hm : m < 900000) (hO : out E a0 = some (0, n, f)) (hl : a4 + 5 < n) (h31 : n < 2 ^ 31) (hI : LI S m) (h : ∀ S', LI S' (m + 1) → k_law_law_2231 E d S' a0 a4 Q) : k_law_law_338 E d S a0 a4 Q := by
  obtain ⟨G, hG, hC, hM, hn⟩ := hI
  have i : ∀ j, j ≤ 5 → ix (nI (a4 + j)) n := fun j hj => ix_nI (by omega) h31
  have hb : cCount (f (nI (a4 + 1)).toNatClampNeg) ≤ 1 := by unfold cCount; first | exact (by decide : ∀ p q r, cd3 p q r ≤ 1) _ _ _ | exact (by decide : ∀ p q, cd3 p q false ≤ 1) _ _
  refine w_law_law_338 (by omega) ⟨n, f, hO, i 1 (by omega), ?_⟩
  have go : ∀ (x : Int32) (S1 : St), PQ G (cCount (f (nI (a4 + 1)).toNatClampNeg)) (vCount G (f (nI (a4 + 1)).toNatClampNeg)) m x S1 → k_m_count E (d - 1) S1 (f (nI (a4 + 1)).toNatClampNeg) (fun x15 S16 => k_m_thrown E (d - 1) S16 (fun x17 S18 => if x17 = x then (if x = 0 then (if (lg_cmp (catL (S18 91 0) (S18 91 1)) (Int32.toInt64 x15)) = 0 then k_law_law_2231 E d S18 a0 a4 Q else Q (0 : Int32) S18) else k_law_law_2231 E d S18 a0 a4 Q) else Q (0 : Int32) S18)) := fun x S1 P => m_count (by omega) hG P.2.2.1 (fun S2 v2 q2 z2 e2 => l_end hG P q2 z2 e2 (Nat.le_trans hb (by decide)) h)
  refine w_law_count (by omega) (x_count (by omega) hG hC (by omega) (fun e0 S2 q S3 e3 => ⟨n, f, hO, i 1 (by omega), go 0 S3 (pq_good hC hM hn q e3 e0)⟩) (fun k ek => ?_))
  have P := pq_bad (v := vCount G (f (nI (a4 + 1)).toNatClampNeg)) hC hM hm hn ek
  have k0 : k = 0 := by omega
  subst k0
  exact ⟨rfl, n, f, hO, i 1 (by omega), go 1 _ P⟩
theorem l_person (hd : 25 ≤ d) (hm : m < 900000) (hO : out E a0 = some (0, n, f)) (hl : a4 + 5 < n) (h31 : n < 2 ^ 31) (hI : LI S m) (h : ∀ S', LI S' (m + 1) → k_law_law_2231 E d S' a0 a4 Q) : k_law_law_394 E d S a0 a4 Q := by
  obtain ⟨G, hG, hC, hM, hn⟩ := hI
  have i : ∀ j, j ≤ 5 → ix (nI (a4 + j)) n := fun j hj => ix_nI (by omega) h31
  have hb : cPerson G (f (nI (a4 + 1)).toNatClampNeg) (f (nI (a4 + 2)).toNatClampNeg) ≤ 1 := by unfold cPerson; first | exact (by decide : ∀ p q r, cd3 p q r ≤ 1) _ _ _ | exact (by decide : ∀ p q, cd3 p q false ≤ 1) _ _
  refine w_law_law_394 (by omega) ⟨n, f, hO, i 1 (by omega), n, f, hO, i 2 (by omega), ?_⟩
  have go : ∀ (x : Int32) (S1 : St), PQ G (cPerson G (f (nI (a4 + 1)).toNatClampNeg) (f (nI (a4 + 2)).toNatClampNeg)) (vPerson G (f (nI (a4 + 1)).toNatClampNeg) (f (nI (a4 + 2)).toNatClampNeg)) m x S1 → k_m_person E (d - 1) S1 (f (nI (a4 + 1)).toNatClampNeg) (f (nI (a4 + 2)).toNatClampNeg) (fun x15 S16 => k_m_thrown E (d - 1) S16 (fun x17 S18 => if x17 = x then (if x = 0 then (if (lg_cmp (catL (S18 91 0) (S18 91 1)) (Int32.toInt64 x15)) = 0 then k_law_law_2231 E d S18 a0 a4 Q else Q (0 : Int32) S18) else k_law_law_2231 E d S18 a0 a4 Q) else Q (0 : Int32) S18)) := fun x S1 P => m_person (by omega) hG P.2.2.1 (fun S2 v2 q2 z2 e2 => l_end hG P q2 z2 e2 (Nat.le_trans hb (by decide)) h)
  refine w_law_person (by omega) (x_person (by omega) hG hC (by omega) (fun e0 S2 q S3 e3 => ⟨n, f, hO, i 1 (by omega), n, f, hO, i 2 (by omega), go 0 S3 (pq_good hC hM hn q e3 e0)⟩) (fun k ek => ?_))
  have P := pq_bad (v := vPerson G (f (nI (a4 + 1)).toNatClampNeg) (f (nI (a4 + 2)).toNatClampNeg)) hC hM hm hn ek
  have k0 : k = 0 := by omega
  subst k0
  exact ⟨rfl, n, f, hO, i 1 (by omega), n, f, hO, i 2 (by omega), go 1 _ P⟩
theorem l_ball (hd : 25 ≤ d) (hm : m < 900000) (hO : out E a0 = some (0, n, f)) (hl : a4 + 5 < n) (h31 : n < 2 ^ 31) (hI : LI S m) (h : ∀ S', LI S' (m + 1) → k_law_law_2231 E d S' a0 a4 Q) : k_law_law_462 E d S a0 a4 Q := by
  obtain ⟨G, hG, hC, hM, hn⟩ := hI
  have i : ∀ j, j ≤ 5 → ix (nI (a4 + j)) n := fun j hj => ix_nI (by omega) h31
  have hb : cBall G (f (nI (a4 + 1)).toNatClampNeg) (f (nI (a4 + 2)).toNatClampNeg) ≤ 1 := by unfold cBall; first | exact (by decide : ∀ p q r, cd3 p q r ≤ 1) _ _ _ | exact (by decide : ∀ p q, cd3 p q false ≤ 1) _ _
  refine w_law_law_462 (by omega) ⟨n, f, hO, i 1 (by omega), n, f, hO, i 2 (by omega), ?_⟩
  have go : ∀ (x : Int32) (S1 : St), PQ G (cBall G (f (nI (a4 + 1)).toNatClampNeg) (f (nI (a4 + 2)).toNatClampNeg)) (vBall G (f (nI (a4 + 1)).toNatClampNeg) (f (nI (a4 + 2)).toNatClampNeg)) m x S1 → k_m_ball E (d - 1) S1 (f (nI (a4 + 1)).toNatClampNeg) (f (nI (a4 + 2)).toNatClampNeg) (fun x15 S16 => k_m_thrown E (d - 1) S16 (fun x17 S18 => if x17 = x then (if x = 0 then (if (lg_cmp (catL (S18 91 0) (S18 91 1)) (Int32.toInt64 x15)) = 0 then k_law_law_2231 E d S18 a0 a4 Q else Q (0 : Int32) S18) else k_law_law_2231 E d S18 a0 a4 Q) else Q (0 : Int32) S18)) := fun x S1 P => m_ball (by omega) hG P.2.2.1 (fun S2 v2 q2 z2 e2 => l_end hG P q2 z2 e2 (Nat.le_trans hb (by decide)) h)
  refine w_law_ball (by omega) (x_ball (by omega) hG hC (by omega) (fun e0 S2 q S3 e3 => ⟨n, f, hO, i 1 (by omega), n, f, hO, i 2 (by omega), go 0 S3 (pq_good hC hM hn q e3 e0)⟩) (fun k ek => ?_))
  have P := pq_bad (v := vBall G (f (nI (a4 + 1)).toNatClampNeg) (f (nI (a4 + 2)).toNatClampNeg)) hC hM hm hn ek
  have k0 : k = 0 := by omega
  subst k0
  exact ⟨rfl, n, f, hO, i 1 (by omega), n, f, hO, i 2 (by omega), go 1 _ P⟩
theorem l_mood (hd : 25 ≤ d) (hm : m < 900000) (hO : out E a0 = some (0, n, f)) (hl : a4 + 5 < n) (h31 : n < 2 ^ 31) (hI : LI S m) (h : ∀ S', LI S' (m + 1) → k_law_law_2231 E d S' a0 a4 Q) : k_law_law_931 E d S a0 a4 Q := by
  obtain ⟨G, hG, hC, hM, hn⟩ := hI
  have i : ∀ j, j ≤ 5 → ix (nI (a4 + j)) n := fun j hj => ix_nI (by omega) h31
  have hb : cMood G (f (nI (a4 + 1)).toNatClampNeg) (f (nI (a4 + 2)).toNatClampNeg) (f (nI (a4 + 3)).toNatClampNeg) ≤ 2 := by unfold cMood; first | exact (by decide : ∀ p q r, cd3 p q r ≤ 2) _ _ _ | exact (by decide : ∀ p q, cd3 p q false ≤ 2) _ _
  refine w_law_law_931 (by omega) ⟨n, f, hO, i 1 (by omega), n, f, hO, i 2 (by omega), n, f, hO, i 3 (by omega), ?_⟩
  have go : ∀ (x : Int32) (S1 : St), PQ G (cMood G (f (nI (a4 + 1)).toNatClampNeg) (f (nI (a4 + 2)).toNatClampNeg) (f (nI (a4 + 3)).toNatClampNeg)) (vMood G (f (nI (a4 + 1)).toNatClampNeg) (f (nI (a4 + 2)).toNatClampNeg) (f (nI (a4 + 3)).toNatClampNeg)) m x S1 → k_m_mood E (d - 1) S1 (f (nI (a4 + 1)).toNatClampNeg) (f (nI (a4 + 2)).toNatClampNeg) (f (nI (a4 + 3)).toNatClampNeg) (fun x15 S16 => k_m_thrown E (d - 1) S16 (fun x17 S18 => if x17 = x then (if x = 0 then (if (lg_cmp (catL (S18 91 0) (S18 91 1)) (Int32.toInt64 x15)) = 0 then k_law_law_2231 E d S18 a0 a4 Q else Q (0 : Int32) S18) else k_law_law_2231 E d S18 a0 a4 Q) else Q (0 : Int32) S18)) := fun x S1 P => m_mood (by omega) hG P.2.2.1 (fun S2 v2 q2 z2 e2 => l_end hG P q2 z2 e2 (Nat.le_trans hb (by decide)) h)
  refine w_law_mood (by omega) (x_mood (by omega) hG hC (by omega) (fun e0 S2 q S3 e3 => ⟨n, f, hO, i 1 (by omega), n, f, hO, i 2 (by omega), n, f, hO, i 3 (by omega), go 0 S3 (pq_good hC hM hn q e3 e0)⟩) (fun k ek => ?_))
  have P := pq_bad (v := vMood G (f (nI (a4 + 1)).toNatClampNeg) (f (nI (a4 + 2)).toNatClampNeg) (f (nI (a4 + 3)).toNatClampNeg)) hC hM hm hn ek
  rcases (show k = 0 ∨ k = 1 by omega) with k0 | k1
  · subst k0
    exact Or.inl ⟨rfl, n, f, hO, i 1 (by omega), n, f, hO, i 2 (by omega), n, f, hO, i 3 (by omega), go 1 _ P⟩
  · subst k1
    exact Or.inr ⟨rfl, n, f, hO, i 1 (by omega), n, f, hO, i 2 (by omega), n, f, hO, i 3 (by omega), go 2 _ P⟩
theorem l_off (hd : 25 ≤ d) (hm : m < 900000) (hO : out E a0 = some (0, n, f)) (hl : a4 + 5 < n) (h31 : n < 2 ^ 31) (hI : LI S m) (h : ∀ S', LI S' (m + 1) → k_law_law_2231 E d S' a0 a4 Q) : k_law_law_1011 E d S a0 a4 Q := by
  obtain ⟨G, hG, hC, hM, hn⟩ := hI
  have i : ∀ j, j ≤ 5 → ix (nI (a4 + j)) n := fun j hj => ix_nI (by omega) h31
  have hb : cd3 (ng (lb (gl G)) (f (nI (a4 + 1)).toNatClampNeg)) false false ≤ 1 := by first | exact (by decide : ∀ p q r, cd3 p q r ≤ 1) _ _ _ | exact (by decide : ∀ p q, cd3 p q false ≤ 1) _ _
  refine w_law_law_1011 (by omega) ⟨n, f, hO, i 1 (by omega), ?_⟩
  have go : ∀ (x : Int32) (S1 : St), PQ G (cd3 (ng (lb (gl G)) (f (nI (a4 + 1)).toNatClampNeg)) false false) (vOff G 0 (f (nI (a4 + 1)).toNatClampNeg)) m x S1 → k_m_off E (d - 1) S1 (f (nI (a4 + 1)).toNatClampNeg) (fun x15 S16 => k_m_thrown E (d - 1) S16 (fun x17 S18 => if x17 = x then (if x = 0 then (if (lg_cmp (catL (S18 91 0) (S18 91 1)) (Int32.toInt64 x15)) = 0 then k_law_law_2231 E d S18 a0 a4 Q else Q (0 : Int32) S18) else k_law_law_2231 E d S18 a0 a4 Q) else Q (0 : Int32) S18)) := fun x S1 P => m_off (by omega) hG P.2.2.1 (fun S2 v2 q2 z2 e2 => l_end hG P q2 z2 e2 (Nat.le_trans hb (by decide)) h)
  refine w_law_off (by omega) (x_off (by omega) hG hC (by omega) (fun e0 S2 q S3 e3 => ⟨n, f, hO, i 1 (by omega), go 0 S3 (pq_good hC hM hn q e3 e0)⟩) (fun k ek => ?_))
  have P := pq_bad (v := vOff G 0 (f (nI (a4 + 1)).toNatClampNeg)) hC hM hm hn ek
  have k0 : k = 0 := by omega
  subst k0
  exact ⟨rfl, n, f, hO, i 1 (by omega), go 1 _ P⟩
theorem l_later (hd : 25 ≤ d) (hm : m < 900000) (hO : out E a0 = some (0, n, f)) (hl : a4 + 5 < n) (h31 : n < 2 ^ 31) (hI : LI S m) (h : ∀ S', LI S' (m + 1) → k_law_law_2231 E d S' a0 a4 Q) : k_law_law_1080 E d S a0 a4 Q := by
  obtain ⟨G, hG, hC, hM, hn⟩ := hI
  have i : ∀ j, j ≤ 5 → ix (nI (a4 + j)) n := fun j hj => ix_nI (by omega) h31
  have hb : cLater (f (nI (a4 + 1)).toNatClampNeg) (f (nI (a4 + 2)).toNatClampNeg) ≤ 2 := by unfold cLater; first | exact (by decide : ∀ p q r, cd3 p q r ≤ 2) _ _ _ | exact (by decide : ∀ p q, cd3 p q false ≤ 2) _ _
  refine w_law_law_1080 (by omega) ⟨n, f, hO, i 1 (by omega), n, f, hO, i 2 (by omega), ?_⟩
  have go : ∀ (x : Int32) (S1 : St), PQ G (cLater (f (nI (a4 + 1)).toNatClampNeg) (f (nI (a4 + 2)).toNatClampNeg)) (vLater G (f (nI (a4 + 1)).toNatClampNeg) (f (nI (a4 + 2)).toNatClampNeg)) m x S1 → k_m_later E (d - 1) S1 (f (nI (a4 + 1)).toNatClampNeg) (f (nI (a4 + 2)).toNatClampNeg) (fun x15 S16 => k_m_thrown E (d - 1) S16 (fun x17 S18 => if x17 = x then (if x = 0 then (if (lg_cmp (catL (S18 91 0) (S18 91 1)) (Int32.toInt64 x15)) = 0 then k_law_law_2231 E d S18 a0 a4 Q else Q (0 : Int32) S18) else k_law_law_2231 E d S18 a0 a4 Q) else Q (0 : Int32) S18)) := fun x S1 P => m_later (by omega) hG P.2.2.1 (fun S2 v2 q2 z2 e2 => l_end hG P q2 z2 e2 (Nat.le_trans hb (by decide)) h)
  refine w_law_later (by omega) (x_later (by omega) hG hC (by omega) (fun e0 S2 q S3 e3 => ⟨n, f, hO, i 1 (by omega), n, f, hO, i 2 (by omega), go 0 S3 (pq_good hC hM hn q e3 e0)⟩) (fun k ek => ?_))
  have P := pq_bad (v := vLater G (f (nI (a4 + 1)).toNatClampNeg) (f (nI (a4 + 2)).toNatClampNeg)) hC hM hm hn ek
  rcases (show k = 0 ∨ k = 1 by omega) with k0 | k1
  · subst k0
    exact Or.inl ⟨rfl, n, f, hO, i 1 (by omega), n, f, hO, i 2 (by omega), go 1 _ P⟩
  · subst k1
    exact Or.inr ⟨rfl, n, f, hO, i 1 (by omega), n, f, hO, i 2 (by omega), go 2 _ P⟩
theorem l_toGuard (hd : 25 ≤ d) (hm : m < 900000) (hO : out E a0 = some (0, n, f)) (hl : a4 + 5 < n) (h31 : n < 2 ^ 31) (hI : LI S m) (h : ∀ S', LI S' (m + 1) → k_law_law_2231 E d S' a0 a4 Q) : k_law_law_1148 E d S a0 a4 Q := by
  obtain ⟨G, hG, hC, hM, hn⟩ := hI
  have i : ∀ j, j ≤ 5 → ix (nI (a4 + j)) n := fun j hj => ix_nI (by omega) h31
  have hb : cGuard G (f (nI (a4 + 1)).toNatClampNeg) (f (nI (a4 + 2)).toNatClampNeg) ≤ 1 := by unfold cGuard; first | exact (by decide : ∀ p q r, cd3 p q r ≤ 1) _ _ _ | exact (by decide : ∀ p q, cd3 p q false ≤ 1) _ _
  refine w_law_law_1148 (by omega) ⟨n, f, hO, i 1 (by omega), n, f, hO, i 2 (by omega), ?_⟩
  have go : ∀ (x : Int32) (S1 : St), PQ G (cGuard G (f (nI (a4 + 1)).toNatClampNeg) (f (nI (a4 + 2)).toNatClampNeg)) (vGuard G (f (nI (a4 + 1)).toNatClampNeg) (f (nI (a4 + 2)).toNatClampNeg)) m x S1 → k_m_toGuard E (d - 1) S1 (f (nI (a4 + 1)).toNatClampNeg) (f (nI (a4 + 2)).toNatClampNeg) (fun x15 S16 => k_m_thrown E (d - 1) S16 (fun x17 S18 => if x17 = x then (if x = 0 then (if (lg_cmp (catL (S18 91 0) (S18 91 1)) (Int32.toInt64 x15)) = 0 then k_law_law_2231 E d S18 a0 a4 Q else Q (0 : Int32) S18) else k_law_law_2231 E d S18 a0 a4 Q) else Q (0 : Int32) S18)) := fun x S1 P => m_toGuard (by omega) hG P.2.2.1 (fun S2 v2 q2 z2 e2 => l_end hG P q2 z2 e2 (Nat.le_trans hb (by decide)) h)
  refine w_law_toGuard (by omega) (x_toGuard (by omega) hG hC (by omega) (fun e0 S2 q S3 e3 => ⟨n, f, hO, i 1 (by omega), n, f, hO, i 2 (by omega), go 0 S3 (pq_good hC hM hn q e3 e0)⟩) (fun k ek => ?_))
  have P := pq_bad (v := vGuard G (f (nI (a4 + 1)).toNatClampNeg) (f (nI (a4 + 2)).toNatClampNeg)) hC hM hm hn ek
  have k0 : k = 0 := by omega
  subst k0
  exact ⟨rfl, n, f, hO, i 1 (by omega), n, f, hO, i 2 (by omega), go 1 _ P⟩
theorem l_fire (hd : 25 ≤ d) (hm : m < 900000) (hO : out E a0 = some (0, n, f)) (hl : a4 + 5 < n) (h31 : n < 2 ^ 31) (hI : LI S m) (h : ∀ S', LI S' (m + 1) → k_law_law_2231 E d S' a0 a4 Q) : k_law_law_1216 E d S a0 a4 Q := by
  obtain ⟨G, hG, hC, hM, hn⟩ := hI
  have i : ∀ j, j ≤ 5 → ix (nI (a4 + j)) n := fun j hj => ix_nI (by omega) h31
  have hb : cFire G (f (nI (a4 + 1)).toNatClampNeg) (f (nI (a4 + 2)).toNatClampNeg) ≤ 1 := by unfold cFire; first | exact (by decide : ∀ p q r, cd3 p q r ≤ 1) _ _ _ | exact (by decide : ∀ p q, cd3 p q false ≤ 1) _ _
  refine w_law_law_1216 (by omega) ⟨n, f, hO, i 1 (by omega), n, f, hO, i 2 (by omega), ?_⟩
  have go : ∀ (x : Int32) (S1 : St), PQ G (cFire G (f (nI (a4 + 1)).toNatClampNeg) (f (nI (a4 + 2)).toNatClampNeg)) (vFire G (f (nI (a4 + 1)).toNatClampNeg) (f (nI (a4 + 2)).toNatClampNeg)) m x S1 → k_m_fire E (d - 1) S1 (f (nI (a4 + 1)).toNatClampNeg) (f (nI (a4 + 2)).toNatClampNeg) (fun x15 S16 => k_m_thrown E (d - 1) S16 (fun x17 S18 => if x17 = x then (if x = 0 then (if (lg_cmp (catL (S18 91 0) (S18 91 1)) (Int32.toInt64 x15)) = 0 then k_law_law_2231 E d S18 a0 a4 Q else Q (0 : Int32) S18) else k_law_law_2231 E d S18 a0 a4 Q) else Q (0 : Int32) S18)) := fun x S1 P => m_fire (by omega) hG P.2.2.1 (fun S2 v2 q2 z2 e2 => l_end hG P q2 z2 e2 (Nat.le_trans hb (by decide)) h)
  refine w_law_fire (by omega) (x_fire (by omega) hG hC (by omega) (fun e0 S2 q S3 e3 => ⟨n, f, hO, i 1 (by omega), n, f, hO, i 2 (by omega), go 0 S3 (pq_good hC hM hn q e3 e0)⟩) (fun k ek => ?_))
  have P := pq_bad (v := vFire G (f (nI (a4 + 1)).toNatClampNeg) (f (nI (a4 + 2)).toNatClampNeg)) hC hM hm hn ek
  have k0 : k = 0 := by omega
  subst k0
  exact ⟨rfl, n, f, hO, i 1 (by omega), n, f, hO, i 2 (by omega), go 1 _ P⟩
theorem l_pram (hd : 25 ≤ d) (hm : m < 900000) (hO : out E a0 = some (0, n, f)) (hl : a4 + 5 < n) (h31 : n < 2 ^ 31) (hI : LI S m) (h : ∀ S', LI S' (m + 1) → k_law_law_2231 E d S' a0 a4 Q) : k_law_law_1284 E d S a0 a4 Q := by
  obtain ⟨G, hG, hC, hM, hn⟩ := hI
  have i : ∀ j, j ≤ 5 → ix (nI (a4 + j)) n := fun j hj => ix_nI (by omega) h31
  have hb : cPram G (f (nI (a4 + 1)).toNatClampNeg) (f (nI (a4 + 2)).toNatClampNeg) (f (nI (a4 + 3)).toNatClampNeg) ≤ 1 := by unfold cPram; first | exact (by decide : ∀ p q r, cd3 p q r ≤ 1) _ _ _ | exact (by decide : ∀ p q, cd3 p q false ≤ 1) _ _
  refine w_law_law_1284 (by omega) ⟨n, f, hO, i 1 (by omega), n, f, hO, i 2 (by omega), n, f, hO, i 3 (by omega), ?_⟩
  have go : ∀ (x : Int32) (S1 : St), PQ G (cPram G (f (nI (a4 + 1)).toNatClampNeg) (f (nI (a4 + 2)).toNatClampNeg) (f (nI (a4 + 3)).toNatClampNeg)) (vPram G (f (nI (a4 + 1)).toNatClampNeg) (f (nI (a4 + 2)).toNatClampNeg) (f (nI (a4 + 3)).toNatClampNeg)) m x S1 → k_m_pram E (d - 1) S1 (f (nI (a4 + 1)).toNatClampNeg) (f (nI (a4 + 2)).toNatClampNeg) (f (nI (a4 + 3)).toNatClampNeg) (fun x15 S16 => k_m_thrown E (d - 1) S16 (fun x17 S18 => if x17 = x then (if x = 0 then (if (lg_cmp (catL (S18 91 0) (S18 91 1)) (Int32.toInt64 x15)) = 0 then k_law_law_2231 E d S18 a0 a4 Q else Q (0 : Int32) S18) else k_law_law_2231 E d S18 a0 a4 Q) else Q (0 : Int32) S18)) := fun x S1 P => m_pram (by omega) hG P.2.2.1 (fun S2 v2 q2 z2 e2 => l_end hG P q2 z2 e2 (Nat.le_trans hb (by decide)) h)
  refine w_law_pram (by omega) (x_pram (by omega) hG hC (by omega) (fun e0 S2 q S3 e3 => ⟨n, f, hO, i 1 (by omega), n, f, hO, i 2 (by omega), n, f, hO, i 3 (by omega), go 0 S3 (pq_good hC hM hn q e3 e0)⟩) (fun k ek => ?_))
  have P := pq_bad (v := vPram G (f (nI (a4 + 1)).toNatClampNeg) (f (nI (a4 + 2)).toNatClampNeg) (f (nI (a4 + 3)).toNatClampNeg)) hC hM hm hn ek
  have k0 : k = 0 := by omega
  subst k0
  exact ⟨rfl, n, f, hO, i 1 (by omega), n, f, hO, i 2 (by omega), n, f, hO, i 3 (by omega), go 1 _ P⟩
theorem l_putBy (hd : 25 ≤ d) (hm : m < 900000) (hO : out E a0 = some (0, n, f)) (hl : a4 + 5 < n) (h31 : n < 2 ^ 31) (hI : LI S m) (h : ∀ S', LI S' (m + 1) → k_law_law_2231 E d S' a0 a4 Q) : k_law_law_1364 E d S a0 a4 Q := by
  obtain ⟨G, hG, hC, hM, hn⟩ := hI
  have i : ∀ j, j ≤ 5 → ix (nI (a4 + j)) n := fun j hj => ix_nI (by omega) h31
  have hb : cd3 false (ng 2 (f (nI (a4 + 1)).toNatClampNeg)) false ≤ 1 := by first | exact (by decide : ∀ p q r, cd3 p q r ≤ 1) _ _ _ | exact (by decide : ∀ p q, cd3 p q false ≤ 1) _ _
  refine w_law_law_1364 (by omega) ⟨n, f, hO, i 1 (by omega), ?_⟩
  have go : ∀ (x : Int32) (S1 : St), PQ G (cd3 false (ng 2 (f (nI (a4 + 1)).toNatClampNeg)) false) (vPutBy G (f (nI (a4 + 1)).toNatClampNeg)) m x S1 → k_m_putBy E (d - 1) S1 (f (nI (a4 + 1)).toNatClampNeg) (fun x15 S16 => k_m_thrown E (d - 1) S16 (fun x17 S18 => if x17 = x then (if x = 0 then (if (lg_cmp (catL (S18 91 0) (S18 91 1)) (Int32.toInt64 x15)) = 0 then k_law_law_2231 E d S18 a0 a4 Q else Q (0 : Int32) S18) else k_law_law_2231 E d S18 a0 a4 Q) else Q (0 : Int32) S18)) := fun x S1 P => m_putBy (by omega) hG P.2.2.1 (fun S2 v2 q2 z2 e2 => l_end hG P q2 z2 e2 (Nat.le_trans hb (by decide)) h)
  refine w_law_putBy (by omega) (x_putBy (by omega) hG hC (by omega) (fun e0 S2 q S3 e3 => ⟨n, f, hO, i 1 (by omega), go 0 S3 (pq_good hC hM hn q e3 e0)⟩) (fun k ek => ?_))
  have P := pq_bad (v := vPutBy G (f (nI (a4 + 1)).toNatClampNeg)) hC hM hm hn ek
  have k0 : k = 0 := by omega
  subst k0
  exact ⟨rfl, n, f, hO, i 1 (by omega), go 1 _ P⟩
theorem l_put (hd : 25 ≤ d) (hm : m < 900000) (hO : out E a0 = some (0, n, f)) (hl : a4 + 5 < n) (h31 : n < 2 ^ 31) (hI : LI S m) (h : ∀ S', LI S' (m + 1) → k_law_law_2231 E d S' a0 a4 Q) : k_law_law_1420 E d S a0 a4 Q := by
  obtain ⟨G, hG, hC, hM, hn⟩ := hI
  have i : ∀ j, j ≤ 5 → ix (nI (a4 + j)) n := fun j hj => ix_nI (by omega) h31
  have hb : cd3 (ng (lp (gl G)) (f (nI (a4 + 1)).toNatClampNeg)) false false ≤ 1 := by first | exact (by decide : ∀ p q r, cd3 p q r ≤ 1) _ _ _ | exact (by decide : ∀ p q, cd3 p q false ≤ 1) _ _
  refine w_law_law_1420 (by omega) ⟨n, f, hO, i 1 (by omega), ?_⟩
  have go : ∀ (x : Int32) (S1 : St), PQ G (cd3 (ng (lp (gl G)) (f (nI (a4 + 1)).toNatClampNeg)) false false) (vPut G (f (nI (a4 + 1)).toNatClampNeg)) m x S1 → k_m_put E (d - 1) S1 (f (nI (a4 + 1)).toNatClampNeg) (fun x15 S16 => k_m_thrown E (d - 1) S16 (fun x17 S18 => if x17 = x then (if x = 0 then (if (lg_cmp (catL (S18 91 0) (S18 91 1)) (Int32.toInt64 x15)) = 0 then k_law_law_2231 E d S18 a0 a4 Q else Q (0 : Int32) S18) else k_law_law_2231 E d S18 a0 a4 Q) else Q (0 : Int32) S18)) := fun x S1 P => m_put (by omega) hG P.2.2.1 (fun S2 v2 q2 z2 e2 => l_end hG P q2 z2 e2 (Nat.le_trans hb (by decide)) h)
  refine w_law_put (by omega) (x_put (by omega) hG hC (by omega) (fun e0 S2 q S3 e3 => ⟨n, f, hO, i 1 (by omega), go 0 S3 (pq_good hC hM hn q e3 e0)⟩) (fun k ek => ?_))
  have P := pq_bad (v := vPut G (f (nI (a4 + 1)).toNatClampNeg)) hC hM hm hn ek
  have k0 : k = 0 := by omega
  subst k0
  exact ⟨rfl, n, f, hO, i 1 (by omega), go 1 _ P⟩
theorem l_milder (hd : 25 ≤ d) (hm : m < 900000) (hO : out E a0 = some (0, n, f)) (hl : a4 + 5 < n) (h31 : n < 2 ^ 31) (hI : LI S m) (h : ∀ S', LI S' (m + 1) → k_law_law_2231 E d S' a0 a4 Q) : k_law_law_1583 E d S a0 a4 Q := by
  obtain ⟨G, hG, hC, hM, hn⟩ := hI
  have i : ∀ j, j ≤ 5 → ix (nI (a4 + j)) n := fun j hj => ix_nI (by omega) h31
  have hb : cd3 false (ng 3 (f (nI (a4 + 1)).toNatClampNeg)) false ≤ 1 := by first | exact (by decide : ∀ p q r, cd3 p q r ≤ 1) _ _ _ | exact (by decide : ∀ p q, cd3 p q false ≤ 1) _ _
  refine w_law_law_1583 (by omega) ⟨n, f, hO, i 1 (by omega), ?_⟩
  have go : ∀ (x : Int32) (S1 : St), PQ G (cd3 false (ng 3 (f (nI (a4 + 1)).toNatClampNeg)) false) (vMilder G (f (nI (a4 + 1)).toNatClampNeg)) m x S1 → k_m_milder E (d - 1) S1 (f (nI (a4 + 1)).toNatClampNeg) (fun x15 S16 => k_m_thrown E (d - 1) S16 (fun x17 S18 => if x17 = x then (if x = 0 then (if (lg_cmp (catL (S18 91 0) (S18 91 1)) (Int32.toInt64 x15)) = 0 then k_law_law_2231 E d S18 a0 a4 Q else Q (0 : Int32) S18) else k_law_law_2231 E d S18 a0 a4 Q) else Q (0 : Int32) S18)) := fun x S1 P => m_milder (by omega) hG P.2.2.1 (fun S2 v2 q2 z2 e2 => l_end hG P q2 z2 e2 (Nat.le_trans hb (by decide)) h)
  refine w_law_milder (by omega) (x_milder (by omega) hG hC (by omega) (fun e0 S2 q S3 e3 => ⟨n, f, hO, i 1 (by omega), go 0 S3 (pq_good hC hM hn q e3 e0)⟩) (fun k ek => ?_))
  have P := pq_bad (v := vMilder G (f (nI (a4 + 1)).toNatClampNeg)) hC hM hm hn ek
  have k0 : k = 0 := by omega
  subst k0
  exact ⟨rfl, n, f, hO, i 1 (by omega), go 1 _ P⟩
theorem l_look (hd : 25 ≤ d) (hm : m < 900000) (hO : out E a0 = some (0, n, f)) (hl : a4 + 5 < n) (h31 : n < 2 ^ 31) (hI : LI S m) (h : ∀ S', LI S' (m + 1) → k_law_law_2231 E d S' a0 a4 Q) : k_law_law_1639 E d S a0 a4 Q := by
  obtain ⟨G, hG, hC, hM, hn⟩ := hI
  have i : ∀ j, j ≤ 5 → ix (nI (a4 + j)) n := fun j hj => ix_nI (by omega) h31
  have hb : cd3 false (ng 2 (f (nI (a4 + 1)).toNatClampNeg)) false ≤ 1 := by first | exact (by decide : ∀ p q r, cd3 p q r ≤ 1) _ _ _ | exact (by decide : ∀ p q, cd3 p q false ≤ 1) _ _
  refine w_law_law_1639 (by omega) ⟨n, f, hO, i 1 (by omega), ?_⟩
  have go : ∀ (x : Int32) (S1 : St), PQ G (cd3 false (ng 2 (f (nI (a4 + 1)).toNatClampNeg)) false) (vLook G (f (nI (a4 + 1)).toNatClampNeg)) m x S1 → k_m_look E (d - 1) S1 (f (nI (a4 + 1)).toNatClampNeg) (fun x15 S16 => k_m_thrown E (d - 1) S16 (fun x17 S18 => if x17 = x then (if x = 0 then (if (lg_cmp (catL (S18 91 0) (S18 91 1)) (Int32.toInt64 x15)) = 0 then k_law_law_2231 E d S18 a0 a4 Q else Q (0 : Int32) S18) else k_law_law_2231 E d S18 a0 a4 Q) else Q (0 : Int32) S18)) := fun x S1 P => m_look (by omega) hG P.2.2.1 (fun S2 v2 q2 z2 e2 => l_end hG P q2 z2 e2 (Nat.le_trans hb (by decide)) h)
  refine w_law_look (by omega) (x_look (by omega) hG hC (by omega) (fun e0 S2 q S3 e3 => ⟨n, f, hO, i 1 (by omega), go 0 S3 (pq_good hC hM hn q e3 e0)⟩) (fun k ek => ?_))
  have P := pq_bad (v := vLook G (f (nI (a4 + 1)).toNatClampNeg)) hC hM hm hn ek
  have k0 : k = 0 := by omega
  subst k0
  exact ⟨rfl, n, f, hO, i 1 (by omega), go 1 _ P⟩
theorem l_boys (hd : 25 ≤ d) (hm : m < 900000) (hO : out E a0 = some (0, n, f)) (hl : a4 + 5 < n) (h31 : n < 2 ^ 31) (hI : LI S m) (h : ∀ S', LI S' (m + 1) → k_law_law_2231 E d S' a0 a4 Q) : k_law_law_1695 E d S a0 a4 Q := by
  obtain ⟨G, hG, hC, hM, hn⟩ := hI
  have i : ∀ j, j ≤ 5 → ix (nI (a4 + j)) n := fun j hj => ix_nI (by omega) h31
  have hb : cBoys G (f (nI (a4 + 1)).toNatClampNeg) (f (nI (a4 + 2)).toNatClampNeg) (f (nI (a4 + 3)).toNatClampNeg) ≤ 2 := by unfold cBoys; first | exact (by decide : ∀ p q r, cd3 p q r ≤ 2) _ _ _ | exact (by decide : ∀ p q, cd3 p q false ≤ 2) _ _
  refine w_law_law_1695 (by omega) ⟨n, f, hO, i 1 (by omega), n, f, hO, i 2 (by omega), n, f, hO, i 3 (by omega), ?_⟩
  have go : ∀ (x : Int32) (S1 : St), PQ G (cBoys G (f (nI (a4 + 1)).toNatClampNeg) (f (nI (a4 + 2)).toNatClampNeg) (f (nI (a4 + 3)).toNatClampNeg)) (vBoys G (f (nI (a4 + 1)).toNatClampNeg) (f (nI (a4 + 2)).toNatClampNeg) (f (nI (a4 + 3)).toNatClampNeg)) m x S1 → k_m_boys E (d - 1) S1 (f (nI (a4 + 1)).toNatClampNeg) (f (nI (a4 + 2)).toNatClampNeg) (f (nI (a4 + 3)).toNatClampNeg) (fun x15 S16 => k_m_thrown E (d - 1) S16 (fun x17 S18 => if x17 = x then (if x = 0 then (if (lg_cmp (catL (S18 91 0) (S18 91 1)) (Int32.toInt64 x15)) = 0 then k_law_law_2231 E d S18 a0 a4 Q else Q (0 : Int32) S18) else k_law_law_2231 E d S18 a0 a4 Q) else Q (0 : Int32) S18)) := fun x S1 P => m_boys (by omega) hG P.2.2.1 (fun S2 v2 q2 z2 e2 => l_end hG P q2 z2 e2 (Nat.le_trans hb (by decide)) h)
  refine w_law_boys (by omega) (x_boys (by omega) hG hC (by omega) (fun e0 S2 q S3 e3 => ⟨n, f, hO, i 1 (by omega), n, f, hO, i 2 (by omega), n, f, hO, i 3 (by omega), go 0 S3 (pq_good hC hM hn q e3 e0)⟩) (fun k ek => ?_))
  have P := pq_bad (v := vBoys G (f (nI (a4 + 1)).toNatClampNeg) (f (nI (a4 + 2)).toNatClampNeg) (f (nI (a4 + 3)).toNatClampNeg)) hC hM hm hn ek
  rcases (show k = 0 ∨ k = 1 by omega) with k0 | k1
  · subst k0
    exact Or.inl ⟨rfl, n, f, hO, i 1 (by omega), n, f, hO, i 2 (by omega), n, f, hO, i 3 (by omega), go 1 _ P⟩
  · subst k1
    exact Or.inr ⟨rfl, n, f, hO, i 1 (by omega), n, f, hO, i 2 (by omega), n, f, hO, i 3 (by omega), go 2 _ P⟩
theorem l_game (hd : 25 ≤ d) (hm : m < 900000) (hO : out E a0 = some (0, n, f)) (hl : a4 + 5 < n) (h31 : n < 2 ^ 31) (hI : LI S m) (h : ∀ S', LI S' (m + 1) → k_law_law_2231 E d S' a0 a4 Q) : k_law_law_1775 E d S a0 a4 Q := by
  obtain ⟨G, hG, hC, hM, hn⟩ := hI
  have i : ∀ j, j ≤ 5 → ix (nI (a4 + j)) n := fun j hj => ix_nI (by omega) h31
  have hb : cGame G (f (nI (a4 + 1)).toNatClampNeg) (f (nI (a4 + 2)).toNatClampNeg) (f (nI (a4 + 3)).toNatClampNeg) ≤ 2 := by unfold cGame; first | exact (by decide : ∀ p q r, cd3 p q r ≤ 2) _ _ _ | exact (by decide : ∀ p q, cd3 p q false ≤ 2) _ _
  refine w_law_law_1775 (by omega) ⟨n, f, hO, i 1 (by omega), n, f, hO, i 2 (by omega), n, f, hO, i 3 (by omega), ?_⟩
  have go : ∀ (x : Int32) (S1 : St), PQ G (cGame G (f (nI (a4 + 1)).toNatClampNeg) (f (nI (a4 + 2)).toNatClampNeg) (f (nI (a4 + 3)).toNatClampNeg)) (vGame G (f (nI (a4 + 1)).toNatClampNeg) (f (nI (a4 + 2)).toNatClampNeg) (f (nI (a4 + 3)).toNatClampNeg)) m x S1 → k_m_game E (d - 1) S1 (f (nI (a4 + 1)).toNatClampNeg) (f (nI (a4 + 2)).toNatClampNeg) (f (nI (a4 + 3)).toNatClampNeg) (fun x15 S16 => k_m_thrown E (d - 1) S16 (fun x17 S18 => if x17 = x then (if x = 0 then (if (lg_cmp (catL (S18 91 0) (S18 91 1)) (Int32.toInt64 x15)) = 0 then k_law_law_2231 E d S18 a0 a4 Q else Q (0 : Int32) S18) else k_law_law_2231 E d S18 a0 a4 Q) else Q (0 : Int32) S18)) := fun x S1 P => m_game (by omega) hG P.2.2.1 (fun S2 v2 q2 z2 e2 => l_end hG P q2 z2 e2 (Nat.le_trans hb (by decide)) h)
  refine w_law_game (by omega) (x_game (by omega) hG hC (by omega) (fun e0 S2 q S3 e3 => ⟨n, f, hO, i 1 (by omega), n, f, hO, i 2 (by omega), n, f, hO, i 3 (by omega), go 0 S3 (pq_good hC hM hn q e3 e0)⟩) (fun k ek => ?_))
  have P := pq_bad (v := vGame G (f (nI (a4 + 1)).toNatClampNeg) (f (nI (a4 + 2)).toNatClampNeg) (f (nI (a4 + 3)).toNatClampNeg)) hC hM hm hn ek
  rcases (show k = 0 ∨ k = 1 by omega) with k0 | k1
  · subst k0
    exact Or.inl ⟨rfl, n, f, hO, i 1 (by omega), n, f, hO, i 2 (by omega), n, f, hO, i 3 (by omega), go 1 _ P⟩
  · subst k1
    exact Or.inr ⟨rfl, n, f, hO, i 1 (by omega), n, f, hO, i 2 (by omega), n, f, hO, i 3 (by omega), go 2 _ P⟩
theorem l_years (hd : 25 ≤ d) (hm : m < 900000) (hO : out E a0 = some (0, n, f)) (hl : a4 + 5 < n) (h31 : n < 2 ^ 31) (hI : LI S m) (h : ∀ S', LI S' (m + 1) → k_law_law_2231 E d S' a0 a4 Q) : k_law_law_1855 E d S a0 a4 Q := by
  obtain ⟨G, hG, hC, hM, hn⟩ := hI
  have i : ∀ j, j ≤ 5 → ix (nI (a4 + j)) n := fun j hj => ix_nI (by omega) h31
  have hb : cYears (f (nI (a4 + 2)).toNatClampNeg) (f (nI (a4 + 3)).toNatClampNeg) ≤ 2 := by unfold cYears; first | exact (by decide : ∀ p q r, cd3 p q r ≤ 2) _ _ _ | exact (by decide : ∀ p q, cd3 p q false ≤ 2) _ _
  refine w_law_law_1855 (by omega) ⟨n, f, hO, i 1 (by omega), n, f, hO, i 2 (by omega), n, f, hO, i 3 (by omega), ?_⟩
  have go : ∀ (x : Int32) (S1 : St), PQ G (cYears (f (nI (a4 + 2)).toNatClampNeg) (f (nI (a4 + 3)).toNatClampNeg)) (vYears G (f (nI (a4 + 1)).toNatClampNeg) (f (nI (a4 + 2)).toNatClampNeg) (f (nI (a4 + 3)).toNatClampNeg)) m x S1 → k_m_years E (d - 1) S1 (f (nI (a4 + 1)).toNatClampNeg) (f (nI (a4 + 2)).toNatClampNeg) (f (nI (a4 + 3)).toNatClampNeg) (fun x15 S16 => k_m_thrown E (d - 1) S16 (fun x17 S18 => if x17 = x then (if x = 0 then (if (lg_cmp (catL (S18 91 0) (S18 91 1)) (Int32.toInt64 x15)) = 0 then k_law_law_2231 E d S18 a0 a4 Q else Q (0 : Int32) S18) else k_law_law_2231 E d S18 a0 a4 Q) else Q (0 : Int32) S18)) := fun x S1 P => m_years (by omega) hG P.2.2.1 (fun S2 v2 q2 z2 e2 => l_end hG P q2 z2 e2 (Nat.le_trans hb (by decide)) h)
  refine w_law_years (by omega) (x_years (by omega) hG hC (by omega) (fun e0 S2 q S3 e3 => ⟨n, f, hO, i 1 (by omega), n, f, hO, i 2 (by omega), n, f, hO, i 3 (by omega), go 0 S3 (pq_good hC hM hn q e3 e0)⟩) (fun k ek => ?_))
  have P := pq_bad (v := vYears G (f (nI (a4 + 1)).toNatClampNeg) (f (nI (a4 + 2)).toNatClampNeg) (f (nI (a4 + 3)).toNatClampNeg)) hC hM hm hn ek
  rcases (show k = 0 ∨ k = 1 by omega) with k0 | k1
  · subst k0
    exact Or.inl ⟨rfl, n, f, hO, i 1 (by omega), n, f, hO, i 2 (by omega), n, f, hO, i 3 (by omega), go 1 _ P⟩
  · subst k1
    exact Or.inr ⟨rfl, n, f, hO, i 1 (by omega), n, f, hO, i 2 (by omega), n, f, hO, i 3 (by omega), go 2 _ P⟩
theorem l_cell (hd : 25 ≤ d) (hm : m < 900000) (hO : out E a0 = some (0, n, f)) (hl : a4 + 5 < n) (h31 : n < 2 ^ 31) (hI : LI S m) (h : ∀ S', LI S' (m + 1) → k_law_law_2231 E d S' a0 a4 Q) : k_law_law_1935 E d S a0 a4 Q := by
  obtain ⟨G, hG, hC, hM, hn⟩ := hI
  have i : ∀ j, j ≤ 5 → ix (nI (a4 + j)) n := fun j hj => ix_nI (by omega) h31
  have hb : cCell G (f (nI (a4 + 1)).toNatClampNeg) (f (nI (a4 + 2)).toNatClampNeg) ≤ 1 := by unfold cCell; first | exact (by decide : ∀ p q r, cd3 p q r ≤ 1) _ _ _ | exact (by decide : ∀ p q, cd3 p q false ≤ 1) _ _
  refine w_law_law_1935 (by omega) ⟨n, f, hO, i 1 (by omega), n, f, hO, i 2 (by omega), ?_⟩
  have go : ∀ (x : Int32) (S1 : St), PQ G (cCell G (f (nI (a4 + 1)).toNatClampNeg) (f (nI (a4 + 2)).toNatClampNeg)) (vCell G (f (nI (a4 + 1)).toNatClampNeg) (f (nI (a4 + 2)).toNatClampNeg)) m x S1 → k_m_cell E (d - 1) S1 (f (nI (a4 + 1)).toNatClampNeg) (f (nI (a4 + 2)).toNatClampNeg) (fun x15 S16 => k_m_thrown E (d - 1) S16 (fun x17 S18 => if x17 = x then (if x = 0 then (if (lg_cmp (catL (S18 91 0) (S18 91 1)) (Int32.toInt64 x15)) = 0 then k_law_law_2231 E d S18 a0 a4 Q else Q (0 : Int32) S18) else k_law_law_2231 E d S18 a0 a4 Q) else Q (0 : Int32) S18)) := fun x S1 P => m_cell (by omega) hG P.2.2.1 (fun S2 v2 q2 z2 e2 => l_end hG P q2 z2 e2 (Nat.le_trans hb (by decide)) h)
  refine w_law_cell (by omega) (x_cell (by omega) hG hC (by omega) (fun e0 S2 q S3 e3 => ⟨n, f, hO, i 1 (by omega), n, f, hO, i 2 (by omega), go 0 S3 (pq_good hC hM hn q e3 e0)⟩) (fun k ek => ?_))
  have P := pq_bad (v := vCell G (f (nI (a4 + 1)).toNatClampNeg) (f (nI (a4 + 2)).toNatClampNeg)) hC hM hm hn ek
  have k0 : k = 0 := by omega
  subst k0
  exact ⟨rfl, n, f, hO, i 1 (by omega), n, f, hO, i 2 (by omega), go 1 _ P⟩
theorem l_when (hd : 25 ≤ d) (hm : m < 900000) (hO : out E a0 = some (0, n, f)) (hl : a4 + 5 < n) (h31 : n < 2 ^ 31) (hI : LI S m) (h : ∀ S', LI S' (m + 1) → k_law_law_2231 E d S' a0 a4 Q) : k_law_law_2003 E d S a0 a4 Q := by
  obtain ⟨G, hG, hC, hM, hn⟩ := hI
  have i : ∀ j, j ≤ 5 → ix (nI (a4 + j)) n := fun j hj => ix_nI (by omega) h31
  have hb : cWhen G (f (nI (a4 + 1)).toNatClampNeg) (f (nI (a4 + 2)).toNatClampNeg) ≤ 1 := by unfold cWhen; first | exact (by decide : ∀ p q r, cd3 p q r ≤ 1) _ _ _ | exact (by decide : ∀ p q, cd3 p q false ≤ 1) _ _
  refine w_law_law_2003 (by omega) ⟨n, f, hO, i 1 (by omega), n, f, hO, i 2 (by omega), ?_⟩
  have go : ∀ (x : Int32) (S1 : St), PQ G (cWhen G (f (nI (a4 + 1)).toNatClampNeg) (f (nI (a4 + 2)).toNatClampNeg)) (vOff G (if (f (nI (a4 + 2)).toNatClampNeg) = 0 then 1 else 2) (f (nI (a4 + 1)).toNatClampNeg)) m x S1 → k_m_when E (d - 1) S1 (f (nI (a4 + 1)).toNatClampNeg) (f (nI (a4 + 2)).toNatClampNeg) (fun x15 S16 => k_m_thrown E (d - 1) S16 (fun x17 S18 => if x17 = x then (if x = 0 then (if (lg_cmp (catL (S18 91 0) (S18 91 1)) (Int32.toInt64 x15)) = 0 then k_law_law_2231 E d S18 a0 a4 Q else Q (0 : Int32) S18) else k_law_law_2231 E d S18 a0 a4 Q) else Q (0 : Int32) S18)) := fun x S1 P => m_when (by omega) hG P.2.2.1 (fun S2 v2 q2 z2 e2 => l_end hG P q2 z2 e2 (Nat.le_trans hb (by decide)) h)
  refine w_law_when (by omega) (x_when (by omega) hG hC (by omega) (fun e0 S2 q S3 e3 => ⟨n, f, hO, i 1 (by omega), n, f, hO, i 2 (by omega), go 0 S3 (pq_good hC hM hn q e3 e0)⟩) (fun k ek => ?_))
  have P := pq_bad (v := vOff G (if (f (nI (a4 + 2)).toNatClampNeg) = 0 then 1 else 2) (f (nI (a4 + 1)).toNatClampNeg)) hC hM hm hn ek
  have k0 : k = 0 := by omega
  subst k0
  exact ⟨rfl, n, f, hO, i 1 (by omega), n, f, hO, i 2 (by omega), go 1 _ P⟩
theorem l_ahead (hd : 25 ≤ d) (hm : m < 900000) (hO : out E a0 = some (0, n, f)) (hl : a4 + 5 < n) (h31 : n < 2 ^ 31) (hI : LI S m) (h : ∀ S', LI S' (m + 1) → k_law_law_2231 E d S' a0 a4 Q) : k_law_law_2071 E d S a0 a4 Q := by
  obtain ⟨G, hG, hC, hM, hn⟩ := hI
  have i : ∀ j, j ≤ 5 → ix (nI (a4 + j)) n := fun j hj => ix_nI (by omega) h31
  have hb : cAhead (f (nI (a4 + 1)).toNatClampNeg) (f (nI (a4 + 2)).toNatClampNeg) ≤ 2 := by unfold cAhead; first | exact (by decide : ∀ p q r, cd3 p q r ≤ 2) _ _ _ | exact (by decide : ∀ p q, cd3 p q false ≤ 2) _ _
  refine w_law_law_2071 (by omega) ⟨n, f, hO, i 1 (by omega), n, f, hO, i 2 (by omega), ?_⟩
  have go : ∀ (x : Int32) (S1 : St), PQ G (cAhead (f (nI (a4 + 1)).toNatClampNeg) (f (nI (a4 + 2)).toNatClampNeg)) (vAhead G (f (nI (a4 + 1)).toNatClampNeg) (f (nI (a4 + 2)).toNatClampNeg)) m x S1 → k_m_ahead E (d - 1) S1 (f (nI (a4 + 1)).toNatClampNeg) (f (nI (a4 + 2)).toNatClampNeg) (fun x15 S16 => k_m_thrown E (d - 1) S16 (fun x17 S18 => if x17 = x then (if x = 0 then (if (lg_cmp (catL (S18 91 0) (S18 91 1)) (Int32.toInt64 x15)) = 0 then k_law_law_2231 E d S18 a0 a4 Q else Q (0 : Int32) S18) else k_law_law_2231 E d S18 a0 a4 Q) else Q (0 : Int32) S18)) := fun x S1 P => m_ahead (by omega) hG P.2.2.1 (fun S2 v2 q2 z2 e2 => l_end hG P q2 z2 e2 (Nat.le_trans hb (by decide)) h)
  refine w_law_ahead (by omega) (x_ahead (by omega) hG hC (by omega) (fun e0 S2 q S3 e3 => ⟨n, f, hO, i 1 (by omega), n, f, hO, i 2 (by omega), go 0 S3 (pq_good hC hM hn q e3 e0)⟩) (fun k ek => ?_))
  have P := pq_bad (v := vAhead G (f (nI (a4 + 1)).toNatClampNeg) (f (nI (a4 + 2)).toNatClampNeg)) hC hM hm hn ek
  rcases (show k = 0 ∨ k = 1 by omega) with k0 | k1
  · subst k0
    exact Or.inl ⟨rfl, n, f, hO, i 1 (by omega), n, f, hO, i 2 (by omega), go 1 _ P⟩
  · subst k1
    exact Or.inr ⟨rfl, n, f, hO, i 1 (by omega), n, f, hO, i 2 (by omega), go 2 _ P⟩
theorem l_stays (hd : 25 ≤ d) (hm : m < 900000) (hO : out E a0 = some (0, n, f)) (hl : a4 + 5 < n) (h31 : n < 2 ^ 31) (hI : LI S m) (h : ∀ S', LI S' (m + 1) → k_law_law_2231 E d S' a0 a4 Q) : k_law_law_2139 E d S a0 a4 Q := by
  obtain ⟨G, hG, hC, hM, hn⟩ := hI
  have i : ∀ j, j ≤ 5 → ix (nI (a4 + j)) n := fun j hj => ix_nI (by omega) h31
  have hb : cStays G (f (nI (a4 + 1)).toNatClampNeg) (f (nI (a4 + 2)).toNatClampNeg) ≤ 2 := by unfold cStays; first | exact (by decide : ∀ p q r, cd3 p q r ≤ 2) _ _ _ | exact (by decide : ∀ p q, cd3 p q false ≤ 2) _ _
  refine w_law_law_2139 (by omega) ⟨n, f, hO, i 1 (by omega), n, f, hO, i 2 (by omega), ?_⟩
  have go : ∀ (x : Int32) (S1 : St), PQ G (cStays G (f (nI (a4 + 1)).toNatClampNeg) (f (nI (a4 + 2)).toNatClampNeg)) (styN (gl G) (gA G) (f (nI (a4 + 1)).toNatClampNeg) (tN (f (nI (a4 + 2)).toNatClampNeg))) m x S1 → k_m_stays E (d - 1) S1 (f (nI (a4 + 1)).toNatClampNeg) (f (nI (a4 + 2)).toNatClampNeg) (fun x15 S16 => k_m_thrown E (d - 1) S16 (fun x17 S18 => if x17 = x then (if x = 0 then (if (lg_cmp (catL (S18 91 0) (S18 91 1)) (Int32.toInt64 x15)) = 0 then k_law_law_2231 E d S18 a0 a4 Q else Q (0 : Int32) S18) else k_law_law_2231 E d S18 a0 a4 Q) else Q (0 : Int32) S18)) := fun x S1 P => m_stays (by omega) hG P.2.2.1 (fun S2 v2 q2 z2 e2 => l_end hG P q2 z2 e2 (Nat.le_trans hb (by decide)) h)
  refine w_law_stays (by omega) (x_stays (by omega) hG hC (by omega) (fun e0 S2 q S3 e3 => ⟨n, f, hO, i 1 (by omega), n, f, hO, i 2 (by omega), go 0 S3 (pq_good hC hM hn q e3 e0)⟩) (fun k ek => ?_))
  have P := pq_bad (v := styN (gl G) (gA G) (f (nI (a4 + 1)).toNatClampNeg) (tN (f (nI (a4 + 2)).toNatClampNeg))) hC hM hm hn ek
  rcases (show k = 0 ∨ k = 1 by omega) with k0 | k1
  · subst k0
    exact Or.inl ⟨rfl, n, f, hO, i 1 (by omega), n, f, hO, i 2 (by omega), go 1 _ P⟩
  · subst k1
    exact Or.inr ⟨rfl, n, f, hO, i 1 (by omega), n, f, hO, i 2 (by omega), go 2 _ P⟩
end LQ2
