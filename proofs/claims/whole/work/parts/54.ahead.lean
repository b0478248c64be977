/-! DAYS AHEAD: pure; in the class -/
noncomputable def dayN (l : Lnd) (A : Scn) : Nat → Scn
  | 0 => A
  | n + 1 => (dayF l (dayN l A n)).1
/-- who went out (1), who shouted (2), what went off (0) on day n + 1 -/
noncomputable def evv (l : Lnd) (A : Scn) (k n : Nat) : Nat := if k = 0 then (dayF l (dayN l A n)).2.2.2 else if k = 1 then (dayF l (dayN l A n)).2.1 else (dayF l (dayN l A n)).2.2.1
/-- the first below n -/
def fstF (p : Nat → Bool) : Nat → Option Nat
  | 0 => none
  | n + 1 => match fstF p n with
    | some k => some k
    | none => if p n then some n else none
theorem fstF_none {p : Nat → Bool} : ∀ n, (∀ j, j < n → p j = false) → fstF p n = none
  | 0, _ => rfl
  | n + 1, h => by
    show (match fstF p n with
      | some k => some k
      | none => if p n then some n else none) = none
    rw [fstF_none n (fun j hj => h j (by omega)), h n (by omega)]
    rfl
theorem fstF_some {p : Nat → Bool} {k : Nat} (hp : p k = true) (h : ∀ j, j < k → p j = false) : ∀ n, k < n → fstF p n = some k
  | 0, hk => absurd hk (Nat.not_lt_zero k)
  | n + 1, hk => by
    show (match fstF p n with
      | some k => some k
      | none => if p n then some n else none) = some k
    by_cases e : k = n
    · subst e
      rw [fstF_none k h]
      show (if p k then some k else none) = some k
      rw [if_pos hp]
    · rw [fstF_some hp h n (by omega)]
theorem COk_dayN {l : Lnd} {A : Scn} (h : COk l A) : ∀ n, COk l (dayN l A n)
  | 0 => h
  | n + 1 => day5 (COk_dayN h n)
theorem GOk_dayN {l : Lnd} {A : Scn} (h : GOk l A) : ∀ n, GOk l (dayN l A n)
  | 0 => h
  | n + 1 => day9 (GOk_dayN h n)
theorem ilt {A B : Prop} {n k : Nat} (hn : n < 1000000) (hk : k < 1000000) (h1 : n < k → A) (h0 : k ≤ n → B) : if nI n < nI k then A else B := by
  by_cases h : n < k
  · rw [if_pos (nI_lt h (by omega))]
    exact h1 h
  · rw [if_neg (nI_nlt (by omega) (by omega))]
    exact h0 (by omega)
theorem ScC_cp {l : Lnd} {f g : Nat → Int32} {A : Scn} (hl : LOk l) (h : ScC l f A) (e : ∀ i, i < 70 → g i = f i) : ScC l g A := by
  refine ⟨fun k i hk hi => ?_, by rw [e 1 (by decide)]; exact h.2⟩
  have h1 := rng_cap hl k
  have h2 := cap_10 k
  rw [e _ (offC_1 k hk i (by omega) (by omega)).2]
  exact h.1 k i hk hi
section AH
variable {l : Lnd} {S : St} {E : zX} {d q : Nat} {A : Scn}
theorem c_copy {q' : Nat} {Q : St → Prop} (hd : 1 ≤ d) (hl : LOk l) (hq : Sc q) (hq' : Sc q') (hA : ScC l (S (q' + 1)) A) (h : ∀ S', Fr [q + 1] S S' → ScC l (S' (q + 1)) A → Q S') : k_Scene_copyFrom E d S q q' Q := by
  refine w_Scene_copyFrom hd hq hq' (fun S1 e1 => h S1 ?_ ?_)
  · rw [e1]
    exact Fr.set _ List.mem_cons_self
  · refine ScC_cp hl hA (fun i hi => ?_)
    rw [e1, setR_same]
    unfold va_cpy
    rw [if_pos ⟨by omega, by omega⟩]
    congr 1
    omega
theorem c_behind {n : Nat} {Q : Nat → St → Prop} (hd : 5 ≤ d) (hL : LC l S) (hA : ScC l (S 26) A) (hO : COk l A) (hn : n ≤ 60) (h : ∀ S', Fr (dl 44) S S' → ScC l (S' 45) (dayN l A n) → Q 44 S') : k_Forecast_behind E d S (nI n) Q := by
  refine w_Forecast_behind (by omega) (c_copy (by omega) hL.ok sc44 sc25 hA (fun S2 f2 A2 => ?_))
  refine dn (P := fun k => ∀ S', Fr (dl 44) S S' → ScC l (S' 45) (dayN l A k) → k_Forecast_behind_13 E d S' (nI n) (k + 1) Q) n ?_ ?_ 0 (Nat.zero_le _) S2 (fr_q f2) A2
  · intro S3 f3 A3
    exact w_Forecast_behind_13 (by omega) (ilt (by omega) (by omega) (fun _ => h S3 f3 A3) (fun h => by omega))
  · intro k hk ih S3 f3 A3
    refine w_Forecast_behind_13 (by omega) (ilt (by omega) (by omega) (fun h => by omega) (fun _ => ?_))
    exact c_passDay (by omega) (LC_dl sc44 hL f3) sc44 A3 (COk_dayN hO k) (fun S4 f4 A4 _ _ _ => ih S4 (f3.trans f4) A4)
theorem ev39 {S' : St} {k n : Nat} (hk : k < 3) (h1 : S' 39 1 = nI (dayF l (dayN l A n)).2.1) (h2 : S' 39 2 = nI (dayF l (dayN l A n)).2.2.1) (h0 : S' 39 0 = nI (dayF l (dayN l A n)).2.2.2) : S' 39 k = nI (evv l A k n) := by
  have : k = 0 ∨ k = 1 ∨ k = 2 := by omega
  rcases this with rfl | rfl | rfl
  · exact h0
  · exact h1
  · exact h2
theorem c_firstDay {kd : Nat} {b : Int32} {p : Nat → Bool} {Q : Int32 → St → Prop} (hd : 5 ≤ d) (hL : LC l S) (hA : ScC l (S 26) A) (hO : COk l A) (hk : kd < 3) (hp : ∀ n, n < 60 → (nI (evv l A kd n) &&& b = 0 ↔ p n = false)) (h1 : ∀ n S', n < 60 → fstF p 60 = some n → Fr (dl 44) S S' → S' 39 0 = nI (evv l A 0 n) → Q (nI (n + 1)) S') (h0 : fstF p 60 = none → ∀ S', Fr (dl 44) S S' → Q (-1) S') : k_Forecast_firstDay E d S (nI kd) b Q := by
  refine w_Forecast_firstDay (by omega) (c_copy (by omega) hL.ok sc44 sc25 hA (fun S2 f2 A2 => ?_))
  refine dn (P := fun k => ∀ S', Fr (dl 44) S S' → ScC l (S' 45) (dayN l A k) → (∀ j, j < k → p j = false) → k_Forecast_firstDay_13 E d S' kd b (k + 1) Q) 60 ?_ ?_ 0 (Nat.zero_le _) S2 (fr_q f2) A2 (fun j hj => absurd hj (Nat.not_lt_zero j))
  · intro S3 f3 A3 hn
    exact w_Forecast_firstDay_13 (by omega) (ilt (by omega) (by omega) (fun _ => h0 (fstF_none 60 hn) S3 f3) (fun h => by omega))
  · intro k hk' ih S3 f3 A3 hn
    refine w_Forecast_firstDay_13 (by omega) (ilt (by omega) (by omega) (fun h => by omega) (fun _ => ?_))
    refine c_passDay (by omega) (LC_dl sc44 hL f3) sc44 A3 (COk_dayN hO k) (fun S4 f4 A4 e1 e2 e0 => ⟨hk, ?_⟩)
    rw [ev39 hk e1 e2 e0]
    refine ife (fun hc => ?_) (fun hc => ?_)
    · rw [hp k hk'] at hc
      refine ih S4 (f3.trans f4) A4 (fun j hj => ?_)
      by_cases e : j = k
      · rw [e]
        exact hc
      · exact hn j (by omega)
    · rw [hp k hk'] at hc
      refine h1 k S4 hk' (fstF_some (by simpa using hc) hn 60 hk') (f3.trans f4) ?_
      exact ev39 (by decide) e1 e2 e0
theorem c_firstToBurst {Q : Int32 → St → Prop} (hd : 6 ≤ d) (hL : LC l S) (hA : ScC l (S 26) A) (hO : COk l A) (hlt : ∀ n, evv l A 0 n < 1024) (h : ∀ S', Fr (dl 44) S S' → Q (match fstF (fun n => decide (¬ evv l A 0 n = 0)) 60 with
    | none => -1
    | some n => oI (fstF (fun x => (evv l A 0 n).testBit x) 10)) S') : k_Forecast_firstToBurst E d S Q := by
  have am1 : ∀ a : Nat, nI a &&& (-1 : Int32) = nI a := fun a => i_ext (fun i hi => by
    rw [Int32.toBitVec_and, BitVec.getLsbD_and, m1_bit i hi, Bool.and_true])
  refine w_Forecast_firstToBurst (by omega) (c_firstDay (kd := 0) (p := fun n => decide (¬ evv l A 0 n = 0)) (by omega) hL hA hO (by decide) (fun n _ => ?_) (fun n S' hn hf f e0 => ?_) (fun hf S' f => ?_))
  · rw [am1]
    have := hlt n
    constructor
    · intro e
      have : evv l A 0 n = 0 := by
        rcases Nat.eq_zero_or_pos (evv l A 0 n) with h0 | h0
        · exact h0
        · exact absurd e (nI_ne0 h0 (by omega))
      simp [this]
    · intro e
      have : evv l A 0 n = 0 := by simpa using e
      rw [this]
      rfl
  · have h := h S' f
    rw [hf] at h
    have h : Q (oI (fstF (fun x => (evv l A 0 n).testBit x) 10)) S' := h
    rw [if_neg (oI_ne (by omega))]
    refine dn (P := fun k => (∀ j, j < k → (evv l A 0 n).testBit j = false) → k_Forecast_firstToBurst_14 E d S' k Q) 10 ?_ ?_ 0 (Nat.zero_le _) (fun j hj => absurd hj (Nat.not_lt_zero j))
    · intro hn
      refine w_Forecast_firstToBurst_14 (by omega) (ilp 10 rfl (by omega) (by omega) (fun _ => ?_) (fun h => absurd h (Nat.lt_irrefl _)))
      have e : fstF (fun x => (evv l A 0 n).testBit x) 10 = none := fstF_none 10 hn
      rw [show oI (fstF (fun x => (evv l A 0 n).testBit x) 10) = -1 by rw [e]; rfl] at h
      exact h
    · intro k hk ih hn
      refine w_Forecast_firstToBurst_14 (by omega) (ilp 10 rfl (by omega) (by omega) (fun h => by omega) (fun _ => ?_))
      rw [e0]
      refine ife (fun hc => ?_) (fun hc => ?_)
      · rw [nI_tst (by omega)] at hc
        refine ih (fun j hj => ?_)
        by_cases e : j = k
        · rw [e]
          exact hc
        · exact hn j (by omega)
      · rw [nI_tst (by omega)] at hc
        have e : fstF (fun x => (evv l A 0 n).testBit x) 10 = some k := fstF_some (by simpa using hc) hn 10 hk
        rw [show oI (fstF (fun x => (evv l A 0 n).testBit x) 10) = nI k by rw [e]; rfl] at h
        exact h
  · have h := h S' f
    rw [hf] at h
    rw [if_pos rfl]
    exact h
/-- how often they go off in n days; days of calm; how long one's own are there -/
noncomputable def ofN (l : Lnd) (A : Scn) (n : Nat) : Int32 := zfo (fun k v => v + nI (cnt (evv l A 0 k) 10)) n 0
noncomputable def clmN (l : Lnd) (A : Scn) (n : Nat) : Nat := num (fun k => decide (evv l A 0 k = 0) && decide (evv l A 2 k = 0)) n
noncomputable def styN (l : Lnd) (A : Scn) (v : Int32) (n : Nat) : Int32 := zfo (fun k s => s + nI (cnt (ownM l (dayN l A (k + 1)) v) 10)) n 0
theorem c_bursts {n : Nat} {Q : Int32 → St → Prop} (hd : 5 ≤ d) (hL : LC l S) (hA : ScC l (S 26) A) (hO : COk l A) (hlt : ∀ n, evv l A 0 n < 1024) (hn : n ≤ 60) (h : ∀ S', Fr (dl 44) S S' → Q (ofN l A n) S') : k_Forecast_bursts E d S (nI n) Q := by
  refine w_Forecast_bursts (by omega) (c_copy (by omega) hL.ok sc44 sc25 hA (fun S2 f2 A2 => ?_))
  refine dn (P := fun k => ∀ S', Fr (dl 44) S S' → ScC l (S' 45) (dayN l A k) → k_Forecast_bursts_15 E d S' (nI n) (ofN l A k) (k + 1) Q) n ?_ ?_ 0 (Nat.zero_le _) S2 (fr_q f2) A2
  · intro S3 f3 A3
    exact w_Forecast_bursts_15 (by omega) (ilt (by omega) (by omega) (fun _ => h S3 f3) (fun h => by omega))
  · intro k hk ih S3 f3 A3
    refine w_Forecast_bursts_15 (by omega) (ilt (by omega) (by omega) (fun h => by omega) (fun _ => ?_))
    refine c_passDay (by omega) (LC_dl sc44 hL f3) sc44 A3 (COk_dayN hO k) (fun S4 f4 A4 e1 e2 e0 => ?_)
    rw [show S4 39 0 = nI (evv l A 0 k) from ev39 (by decide) e1 e2 e0]
    exact c_bitCount (hlt k) (ih S4 (f3.trans f4) A4)
theorem nI_is0 {a : Nat} (h : a < 2 ^ 31) : nI a = 0 ↔ a = 0 := by
  constructor
  · intro e
    rcases Nat.eq_zero_or_pos a with h0 | h0
    · exact h0
    · exact absurd e (nI_ne0 h0 h)
  · intro e
    rw [e]
    rfl
theorem c_calmDays {n : Nat} {Q : Int32 → St → Prop} (hd : 5 ≤ d) (hL : LC l S) (hA : ScC l (S 26) A) (hO : COk l A) (hlt : ∀ k n, evv l A k n < 1024) (hn : n ≤ 60) (h : ∀ S', Fr (dl 44) S S' → Q (nI (clmN l A n)) S') : k_Forecast_calmDays E d S (nI n) Q := by
  refine w_Forecast_calmDays (by omega) (c_copy (by omega) hL.ok sc44 sc25 hA (fun S2 f2 A2 => ?_))
  refine dn (P := fun k => ∀ S', Fr (dl 44) S S' → ScC l (S' 45) (dayN l A k) → k_Forecast_calmDays_15 E d S' (nI n) (clmN l A k) (k + 1) Q) n ?_ ?_ 0 (Nat.zero_le _) S2 (fr_q f2) A2
  · intro S3 f3 A3
    exact w_Forecast_calmDays_15 (by omega) (ilt (by omega) (by omega) (fun _ => h S3 f3) (fun h => by omega))
  · intro k hk ih S3 f3 A3
    refine w_Forecast_calmDays_15 (by omega) (ilt (by omega) (by omega) (fun h => by omega) (fun _ => ?_))
    have en : clmN l A (k + 1) = if decide (evv l A 0 k = 0) && decide (evv l A 2 k = 0) then clmN l A k + 1 else clmN l A k := rfl
    refine c_passDay (by omega) (LC_dl sc44 hL f3) sc44 A3 (COk_dayN hO k) (fun S4 f4 A4 e1 e2 e0 => ?_)
    have ih := ih S4 (f3.trans f4) A4
    rw [en] at ih
    have l0 := hlt 0 k
    have l2 := hlt 2 k
    rw [show S4 39 0 = nI (evv l A 0 k) from ev39 (by decide) e1 e2 e0, show S4 39 2 = nI (evv l A 2 k) from ev39 (by decide) e1 e2 e0]
    refine ife (fun h0 => ife (fun h2 => ?_) (fun h2 => ?_)) (fun h0 => ?_)
    · rw [nI_is0 (by omega)] at h0 h2
      rw [if_pos (by simp [h0, h2])] at ih
      exact ih
    · rw [nI_is0 (by omega)] at h0 h2
      rw [if_neg (by simp [h2])] at ih
      exact ih
    · rw [nI_is0 (by omega)] at h0
      rw [if_neg (by simp [h0])] at ih
      exact ih
theorem ownM_lt (hl : LOk l) (v : Int32) : ownM l A v < 1024 := mkN_lt10 hl.b10
theorem c_outstayed {n : Nat} {v : Int32} {Q : Int32 → St → Prop} (hd : 5 ≤ d) (hL : LC l S) (hA : ScC l (S 26) A) (hO : COk l A) (hn : n ≤ 60) (h : ∀ S', Fr (dl 44) S S' → Q (styN l A v n) S') : k_Forecast_outstayed E d S v (nI n) Q := by
  refine w_Forecast_outstayed (by omega) (c_copy (by omega) hL.ok sc44 sc25 hA (fun S2 f2 A2 => ?_))
  refine dn (P := fun k => ∀ S', Fr (dl 44) S S' → ScC l (S' 45) (dayN l A k) → k_Forecast_outstayed_16 E d S' v (nI n) (styN l A v k) (k + 1) Q) n ?_ ?_ 0 (Nat.zero_le _) S2 (fr_q f2) A2
  · intro S3 f3 A3
    exact w_Forecast_outstayed_16 (by omega) (ilt (by omega) (by omega) (fun _ => h S3 f3) (fun h => by omega))
  · intro k hk ih S3 f3 A3
    refine w_Forecast_outstayed_16 (by omega) (ilt (by omega) (by omega) (fun h => by omega) (fun _ => ?_))
    refine c_passDay (by omega) (LC_dl sc44 hL f3) sc44 A3 (COk_dayN hO k) (fun S4 f4 A4 e1 e2 e0 => ?_)
    exact c_ownedBy (by omega) (LC_dl sc44 hL (f3.trans f4)) sc44 A4 (c_bitCount (ownM_lt hL.ok v) (ih S4 (f3.trans f4) A4))
end AH
