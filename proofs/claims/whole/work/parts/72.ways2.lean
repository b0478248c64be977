/-! WAYS: the class lays them -/
def Bd (n : Nat) (f : Nat → Option Nat) (q : Nat → Nat) (m h : Nat) : Prop := (∀ c k, c < n → f c = some k → k < csn f n) ∧ ∀ c a b, h < m → c < n → f (q h) = some a → f c = some b → b ≤ a + 1
section WB
variable {n t m h : Nat} {al op : Nat → Prop} {ad : Nat → Nat → Prop} {f : Nat → Option Nat} {q : Nat → Nat}
theorem Bd.nxt (Z : Que n al op ad t f q m h) (B : Bd n f q m h) (hh : h < m) : Bd n f q m (h + 1) := ⟨B.1, fun c a b h1 hc ea eb => by
  obtain ⟨_, _, k, ek⟩ := Z.2.2.1 h hh
  have g1 := B.2 c k b hh hc ek eb
  have g2 := Z.2.2.2.1 h (h + 1) k a (by omega) h1 ek ea
  omega⟩
theorem Bd.up (Z : Que n al op ad t f q m h) (B : Bd n f q m h) {c v : Nat} (hh : h < m) (ev : f (q h) = some v) (hc : c < n) (hn : f c = none) {q' : Nat → Nat} {m' : Nat} (eq : q' h = q h) : Bd n (fse f c (v + 1)) q' m' h := by
  refine ⟨fun x k hx e => ?_, fun x a b h1 hx ea eb => ?_⟩
  · rw [csn_up hn n hc]
    by_cases ex : x = c
    · rw [ex, fse_at] at e
      have := Option.some.inj e
      have := B.1 (q h) v (Z.2.2.1 h hh).1 ev
      omega
    · rw [fse_ne ex] at e
      have := B.1 x k hx e
      omega
  · rw [eq, fse_ext hn ev] at ea
    have ea := Option.some.inj ea
    by_cases ex : x = c
    · rw [ex, fse_at] at eb
      have := Option.some.inj eb
      omega
    · rw [fse_ne ex] at eb
      have := B.2 x v b hh hx ev eb
      omega
end WB
section WC
variable {l : Lnd} {A : Scn} {S : St} {E : zX} {d : Nat}
def brd (l : Lnd) (A : Scn) (c : Nat) : Prop := ∃ x, x < lb l ∧ cel A x = c ∧ ¬ A 6 x = 0
theorem c_isBarred {c : Nat} {Q : Int32 → St → Prop} (hd : 1 ≤ d) (hL : LC l S) (hA : ScC l (S 26) A) (hO : COk l A) (hc : c < 1000) (h1 : brd l A c → Q 1 S) (h0 : ¬ brd l A c → Q 0 S) : k_Plans_isBarred E d S (nI c) Q := by
  have b10 := hL.ok.b10
  have c36 := hL.ok.c36
  refine w_Plans_isBarred hd ?_
  refine dn (P := fun k => (∀ x, x < k → ¬ (cel A x = c ∧ ¬ A 6 x = 0)) → k_Plans_isBarred_2 E d S (nI c) k Q) (lb l) ?_ (fun k hk ih => ?_) 0 (Nat.zero_le _) (fun x hx => absurd hx (Nat.not_lt_zero x))
  · intro hn
    refine w_Plans_isBarred_2 hd (ilp (lb l) hL.b (by omega) (by omega) (fun _ => h0 ?_) (fun h => absurd h (Nat.lt_irrefl _)))
    rintro ⟨x, x1, x2⟩
    exact hn x x1 x2
  · intro hn
    refine w_Plans_isBarred_2 hd (ilp (lb l) hL.b (by omega) (by omega) (fun h => by omega) (fun _ => ?_))
    obtain ⟨o1, o2⟩ := hO k hk
    refine c_cellOf (q := 25) hL.ok sc25 hA hk ?_
    rw [o1]
    have nx : ¬ (cel A k = c ∧ ¬ A 6 k = 0) → k_Plans_isBarred_2 E d S (nI c) (k + 1) Q := fun hk2 => ih (fun x hx => by
      by_cases ex : x = k
      · rw [ex]
        exact hk2
      · exact hn x (by omega))
    refine ife (fun e => ?_) (fun e => ?_)
    · have e := (nI_eq (by omega) (by omega)).mp e
      refine c_isWhite (q := 25) hL.ok sc25 hA hk (izb (fun hw => ?_) (fun hw => ?_))
      · exact nx (fun hh => hh.2 hw)
      · exact h1 ⟨k, hk, e, hw⟩
    · exact nx (fun hh => e (by rw [hh.1]))
theorem oI_n {k : Option Nat} (hb : ∀ j, k = some j → j < 1000) : oI k = -1 ↔ k = none := by
  cases k with
  | none => exact ⟨fun _ => rfl, fun _ => rfl⟩
  | some j =>
    have := hb j rfl
    exact ⟨fun h => absurd h (oI_ne (by omega)), fun h => by cases h⟩
theorem c_walkBack {t o : Nat} {Q : St → Prop} (hd : 3 ≤ d) (hL : LC l S) (hA : ScC l (S 26) A) (hO : COk l A) (ht : t < lw l * lh l) (ho : o < lw l * lh l) (hb : ¬ brd l A t) (h : ∀ S' f, Fr [48, 49] S S' → Dst (lw l * lh l) (fun c => ¬ brd l A c ∨ c = o) (fun c => ¬ brd l A c ∨ c = o) (fun x c => far (lw l) x c = 1) t f → f t = some 0 → (∀ c, c < lw l * lh l → S' 48 c = oI (f c)) → (∀ c k, c < lw l * lh l → f c = some k → k < 1000) → Q S') : k_Plans_walkBackFrom E d S (nI t) (nI o) Q := by
  have c36 := hL.ok.c36
  generalize hn : lw l * lh l = n at *
  have lcS : ∀ S1, Fr [48, 49] S S1 → LC l S1 := fun S1 f => LC_fr hL (fun j a b => f j (by simp only [List.mem_cons, List.not_mem_nil, or_false]; omega))
  have aS : ∀ S1, Fr [48, 49] S S1 → ScC l (S1 26) A := fun S1 f => by
    rw [f 26 (by decide)]
    exact hA
  have cS : ∀ S1, Fr [48, 49] S S1 → S1 3 2 = nI n := fun S1 f => by rw [(lcS S1 f).cells, hn]
  -- the queue
  have outer : ∀ h, h ≤ n → ∀ (S1 : St) (f : Nat → Option Nat) (q : Nat → Nat) (m : Nat), Que n (fun c => ¬ brd l A c ∨ c = o) (fun c => ¬ brd l A c ∨ c = o) (fun x c => far (lw l) x c = 1) t f q m h → Bd n f q m h → Fr [48, 49] S S1 → (∀ c, c < n → S1 48 c = oI (f c)) → (∀ i, i < m → S1 49 i = nI (q i)) → k_Plans_walkBackFrom_45 E d S1 (nI o) m h Q := by
    refine dn n ?_ (fun hh hhn ih => ?_)
    · intro S1 f q m Z B f1 g1 g2
      have mle := Z.2.2.2.2.2.2.2
      have cle := csn_le f n
      refine w_Plans_walkBackFrom_45 (by omega) ?_
      rw [if_pos (nI_le (show m ≤ n by omega) (by omega))]
      exact h S1 f f1 (Z.dst (by omega)) Z.1 g1 (fun c k hc e => by have := B.1 c k hc e; omega)
    · intro S1 f q m Z B f1 g1 g2
      have mle := Z.2.2.2.2.2.2.2
      have cle := csn_le f n
      refine w_Plans_walkBackFrom_45 (by omega) ?_
      by_cases hm : m ≤ hh
      · rw [if_pos (nI_le hm (by omega))]
        exact h S1 f f1 (Z.dst hm) Z.1 g1 (fun c k hc e => by have := B.1 c k hc e; omega)
      · rw [if_neg (nI_ge (by omega) (by omega)), cS S1 f1, if_neg (nI_ge hhn (by omega))]
        have inner : ∀ k, k ≤ n → ∀ (S1 : St) (f : Nat → Option Nat) (q : Nat → Nat) (m : Nat), hh < m → Que n (fun c => ¬ brd l A c ∨ c = o) (fun c => ¬ brd l A c ∨ c = o) (fun x c => far (lw l) x c = 1) t f q m hh → Bd n f q m hh → Fr [48, 49] S S1 → (∀ c, c < n → S1 48 c = oI (f c)) → (∀ i, i < m → S1 49 i = nI (q i)) → (∀ c, c < k → far (lw l) (q hh) c = 1 → (¬ brd l A c ∨ c = o) → ¬ f c = none) → k_Plans_walkBackFrom_66 E d S1 (nI o) m hh k Q := by
          have done : ∀ (S1 : St) (f : Nat → Option Nat) (q : Nat → Nat) (m : Nat), hh < m → Que n (fun c => ¬ brd l A c ∨ c = o) (fun c => ¬ brd l A c ∨ c = o) (fun x c => far (lw l) x c = 1) t f q m hh → Bd n f q m hh → Fr [48, 49] S S1 → (∀ c, c < n → S1 48 c = oI (f c)) → (∀ i, i < m → S1 49 i = nI (q i)) → (∀ c, c < n → far (lw l) (q hh) c = 1 → (¬ brd l A c ∨ c = o) → ¬ f c = none) → k_Plans_walkBackFrom_45 E d S1 (nI o) m (hh + 1) Q := by
            intro S1 f q m hm Z B f1 g1 g2 hp
            refine ih S1 f q m (Z.nxt hm (fun k ek c hc ha hl => ?_)) (Bd.nxt Z B hm) f1 g1 g2
            cases e : f c with
            | none => exact absurd e (hp c hc ha hl)
            | some j => exact ⟨j, rfl, B.2 c k j hm hc ek e⟩
          refine dn n ?_ (fun k hk ihk => ?_)
          · intro S1 f q m hm Z B f1 g1 g2 hp
            refine w_Plans_walkBackFrom_66 (by omega) ?_
            rw [cS S1 f1, if_pos (nI_le (Nat.le_refl n) (by omega))]
            exact done S1 f q m hm Z B f1 g1 g2 hp
          · intro S1 f q m hm Z B f1 g1 g2 hp
            have mle := Z.2.2.2.2.2.2.2
            have cle := csn_le f n
            have bd : ∀ j, f k = some j → j < 1000 := fun j e => by have := B.1 k j hk e; omega
            refine w_Plans_walkBackFrom_66 (by omega) ?_
            rw [cS S1 f1, if_neg (nI_ge hk (by omega))]
            by_cases h36 : 36 ≤ m
            · rw [if_pos (nI_le h36 (by omega))]
              refine done S1 f q m hm Z B f1 g1 g2 (fun c hc _ _ e => ?_)
              have := Z.room hc e
              omega
            · rw [if_neg (nI_ge (by omega) (by omega))]
              have sk : (far (lw l) (q hh) k = 1 → (¬ brd l A k ∨ k = o) → ¬ f k = none) → k_Plans_walkBackFrom_66 E d S1 (nI o) m hh (k + 1) Q := fun hs => ihk S1 f q m hm Z B f1 g1 g2 (fun c hc ha hl => by
                by_cases ec : c = k
                · rw [ec] at ha hl ⊢
                  exact hs ha hl
                · exact hp c (by omega) ha hl)
              refine ⟨by omega, ?_⟩
              rw [g1 k hk]
              refine ife (fun e => ?_) (fun e => ?_)
              · have e := (oI_n bd).mp e
                obtain ⟨qn, qo, v, qv⟩ := Z.2.2.1 hh hm
                have vb := B.1 (q hh) v qn qv
                have go130 : far (lw l) (q hh) k = 1 → (¬ brd l A k ∨ k = o) → k_Plans_walkBackFrom_130 E d S1 (nI o) m hh k Q := by
                  intro hf hl
                  refine w_Plans_walkBackFrom_130 (by omega) ⟨by omega, q hh, g2 hh hm, by omega, by omega, fun S2 e2 => ⟨by omega, fun S3 e3 => ?_⟩⟩
                  have x48 : S3 48 = upd (S1 48) k (nI (v + 1)) := by
                    rw [e3, up_ne _ _ _ (by decide), e2, up_same, g1 (q hh) qn, qv]
                    show upd (S1 48) k (nI v + 1) = _
                    rw [nI_1]
                  have x49 : S3 49 = upd (S1 49) m (nI k) := by rw [e3, up_same, e2, up_ne _ _ _ (by decide)]
                  refine ihk S3 (fse f k (v + 1)) (fun i => if i = m then k else q i) (m + 1) (by omega) (Z.psh hm qv hk hf hl e hl) (Bd.up Z B hm qv hk e (if_neg (by omega))) ?_ (fun c hc => ?_) (fun i hi => ?_) (fun c hc ha hl2 => ?_)
                  · rw [e3, e2]
                    exact f1.trans ((Fr.up _ _ (by decide)).trans (Fr.up _ _ (by decide)))
                  · rw [x48]
                    by_cases ec : c = k
                    · rw [ec, upd_same, fse_at]
                      rfl
                    · rw [upd_ne _ _ ec, fse_ne ec]
                      exact g1 c hc
                  · rw [x49]
                    by_cases ei : i = m
                    · rw [ei, upd_same, if_pos rfl]
                    · rw [upd_ne _ _ ei, if_neg ei]
                      exact g2 i (by omega)
                  · have ha : far (lw l) (if hh = m then k else q hh) c = 1 := ha
                    rw [if_neg (by omega)] at ha
                    by_cases ec : c = k
                    · rw [ec, fse_at]
                      intro hx
                      cases hx
                    · rw [fse_ne ec]
                      exact hp c (by omega) ha hl2
                refine ⟨by omega, c_far (lcS S1 f1) (g2 hh hm) rfl (by rw [hn]; exact qn) (by rw [hn]; exact hk) ?_⟩
                have fl := hL.ok.far (a := q hh) (b := k) (by rw [hn]; exact qn) (by rw [hn]; exact hk)
                refine ife (fun e1 => ?_) (fun e1 => ?_)
                · have e1 : far (lw l) (q hh) k = 1 := (nI_eq (b := 1) (by omega) (by omega)).mp e1
                  refine ife (fun e2 => ?_) (fun e2 => ?_)
                  · exact go130 e1 (Or.inr ((nI_eq (by omega) (by omega)).mp e2))
                  · refine c_isBarred (by omega) (lcS S1 f1) (aS S1 f1) hO (by omega) (fun hb1 => ?_) (fun hb0 => ?_)
                    · rw [if_neg (by decide)]
                      exact sk (fun _ hl => absurd hl (fun hl => hl.elim (fun g => g hb1) (fun g => e2 (by rw [g]))))
                    · rw [if_pos rfl]
                      exact go130 e1 (Or.inl hb0)
                · exact sk (fun hf => absurd (show nI (far (lw l) (q hh) k) = 1 by rw [hf]; rfl) e1)
              · exact sk (fun _ _ hh => e ((oI_n bd).mpr hh))
        exact inner 0 (Nat.zero_le _) S1 f q m (by omega) Z B f1 g1 g2 (fun c hc => absurd hc (Nat.not_lt_zero c))
  refine w_Plans_walkBackFrom (by omega) ?_
  have init : ∀ k, k ≤ n → ∀ S1 : St, Fr [48, 49] S S1 → (∀ c, c < k → S1 48 c = -1) → k_Plans_walkBackFrom_2 E d S1 t (nI o) k Q := by
    refine dn n ?_ (fun k hk ih => ?_)
    · intro S1 f1 g1
      refine w_Plans_walkBackFrom_2 (by omega) ?_
      rw [cS S1 f1, if_pos (nI_le (Nat.le_refl n) (by omega))]
      refine ⟨by omega, fun S2 e2 S3 e3 => ?_⟩
      have f0 : ∀ c k, fse (fun _ => none) t 0 c = some k → c = t ∧ k = 0 := fun c k e => by
        by_cases ec : c = t
        · rw [ec, fse_at] at e
          exact ⟨ec, (Option.some.inj e).symm⟩
        · rw [fse_ne ec] at e
          cases e
      have cs : csn (fse (fun _ => none) t 0) n = csn (fun _ => none) n + 1 := csn_up rfl n ht
      refine outer 0 (Nat.zero_le _) S3 (fse (fun _ => none) t 0) (fun _ => t) 1 ⟨fse_at, fun c k _ e => Or.inl (f0 c k e), fun i _ => ⟨ht, Or.inl hb, 0, fse_at⟩, fun i j a b _ _ ea eb => ?_, fun j a b _ _ ea eb => ?_, fun i k hi => absurd hi (Nat.not_lt_zero i), fun c k _ _ e => ⟨0, by omega, (f0 c k e).1.symm⟩, by omega⟩ ⟨fun c k _ e => ?_, fun c a b _ _ ea eb => ?_⟩ ?_ (fun c hc => ?_) (fun i hi => ?_)
      · have := (f0 _ _ ea).2
        omega
      · have := (f0 _ _ eb).2
        omega
      · have := (f0 _ _ e).2
        omega
      · have := (f0 _ _ eb).2
        omega
      · rw [e3, e2]
        exact f1.trans ((Fr.up _ _ (by decide)).trans (Fr.up _ _ (by decide)))
      · rw [e3, up_ne _ _ _ (by decide), e2, up_same]
        by_cases ec : c = t
        · rw [ec, upd_same, fse_at]
          rfl
        · rw [upd_ne _ _ ec, fse_ne ec]
          exact g1 c hc
      · rw [e3, up_same, show i = 0 by omega, upd_same]
    · intro S1 f1 g1
      refine w_Plans_walkBackFrom_2 (by omega) ?_
      rw [cS S1 f1, if_neg (nI_ge hk (by omega))]
      refine ⟨by omega, fun S2 e2 => ih S2 (by rw [e2]; exact f1.trans (Fr.up _ _ (by decide))) (fun c hc => ?_)⟩
      rw [e2, up_same]
      by_cases ec : c = k
      · rw [ec, upd_same]
      · rw [upd_ne _ _ ec]
        exact g1 c (by omega)
  exact init 0 (Nat.zero_le _) S (Fr.refl _ _) (fun c hc => absurd hc (Nat.not_lt_zero c))
end WC
