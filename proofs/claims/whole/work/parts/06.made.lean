/-! SOUNDNESS, piece by piece: what makes cells, copies, constants -/
/-- the heap is no larger than it was with what was made since -/
theorem z_size {p : Program} {l : Launch} {e : Env} {R : Room} {s : State} {m : MethodId} {args : Array Value} {below : List Frame} {meth : Method} {c : Code} {H : Heap} {locs : List Loc} {cells slots : Nat} {Q : State → Prop} {g : JFrame}
    (k : H.size ≤ s.heap.size + cells → W p l e R s m args below meth c H locs cells slots Q g) : W p l e R s m args below meth c H locs cells slots Q g := by
  intro T hT X
  have h1 := X.same.2.2.1
  have h2 : (T.setVm s.vm).heap = T.heap := rfl
  rw [h2, hT] at h1
  exact k h1 T hT X
def z_okN (cl : List vw_C) (Ts : List Cond) (own : String) (idx ci : Nat) (fs : List Value) : Prop :=
  ∃ (C : String) (T : u_T) (N : Nat) (ty : Nat → FieldType), cl[ci]? = some (C, T, N) ∧ (∀ w ∈ u_ws C T N, w ∈ Ts) ∧ (∀ k, k < N → parseFieldDescriptor (T k).2.2.1 = some (ty k)) ∧ Cond.classLink own idx C ∈ Ts ∧ Cond.instantiable C N ∈ Ts ∧ Cond.initialized C ∈ Ts ∧
    (∀ j, j < N → defaultValue (ty j) = vp_V fs j) ∧ fs.length = N ∧ ∀ v ∈ fs, v = .null ∨ v = .int 0 ∨ v = .long 0
section ZN
variable {p : Program} {l : Launch} {e : Env} {R : Room} {s : State} {m : MethodId} {args : Array Value} {below : List Frame} {meth : Method} {c : Code} {H : Heap} {locs : List Loc} {cells slots : Nat} {Q : State → Prop}
variable {cc : ByteArray} {pc : Nat} {ls : Array Slot} {b : Nat} {ex : Nat → Value} {cA : Nat → ClassId} {D : va_G} {cl : List vw_C} {E : zX} {Ts : List Cond} {own : String} {st : List Value} {h : zH} {r : zO × zH}
set_option maxHeartbeats 4000000 in
theorem zs_new (hx : p.tables.exec = Jvm.exec) (hb : c.code = cc) (hts : ∀ w ∈ Ts, w.before args s = true) (hown : s.vm.findClass own = some m.cls) (hK : va_K D cl (z_tys cA) s) (hP : va_P D cl (z_ws b ex cA h.1) H) (hS : va_S (z_A b) s.heap H locs) (hb0 : b ≤ s.heap.size) (hsz : H.size = b + h.1.length)
    {idx ci : Nat} {fs : List Value} (hok : z_okN cl Ts own idx ci fs) (hd : decode cc pc = .ok (.new idx, 3)) (hcells : cells + 1 ≤ R.cells) (hslots : slots + fs.length ≤ R.slots)
    (kk : ∀ H1, va_P D cl (z_ws b ex cA (h.1 ++ [.inr (ci, fs)])) H1 → va_S (z_A b) s.heap H1 locs → H1.size = H.size + 1 → W p l e R s m args below meth c H1 locs (cells + 1) (slots + fs.length) Q (F0 m (pc + 3) ls ((.ref h.1.length :: st).map (z_v b ex)))) : W p l e R s m args below meth c H locs cells slots Q (F0 m pc ls (st.map (z_v b ex))) := by
  obtain ⟨C, T, N, ty, hc, hin, hty, hcl, hinst, hini, hfs, hN, hfv⟩ := hok
  have hKn := hK.1 ci _ hc
  have hmap : fs.map (z_v b ex) = fs := by
    conv => rhs; rw [← List.map_id fs]
    refine List.map_congr_left fun v hv => ?_
    rcases hfv v hv with rfl | rfl | rfl <;> rfl
  subst hN
  refine W.newcK hx hb hown (hts _ hcl) (hts _ hinst) (hts _ hini) rfl hd hcells hslots hKn.2.1 hsz fun H1 kC hkC e1 z1 o1 => ?_
  refine kk H1 ?_ ⟨Nat.le_trans hS.1 (by omega), fun x h1 h2 => (o1 x (by have := hS.1; omega)).trans (hS.2.1 x h1 h2), hS.2.2⟩ (by rw [z1, hsz])
  rw [z_ws_app]
  refine (hP.kept fun k x hk => ?_).app fun k x hk => ?_
  · exact o1 x.1 (by rw [← hsz]; exact (hP k x hk).lt)
  · have hz : k < 1 := (List.getElem?_eq_some_iff.mp hk).1
    rw [show k = 0 by omega] at hk
    cases hk
    refine ⟨_, hc, ?_⟩
    show t_OB (b + h.1.length) (D.1 ci) _ (D.2 ci) H1 (vp_V (fs.map (z_v b ex)))
    rw [hmap]
    exact (u_born ty hts hin hKn hkC e1 hty).to hfs
theorem z_nty {t : ArrayType} {N : Nat} {q : zC} (h : znew t N = some q) : ∃ (k : Nat) (ty : FieldType) (a0 : vp_A), q = .inl (k, a0) ∧ newarray.typeOf t = ty ∧ (∀ cA : Nat → ClassId, (z_tys cA)[k]? = some (cA k, ty)) ∧ (∀ cA : ClassId, vp_cell cA a0 = arrV cA N (fun _ => defaultValue ty)) ∧ componentBytes ty ≤ 8 ∧ (∀ (U : State) (cA : ClassId), va_RA U cA ty = (U.vm.findClass ("[" ++ ty.toString) = some cA)) ∧ a0.1 = N := by
  unfold znew at h
  split at h
  · cases h; exact ⟨0, .int, _, rfl, rfl, fun _ => rfl, fun _ => rfl, by decide, fun _ _ => rfl, rfl⟩
  · cases h; exact ⟨1, .long, _, rfl, rfl, fun _ => rfl, fun _ => rfl, by decide, fun _ _ => rfl, rfl⟩
  · cases h; exact ⟨2, .boolean, _, rfl, rfl, fun _ => rfl, fun _ => rfl, by decide, fun _ _ => rfl, rfl⟩
  · cases h
set_option maxHeartbeats 4000000 in
theorem zs_newa (hx : p.tables.exec = Jvm.exec) (hb : c.code = cc) (hts : ∀ w ∈ Ts, w.before args s = true) (hK : va_K D cl (z_tys cA) s) (hP : va_P D cl (z_ws b ex cA h.1) H) (hS : va_S (z_A b) s.heap H locs) (hb0 : b ≤ s.heap.size) (hsz : h.2 = 0 → H.size = b + h.1.length)
    {ins : Instr} (hat : ∀ t, ins = .newarray t → Cond.arrayClass (newarray.typeOf t) ∈ Ts) (hd : decode cc pc = .ok (ins, 2)) {K : List Value → zH → zR} (h0 : znewa ins h st K = some r)
    (hroom : ∀ st1 h1, K st1 h1 = some r → h1.2 = h.2 → h1.1.length = h.1.length + 1 → zsm h.1 ≤ zsm h1.1 → cells + 1 ≤ R.cells ∧ slots + (zsm h1.1 - zsm h.1) ≤ R.slots)
    (kk : ∀ st1 h1 H1, K st1 h1 = some r → h1.2 = h.2 → h1.1.length = h.1.length + 1 → zsm h.1 ≤ zsm h1.1 → va_P D cl (z_ws b ex cA h1.1) H1 → va_S (z_A b) s.heap H1 locs → H1.size = H.size + 1 → W p l e R s m args below meth c H1 locs (cells + 1) (slots + (zsm h1.1 - zsm h.1)) Q (F0 m (pc + 2) ls (st1.map (z_v b ex)))) : W p l e R s m args below meth c H locs cells slots Q (F0 m pc ls (st.map (z_v b ex))) := by
  unfold znewa at h0
  split at h0
  · rename_i t n r0
    split at h0
    · cases h0
    · rename_i hn
      split at h0
      · rename_i q hq
        have hz := z_bif h0
        clear h0
        obtain ⟨h1, h0⟩ := hz
        have h1 : h.2 = 0 := Nat.eq_of_beq_eq_true h1
        have hsz := hsz h1
        obtain ⟨k, ty, a0, rfl, hty, htk, hac, hby, hra, ha1⟩ := z_nty hq
        have hzz : zsm (h.1 ++ [.inl (k, a0)]) - zsm h.1 = n.toNatClampNeg := by
          rw [zsm_app]
          show zsm h.1 + a0.1 - zsm h.1 = _
          omega
        have hrm := hroom _ _ h0 rfl (by simp) (by rw [zsm_app]; omega)
        rw [hzz] at hrm
        have hk2 := fun H1 => kk _ _ H1 h0 rfl (by simp) (by rw [zsm_app]; omega)
        simp only [hzz] at hk2
        refine va_newaK hx hb (hts _ (hat t rfl)) rfl hd rfl (fun z => hn (Or.inl z)) rfl ?_ hrm.1 hrm.2 hsz fun H1 cA1 e1 z1 o1 hAr hNm => ?_
        · rw [hty]
          have h9 : n.toNatClampNeg ≤ 100000 := Nat.not_lt.mp fun z => hn (Or.inr z)
          calc n.toNatClampNeg * componentBytes ty ≤ 100000 * 8 := Nat.mul_le_mul h9 hby
            _ ≤ 536870912 := by decide
        · have hcA : cA1 = cA k := by
            have h9 := (hK.2 k _ (htk cA)).2
            rw [hra] at h9
            rw [hty] at hNm
            exact Option.some.inj (hNm.symm.trans h9)
          subst hcA
          refine hk2 H1 ?_ ⟨Nat.le_trans hS.1 (by omega), fun x h1 h2 => (o1 x (by have := hS.1; omega)).trans (hS.2.1 x h1 h2), hS.2.2⟩ (by rw [z1, hsz])
          show va_P D cl (z_ws b ex cA (h.1 ++ [.inl (k, a0)])) H1
          rw [z_ws_app]
          refine (hP.kept fun k x hk => ?_).app fun k9 x hk => ?_
          · exact o1 x.1 (by rw [← hsz]; exact (hP k x hk).lt)
          · have hz : k9 < 1 := (List.getElem?_eq_some_iff.mp hk).1
            rw [show k9 = 0 by omega] at hk
            cases hk
            show H1[b + h.1.length]? = some (vp_cell _ _)
            rw [hac, e1, hty]
      · cases h0
  · cases h0
set_option maxHeartbeats 4000000 in
theorem zs_cp (hx : p.tables.exec = Jvm.exec) (hb : c.code = cc) (hml : c.maxLocals = ls.size) (hts : ∀ w ∈ Ts, w.before args s = true) (hown : s.vm.findClass own = some m.cls) (hK : va_K D cl (z_tys cA) s) (hP : va_P D cl (z_ws b ex cA h.1) H) (hS : va_S (z_A b) s.heap H locs)
    {idx : Nat} (w1 : Cond.methodLink own idx arraycopyName ∈ Ts) (w2 : Cond.native arraycopyName ∈ Ts) (w3 : Cond.static arraycopyName ∈ Ts) (w4 : Cond.initialized "java/lang/System" ∈ Ts) (hd : decode cc pc = .ok (.invokestatic idx, 3)) (hfr : 1 ≤ R.frames) (hlo : 60 ≤ R.locals) (hex : ∀ i, (ex i).category = 1) (hcat : zcat st ≤ 16) {K : List Value → zH → zR} (h0 : zcp h st K = some r)
    (kk : ∀ st1 h1 H1 locs1, K st1 h1 = some r → h1.2 = h.2 → (zsm h1.1 = zsm h.1 ∧ h1.1.length = h.1.length) → va_P D cl (z_ws b ex cA h1.1) H1 → va_S (z_A b) s.heap H1 locs1 → W p l e R s m args below meth c H1 locs1 cells slots Q (F0 m (pc + 3) ls (st1.map (z_v b ex)))) : W p l e R s m args below meth c H locs cells slots Q (F0 m pc ls (st.map (z_v b ex))) := by
  unfold zcp at h0
  split at h0
  · rename_i n dp a sp a0 r0
    split at h0
    · rename_i n0 f n1 g ha0 ha1
      split at h0
      · cases h0
      · rename_i hn
        simp only [not_or, Nat.not_lt] at hn
        obtain ⟨⟨q1, q2, q3⟩, q4, q5⟩ := hn
        have hcr : ((r0.map (z_v b ex)).map fun v => v.category).sum + (nativeFrameWords "java/lang/System" "arraycopy" 5 + 11) ≤ R.locals := by
          have e1 : (r0.map (z_v b ex)).map (fun v => v.category) = r0.map (fun v => v.category) := by
            rw [List.map_map]
            exact List.map_congr_left fun v _ => z_v_cat hex v
          rw [e1]
          simp only [zcat, List.map_cons, List.sum_cons] at hcat
          have e2 : nativeFrameWords "java/lang/System" "arraycopy" 5 ≤ 30 := by decide
          omega
        refine va_copyi hx hb hml hown (hts _ w1) (hts _ w2) (hts _ w3) (hts _ w4) hK hP z_D hS a0 a 0 0 (z_ws_get ha0) (z_ws_get ha1) rfl rfl rfl q1 q2 q3 q4 q5 (fun _ _ => rfl) hfr hcr hd (fun H1 locs1 g1 g2 g3 => kk _ (_, h.2) H1 locs1 h0 rfl ⟨zsm_setk ha1 rfl, by simp only [List.length_set]⟩ ?_ g3)
        show va_P D cl (z_ws b ex cA (List.set _ _ _)) H1
        rw [z_ws_set]
        exact g1
    · cases h0
  · cases h0
end ZN
