/-! ===== what is made; constants; returns; the script; Strings ===== -/
theorem eb_al_ne {h : eb_H} {i k len : Nat} (hi : eb_al h i) (hk : k < 32) (hl : len < 16384) : i ≠ eb_nx h k len := by
  intro e
  have h1 := hi.1
  rw [e, eb_nx, eb_mk_ix hk hl] at h1
  exact Nat.lt_irrefl _ h1
theorem eb_nw_al {h : eb_H} {i k len sl : Nat} (hi : eb_al h i) : eb_al (eb_nw h k len sl) i := by
  refine ⟨Nat.lt_succ_of_lt hi.1, ?_⟩
  have : eb_ix i ≠ eb_n h := Nat.ne_of_lt hi.1
  show va_up (eb_C h) (eb_n h) (eb_nx h k len) (eb_ix i) = i
  simp [va_up, this, hi.2]
theorem eb_nw_self {h : eb_H} {k len sl : Nat} (hk : k < 32) (hl : len < 16384) : eb_al (eb_nw h k len sl) (eb_nx h k len) := by
  have e : eb_ix (eb_nx h k len) = eb_n h := eb_mk_ix hk hl
  refine ⟨by rw [e]; exact Nat.lt_succ_self _, ?_⟩
  rw [e]
  show va_up (eb_C h) (eb_n h) (eb_nx h k len) (eb_n h) = _
  simp [va_up]
theorem eb_nw_back {h : eb_H} {i k len sl : Nat} (hi : eb_al (eb_nw h k len sl) i) (hne : i ≠ eb_nx h k len) : eb_al h i := by
  have h1 : eb_ix i < eb_n h + 1 := hi.1
  have h2 : va_up (eb_C h) (eb_n h) (eb_nx h k len) (eb_ix i) = i := hi.2
  by_cases e : eb_ix i = eb_n h
  · simp [va_up, e] at h2
    exact absurd h2.symm hne
  · simp [va_up, e] at h2
    exact ⟨by omega, h2⟩
theorem eb_nw_wf {h : eb_H} {k len sl : Nat} (hk : k < 20) (hl : len < 16384) (w : eb_wf h) : eb_wf (eb_nw h k len sl) := by
  refine ⟨fun j hj => ?_, fun i hi q t ht => ?_⟩
  · have hj : j < eb_n h + 1 := hj
    show eb_ix (va_up (eb_C h) (eb_n h) (eb_nx h k len) j) = j ∧ eb_kd (va_up (eb_C h) (eb_n h) (eb_nx h k len) j) < 20
    by_cases e : j = eb_n h
    · simp only [va_up, e, if_true]
      exact ⟨eb_mk_ix (by omega) hl, by rw [eb_nx, eb_mk_kd (by omega)]; exact hk⟩
    · simp only [va_up, e, if_false]
      exact w.1 j (by omega)
  · have ht : va_up (eb_R h) (eb_nx h k len) (fun _ => none) i q = some t := ht
    by_cases e : i = eb_nx h k len
    · simp [va_up, e] at ht
    · simp only [va_up, e, if_false] at ht
      exact eb_nw_al (w.2 i (eb_nw_back hi e) q t ht)
theorem eb_nw_cell {cy : Nat → ClassId} {ad : Nat → Nat} {h : eb_H} {k len sl q c : Nat} (hk : k < 20) (hl : len < 16384) (w : eb_wf h) (hc : eb_al h c) : eb_cell cy (va_up ad (eb_nx h k len) q) (eb_nw h k len sl) c = eb_cell cy ad h c := by
  have hne : c ≠ eb_nx h k len := eb_al_ne hc (by omega) hl
  have eI : eb_I (eb_nw h k len sl) c = eb_I h c := by show va_up (eb_I h) _ _ c = _; simp [va_up, hne]
  have eJ : eb_J (eb_nw h k len sl) c = eb_J h c := by show va_up (eb_J h) _ _ c = _; simp [va_up, hne]
  have eR : eb_R (eb_nw h k len sl) c = eb_R h c := by show va_up (eb_R h) _ _ c = _; simp [va_up, hne]
  have em : ∀ j, (eb_R h c j).map (va_up ad (eb_nx h k len) q) = (eb_R h c j).map ad := by
    intro j
    cases hr : eb_R h c j with
    | none => rfl
    | some t =>
      have : t ≠ eb_nx h k len := eb_al_ne (w.2 c hc j t hr) (by omega) hl
      simp [va_up, this]
  have eF : eb_fs (va_up ad (eb_nx h k len) q) (eb_nw h k len sl) c = eb_fs ad h c := by
    unfold eb_fs
    congr 1
    funext j
    unfold eb_fv
    rw [eI, eR, em j]
  unfold eb_cell
  rw [eI, eJ, eR, eF]
  simp only [em]
theorem eb_cv_up {h : eb_H} {ad : Nat → Nat} {k len q : Nat} {v : Value} (hk : k < 20) (hl : len < 16384) (hv : eb_av h v) : eb_cv (va_up ad (eb_nx h k len) q) v = eb_cv ad v := by
  cases v with
  | ref i =>
    have : i ≠ eb_nx h k len := by
      rcases hv with g | g
      · intro e
        rw [e, eb_nx, eb_mk_kd (by omega)] at g
        omega
      · exact eb_al_ne g (by omega) hl
    simp [eb_cv, va_up, this]
  | _ => rfl
section EBMAKE
variable {d : Nat} {M : eb_M} {h0 : eb_H} {pc a b : Nat} {ls : List (Nat × Value)} {st : List Value} {h : eb_H} {Q : Option Value → eb_H → Prop}
theorem eb_mkr {pc2 kd len sl : Nat} {st1 : List Value} (hkd : kd < 20) (hlen : len < 16384) (hsub : eb_avs h st1 → eb_avs h st)
  (w : ∀ {l : Launch} {D : va_G} {cy : Nat → ClassId} {A : Nat → Prop} {p : Program} {e : Env} {R : Room} {s : State} {m : MethodId} {args : Array Value} {below : List Frame} {meth : Method} {c : Code} {H : Heap} {locs : List Loc} {cells slots : Nat} {QF : State → Prop} {ad0 ad : Nat → Nat} {lsA : Array Slot},
    eb_C1 M p s m args meth c → eb_C2 D cy A s ad0 h0 → cells + 1 ≤ R.cells → slots + sl ≤ R.slots → va_P D eb_cl (eb_wd cy ad h) H → va_D A (eb_wd cy ad h) → va_S A s.heap H locs → (∀ (q : Nat) (H1 : Heap), va_P D eb_cl (eb_wd cy ad h ++ [(q, eb_cell cy (va_up ad (eb_nx h kd len) q) (eb_nw h kd len sl) (eb_nx h kd len))]) H1 → va_D A (eb_wd cy ad h ++ [(q, eb_cell cy (va_up ad (eb_nx h kd len) q) (eb_nw h kd len sl) (eb_nx h kd len))]) → va_S A s.heap H1 locs → W p l e R s m args below meth c H1 locs (cells + 1) (slots + sl) QF (F0 m pc2 lsA (.ref q :: st.map (eb_cv ad)))) → W p l e R s m args below meth c H locs cells slots QF (F0 m pc lsA (st1.map (eb_cv ad))))
  (k : eb_Sn d M h0 pc2 ls (.ref (eb_nx h kd len) :: st) (eb_nw h kd len sl) Q) : eb_Sn d M h0 pc ls st1 h Q := by
  refine k.lift fun r h' a1 => ?_
  have g1 : eb_n h + 1 ≤ eb_n h' := a1.1.1
  have g2 : eb_z h + sl ≤ eb_z h' := a1.1.2
  refine ⟨⟨by omega, by omega⟩, ?_⟩
  intro l D cy A p e R s m args below meth c ad0 QF c1 c2 c3 ex ad H locs lsA dy
  have n0 := dy.2.1.2.2.1.1
  have z0 := dy.2.1.2.2.1.2
  have r1 := c3.2.2.1
  have r2 := c3.2.2.2
  refine w c1 c2 (by omega) (by omega) dy.2.2.1.1 dy.2.2.1.2.1 dy.2.2.1.2.2 fun q H1 hP hD hS => ?_
  have hwf := dy.1.1
  have eC : eb_C (eb_nw h kd len sl) (eb_n h) = eb_nx h kd len := by show va_up (eb_C h) _ _ _ = _; simp [va_up]
  have ew : eb_wd cy ad h ++ [(q, eb_cell cy (va_up ad (eb_nx h kd len) q) (eb_nw h kd len sl) (eb_nx h kd len))] = eb_wd cy (va_up ad (eb_nx h kd len) q) (eb_nw h kd len sl) := by
    refine eb_wd_push rfl (fun j hj => ?_) (by rw [eC]; simp [va_up]) (by rw [eC]) (fun j hj => ?_) (fun j hj => ?_)
    · show va_up (eb_C h) _ _ j = _
      simp [va_up, Nat.ne_of_lt hj]
    · have hal : eb_al h (eb_C h j) := ⟨by rw [(hwf.1 j hj).1]; exact hj, by rw [(hwf.1 j hj).1]⟩
      have := eb_al_ne (k := kd) (len := len) hal (by omega) hlen
      simp [va_up, this]
    · exact eb_nw_cell hkd hlen hwf ⟨by rw [(hwf.1 j hj).1]; exact hj, by rw [(hwf.1 j hj).1]⟩
  rw [ew] at hP hD
  have els : ls.map (eb_cq (va_up ad (eb_nx h kd len) q)) = ls.map (eb_cq ad) := List.map_congr_left fun x hx => by
    unfold eb_cq
    rw [eb_cv_up hkd hlen (dy.1.2.1 x hx)]
  have est : st.map (eb_cv (va_up ad (eb_nx h kd len) q)) = st.map (eb_cv ad) := List.map_congr_left fun x hx => eb_cv_up hkd hlen (hsub dy.1.2.2 x hx)
  have eav : ∀ v, eb_av h v → eb_av (eb_nw h kd len sl) v := fun v hv => by
    cases v <;> first | trivial | exact hv.imp id eb_nw_al
  have := a1.2 l D cy A p e R s m args below meth c ad0 QF c1 c2 c3 ex (va_up ad (eb_nx h kd len) q) H1 locs lsA ⟨⟨eb_nw_wf hkd hlen hwf, fun x hx => eav _ (dy.1.2.1 x hx), eb_avc (Or.inr (eb_nw_self (by omega) hlen)) (fun v hv => eav v (hsub dy.1.2.2 v hv))⟩, ⟨fun i hi => ?_, fun i hi => eb_nw_al (dy.2.1.2.1 i hi), ⟨?_, ?_⟩, dy.2.1.2.2.2.1, dy.2.1.2.2.2.2⟩, ⟨hP, hD, hS⟩, by rw [els]; exact dy.2.2.2⟩
  · have e1 : eb_n (eb_nw h kd len sl) - eb_n h0 = eb_n h - eb_n h0 + 1 := by show eb_n h + 1 - _ = _; omega
    have e2 : eb_z (eb_nw h kd len sl) - eb_z h0 = eb_z h - eb_z h0 + sl := by show eb_z h + sl - _ = _; omega
    rw [e1, e2, List.map_cons, est] at this
    have e3 : eb_cv (va_up ad (eb_nx h kd len) q) (.ref (eb_nx h kd len)) = .ref q := by simp [eb_cv, va_up]
    rw [e3] at this
    exact this
  · have hne : i ≠ eb_nx h kd len := by
      rcases hi with g | g
      · intro e
        rw [e, eb_nx, eb_mk_kd (by omega)] at g
        omega
      · exact eb_al_ne (dy.2.1.2.1 i g) (by omega) hlen
    simp only [va_up, hne, if_false]
    exact dy.2.1.1 i hi
  · show eb_n h0 ≤ eb_n h + 1
    omega
  · show eb_z h0 ≤ eb_z h + sl
    omega
theorem eb_def : ∀ a, a < 12 → ∀ b, b < eb_nf a → defaultValue (eb_ty a b) = if eb_isR a b then .null else .int 0 := by decide +kernel
theorem eb_new {x : Nat} (hi : eb_find pc M.2 = some (pc, 3, .new x, a, b)) (ha : a < 12) (k : eb_Sn d M h0 (pc + 3) ls (.ref (eb_nx h a 0) :: st) (eb_nw h a 0 (eb_nf a)) Q) : eb_Sn d M h0 pc ls st h Q := by
  refine eb_mkr (kd := a) (len := 0) (sl := eb_nf a) (by omega) (by decide) (fun hs => hs) ?_ k
  intro l D cy A p e R s m args below meth c H locs cells slots QF ad0 ad lsA c1 c2 hc hs hP hD hS kk
  have hcl : Cond.classLink (eb_cn (eb_ow M.1)) x (eb_cn a) ∈ eb_WS := eb_inW8 (List.mem_map.mpr ⟨_, eb_con (show eb_crefs.contains (eb_ow M.1, x, a) = true from (eb_dec c1.2.2.2.2.2.2 hi).2), rfl⟩)
  have hins : Cond.instantiable (eb_cn a) (eb_nf a) ∈ eb_WS := eb_inW9 (List.mem_map.mpr ⟨a, List.mem_range.mpr ha, rfl⟩)
  have hini : Cond.initialized (eb_cn a) ∈ eb_WS := eb_inW7 (List.mem_map.mpr ⟨a, (show ∀ a, a < 12 → a ∈ eb_iniC by decide) a ha, rfl⟩)
  have hts := c1.2.2.2.2.1
  have hkd : eb_kd (eb_nx h a 0) = a := eb_mk_kd (by omega)
  have hfs : ∀ q, eb_cell cy (va_up ad (eb_nx h a 0) q) (eb_nw h a 0 (eb_nf a)) (eb_nx h a 0) = .inr (a, (List.range (eb_nf a)).map (fun j => if eb_isR a j then Value.null else .int 0)) := by
    intro q
    rw [eb_ceO hkd ha]
    unfold eb_fs
    rw [hkd]
    congr 3
    funext j
    unfold eb_fv
    rw [hkd]
    have e1 : eb_I (eb_nw h a 0 (eb_nf a)) (eb_nx h a 0) j = 0 := by show va_up (eb_I h) _ _ _ j = 0; simp [va_up]
    have e2 : eb_R (eb_nw h a 0 (eb_nf a)) (eb_nx h a 0) j = none := by show va_up (eb_R h) _ _ _ j = none; simp [va_up]
    rw [e1, e2]
    rfl
  refine va_new (C := eb_cn a) (T := eb_T a) (N := eb_nf a) (ci := a) (fs := (List.range (eb_nf a)).map (fun j => if eb_isR a j then Value.null else .int 0)) c1.1 c1.2.1 hts (eb_lays ha) (eb_ty a) (eb_T2 a ha) c1.2.2.2.1 (hts _ hcl) (hts _ hins) (hts _ hini) c2.1 hP hD hS c2.2.1 (eb_cl_at ha) (fun j hj => ?_) hc hs (eb_de c1.2.2.2.2.2.2 hi) fun q H1 hP1 hD1 hS1 => kk q H1 (by rw [hfs]; exact hP1) (by rw [hfs]; exact hD1) hS1
  rw [eb_def a ha j hj]
  simp [vp_V, List.getD_eq_getElem?_getD, List.getElem?_map, List.getElem?_range hj]
theorem eb_cyeq {D : va_G} {cy : Nat → ClassId} {s : State} {kd : Nat} {cA : ClassId} (h1 : va_K D eb_cl (eb_tys cy) s) (hk : 12 ≤ kd) (hk2 : kd < 20) (h2 : va_K D eb_cl (eb_tys cy ++ [(cA, eb_at kd)]) s) : cA = cy kd := by
  have a1 := (h1.2 (kd - 12) _ (eb_tys_at cy hk hk2)).2
  have hl : (eb_tys cy).length = 8 := by simp [eb_tys]
  have a2 := (h2.2 8 (cA, eb_at kd) (by rw [List.getElem?_append_right (by omega), hl]; rfl)).2
  have : kd = 12 ∨ kd = 13 ∨ kd = 14 ∨ kd = 15 ∨ kd = 19 ∨ kd = 16 ∨ kd = 17 ∨ kd = 18 := by omega
  rcases this with rfl | rfl | rfl | rfl | rfl | rfl | rfl | rfl
  · exact Option.some.inj (a2.symm.trans a1)
  · exact Option.some.inj (a2.symm.trans a1)
  · exact Option.some.inj (a2.symm.trans a1)
  · exact Option.some.inj (a2.symm.trans a1)
  · exact Option.some.inj (a2.symm.trans a1)
  · obtain ⟨-, -, -, -, -, b1⟩ := a1
    obtain ⟨-, -, -, -, -, b2⟩ := a2
    exact Option.some.inj (b2.symm.trans b1)
  · obtain ⟨-, -, -, -, -, b1⟩ := a1
    obtain ⟨-, -, -, -, -, b2⟩ := a2
    exact Option.some.inj (b2.symm.trans b1)
  · obtain ⟨-, -, -, -, -, b1⟩ := a1
    obtain ⟨-, -, -, -, -, b2⟩ := a2
    exact Option.some.inj (b2.symm.trans b1)
theorem eb_newI {kd len : Nat} {n : Int32} {at0 : ArrayType} (hi : eb_find pc M.2 = some (pc, 2, .newarray at0, a, b)) (ht : newarray.typeOf at0 = eb_at kd) (hkd : kd = 12 ∨ kd = 13 ∨ kd = 15 ∨ kd = 19) (hn : ¬ n < 0) (hN : n.toNatClampNeg = len) (hlen : len < 16384) (k : eb_Sn d M h0 (pc + 2) ls (.ref (eb_nx h kd len) :: st) (eb_nw h kd len len) Q) : eb_Sn d M h0 pc ls (.int n :: st) h Q := by
  refine eb_mkr (kd := kd) (len := len) (sl := len) (by omega) hlen (fun hs => eb_av1 hs) ?_ k
  intro l D cy A p e R s m args below meth c H locs cells slots QF ad0 ad lsA c1 c2 hc hs hP hD hS kk
  have hkd' : eb_kd (eb_nx h kd len) = kd := eb_mk_kd (by omega)
  have hfs : ∀ q, eb_cell cy (va_up ad (eb_nx h kd len) q) (eb_nw h kd len len) (eb_nx h kd len) = .inl (cy kd, len, .inl (fun _ => 0)) := by
    intro q
    rw [eb_ceI hkd' hkd, eb_nx, eb_mk_ln (by omega) hlen]
    have e1 : eb_I (eb_nw h kd len len) (eb_mk (eb_n h) kd len) = fun _ => 0 := by show va_up (eb_I h) _ _ _ = _; simp [va_up, eb_nx]
    rw [e1]
  have hin : Cond.arrayClass (eb_at kd) ∈ eb_WS := eb_inW13 (by rcases hkd with rfl | rfl | rfl | rfl <;> simp [eb_W13, eb_at])
  have hdv : defaultValue (eb_at kd) = .int 0 := by rcases hkd with rfl | rfl | rfl | rfl <;> rfl
  have hcb : componentBytes (eb_at kd) ≤ 8 := by rcases hkd with rfl | rfl | rfl | rfl <;> decide
  refine va_newa (a0 := (len, .inl (fun _ => 0))) c1.1 c1.2.1 (by rw [ht]; exact c1.2.2.2.2.1 _ hin) ht c2.1 hP hD hS c2.2.1 (fun cA => by rw [vp_cell_i, hdv]) hn hN (Nat.le_trans (Nat.mul_le_mul (Nat.le_of_lt hlen) hcb) (by decide)) hc hs (eb_de c1.2.2.2.2.2.2 hi) fun q cA H1 hK1 hP1 hD1 hS1 => ?_
  have := eb_cyeq c2.1 (by omega) (by omega) hK1
  subst this
  exact kk q H1 (by rw [hfs]; exact hP1) (by rw [hfs]; exact hD1) hS1
theorem eb_newL {len : Nat} {n : Int32} (hi : eb_find pc M.2 = some (pc, 2, .newarray .long, a, b)) (hn : ¬ n < 0) (hN : n.toNatClampNeg = len) (hlen : len < 16384) (k : eb_Sn d M h0 (pc + 2) ls (.ref (eb_nx h 14 len) :: st) (eb_nw h 14 len len) Q) : eb_Sn d M h0 pc ls (.int n :: st) h Q := by
  refine eb_mkr (kd := 14) (len := len) (sl := len) (by omega) hlen (fun hs => eb_av1 hs) ?_ k
  intro l D cy A p e R s m args below meth c H locs cells slots QF ad0 ad lsA c1 c2 hc hs hP hD hS kk
  have hkd' : eb_kd (eb_nx h 14 len) = 14 := eb_mk_kd (by omega)
  have hfs : ∀ q, eb_cell cy (va_up ad (eb_nx h 14 len) q) (eb_nw h 14 len len) (eb_nx h 14 len) = .inl (cy 14, len, .inr (.inl (fun _ => 0))) := by
    intro q
    rw [eb_ceJ hkd', eb_nx, eb_mk_ln (by omega) hlen]
    have e1 : eb_J (eb_nw h 14 len len) (eb_mk (eb_n h) 14 len) = fun _ => 0 := by show va_up (eb_J h) _ _ _ = _; simp [va_up, eb_nx]
    rw [e1]
  have hin : Cond.arrayClass (eb_at 14) ∈ eb_WS := eb_inW13 (by simp [eb_W13, eb_at])
  refine va_newa (atype := .long) (a0 := (len, .inr (.inl (fun _ => 0)))) (ty := eb_at 14) c1.1 c1.2.1 (c1.2.2.2.2.1 _ hin) rfl c2.1 hP hD hS c2.2.1 (fun cA => rfl) hn hN (Nat.le_trans (Nat.mul_le_mul (Nat.le_of_lt hlen) (show componentBytes (eb_at 14) ≤ 8 by decide)) (by decide)) hc hs (eb_de c1.2.2.2.2.2.2 hi) fun q cA H1 hK1 hP1 hD1 hS1 => ?_
  have := eb_cyeq c2.1 (by omega) (by omega) hK1
  subst this
  exact kk q H1 (by rw [hfs]; exact hP1) (by rw [hfs]; exact hD1) hS1
theorem eb_newR {kd len x : Nat} {n : Int32} (hi : eb_find pc M.2 = some (pc, 3, .anewarray x, a, b)) (hkd : 16 ≤ kd) (hkd2 : kd < 19) (ha : a = eb_el kd) (hn : ¬ n < 0) (hN : n.toNatClampNeg = len) (hlen : len < 16384) (k : eb_Sn d M h0 (pc + 3) ls (.ref (eb_nx h kd len) :: st) (eb_nw h kd len len) Q) : eb_Sn d M h0 pc ls (.int n :: st) h Q := by
  refine eb_mkr (kd := kd) (len := len) (sl := len) (by omega) hlen (fun hs => eb_av1 hs) ?_ k
  intro l D cy A p e R s m args below meth c H locs cells slots QF ad0 ad lsA c1 c2 hc hs hP hD hS kk
  obtain ⟨hC, hC2⟩ := eb_at_el hkd hkd2
  have hkd' : eb_kd (eb_nx h kd len) = kd := eb_mk_kd (by omega)
  have hfs : ∀ q, eb_cell cy (va_up ad (eb_nx h kd len) q) (eb_nw h kd len len) (eb_nx h kd len) = .inl (cy kd, len, .inr (.inr (.inr (.inr (fun _ => none))))) := by
    intro q
    rw [eb_ceR hkd' hkd hkd2, eb_nx, eb_mk_ln (by omega) hlen]
    have e1 : eb_R (eb_nw h kd len len) (eb_mk (eb_n h) kd len) = fun _ => none := by show va_up (eb_R h) _ _ _ = _; simp [va_up, eb_nx]
    rw [e1]
    rfl
  have hcl : Cond.classLink (eb_cn (eb_ow M.1)) x (eb_cn (eb_el kd)) ∈ eb_WS := eb_inW8 (List.mem_map.mpr ⟨_, eb_con (show eb_crefs.contains (eb_ow M.1, x, a) = true from (eb_dec c1.2.2.2.2.2.2 hi).2), by rw [ha]⟩)
  have hao : va_AO (eb_cn (eb_el kd)) s := by
    have := c2.2.2.1
    have : kd = 16 ∨ kd = 17 ∨ kd = 18 := by omega
    rcases this with rfl | rfl | rfl
    · exact c2.2.2.1.2.1
    · exact c2.2.2.1.2.2.1
    · exact c2.2.2.1.2.2.2
  refine va_newq c1.1 c1.2.1 c1.2.2.2.1 (c1.2.2.2.2.1 _ hcl) hao c2.1 hP hD hS c2.2.1 hn hN (by omega) hc hs (eb_de c1.2.2.2.2.2.2 hi) fun q cA H1 hK1 hP1 hD1 hS1 => ?_
  have := eb_cyeq (kd := kd) c2.1 (by omega) (by omega) (by rw [hC]; exact hK1)
  subst this
  exact kk q H1 (by rw [hfs]; exact hP1) (by rw [hfs]; exact hD1) hS1
/-! constants -/
theorem eb_ldc {x : Nat} {v : Int32} (hi : eb_find pc M.2 = some (pc, 2, .ldc x, a, 0)) (hv : Int32.ofNat a = v) (k : eb_Sn d M h0 (pc + 2) ls (.int v :: st) h Q) : eb_Sn d M h0 pc ls st h Q :=
  eb_go (fun c1 ad lsA hl kk => by
    have h1 : (eb_irefs.contains (eb_ow M.1, x, a) || (0 == 1 && eb_strs.contains (eb_ow M.1, x, a))) = true := (eb_dec c1.2.2.2.2.2.2 hi).2
    have h2 : eb_irefs.contains (eb_ow M.1, x, a) = true := by simpa using h1
    subst hv
    exact lv_ldc c1.1 c1.2.1 c1.2.2.2.1 (c1.2.2.2.2.1 _ (eb_inW11 (List.mem_map.mpr ⟨_, eb_con h2, rfl⟩))) (eb_de c1.2.2.2.2.2.2 hi) kk) (fun _ hs => eb_avi hs) k
theorem eb_ldcw {x : Nat} {v : Int32} (hi : eb_find pc M.2 = some (pc, 3, .ldc_w x, a, b)) (hv : Int32.ofNat a = v) (k : eb_Sn d M h0 (pc + 3) ls (.int v :: st) h Q) : eb_Sn d M h0 pc ls st h Q :=
  eb_go (fun c1 ad lsA hl kk => by
    have h2 : eb_irefs.contains (eb_ow M.1, x, a) = true := (eb_dec c1.2.2.2.2.2.2 hi).2
    subst hv
    exact lv_ldcw c1.1 c1.2.1 c1.2.2.2.1 (c1.2.2.2.2.1 _ (eb_inW11 (List.mem_map.mpr ⟨_, eb_con h2, rfl⟩))) (eb_de c1.2.2.2.2.2.2 hi) kk) (fun _ hs => eb_avi hs) k
theorem eb_ldc2 {x : Nat} {v : Int64} (hi : eb_find pc M.2 = some (pc, 3, .ldc2_w x, a, b)) (hv : Int64.ofNat a = v) (k : eb_Sn d M h0 (pc + 3) ls (.long v :: st) h Q) : eb_Sn d M h0 pc ls st h Q :=
  eb_go (fun c1 ad lsA hl kk => by
    have h2 : eb_lrefs.contains (eb_ow M.1, x, a) = true := (eb_dec c1.2.2.2.2.2.2 hi).2
    subst hv
    exact lv_ldc2 c1.1 c1.2.1 c1.2.2.2.1 (c1.2.2.2.2.1 _ (eb_inW12 (List.mem_map.mpr ⟨_, eb_con h2, rfl⟩))) (eb_de c1.2.2.2.2.2.2 hi) kk) (fun _ hs => eb_avl hs) k
/-- an instruction that reads what stands besides the world -/
theorem eb_ge {pc2 : Nat} {st1 st2 : List Value} (ha : eb_avs h st1 → eb_avs h st2)
  (w : ∀ {l : Launch} {A : Nat → Prop} {p : Program} {e : Env} {R : Room} {s : State} {m : MethodId} {args : Array Value} {below : List Frame} {meth : Method} {c : Code} {H : Heap} {locs : List Loc} {cells slots : Nat} {QF : State → Prop} {ad0 ad : Nat → Nat} {lsA : Array Slot},
    eb_C1 M p s m args meth c → eb_Ev ad0 A h0 s → (∀ i, 20 ≤ eb_kd i → ad i = ad0 i) → va_S A s.heap H locs → eb_XL h = eb_XL h0 → eb_X h = eb_X h0 → lsA.size = eb_ml M.1 → (1 ≤ d → 1 ≤ R.frames ∧ 64 ≤ R.locals) → W p l e R s m args below meth c H locs cells slots QF (F0 m pc2 lsA (st2.map (eb_cv ad))) → W p l e R s m args below meth c H locs cells slots QF (F0 m pc lsA (st1.map (eb_cv ad))))
  (k : eb_Sn d M h0 pc2 ls st2 h Q) : eb_Sn d M h0 pc ls st1 h Q := by
  refine k.lift fun r h' a1 => ⟨a1.1, ?_⟩
  intro l D cy A p e R s m args below meth c ad0 QF c1 c2 c3 ex ad H locs lsA dy
  exact w c1 c2.2.2 (fun i hi => dy.2.1.1 i (Or.inl hi)) dy.2.2.1.2.2 dy.2.1.2.2.2.1 dy.2.1.2.2.2.2 dy.2.2.2.1 (fun hd => ⟨Nat.le_trans hd c3.1, Nat.le_trans (by omega) c3.2.1⟩) (a1.2 l D cy A p e R s m args below meth c ad0 QF c1 c2 c3 ex ad H locs lsA ⟨⟨dy.1.1, dy.1.2.1, ha dy.1.2.2⟩, dy.2⟩)
theorem eb_avS {st1 : List Value} {i : Nat} (hk : 20 ≤ eb_kd i) (hs : eb_avs h st1) : eb_avs h (.ref i :: st1) := eb_avc (Or.inl hk) hs
theorem eb_ldcS {x i : Nat} (hi : eb_find pc M.2 = some (pc, 2, .ldc x, a, 1)) (he : eb_mk a 21 0 = i) (hno : eb_irefs.contains (eb_ow M.1, x, a) = false) (k : eb_Sn d M h0 (pc + 2) ls (.ref i :: st) h Q) : eb_Sn d M h0 pc ls st h Q := by
  subst he
  refine eb_ge (st2 := .ref (eb_mk a 21 0) :: st) (fun hs => eb_avS (by rw [eb_mk_kd (by decide)]; decide) hs) ?_ k
  intro l A p e R s m args below meth c H locs cells slots QF ad0 ad lsA c1 ev had hS _ _ _ _ kk
  have h1 : (eb_irefs.contains (eb_ow M.1, x, a) || (1 == 1 && eb_strs.contains (eb_ow M.1, x, a))) = true := (eb_dec c1.2.2.2.2.2.2 hi).2
  rw [hno] at h1
  have h2 : eb_strs.contains (eb_ow M.1, x, a) = true := by simpa using h1
  have h3 := ev.2.1.1 _ (eb_con h2)
  have e1 : eb_cv ad (.ref (eb_mk a 21 0)) = .ref (ad0 (eb_mk a 21 0)) := by show Value.ref (ad _) = _; rw [had _ (by rw [eb_mk_kd (by decide)]; decide)]
  rw [List.map_cons, e1] at kk
  exact va_ldcS c1.1 c1.2.1 c1.2.2.2.1 h3 (eb_de c1.2.2.2.2.2.2 hi) kk
theorem eb_sload {j : Int32} (hi : eb_find pc M.2 = some (pc, 1, .iaload, a, b)) (hin : vp_in j (eb_XL h)) (k : eb_Sn d M h0 (pc + 1) ls (.int (eb_X h j.toNatClampNeg) :: st) h Q) : eb_Sn d M h0 pc ls (.int j :: .ref 20 :: st) h Q := by
  refine eb_ge (st2 := .int (eb_X h j.toNatClampNeg) :: st) (fun hs => eb_avi (eb_av1 (eb_av1 hs))) ?_ k
  intro l A p e R s m args below meth c H locs cells slots QF ad0 ad lsA c1 ev had hS hL hX _ _ kk
  have e1 : (Value.int j :: .ref 20 :: st).map (eb_cv ad) = .int j :: .ref (ad0 20) :: st.map (eb_cv ad) := by rw [← had 20 (by decide)]; rfl
  rw [e1]
  rw [hX] at kk
  exact va_sld c1.1 c1.2.1 ev.2.2.2.1 ev.2.2.2.2.1 ev.2.2.2.2.2 hS (by rw [← hL]; exact hin) (eb_de c1.2.2.2.2.2.2 hi) kk
theorem eb_slen {v : Int32} (hi : eb_find pc M.2 = some (pc, 1, .arraylength, a, b)) (hv : Int32.ofNat (eb_XL h) = v) (k : eb_Sn d M h0 (pc + 1) ls (.int v :: st) h Q) : eb_Sn d M h0 pc ls (.ref 20 :: st) h Q := by
  refine eb_ge (st2 := .int v :: st) (fun hs => eb_avi (eb_av1 hs)) ?_ k
  intro l A p e R s m args below meth c H locs cells slots QF ad0 ad lsA c1 ev had hS hL hX _ _ kk
  have e1 : (Value.ref 20 :: st).map (eb_cv ad) = .ref (ad0 20) :: st.map (eb_cv ad) := by rw [← had 20 (by decide)]; rfl
  rw [e1]
  subst hv
  rw [hL] at kk
  exact va_slen c1.1 c1.2.1 ev.2.2.2.1 ev.2.2.2.2.1 ev.2.2.2.2.2 hS (eb_de c1.2.2.2.2.2.2 hi) kk
/-! Strings: code 21 the String, 22 its bytes -/
theorem eb_strV {i : Nat} (hi : eb_find pc M.2 = some (pc, 3, .getfield 9, 50, b)) (how : eb_ow M.1 = 16) (hi2 : i < 21) (k : eb_Sn d M h0 (pc + 3) ls (.ref (eb_mk i 22 0) :: st) h Q) : eb_Sn d M h0 pc ls (.ref (eb_mk i 21 0) :: st) h Q := by
  refine eb_ge (st2 := .ref (eb_mk i 22 0) :: st) (fun hs => eb_avS (by rw [eb_mk_kd (by decide)]; decide) (eb_av1 hs)) ?_ k
  intro l A p e R s m args below meth c H locs cells slots QF ad0 ad lsA c1 ev had hS _ _ _ _ kk
  have e1 : (Value.ref (eb_mk i 21 0) :: st).map (eb_cv ad) = .ref (ad0 (eb_mk i 21 0)) :: st.map (eb_cv ad) := by rw [← had (eb_mk i 21 0) (by rw [eb_mk_kd (by decide)]; decide)]; rfl
  have e2 : (Value.ref (eb_mk i 22 0) :: st).map (eb_cv ad) = .ref (ad0 (eb_mk i 22 0)) :: st.map (eb_cv ad) := by rw [← had (eb_mk i 22 0) (by rw [eb_mk_kd (by decide)]; decide)]; rfl
  rw [e1]
  rw [e2] at kk
  exact vk_getf (own := eb_cn (eb_ow M.1)) (ref := "java/lang/String") c1.1 c1.2.1 (ev.2.1.2 i hi2).2.2.1 hS c1.2.2.2.1 (c1.2.2.2.2.1 _ (eb_inW16 (by rw [how]; simp [eb_W16, eb_cn, eb_cnL]))) (fun _ z => z) (eb_de c1.2.2.2.2.2.2 hi) kk
theorem eb_strC {i : Nat} (hi : eb_find pc M.2 = some (pc, 3, .getfield 15, 50, b)) (how : eb_ow M.1 = 16) (hi2 : i < 21) (k : eb_Sn d M h0 (pc + 3) ls (.int 0 :: st) h Q) : eb_Sn d M h0 pc ls (.ref (eb_mk i 21 0) :: st) h Q := by
  refine eb_ge (st2 := .int 0 :: st) (fun hs => eb_avi (eb_av1 hs)) ?_ k
  intro l A p e R s m args below meth c H locs cells slots QF ad0 ad lsA c1 ev had hS _ _ _ _ kk
  have e1 : (Value.ref (eb_mk i 21 0) :: st).map (eb_cv ad) = .ref (ad0 (eb_mk i 21 0)) :: st.map (eb_cv ad) := by rw [← had (eb_mk i 21 0) (by rw [eb_mk_kd (by decide)]; decide)]; rfl
  rw [e1]
  exact vk_getf (own := eb_cn (eb_ow M.1)) (ref := "java/lang/String") c1.1 c1.2.1 (ev.2.1.2 i hi2).2.1 hS c1.2.2.2.1 (c1.2.2.2.2.1 _ (eb_inW16 (by rw [how]; simp [eb_W16, eb_cn, eb_cnL]))) (fun _ z => z) (eb_de c1.2.2.2.2.2.2 hi) kk
theorem eb_strG (hi : eb_find pc M.2 = some (pc, 3, .getstatic 38, a, b)) (how : eb_ow M.1 = 16) (k : eb_Sn d M h0 (pc + 3) ls (.int 1 :: st) h Q) : eb_Sn d M h0 pc ls st h Q := by
  refine eb_ge (st2 := .int 1 :: st) (fun hs => eb_avi hs) ?_ k
  intro l A p e R s m args below meth c H locs cells slots QF ad0 ad lsA c1 ev had hS _ _ _ _ kk
  exact va_gets (own := eb_cn (eb_ow M.1)) (ref := "java/lang/String") c1.1 c1.2.1 ev.2.2.1.1 hS c1.2.2.2.1 (c1.2.2.2.2.1 _ (eb_inW16 (by rw [how]; simp [eb_W16, eb_cn, eb_cnL]))) (fun _ z => z) (eb_de c1.2.2.2.2.2.2 hi) kk
theorem eb_strL {i : Nat} {v : Int32} (hi : eb_find pc M.2 = some (pc, 1, .arraylength, a, b)) (hi2 : i < 21) (hv : Int32.ofNat (eb_sln.getD i 0) = v) (k : eb_Sn d M h0 (pc + 1) ls (.int v :: st) h Q) : eb_Sn d M h0 pc ls (.ref (eb_mk i 22 0) :: st) h Q := by
  refine eb_ge (st2 := .int v :: st) (fun hs => eb_avi (eb_av1 hs)) ?_ k
  intro l A p e R s m args below meth c H locs cells slots QF ad0 ad lsA c1 ev had hS _ _ _ _ kk
  have e1 : (Value.ref (eb_mk i 22 0) :: st).map (eb_cv ad) = .ref (ad0 (eb_mk i 22 0)) :: st.map (eb_cv ad) := by rw [← had (eb_mk i 22 0) (by rw [eb_mk_kd (by decide)]; decide)]; rfl
  rw [e1]
  exact va_tlen c1.1 c1.2.1 (ev.2.1.2 i hi2).2.2.2 hS hv (eb_de c1.2.2.2.2.2.2 hi) kk
theorem eb_strB {i : Nat} {j : Int32} (hi : eb_find pc M.2 = some (pc, 1, .baload, a, b)) (hi2 : i < 21) (hin : vp_in j (eb_sln.getD i 0)) (k : eb_Sn d M h0 (pc + 1) ls (.int ((eb_byt.getD i []).getD j.toNatClampNeg 0) :: st) h Q) : eb_Sn d M h0 pc ls (.int j :: .ref (eb_mk i 22 0) :: st) h Q := by
  refine eb_ge (st2 := .int ((eb_byt.getD i []).getD j.toNatClampNeg 0) :: st) (fun hs => eb_avi (eb_av1 (eb_av1 hs))) ?_ k
  intro l A p e R s m args below meth c H locs cells slots QF ad0 ad lsA c1 ev had hS _ _ _ _ kk
  have e1 : (Value.int j :: .ref (eb_mk i 22 0) :: st).map (eb_cv ad) = .int j :: .ref (ad0 (eb_mk i 22 0)) :: st.map (eb_cv ad) := by rw [← had (eb_mk i 22 0) (by rw [eb_mk_kd (by decide)]; decide)]; rfl
  rw [e1]
  exact va_tb c1.1 c1.2.1 (ev.2.1.2 i hi2).2.2.2 hS hin rfl (eb_de c1.2.2.2.2.2.2 hi) kk
/-! returns -/
theorem eb_end {r : Option Value} (hr : eb_ok M → eb_ret M pc r) (q : Q r h) : eb_Sn d M h0 pc ls r.toList h Q :=
  ⟨r, h, ⟨⟨Nat.le_refl _, Nat.le_refl _⟩, fun l D cy A p e R s m args below meth c ad0 QF c1 c2 c3 ex ad H locs lsA dy => ex ad ls H locs lsA pc dy (hr c1.2.2.2.2.2.2)⟩, q⟩
theorem eb_ireturn {v : Int32} {t : FieldType} (hi : eb_find pc M.2 = some (pc, 1, .ireturn, a, b)) (ht : eb_rt M.1 = some t) (hn : narrow t (.int v) = .int v) (q : Q (some (.int v)) h) : eb_Sn d M h0 pc ls [.int v] h Q := eb_end (r := some (.int v)) (fun ok => ⟨eb_de ok hi, t, ht, hn⟩) q
theorem eb_lreturn {v : Int64} (hi : eb_find pc M.2 = some (pc, 1, .lreturn, a, b)) (ht : eb_rt M.1 = some .long) (q : Q (some (.long v)) h) : eb_Sn d M h0 pc ls [.long v] h Q := eb_end (r := some (.long v)) (fun ok => ⟨eb_de ok hi, ht⟩) q
theorem eb_areturn {v : Nat} {t : FieldType} (hi : eb_find pc M.2 = some (pc, 1, .areturn, a, b)) (ht : eb_rt M.1 = some t) (hn : eb_rty t = true) (q : Q (some (.ref v)) h) : eb_Sn d M h0 pc ls [.ref v] h Q := eb_end (r := some (.ref v)) (fun ok => ⟨eb_de ok hi, t, ht, hn⟩) q
theorem eb_return (hi : eb_find pc M.2 = some (pc, 1, .return_, a, b)) (ht : eb_rt M.1 = none) (q : Q none h) : eb_Sn d M h0 pc ls [] h Q := eb_end (r := none) (fun ok => ⟨eb_de ok hi, ht⟩) q
/-! Object.<init>, arraycopy -/
theorem eb_objInit {i x : Nat} (hi : eb_find pc M.2 = some (pc, 3, .invokespecial x, a, 2)) (hno : eb_inK.contains a = false) (hd : 1 ≤ d) (hcat : (st.map fun v => v.category).sum ≤ 8) (k : eb_Sn d M h0 (pc + 3) ls st h Q) : eb_Sn d M h0 pc ls (.ref i :: st) h Q := by
  refine eb_ge (st2 := st) (fun hs => eb_av1 hs) ?_ k
  intro l A p e R s m args below meth c H locs cells slots QF ad0 ad lsA c1 ev had hS _ _ hsz hR kk
  have h1 : ((eb_inK.contains a && ((2 == 0 && eb_mrefs.contains (eb_ow M.1, x, a)) || (2 == 1 && eb_nrefs.contains (eb_ow M.1, x, a)))) || (2 == 2 && eb_orefs.contains (eb_ow M.1, x))) = true := (eb_dec c1.2.2.2.2.2.2 hi).2
  rw [hno] at h1
  have h2 : eb_orefs.contains (eb_ow M.1, x) = true := by simpa using h1
  have hts := c1.2.2.2.2.1
  have hl1 : Cond.methodLink (eb_cn (eb_ow M.1)) x objectInit ∈ eb_WS := eb_inW14 (List.mem_append_left _ (List.mem_map.mpr ⟨_, eb_con h2, rfl⟩))
  have hc2 : ((st.map (eb_cv ad)).map fun v => v.category).sum = (st.map fun v => v.category).sum := by
    rw [List.map_map]
    congr 1
    exact List.map_congr_left fun v _ => eb_cat ad v
  exact W.objInit (g := F0 m pc lsA ((Value.ref i :: st).map (eb_cv ad))) c1.1 c1.2.1 c1.2.2.2.1 (hts _ hl1) (hts _ (eb_inW14 (List.mem_append_right _ (List.mem_cons_self)))) (hts _ (eb_inW14 (List.mem_append_right _ (List.mem_cons_of_mem _ List.mem_cons_self)))) rfl (by rw [c1.2.2.1]; exact hsz) (rest := st.map (eb_cv ad)) rfl (eb_de c1.2.2.2.2.2.2 hi) (hR hd).1 (by
    have := (hR hd).2
    show 2 * 0 + _ + 12 ≤ _
    omega) kk
theorem eb_acopy {i i0 x : Nat} {sp dp n : Int32} (hi : eb_find pc M.2 = some (pc, 3, .invokestatic x, a, 2)) (hno : eb_stK.contains a = false) (hd : 1 ≤ d) (hk : eb_kd i = 13) (hk0 : eb_kd i0 = 13) (h1 : ¬ sp < 0) (h2 : ¬ dp < 0) (h3 : ¬ n < 0) (h4 : sp.toNatClampNeg + n.toNatClampNeg ≤ eb_ln i0) (h5 : dp.toNatClampNeg + n.toNatClampNeg ≤ eb_ln i) (hcat : (st.map fun v => v.category).sum ≤ 8)
    (k : eb_Sn d M h0 (pc + 3) ls st (eb_rI h i (va_cpy (eb_I h i0) (eb_I h i) sp.toNatClampNeg dp.toNatClampNeg n.toNatClampNeg)) Q) : eb_Sn d M h0 pc ls (.int n :: .int dp :: .ref i :: .int sp :: .ref i0 :: st) h Q := by
  refine eb_wr (h2 := eb_rI h i (va_cpy (eb_I h i0) (eb_I h i) sp.toNatClampNeg dp.toNatClampNeg n.toNatClampNeg)) (i := i) rfl rfl rfl (fun _ hs => eb_alk (eb_avh (eb_av1 (eb_av1 hs))) (by omega)) (fun w _ => w) (fun hs => eb_av1 (eb_av1 (eb_av1 (eb_av1 (eb_av1 hs))))) ?_ (fun cy ad c hc => eb_cell_I hc) k
  intro l D cy A p e R s m args below meth c H locs cells slots QF ad0 ad lsA c1 c2 hal hwf hs hP hD hS hsz hR kk
  have hal0 : eb_al h i0 := eb_alk (eb_avh (eb_av1 (eb_av1 (eb_av1 (eb_av1 hs))))) (by omega)
  have g1 : ((eb_stK.contains a && ((2 == 0 && eb_mrefs.contains (eb_ow M.1, x, a)) || (2 == 1 && eb_nrefs.contains (eb_ow M.1, x, a)))) || (2 == 2 && eb_acrefs.contains (eb_ow M.1, x))) = true := (eb_dec c1.2.2.2.2.2.2 hi).2
  rw [hno] at g1
  have g2 : eb_acrefs.contains (eb_ow M.1, x) = true := by simpa using g1
  have hts := c1.2.2.2.2.1
  have hl1 : Cond.methodLink (eb_cn (eb_ow M.1)) x arraycopyName ∈ eb_WS := eb_inW15 (List.mem_append_left _ (List.mem_map.mpr ⟨_, eb_con g2, rfl⟩))
  have e1 : eb_I (eb_rI h i (va_cpy (eb_I h i0) (eb_I h i) sp.toNatClampNeg dp.toNatClampNeg n.toNatClampNeg)) i = va_cpy (eb_I h i0) (eb_I h i) sp.toNatClampNeg dp.toNatClampNeg n.toNatClampNeg := by simp [eb_I, eb_rI, va_up]
  rw [eb_ceI (h := eb_rI h i _) hk (by omega), e1] at kk
  have hc2 : ((st.map (eb_cv ad)).map fun v => v.category).sum = (st.map fun v => v.category).sum := by
    rw [List.map_map]
    congr 1
    exact List.map_congr_left fun v _ => eb_cat ad v
  exact va_copyi (ty := .int) c1.1 c1.2.1 (by rw [c1.2.2.1, hsz]) c1.2.2.2.1 (hts _ hl1) (hts _ (eb_inW15 (List.mem_append_right _ List.mem_cons_self))) (hts _ (eb_inW15 (List.mem_append_right _ (List.mem_cons_of_mem _ List.mem_cons_self)))) (hts _ (eb_inW15 (List.mem_append_right _ (List.mem_cons_of_mem _ (List.mem_cons_of_mem _ List.mem_cons_self))))) c2.1 hP hD hS (eb_ix i0) (eb_ix i) 1 1 (by rw [eb_wd_at hal0, eb_ceI hk0 (by omega)]) (by rw [eb_wd_at hal, eb_ceI hk (by omega)]) (eb_tys_at cy (k := 13) (by decide) (by decide)) (eb_tys_at cy (k := 13) (by decide) (by decide)) rfl h1 h2 h3 h4 h5 (fun _ _ => rfl) (hR hd).1 (by
    have := (hR hd).2
    rw [hc2]
    have : nativeFrameWords "java/lang/System" "arraycopy" 5 + 11 ≤ 56 := by decide +kernel
    omega) (eb_de c1.2.2.2.2.2.2 hi) kk
end EBMAKE
