/-! ===== contracts and calls ===== -/
def eb_ws (k : Nat) : List Cond := Cond.code (eb_y k) (eb_b k) (eb_ml k) (eb_rt k) :: eb_WS
def eb_rm (d cells slots : Nat) : Room := { frames := d, cells := cells, slots := slots, locals := 64 * d }
def eb_Pw (D : va_G) (cy : Nat → ClassId) (A : Nat → Prop) (ad : Nat → Nat) (h : eb_H) (args : List Value) (sz : Nat) : Array Value → State → Prop :=
  va_Pc (args.map (eb_cv ad)) (fun U => U.heap.size = sz ∧ va_P D eb_cl (eb_wd cy ad h) U.heap ∧ va_K D eb_cl (eb_tys cy) U ∧ va_D A (eb_wd cy ad h) ∧ eb_Ev ad A h U)
def eb_Qw (D : va_G) (cy : Nat → ClassId) (A : Nat → Prop) (ad : Nat → Nat) (h : eb_H) (r : Option Value) (h' : eb_H) : Array Value → State → Outcome → State → Prop := fun _ st oc t =>
  ∃ ad' : Nat → Nat, oc = .returned (r.map (eb_cv ad')) ∧ (∀ i, 20 ≤ eb_kd i ∨ eb_al h i → ad' i = ad i) ∧ va_P D eb_cl (eb_wd cy ad' h') t.heap ∧ va_D A (eb_wd cy ad' h') ∧ va_F A st t ∧ eb_wf h' ∧ (∀ v, r = some v → eb_av h' v) ∧ (∀ i, eb_al h i → eb_al h' i) ∧ eb_XL h' = eb_XL h ∧ eb_X h' = eb_X h
/-- method k, called with these arguments at this heap, returns this, with this heap, within d frames -/
def eb_Cal (d k : Nat) (args : List Value) (h : eb_H) (r : Option Value) (h' : eb_H) : Prop :=
  (eb_n h ≤ eb_n h' ∧ eb_z h ≤ eb_z h') ∧ ∀ (l : Launch) (D : va_G) (cy : Nat → ClassId) (A : Nat → Prop) (ad : Nat → Nat) (sz : Nat), (∀ q, sz ≤ q → A q) → eb_wf h → eb_avs h args →
    Met l (eb_y k) (eb_ws k) (eb_rm d (eb_n h' - eb_n h) (eb_z h' - eb_z h)) (eb_Pw D cy A ad h args sz) (eb_Qw D cy A ad h r h') (eb_n h' - eb_n h) (eb_z h' - eb_z h) A
def eb_Ct (d k : Nat) (args : List Value) (h : eb_H) (Q : Option Value → eb_H → Prop) : Prop := ∃ r h', eb_Cal d k args h r h' ∧ Q r h'
theorem eb_Ct.mono {d k : Nat} {args : List Value} {h : eb_H} {Q Q' : Option Value → eb_H → Prop} (c : eb_Ct d k args h Q) (hq : ∀ r h', Q r h' → Q' r h') : eb_Ct d k args h Q' := by
  obtain ⟨r, h', a, b⟩ := c
  exact ⟨r, h', a, hq r h' b⟩
theorem eb_args_map (ad : Nat → Nat) : ∀ (vs : List Value) (i : Nat), lv_args i (vs.map (eb_cv ad)) = (lv_args i vs).map (eb_cq ad)
  | [], _ => rfl
  | v :: vs, i => by
    show (i, eb_cv ad v) :: lv_args (if (eb_cv ad v).category = 2 then i + 2 else i + 1) (vs.map (eb_cv ad)) = (i, eb_cv ad v) :: (lv_args (if v.category = 2 then i + 2 else i + 1) vs).map (eb_cq ad)
    rw [eb_cat, eb_args_map ad vs]
theorem eb_sl_len (ad : Nat → Nat) : ∀ (vs : List Value), (lg_sl (vs.map (eb_cv ad))).length = (lg_sl vs).length
  | [] => rfl
  | v :: vs => by
    have ih := eb_sl_len ad vs
    unfold lg_sl at ih ⊢
    simp only [List.map_cons, List.flatMap_cons, List.length_append, eb_cat, ih]
    split <;> rfl
theorem eb_args_av {h : eb_H} : ∀ (vs : List Value) (i : Nat), eb_avs h vs → ∀ q ∈ lv_args i vs, eb_av h q.2
  | [], _, _, q, hq => by cases hq
  | v :: vs, i, hs, q, hq => by
    rcases List.mem_cons.mp hq with rfl | hq
    · exact eb_avh hs
    · exact eb_args_av vs _ (eb_av1 hs) q hq
theorem eb_ofW {l : Launch} {y : MethodName} {ws ws' : List Cond} {rm : Room} {Pc : Array Value → State → Prop} {Qc : Array Value → State → Outcome → State → Prop} {mc ms : Nat} {free : Addr → Prop} {cc : ByteArray} {maxL : Nat} {ret : Option FieldType}
    (hy : plainFor y = true) (hw : ws = Cond.code y cc maxL ret :: ws')
    (body : ∀ p e s m args below meth c s₁, BodyLoose p l y (headSpec ws rm) cc maxL ret e s m args below meth c s₁ → c.maxLocals = maxL → Pc args s →
      W p l e (headSpec ws rm).room s m args below meth c s.heap [] 0 0 (MQ below Qc args s mc ms free) (entryFrame m args maxL)) : Met l y ws rm Pc Qc mc ms free := by
  refine MetFree.of_bodySF (code := cc) (maxLocals := maxL) (ret := ret) hy ?_ ?_
  · intro args s m h hn
    obtain ⟨meth, c, h1, h2, h3, h4, h5, h6, -, -⟩ := Cond.code_spec hn (atoms_spec (ws := ws) h _ (by rw [hw]; exact List.mem_cons_self))
    exact ⟨meth, c, h1, h2, h3, h4, h5, h6⟩
  · intro p e s m args below meth c s₁ B hml hP _
    have hh0 : s₁.heap = s.heap := by rw [B.state]; rfl
    obtain ⟨t, a1, o, b1, b2, b3⟩ := body p e s m args below meth c s₁ B hml hP s₁ hh0 (Stand.of_body B)
    exact ⟨t, o, a1, b1, b2, ⟨b3.1, b3.2⟩⟩
theorem eb_ret_rf {t : FieldType} (h : eb_rty t = true) : (∃ n, t = .object n) ∨ ∃ u, t = .array u := by
  cases t <;> simp [eb_rty] at h
  · exact Or.inl ⟨_, rfl⟩
  · exact Or.inr ⟨_, rfl⟩
/-- a contract out of the body's walk -/
theorem eb_body {d k : Nat} {tab : List eb_op} {args : List Value} {h h' : eb_H} {r : Option Value} (hk : k < 306) (ok : eb_ok (k, tab)) (hent : (lg_sl args).length ≤ eb_ml k) (hS : eb_Sd d (k, tab) h 0 (lv_args 0 args) [] h r h') : eb_Cal d k args h r h' := by
  refine ⟨hS.1, fun l D cy A ad sz hA hwf hav => ?_⟩
  refine eb_ofW (cc := eb_b k) (maxL := eb_ml k) (ret := eb_rt k) (eb_pf k hk) rfl ?_
  intro p e s m args' below meth c s₁ B hml hv
  obtain ⟨rfl, hsz, hP, hK, hD, hE⟩ := hv
  have hts := atoms_spec (ws := eb_ws k) B.pre
  have hr := B.returns
  have hlocks := B.notSynchronized
  have c1 : eb_C1 (k, tab) p s m (args.map (eb_cv ad)).toArray meth c := ⟨B.exec, B.bytes, hml, findClass_of_methodNamed B.named, fun w hw => hts w (List.mem_cons_of_mem _ hw), (name_of_methodNamed B.named B.method).1, ok⟩
  have c2 : eb_C2 D cy A s ad h := ⟨hK, fun q hq => hA q (by omega), hE⟩
  have c3 : eb_C3 d h h' (headSpec (eb_ws k) (eb_rm d (eb_n h' - eb_n h) (eb_z h' - eb_z h))).room := ⟨Nat.le_refl _, Nat.le_refl _, Nat.le_refl _, Nat.le_refl _⟩
  have hl := lv_entry (args.map (eb_cv ad)) (n := eb_ml k) (by rw [eb_sl_len]; exact hent)
  rw [eb_args_map] at hl
  rw [lg_entry_eq]
  have hS2 := hS.2 l D cy A p e _ s m (args.map (eb_cv ad)).toArray below meth c ad (MQ below (eb_Qw D cy A ad h r h') (args.map (eb_cv ad)).toArray s (eb_n h' - eb_n h) (eb_z h' - eb_z h) A) c1 c2 c3 ?_ ad s.heap [] _ ⟨⟨hwf, eb_args_av args 0 hav, fun v hv => by cases hv⟩, ⟨fun _ _ => rfl, fun _ q => q, ⟨Nat.le_refl _, Nat.le_refl _⟩, rfl, rfl⟩, ⟨hP, hD, va_S.rf⟩, hl⟩
  · rw [Nat.sub_self, Nat.sub_self] at hS2
    exact hS2
  · intro ad' ls' H' locs' lsA' pc' dy hret
    have hq : ∀ t : State, t.heap = H' → eb_Qw D cy A ad h r h' (args.map (eb_cv ad)).toArray s (.returned (r.map (eb_cv ad'))) t := fun t ht => ⟨ad', rfl, dy.2.1.1, by rw [ht]; exact dy.2.2.1.1, dy.2.2.1.2.1, dy.2.2.1.2.2.F ht, dy.1.1, fun v hv => dy.1.2.2 v (by rw [hv]; exact List.mem_cons_self), dy.2.1.2.1, dy.2.1.2.2.2.1, dy.2.1.2.2.2.2⟩
    cases r with
    | none => exact W.vret B.exec B.bytes (by rw [hr]; exact hret.2) (fun t ht _ => hq t ht) dy.2.2.1.2.2.2.2 hret.1
    | some v =>
      cases v with
      | int v =>
        obtain ⟨h1, t, h2, h3⟩ := hret
        exact W.zret B.exec B.bytes (by rw [hr]; exact h2) h3 (fun t ht _ => hq t ht) dy.2.2.1.2.2.2.2 h1
      | long v => exact W.lret B.exec B.bytes (by rw [hr]; exact hret.2) (fun t ht _ => hq t ht) dy.2.2.1.2.2.2.2 hret.1
      | ref i =>
        obtain ⟨h1, t, h2, h3⟩ := hret
        exact W.aret B.exec B.bytes (by rw [hr]; exact h2) (eb_ret_rf h3) (Or.inr ⟨_, rfl⟩) (fun t ht _ => hq t ht) dy.2.2.1.2.2.2.2 h1
      | float v => exact hret.elim
      | double v => exact hret.elim
      | null => exact hret.elim
      | retAddr v => exact hret.elim
theorem eb_bodyQ {d k : Nat} {tab : List eb_op} {args : List Value} {h : eb_H} {Q : Option Value → eb_H → Prop} (hk : k < 306) (ok : eb_ok (k, tab)) (hent : (lg_sl args).length ≤ eb_ml k) (hS : eb_Sn d (k, tab) h 0 (lv_args 0 args) [] h Q) : eb_Ct d k args h Q := by
  obtain ⟨r, h', a, b⟩ := hS
  exact ⟨r, h', eb_body hk ok hent a, b⟩
/-! what stands besides the world goes along into a call -/
theorem eb_Ev.go {ad0 ad : Nat → Nat} {A : Nat → Prop} {h0 h : eb_H} {s U : State} {H : Heap} {locs : List Loc} (ev : eb_Ev ad0 A h0 s) (had : ∀ i, 20 ≤ eb_kd i → ad i = ad0 i) (hL : eb_XL h = eb_XL h0) (hX : eb_X h = eb_X h0) (hS : va_S A s.heap H locs) (hU : U.heap = H) (hW : s.WarmedH U.vm) : eb_Ev ad A h U := by
  have e21 : ∀ i, ad (eb_mk i 21 0) = ad0 (eb_mk i 21 0) := fun i => had _ (by rw [eb_mk_kd (by decide)]; decide)
  have e22 : ∀ i, ad (eb_mk i 22 0) = ad0 (eb_mk i 22 0) := fun i => had _ (by rw [eb_mk_kd (by decide)]; decide)
  have e20 : ad 20 = ad0 20 := had 20 (by decide)
  have hk := hS.2.1
  have hal := hW.alike
  refine ⟨⟨fun q hq => (ev.1.1 q hq).warmM hW, ev.1.2.1.moved hal, ev.1.2.2.1.moved hal, ev.1.2.2.2.moved hal⟩, ⟨fun q hq => by rw [e21]; exact (ev.2.1.1 q hq).warm hW, fun i hi => ?_⟩, ⟨?_, ?_⟩, ?_, ?_, ?_⟩
  · rw [e21, e22, hU]
    obtain ⟨a1, a2, a3, a4⟩ := ev.2.1.2 i hi
    exact ⟨(a1.kept hk).moved hal, (a2.kept hk).moved hal, (a3.kept hk).moved hal, (a4.kept hk).moved hal⟩
  · rw [hU]; exact (ev.2.2.1.1.kept hk).moved hal
  · rw [hU, had (eb_mk 0 23 0) (by rw [eb_mk_kd (by decide)]; decide)]
    exact ev.2.2.1.2.imp (fun z => (z.kept hk).moved hal) (fun z => (z.kept hk).moved hal)
  · rw [e20, hL, hX, hU]
    exact (ev.2.2.2.1.kept (hk _ ev.2.2.2.2.1 ev.2.2.2.2.2)).moved hal
  · rw [e20, hU]
    exact Nat.lt_of_lt_of_le ev.2.2.2.2.1 hS.1
  · rw [e20]; exact ev.2.2.2.2.2
theorem eb_Ev.same {ad : Nat → Nat} {A : Nat → Prop} {h : eb_H} {s U : State} (ev : eb_Ev ad A h s) (hU : U.heap = s.heap) (hv : U.vm = s.vm) : eb_Ev ad A h U := by
  have hal : s.vm.Alike U.vm := by rw [hv]; exact Vm.Alike.refl _
  refine ⟨⟨fun q hq => (ev.1.1 q hq).same rfl hv.symm, ev.1.2.1.moved hal, ev.1.2.2.1.moved hal, ev.1.2.2.2.moved hal⟩, ⟨fun q hq => (ev.2.1.1 q hq).same hv, fun i hi => ?_⟩, ⟨?_, ?_⟩, ?_, ?_, ev.2.2.2.2.2⟩
  · obtain ⟨a1, a2, a3, a4⟩ := ev.2.1.2 i hi
    rw [hU]
    exact ⟨a1.moved hal, a2.moved hal, a3.moved hal, a4.moved hal⟩
  · rw [hU]; exact ev.2.2.1.1.moved hal
  · rw [hU]; exact ev.2.2.1.2.imp (fun z => z.moved hal) (fun z => z.moved hal)
  · rw [hU]; exact ev.2.2.2.1.moved hal
  · rw [hU]; exact ev.2.2.2.2.1
theorem eb_blind {D : va_G} {cy : Nat → ClassId} {A : Nat → Prop} {ad : Nat → Nat} {h : eb_H} {args : List Value} {sz : Nat} : FrameBlind (eb_Pw D cy A ad h args sz) := by
  intro a U g mk q
  obtain ⟨q0, q1, qP, qK, qD, qE⟩ := q
  exact ⟨q0, q1, qP, va_K.moved (u := U) (U := U.calling g mk a) (Vm.Alike.refl U.vm) qK, qD, qE.same rfl rfl⟩
section EBCALL
variable {d : Nat} {M : eb_M} {h0 : eb_H} {pc a b : Nat} {ls : List (Nat × Value)} {st : List Value} {h : eb_H} {Q : Option Value → eb_H → Prop}
/-- a call, however it is made -/
theorem eb_call {k : Nat} {av rest : List Value} {r : Option Value} {h1 : eb_H} (hc : eb_Cal d k av h r h1) (hav : eb_avs h st → eb_avs h av ∧ eb_avs h rest)
  (w : ∀ {l : Launch} {D : va_G} {cy : Nat → ClassId} {A : Nat → Prop} {p : Program} {e : Env} {R : Room} {s : State} {m : MethodId} {args : Array Value} {below : List Frame} {meth : Method} {c : Code} {H : Heap} {locs : List Loc} {cells slots : Nat} {ad0 ad : Nat → Nat} {lsA : Array Slot},
    eb_C1 M p s m args meth c → eb_C2 D cy A s ad0 h0 → d + 1 ≤ R.frames → 64 * (d + 1) ≤ R.locals → cells + (eb_n h1 - eb_n h) ≤ R.cells → slots + (eb_z h1 - eb_z h) ≤ R.slots → va_P D eb_cl (eb_wd cy ad h) H → va_S A s.heap H locs → eb_avs h st → lsA.size = eb_ml M.1 → (∀ i, 20 ≤ eb_kd i → ad i = ad0 i) →
    Met l (eb_y k) (eb_ws k) (eb_rm d (eb_n h1 - eb_n h) (eb_z h1 - eb_z h)) (eb_Pw D cy A ad h av H.size) (eb_Qw D cy A ad h r h1) (eb_n h1 - eb_n h) (eb_z h1 - eb_z h) A →
    (∀ U : State, U.heap = H → s.WarmedH U.vm → eb_Pw D cy A ad h av H.size (av.map (eb_cv ad)).toArray U) →
    va_Run p l e R s m args below meth c H locs cells slots (eb_n h1 - eb_n h) (eb_z h1 - eb_z h) (F0 m pc lsA (st.map (eb_cv ad))) (rest.map (eb_cv ad)) (eb_Qw D cy A ad h r h1 (av.map (eb_cv ad)).toArray) A)
  (kk : eb_Sn (d + 1) M h0 (pc + 3) ls (r.toList ++ rest) h1 Q) : eb_Sn (d + 1) M h0 pc ls st h Q := by
  refine kk.lift fun r' h' a1 => ?_
  have g1 := hc.1.1
  have g2 := hc.1.2
  have g3 := a1.1.1
  have g4 := a1.1.2
  refine ⟨⟨by omega, by omega⟩, ?_⟩
  intro l D cy A p e R s m args below meth c ad0 QF c1 c2 c3 ex ad H locs lsA dy
  have n0 := dy.2.1.2.2.1.1
  have z0 := dy.2.1.2.2.1.2
  have r1 := c3.2.2.1
  have r2 := c3.2.2.2
  have hS := dy.2.2.1.2.2
  obtain ⟨hav1, hav2⟩ := hav dy.1.2.2
  have had : ∀ i, 20 ≤ eb_kd i → ad i = ad0 i := fun i hi => dy.2.1.1 i (Or.inl hi)
  have hM := hc.2 l D cy A ad H.size (fun q hq => c2.2.1 q (Nat.le_trans hS.1 hq)) dy.1.1 hav1
  have hrun := w (cells := eb_n h - eb_n h0) (slots := eb_z h - eb_z h0) (p := p) (e := e) (R := R) (below := below) c1 c2 c3.1 c3.2.1 (by omega) (by omega) dy.2.2.1.1 hS dy.1.2.2 dy.2.2.2.1 had hM (fun U hU hW => ⟨rfl, by rw [hU], by rw [hU]; exact dy.2.2.1.1, va_K.moved hW.alike c2.1, dy.2.2.1.2.1, c2.2.2.go had dy.2.1.2.2.2.1 dy.2.1.2.2.2.2 hS hU hW⟩)
  intro T hT X
  obtain ⟨v, st₀, t, T', L, e0, X', hL, e1, e2, ⟨ad', hv, hag, hP, hD, ⟨hz, hkp⟩, hwf, hrv, hal, hXL, hX⟩, stp⟩ := hrun T hT X
  have hv : v = r.map (eb_cv ad') := by injection hv
  rw [e0] at hz hkp
  have hS' : va_S A s.heap T'.heap (locs ++ L) := ⟨Nat.le_trans hS.1 (by rw [e1]; exact hz), fun q q1 q2 => by rw [e1, hkp q (Nat.lt_of_lt_of_le q1 hS.1) q2]; exact hS.2.1 q q1 q2, fun q hq => by
    rcases List.mem_append.mp hq with q1 | q1
    · exact hS.2.2 q q1
    · exact hL q q1⟩
  have eav : ∀ v, eb_av h v → eb_av h1 v := fun v hv => by
    cases v <;> first | trivial | exact hv.imp id (hal _)
  have ecv : ∀ v, eb_av h v → eb_cv ad' v = eb_cv ad v := fun v hv => by
    cases v with
    | ref i => exact congrArg Value.ref (hag i hv)
    | _ => rfl
  have els : ls.map (eb_cq ad') = ls.map (eb_cq ad) := List.map_congr_left fun x hx => by
    unfold eb_cq
    rw [ecv _ (dy.1.2.1 x hx)]
  have est : rest.map (eb_cv ad') = rest.map (eb_cv ad) := List.map_congr_left fun x hx => ecv x (hav2 x hx)
  have e5 : eb_n h1 - eb_n h0 = eb_n h - eb_n h0 + (eb_n h1 - eb_n h) := by omega
  have e6 : eb_z h1 - eb_z h0 = eb_z h - eb_z h0 + (eb_z h1 - eb_z h) := by omega
  have hW := a1.2 l D cy A p e R s m args below meth c ad0 QF c1 c2 c3 ex ad' T'.heap (locs ++ L) lsA ⟨⟨hwf, fun x hx => eav _ (dy.1.2.1 x hx), fun x hx => by
    rcases List.mem_append.mp hx with q | q
    · exact hrv x (by cases r <;> simp at q; rw [q])
    · exact eav x (hav2 x q)⟩, ⟨fun i hi => ?_, fun i hi => hal i (dy.2.1.2.1 i hi), ⟨by omega, by omega⟩, hXL.trans dy.2.1.2.2.2.1, hX.trans dy.2.1.2.2.2.2⟩, ⟨by rw [e1]; exact hP, hD, hS'⟩, by rw [els]; exact dy.2.2.2⟩
  · rw [e5, e6] at hW
    obtain ⟨t2, s1, s2⟩ := hW T' rfl X'
    refine ⟨t2, stp t2 ?_, s2⟩
    have e7 : (r.toList ++ rest).map (eb_cv ad') = v.toList ++ rest.map (eb_cv ad) := by
      rw [List.map_append, est, hv]
      cases r <;> rfl
    rw [e7] at s1
    exact s1
  · rw [hag i (hi.imp id (dy.2.1.2.1 i)), dy.2.1.1 i hi]
theorem eb_cwds {k : Nat} (hk : k < 305) {args : Array Value} {s : State} (hts : ∀ w ∈ eb_WS, w.before args s = true) : ∀ w ∈ eb_ws k, ∀ (a' : Array Value) (U : State), s.WarmedH U.vm → w.before a' U = true := by
  intro w hw a' U hW
  have hm : w ∈ eb_WS := by
    rcases List.mem_cons.mp hw with rfl | hw
    · exact eb_inW1 (List.mem_map.mpr ⟨k, List.mem_range.mpr hk, rfl⟩)
    · exact hw
  exact word_at hW (eb_gWS w hm).2 (hts w hm)
theorem eb_inis {k : Nat} (hk : k < 305) : Cond.initialized (eb_y k).cls ∈ eb_WS := eb_inW7 (List.mem_map.mpr ⟨eb_ow k, (show ∀ c, c < 20 → c ∈ eb_iniC by decide) _ (eb_ow_lt k (by omega)).1, rfl⟩)
theorem eb_nps {k : Nat} (hk : k < 305) : ∀ sig, parseMethodDescriptor (eb_y k).desc = some sig → eb_np k = sig.parameters.length := fun sig h => by
  have := eb_npL k hk
  rw [h] at this
  exact (Option.some.inj this).symm
theorem eb_rmB {k d' : Nat} {R : Room} {mc ms : Nat} (hk : k < 305) (hf : d' + 1 ≤ R.frames) (hl : 64 * (d' + 1) ≤ R.locals) : (eb_rm d' mc ms).frames + 1 ≤ R.frames ∧ 8 + (eb_ml k + 11) + (eb_rm d' mc ms).locals ≤ R.locals := by
  have := (eb_ow_lt k (by omega)).2
  refine ⟨hf, ?_⟩
  show 8 + (eb_ml k + 11) + 64 * d' ≤ R.locals
  omega
theorem eb_catm (ad : Nat → Nat) (st : List Value) : ((st.map (eb_cv ad)).map fun v => v.category).sum = (st.map fun v => v.category).sum := by
  rw [List.map_map]
  congr 1
  exact List.map_congr_left fun v _ => eb_cat ad v
theorem eb_invV {x k i : Nat} {As rest : List Value} {r : Option Value} {h1 : eb_H} (hi : eb_find pc M.2 = some (pc, 3, .invokevirtual x, k, b)) (hk : k < 305) (hst : st = As.reverse ++ .ref i :: rest) (hkd : eb_kd i = eb_ow k) (hk12 : eb_ow k < 12) (hn : As.length = eb_np k) (hcat : (rest.map fun v => v.category).sum ≤ 8) (hc : eb_Cal d k (.ref i :: As) h r h1) (kk : eb_Sn (d + 1) M h0 (pc + 3) ls (r.toList ++ rest) h1 Q) : eb_Sn (d + 1) M h0 pc ls st h Q := by
  subst hst
  refine eb_call hc (fun hs => ⟨eb_avc (hs _ (by simp)) fun v hv => hs v (by simp [hv]), fun v hv => hs v (by simp [hv])⟩) ?_ kk
  intro l D cy A p e R s m args below meth c H locs cells slots ad0 ad lsA c1 c2 hf hl hc1 hc2 hP hS hs hsz had hM hPw
  have hts := c1.2.2.2.2.1
  have g := (eb_dec c1.2.2.2.2.2.2 hi).2
  have g : (eb_mrefs.contains (eb_ow M.1, x, k) && eb_inK.contains k && eb_seK.contains k) = true := g
  rw [Bool.and_eq_true, Bool.and_eq_true] at g
  have hal : eb_al h i := eb_alk (hs (.ref i) (by simp)) (by omega)
  have hw := eb_cwds hk hts
  have hcode : Cond.code (eb_y k) (eb_b k) (eb_ml k) (eb_rt k) ∈ eb_ws k := List.mem_cons_self
  have hrm := eb_rmB (R := R) (mc := eb_n h1 - eb_n h) (ms := eb_z h1 - eb_z h) hk hf hl
  refine va_runV (C := eb_cn (eb_ow k)) (Ts := eb_WS) (nL := eb_ml M.1) (n := eb_np k) (As := As.map (eb_cv ad)) (b := ad i) (bytes := eb_b k) (maxL := eb_ml k) (ret := eb_rt k) ⟨c1.1, c1.2.1, c1.2.2.1, c1.2.2.2.1, hts⟩ hM ⟨⟨rfl, rfl, hrm.1, hrm.2, hw, hcode, hts _ (eb_inW1 (List.mem_map.mpr ⟨k, List.mem_range.mpr hk, rfl⟩)), hts _ (eb_inis hk), (eb_plain _ (eb_ow_lt k (by omega)).1).2, eb_nps hk, hts _ (eb_inW3 (List.mem_map.mpr ⟨_, eb_con g.1.1, rfl⟩))⟩, hts _ (eb_inW5 (List.mem_map.mpr ⟨_, eb_con g.1.2, rfl⟩)), hts _ (eb_inW6 (List.mem_map.mpr ⟨_, eb_con g.2, rfl⟩))⟩ ⟨eb_blind, va_recv c2.1 hP (eb_cl_at hk12) (by rw [eb_wd_at hal, eb_ceO hkd hk12]), hPw⟩ rfl (by rw [List.length_map]; exact hn) hsz (by simp [eb_cv]) (lv_room (by rw [eb_catm]; exact hcat)) (eb_de c1.2.2.2.2.2.2 hi) ⟨hc1, hc2⟩
theorem eb_invS {x k : Nat} {As rest : List Value} {r : Option Value} {h1 : eb_H} (hi : eb_find pc M.2 = some (pc, 3, .invokestatic x, k, b)) (hb : b = 0 ∨ b = 1) (hk : k < 305) (hst : st = As.reverse ++ rest) (hn : As.length = eb_np k) (hcat : (rest.map fun v => v.category).sum ≤ 8) (hc : eb_Cal d k As h r h1) (kk : eb_Sn (d + 1) M h0 (pc + 3) ls (r.toList ++ rest) h1 Q) : eb_Sn (d + 1) M h0 pc ls st h Q := by
  subst hst
  refine eb_call hc (fun hs => ⟨fun v hv => hs v (by simp [hv]), fun v hv => hs v (by simp [hv])⟩) ?_ kk
  intro l D cy A p e R s m args below meth c H locs cells slots ad0 ad lsA c1 c2 hf hl hc1 hc2 hP hS hs hsz had hM hPw
  have hts := c1.2.2.2.2.1
  have g : ((eb_stK.contains k && ((b == 0 && eb_mrefs.contains (eb_ow M.1, x, k)) || (b == 1 && eb_nrefs.contains (eb_ow M.1, x, k)))) || (b == 2 && eb_acrefs.contains (eb_ow M.1, x))) = true := (eb_dec c1.2.2.2.2.2.2 hi).2
  have hw := eb_cwds hk hts
  have hcode : Cond.code (eb_y k) (eb_b k) (eb_ml k) (eb_rt k) ∈ eb_ws k := List.mem_cons_self
  have hrm := eb_rmB (R := R) (mc := eb_n h1 - eb_n h) (ms := eb_z h1 - eb_z h) hk hf hl
  have hcode2 := hts _ (eb_inW1 (List.mem_map.mpr ⟨k, List.mem_range.mpr hk, rfl⟩))
  rcases hb with rfl | rfl
  · have g : eb_stK.contains k = true ∧ eb_mrefs.contains (eb_ow M.1, x, k) = true := by simpa using g
    exact va_runS (Ts := eb_WS) (nL := eb_ml M.1) (n := eb_np k) (As := As.map (eb_cv ad)) (bytes := eb_b k) (maxL := eb_ml k) (ret := eb_rt k) ⟨c1.1, c1.2.1, c1.2.2.1, c1.2.2.2.1, hts⟩ hM ⟨⟨rfl, rfl, hrm.1, hrm.2, hw, hcode, hcode2, hts _ (eb_inis hk), (eb_plain _ (eb_ow_lt k (by omega)).1).2, eb_nps hk, hts _ (eb_inW3 (List.mem_map.mpr ⟨_, eb_con g.2, rfl⟩))⟩, hts _ (eb_inW4 (List.mem_map.mpr ⟨_, eb_con g.1, rfl⟩))⟩ ⟨eb_blind, hPw⟩ rfl (by rw [List.length_map]; exact hn) hsz (by simp [List.map_reverse]) (lv_room (by rw [eb_catm]; exact hcat)) (eb_de c1.2.2.2.2.2.2 hi) ⟨hc1, hc2⟩
  · have g : eb_stK.contains k = true ∧ eb_nrefs.contains (eb_ow M.1, x, k) = true := by simpa using g
    have hnest := va_Nw.use (w := .methodLinkNest (eb_cn (eb_ow M.1)) x (eb_y k) "EchoBat") (A := args) rfl (c2.2.2.1.1 (eb_ow M.1, x, k) (eb_con g.2))
    exact va_runSN (host := "EchoBat") (Ts := eb_WS) (nL := eb_ml M.1) (n := eb_np k) (As := As.map (eb_cv ad)) (bytes := eb_b k) (maxL := eb_ml k) (ret := eb_rt k) ⟨c1.1, c1.2.1, c1.2.2.1, c1.2.2.2.1, hts⟩ hM ⟨⟨⟨rfl, rfl, hrm.1, hrm.2, hw, hcode⟩, hcode2, hts _ (eb_inis hk), (eb_plain _ (eb_ow_lt k (by omega)).1).2, eb_nps hk, hnest⟩, hts _ (eb_inW4 (List.mem_map.mpr ⟨_, eb_con g.1, rfl⟩)), trivial⟩ ⟨eb_blind, hPw⟩ rfl (by rw [List.length_map]; exact hn) hsz (by simp [List.map_reverse]) (lv_room (by rw [eb_catm]; exact hcat)) (eb_de c1.2.2.2.2.2.2 hi) ⟨hc1, hc2⟩
theorem eb_invI {x k i : Nat} {As rest : List Value} {r : Option Value} {h1 : eb_H} (hi : eb_find pc M.2 = some (pc, 3, .invokespecial x, k, b)) (hb : b = 0 ∨ b = 1) (hk : k < 305) (hnm : (eb_y k).name = "<init>") (hrt : eb_rt k = none) (hst : st = As.reverse ++ .ref i :: rest) (hn : As.length = eb_np k) (hcat : (rest.map fun v => v.category).sum ≤ 8) (hc : eb_Cal d k (.ref i :: As) h r h1) (kk : eb_Sn (d + 1) M h0 (pc + 3) ls (r.toList ++ rest) h1 Q) : eb_Sn (d + 1) M h0 pc ls st h Q := by
  subst hst
  refine eb_call hc (fun hs => ⟨eb_avc (hs _ (by simp)) fun v hv => hs v (by simp [hv]), fun v hv => hs v (by simp [hv])⟩) ?_ kk
  intro l D cy A p e R s m args below meth c H locs cells slots ad0 ad lsA c1 c2 hf hl hc1 hc2 hP hS hs hsz had hM hPw
  have hts := c1.2.2.2.2.1
  have g : ((eb_inK.contains k && ((b == 0 && eb_mrefs.contains (eb_ow M.1, x, k)) || (b == 1 && eb_nrefs.contains (eb_ow M.1, x, k)))) || (b == 2 && eb_orefs.contains (eb_ow M.1, x))) = true := (eb_dec c1.2.2.2.2.2.2 hi).2
  have hw := eb_cwds hk hts
  have hcode : Cond.code (eb_y k) (eb_b k) (eb_ml k) none ∈ eb_ws k := by rw [← hrt]; exact List.mem_cons_self
  have hrm := eb_rmB (R := R) (mc := eb_n h1 - eb_n h) (ms := eb_z h1 - eb_z h) hk hf hl
  have hcode2 : (Cond.code (eb_y k) (eb_b k) (eb_ml k) none).before args s = true := hts _ (by rw [← hrt]; exact eb_inW1 (List.mem_map.mpr ⟨k, List.mem_range.mpr hk, rfl⟩))
  rcases hb with rfl | rfl
  · have g : eb_inK.contains k = true ∧ eb_mrefs.contains (eb_ow M.1, x, k) = true := by simpa using g
    exact va_runI (Ts := eb_WS) (nL := eb_ml M.1) (n := eb_np k) (As := As.map (eb_cv ad)) (b := ad i) (bytes := eb_b k) (maxL := eb_ml k) ⟨c1.1, c1.2.1, c1.2.2.1, c1.2.2.2.1, hts⟩ hM ⟨⟨rfl, rfl, hrm.1, hrm.2, hw, hcode, hcode2, hts _ (eb_inis hk), (eb_plain _ (eb_ow_lt k (by omega)).1).2, eb_nps hk, hts _ (eb_inW3 (List.mem_map.mpr ⟨_, eb_con g.2, rfl⟩))⟩, hnm, hts _ (eb_inW5 (List.mem_map.mpr ⟨_, eb_con g.1, rfl⟩))⟩ ⟨eb_blind, hPw⟩ rfl (by rw [List.length_map]; exact hn) hsz (by simp [eb_cv]) (lv_room (by rw [eb_catm]; exact hcat)) (eb_de c1.2.2.2.2.2.2 hi) ⟨hc1, hc2⟩
  · have g : eb_inK.contains k = true ∧ eb_nrefs.contains (eb_ow M.1, x, k) = true := by simpa using g
    have hnest := va_Nw.use (w := .methodLinkNest (eb_cn (eb_ow M.1)) x (eb_y k) "EchoBat") (A := args) rfl (c2.2.2.1.1 (eb_ow M.1, x, k) (eb_con g.2))
    exact va_runIN (host := "EchoBat") (Ts := eb_WS) (nL := eb_ml M.1) (n := eb_np k) (As := As.map (eb_cv ad)) (b := ad i) (bytes := eb_b k) (maxL := eb_ml k) ⟨c1.1, c1.2.1, c1.2.2.1, c1.2.2.2.1, hts⟩ hM ⟨⟨⟨rfl, rfl, hrm.1, hrm.2, hw, hcode⟩, hcode2, hts _ (eb_inis hk), (eb_plain _ (eb_ow_lt k (by omega)).1).2, eb_nps hk, hnest⟩, hnm, hts _ (eb_inW5 (List.mem_map.mpr ⟨_, eb_con g.1, rfl⟩))⟩ ⟨eb_blind, hPw⟩ rfl (by rw [List.length_map]; exact hn) hsz (by simp [eb_cv]) (lv_room (by rw [eb_catm]; exact hcat)) (eb_de c1.2.2.2.2.2.2 hi) ⟨hc1, hc2⟩
/-- a virtual call of a String constant -/
theorem eb_invT {x k i : Nat} {As rest : List Value} {r : Option Value} {h1 : eb_H} (hi : eb_find pc M.2 = some (pc, 3, .invokevirtual x, k, b)) (hk : k < 305) (hst : st = As.reverse ++ .ref (eb_mk i 21 0) :: rest) (hi2 : i < 21) (hk12 : eb_ow k = 16) (hn : As.length = eb_np k) (hcat : (rest.map fun v => v.category).sum ≤ 8) (hc : eb_Cal d k (.ref (eb_mk i 21 0) :: As) h r h1) (kk : eb_Sn (d + 1) M h0 (pc + 3) ls (r.toList ++ rest) h1 Q) : eb_Sn (d + 1) M h0 pc ls st h Q := by
  subst hst
  refine eb_call hc (fun hs => ⟨eb_avc (hs _ (by simp)) fun v hv => hs v (by simp [hv]), fun v hv => hs v (by simp [hv])⟩) ?_ kk
  intro l D cy A p e R s m args below meth c H locs cells slots ad0 ad lsA c1 c2 hf hl hc1 hc2 hP hS hs hsz had hM hPw
  have hts := c1.2.2.2.2.1
  have g : (eb_mrefs.contains (eb_ow M.1, x, k) && eb_inK.contains k && eb_seK.contains k) = true := (eb_dec c1.2.2.2.2.2.2 hi).2
  rw [Bool.and_eq_true, Bool.and_eq_true] at g
  have hw := eb_cwds hk hts
  have hcode : Cond.code (eb_y k) (eb_b k) (eb_ml k) (eb_rt k) ∈ eb_ws k := List.mem_cons_self
  have hrm := eb_rmB (R := R) (mc := eb_n h1 - eb_n h) (ms := eb_z h1 - eb_z h) hk hf hl
  have hrecv : ∃ cell : Cell, H[ad (eb_mk i 21 0)]? = some cell ∧ cell.vm.isStatics = false ∧ s.vm.findClass (eb_cn (eb_ow k)) = some cell.cls := by
    obtain ⟨cell, q1, q2, q3, -⟩ := (c2.2.2.2.1.2 i hi2).1.kept hS.2.1
    rw [had _ (by rw [eb_mk_kd (by decide)]; decide), hk12]
    exact ⟨cell, q1, q2, q3⟩
  exact va_runV (C := eb_cn (eb_ow k)) (Ts := eb_WS) (nL := eb_ml M.1) (n := eb_np k) (As := As.map (eb_cv ad)) (b := ad (eb_mk i 21 0)) (bytes := eb_b k) (maxL := eb_ml k) (ret := eb_rt k) ⟨c1.1, c1.2.1, c1.2.2.1, c1.2.2.2.1, hts⟩ hM ⟨⟨rfl, rfl, hrm.1, hrm.2, hw, hcode, hts _ (eb_inW1 (List.mem_map.mpr ⟨k, List.mem_range.mpr hk, rfl⟩)), hts _ (eb_inis hk), (eb_plain _ (eb_ow_lt k (by omega)).1).2, eb_nps hk, hts _ (eb_inW3 (List.mem_map.mpr ⟨_, eb_con g.1.1, rfl⟩))⟩, hts _ (eb_inW5 (List.mem_map.mpr ⟨_, eb_con g.1.2, rfl⟩)), hts _ (eb_inW6 (List.mem_map.mpr ⟨_, eb_con g.2, rfl⟩))⟩ ⟨eb_blind, hrecv, hPw⟩ rfl (by rw [List.length_map]; exact hn) hsz (by simp [eb_cv]) (lv_room (by rw [eb_catm]; exact hcat)) (eb_de c1.2.2.2.2.2.2 hi) ⟨hc1, hc2⟩
/-- the same by what is wanted behind -/
theorem eb_ctV {x k i : Nat} {As rest : List Value} (hi : eb_find pc M.2 = some (pc, 3, .invokevirtual x, k, b)) (hk : k < 305) (hst : st = As.reverse ++ .ref i :: rest) (hkd : eb_kd i = eb_ow k) (hk12 : eb_ow k < 12) (hn : As.length = eb_np k) (hcat : (rest.map fun v => v.category).sum ≤ 8) (kk : eb_Ct d k (.ref i :: As) h (fun r h1 => eb_Sn (d + 1) M h0 (pc + 3) ls (r.toList ++ rest) h1 Q)) : eb_Sn (d + 1) M h0 pc ls st h Q := by
  obtain ⟨r, h1, hc, hq⟩ := kk
  exact eb_invV hi hk hst hkd hk12 hn hcat hc hq
theorem eb_ctS {x k : Nat} {As rest : List Value} (hi : eb_find pc M.2 = some (pc, 3, .invokestatic x, k, b)) (hb : b = 0 ∨ b = 1) (hk : k < 305) (hst : st = As.reverse ++ rest) (hn : As.length = eb_np k) (hcat : (rest.map fun v => v.category).sum ≤ 8) (kk : eb_Ct d k As h (fun r h1 => eb_Sn (d + 1) M h0 (pc + 3) ls (r.toList ++ rest) h1 Q)) : eb_Sn (d + 1) M h0 pc ls st h Q := by
  obtain ⟨r, h1, hc, hq⟩ := kk
  exact eb_invS hi hb hk hst hn hcat hc hq
theorem eb_ctI {x k i : Nat} {As rest : List Value} (hi : eb_find pc M.2 = some (pc, 3, .invokespecial x, k, b)) (hb : b = 0 ∨ b = 1) (hk : k < 305) (hnm : (eb_y k).name = "<init>") (hrt : eb_rt k = none) (hst : st = As.reverse ++ .ref i :: rest) (hn : As.length = eb_np k) (hcat : (rest.map fun v => v.category).sum ≤ 8) (kk : eb_Ct d k (.ref i :: As) h (fun r h1 => eb_Sn (d + 1) M h0 (pc + 3) ls (r.toList ++ rest) h1 Q)) : eb_Sn (d + 1) M h0 pc ls st h Q := by
  obtain ⟨r, h1, hc, hq⟩ := kk
  exact eb_invI hi hb hk hnm hrt hst hn hcat hc hq
theorem eb_ctT {x k i : Nat} {As rest : List Value} (hi : eb_find pc M.2 = some (pc, 3, .invokevirtual x, k, b)) (hk : k < 305) (hst : st = As.reverse ++ .ref (eb_mk i 21 0) :: rest) (hi2 : i < 21) (hk12 : eb_ow k = 16) (hn : As.length = eb_np k) (hcat : (rest.map fun v => v.category).sum ≤ 8) (kk : eb_Ct d k (.ref (eb_mk i 21 0) :: As) h (fun r h1 => eb_Sn (d + 1) M h0 (pc + 3) ls (r.toList ++ rest) h1 Q)) : eb_Sn (d + 1) M h0 pc ls st h Q := by
  obtain ⟨r, h1, hc, hq⟩ := kk
  exact eb_invT hi hk hst hi2 hk12 hn hcat hc hq
/-- the formatter: null, or a reference -/
theorem eb_fmt {r : Option Value} {h' : eb_H} (hi : eb_find pc M.2 = some (pc, 3, .getstatic 1053, a, b)) (how : eb_ow M.1 = 16) (k1 : eb_Sd d M h0 (pc + 3) ls (.null :: st) h r h') (k2 : eb_Sd d M h0 (pc + 3) ls (.ref (eb_mk 0 23 0) :: st) h r h') : eb_Sd d M h0 pc ls st h r h' := by
  refine ⟨k1.1, ?_⟩
  intro l D cy A p e R s m args below meth c ad0 QF c1 c2 c3 ex ad H locs lsA dy
  have hS := dy.2.2.1.2.2
  have hlk : Cond.fieldLink (eb_cn (eb_ow M.1)) 1053 "jdk/internal/util/Preconditions" "SIOOBE_FORMATTER" "Ljava/util/function/BiFunction;" ∈ eb_WS := eb_inW16 (by rw [how]; simp [eb_W16, eb_cn, eb_cnL])
  rcases c2.2.2.2.2.1.2 with z | z
  · exact va_gets (own := eb_cn (eb_ow M.1)) (ref := "jdk/internal/util/Preconditions") c1.1 c1.2.1 z hS c1.2.2.2.1 (c1.2.2.2.2.1 _ hlk) (fun _ q => q) (eb_de c1.2.2.2.2.2.2 hi) (k1.2 l D cy A p e R s m args below meth c ad0 QF c1 c2 c3 ex ad H locs lsA ⟨⟨dy.1.1, dy.1.2.1, eb_avn dy.1.2.2⟩, dy.2⟩)
  · have kk := k2.2 l D cy A p e R s m args below meth c ad0 QF c1 c2 c3 ex ad H locs lsA ⟨⟨dy.1.1, dy.1.2.1, eb_avS (by rw [eb_mk_kd (by decide)]; decide) dy.1.2.2⟩, dy.2⟩
    have e1 : eb_cv ad (.ref (eb_mk 0 23 0)) = .ref (ad0 (eb_mk 0 23 0)) := by show Value.ref (ad _) = _; rw [dy.2.1.1 _ (Or.inl (by rw [eb_mk_kd (by decide)]; decide))]
    rw [List.map_cons, e1] at kk
    exact va_gets (own := eb_cn (eb_ow M.1)) (ref := "jdk/internal/util/Preconditions") c1.1 c1.2.1 z hS c1.2.2.2.1 (c1.2.2.2.2.1 _ hlk) (fun _ q => q) (eb_de c1.2.2.2.2.2.2 hi) kk
end EBCALL
