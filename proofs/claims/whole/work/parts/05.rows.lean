/-! ===== the judgements ===== -/
abbrev eb_op : Type := Nat × Nat × Instr × Nat × Nat
abbrev eb_M : Type := Nat × List eb_op
def eb_find (pc : Nat) : List eb_op → Option eb_op
  | [] => none
  | q :: r => cond (Nat.beq q.1 pc) (some q) (eb_find pc r)
theorem eb_find_mem {pc : Nat} {q : eb_op} : ∀ {l : List eb_op}, eb_find pc l = some q → q ∈ l
  | [], h => by cases h
  | a :: r, h => by
    unfold eb_find at h
    cases hb : Nat.beq a.1 pc with
    | true => rw [hb] at h; exact List.mem_cons.mpr (Or.inl (Option.some.inj h).symm)
    | false => rw [hb] at h; exact List.mem_cons.mpr (Or.inr (eb_find_mem h))
/-- what an instruction's own numbers say is in the lists of references -/
def eb_rf (own : Nat) (q : eb_op) : Bool := match q.2.2.1 with
  | .getfield x => eb_frefs.contains (own, x, q.2.2.2.1, q.2.2.2.2) || (own == 16 && q.2.2.2.1 == 50)
  | .putfield x => eb_frefs.contains (own, x, q.2.2.2.1, q.2.2.2.2)
  | .invokevirtual x => eb_mrefs.contains (own, x, q.2.2.2.1) && eb_inK.contains q.2.2.2.1 && eb_seK.contains q.2.2.2.1
  | .invokestatic x => (eb_stK.contains q.2.2.2.1 && ((q.2.2.2.2 == 0 && eb_mrefs.contains (own, x, q.2.2.2.1)) || (q.2.2.2.2 == 1 && eb_nrefs.contains (own, x, q.2.2.2.1)))) || (q.2.2.2.2 == 2 && eb_acrefs.contains (own, x))
  | .invokespecial x => (eb_inK.contains q.2.2.2.1 && ((q.2.2.2.2 == 0 && eb_mrefs.contains (own, x, q.2.2.2.1)) || (q.2.2.2.2 == 1 && eb_nrefs.contains (own, x, q.2.2.2.1)))) || (q.2.2.2.2 == 2 && eb_orefs.contains (own, x))
  | .new x => eb_crefs.contains (own, x, q.2.2.2.1)
  | .anewarray x => eb_crefs.contains (own, x, q.2.2.2.1)
  | .ldc x => eb_irefs.contains (own, x, q.2.2.2.1) || (q.2.2.2.2 == 1 && eb_strs.contains (own, x, q.2.2.2.1))
  | .ldc_w x => eb_irefs.contains (own, x, q.2.2.2.1)
  | .ldc2_w x => eb_lrefs.contains (own, x, q.2.2.2.1)
  | _ => true
def eb_ok (M : eb_M) : Prop := M.2.all (fun q => decide (decode (eb_b M.1) q.1 = .ok (q.2.2.1, q.2.1)) && eb_rf (eb_ow M.1) q) = true
theorem eb_dec {M : eb_M} (h : eb_ok M) {pc : Nat} {q : eb_op} (hi : eb_find pc M.2 = some q) : decode (eb_b M.1) q.1 = .ok (q.2.2.1, q.2.1) ∧ eb_rf (eb_ow M.1) q = true := by
  have h1 := List.all_eq_true.mp h q (eb_find_mem hi)
  rw [Bool.and_eq_true, decide_eq_true_eq] at h1
  exact h1
theorem eb_find_pc {pc : Nat} {q : eb_op} : ∀ {l : List eb_op}, eb_find pc l = some q → q.1 = pc
  | [], h => by cases h
  | a :: r, h => by
    unfold eb_find at h
    cases hb : Nat.beq a.1 pc with
    | true => rw [hb] at h; rw [← Option.some.inj h]; exact Nat.eq_of_beq_eq_true hb
    | false => rw [hb] at h; exact eb_find_pc h
theorem eb_de {M : eb_M} (h : eb_ok M) {pc a b len : Nat} {i : Instr} (hi : eb_find pc M.2 = some (pc, len, i, a, b)) : decode (eb_b M.1) pc = .ok (i, len) := (eb_dec h hi).1
def eb_byt : List (List Int32) := [[32, 118, 97, 108, 108, 101, 121, 32, 98, 101, 97, 114, 115, 32, 114, 111, 119, 32, 116, 104, 105, 110, 103, 32, 100, 114, 105, 102, 116, 32, 104, 111, 117, 115, 101, 32, 119, 105, 110, 100, 32, 98, 97, 116, 32, 109, 97, 121, 32, 116, 97, 107, 101, 115, 32, 104, 101, 105, 103, 104, 116, 32, 102, 114, 111, 109, 32, 108, 111, 97, 100, 32, 99, 101, 108, 108, 32, 97, 110, 100, 32, 111, 114, 32, 110, 111, 116, 32], [58], [59], [59, 58, 43, 45, 42, 40, 41, 91, 93, 61, 60, 62], [97, 110, 100], [98, 97, 116], [98, 101, 97, 114, 115], [99, 101, 108, 108], [100, 114, 105, 102, 116], [102, 114, 111, 109], [104, 101, 105, 103, 104, 116], [104, 111, 117, 115, 101], [108, 111, 97, 100], [109, 97, 121], [110, 111, 116], [111, 114], [114, 111, 119], [116, 97, 107, 101, 115], [116, 104, 105, 110, 103], [118, 97, 108, 108, 101, 121], [119, 105, 110, 100]]
def eb_sln : List Nat := [88, 1, 1, 12, 3, 3, 5, 4, 5, 4, 6, 5, 4, 3, 3, 2, 3, 5, 5, 6, 4]
/-- what of the machine's start stands besides the world: links within the nest, arrays over classes, Strings, statics, the script -/
def eb_Ev (ad0 : Nat → Nat) (A : Nat → Prop) (h0 : eb_H) (s : State) : Prop :=
  ((∀ q ∈ eb_nrefs, va_Nw (.methodLinkNest (eb_cn q.1) q.2.1 (eb_y q.2.2) "EchoBat") s) ∧ va_AO "EchoBat$State" s ∧ va_AO "EchoBat$Tray" s ∧ va_AO "EchoBat$Valley" s) ∧
  ((∀ q ∈ eb_strs, vk_R (eb_cn q.1) q.2.1 (eb_stx.getD q.2.2 "") (ad0 (eb_mk q.2.2 21 0)) s) ∧
   ∀ i : Nat, i < 21 → va_O "java/lang/String" (ad0 (eb_mk i 21 0)) A s s.heap ∧ va_OF "java/lang/String" "coder" "B" (.int 0) (ad0 (eb_mk i 21 0)) A s s.heap ∧ va_OF "java/lang/String" "value" "[B" (.ref (ad0 (eb_mk i 22 0))) (ad0 (eb_mk i 21 0)) A s s.heap ∧ va_T .byte (ad0 (eb_mk i 22 0)) (eb_sln.getD i 0) (fun j => .int ((eb_byt.getD i []).getD j 0)) A s s.heap) ∧
  (va_Z "java/lang/String" "COMPACT_STRINGS" "Z" (.int 1) A s s.heap ∧ (va_Z "jdk/internal/util/Preconditions" "SIOOBE_FORMATTER" "Ljava/util/function/BiFunction;" .null A s s.heap ∨ va_Z "jdk/internal/util/Preconditions" "SIOOBE_FORMATTER" "Ljava/util/function/BiFunction;" (.ref (ad0 (eb_mk 0 23 0))) A s s.heap)) ∧
  (va_X (ad0 20) (eb_XL h0) (eb_X h0) s s.heap ∧ ad0 20 < s.heap.size ∧ ¬ A (ad0 20))
def eb_Dy (D : va_G) (cy : Nat → ClassId) (A : Nat → Prop) (s : State) (nL : Nat) (ad0 : Nat → Nat) (h0 : eb_H) (ad : Nat → Nat) (ls : List (Nat × Value)) (st : List Value) (h : eb_H) (H : Heap) (locs : List Loc) (lsA : Array Slot) : Prop :=
  (eb_wf h ∧ (∀ q ∈ ls, eb_av h q.2) ∧ (∀ v ∈ st, eb_av h v)) ∧
  ((∀ i, 20 ≤ eb_kd i ∨ eb_al h0 i → ad i = ad0 i) ∧ (∀ i, eb_al h0 i → eb_al h i) ∧ (eb_n h0 ≤ eb_n h ∧ eb_z h0 ≤ eb_z h) ∧ eb_XL h = eb_XL h0 ∧ eb_X h = eb_X h0) ∧
  (va_P D eb_cl (eb_wd cy ad h) H ∧ va_D A (eb_wd cy ad h) ∧ va_S A s.heap H locs) ∧ lv_has lsA nL (ls.map (eb_cq ad))
def eb_ret (M : eb_M) (pc : Nat) (r : Option Value) : Prop := match r with
  | none => decode (eb_b M.1) pc = .ok (.return_, 1) ∧ eb_rt M.1 = none
  | some (.int v) => decode (eb_b M.1) pc = .ok (.ireturn, 1) ∧ ∃ t, eb_rt M.1 = some t ∧ narrow t (.int v) = .int v
  | some (.long v) => decode (eb_b M.1) pc = .ok (.lreturn, 1) ∧ eb_rt M.1 = some .long
  | some (.ref i) => decode (eb_b M.1) pc = .ok (.areturn, 1) ∧ ∃ t, eb_rt M.1 = some t ∧ eb_rty t = true
  | _ => False
def eb_C1 (M : eb_M) (p : Program) (s : State) (m : MethodId) (args : Array Value) (meth : Method) (c : Code) : Prop :=
  p.tables.exec = Jvm.exec ∧ c.code = eb_b M.1 ∧ c.maxLocals = eb_ml M.1 ∧ s.vm.findClass (eb_cn (eb_ow M.1)) = some m.cls ∧ (∀ w ∈ eb_WS, w.before args s = true) ∧ meth.name = (eb_y M.1).name ∧ eb_ok M
def eb_C2 (D : va_G) (cy : Nat → ClassId) (A : Nat → Prop) (s : State) (ad0 : Nat → Nat) (h0 : eb_H) : Prop :=
  va_K D eb_cl (eb_tys cy) s ∧ (∀ q, s.heap.size ≤ q → A q) ∧ eb_Ev ad0 A h0 s
def eb_C3 (d : Nat) (h0 h' : eb_H) (R : Room) : Prop := d ≤ R.frames ∧ 64 * d ≤ R.locals ∧ eb_n h' - eb_n h0 ≤ R.cells ∧ eb_z h' - eb_z h0 ≤ R.slots
/-- from a place in a method's body the machine comes to its end, with this answer and this heap -/
def eb_Sd (d : Nat) (M : eb_M) (h0 : eb_H) (pc : Nat) (ls : List (Nat × Value)) (st : List Value) (h : eb_H) (r : Option Value) (h' : eb_H) : Prop :=
  (eb_n h ≤ eb_n h' ∧ eb_z h ≤ eb_z h') ∧ ∀ (l : Launch) (D : va_G) (cy : Nat → ClassId) (A : Nat → Prop) (p : Program) (e : Env) (R : Room) (s : State) (m : MethodId) (args : Array Value) (below : List Frame) (meth : Method) (c : Code) (ad0 : Nat → Nat) (QF : State → Prop),
    eb_C1 M p s m args meth c → eb_C2 D cy A s ad0 h0 → eb_C3 d h0 h' R →
    (∀ (ad : Nat → Nat) (ls : List (Nat × Value)) (H : Heap) (locs : List Loc) (lsA : Array Slot) (pc : Nat), eb_Dy D cy A s (eb_ml M.1) ad0 h0 ad ls r.toList h' H locs lsA → eb_ret M pc r → W p l e R s m args below meth c H locs (eb_n h' - eb_n h0) (eb_z h' - eb_z h0) QF (F0 m pc lsA (r.toList.map (eb_cv ad)))) →
    ∀ (ad : Nat → Nat) (H : Heap) (locs : List Loc) (lsA : Array Slot), eb_Dy D cy A s (eb_ml M.1) ad0 h0 ad ls st h H locs lsA → W p l e R s m args below meth c H locs (eb_n h - eb_n h0) (eb_z h - eb_z h0) QF (F0 m pc lsA (st.map (eb_cv ad)))
def eb_Sn (d : Nat) (M : eb_M) (h0 : eb_H) (pc : Nat) (ls : List (Nat × Value)) (st : List Value) (h : eb_H) (Q : Option Value → eb_H → Prop) : Prop := ∃ r h', eb_Sd d M h0 pc ls st h r h' ∧ Q r h'
theorem eb_Sn.mono {d : Nat} {M : eb_M} {h0 : eb_H} {pc : Nat} {ls : List (Nat × Value)} {st : List Value} {h : eb_H} {Q Q' : Option Value → eb_H → Prop} (k : eb_Sn d M h0 pc ls st h Q) (hq : ∀ r h', Q r h' → Q' r h') : eb_Sn d M h0 pc ls st h Q' := by
  obtain ⟨r, h', a, b⟩ := k
  exact ⟨r, h', a, hq r h' b⟩
theorem eb_Sn.lift {d : Nat} {M : eb_M} {h0 : eb_H} {pc pc2 : Nat} {ls ls2 : List (Nat × Value)} {st st2 : List Value} {h h2 : eb_H} {Q : Option Value → eb_H → Prop} (f : ∀ r h', eb_Sd d M h0 pc2 ls2 st2 h2 r h' → eb_Sd d M h0 pc ls st h r h') (k : eb_Sn d M h0 pc2 ls2 st2 h2 Q) : eb_Sn d M h0 pc ls st h Q := by
  obtain ⟨r, h', a, b⟩ := k
  exact ⟨r, h', f r h' a, b⟩
/-- an instruction that touches stack and pc alone -/
def eb_Stp (M : eb_M) (pc pc2 : Nat) (ls : List (Nat × Value)) (st st2 : List Value) : Prop := ∀ {l : Launch} {p : Program} {e : Env} {R : Room} {s : State} {m : MethodId} {args : Array Value} {below : List Frame} {meth : Method} {c : Code} {H : Heap} {locs : List Loc} {cells slots : Nat} {QF : State → Prop},
  eb_C1 M p s m args meth c → ∀ (ad : Nat → Nat) (lsA : Array Slot), lv_has lsA (eb_ml M.1) (ls.map (eb_cq ad)) → W p l e R s m args below meth c H locs cells slots QF (F0 m pc2 lsA (st2.map (eb_cv ad))) → W p l e R s m args below meth c H locs cells slots QF (F0 m pc lsA (st.map (eb_cv ad)))
def eb_avs (h : eb_H) (st : List Value) : Prop := ∀ v ∈ st, eb_av h v
theorem eb_go {d : Nat} {M : eb_M} {h0 : eb_H} {pc pc2 : Nat} {ls : List (Nat × Value)} {st st2 : List Value} {h : eb_H} {Q : Option Value → eb_H → Prop} (w : eb_Stp M pc pc2 ls st st2) (ha : (∀ q ∈ ls, eb_av h q.2) → eb_avs h st → eb_avs h st2) (k : eb_Sn d M h0 pc2 ls st2 h Q) : eb_Sn d M h0 pc ls st h Q := by
  refine k.lift fun r h' a => ⟨a.1, ?_⟩
  intro l D cy A p e R s m args below meth c ad0 QF c1 c2 c3 ex ad H locs lsA dy
  exact w c1 ad lsA dy.2.2.2 (a.2 l D cy A p e R s m args below meth c ad0 QF c1 c2 c3 ex ad H locs lsA ⟨⟨dy.1.1, dy.1.2.1, ha dy.1.2.1 dy.1.2.2⟩, dy.2⟩)
theorem eb_br {d : Nat} {M : eb_M} {h0 : eb_H} {pc tgt nxt : Nat} {ls : List (Nat × Value)} {st st2 : List Value} {h : eb_H} {Q : Option Value → eb_H → Prop} {c : Prop} (wt : c → eb_Stp M pc tgt ls st st2) (wf : ¬ c → eb_Stp M pc nxt ls st st2) (ha : eb_avs h st → eb_avs h st2) (kt : c → eb_Sn d M h0 tgt ls st2 h Q) (kf : ¬ c → eb_Sn d M h0 nxt ls st2 h Q) : eb_Sn d M h0 pc ls st h Q := by
  by_cases hc : c
  · exact eb_go (wt hc) (fun _ => ha) (kt hc)
  · exact eb_go (wf hc) (fun _ => ha) (kf hc)
theorem eb_vi {h : eb_H} {x : Int32} : eb_av h (.int x) := trivial
theorem eb_vl {h : eb_H} {x : Int64} : eb_av h (.long x) := trivial
theorem eb_vn {h : eb_H} : eb_av h .null := trivial
theorem eb_avi {h : eb_H} {st : List Value} {x : Int32} (k : eb_avs h st) : eb_avs h (.int x :: st) := fun v hv => by
  rcases List.mem_cons.mp hv with rfl | hv
  · trivial
  · exact k v hv
theorem eb_avl {h : eb_H} {st : List Value} {x : Int64} (k : eb_avs h st) : eb_avs h (.long x :: st) := fun v hv => by
  rcases List.mem_cons.mp hv with rfl | hv
  · trivial
  · exact k v hv
theorem eb_avn {h : eb_H} {st : List Value} (k : eb_avs h st) : eb_avs h (.null :: st) := fun v hv => by
  rcases List.mem_cons.mp hv with rfl | hv
  · trivial
  · exact k v hv
theorem eb_avc {h : eb_H} {st : List Value} {v : Value} (a : eb_av h v) (k : eb_avs h st) : eb_avs h (v :: st) := fun w hw => by
  rcases List.mem_cons.mp hw with rfl | hw
  · exact a
  · exact k w hw
theorem eb_av1 {h : eb_H} {st : List Value} {v : Value} (k : eb_avs h (v :: st)) : eb_avs h st := fun w hw => k w (List.mem_cons_of_mem _ hw)
theorem eb_avh {h : eb_H} {st : List Value} {v : Value} (k : eb_avs h (v :: st)) : eb_av h v := k v List.mem_cons_self
def eb_get : List (Nat × Value) → Nat → Option Value
  | [], _ => none
  | q :: r, i => cond (Nat.beq q.1 i) (some q.2) (eb_get r i)
theorem eb_get_mem {i : Nat} {v : Value} : ∀ {l : List (Nat × Value)}, eb_get l i = some v → (i, v) ∈ l
  | [], h => by cases h
  | a :: r, h => by
    unfold eb_get at h
    cases hb : Nat.beq a.1 i with
    | true =>
      rw [hb] at h
      have e1 := Nat.eq_of_beq_eq_true hb
      have e2 : a.2 = v := Option.some.inj h
      exact List.mem_cons.mpr (Or.inl (by rw [← e1, ← e2]))
    | false => rw [hb] at h; exact List.mem_cons.mpr (Or.inr (eb_get_mem h))
theorem eb_lat {ls : List (Nat × Value)} {lsA : Array Slot} {nL : Nat} {ad : Nat → Nat} (h : lv_has lsA nL (ls.map (eb_cq ad))) {i : Nat} {v : Value} (hg : eb_get ls i = some v) : lsA[i]? = some (.val (eb_cv ad v)) :=
  h.2.2 (i, eb_cv ad v) (List.mem_map.mpr ⟨(i, v), eb_get_mem hg, rfl⟩)
section EBROWS
variable {d : Nat} {M : eb_M} {h0 : eb_H} {pc a b : Nat} {ls : List (Nat × Value)} {st : List Value} {h : eb_H} {Q : Option Value → eb_H → Prop}

theorem eb_iconst {n : Int} {v : Int32} (hv : Int32.ofInt n = v) (hi : eb_find pc M.2 = some (pc, 1, .iconst n, a, b)) (k : eb_Sn d M h0 (pc + 1) ls (.int v :: st) h Q) : eb_Sn d M h0 pc ls (st) h Q := eb_go (fun c1 ad lsA hl kk => by exact lv_iconst c1.1 c1.2.1 (eb_de c1.2.2.2.2.2.2 hi) hv kk) (fun hl hs => eb_avi hs) k
theorem eb_bipush {n : Int} {v : Int32} (hv : (Int8.ofInt n).toInt32 = v) (hi : eb_find pc M.2 = some (pc, 2, .bipush n, a, b)) (k : eb_Sn d M h0 (pc + 2) ls (.int v :: st) h Q) : eb_Sn d M h0 pc ls (st) h Q := eb_go (fun c1 ad lsA hl kk => by exact lv_bipush c1.1 c1.2.1 (eb_de c1.2.2.2.2.2.2 hi) hv kk) (fun hl hs => eb_avi hs) k
theorem eb_sipush {n : Int} {v : Int32} (hv : (Int16.ofInt n).toInt32 = v) (hi : eb_find pc M.2 = some (pc, 3, .sipush n, a, b)) (k : eb_Sn d M h0 (pc + 3) ls (.int v :: st) h Q) : eb_Sn d M h0 pc ls (st) h Q := eb_go (fun c1 ad lsA hl kk => by exact lv_sipush c1.1 c1.2.1 (eb_de c1.2.2.2.2.2.2 hi) hv kk) (fun hl hs => eb_avi hs) k
theorem eb_lconst {n : Fin 2} {v : Int64} (hv : Int64.ofNat (n : Nat) = v) (hi : eb_find pc M.2 = some (pc, 1, .lconst n, a, b)) (k : eb_Sn d M h0 (pc + 1) ls (.long v :: st) h Q) : eb_Sn d M h0 pc ls (st) h Q := eb_go (fun c1 ad lsA hl kk => by exact lv_lconst c1.1 c1.2.1 (eb_de c1.2.2.2.2.2.2 hi) hv kk) (fun hl hs => eb_avl hs) k
theorem eb_null  (hi : eb_find pc M.2 = some (pc, 1, .aconst_null, a, b)) (k : eb_Sn d M h0 (pc + 1) ls (.null :: st) h Q) : eb_Sn d M h0 pc ls (st) h Q := eb_go (fun c1 ad lsA hl kk => by exact lv_null c1.1 c1.2.1 (eb_de c1.2.2.2.2.2.2 hi) kk) (fun hl hs => eb_avn hs) k
theorem eb_iload_n {n : Fin 4} {i : Nat} {x : Int32} (hn : (n : Nat) = i) (hg : eb_get ls i = some (.int x)) (hi : eb_find pc M.2 = some (pc, 1, .iload_n n, a, b)) (k : eb_Sn d M h0 (pc + 1) ls (.int x :: st) h Q) : eb_Sn d M h0 pc ls (st) h Q := eb_go (fun c1 ad lsA hl kk => by exact lv_iload_n c1.1 c1.2.1 (eb_de c1.2.2.2.2.2.2 hi) hn (eb_lat hl hg) kk) (fun hl hs => eb_avi hs) k
theorem eb_iload {i : Nat} {x : Int32} (hg : eb_get ls i = some (.int x)) (hi : eb_find pc M.2 = some (pc, 2, .iload i, a, b)) (k : eb_Sn d M h0 (pc + 2) ls (.int x :: st) h Q) : eb_Sn d M h0 pc ls (st) h Q := eb_go (fun c1 ad lsA hl kk => by exact lv_iload c1.1 c1.2.1 (eb_de c1.2.2.2.2.2.2 hi) (eb_lat hl hg) kk) (fun hl hs => eb_avi hs) k
theorem eb_lload_n {n : Fin 4} {i : Nat} {x : Int64} (hn : (n : Nat) = i) (hg : eb_get ls i = some (.long x)) (hi : eb_find pc M.2 = some (pc, 1, .lload_n n, a, b)) (k : eb_Sn d M h0 (pc + 1) ls (.long x :: st) h Q) : eb_Sn d M h0 pc ls (st) h Q := eb_go (fun c1 ad lsA hl kk => by exact lv_lload_n c1.1 c1.2.1 (eb_de c1.2.2.2.2.2.2 hi) hn (eb_lat hl hg) kk) (fun hl hs => eb_avl hs) k
theorem eb_lload {i : Nat} {x : Int64} (hg : eb_get ls i = some (.long x)) (hi : eb_find pc M.2 = some (pc, 2, .lload i, a, b)) (k : eb_Sn d M h0 (pc + 2) ls (.long x :: st) h Q) : eb_Sn d M h0 pc ls (st) h Q := eb_go (fun c1 ad lsA hl kk => by exact lv_lload c1.1 c1.2.1 (eb_de c1.2.2.2.2.2.2 hi) (eb_lat hl hg) kk) (fun hl hs => eb_avl hs) k
theorem eb_aload_n {n : Fin 4} {i x : Nat} (hn : (n : Nat) = i) (hg : eb_get ls i = some (.ref x)) (hi : eb_find pc M.2 = some (pc, 1, .aload_n n, a, b)) (k : eb_Sn d M h0 (pc + 1) ls (.ref x :: st) h Q) : eb_Sn d M h0 pc ls (st) h Q := eb_go (fun c1 ad lsA hl kk => by exact lv_aload_n c1.1 c1.2.1 (eb_de c1.2.2.2.2.2.2 hi) hn (eb_lat hl hg) kk) (fun hl hs => eb_avc (hl _ (eb_get_mem hg)) hs) k
theorem eb_aload {i x : Nat} (hg : eb_get ls i = some (.ref x)) (hi : eb_find pc M.2 = some (pc, 2, .aload i, a, b)) (k : eb_Sn d M h0 (pc + 2) ls (.ref x :: st) h Q) : eb_Sn d M h0 pc ls (st) h Q := eb_go (fun c1 ad lsA hl kk => by exact lv_aload c1.1 c1.2.1 (eb_de c1.2.2.2.2.2.2 hi) (eb_lat hl hg) kk) (fun hl hs => eb_avc (hl _ (eb_get_mem hg)) hs) k
theorem eb_iadd {x y : Int32} (hi : eb_find pc M.2 = some (pc, 1, .iadd, a, b)) (k : eb_Sn d M h0 (pc + 1) ls (.int (x + y) :: st) h Q) : eb_Sn d M h0 pc ls (.int y :: .int x :: st) h Q := eb_go (fun c1 ad lsA hl kk => by exact lv_iadd c1.1 c1.2.1 (eb_de c1.2.2.2.2.2.2 hi) kk) (fun hl hs => eb_avi (eb_av1 (eb_av1 hs))) k
theorem eb_isub {x y : Int32} (hi : eb_find pc M.2 = some (pc, 1, .isub, a, b)) (k : eb_Sn d M h0 (pc + 1) ls (.int (x - y) :: st) h Q) : eb_Sn d M h0 pc ls (.int y :: .int x :: st) h Q := eb_go (fun c1 ad lsA hl kk => by exact lv_isub c1.1 c1.2.1 (eb_de c1.2.2.2.2.2.2 hi) kk) (fun hl hs => eb_avi (eb_av1 (eb_av1 hs))) k
theorem eb_imul {x y : Int32} (hi : eb_find pc M.2 = some (pc, 1, .imul, a, b)) (k : eb_Sn d M h0 (pc + 1) ls (.int (x * y) :: st) h Q) : eb_Sn d M h0 pc ls (.int y :: .int x :: st) h Q := eb_go (fun c1 ad lsA hl kk => by exact lv_imul c1.1 c1.2.1 (eb_de c1.2.2.2.2.2.2 hi) kk) (fun hl hs => eb_avi (eb_av1 (eb_av1 hs))) k
theorem eb_iand {x y : Int32} (hi : eb_find pc M.2 = some (pc, 1, .iand, a, b)) (k : eb_Sn d M h0 (pc + 1) ls (.int (x &&& y) :: st) h Q) : eb_Sn d M h0 pc ls (.int y :: .int x :: st) h Q := eb_go (fun c1 ad lsA hl kk => by exact lv_iand c1.1 c1.2.1 (eb_de c1.2.2.2.2.2.2 hi) kk) (fun hl hs => eb_avi (eb_av1 (eb_av1 hs))) k
theorem eb_ior {x y : Int32} (hi : eb_find pc M.2 = some (pc, 1, .ior, a, b)) (k : eb_Sn d M h0 (pc + 1) ls (.int (x ||| y) :: st) h Q) : eb_Sn d M h0 pc ls (.int y :: .int x :: st) h Q := eb_go (fun c1 ad lsA hl kk => by exact lv_ior c1.1 c1.2.1 (eb_de c1.2.2.2.2.2.2 hi) kk) (fun hl hs => eb_avi (eb_av1 (eb_av1 hs))) k
theorem eb_ixor {x y : Int32} (hi : eb_find pc M.2 = some (pc, 1, .ixor, a, b)) (k : eb_Sn d M h0 (pc + 1) ls (.int (x ^^^ y) :: st) h Q) : eb_Sn d M h0 pc ls (.int y :: .int x :: st) h Q := eb_go (fun c1 ad lsA hl kk => by exact lv_ixor c1.1 c1.2.1 (eb_de c1.2.2.2.2.2.2 hi) kk) (fun hl hs => eb_avi (eb_av1 (eb_av1 hs))) k
theorem eb_ishl {x y : Int32} (hi : eb_find pc M.2 = some (pc, 1, .ishl, a, b)) (k : eb_Sn d M h0 (pc + 1) ls (.int (x <<< (y &&& 31)) :: st) h Q) : eb_Sn d M h0 pc ls (.int y :: .int x :: st) h Q := eb_go (fun c1 ad lsA hl kk => by exact lv_ishl c1.1 c1.2.1 (eb_de c1.2.2.2.2.2.2 hi) kk) (fun hl hs => eb_avi (eb_av1 (eb_av1 hs))) k
theorem eb_ishr {x y : Int32} (hi : eb_find pc M.2 = some (pc, 1, .ishr, a, b)) (k : eb_Sn d M h0 (pc + 1) ls (.int (x >>> (y &&& 31)) :: st) h Q) : eb_Sn d M h0 pc ls (.int y :: .int x :: st) h Q := eb_go (fun c1 ad lsA hl kk => by exact lv_ishr c1.1 c1.2.1 (eb_de c1.2.2.2.2.2.2 hi) kk) (fun hl hs => eb_avi (eb_av1 (eb_av1 hs))) k
theorem eb_idiv {x y : Int32} (hne : ¬ y = 0) (hi : eb_find pc M.2 = some (pc, 1, .idiv, a, b)) (k : eb_Sn d M h0 (pc + 1) ls (.int (x / y) :: st) h Q) : eb_Sn d M h0 pc ls (.int y :: .int x :: st) h Q := eb_go (fun c1 ad lsA hl kk => by exact lv_idiv c1.1 c1.2.1 (eb_de c1.2.2.2.2.2.2 hi) hne kk) (fun hl hs => eb_avi (eb_av1 (eb_av1 hs))) k
theorem eb_irem {x y : Int32} (hne : ¬ y = 0) (hi : eb_find pc M.2 = some (pc, 1, .irem, a, b)) (k : eb_Sn d M h0 (pc + 1) ls (.int (x - x / y * y) :: st) h Q) : eb_Sn d M h0 pc ls (.int y :: .int x :: st) h Q := eb_go (fun c1 ad lsA hl kk => by exact lv_irem c1.1 c1.2.1 (eb_de c1.2.2.2.2.2.2 hi) hne kk) (fun hl hs => eb_avi (eb_av1 (eb_av1 hs))) k
theorem eb_iushr {x y : Int32} (hi : eb_find pc M.2 = some (pc, 1, .iushr, a, b)) (k : eb_Sn d M h0 (pc + 1) ls (.int ((x.toUInt32 >>> (y.toUInt32 &&& Int32.toUInt32 31)).toInt32) :: st) h Q) : eb_Sn d M h0 pc ls (.int y :: .int x :: st) h Q := eb_go (fun c1 ad lsA hl kk => by exact lv_iushr c1.1 c1.2.1 (eb_de c1.2.2.2.2.2.2 hi) rfl kk) (fun hl hs => eb_avi (eb_av1 (eb_av1 hs))) k
theorem eb_ladd {x y : Int64} (hi : eb_find pc M.2 = some (pc, 1, .ladd, a, b)) (k : eb_Sn d M h0 (pc + 1) ls (.long (x + y) :: st) h Q) : eb_Sn d M h0 pc ls (.long y :: .long x :: st) h Q := eb_go (fun c1 ad lsA hl kk => by exact lv_ladd c1.1 c1.2.1 (eb_de c1.2.2.2.2.2.2 hi) kk) (fun hl hs => eb_avl (eb_av1 (eb_av1 hs))) k
theorem eb_lsub {x y : Int64} (hi : eb_find pc M.2 = some (pc, 1, .lsub, a, b)) (k : eb_Sn d M h0 (pc + 1) ls (.long (x - y) :: st) h Q) : eb_Sn d M h0 pc ls (.long y :: .long x :: st) h Q := eb_go (fun c1 ad lsA hl kk => by exact lv_lsub c1.1 c1.2.1 (eb_de c1.2.2.2.2.2.2 hi) kk) (fun hl hs => eb_avl (eb_av1 (eb_av1 hs))) k
theorem eb_lmul {x y : Int64} (hi : eb_find pc M.2 = some (pc, 1, .lmul, a, b)) (k : eb_Sn d M h0 (pc + 1) ls (.long (x * y) :: st) h Q) : eb_Sn d M h0 pc ls (.long y :: .long x :: st) h Q := eb_go (fun c1 ad lsA hl kk => by exact lv_lmul c1.1 c1.2.1 (eb_de c1.2.2.2.2.2.2 hi) kk) (fun hl hs => eb_avl (eb_av1 (eb_av1 hs))) k
theorem eb_land {x y : Int64} (hi : eb_find pc M.2 = some (pc, 1, .land, a, b)) (k : eb_Sn d M h0 (pc + 1) ls (.long (x &&& y) :: st) h Q) : eb_Sn d M h0 pc ls (.long y :: .long x :: st) h Q := eb_go (fun c1 ad lsA hl kk => by exact lv_land c1.1 c1.2.1 (eb_de c1.2.2.2.2.2.2 hi) kk) (fun hl hs => eb_avl (eb_av1 (eb_av1 hs))) k
theorem eb_lor {x y : Int64} (hi : eb_find pc M.2 = some (pc, 1, .lor, a, b)) (k : eb_Sn d M h0 (pc + 1) ls (.long (x ||| y) :: st) h Q) : eb_Sn d M h0 pc ls (.long y :: .long x :: st) h Q := eb_go (fun c1 ad lsA hl kk => by exact lv_lor c1.1 c1.2.1 (eb_de c1.2.2.2.2.2.2 hi) kk) (fun hl hs => eb_avl (eb_av1 (eb_av1 hs))) k
theorem eb_lxor {x y : Int64} (hi : eb_find pc M.2 = some (pc, 1, .lxor, a, b)) (k : eb_Sn d M h0 (pc + 1) ls (.long (x ^^^ y) :: st) h Q) : eb_Sn d M h0 pc ls (.long y :: .long x :: st) h Q := eb_go (fun c1 ad lsA hl kk => by exact lv_lxor c1.1 c1.2.1 (eb_de c1.2.2.2.2.2.2 hi) kk) (fun hl hs => eb_avl (eb_av1 (eb_av1 hs))) k
theorem eb_ldiv {x y : Int64} (hne : ¬ y = 0) (hi : eb_find pc M.2 = some (pc, 1, .ldiv, a, b)) (k : eb_Sn d M h0 (pc + 1) ls (.long (x / y) :: st) h Q) : eb_Sn d M h0 pc ls (.long y :: .long x :: st) h Q := eb_go (fun c1 ad lsA hl kk => by exact lv_ldiv c1.1 c1.2.1 (eb_de c1.2.2.2.2.2.2 hi) hne kk) (fun hl hs => eb_avl (eb_av1 (eb_av1 hs))) k
theorem eb_lrem {x y : Int64} (hne : ¬ y = 0) (hi : eb_find pc M.2 = some (pc, 1, .lrem, a, b)) (k : eb_Sn d M h0 (pc + 1) ls (.long (x - x / y * y) :: st) h Q) : eb_Sn d M h0 pc ls (.long y :: .long x :: st) h Q := eb_go (fun c1 ad lsA hl kk => by exact lv_lrem c1.1 c1.2.1 (eb_de c1.2.2.2.2.2.2 hi) hne kk) (fun hl hs => eb_avl (eb_av1 (eb_av1 hs))) k
theorem eb_lushr {x : Int64} {y : Int32} (hi : eb_find pc M.2 = some (pc, 1, .lushr, a, b)) (k : eb_Sn d M h0 (pc + 1) ls (.long ((x.toUInt64 >>> (y.toInt64.toUInt64 &&& Int64.toUInt64 63)).toInt64) :: st) h Q) : eb_Sn d M h0 pc ls (.int y :: .long x :: st) h Q := eb_go (fun c1 ad lsA hl kk => by exact lv_lushr c1.1 c1.2.1 (eb_de c1.2.2.2.2.2.2 hi) rfl kk) (fun hl hs => eb_avl (eb_av1 (eb_av1 hs))) k
theorem eb_lshl {x : Int64} {y : Int32} (hi : eb_find pc M.2 = some (pc, 1, .lshl, a, b)) (k : eb_Sn d M h0 (pc + 1) ls (.long (x <<< (y.toInt64 &&& 63)) :: st) h Q) : eb_Sn d M h0 pc ls (.int y :: .long x :: st) h Q := eb_go (fun c1 ad lsA hl kk => by exact lv_lshl c1.1 c1.2.1 (eb_de c1.2.2.2.2.2.2 hi) rfl kk) (fun hl hs => eb_avl (eb_av1 (eb_av1 hs))) k
theorem eb_lshr {x : Int64} {y : Int32} (hi : eb_find pc M.2 = some (pc, 1, .lshr, a, b)) (k : eb_Sn d M h0 (pc + 1) ls (.long (x >>> (y.toInt64 &&& 63)) :: st) h Q) : eb_Sn d M h0 pc ls (.int y :: .long x :: st) h Q := eb_go (fun c1 ad lsA hl kk => by exact lv_lshr c1.1 c1.2.1 (eb_de c1.2.2.2.2.2.2 hi) rfl kk) (fun hl hs => eb_avl (eb_av1 (eb_av1 hs))) k
theorem eb_lcmp {x y : Int64} (hi : eb_find pc M.2 = some (pc, 1, .lcmp, a, b)) (k : eb_Sn d M h0 (pc + 1) ls (.int (lg_cmp x y) :: st) h Q) : eb_Sn d M h0 pc ls (.long y :: .long x :: st) h Q := eb_go (fun c1 ad lsA hl kk => by exact W.lcmp c1.1 c1.2.1 (eb_de c1.2.2.2.2.2.2 hi) kk) (fun hl hs => eb_avi (eb_av1 (eb_av1 hs))) k
theorem eb_ineg {x : Int32} (hi : eb_find pc M.2 = some (pc, 1, .ineg, a, b)) (k : eb_Sn d M h0 (pc + 1) ls (.int (-x) :: st) h Q) : eb_Sn d M h0 pc ls (.int x :: st) h Q := eb_go (fun c1 ad lsA hl kk => by exact lv_ineg c1.1 c1.2.1 (eb_de c1.2.2.2.2.2.2 hi) kk) (fun hl hs => eb_avi (eb_av1 hs)) k
theorem eb_i2l {x : Int32} (hi : eb_find pc M.2 = some (pc, 1, .i2l, a, b)) (k : eb_Sn d M h0 (pc + 1) ls (.long x.toInt64 :: st) h Q) : eb_Sn d M h0 pc ls (.int x :: st) h Q := eb_go (fun c1 ad lsA hl kk => by exact lv_i2l c1.1 c1.2.1 (eb_de c1.2.2.2.2.2.2 hi) rfl kk) (fun hl hs => eb_avl (eb_av1 hs)) k
theorem eb_l2i {x : Int64} (hi : eb_find pc M.2 = some (pc, 1, .l2i, a, b)) (k : eb_Sn d M h0 (pc + 1) ls (.int x.toInt32 :: st) h Q) : eb_Sn d M h0 pc ls (.long x :: st) h Q := eb_go (fun c1 ad lsA hl kk => by exact lv_l2i c1.1 c1.2.1 (eb_de c1.2.2.2.2.2.2 hi) rfl kk) (fun hl hs => eb_avi (eb_av1 hs)) k
theorem eb_i2b {x : Int32} (hi : eb_find pc M.2 = some (pc, 1, .i2b, a, b)) (k : eb_Sn d M h0 (pc + 1) ls (.int x.toInt8.toInt32 :: st) h Q) : eb_Sn d M h0 pc ls (.int x :: st) h Q := eb_go (fun c1 ad lsA hl kk => by exact lv_i2b c1.1 c1.2.1 (eb_de c1.2.2.2.2.2.2 hi) rfl kk) (fun hl hs => eb_avi (eb_av1 hs)) k
theorem eb_i2s {x : Int32} (hi : eb_find pc M.2 = some (pc, 1, .i2s, a, b)) (k : eb_Sn d M h0 (pc + 1) ls (.int x.toInt16.toInt32 :: st) h Q) : eb_Sn d M h0 pc ls (.int x :: st) h Q := eb_go (fun c1 ad lsA hl kk => by exact lv_i2s c1.1 c1.2.1 (eb_de c1.2.2.2.2.2.2 hi) rfl kk) (fun hl hs => eb_avi (eb_av1 hs)) k
theorem eb_i2c {x : Int32} (hi : eb_find pc M.2 = some (pc, 1, .i2c, a, b)) (k : eb_Sn d M h0 (pc + 1) ls (.int (x.toUInt32 % 65536).toInt32 :: st) h Q) : eb_Sn d M h0 pc ls (.int x :: st) h Q := eb_go (fun c1 ad lsA hl kk => by exact lv_i2c c1.1 c1.2.1 (eb_de c1.2.2.2.2.2.2 hi) rfl kk) (fun hl hs => eb_avi (eb_av1 hs)) k
theorem eb_dupi {x : Int32} (hi : eb_find pc M.2 = some (pc, 1, .dup, a, b)) (k : eb_Sn d M h0 (pc + 1) ls (.int x :: .int x :: st) h Q) : eb_Sn d M h0 pc ls (.int x :: st) h Q := eb_go (fun c1 ad lsA hl kk => by exact lv_dup c1.1 c1.2.1 (eb_de c1.2.2.2.2.2.2 hi) rfl kk) (fun hl hs => eb_avi hs) k
theorem eb_dupr {x : Nat} (hi : eb_find pc M.2 = some (pc, 1, .dup, a, b)) (k : eb_Sn d M h0 (pc + 1) ls (.ref x :: .ref x :: st) h Q) : eb_Sn d M h0 pc ls (.ref x :: st) h Q := eb_go (fun c1 ad lsA hl kk => by exact lv_dup c1.1 c1.2.1 (eb_de c1.2.2.2.2.2.2 hi) rfl kk) (fun hl hs => eb_avc (eb_avh hs) hs) k
theorem eb_dup2 {x : Int32} {i : Nat} (hi : eb_find pc M.2 = some (pc, 1, .dup2, a, b)) (k : eb_Sn d M h0 (pc + 1) ls (.int x :: .ref i :: .int x :: .ref i :: st) h Q) : eb_Sn d M h0 pc ls (.int x :: .ref i :: st) h Q := eb_go (fun c1 ad lsA hl kk => by exact lv_dup2_11 c1.1 c1.2.1 (eb_de c1.2.2.2.2.2.2 hi) rfl rfl kk) (fun hl hs => eb_avi (eb_avc (eb_avh (eb_av1 hs)) hs)) k
theorem eb_popi {x : Int32} (hi : eb_find pc M.2 = some (pc, 1, .pop, a, b)) (k : eb_Sn d M h0 (pc + 1) ls (st) h Q) : eb_Sn d M h0 pc ls (.int x :: st) h Q := eb_go (fun c1 ad lsA hl kk => by exact lv_pop c1.1 c1.2.1 (eb_de c1.2.2.2.2.2.2 hi) rfl kk) (fun hl hs => eb_av1 hs) k
theorem eb_goto {off : Int} {tgt : Nat} (hi : eb_find pc M.2 = some (pc, 3, .goto off, a, b)) (ht : (pc : Int) + off = (tgt : Int)) (k : eb_Sn d M h0 tgt ls st h Q) : eb_Sn d M h0 pc ls st h Q := eb_go (fun c1 ad lsA hl kk => by exact lv_goto c1.1 c1.2.1 (eb_de c1.2.2.2.2.2.2 hi) ht kk) (fun _ hs => hs) k
theorem eb_if_eq {x : Int32} {off : Int} {tgt : Nat} (hi : eb_find pc M.2 = some (pc, 3, .ifCond .eq off, a, b)) (ht : (pc : Int) + off = (tgt : Int)) (kt : x = 0 → eb_Sn d M h0 tgt ls st h Q) (kf : ¬ x = 0 → eb_Sn d M h0 (pc + 3) ls st h Q) : eb_Sn d M h0 pc ls (.int x :: st) h Q := eb_br (c := x = 0) (fun hc => fun c1 ad lsA hl kk => by exact lv_if_eq c1.1 c1.2.1 (eb_de c1.2.2.2.2.2.2 hi) ht (fun _ => kk) (fun q => absurd hc q)) (fun hc => fun c1 ad lsA hl kk => by exact lv_if_eq c1.1 c1.2.1 (eb_de c1.2.2.2.2.2.2 hi) ht (fun q => absurd q hc) (fun _ => kk)) (fun hs => eb_av1 hs) kt kf
theorem eb_icmp_eq {x y : Int32} {off : Int} {tgt : Nat} (hi : eb_find pc M.2 = some (pc, 3, .if_icmp .eq off, a, b)) (ht : (pc : Int) + off = (tgt : Int)) (kt : x = y → eb_Sn d M h0 tgt ls st h Q) (kf : ¬ x = y → eb_Sn d M h0 (pc + 3) ls st h Q) : eb_Sn d M h0 pc ls (.int y :: .int x :: st) h Q := eb_br (c := x = y) (fun hc => fun c1 ad lsA hl kk => by exact lv_icmp_eq c1.1 c1.2.1 (eb_de c1.2.2.2.2.2.2 hi) ht (fun _ => kk) (fun q => absurd hc q)) (fun hc => fun c1 ad lsA hl kk => by exact lv_icmp_eq c1.1 c1.2.1 (eb_de c1.2.2.2.2.2.2 hi) ht (fun q => absurd q hc) (fun _ => kk)) (fun hs => eb_av1 (eb_av1 hs)) kt kf
theorem eb_if_ne {x : Int32} {off : Int} {tgt : Nat} (hi : eb_find pc M.2 = some (pc, 3, .ifCond .ne off, a, b)) (ht : (pc : Int) + off = (tgt : Int)) (kt : ¬ x = 0 → eb_Sn d M h0 tgt ls st h Q) (kf : x = 0 → eb_Sn d M h0 (pc + 3) ls st h Q) : eb_Sn d M h0 pc ls (.int x :: st) h Q := eb_br (c := ¬ x = 0) (fun hc => fun c1 ad lsA hl kk => by exact lv_if_ne c1.1 c1.2.1 (eb_de c1.2.2.2.2.2.2 hi) ht (fun _ => kk) (fun q => absurd q hc)) (fun hc => fun c1 ad lsA hl kk => by exact lv_if_ne c1.1 c1.2.1 (eb_de c1.2.2.2.2.2.2 hi) ht (fun q => absurd q hc) (fun _ => kk)) (fun hs => eb_av1 hs) kt (fun hc => kf (Classical.byContradiction hc))
theorem eb_icmp_ne {x y : Int32} {off : Int} {tgt : Nat} (hi : eb_find pc M.2 = some (pc, 3, .if_icmp .ne off, a, b)) (ht : (pc : Int) + off = (tgt : Int)) (kt : ¬ x = y → eb_Sn d M h0 tgt ls st h Q) (kf : x = y → eb_Sn d M h0 (pc + 3) ls st h Q) : eb_Sn d M h0 pc ls (.int y :: .int x :: st) h Q := eb_br (c := ¬ x = y) (fun hc => fun c1 ad lsA hl kk => by exact lv_icmp_ne c1.1 c1.2.1 (eb_de c1.2.2.2.2.2.2 hi) ht (fun _ => kk) (fun q => absurd q hc)) (fun hc => fun c1 ad lsA hl kk => by exact lv_icmp_ne c1.1 c1.2.1 (eb_de c1.2.2.2.2.2.2 hi) ht (fun q => absurd q hc) (fun _ => kk)) (fun hs => eb_av1 (eb_av1 hs)) kt (fun hc => kf (Classical.byContradiction hc))
theorem eb_if_lt {x : Int32} {off : Int} {tgt : Nat} (hi : eb_find pc M.2 = some (pc, 3, .ifCond .lt off, a, b)) (ht : (pc : Int) + off = (tgt : Int)) (kt : x < 0 → eb_Sn d M h0 tgt ls st h Q) (kf : ¬ x < 0 → eb_Sn d M h0 (pc + 3) ls st h Q) : eb_Sn d M h0 pc ls (.int x :: st) h Q := eb_br (c := x < 0) (fun hc => fun c1 ad lsA hl kk => by exact lv_if_lt c1.1 c1.2.1 (eb_de c1.2.2.2.2.2.2 hi) ht (fun _ => kk) (fun q => absurd hc q)) (fun hc => fun c1 ad lsA hl kk => by exact lv_if_lt c1.1 c1.2.1 (eb_de c1.2.2.2.2.2.2 hi) ht (fun q => absurd q hc) (fun _ => kk)) (fun hs => eb_av1 hs) kt kf
theorem eb_icmp_lt {x y : Int32} {off : Int} {tgt : Nat} (hi : eb_find pc M.2 = some (pc, 3, .if_icmp .lt off, a, b)) (ht : (pc : Int) + off = (tgt : Int)) (kt : x < y → eb_Sn d M h0 tgt ls st h Q) (kf : ¬ x < y → eb_Sn d M h0 (pc + 3) ls st h Q) : eb_Sn d M h0 pc ls (.int y :: .int x :: st) h Q := eb_br (c := x < y) (fun hc => fun c1 ad lsA hl kk => by exact lv_icmp_lt c1.1 c1.2.1 (eb_de c1.2.2.2.2.2.2 hi) ht (fun _ => kk) (fun q => absurd hc q)) (fun hc => fun c1 ad lsA hl kk => by exact lv_icmp_lt c1.1 c1.2.1 (eb_de c1.2.2.2.2.2.2 hi) ht (fun q => absurd q hc) (fun _ => kk)) (fun hs => eb_av1 (eb_av1 hs)) kt kf
theorem eb_if_ge {x : Int32} {off : Int} {tgt : Nat} (hi : eb_find pc M.2 = some (pc, 3, .ifCond .ge off, a, b)) (ht : (pc : Int) + off = (tgt : Int)) (kt : 0 ≤ x → eb_Sn d M h0 tgt ls st h Q) (kf : ¬ 0 ≤ x → eb_Sn d M h0 (pc + 3) ls st h Q) : eb_Sn d M h0 pc ls (.int x :: st) h Q := eb_br (c := 0 ≤ x) (fun hc => fun c1 ad lsA hl kk => by exact lv_if_ge c1.1 c1.2.1 (eb_de c1.2.2.2.2.2.2 hi) ht (fun _ => kk) (fun q => absurd hc q)) (fun hc => fun c1 ad lsA hl kk => by exact lv_if_ge c1.1 c1.2.1 (eb_de c1.2.2.2.2.2.2 hi) ht (fun q => absurd q hc) (fun _ => kk)) (fun hs => eb_av1 hs) kt kf
theorem eb_icmp_ge {x y : Int32} {off : Int} {tgt : Nat} (hi : eb_find pc M.2 = some (pc, 3, .if_icmp .ge off, a, b)) (ht : (pc : Int) + off = (tgt : Int)) (kt : y ≤ x → eb_Sn d M h0 tgt ls st h Q) (kf : ¬ y ≤ x → eb_Sn d M h0 (pc + 3) ls st h Q) : eb_Sn d M h0 pc ls (.int y :: .int x :: st) h Q := eb_br (c := y ≤ x) (fun hc => fun c1 ad lsA hl kk => by exact lv_icmp_ge c1.1 c1.2.1 (eb_de c1.2.2.2.2.2.2 hi) ht (fun _ => kk) (fun q => absurd hc q)) (fun hc => fun c1 ad lsA hl kk => by exact lv_icmp_ge c1.1 c1.2.1 (eb_de c1.2.2.2.2.2.2 hi) ht (fun q => absurd q hc) (fun _ => kk)) (fun hs => eb_av1 (eb_av1 hs)) kt kf
theorem eb_if_gt {x : Int32} {off : Int} {tgt : Nat} (hi : eb_find pc M.2 = some (pc, 3, .ifCond .gt off, a, b)) (ht : (pc : Int) + off = (tgt : Int)) (kt : 0 < x → eb_Sn d M h0 tgt ls st h Q) (kf : ¬ 0 < x → eb_Sn d M h0 (pc + 3) ls st h Q) : eb_Sn d M h0 pc ls (.int x :: st) h Q := eb_br (c := 0 < x) (fun hc => fun c1 ad lsA hl kk => by exact lv_if_gt c1.1 c1.2.1 (eb_de c1.2.2.2.2.2.2 hi) ht (fun _ => kk) (fun q => absurd hc q)) (fun hc => fun c1 ad lsA hl kk => by exact lv_if_gt c1.1 c1.2.1 (eb_de c1.2.2.2.2.2.2 hi) ht (fun q => absurd q hc) (fun _ => kk)) (fun hs => eb_av1 hs) kt kf
theorem eb_icmp_gt {x y : Int32} {off : Int} {tgt : Nat} (hi : eb_find pc M.2 = some (pc, 3, .if_icmp .gt off, a, b)) (ht : (pc : Int) + off = (tgt : Int)) (kt : y < x → eb_Sn d M h0 tgt ls st h Q) (kf : ¬ y < x → eb_Sn d M h0 (pc + 3) ls st h Q) : eb_Sn d M h0 pc ls (.int y :: .int x :: st) h Q := eb_br (c := y < x) (fun hc => fun c1 ad lsA hl kk => by exact lv_icmp_gt c1.1 c1.2.1 (eb_de c1.2.2.2.2.2.2 hi) ht (fun _ => kk) (fun q => absurd hc q)) (fun hc => fun c1 ad lsA hl kk => by exact lv_icmp_gt c1.1 c1.2.1 (eb_de c1.2.2.2.2.2.2 hi) ht (fun q => absurd q hc) (fun _ => kk)) (fun hs => eb_av1 (eb_av1 hs)) kt kf
theorem eb_if_le {x : Int32} {off : Int} {tgt : Nat} (hi : eb_find pc M.2 = some (pc, 3, .ifCond .le off, a, b)) (ht : (pc : Int) + off = (tgt : Int)) (kt : x ≤ 0 → eb_Sn d M h0 tgt ls st h Q) (kf : ¬ x ≤ 0 → eb_Sn d M h0 (pc + 3) ls st h Q) : eb_Sn d M h0 pc ls (.int x :: st) h Q := eb_br (c := x ≤ 0) (fun hc => fun c1 ad lsA hl kk => by exact lv_if_le c1.1 c1.2.1 (eb_de c1.2.2.2.2.2.2 hi) ht (fun _ => kk) (fun q => absurd hc q)) (fun hc => fun c1 ad lsA hl kk => by exact lv_if_le c1.1 c1.2.1 (eb_de c1.2.2.2.2.2.2 hi) ht (fun q => absurd q hc) (fun _ => kk)) (fun hs => eb_av1 hs) kt kf
theorem eb_icmp_le {x y : Int32} {off : Int} {tgt : Nat} (hi : eb_find pc M.2 = some (pc, 3, .if_icmp .le off, a, b)) (ht : (pc : Int) + off = (tgt : Int)) (kt : x ≤ y → eb_Sn d M h0 tgt ls st h Q) (kf : ¬ x ≤ y → eb_Sn d M h0 (pc + 3) ls st h Q) : eb_Sn d M h0 pc ls (.int y :: .int x :: st) h Q := eb_br (c := x ≤ y) (fun hc => fun c1 ad lsA hl kk => by exact lv_icmp_le c1.1 c1.2.1 (eb_de c1.2.2.2.2.2.2 hi) ht (fun _ => kk) (fun q => absurd hc q)) (fun hc => fun c1 ad lsA hl kk => by exact lv_icmp_le c1.1 c1.2.1 (eb_de c1.2.2.2.2.2.2 hi) ht (fun q => absurd q hc) (fun _ => kk)) (fun hs => eb_av1 (eb_av1 hs)) kt kf
theorem eb_ifnull_r {x : Nat} {off : Int} (hi : eb_find pc M.2 = some (pc, 3, .ifnull off, a, b)) (k : eb_Sn d M h0 (pc + 3) ls (st) h Q) : eb_Sn d M h0 pc ls (.ref x :: st) h Q := eb_go (fun c1 ad lsA hl kk => by exact lv_ifnull c1.1 c1.2.1 (eb_de c1.2.2.2.2.2.2 hi) kk) (fun hl hs => eb_av1 hs) k
theorem eb_ifnonnull_n {off : Int} (hi : eb_find pc M.2 = some (pc, 3, .ifnonnull off, a, b)) (k : eb_Sn d M h0 (pc + 3) ls (st) h Q) : eb_Sn d M h0 pc ls (.null :: st) h Q := eb_go (fun c1 ad lsA hl kk => by exact lv_ifnonnullN c1.1 c1.2.1 (eb_de c1.2.2.2.2.2.2 hi) kk) (fun hl hs => eb_av1 hs) k
theorem eb_ifnull_n {off : Int} {tgt : Nat} (ht : (pc : Int) + off = (tgt : Int)) (hi : eb_find pc M.2 = some (pc, 3, .ifnull off, a, b)) (k : eb_Sn d M h0 tgt ls (st) h Q) : eb_Sn d M h0 pc ls (.null :: st) h Q := eb_go (fun c1 ad lsA hl kk => by exact lv_ifnullN c1.1 c1.2.1 (eb_de c1.2.2.2.2.2.2 hi) ht kk) (fun hl hs => eb_av1 hs) k
theorem eb_ifnonnull_r {x : Nat} {off : Int} {tgt : Nat} (ht : (pc : Int) + off = (tgt : Int)) (hi : eb_find pc M.2 = some (pc, 3, .ifnonnull off, a, b)) (k : eb_Sn d M h0 tgt ls (st) h Q) : eb_Sn d M h0 pc ls (.ref x :: st) h Q := eb_go (fun c1 ad lsA hl kk => by exact lv_ifnonnull c1.1 c1.2.1 (eb_de c1.2.2.2.2.2.2 hi) ht kk) (fun hl hs => eb_av1 hs) k
theorem eb_tableIn {dflt lo hh off : Int} {offs : Array Int} {len j tgt : Nat} {x : Int32} (h1 : x.toInt = lo + j) (h2 : lo + j ≤ hh) (ho : offs[j]? = some off) (ht : (pc : Int) + off = (tgt : Int)) (hi : eb_find pc M.2 = some (pc, len, .tableswitch dflt lo hh offs, a, b)) (k : eb_Sn d M h0 tgt ls (st) h Q) : eb_Sn d M h0 pc ls (.int x :: st) h Q := eb_go (fun c1 ad lsA hl kk => by exact lv_tableIn c1.1 c1.2.1 (eb_de c1.2.2.2.2.2.2 hi) (by omega) (by omega) (by rw [h1, show (lo + (j : Int) - lo).toNat = j by omega]; exact ho) ht kk) (fun hl hs => eb_av1 hs) k
theorem eb_tableOut {dflt lo hh : Int} {offs : Array Int} {len tgt : Nat} {x : Int32} (h1 : x.toInt < lo ∨ hh < x.toInt) (ht : (pc : Int) + dflt = (tgt : Int)) (hi : eb_find pc M.2 = some (pc, len, .tableswitch dflt lo hh offs, a, b)) (k : eb_Sn d M h0 tgt ls (st) h Q) : eb_Sn d M h0 pc ls (.int x :: st) h Q := eb_go (fun c1 ad lsA hl kk => by exact lv_tableOut c1.1 c1.2.1 (eb_de c1.2.2.2.2.2.2 hi) h1 ht kk) (fun hl hs => eb_av1 hs) k
theorem eb_lookup {dflt off : Int} {ps : Array (Int × Int)} {len tgt : Nat} {x : Int32} (hp : (ps.toList.zip (ps.toList.drop 1)).all (fun (a, next) => a.1 < next.1) = true) (ho : Op.lookupswitch.offset ps.toList dflt x.toInt = off) (ht : (pc : Int) + off = (tgt : Int)) (hi : eb_find pc M.2 = some (pc, len, .lookupswitch dflt ps, a, b)) (k : eb_Sn d M h0 tgt ls (st) h Q) : eb_Sn d M h0 pc ls (.int x :: st) h Q := eb_go (fun c1 ad lsA hl kk => by exact lv_lookup c1.1 c1.2.1 (eb_de c1.2.2.2.2.2.2 hi) hp ho ht kk) (fun hl hs => eb_av1 hs) k
/-! locals -/
def eb_p1 (ls : List (Nat × Value)) (i : Nat) (v : Value) : List (Nat × Value) := (i, v) :: ls.filter (fun q => !(q.1 == i) && !(q.1 + 1 == i && q.2.category == 2))
def eb_p2 (ls : List (Nat × Value)) (i : Nat) (v : Value) : List (Nat × Value) := (i, v) :: ls.filter (fun q => !(q.1 == i) && (!(q.1 == i + 1) && !(q.1 + 1 == i && q.2.category == 2)))
theorem eb_cat (ad : Nat → Nat) (v : Value) : (eb_cv ad v).category = v.category := by cases v <;> rfl
theorem eb_p1_map (ad : Nat → Nat) (ls : List (Nat × Value)) (i : Nat) (v : Value) : (i, eb_cv ad v) :: (ls.map (eb_cq ad)).filter (fun q => !(q.1 == i) && !(q.1 + 1 == i && q.2.category == 2)) = (eb_p1 ls i v).map (eb_cq ad) := by
  unfold eb_p1
  rw [List.map_cons, List.filter_map]
  congr 3
  funext q
  simp only [Function.comp, eb_cq, eb_cat]
theorem eb_p2_map (ad : Nat → Nat) (ls : List (Nat × Value)) (i : Nat) (v : Value) : (i, eb_cv ad v) :: (ls.map (eb_cq ad)).filter (fun q => !(q.1 == i) && (!(q.1 == i + 1) && !(q.1 + 1 == i && q.2.category == 2))) = (eb_p2 ls i v).map (eb_cq ad) := by
  unfold eb_p2
  rw [List.map_cons, List.filter_map]
  congr 3
  funext q
  simp only [Function.comp, eb_cq, eb_cat]
theorem eb_p1_av {h : eb_H} {ls : List (Nat × Value)} {i : Nat} {v : Value} (hv : eb_av h v) (k : ∀ q ∈ ls, eb_av h q.2) : ∀ q ∈ eb_p1 ls i v, eb_av h q.2 := by
  intro q hq
  rcases List.mem_cons.mp hq with rfl | hq
  · exact hv
  · exact k q (List.mem_filter.mp hq).1
theorem eb_p2_av {h : eb_H} {ls : List (Nat × Value)} {i : Nat} {v : Value} (hv : eb_av h v) (k : ∀ q ∈ ls, eb_av h q.2) : ∀ q ∈ eb_p2 ls i v, eb_av h q.2 := by
  intro q hq
  rcases List.mem_cons.mp hq with rfl | hq
  · exact hv
  · exact k q (List.mem_filter.mp hq).1
theorem eb_gl {pc2 : Nat} {ls2 : List (Nat × Value)} {st2 : List Value} (w : ∀ {l : Launch} {p : Program} {e : Env} {R : Room} {s : State} {m : MethodId} {args : Array Value} {below : List Frame} {meth : Method} {c : Code} {H : Heap} {locs : List Loc} {cells slots : Nat} {QF : State → Prop},
  eb_C1 M p s m args meth c → ∀ (ad : Nat → Nat) (lsA : Array Slot), lv_has lsA (eb_ml M.1) (ls.map (eb_cq ad)) → (∀ lsA' : Array Slot, lv_has lsA' (eb_ml M.1) (ls2.map (eb_cq ad)) → W p l e R s m args below meth c H locs cells slots QF (F0 m pc2 lsA' (st2.map (eb_cv ad)))) → W p l e R s m args below meth c H locs cells slots QF (F0 m pc lsA (st.map (eb_cv ad))))
  (ha : (∀ q ∈ ls, eb_av h q.2) → eb_avs h st → (∀ q ∈ ls2, eb_av h q.2) ∧ eb_avs h st2) (k : eb_Sn d M h0 pc2 ls2 st2 h Q) : eb_Sn d M h0 pc ls st h Q := by
  refine k.lift fun r h' a => ⟨a.1, ?_⟩
  intro l D cy A p e R s m args below meth c ad0 QF c1 c2 c3 ex ad H locs lsA dy
  have hh := ha dy.1.2.1 dy.1.2.2
  exact w c1 ad lsA dy.2.2.2 fun lsA' hl' => a.2 l D cy A p e R s m args below meth c ad0 QF c1 c2 c3 ex ad H locs lsA' ⟨⟨dy.1.1, hh.1, hh.2⟩, dy.2.1, dy.2.2.1, hl'⟩
theorem eb_sub {ls2 : List (Nat × Value)} (hs : ∀ q ∈ ls2, q ∈ ls) (k : eb_Sn d M h0 pc ls2 st h Q) : eb_Sn d M h0 pc ls st h Q :=
  eb_gl (fun _ ad lsA hl kk => kk lsA ⟨hl.1, hl.2.1, fun q hq => by
    obtain ⟨x, hx, rfl⟩ := List.mem_map.mp hq
    exact hl.2.2 _ (List.mem_map.mpr ⟨x, hs x hx, rfl⟩)⟩) (fun hl hst => ⟨fun q hq => hl q (hs q hq), hst⟩) k
theorem eb_pick {ls2 : List (Nat × Value)} (ks : List Nat) (hs : ks.filterMap (fun k => ls[k]?) = ls2) (k : eb_Sn d M h0 pc ls2 st h Q) : eb_Sn d M h0 pc ls st h Q :=
  eb_sub (fun q hq => by
    rw [← hs] at hq
    obtain ⟨j, -, hj⟩ := List.mem_filterMap.mp hq
    exact List.mem_of_getElem? hj) k
theorem eb_istore_n {n : Fin 4} {i : Nat} {x : Int32} (hn : (n : Nat) = i) {ls2 : List (Nat × Value)} (hm : i < eb_ml M.1) (hi : eb_find pc M.2 = some (pc, 1, .istore_n n, a, b)) (hl2 : eb_p1 ls i (.int x) = ls2) (k : eb_Sn d M h0 (pc + 1) ls2 st h Q) : eb_Sn d M h0 pc ls (.int x :: st) h Q := by
  subst hl2
  exact eb_gl (fun c1 ad lsA hl kk => by exact lv_istore_n c1.1 c1.2.1 (eb_de c1.2.2.2.2.2.2 hi) hn hl hm (eb_p1_map ad ls i (.int x)) kk) (fun hl hs => ⟨eb_p1_av (eb_vi (x := x)) hl, eb_av1 hs⟩) k
theorem eb_istore {i : Nat} {x : Int32} {ls2 : List (Nat × Value)} (hm : i < eb_ml M.1) (hi : eb_find pc M.2 = some (pc, 2, .istore i, a, b)) (hl2 : eb_p1 ls i (.int x) = ls2) (k : eb_Sn d M h0 (pc + 2) ls2 st h Q) : eb_Sn d M h0 pc ls (.int x :: st) h Q := by
  subst hl2
  exact eb_gl (fun c1 ad lsA hl kk => by exact lv_istore c1.1 c1.2.1 (eb_de c1.2.2.2.2.2.2 hi)  hl hm (eb_p1_map ad ls i (.int x)) kk) (fun hl hs => ⟨eb_p1_av (eb_vi (x := x)) hl, eb_av1 hs⟩) k
theorem eb_lstore_n {n : Fin 4} {i : Nat} {x : Int64} (hn : (n : Nat) = i) {ls2 : List (Nat × Value)} (hm : i + 1 < eb_ml M.1) (hi : eb_find pc M.2 = some (pc, 1, .lstore_n n, a, b)) (hl2 : eb_p2 ls i (.long x) = ls2) (k : eb_Sn d M h0 (pc + 1) ls2 st h Q) : eb_Sn d M h0 pc ls (.long x :: st) h Q := by
  subst hl2
  exact eb_gl (fun c1 ad lsA hl kk => by exact lv_lstore_n c1.1 c1.2.1 (eb_de c1.2.2.2.2.2.2 hi) hn hl hm (eb_p2_map ad ls i (.long x)) kk) (fun hl hs => ⟨eb_p2_av (eb_vl (x := x)) hl, eb_av1 hs⟩) k
theorem eb_lstore {i : Nat} {x : Int64} {ls2 : List (Nat × Value)} (hm : i + 1 < eb_ml M.1) (hi : eb_find pc M.2 = some (pc, 2, .lstore i, a, b)) (hl2 : eb_p2 ls i (.long x) = ls2) (k : eb_Sn d M h0 (pc + 2) ls2 st h Q) : eb_Sn d M h0 pc ls (.long x :: st) h Q := by
  subst hl2
  exact eb_gl (fun c1 ad lsA hl kk => by exact lv_lstore c1.1 c1.2.1 (eb_de c1.2.2.2.2.2.2 hi)  hl hm (eb_p2_map ad ls i (.long x)) kk) (fun hl hs => ⟨eb_p2_av (eb_vl (x := x)) hl, eb_av1 hs⟩) k
theorem eb_astore_n {n : Fin 4} {i : Nat} {x : Nat} (hn : (n : Nat) = i) {ls2 : List (Nat × Value)} (hm : i < eb_ml M.1) (hi : eb_find pc M.2 = some (pc, 1, .astore_n n, a, b)) (hl2 : eb_p1 ls i (.ref x) = ls2) (k : eb_Sn d M h0 (pc + 1) ls2 st h Q) : eb_Sn d M h0 pc ls (.ref x :: st) h Q := by
  subst hl2
  exact eb_gl (fun c1 ad lsA hl kk => by exact lv_astore_n c1.1 c1.2.1 (eb_de c1.2.2.2.2.2.2 hi) hn hl hm (eb_p1_map ad ls i (.ref x)) kk) (fun hl hs => ⟨eb_p1_av (eb_avh hs) hl, eb_av1 hs⟩) k
theorem eb_astore {i : Nat} {x : Nat} {ls2 : List (Nat × Value)} (hm : i < eb_ml M.1) (hi : eb_find pc M.2 = some (pc, 2, .astore i, a, b)) (hl2 : eb_p1 ls i (.ref x) = ls2) (k : eb_Sn d M h0 (pc + 2) ls2 st h Q) : eb_Sn d M h0 pc ls (.ref x :: st) h Q := by
  subst hl2
  exact eb_gl (fun c1 ad lsA hl kk => by exact lv_astore c1.1 c1.2.1 (eb_de c1.2.2.2.2.2.2 hi)  hl hm (eb_p1_map ad ls i (.ref x)) kk) (fun hl hs => ⟨eb_p1_av (eb_avh hs) hl, eb_av1 hs⟩) k
theorem eb_nstore_n {n : Fin 4} {i : Nat} (hn : (n : Nat) = i) {ls2 : List (Nat × Value)} (hm : i < eb_ml M.1) (hi : eb_find pc M.2 = some (pc, 1, .astore_n n, a, b)) (hl2 : eb_p1 ls i .null = ls2) (k : eb_Sn d M h0 (pc + 1) ls2 st h Q) : eb_Sn d M h0 pc ls (.null :: st) h Q := by
  subst hl2
  exact eb_gl (fun c1 ad lsA hl kk => by exact lv_astore_nN c1.1 c1.2.1 (eb_de c1.2.2.2.2.2.2 hi) hn hl hm (eb_p1_map ad ls i .null) kk) (fun hl hs => ⟨eb_p1_av eb_vn hl, eb_av1 hs⟩) k
theorem eb_nstore {i : Nat} {ls2 : List (Nat × Value)} (hm : i < eb_ml M.1) (hi : eb_find pc M.2 = some (pc, 2, .astore i, a, b)) (hl2 : eb_p1 ls i .null = ls2) (k : eb_Sn d M h0 (pc + 2) ls2 st h Q) : eb_Sn d M h0 pc ls (.null :: st) h Q := by
  subst hl2
  exact eb_gl (fun c1 ad lsA hl kk => by exact lv_astoreN c1.1 c1.2.1 (eb_de c1.2.2.2.2.2.2 hi)  hl hm (eb_p1_map ad ls i .null) kk) (fun hl hs => ⟨eb_p1_av eb_vn hl, eb_av1 hs⟩) k
theorem eb_iinc {i : Nat} {n : Int} {x v : Int32} {ls2 : List (Nat × Value)} (hm : i < eb_ml M.1) (hi : eb_find pc M.2 = some (pc, 3, .iinc i n, a, b)) (hg : eb_get ls i = some (.int x)) (hv : x + Int32.ofInt n = v) (hl2 : eb_p1 ls i (.int v) = ls2) (k : eb_Sn d M h0 (pc + 3) ls2 st h Q) : eb_Sn d M h0 pc ls st h Q := by
  subst hl2
  refine eb_gl (fun {l p e R s m args below meth c H locs cells slots QF} c1 ad lsA hl kk => ?_) (fun hl hs => ⟨eb_p1_av (eb_vi (x := v)) hl, hs⟩) k
  obtain ⟨kq, hkq⟩ := List.getElem?_of_mem (List.mem_map.mpr ⟨(i, .int x), eb_get_mem hg, rfl⟩ : eb_cq ad (i, .int x) ∈ ls.map (eb_cq ad))
  exact lv_iinc c1.1 c1.2.1 (eb_de c1.2.2.2.2.2.2 hi) hl hkq hv hm (eb_p1_map ad ls i (.int v)) kk
end EBROWS
