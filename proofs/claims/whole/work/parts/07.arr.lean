/-! ===== rows of arrays, and of what is made ===== -/
section EBARR
variable {d : Nat} {M : eb_M} {h0 : eb_H} {pc a b : Nat} {ls : List (Nat × Value)} {st : List Value} {h : eb_H} {Q : Option Value → eb_H → Prop}
theorem eb_ceI {cy : Nat → ClassId} {ad : Nat → Nat} {i c : Nat} (hk : eb_kd i = c) (hc : c = 12 ∨ c = 13 ∨ c = 15 ∨ c = 19) : eb_cell cy ad h i = .inl (cy c, eb_ln i, .inl (eb_I h i)) := by
  unfold eb_cell
  rw [if_neg (by omega), if_neg (by omega), if_pos (by omega), hk]
theorem eb_ceJ {cy : Nat → ClassId} {ad : Nat → Nat} {i : Nat} (hk : eb_kd i = 14) : eb_cell cy ad h i = .inl (cy 14, eb_ln i, .inr (.inl (eb_J h i))) := by
  unfold eb_cell
  rw [if_neg (by omega), if_pos hk]
theorem eb_ceR {cy : Nat → ClassId} {ad : Nat → Nat} {i c : Nat} (hk : eb_kd i = c) (hc : 16 ≤ c) (hc2 : c < 19) : eb_cell cy ad h i = .inl (cy c, eb_ln i, .inr (.inr (.inr (.inr (fun j => (eb_R h i j).map ad))))) := by
  unfold eb_cell
  rw [if_neg (by omega), if_neg (by omega), if_neg (by omega), hk]
/-- a read -/
theorem eb_rd {pc2 i : Nat} {st1 st2 : List Value} (hal : eb_avs h st1 → eb_al h i) (hs2 : eb_wf h → eb_al h i → eb_avs h st1 → eb_avs h st2)
  (w : ∀ {l : Launch} {D : va_G} {cy : Nat → ClassId} {A : Nat → Prop} {p : Program} {e : Env} {R : Room} {s : State} {m : MethodId} {args : Array Value} {below : List Frame} {meth : Method} {c : Code} {H : Heap} {locs : List Loc} {cells slots : Nat} {QF : State → Prop} {ad0 ad : Nat → Nat} {lsA : Array Slot},
    eb_C1 M p s m args meth c → eb_C2 D cy A s ad0 h0 → eb_al h i → va_P D eb_cl (eb_wd cy ad h) H → W p l e R s m args below meth c H locs cells slots QF (F0 m pc2 lsA (st2.map (eb_cv ad))) → W p l e R s m args below meth c H locs cells slots QF (F0 m pc lsA (st1.map (eb_cv ad))))
  (k : eb_Sn d M h0 pc2 ls st2 h Q) : eb_Sn d M h0 pc ls st1 h Q := by
  refine k.lift fun r h' a1 => ⟨a1.1, ?_⟩
  intro l D cy A p e R s m args below meth c ad0 QF c1 c2 c3 ex ad H locs lsA dy
  have q := hal dy.1.2.2
  exact w c1 c2 q dy.2.2.1.1 (a1.2 l D cy A p e R s m args below meth c ad0 QF c1 c2 c3 ex ad H locs lsA ⟨⟨dy.1.1, dy.1.2.1, hs2 dy.1.1 q dy.1.2.2⟩, dy.2⟩)
theorem eb_at_int {c : Nat} (hc : c = 13 ∨ c = 19) : eb_at c = .int := by rcases hc with rfl | rfl <;> rfl
theorem eb_iaload {i c' : Nat} {j : Int32} (hi : eb_find pc M.2 = some (pc, 1, .iaload, a, b)) (hk : eb_kd i = c') (hc13 : c' = 13 ∨ c' = 19) (hin : vp_in j (eb_ln i)) (k : eb_Sn d M h0 (pc + 1) ls (.int (eb_I h i j.toNatClampNeg) :: st) h Q) : eb_Sn d M h0 pc ls (.int j :: .ref i :: st) h Q :=
  eb_rd (i := i) (st2 := .int (eb_I h i j.toNatClampNeg) :: st) (fun hs => eb_alk (eb_avh (eb_av1 hs)) (by omega)) (fun _ _ hs => eb_avi (eb_av1 (eb_av1 hs))) (fun {l D cy A p e R s m args below meth c H locs cells slots QF ad0 ad lsA} c1 c2 hal hP kk => va_iald c1.1 c1.2.1 c2.1 hP (eb_ix i) (c' - 12) (by rw [eb_wd_at hal, eb_ceI hk (by omega)]) (by rw [eb_tys_at cy (by omega) (by omega), eb_at_int hc13]) hin (eb_de c1.2.2.2.2.2.2 hi) kk) k
theorem eb_baload {i : Nat} {j : Int32} (hi : eb_find pc M.2 = some (pc, 1, .baload, a, b)) (hk : eb_kd i = 12) (hin : vp_in j (eb_ln i)) (k : eb_Sn d M h0 (pc + 1) ls (.int (eb_I h i j.toNatClampNeg) :: st) h Q) : eb_Sn d M h0 pc ls (.int j :: .ref i :: st) h Q :=
  eb_rd (i := i) (st2 := .int (eb_I h i j.toNatClampNeg) :: st) (fun hs => eb_alk (eb_avh (eb_av1 hs)) (by omega)) (fun _ _ hs => eb_avi (eb_av1 (eb_av1 hs))) (fun {l D cy A p e R s m args below meth c H locs cells slots QF ad0 ad lsA} c1 c2 hal hP kk => va_bald c1.1 c1.2.1 c2.1 hP (eb_ix i) 0 (by rw [eb_wd_at hal, eb_ceI hk (by omega)]) (eb_tys_at cy (k := 12) (by decide) (by decide)) hin (eb_de c1.2.2.2.2.2.2 hi) kk) k
theorem eb_zaload {i : Nat} {j : Int32} (hi : eb_find pc M.2 = some (pc, 1, .baload, a, b)) (hk : eb_kd i = 15) (hin : vp_in j (eb_ln i)) (k : eb_Sn d M h0 (pc + 1) ls (.int (eb_I h i j.toNatClampNeg) :: st) h Q) : eb_Sn d M h0 pc ls (.int j :: .ref i :: st) h Q :=
  eb_rd (i := i) (st2 := .int (eb_I h i j.toNatClampNeg) :: st) (fun hs => eb_alk (eb_avh (eb_av1 hs)) (by omega)) (fun _ _ hs => eb_avi (eb_av1 (eb_av1 hs))) (fun {l D cy A p e R s m args below meth c H locs cells slots QF ad0 ad lsA} c1 c2 hal hP kk => va_zald c1.1 c1.2.1 c2.1 hP (eb_ix i) 3 (by rw [eb_wd_at hal, eb_ceI hk (by omega)]) (eb_tys_at cy (k := 15) (by decide) (by decide)) hin (eb_de c1.2.2.2.2.2.2 hi) kk) k
theorem eb_laload {i : Nat} {j : Int32} (hi : eb_find pc M.2 = some (pc, 1, .laload, a, b)) (hk : eb_kd i = 14) (hin : vp_in j (eb_ln i)) (k : eb_Sn d M h0 (pc + 1) ls (.long (eb_J h i j.toNatClampNeg) :: st) h Q) : eb_Sn d M h0 pc ls (.int j :: .ref i :: st) h Q :=
  eb_rd (i := i) (st2 := .long (eb_J h i j.toNatClampNeg) :: st) (fun hs => eb_alk (eb_avh (eb_av1 hs)) (by omega)) (fun _ _ hs => eb_avl (eb_av1 (eb_av1 hs))) (fun {l D cy A p e R s m args below meth c H locs cells slots QF ad0 ad lsA} c1 c2 hal hP kk => va_lald c1.1 c1.2.1 c2.1 hP (eb_ix i) 2 (by rw [eb_wd_at hal, eb_ceJ hk]) (eb_tys_at cy (k := 14) (by decide) (by decide)) hin (eb_de c1.2.2.2.2.2.2 hi) kk) k
theorem eb_at_obj {c : Nat} (h : 16 ≤ c) (h2 : c < 19) : ∃ C, eb_at c = .object C := by
  have : c = 16 ∨ c = 17 ∨ c = 18 := by omega
  rcases this with rfl | rfl | rfl <;> exact ⟨_, rfl⟩
theorem eb_aa_any {i c : Nat} {j : Int32} {v : Option Nat} (hi : eb_find pc M.2 = some (pc, 1, .aaload, a, b)) (hk : eb_kd i = c) (hc : 16 ≤ c) (hc2 : c < 19) (hin : vp_in j (eb_ln i)) (hv : eb_R h i j.toNatClampNeg = v) (k : eb_Sn d M h0 (pc + 1) ls (eb_rv v :: st) h Q) : eb_Sn d M h0 pc ls (.int j :: .ref i :: st) h Q := by
  refine eb_rd (i := i) (st2 := eb_rv v :: st) (fun hs => eb_alk (eb_avh (eb_av1 hs)) (by omega)) (fun hw hal hs => eb_avc ?_ (eb_av1 (eb_av1 hs))) ?_ k
  · cases v with
    | none => trivial
    | some t => exact Or.inr (hw.2 i hal _ t hv)
  · intro l D cy A p e R s m args below meth c' H locs cells slots QF ad0 ad lsA c1 c2 hal hP kk
    obtain ⟨C, hC⟩ := eb_at_obj hc hc2
    rw [List.map_cons, eb_rv_cv, ← hv] at kk
    exact va_aldq (C := C) c1.1 c1.2.1 c2.1 hP (eb_ix i) (c - 12) (by rw [eb_wd_at hal, eb_ceR hk hc hc2]) (by rw [eb_tys_at cy (by omega) (by omega), hC]) hin (eb_de c1.2.2.2.2.2.2 hi) kk
theorem eb_aaloadR {i c t : Nat} {j : Int32} (hi : eb_find pc M.2 = some (pc, 1, .aaload, a, b)) (hk : eb_kd i = c) (hc : 16 ≤ c) (hc2 : c < 19) (hin : vp_in j (eb_ln i)) (hv : eb_R h i j.toNatClampNeg = some t) (k : eb_Sn d M h0 (pc + 1) ls (.ref t :: st) h Q) : eb_Sn d M h0 pc ls (.int j :: .ref i :: st) h Q := eb_aa_any (v := some t) hi hk hc hc2 hin hv k
theorem eb_aaloadN {i c : Nat} {j : Int32} (hi : eb_find pc M.2 = some (pc, 1, .aaload, a, b)) (hk : eb_kd i = c) (hc : 16 ≤ c) (hc2 : c < 19) (hin : vp_in j (eb_ln i)) (hv : eb_R h i j.toNatClampNeg = none) (k : eb_Sn d M h0 (pc + 1) ls (.null :: st) h Q) : eb_Sn d M h0 pc ls (.int j :: .ref i :: st) h Q := eb_aa_any (v := none) hi hk hc hc2 hin hv k
theorem eb_alen {i : Nat} {v : Int32} (hi : eb_find pc M.2 = some (pc, 1, .arraylength, a, b)) (hk : 12 ≤ eb_kd i) (hk2 : eb_kd i < 20) (hv : Int32.ofNat (eb_ln i) = v) (k : eb_Sn d M h0 (pc + 1) ls (.int v :: st) h Q) : eb_Sn d M h0 pc ls (.ref i :: st) h Q := by
  refine eb_rd (i := i) (st2 := .int v :: st) (fun hs => eb_alk (eb_avh hs) (by omega)) (fun _ _ hs => eb_avi (eb_av1 hs)) ?_ k
  intro l D cy A p e R s m args below meth c' H locs cells slots QF ad0 ad lsA c1 c2 hal hP kk
  have hx : ∃ x : vp_A, x.1 = eb_ln i ∧ eb_cell cy ad h i = .inl (cy (eb_kd i), x) := by
    by_cases h14 : eb_kd i = 14
    · exact ⟨_, rfl, by rw [eb_ceJ h14, h14]⟩
    · by_cases h16 : 16 ≤ eb_kd i ∧ eb_kd i < 19
      · exact ⟨_, rfl, eb_ceR rfl h16.1 h16.2⟩
      · exact ⟨_, rfl, eb_ceI rfl (by omega)⟩
  obtain ⟨x, hx1, hx2⟩ := hx
  exact va_alen c1.1 c1.2.1 c2.1 hP (eb_ix i) (eb_kd i - 12) (by rw [eb_wd_at hal, hx2]) (eb_tys_at cy hk hk2) (by rw [hx1]; exact hv) (eb_de c1.2.2.2.2.2.2 hi) kk
theorem eb_iastore {i c' : Nat} {j v : Int32} (hi : eb_find pc M.2 = some (pc, 1, .iastore, a, b)) (hk : eb_kd i = c') (hc13 : c' = 13 ∨ c' = 19) (hin : vp_in j (eb_ln i)) (k : eb_Sn d M h0 (pc + 1) ls st (eb_sI h i j.toNatClampNeg v) Q) : eb_Sn d M h0 pc ls (.int v :: .int j :: .ref i :: st) h Q := by
  refine eb_wr (h2 := eb_sI h i j.toNatClampNeg v) (i := i) rfl rfl rfl (fun _ hs => eb_alk (eb_avh (eb_av1 (eb_av1 hs))) (by omega)) (fun w _ => w) (fun hs => eb_av1 (eb_av1 (eb_av1 hs))) ?_ (fun cy ad c hc => eb_cell_I hc) k
  intro l D cy A p e R s m args below meth c H locs cells slots QF ad0 ad lsA c1 c2 hal hwf hs hP hD hS _ _ kk
  have e1 : eb_I (eb_sI h i j.toNatClampNeg v) i = upd (eb_I h i) j.toNatClampNeg v := by simp [eb_I, eb_sI, eb_rI, va_up]
  rw [eb_ceI (h := eb_sI h i j.toNatClampNeg v) hk (by omega), e1] at kk
  exact va_iast c1.1 c1.2.1 c2.1 hP hD hS (eb_ix i) (c' - 12) (by rw [eb_wd_at hal, eb_ceI hk (by omega)]) (by rw [eb_tys_at cy (by omega) (by omega), eb_at_int hc13]) hin (eb_de c1.2.2.2.2.2.2 hi) kk
theorem eb_bastore {i : Nat} {j v : Int32} (hi : eb_find pc M.2 = some (pc, 1, .bastore, a, b)) (hk : eb_kd i = 12) (hin : vp_in j (eb_ln i)) (k : eb_Sn d M h0 (pc + 1) ls st (eb_sI h i j.toNatClampNeg v.toInt8.toInt32) Q) : eb_Sn d M h0 pc ls (.int v :: .int j :: .ref i :: st) h Q := by
  refine eb_wr (h2 := eb_sI h i j.toNatClampNeg v.toInt8.toInt32) (i := i) rfl rfl rfl (fun _ hs => eb_alk (eb_avh (eb_av1 (eb_av1 hs))) (by omega)) (fun w _ => w) (fun hs => eb_av1 (eb_av1 (eb_av1 hs))) ?_ (fun cy ad c hc => eb_cell_I hc) k
  intro l D cy A p e R s m args below meth c H locs cells slots QF ad0 ad lsA c1 c2 hal hwf hs hP hD hS _ _ kk
  have e1 : eb_I (eb_sI h i j.toNatClampNeg v.toInt8.toInt32) i = upd (eb_I h i) j.toNatClampNeg (vp_nar .byte v) := by rw [vp_nar_byte]; simp [eb_I, eb_sI, eb_rI, va_up]
  rw [eb_ceI (h := eb_sI h i j.toNatClampNeg v.toInt8.toInt32) hk (by omega), e1] at kk
  exact va_bast c1.1 c1.2.1 c2.1 hP hD hS (eb_ix i) 0 (by rw [eb_wd_at hal, eb_ceI hk (by omega)]) (eb_tys_at cy (k := 12) (by decide) (by decide)) hin (eb_de c1.2.2.2.2.2.2 hi) kk
theorem eb_zastore {i : Nat} {j v : Int32} (hi : eb_find pc M.2 = some (pc, 1, .bastore, a, b)) (hk : eb_kd i = 15) (hin : vp_in j (eb_ln i)) (k : eb_Sn d M h0 (pc + 1) ls st (eb_sI h i j.toNatClampNeg (v &&& 1)) Q) : eb_Sn d M h0 pc ls (.int v :: .int j :: .ref i :: st) h Q := by
  refine eb_wr (h2 := eb_sI h i j.toNatClampNeg (v &&& 1)) (i := i) rfl rfl rfl (fun _ hs => eb_alk (eb_avh (eb_av1 (eb_av1 hs))) (by omega)) (fun w _ => w) (fun hs => eb_av1 (eb_av1 (eb_av1 hs))) ?_ (fun cy ad c hc => eb_cell_I hc) k
  intro l D cy A p e R s m args below meth c H locs cells slots QF ad0 ad lsA c1 c2 hal hwf hs hP hD hS _ _ kk
  have e1 : eb_I (eb_sI h i j.toNatClampNeg (v &&& 1)) i = upd (eb_I h i) j.toNatClampNeg (vp_nar .boolean v) := by
    have : vp_nar .boolean v = v &&& 1 := rfl
    rw [this]; simp [eb_I, eb_sI, eb_rI, va_up]
  rw [eb_ceI (h := eb_sI h i j.toNatClampNeg (v &&& 1)) hk (by omega), e1] at kk
  exact va_zast c1.1 c1.2.1 c2.1 hP hD hS (eb_ix i) 3 (by rw [eb_wd_at hal, eb_ceI hk (by omega)]) (eb_tys_at cy (k := 15) (by decide) (by decide)) hin (eb_de c1.2.2.2.2.2.2 hi) kk
theorem eb_lastore {i : Nat} {j : Int32} {v : Int64} (hi : eb_find pc M.2 = some (pc, 1, .lastore, a, b)) (hk : eb_kd i = 14) (hin : vp_in j (eb_ln i)) (k : eb_Sn d M h0 (pc + 1) ls st (eb_sJ h i j.toNatClampNeg v) Q) : eb_Sn d M h0 pc ls (.long v :: .int j :: .ref i :: st) h Q := by
  refine eb_wr (h2 := eb_sJ h i j.toNatClampNeg v) (i := i) rfl rfl rfl (fun _ hs => eb_alk (eb_avh (eb_av1 (eb_av1 hs))) (by omega)) (fun w _ => w) (fun hs => eb_av1 (eb_av1 (eb_av1 hs))) ?_ (fun cy ad c hc => eb_cell_J hc) k
  intro l D cy A p e R s m args below meth c H locs cells slots QF ad0 ad lsA c1 c2 hal hwf hs hP hD hS _ _ kk
  have e1 : eb_J (eb_sJ h i j.toNatClampNeg v) i = vp_updL (eb_J h i) j.toNatClampNeg v := by simp [eb_J, eb_sJ, eb_rJ, va_up]
  rw [eb_ceJ (h := eb_sJ h i j.toNatClampNeg v) hk, e1] at kk
  exact va_last c1.1 c1.2.1 c2.1 hP hD hS (eb_ix i) 2 (by rw [eb_wd_at hal, eb_ceJ hk]) (eb_tys_at cy (k := 14) (by decide) (by decide)) hin (eb_de c1.2.2.2.2.2.2 hi) kk
/-- State into State[] .. : kinds 6, 8, 9 into 16, 17, 18 -/
def eb_el (c : Nat) : Nat := if c = 16 then 6 else if c = 17 then 8 else 9
theorem eb_at_el {c : Nat} (h : 16 ≤ c) (h2 : c < 19) : eb_at c = .object (eb_cn (eb_el c)) ∧ eb_el c < 12 := by
  have : c = 16 ∨ c = 17 ∨ c = 18 := by omega
  rcases this with rfl | rfl | rfl <;> exact ⟨rfl, by decide⟩
theorem eb_aastore {i c t : Nat} {j : Int32} (hi : eb_find pc M.2 = some (pc, 1, .aastore, a, b)) (hk : eb_kd i = c) (hc : 16 ≤ c) (hc2 : c < 19) (hin : vp_in j (eb_ln i)) (ht : eb_kd t = eb_el c) (k : eb_Sn d M h0 (pc + 1) ls st (eb_sR h i j.toNatClampNeg (some t)) Q) : eb_Sn d M h0 pc ls (.ref t :: .int j :: .ref i :: st) h Q := by
  obtain ⟨hC, hC2⟩ := eb_at_el hc hc2
  have hat : eb_avs h (.ref t :: .int j :: .ref i :: st) → eb_al h t := fun hs => eb_alk (eb_avh hs) (by rw [ht]; omega)
  refine eb_wr (h2 := eb_sR h i j.toNatClampNeg (some t)) (i := i) rfl rfl rfl (fun _ hs => eb_alk (eb_avh (eb_av1 (eb_av1 hs))) (by omega)) (fun w hs => eb_wf_rR w (fun q u hu => ?_)) (fun hs => eb_av1 (eb_av1 (eb_av1 hs))) ?_ (fun cy ad c hc => eb_cell_R hc) k
  · by_cases hq : q = j.toNatClampNeg
    · subst hq
      have : t = u := by simpa [va_up] using hu
      rw [← this]; exact hat hs
    · exact w.2 i (eb_alk (eb_avh (eb_av1 (eb_av1 hs))) (by omega)) q u (by simpa [va_up, hq] using hu)
  intro l D cy A p e R s m args below meth c' H locs cells slots QF ad0 ad lsA c1 c2 hal hwf hs hP hD hS _ _ kk
  have e1 : (fun q => (eb_R (eb_sR h i j.toNatClampNeg (some t)) i q).map ad) = va_up (fun q => (eb_R h i q).map ad) j.toNatClampNeg (some (ad t)) := by
    funext q
    by_cases hq : q = j.toNatClampNeg <;> simp [eb_R, eb_sR, eb_rR, va_up, hq]
  rw [eb_ceR (h := eb_sR h i j.toNatClampNeg (some t)) hk hc hc2, e1] at kk
  exact va_astq (r := (eb_cn (eb_el c), eb_T (eb_el c), eb_nf (eb_el c))) c1.1 c1.2.1 c2.1 hP hD hS (eb_ix i) (c - 12) (eb_ix t) (eb_el c) (by rw [eb_wd_at hal, eb_ceR hk hc hc2]) (by rw [eb_tys_at cy (by omega) (by omega), hC]) (by rw [eb_wd_at (hat hs), eb_ceO ht hC2]) (eb_cl_at hC2) hin (eb_de c1.2.2.2.2.2.2 hi) kk
end EBARR
