/-! ===== rows of the heap ===== -/
theorem eb_T1 : ∀ a, a < 12 → ∀ b, b < eb_nf a → (eb_T a b).1 = eb_cn a := by decide +kernel
theorem eb_T2 : ∀ a, a < 12 → ∀ b, b < eb_nf a → parseFieldDescriptor (eb_T a b).2.2.1 = some (eb_ty a b) := by decide +kernel
theorem eb_T3 : ∀ c, c < 12 → ∀ a, a < eb_nf c → ∀ b, b < eb_nf c → a ≠ b → (eb_T c a).2.1 ≠ (eb_T c b).2.1 := by decide +kernel
theorem eb_inW {w : Cond} (l1 l2 l3 : List Cond) (e : l1 ++ (l2 ++ l3) = eb_WS) (h : w ∈ l2) : w ∈ eb_WS := by
  rw [← e]
  exact List.mem_append_right _ (List.mem_append_left _ h)
theorem eb_inW1 {w : Cond} (h : w ∈ eb_W1) : w ∈ eb_WS := List.mem_append_left _ h
theorem eb_inW2 {w : Cond} (h : w ∈ eb_W2) : w ∈ eb_WS := List.mem_append_right _ (List.mem_append_left _ h)
theorem eb_inW3 {w : Cond} (h : w ∈ eb_W3) : w ∈ eb_WS := List.mem_append_right _ (List.mem_append_right _ (List.mem_append_left _ h))
theorem eb_in3 {w : Cond} (h : w ∈ eb_W4 ++ (eb_W5 ++ (eb_W6 ++ (eb_W7 ++ (eb_W8 ++ (eb_W9 ++ (eb_W10 ++ (eb_W11 ++ (eb_W12 ++ (eb_W13 ++ (eb_W14 ++ (eb_W15 ++ eb_W16)))))))))))) : w ∈ eb_WS := List.mem_append_right _ (List.mem_append_right _ (List.mem_append_right _ h))
theorem eb_inW4 {w : Cond} (h : w ∈ eb_W4) : w ∈ eb_WS := eb_in3 (List.mem_append_left _ h)
theorem eb_inW5 {w : Cond} (h : w ∈ eb_W5) : w ∈ eb_WS := eb_in3 (List.mem_append_right _ (List.mem_append_left _ h))
theorem eb_inW6 {w : Cond} (h : w ∈ eb_W6) : w ∈ eb_WS := eb_in3 (List.mem_append_right _ (List.mem_append_right _ (List.mem_append_left _ h)))
theorem eb_in6 {w : Cond} (h : w ∈ eb_W7 ++ (eb_W8 ++ (eb_W9 ++ (eb_W10 ++ (eb_W11 ++ (eb_W12 ++ (eb_W13 ++ (eb_W14 ++ (eb_W15 ++ eb_W16))))))))) : w ∈ eb_WS := eb_in3 (List.mem_append_right _ (List.mem_append_right _ (List.mem_append_right _ h)))
theorem eb_inW7 {w : Cond} (h : w ∈ eb_W7) : w ∈ eb_WS := eb_in6 (List.mem_append_left _ h)
theorem eb_inW8 {w : Cond} (h : w ∈ eb_W8) : w ∈ eb_WS := eb_in6 (List.mem_append_right _ (List.mem_append_left _ h))
theorem eb_inW9 {w : Cond} (h : w ∈ eb_W9) : w ∈ eb_WS := eb_in6 (List.mem_append_right _ (List.mem_append_right _ (List.mem_append_left _ h)))
theorem eb_in9 {w : Cond} (h : w ∈ eb_W10 ++ (eb_W11 ++ (eb_W12 ++ (eb_W13 ++ (eb_W14 ++ (eb_W15 ++ eb_W16)))))) : w ∈ eb_WS := eb_in6 (List.mem_append_right _ (List.mem_append_right _ (List.mem_append_right _ h)))
theorem eb_inW10 {w : Cond} (h : w ∈ eb_W10) : w ∈ eb_WS := eb_in9 (List.mem_append_left _ h)
theorem eb_inW11 {w : Cond} (h : w ∈ eb_W11) : w ∈ eb_WS := eb_in9 (List.mem_append_right _ (List.mem_append_left _ h))
theorem eb_inW12 {w : Cond} (h : w ∈ eb_W12) : w ∈ eb_WS := eb_in9 (List.mem_append_right _ (List.mem_append_right _ (List.mem_append_left _ h)))
theorem eb_in12 {w : Cond} (h : w ∈ eb_W13 ++ (eb_W14 ++ (eb_W15 ++ eb_W16))) : w ∈ eb_WS := eb_in9 (List.mem_append_right _ (List.mem_append_right _ (List.mem_append_right _ h)))
theorem eb_inW13 {w : Cond} (h : w ∈ eb_W13) : w ∈ eb_WS := eb_in12 (List.mem_append_left _ h)
theorem eb_inW14 {w : Cond} (h : w ∈ eb_W14) : w ∈ eb_WS := eb_in12 (List.mem_append_right _ (List.mem_append_left _ h))
theorem eb_inW15 {w : Cond} (h : w ∈ eb_W15) : w ∈ eb_WS := eb_in12 (List.mem_append_right _ (List.mem_append_right _ (List.mem_append_left _ h)))
theorem eb_inW16 {w : Cond} (h : w ∈ eb_W16) : w ∈ eb_WS := eb_in12 (List.mem_append_right _ (List.mem_append_right _ (List.mem_append_right _ h)))
theorem eb_lays {c : Nat} (h : c < 12) : ∀ w ∈ u_ws (eb_cn c) (eb_T c) (eb_nf c), w ∈ eb_WS := fun w hw => eb_inW10 (List.mem_flatMap.mpr ⟨c, List.mem_range.mpr h, hw⟩)
theorem eb_con {α : Type} [BEq α] [LawfulBEq α] {l : List α} {x : α} (h : l.contains x = true) : x ∈ l := by simpa using h
section EBHEAP
variable {d : Nat} {M : eb_M} {h0 : eb_H} {pc a b : Nat} {ls : List (Nat × Value)} {st : List Value} {h : eb_H} {Q : Option Value → eb_H → Prop}
theorem eb_flink {x : Nat} (ok : eb_ok M) (hi : eb_find pc M.2 = some (pc, 3, .getfield x, a, b)) (ha : a < 12) : Cond.fieldLink (eb_cn (eb_ow M.1)) x (eb_cn a) (eb_T a b).2.1 (eb_T a b).2.2.1 ∈ eb_WS := by
  have h1 := (eb_dec ok hi).2
  have h2 : eb_frefs.contains (eb_ow M.1, x, a, b) = true := by
    rcases Bool.or_eq_true _ _ |>.mp h1 with q | q
    · exact q
    · have := (Bool.and_eq_true _ _ |>.mp q).2
      have : a = 50 := by simpa using this
      omega
  exact eb_inW2 (List.mem_map.mpr ⟨_, eb_con h2, rfl⟩)
theorem eb_flinkP {x : Nat} (ok : eb_ok M) (hi : eb_find pc M.2 = some (pc, 3, .putfield x, a, b)) : Cond.fieldLink (eb_cn (eb_ow M.1)) x (eb_cn a) (eb_T a b).2.1 (eb_T a b).2.2.1 ∈ eb_WS := by
  have h1 := (eb_dec ok hi).2
  exact eb_inW2 (List.mem_map.mpr ⟨_, eb_con (show eb_frefs.contains (eb_ow M.1, x, a, b) = true from h1), rfl⟩)
theorem eb_alk {i : Nat} (hv : eb_av h (.ref i)) (hk : eb_kd i < 20) : eb_al h i := by
  rcases hv with q | q
  · omega
  · exact q
theorem eb_ceO {cy : Nat → ClassId} {ad : Nat → Nat} {i c : Nat} (hk : eb_kd i = c) (hc : c < 12) : eb_cell cy ad h i = .inr (c, eb_fs ad h i) := by
  unfold eb_cell
  rw [if_pos (by rw [hk]; exact hc), hk]
theorem eb_get_any {i x : Nat} {v : Value} (hi : eb_find pc M.2 = some (pc, 3, .getfield x, a, b)) (hk : eb_kd i = a) (ha : a < 12) (hb : b < eb_nf a) (hv : ∀ ad, eb_fv ad h i b = eb_cv ad v) (hav : eb_wf h → eb_al h i → eb_av h v) (k : eb_Sn d M h0 (pc + 3) ls (v :: st) h Q) : eb_Sn d M h0 pc ls (.ref i :: st) h Q := by
  refine k.lift fun r h' a1 => ⟨a1.1, ?_⟩
  intro l D cy A p e R s m args below meth c ad0 QF c1 c2 c3 ex ad H locs lsA dy
  have hal : eb_al h i := eb_alk (eb_avh dy.1.2.2) (by omega)
  have kk := a1.2 l D cy A p e R s m args below meth c ad0 QF c1 c2 c3 ex ad H locs lsA ⟨⟨dy.1.1, dy.1.2.1, eb_avc (hav dy.1.1 hal) (eb_av1 dy.1.2.2)⟩, dy.2⟩
  have hT1 := eb_T1 a ha b hb
  exact va_get (C := eb_cn a) (T := eb_T a) (N := eb_nf a) (ci := a) (ref := eb_cn a) c1.1 c1.2.1 c1.2.2.2.2.1 (eb_lays ha) c1.2.2.2.1 c2.1 dy.2.2.1.1 (eb_ix i) (by rw [eb_wd_at hal, eb_ceO hk ha]) (eb_cl_at ha) b hb (c1.2.2.2.2.1 _ (eb_flink c1.2.2.2.2.2.2 hi ha)) (fun z hz => by rw [hT1] at hz; exact hz) (by rw [eb_fs_at (by rw [hk]; exact hb), hv ad]) (eb_de c1.2.2.2.2.2.2 hi) kk
theorem eb_getI {i x : Nat} (hi : eb_find pc M.2 = some (pc, 3, .getfield x, a, b)) (hk : eb_kd i = a) (ha : a < 12) (hb : b < eb_nf a) (hr : eb_isR a b = false) (k : eb_Sn d M h0 (pc + 3) ls (.int (eb_I h i b) :: st) h Q) : eb_Sn d M h0 pc ls (.ref i :: st) h Q :=
  eb_get_any (v := .int (eb_I h i b)) hi hk ha hb (fun ad => by unfold eb_fv; rw [hk, hr]; rfl) (fun _ _ => trivial) k
theorem eb_getR {i x j : Nat} (hi : eb_find pc M.2 = some (pc, 3, .getfield x, a, b)) (hk : eb_kd i = a) (ha : a < 12) (hb : b < eb_nf a) (hr : eb_isR a b = true) (hj : eb_R h i b = some j) (k : eb_Sn d M h0 (pc + 3) ls (.ref j :: st) h Q) : eb_Sn d M h0 pc ls (.ref i :: st) h Q :=
  eb_get_any (v := .ref j) hi hk ha hb (fun ad => by unfold eb_fv; rw [hk, hr, hj]; rfl) (fun w q => Or.inr (w.2 i q b j hj)) k
theorem eb_getN {i x : Nat} (hi : eb_find pc M.2 = some (pc, 3, .getfield x, a, b)) (hk : eb_kd i = a) (ha : a < 12) (hb : b < eb_nf a) (hr : eb_isR a b = true) (hj : eb_R h i b = none) (k : eb_Sn d M h0 (pc + 3) ls (.null :: st) h Q) : eb_Sn d M h0 pc ls (.ref i :: st) h Q :=
  eb_get_any (v := .null) hi hk ha hb (fun ad => by unfold eb_fv; rw [hk, hr, hj]; rfl) (fun _ _ => trivial) k
/-- a write that leaves numbers, codes and the script: what the judgement wants of the new heap -/
theorem eb_wr {pc2 i : Nat} {st1 : List Value} {h2 : eb_H} (hn : h2.1 = h.1) (hC : eb_C h2 = eb_C h) (hX : h2.2.2.2.2.2 = h.2.2.2.2.2)
  (hk : (∀ q ∈ ls, eb_av h q.2) → eb_avs h st1 → eb_al h i) (hw : eb_wf h → eb_avs h st1 → eb_wf h2) (hsub : eb_avs h st1 → eb_avs h st)
  (w : ∀ {l : Launch} {D : va_G} {cy : Nat → ClassId} {A : Nat → Prop} {p : Program} {e : Env} {R : Room} {s : State} {m : MethodId} {args : Array Value} {below : List Frame} {meth : Method} {c : Code} {H : Heap} {locs : List Loc} {cells slots : Nat} {QF : State → Prop} {ad0 ad : Nat → Nat} {lsA : Array Slot},
    eb_C1 M p s m args meth c → eb_C2 D cy A s ad0 h0 → eb_al h i → eb_wf h → eb_avs h st1 → va_P D eb_cl (eb_wd cy ad h) H → va_D A (eb_wd cy ad h) → va_S A s.heap H locs → lsA.size = eb_ml M.1 → (1 ≤ d → 1 ≤ R.frames ∧ 64 ≤ R.locals) → (∀ (H1 : Heap) (locs1 : List Loc), va_P D eb_cl ((eb_wd cy ad h).set (eb_ix i) (ad i, eb_cell cy ad h2 i)) H1 → va_D A ((eb_wd cy ad h).set (eb_ix i) (ad i, eb_cell cy ad h2 i)) → va_S A s.heap H1 locs1 → W p l e R s m args below meth c H1 locs1 cells slots QF (F0 m pc2 lsA (st.map (eb_cv ad)))) → W p l e R s m args below meth c H locs cells slots QF (F0 m pc lsA (st1.map (eb_cv ad))))
  (ho : ∀ (cy : Nat → ClassId) (ad : Nat → Nat) (c : Nat), c ≠ i → eb_cell cy ad h2 c = eb_cell cy ad h c)
  (k : eb_Sn d M h0 pc2 ls st h2 Q) : eb_Sn d M h0 pc ls st1 h Q := by
  have en : eb_n h2 = eb_n h := by unfold eb_n; rw [hn]
  have ez : eb_z h2 = eb_z h := by unfold eb_z; rw [hn]
  refine k.lift fun r h' a1 => ⟨by rw [← en, ← ez]; exact a1.1, ?_⟩
  intro l D cy A p e R s m args below meth c ad0 QF c1 c2 c3 ex ad H locs lsA dy
  have hal := hk dy.1.2.1 dy.1.2.2
  have eal : ∀ j, eb_al h j → eb_al h2 j := fun j hj => ⟨by rw [en]; exact hj.1, by rw [hC]; exact hj.2⟩
  have eav : ∀ v, eb_av h v → eb_av h2 v := fun v hv => by
    cases v <;> first | trivial | exact hv.imp id (eal _)
  refine w c1 c2 hal dy.1.1 dy.1.2.2 dy.2.2.1.1 dy.2.2.1.2.1 dy.2.2.1.2.2 dy.2.2.2.1 (fun hd => ⟨Nat.le_trans hd c3.1, Nat.le_trans (by omega) c3.2.1⟩) fun H1 locs1 hP hD hS => ?_
  rw [eb_wd_set (h' := h2) dy.1.1 hal en hC rfl (ho cy ad)] at hP hD
  have := a1.2 l D cy A p e R s m args below meth c ad0 QF c1 c2 c3 ex ad H1 locs1 lsA ⟨⟨hw dy.1.1 dy.1.2.2, fun q hq => eav _ (dy.1.2.1 q hq), fun v hv => eav _ (hsub dy.1.2.2 v hv)⟩, ⟨dy.2.1.1, fun j hj => eal j (dy.2.1.2.1 j hj), ⟨by rw [en]; exact dy.2.1.2.2.1.1, by rw [ez]; exact dy.2.1.2.2.1.2⟩, by unfold eb_XL; rw [hX]; exact dy.2.1.2.2.2.1, by unfold eb_X; rw [hX]; exact dy.2.1.2.2.2.2⟩, ⟨hP, hD, hS⟩, dy.2.2.2⟩
  rw [en, ez] at this
  exact this
def eb_fit (t : FieldType) (x : Int32) : Prop := narrow t (.int x) = .int x ∧ fits t (.int x) = true
theorem eb_fv_I {ad : Nat → Nat} {i k : Nat} {x : Int32} : (∀ j, j ≠ k → eb_fv ad (eb_sI h i k x) i j = eb_fv ad h i j) := by
  intro j hj
  unfold eb_fv
  have : eb_I (eb_sI h i k x) i j = eb_I h i j := by simp [eb_I, eb_sI, eb_rI, va_up, upd, hj]
  rw [this]; rfl
theorem eb_fv_R {ad : Nat → Nat} {i k : Nat} {x : Option Nat} : (∀ j, j ≠ k → eb_fv ad (eb_sR h i k x) i j = eb_fv ad h i j) := by
  intro j hj
  unfold eb_fv
  have : eb_R (eb_sR h i k x) i j = eb_R h i j := by simp [eb_R, eb_sR, eb_rR, va_up, hj]
  rw [this]; rfl
theorem eb_putI {i x : Nat} {v : Int32} (hi : eb_find pc M.2 = some (pc, 3, .putfield x, a, b)) (hk : eb_kd i = a) (ha : a < 12) (hb : b < eb_nf a) (hr : eb_isR a b = false) (hf : (eb_T a b).2.2.2 = false) (hfit : eb_fit (eb_ty a b) v) (k : eb_Sn d M h0 (pc + 3) ls st (eb_sI h i b v) Q) : eb_Sn d M h0 pc ls (.int v :: .ref i :: st) h Q := by
  refine eb_wr (h2 := eb_sI h i b v) (i := i) rfl rfl rfl (fun _ hs => eb_alk (eb_avh (eb_av1 hs)) (by omega)) (fun w _ => w) (fun hs => eb_av1 (eb_av1 hs)) ?_ (fun cy ad c hc => eb_cell_I hc) k
  intro l D cy A p e R s m args below meth c H locs cells slots QF ad0 ad lsA c1 c2 hal hwf hs hP hD hS _ _ kk
  have hT1 := eb_T1 a ha b hb
  have hfs : (eb_fs ad h i).set b (.int v) = eb_fs ad (eb_sI h i b v) i := eb_fs_set (by unfold eb_fv; rw [hk, hr]; simp [eb_I, eb_sI, eb_rI, va_up, upd]) eb_fv_I
  rw [eb_ceO (h := eb_sI h i b v) hk ha, ← hfs] at kk
  exact va_put (C := eb_cn a) (T := eb_T a) (N := eb_nf a) (ci := a) (ref := eb_cn a) c1.1 c1.2.1 c1.2.2.2.2.1 (eb_lays ha) (eb_ty a) (eb_T2 a ha) (eb_T3 a ha) c1.2.2.2.1 c2.1 hP hD hS (eb_ix i) (by rw [eb_wd_at hal, eb_ceO hk ha]) (eb_cl_at ha) b hb (c1.2.2.2.2.1 _ (eb_flinkP c1.2.2.2.2.2.2 hi)) (fun z hz => by rw [hT1] at hz; exact hz) hf (eb_T2 a ha b hb) hfit.1 hfit.2 (by rw [eb_fs_len, hk]; exact hb) (eb_de c1.2.2.2.2.2.2 hi) kk
theorem eb_put_nf (t : FieldType) (ht : eb_rty t = true) (r : Option Nat) : narrow t (va_rf r) = va_rf r ∧ fits t (va_rf r) = true := by
  cases t <;> simp [eb_rty] at ht <;> cases r <;> exact ⟨rfl, rfl⟩
def eb_rv (r : Option Nat) : Value := match r with
  | none => .null
  | some i => .ref i
theorem eb_rv_cv (ad : Nat → Nat) (r : Option Nat) : eb_cv ad (eb_rv r) = va_rf (r.map ad) := by cases r <;> rfl
theorem eb_put_any {i x : Nat} {v : Option Nat} (hi : eb_find pc M.2 = some (pc, 3, .putfield x, a, b)) (hk : eb_kd i = a) (ha : a < 12) (hb : b < eb_nf a) (hr : eb_isR a b = true) (hf : (eb_T a b).2.2.2 = false ∨ ((eb_T a b).2.2.2 = true ∧ (eb_y M.1).name = "<init>" ∧ eb_ow M.1 = a)) (hkv : ∀ j, v = some j → eb_kd j < 20) (k : eb_Sn d M h0 (pc + 3) ls st (eb_sR h i b v) Q) : eb_Sn d M h0 pc ls (eb_rv v :: .ref i :: st) h Q := by
  have hv : eb_avs h (eb_rv v :: .ref i :: st) → ∀ j, v = some j → eb_al h j := fun hs j hj => by
    subst hj
    exact eb_alk (eb_avh hs) (hkv j rfl)
  refine eb_wr (h2 := eb_sR h i b v) (i := i) rfl rfl rfl (fun _ hs => eb_alk (eb_avh (eb_av1 hs)) (by omega)) (fun w hs => eb_wf_rR w (fun k t ht => ?_)) (fun hs => eb_av1 (eb_av1 hs)) ?_ (fun cy ad c hc => eb_cell_R hc) k
  · by_cases hkb : k = b
    · subst hkb
      exact hv hs t (by simpa [va_up] using ht)
    · exact w.2 i (eb_alk (eb_avh (eb_av1 hs)) (by omega)) k t (by simpa [va_up, hkb] using ht)
  · intro l D cy A p e R s m args below meth c H locs cells slots QF ad0 ad lsA c1 c2 hal hwf hs hP hD hS _ _ kk
    have hT1 := eb_T1 a ha b hb
    have hfs : (eb_fs ad h i).set b (va_rf (v.map ad)) = eb_fs ad (eb_sR h i b v) i := eb_fs_set (by unfold eb_fv; rw [hk, hr]; simp [eb_R, eb_sR, eb_rR, va_up]) eb_fv_R
    rw [eb_ceO (h := eb_sR h i b v) hk ha, ← hfs] at kk
    have hnf := eb_put_nf (eb_ty a b) hr (v.map ad)
    rw [List.map_cons, eb_rv_cv]
    rcases hf with hf | ⟨hf, hi1, hi2⟩
    · exact va_put (C := eb_cn a) (T := eb_T a) (N := eb_nf a) (ci := a) (ref := eb_cn a) c1.1 c1.2.1 c1.2.2.2.2.1 (eb_lays ha) (eb_ty a) (eb_T2 a ha) (eb_T3 a ha) c1.2.2.2.1 c2.1 hP hD hS (eb_ix i) (by rw [eb_wd_at hal, eb_ceO hk ha]) (eb_cl_at ha) b hb (c1.2.2.2.2.1 _ (eb_flinkP c1.2.2.2.2.2.2 hi)) (fun z hz => by rw [hT1] at hz; exact hz) hf (eb_T2 a ha b hb) hnf.1 hnf.2 (by rw [eb_fs_len, hk]; exact hb) (eb_de c1.2.2.2.2.2.2 hi) kk
    · exact va_putF (C := eb_cn a) (T := eb_T a) (N := eb_nf a) (ci := a) (ref := eb_cn a) c1.1 c1.2.1 c1.2.2.2.2.1 (eb_lays ha) (eb_ty a) (eb_T2 a ha) (eb_T3 a ha) c1.2.2.2.1 c2.1 hP hD hS (eb_ix i) (by rw [eb_wd_at hal, eb_ceO hk ha]) (eb_cl_at ha) b hb (c1.2.2.2.2.1 _ (eb_flinkP c1.2.2.2.2.2.2 hi)) (fun z hz => by rw [hT1] at hz; exact hz) hf (c1.2.2.2.2.2.1.trans hi1) (by rw [hT1, hi2]) (eb_T2 a ha b hb) hnf.1 hnf.2 (by rw [eb_fs_len, hk]; exact hb) (eb_de c1.2.2.2.2.2.2 hi) kk
theorem eb_putR {i x j : Nat} (hi : eb_find pc M.2 = some (pc, 3, .putfield x, a, b)) (hk : eb_kd i = a) (ha : a < 12) (hb : b < eb_nf a) (hr : eb_isR a b = true) (hf : (eb_T a b).2.2.2 = false ∨ ((eb_T a b).2.2.2 = true ∧ (eb_y M.1).name = "<init>" ∧ eb_ow M.1 = a)) (hkv : eb_kd j < 20) (k : eb_Sn d M h0 (pc + 3) ls st (eb_sR h i b (some j)) Q) : eb_Sn d M h0 pc ls (.ref j :: .ref i :: st) h Q :=
  eb_put_any (v := some j) hi hk ha hb hr hf (fun q hq => by rw [← Option.some.inj hq]; exact hkv) k
theorem eb_putN {i x : Nat} (hi : eb_find pc M.2 = some (pc, 3, .putfield x, a, b)) (hk : eb_kd i = a) (ha : a < 12) (hb : b < eb_nf a) (hr : eb_isR a b = true) (hf : (eb_T a b).2.2.2 = false ∨ ((eb_T a b).2.2.2 = true ∧ (eb_y M.1).name = "<init>" ∧ eb_ow M.1 = a)) (k : eb_Sn d M h0 (pc + 3) ls st (eb_sR h i b none) Q) : eb_Sn d M h0 pc ls (.null :: .ref i :: st) h Q :=
  eb_put_any (v := none) hi hk ha hb hr hf (fun q hq => by cases hq) k
end EBHEAP
