/-! ===== the abstract heap: codes of cells (kind, length, number), ints, longs, references ===== -/
def eb_kd (i : Nat) : Nat := i % 32
def eb_ln (i : Nat) : Nat := i / 32 % 16384
def eb_ix (i : Nat) : Nat := i / 524288
def eb_mk (n k len : Nat) : Nat := 524288 * n + (32 * len + k)
theorem eb_mk_kd {n k len : Nat} (hk : k < 32) : eb_kd (eb_mk n k len) = k := by
  unfold eb_kd eb_mk; omega
theorem eb_mk_ln {n k len : Nat} (hk : k < 32) (hl : len < 16384) : eb_ln (eb_mk n k len) = len := by
  unfold eb_ln eb_mk; omega
theorem eb_mk_ix {n k len : Nat} (hk : k < 32) (hl : len < 16384) : eb_ix (eb_mk n k len) = n := by
  unfold eb_ix eb_mk; omega
abbrev eb_H : Type := (Nat × Nat) × (Nat → Nat) × (Nat → Nat → Int32) × (Nat → Nat → Int64) × (Nat → Nat → Option Nat) × Nat × (Nat → Int32)
def eb_n (h : eb_H) : Nat := h.1.1
def eb_z (h : eb_H) : Nat := h.1.2
def eb_C (h : eb_H) : Nat → Nat := h.2.1
def eb_I (h : eb_H) : Nat → Nat → Int32 := h.2.2.1
def eb_J (h : eb_H) : Nat → Nat → Int64 := h.2.2.2.1
def eb_R (h : eb_H) : Nat → Nat → Option Nat := h.2.2.2.2.1
def eb_XL (h : eb_H) : Nat := h.2.2.2.2.2.1
def eb_X (h : eb_H) : Nat → Int32 := h.2.2.2.2.2.2
def eb_rI (h : eb_H) (i : Nat) (f : Nat → Int32) : eb_H := (h.1, h.2.1, va_up h.2.2.1 i f, h.2.2.2)
def eb_rJ (h : eb_H) (i : Nat) (f : Nat → Int64) : eb_H := (h.1, h.2.1, h.2.2.1, va_up h.2.2.2.1 i f, h.2.2.2.2)
def eb_rR (h : eb_H) (i : Nat) (f : Nat → Option Nat) : eb_H := (h.1, h.2.1, h.2.2.1, h.2.2.2.1, va_up h.2.2.2.2.1 i f, h.2.2.2.2.2)
def eb_sI (h : eb_H) (i k : Nat) (v : Int32) : eb_H := eb_rI h i (upd (eb_I h i) k v)
def eb_sJ (h : eb_H) (i k : Nat) (v : Int64) : eb_H := eb_rJ h i (vp_updL (eb_J h i) k v)
def eb_sR (h : eb_H) (i k : Nat) (v : Option Nat) : eb_H := eb_rR h i (va_up (eb_R h i) k v)
/-- the code of the next cell -/
def eb_nx (h : eb_H) (k len : Nat) : Nat := eb_mk (eb_n h) k len
def eb_nw (h : eb_H) (k len sl : Nat) : eb_H := ((eb_n h + 1, eb_z h + sl), va_up (eb_C h) (eb_n h) (eb_nx h k len), va_up (eb_I h) (eb_nx h k len) (fun _ => 0), va_up (eb_J h) (eb_nx h k len) (fun _ => 0), va_up (eb_R h) (eb_nx h k len) (fun _ => none), h.2.2.2.2.2)
/-- a cell of the world -/
def eb_al (h : eb_H) (i : Nat) : Prop := eb_ix i < eb_n h ∧ eb_C h (eb_ix i) = i
def eb_av (h : eb_H) (v : Value) : Prop := match v with
  | .ref i => 20 ≤ eb_kd i ∨ eb_al h i
  | _ => True
def eb_wf (h : eb_H) : Prop := (∀ j, j < eb_n h → eb_ix (eb_C h j) = j ∧ eb_kd (eb_C h j) < 20) ∧ ∀ i, eb_al h i → ∀ k t, eb_R h i k = some t → eb_al h t
def eb_cv (ad : Nat → Nat) (v : Value) : Value := match v with
  | .ref i => .ref (ad i)
  | w => w
def eb_cq (ad : Nat → Nat) (q : Nat × Value) : Nat × Value := (q.1, eb_cv ad q.2)
def eb_fv (ad : Nat → Nat) (h : eb_H) (i k : Nat) : Value := if eb_isR (eb_kd i) k then va_rf ((eb_R h i k).map ad) else .int (eb_I h i k)
def eb_fs (ad : Nat → Nat) (h : eb_H) (i : Nat) : List Value := (List.range (eb_nf (eb_kd i))).map (eb_fv ad h i)
def eb_cell (cy : Nat → ClassId) (ad : Nat → Nat) (h : eb_H) (i : Nat) : va_E :=
  if eb_kd i < 12 then .inr (eb_kd i, eb_fs ad h i)
  else if eb_kd i = 14 then .inl (cy 14, eb_ln i, .inr (.inl (eb_J h i)))
  else if eb_kd i < 16 ∨ eb_kd i = 19 then .inl (cy (eb_kd i), eb_ln i, .inl (eb_I h i))
  else .inl (cy (eb_kd i), eb_ln i, .inr (.inr (.inr (.inr (fun j => (eb_R h i j).map ad)))))
def eb_wd (cy : Nat → ClassId) (ad : Nat → Nat) (h : eb_H) : va_W := (List.range (eb_n h)).map (fun j => (ad (eb_C h j), eb_cell cy ad h (eb_C h j)))
/-- kinds of arrays: 12 byte, 13 int, 14 long, 15 boolean, 16 State, 17 Tray, 18 Valley, 19 int (a law's own scratch rows) -/
def eb_at (k : Nat) : FieldType := ([.byte, .int, .long, .boolean, .object "EchoBat$State", .object "EchoBat$Tray", .object "EchoBat$Valley", .int] : List FieldType).getD (k - 12) .int
def eb_tys (cy : Nat → ClassId) : List (ClassId × FieldType) := (List.range 8).map (fun j => (cy (12 + j), eb_at (12 + j)))
theorem eb_tys_at (cy : Nat → ClassId) {k : Nat} (h : 12 ≤ k) (h2 : k < 20) : (eb_tys cy)[k - 12]? = some (cy k, eb_at k) := by
  have e : 12 + (k - 12) = k := by omega
  simp [eb_tys, List.getElem?_map, List.getElem?_range (show k - 12 < 8 by omega), e]
theorem eb_cl_at {c : Nat} (h : c < 12) : eb_cl[c]? = some (eb_cn c, eb_T c, eb_nf c) := by
  simp [eb_cl, List.getElem?_map, List.getElem?_range h]
theorem eb_wd_at {cy : Nat → ClassId} {ad : Nat → Nat} {h : eb_H} {i : Nat} (hi : eb_al h i) : (eb_wd cy ad h)[eb_ix i]? = some (ad i, eb_cell cy ad h i) := by
  simp [eb_wd, List.getElem?_map, List.getElem?_range hi.1, hi.2]
theorem eb_wd_set {cy : Nat → ClassId} {ad : Nat → Nat} {h h' : eb_H} {i : Nat} {e : va_E} (hw : eb_wf h) (hi : eb_al h i) (hn : eb_n h' = eb_n h) (hC : eb_C h' = eb_C h) (he : eb_cell cy ad h' i = e) (ho : ∀ c, c ≠ i → eb_cell cy ad h' c = eb_cell cy ad h c) : (eb_wd cy ad h).set (eb_ix i) (ad i, e) = eb_wd cy ad h' := by
  apply List.ext_getElem?
  intro j
  rw [List.getElem?_set]
  by_cases hj : eb_ix i = j
  · subst hj
    have hl : eb_ix i < (eb_wd cy ad h).length := by simpa [eb_wd] using hi.1
    have hi' : eb_al h' i := ⟨by rw [hn]; exact hi.1, by rw [hC]; exact hi.2⟩
    rw [if_pos rfl, if_pos hl, eb_wd_at hi', he]
  · rw [if_neg hj]
    by_cases hjn : j < eb_n h
    · have hne : eb_C h j ≠ i := fun q => hj (by rw [← q]; exact (hw.1 j hjn).1)
      simp [eb_wd, List.getElem?_map, hn, hC, List.getElem?_range hjn, ho _ hne]
    · simp [eb_wd, List.getElem?_map, hn, Nat.le_of_not_lt hjn]
theorem eb_wd_push {cy : Nat → ClassId} {ad ad' : Nat → Nat} {h h' : eb_H} {a : Nat} {e : va_E} (hn : eb_n h' = eb_n h + 1) (hC : ∀ j, j < eb_n h → eb_C h' j = eb_C h j) (ha : ad' (eb_C h' (eb_n h)) = a) (he : eb_cell cy ad' h' (eb_C h' (eb_n h)) = e) (hd : ∀ j, j < eb_n h → ad' (eb_C h j) = ad (eb_C h j)) (ho : ∀ j, j < eb_n h → eb_cell cy ad' h' (eb_C h j) = eb_cell cy ad h (eb_C h j)) : eb_wd cy ad h ++ [(a, e)] = eb_wd cy ad' h' := by
  unfold eb_wd
  rw [hn, List.range_succ, List.map_append]
  congr 1
  · apply List.map_congr_left
    intro j hj
    have hj := List.mem_range.mp hj
    rw [hC j hj, hd j hj, ho j hj]
  · simp [ha, he]
/-! what writing does -/
theorem eb_cell_I {cy : Nat → ClassId} {ad : Nat → Nat} {h : eb_H} {i : Nat} {f : Nat → Int32} {c : Nat} (hc : c ≠ i) : eb_cell cy ad (eb_rI h i f) c = eb_cell cy ad h c := by
  have e1 : eb_I (eb_rI h i f) c = eb_I h c := by simp [eb_I, eb_rI, va_up, hc]
  have e2 : eb_fs ad (eb_rI h i f) c = eb_fs ad h c := by unfold eb_fs; congr 1; funext k; unfold eb_fv; rw [e1]; rfl
  unfold eb_cell
  rw [e1, e2]; rfl
theorem eb_cell_J {cy : Nat → ClassId} {ad : Nat → Nat} {h : eb_H} {i : Nat} {f : Nat → Int64} {c : Nat} (hc : c ≠ i) : eb_cell cy ad (eb_rJ h i f) c = eb_cell cy ad h c := by
  have e1 : eb_J (eb_rJ h i f) c = eb_J h c := by simp [eb_J, eb_rJ, va_up, hc]
  have e2 : eb_fs ad (eb_rJ h i f) c = eb_fs ad h c := rfl
  unfold eb_cell
  rw [e1, e2]; rfl
theorem eb_cell_R {cy : Nat → ClassId} {ad : Nat → Nat} {h : eb_H} {i : Nat} {f : Nat → Option Nat} {c : Nat} (hc : c ≠ i) : eb_cell cy ad (eb_rR h i f) c = eb_cell cy ad h c := by
  have e1 : eb_R (eb_rR h i f) c = eb_R h c := by simp [eb_R, eb_rR, va_up, hc]
  have e2 : eb_fs ad (eb_rR h i f) c = eb_fs ad h c := by unfold eb_fs; congr 1; funext k; unfold eb_fv; rw [e1]; rfl
  unfold eb_cell
  rw [e1, e2]; rfl
theorem eb_wf_rI {h : eb_H} {i : Nat} {f : Nat → Int32} (hw : eb_wf h) : eb_wf (eb_rI h i f) := hw
theorem eb_wf_rJ {h : eb_H} {i : Nat} {f : Nat → Int64} (hw : eb_wf h) : eb_wf (eb_rJ h i f) := hw
theorem eb_wf_rR {h : eb_H} {i : Nat} {f : Nat → Option Nat} (hw : eb_wf h) (hf : ∀ k t, f k = some t → eb_al h t) : eb_wf (eb_rR h i f) := by
  refine ⟨hw.1, fun c hc k t ht => ?_⟩
  by_cases e : c = i
  · subst e
    have : f k = some t := by simpa [eb_R, eb_rR, va_up] using ht
    exact hf k t this
  · have : eb_R h c k = some t := by simpa [eb_R, eb_rR, va_up, e] using ht
    exact hw.2 c hc k t this
theorem eb_fs_at {ad : Nat → Nat} {h : eb_H} {i k : Nat} (hk : k < eb_nf (eb_kd i)) : (eb_fs ad h i)[k]? = some (eb_fv ad h i k) := by
  simp [eb_fs, List.getElem?_map, List.getElem?_range hk]
theorem eb_fs_set {ad : Nat → Nat} {h h' : eb_H} {i k : Nat} {v : Value} (hv : eb_fv ad h' i k = v) (ho : ∀ j, j ≠ k → eb_fv ad h' i j = eb_fv ad h i j) : (eb_fs ad h i).set k v = eb_fs ad h' i := by
  apply List.ext_getElem?
  intro j
  rw [List.getElem?_set]
  by_cases hj : k = j
  · subst hj
    by_cases hk : k < eb_nf (eb_kd i)
    · rw [if_pos rfl, if_pos (by simpa [eb_fs] using hk), eb_fs_at hk, hv]
    · rw [if_pos rfl, if_neg (by simpa [eb_fs] using hk)]
      simp [eb_fs, Nat.le_of_not_lt hk]
  · rw [if_neg hj]
    by_cases hk : j < eb_nf (eb_kd i)
    · rw [eb_fs_at hk, eb_fs_at hk, ho j (fun q => hj q.symm)]
    · simp [eb_fs, Nat.le_of_not_lt hk]
theorem eb_fs_len {ad : Nat → Nat} {h : eb_H} {i : Nat} : (eb_fs ad h i).length = eb_nf (eb_kd i) := by simp [eb_fs]
