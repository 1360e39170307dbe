/-- the claim's start out of the law's walk over the abstract heap -/
theorem eb_arr {s : State} {args : Array Value} (hts : ∀ w ∈ lw_tbl, w.before args s = true) : ∀ k, 12 ≤ k → k < 20 → ∃ cA : ClassId, ArrOfT s cA (eb_at k) ∧ va_RA s cA (eb_at k) := by
  intro k h1 h2
  have hp : ∀ t : FieldType, Cond.arrayClass t ∈ eb_W13 → ∃ cA : ClassId, ArrOfT s cA t ∧ s.vm.findClass ("[" ++ t.toString) = some cA := fun t ht => by
    obtain ⟨c, kA, comp, f1, f2, f3⟩ := Cond.arrayClass_spec (hts _ (eb_gWS _ (eb_inW13 ht)).1)
    exact ⟨c, fun n z => ⟨fun k h => (by cases h), kA, f2, comp, f3⟩, f1⟩
  have ho : ∀ C : String, Cond.arrayOver (.object C) ∈ lw_tbl → ∃ cA : ClassId, ArrOfT s cA (.object C) ∧ va_RA s cA (.object C) := fun C hC => by
    obtain ⟨comp, c, kA, f1, f2, f3, f4, f5⟩ := Cond.arrayOver_spec (hts _ hC)
    exact ⟨c, fun n z => ⟨fun k h => (by cases h), kA, f3, comp, f4⟩, kA, comp, f3, f4, f1, f5⟩
  have : k = 19 ∨ k = 12 ∨ k = 13 ∨ k = 14 ∨ k = 15 ∨ k = 16 ∨ k = 17 ∨ k = 18 := by omega
  rcases this with rfl | rfl | rfl | rfl | rfl | rfl | rfl | rfl
  · exact hp .int (by simp [eb_W13])
  · exact hp .byte (by simp [eb_W13])
  · exact hp .int (by simp [eb_W13])
  · exact hp .long (by simp [eb_W13])
  · exact hp .boolean (by simp [eb_W13])
  · exact ho _ eb_f9.2.1
  · exact ho _ eb_f9.2.2.1
  · exact ho _ eb_f9.2.2.2.1
set_option maxHeartbeats 4000000 in
theorem eb_start {p : Program} {e : Env} {s : State} {m : MethodId} {below : List Frame} {meth : Method} {c : Code} (l : Launch) {b L : Nat} {xs : Nat → Int32} (C0 : lw_At p s m meth c b L xs)
    (HL : eb_Sn 1300 m_L_law (eb_h00 L xs) 0 [(0, .ref 20)] [] (eb_h00 L xs) (fun r h' => r = some (.int 1) ∧ eb_n h' ≤ 600000 ∧ eb_z h' ≤ 7302250)) :
    W p l e room_1 s m #[Value.ref b] below meth c s.heap [] 0 0 (lw_Z below #[Value.ref b] s) (entryFrame m ([Value.ref b] : List Value).toArray 4) := by
  obtain ⟨hx, hb, hr, hml, hown, hts, hX, hbl, hlocks, hgv, hnm⟩ := C0
  obtain ⟨r, h', hSd, rfl, hn, hz⟩ := HL
  have hs := flat_of_before _ hgv
  have hA : ∀ a : Nat, a < s.heap.size → ¬ (fun q : Nat => s.heap.size ≤ q) a := fun a h q => Nat.lt_irrefl _ (Nat.lt_of_lt_of_le h q)
  obtain ⟨adK, adV, hvk, hev⟩ := vk_Sof (args := #[Value.ref b]) (s := s) (N := 21) (tm := eb_tm) (len := eb_sln) (byt := eb_byt) (A := fun q : Nat => s.heap.size ≤ q) (by decide +kernel) (fun i hi => hs _ (eb_f1 i hi)) (fun i hi => hs _ (eb_f2 i hi)) (fun i hi => hs _ (eb_f3 i hi)) (fun i hi => hs _ (eb_f4 i hi)) (fun i hi j hj => hs _ (eb_f5 i hi j hj)) (fun i j hi hj hne => (eb_f6 i hi j hj hne).imp (hs _) (hs _)) hA
  have hcls : ∀ c' : Nat, ∃ q : ClassId × (Nat → Nat), c' < 12 → u_Kn s (eb_cn c') (eb_T c') (eb_nf c') q.1 q.2 := fun c' => by
    by_cases h : c' < 12
    · obtain ⟨cC, iS, hk⟩ := u_known (ws := eb_WS) (T := eb_T c') (N := eb_nf c') (fun w hw => hts w (eb_gWS w hw).1) (eb_lays h) (hts _ (eb_gWS _ (eb_inW9 (List.mem_map.mpr ⟨c', List.mem_range.mpr h, rfl⟩))).1)
      exact ⟨(cC, iS), fun _ => hk⟩
    · exact ⟨(0, fun _ => 0), fun q => absurd q h⟩
  have harr : ∀ k : Nat, ∃ cA : ClassId, 12 ≤ k → k < 20 → ArrOfT s cA (eb_at k) ∧ va_RA s cA (eb_at k) := fun k => by
    by_cases h : 12 ≤ k ∧ k < 20
    · obtain ⟨cA, q⟩ := eb_arr hts k h.1 h.2
      exact ⟨cA, fun _ _ => q⟩
    · exact ⟨0, fun q1 q2 => absurd ⟨q1, q2⟩ h⟩
  obtain ⟨gD, hgD⟩ := Classical.axiomOfChoice hcls
  obtain ⟨gA, hgA⟩ := Classical.axiomOfChoice harr
  have hK : va_K (fun k => (gD k).1, fun k => (gD k).2) eb_cl (eb_tys gA) s := by
    refine ⟨fun k q hq => ?_, fun k q hq => ?_⟩
    · have hk : k < 12 := by
        have := (List.getElem?_eq_some_iff.mp hq).1
        simpa [eb_cl] using this
      rw [eb_cl_at hk] at hq
      cases hq
      exact hgD k hk
    · have hk : k < 8 := by
        have := (List.getElem?_eq_some_iff.mp hq).1
        simpa [eb_tys] using this
      have := eb_tys_at gA (k := 12 + k) (by omega) (by omega)
      rw [show 12 + k - 12 = k by omega, hq] at this
      cases this
      exact hgA (12 + k) (by omega) (by omega)
  have hzq := va_Zqof (A := fun q : Nat => s.heap.size ≤ q) (hts _ eb_f9.2.2.2.2.2.1) (hts _ eb_f9.2.2.2.2.2.2.2) (hs _ eb_f8.2) hA
  obtain ⟨af, hfm⟩ : ∃ af : Nat, va_Z "jdk/internal/util/Preconditions" "SIOOBE_FORMATTER" "Ljava/util/function/BiFunction;" .null (fun q : Nat => s.heap.size ≤ q) s s.heap ∨ va_Z "jdk/internal/util/Preconditions" "SIOOBE_FORMATTER" "Ljava/util/function/BiFunction;" (.ref af) (fun q : Nat => s.heap.size ≤ q) s s.heap := by
    rcases hzq with q | ⟨t, q⟩
    · exact ⟨0, Or.inl q⟩
    · exact ⟨t, Or.inr q⟩
  -- the addresses at the start
  obtain ⟨ad0, a20, a21, a22, a23⟩ : ∃ ad0 : Nat → Nat, ad0 20 = b ∧ (∀ i, ad0 (eb_mk i 21 0) = adK i) ∧ (∀ i, ad0 (eb_mk i 22 0) = adV i) ∧ ad0 (eb_mk 0 23 0) = af := by
    refine ⟨fun c => if eb_kd c = 20 then b else if eb_kd c = 21 then adK (eb_ix c) else if eb_kd c = 22 then adV (eb_ix c) else af, ?_, ?_, ?_, ?_⟩
    · rfl
    · intro i
      simp [eb_mk_kd, eb_mk_ix]
    · intro i
      simp [eb_mk_kd, eb_mk_ix]
    · simp [eb_mk_kd]
  have c1 : eb_C1 m_L_law p s m #[Value.ref b] meth c := ⟨hx, hb, hml, hown, fun w hw => hts w (eb_gWS w hw).1, hnm, ok_L_law⟩
  have hEv : eb_Ev ad0 (fun q : Nat => s.heap.size ≤ q) (eb_h00 L xs) s := by
    refine ⟨⟨fun q hq => va_Nw.of rfl (hts _ (eb_f9.1 q hq)), va_AO.of (hts _ eb_f9.2.1), va_AO.of (hts _ eb_f9.2.2.1), va_AO.of (hts _ eb_f9.2.2.2.1)⟩, ⟨fun q hq => ?_, fun i hi => ?_⟩, ⟨va_Zof (hts _ eb_f9.2.2.2.2.1) (hts _ eb_f9.2.2.2.2.2.2.1) (va_eqi (hs _ eb_f8.1)) hA, by rw [a23]; exact hfm⟩, by rw [a20]; exact hX, by rw [a20]; exact hbl, by rw [a20]; exact hA b hbl⟩
    · have hq2 : q.2.2 < 21 := (show ∀ q ∈ eb_strs, q.2.2 < 21 by decide) q hq
      have hf := eb_f7 q hq
      have e1 := hev q.2.2 hq2
      rw [a21]
      rcases hf.2 with g | g
      · have e2 : eb_tm q.2.2 = .string (eb_cn q.1) q.2.1 := by
          unfold eb_tm
          rw [← g]
        rw [e2] at e1
        exact vk_R.of (hts _ hf.1) e1
      · exact vk_R.of (hts _ hf.1) (va_eqR (hs _ g) e1)
    · rw [a21, a22]
      exact hvk.1 i hi
  have hl := lv_entry ([Value.ref b]) (n := 4) (Nat.le_of_ble_eq_true rfl)
  rw [lg_entry_eq]
  have hS2 := hSd.2 l (fun k => (gD k).1, fun k => (gD k).2) gA (fun q : Nat => s.heap.size ≤ q) p e room_1 s m #[Value.ref b] below meth c ad0 (lw_Z below #[Value.ref b] s) c1 ⟨hK, fun q hq => hq, hEv⟩ ⟨by decide, by decide, Nat.le_trans (Nat.sub_le _ _) hn, Nat.le_trans (Nat.sub_le _ _) hz⟩ ?_ ad0 s.heap [] _ ⟨⟨⟨fun j hj => absurd hj (Nat.not_lt_zero j), fun i hi => absurd hi.1 (Nat.not_lt_zero _)⟩, fun q hq => ?_, fun v hv => (by cases hv)⟩, ⟨fun _ _ => rfl, fun _ q => q, ⟨Nat.le_refl _, Nat.le_refl _⟩, rfl, rfl⟩, ⟨fun k q hq => (by cases hq), ⟨fun i j p q hp => (by cases hp), fun k q hq => (by cases hq)⟩, va_S.rf⟩, by
    have e : ([(0, Value.ref 20)] : List (Nat × Value)).map (eb_cq ad0) = lv_args 0 [Value.ref b] := by
      show [(0, Value.ref (ad0 20))] = _
      rw [a20]
      rfl
    rw [e]
    exact hl⟩
  · exact hS2
  · intro ad ls H locs lsA pc dy hret
    obtain ⟨g1, t, g2, g3⟩ := hret
    refine va_forget (fun q hq => dy.2.2.1.2.2.2.2 q hq) ?_
    refine W.widen (k := 600000) (n := 7302250) (Nat.le_trans (Nat.sub_le _ _) hn) (Nat.le_trans (Nat.sub_le _ _) hz) ?_
    exact lw_ret hx hb hr hlocks g1
  · rcases List.mem_singleton.mp hq with rfl
    exact Or.inl (by decide)

