section EBXTEXT
variable {L : Nat} {xs : Nat → Int32}
theorem C_new {d : Nat} {h : eb_H} {Q : Option Value → eb_H → Prop} (v : Nat) (ev : eb_nx h 9 0 = v) (q : ∀ h', ee_gw (fun _ => False) h h' → eb_n h' = eb_n h + 3 → eb_z h' = eb_z h + 29 → (∀ k, k < 5 → eb_I h' v k = if k = 2 then 3 else if k < 2 then 1 else 0) → (∀ k, eb_I h' (v + 524420) k = 0) → (∀ k, eb_I h' (v + 1049092) k = 0) → eb_R h' v 5 = some (v + 524420) → eb_R h' v 6 = some (v + 1049092) → eb_R h' v 7 = none → eb_R h' v 8 = none → Q none h') : eb_Ct (d + 1) 79 [.ref v] (eb_nw h 9 0 (eb_nf 9)) Q := by
  have kv : eb_kd v = 9 := by rw [← ev]; exact eb_mk_kd (by decide)
  have ixv : eb_ix v = eb_n h := by rw [← ev]; exact eb_mk_ix (by decide) (by decide)
  have vv : v = 524288 * eb_n h + 9 := by rw [← ev]; unfold eb_nx eb_mk; omega
  refine T_X9_init (d := d) _ kv ?_
  intro h1 e1 h3 e3 h5 e5 h7 e7 h9 e9 r13 er13 h11 e11 h15 e15 r19 er19 h17 e17 h21 e21 h23 e23 h25 e25
  have n9 : eb_n h9 = eb_n h + 1 := by rw [e9, e7, e5, e3, e1]; rfl
  have z9 : eb_z h9 = eb_z h + 9 := by rw [e9, e7, e5, e3, e1]; rfl
  have G9 : ee_gw (fun _ => False) h h9 := by
    rw [e9, e7, e5, e3, e1]
    exact (((((ee_gw.rfl.nw (by decide) (by decide)).sIn (by omega)).sIn (by omega)).sIn (by omega)).sIn (by omega)).sIn (by omega)
  have n11 : eb_n h11 = eb_n h + 2 := by rw [e11]; show eb_n h9 + 1 = _; omega
  have z11 : eb_z h11 = eb_z h + 13 := by rw [e11]; show eb_z h9 + 4 = _; omega
  have n15 : eb_n h15 = eb_n h + 2 := by rw [e15]; exact n11
  have z15 : eb_z h15 = eb_z h + 13 := by rw [e15]; exact z11
  have n17 : eb_n h17 = eb_n h + 3 := by rw [e17]; show eb_n h15 + 1 = _; omega
  have z17 : eb_z h17 = eb_z h + 29 := by rw [e17]; show eb_z h15 + 16 = _; omega
  have n25 : eb_n h25 = eb_n h + 3 := by rw [e25, e23, e21]; exact n17
  have z25 : eb_z h25 = eb_z h + 29 := by rw [e25, e23, e21]; exact z17
  have v13 : r13 = v + 524420 := by rw [er13]; unfold eb_nx eb_mk; omega
  have v19 : r19 = v + 1049092 := by rw [er19]; unfold eb_nx eb_mk; omega
  have G11 : ee_gw (fun _ => False) h h11 := by rw [e11]; exact G9.nw (by decide) (by decide)
  have G15 : ee_gw (fun _ => False) h h15 := by rw [e15]; exact G11.sRn (by omega)
  have G17 : ee_gw (fun _ => False) h h17 := by rw [e17]; exact G15.nw (by decide) (by decide)
  have G25 : ee_gw (fun _ => False) h h25 := by rw [e25, e23, e21]; exact ((G17.sRn (by omega)).sRn (by omega)).sRn (by omega)
  have d1 : v ≠ eb_nx h9 13 4 := by rw [← er13, v13]; omega
  have d2 : v ≠ eb_nx h15 13 16 := by rw [← er19, v19]; omega
  have d3 : v + 524420 ≠ eb_nx h15 13 16 := by rw [← er19, v19]; omega
  have I25 : eb_I h25 = eb_I h17 := by rw [e25, e23, e21]; rfl
  have I15 : eb_I h15 = eb_I h11 := by rw [e15]; rfl
  have Iv : eb_I h25 v = eb_I h9 v := by rw [I25, e17, ee_nw_I d2, I15, e11, ee_nw_I d1]
  refine q h25 G25 n25 z25 (fun k hk => ?_) (fun k => ?_) (fun k => ?_) ?_ ?_ ?_ ?_
  · rw [Iv, e9, e7, e5, e3, e1]
    simp only [eb_I_sI]
    have : k = 0 ∨ k = 1 ∨ k = 2 ∨ k = 3 ∨ k = 4 := by omega
    rcases this with rfl | rfl | rfl | rfl | rfl <;> rfl
  · rw [I25, e17, ee_nw_I d3, I15, e11, ← v13, er13, ee_nw_I0]
  · rw [I25, e17, ← v19, er19, ee_nw_I0]
  · rw [e25, eb_R_sR, if_neg (by decide), e23, eb_R_sR, if_neg (by decide), e21, eb_R_sR, if_neg (by decide), e17, ee_nw_R d2, e15, eb_R_sR, if_pos rfl, v13]
  · rw [e25, eb_R_sR, if_neg (by decide), e23, eb_R_sR, if_neg (by decide), e21, eb_R_sR, if_pos rfl, v19]
  · rw [e25, eb_R_sR, if_neg (by decide), e23, eb_R_sR, if_pos rfl]
  · rw [e25, eb_R_sR, if_pos rfl]
theorem ee_gw.sR2 {P : Nat → Prop} {h h' : eb_H} {i k : Nat} {x : Option Nat} (a : ee_gw P h h') (hi : eb_ix i < eb_n h) : ee_gw P (eb_sR h i k x) (eb_sR h' i k x) := by
  refine ⟨a.1, fun c z => ⟨(a.2 c z).1, (a.2 c z).2.1, ?_⟩⟩
  by_cases e : c = i
  · subst e
    funext j
    rw [eb_R_sR, eb_R_sR, (a.2 c z).2.2]
  · rw [eb_R_sRn e, eb_R_sRn e]
    exact (a.2 c z).2.2
theorem ee_D0_a0 : ∀ j, j < 52 → (j < 5 ∨ 11 ≤ j) ∧ (ee_at j).1 = 0 → (ee_at j).2 < 5 ∧ ee_D0.1 j = if (ee_at j).2 = 2 then 3 else if (ee_at j).2 < 2 then 1 else 0 := by decide +kernel
theorem ee_D0_a1 : ∀ j, j < 52 → (j < 5 ∨ 11 ≤ j) ∧ (ee_at j).1 = 1 → ee_D0.1 j = 0 := by decide +kernel
theorem ee_D0_a2 : ∀ j, j < 52 → (j < 5 ∨ 11 ≤ j) ∧ (ee_at j).1 = 2 → ee_D0.1 j = 0 := by decide +kernel
theorem ee_D0_a3 : ∀ j, j < 52 → (j < 5 ∨ 11 ≤ j) ∧ (ee_at j).1 = 3 → (ee_at j).2 < 5 ∧ ee_D0.1 j = 0 := by decide +kernel
theorem ee_D0_a4 : ∀ j, j < 52 → (j < 5 ∨ 11 ≤ j) ∧ (ee_at j).1 = 4 → (ee_at j).2 < 16 ∧ ee_D0.1 j = 0 := by decide +kernel
theorem C_text {d : Nat} {h : eb_H} {Q : Option Value → eb_H → Prop} {tx : Nat → Nat} {n : Nat} (ht : ∀ j, j < n → tx j < 256) (hn : n ≤ 900) (tt : ∀ j, j < n → eb_I h s_tape_text j = (nI (tx j)).toInt8.toInt32) (ko : eb_KO h) (h89 : 89 ≤ eb_n h) (v : Nat) (ev : eb_nx h 9 0 = v) (K : ∀ h', ee_XM (eb_sR h s_reader 2 (some v)) h' v tx n (ee_text tx n) → Q none h') : eb_Ct (d + 10) 46 [.ref s_reader, .int (nI n)] h Q := by
  have kv : eb_kd v = 9 := by rw [← ev]; exact eb_mk_kd (by decide)
  have lv : eb_ln v = 0 := by rw [← ev]; exact eb_mk_ln (by decide) (by decide)
  have ixv : eb_ix v = eb_n h := by rw [← ev]; exact eb_mk_ix (by decide) (by decide)
  have hv : ee_vk v := ⟨kv, lv, by omega⟩
  have nv : v ≠ s_reader := fun e => by
    have : eb_ix s_reader = 1 := by decide
    rw [e] at ixv
    omega
  refine T_X5_readText (d := d + 9) _ ko ⟨h89, ?_⟩
  rw [ev]
  refine C_new (d := d + 8) v ev (fun h2 F2 n2 z2 i2 j2 k2 r5 r6 r7 r8 => ⟨rfl, F2.ko ko h89, ?_⟩)
  have k3 : eb_KO (eb_sR h2 s_reader 2 (some v)) := ko_sR (by decide) (F2.ko ko h89)
  have B3 : ee_XB (eb_sR h s_reader 2 (some v)) (eb_sR h2 s_reader 2 (some v)) v := by
    refine ⟨⟨(F2.weak (fun c z => z.elim)).sR2 (by have : eb_ix s_reader = 1 := by decide
                                                   omega), k3, ?_⟩, hv, ⟨ixv, by show eb_ix v + 3 ≤ eb_n h2; omega⟩, by rw [eb_R_sR, if_pos rfl], by rw [eb_R_sRn nv]; exact r5, by rw [eb_R_sRn nv]; exact r6⟩
    show eb_I h2 s_tape 1 = eb_I h s_tape 1
    rw [(F2.2 s_tape (Nat.lt_of_lt_of_le (by decide) h89)).1 (fun z => z)]
  have C7 : eb_R (eb_sR h2 s_reader 2 (some v)) v 7 = none := by rw [eb_R_sRn nv]; exact r7
  have C8 : eb_R (eb_sR h2 s_reader 2 (some v)) v 8 = none := by rw [eb_R_sRn nv]; exact r8
  have T3 : eb_I (eb_sR h2 s_reader 2 (some v)) s_tape_text = eb_I h s_tape_text := (F2.2 s_tape_text (Nat.lt_of_lt_of_le (by decide) h89)).1 (fun z => z)
  have i2 : ∀ k, k < 5 → eb_I (eb_sR h2 s_reader 2 (some v)) v k = if k = 2 then 3 else if k < 2 then 1 else 0 := i2
  have j2 : ∀ k, eb_I (eb_sR h2 s_reader 2 (some v)) (v + 524420) k = 0 := j2
  have k2 : ∀ k, eb_I (eb_sR h2 s_reader 2 (some v)) (v + 1049092) k = 0 := k2
  have n3 : eb_n (eb_sR h2 s_reader 2 (some v)) = eb_n h + 3 := n2
  have z3 : eb_z (eb_sR h2 s_reader 2 (some v)) = eb_z h + 29 := z2
  generalize eb_sR h2 s_reader 2 (some v) = h3 at k3 B3 C7 C8 T3 i2 j2 k2 n3 z3 ⊢
  clear r5 r6 r7 r8 F2 n2 z2
  have Fb : ec_fr (fun c => c = s_tape ∨ c = s_reader_start ∨ c = s_reader_start_things) h3 (eb_sI (eb_sI (eb_sI (eb_sI (eb_sI h3 s_reader_start 0 0) s_reader_start 1 0) s_reader_start 2 0) s_reader_start 3 0) s_reader_start 4 0) := ((((ec_fr.rfl.sI (Or.inr (Or.inl rfl))).sI (Or.inr (Or.inl rfl))).sI (Or.inr (Or.inl rfl))).sI (Or.inr (Or.inl rfl))).sI (Or.inr (Or.inl rfl))
  have Sb : ∀ k, k < 5 → eb_I (eb_sI (eb_sI (eb_sI (eb_sI (eb_sI h3 s_reader_start 0 0) s_reader_start 1 0) s_reader_start 2 0) s_reader_start 3 0) s_reader_start 4 0) s_reader_start k = 0 := fun k hk => by
    simp only [eb_I_sI]
    have : k = 0 ∨ k = 1 ∨ k = 2 ∨ k = 3 ∨ k = 4 := by omega
    rcases this with rfl | rfl | rfl | rfl | rfl <;> rfl
  have fb : eb_I (eb_sI (eb_sI (eb_sI (eb_sI (eb_sI h3 s_reader_start 0 0) s_reader_start 1 0) s_reader_start 2 0) s_reader_start 3 0) s_reader_start 4 0) s_tape = eb_I h3 s_tape := by
    rw [eb_I_sIn (by decide), eb_I_sIn (by decide), eb_I_sIn (by decide), eb_I_sIn (by decide), eb_I_sIn (by decide)]
  refine T_X6_clearAll (d := d + 8) s_reader_start (by decide) k3 ?_
  generalize eb_sI (eb_sI (eb_sI (eb_sI (eb_sI h3 s_reader_start 0 0) s_reader_start 1 0) s_reader_start 2 0) s_reader_start 3 0) s_reader_start 4 0 = hb at Fb Sb fb ⊢
  have kb := Fb.ko k3
  refine ⟨s_reader_start_things, ko_s_reader_start_5 kb, by decide, C_fillI s_reader_start_things 0 (by decide) kb (fun h5 F5 z5 => ⟨rfl, F5.ko kb, rfl, F5.ko kb, ?_⟩)⟩
  have k5 := F5.ko kb
  have G5 : ec_fr (fun c => c = s_tape ∨ c = s_reader_start ∨ c = s_reader_start_things) h3 h5 := Fb.trans (F5.weak (fun c z => Or.inr (Or.inr z)))
  have S5 : ∀ k, k < 5 → eb_I h5 s_reader_start k = 0 := fun k hk => by
    rw [F5.2.2 _ (by decide)]
    exact Sb k hk
  have z5 : ∀ i, i < 16 → eb_I h5 s_reader_start_things i = 0 := z5
  have f5 : eb_I h5 s_tape 1 = eb_I h3 s_tape 1 := by
    rw [F5.2.2 _ (by decide), fb]
  have t5 : eb_I h5 s_tape_text = eb_I h s_tape_text := by
    rw [G5.2.2 _ (by decide)]
    exact T3
  clear Fb Sb fb kb F5
  refine T_X7_open (d := d + 8) _ k5 ?_
  have e9 : (if (900 : Int32) < nI n then 900 else nI n : Int32) = nI n := if_neg (fun z => by
    have := (nI_ltI (a := 900) (by decide) (by omega)).mp z
    omega)
  rw [e9]
  have G6 : ec_fr (fun c => c = s_tape ∨ c = s_reader_start ∨ c = s_reader_start_things) h3 (eb_sI (eb_sI (eb_sI (eb_sI h5 s_tape 2 (nI n)) s_tape 4 0) s_tape 7 0) s_tape 8 (-1)) := (((G5.sI (Or.inl rfl)).sI (Or.inl rfl)).sI (Or.inl rfl)).sI (Or.inl rfl)
  have f6 : eb_I (eb_sI (eb_sI (eb_sI (eb_sI h5 s_tape 2 (nI n)) s_tape 4 0) s_tape 7 0) s_tape 8 (-1)) s_tape 1 = eb_I h3 s_tape 1 := by
    simp only [eb_I_sI]
    exact f5
  have I6 : ∀ k, k = 2 ∨ k = 4 ∨ k = 7 ∨ k = 8 → eb_I (eb_sI (eb_sI (eb_sI (eb_sI h5 s_tape 2 (nI n)) s_tape 4 0) s_tape 7 0) s_tape 8 (-1)) s_tape k = if k = 8 then -1 else if k = 2 then nI n else 0 := fun k hk => by
    simp only [eb_I_sI]
    rcases hk with rfl | rfl | rfl | rfl <;> rfl
  have O6 : ∀ c, c ≠ s_tape → eb_I (eb_sI (eb_sI (eb_sI (eb_sI h5 s_tape 2 (nI n)) s_tape 4 0) s_tape 7 0) s_tape 8 (-1)) c = eb_I h5 c := fun c hc => by
    rw [eb_I_sIn hc, eb_I_sIn hc, eb_I_sIn hc, eb_I_sIn hc]
  generalize eb_sI (eb_sI (eb_sI (eb_sI h5 s_tape 2 (nI n)) s_tape 4 0) s_tape 7 0) s_tape 8 (-1) = h6 at G6 f6 I6 O6 ⊢
  have k6 := G6.ko k3
  have TX6 : ee_TX h6 tx n := ⟨fun j hj => by
    rw [O6 _ (by decide), t5]
    exact tt j hj, I6 2 (by decide)⟩
  refine C_av (d := d + 2) ht hn TX6 0 (Nat.zero_le _) (I6 4 (by decide)) (I6 7 (by decide)) (I6 8 (by decide)) k6 (fun h8 F8 t8 => ⟨rfl, F8.1.ko k6, rfl, F8.1.ko k6, ?_⟩)
  have G8 : ec_fr (fun c => c = s_tape ∨ c = s_reader_start ∨ c = s_reader_start_things) h3 h8 := G6.trans (F8.1.weak (fun c z => Or.inl z))
  have V8 : ee_vf v h3 h8 := ⟨G8.weak (fun c z => by
    rcases z with z | z | z
    · exact Or.inl z
    · exact Or.inr ⟨3, by decide, z⟩
    · exact Or.inr ⟨4, by decide, z⟩), F8.2.trans f6⟩
  have O8 : ∀ c, c ≠ s_tape → eb_I h8 c = eb_I h5 c := fun c hc => by
    rw [F8.1.2.2 c hc]
    exact O6 c hc
  have A8 : ∀ t, t < 3 → eb_I h8 (ee_ce v t) = eb_I h3 (ee_ce v t) := fun t ht3 => by
    refine G8.2.2 _ (fun z => ?_)
    rcases z with z | z | z
    · exact (ee_ce_ne hv (by omega)).1 z
    · have := ee_ce_inj (t := t) (u := 3) hv (by omega) (by decide) z
      omega
    · have := ee_ce_inj (t := t) (u := 4) hv (by omega) (by decide) z
      omega
  have X8 : ee_XR (eb_sR h s_reader 2 (some v)) h8 v tx n 0 ee_D0 := by
    refine ⟨B3.vf V8, t8, fun j hj hj2 => ?_, ⟨?_, ?_⟩, Nat.zero_le _⟩
    · have a0 : (ee_at j).1 = 0 → _ := fun z => ee_D0_a0 j hj ⟨hj2, z⟩
      have a1 : (ee_at j).1 = 1 → _ := fun z => ee_D0_a1 j hj ⟨hj2, z⟩
      have a2 : (ee_at j).1 = 2 → _ := fun z => ee_D0_a2 j hj ⟨hj2, z⟩
      have a3 : (ee_at j).1 = 3 → _ := fun z => ee_D0_a3 j hj ⟨hj2, z⟩
      have a4 : (ee_at j).1 = 4 → _ := fun z => ee_D0_a4 j hj ⟨hj2, z⟩
      have hl := ee_at_lt j hj hj2
      generalize ee_at j = w at a0 a1 a2 a3 a4 hl
      obtain ⟨t, k⟩ := w
      dsimp only at a0 a1 a2 a3 a4 hl ⊢
      rcases ee_ce_cases hl with rfl | rfl | rfl | rfl | rfl
      · rw [A8 0 (by decide), (a0 rfl).2]
        exact i2 k (a0 rfl).1
      · rw [A8 1 (by decide), a1 rfl]
        exact j2 k
      · rw [A8 2 (by decide), a2 rfl]
        exact k2 k
      · rw [(a3 rfl).2]
        show eb_I h8 s_reader_start k = 0
        rw [O8 _ (by decide)]
        exact S5 k (a3 rfl).1
      · rw [(a4 rfl).2]
        show eb_I h8 s_reader_start_things k = 0
        rw [O8 _ (by decide)]
        exact z5 k (a4 rfl).1
    · show eb_R h8 v 7 = none
      rw [G8.R]
      exact C7
    · show eb_R h8 v 8 = none
      rw [G8.R]
      exact C8
  have n8 : eb_n h8 = eb_n h + 3 := G8.1.1.trans n3
  have z8 : eb_z h8 = eb_z h + 29 := G8.1.2.1.trans z3
  refine C_opn (d := d) ht hn X8 (fun h9 F9 x9 => ⟨rfl, F9.1.ko X8.ko, ?_⟩)
  have n9 : eb_n h9 = eb_n h + 3 := F9.1.1.1.trans n8
  have z9 : eb_z h9 = eb_z h + 29 := F9.1.1.2.1.trans z8
  unfold ee_text at K
  rcases x9 with ⟨y, e, x9⟩ | ⟨e, x9⟩
  · have q1 := K h9 (Or.inl ⟨y, ee_rb_f e, x9, by
      show eb_n h9 ≤ eb_n h + 83 + 4 * n ∧ eb_z h9 ≤ eb_z h + 869 + 42 * n
      omega⟩)
    obtain ⟨b1, p1, _, t1⟩ := x9
    exact b_X5_readText_32 (d := d + 9) _ _ b1.ko ⟨fun _ => q1, fun _ => ⟨fun _ => q1, fun z => absurd (t1.2.2.2.2.2.1.symm.trans z) t1.2.2.2.2.2.2.2⟩⟩
  · obtain ⟨w1, a, b, c, dw⟩ := ee_opn_dw hn e
    obtain ⟨ea, eb, ec⟩ := dw.abc
    rw [ee_rb_n e, ea, eb, ec] at K
    exact C_lns (d := d) ht hn 1000 0 _ 0 _ h9 (by omega) (Nat.zero_le _) dw x9 (by
      show eb_n h9 ≤ eb_n h + 3 + 4 * _ ∧ eb_z h9 ≤ eb_z h + 29 + 11 * _
      omega) K
end EBXTEXT
