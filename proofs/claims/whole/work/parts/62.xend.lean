section EBXEND
variable {L : Nat} {xs : Nat → Int32}
theorem C_end {d : Nat} {h g0 : eb_H} {Q : Option Value → eb_H → Prop} {tx : Nat → Nat} {n p v : Nat} {D : ee_D} (ht : ∀ j, j < n → tx j < 256) (hn : n ≤ 900) (x : ee_XR g0 h v tx n p D) (q : ∀ h', ee_vf v h h' → ee_XQ g0 h' v tx n (ee_end tx n p D) → Q none h') : eb_Ct (d + 8) 50 [.ref s_reader] h Q := by
  have hv := x.1.vk
  have hp := x.2.2.2.2
  unfold ee_end at q
  refine T_X5_endLine (d := d + 7) x.ko (T_X5_expect (d := d + 6) 2 (by decide) x.ko (C_semi (d := d + 2) ht hn hp x.2.1 x.ko ⟨_, rfl, x.ko, fun z => ?_, fun z => ?_⟩))
  · rw [ee_i01] at z
    rw [if_neg z] at q
    refine C_flR hn x 2 (by decide) (fun h5 F5 x5 => ⟨rfl, x5.ko, rfl, x5.ko, v, x5.1.2.2.2.1, hv.1, ?_⟩)
    exact q _ (F5.vf.sI (t := 0) hv (by decide)) (Or.inl ⟨_, rfl, x5.set (t := 0) (by decide)⟩)
  · rw [ee_i01] at z
    have z := Decidable.not_not.mp z
    rw [if_pos z] at q
    refine C_nxR (d := d) ht hn x (by omega) (fun h8 F8 x8 => ⟨rfl, x8.ko, rfl, x8.ko, v, x8.1.2.2.2.1, hv.1, ?_⟩)
    have i3 : eb_I h8 v 3 = D.1 0 := x8.2.2.1 0 (by decide) (by decide)
    rw [i3]
    exact q _ (F8.vf.sI (t := 0) hv (by decide)) (Or.inr ⟨rfl, x8.set (j := 0) (by decide) (by decide)⟩)
theorem C_exp0 {d : Nat} {h g0 : eb_H} {Q : Option Value → eb_H → Prop} {tx : Nat → Nat} {n v : Nat} {y : Int32 × Int32} (ht : ∀ j, j < n → tx j < 256) (hn : n ≤ 900) (x : ee_XF g0 h v tx n y) (i : Nat) (hi : i < 21) (q : ∀ h', ee_ft h h' → ee_XF g0 h' v tx n y → Q none h') : eb_Ct (d + 7) 49 [.ref s_reader, .ref (eb_mk i 21 0)] h Q := by
  have x0 := x
  obtain ⟨b, p, hp, t⟩ := x
  refine T_X5_expect (d := d + 6) i hi b.ko (C_is (d := d + 2) ht hn hp t i hi b.ko ⟨_, rfl, b.ko, fun _ => ?_, fun _ => ?_⟩)
  · exact C_fl0 x0 2 (by decide) (fun h5 F5 x5 => ⟨rfl, x5.ko, q h5 F5 x5⟩)
  · exact C_nx0 (d := d) ht hn x0 (fun h5 F5 x5 => ⟨rfl, x5.ko, q h5 F5 x5⟩)
theorem C_end0 {d : Nat} {h g0 : eb_H} {Q : Option Value → eb_H → Prop} {tx : Nat → Nat} {n v : Nat} {y : Int32 × Int32} (ht : ∀ j, j < n → tx j < 256) (hn : n ≤ 900) (x : ee_XF g0 h v tx n y) (q : ∀ h', ee_vf v h h' → ee_XF g0 h' v tx n y → Q none h') : eb_Ct (d + 8) 50 [.ref s_reader] h Q := by
  have hv := x.1.vk
  refine T_X5_endLine (d := d + 7) x.ko (C_exp0 (d := d) ht hn x 2 (by decide) (fun h5 F5 x5 => ⟨rfl, x5.ko, v, x5.1.2.2.2.1, hv.1, ?_⟩))
  exact q _ (F5.vf.sI (t := 0) hv (by decide)) (x5.set (t := 0) (by decide))
/-- a line and its ; -/
def ee_lnE (tx : Nat → Nat) (n p a b c s : Nat) (D : ee_D) : ee_R := ee_rb (ee_line tx n p a b c s D) (fun p1 D1 => ee_end tx n p1 D1)
theorem C_endQ {d : Nat} {h g0 : eb_H} {Q : Option Value → eb_H → Prop} {tx : Nat → Nat} {n v : Nat} {r : ee_R} (ht : ∀ j, j < n → tx j < 256) (hn : n ≤ 900) (x : ee_XQ g0 h v tx n r) (q : ∀ h', ee_vf v h h' → ee_XQ g0 h' v tx n (ee_rb r (fun p1 D1 => ee_end tx n p1 D1)) → Q none h') : eb_Ct (d + 8) 50 [.ref s_reader] h Q := by
  rcases x with ⟨y, e, x⟩ | ⟨e, x⟩
  · exact C_end0 (d := d) ht hn x (fun h' F' x' => q h' F' (Or.inl ⟨y, ee_rb_f e, x'⟩))
  · rw [ee_rb_n e] at q
    exact C_end (d := d) ht hn x q
/-! the laws -/
theorem ee_gw.ce {h h' : eb_H} {v t : Nat} (a : ee_gw ee_ftq h h') (hv : ee_vk v) (h3 : eb_ix v + 3 ≤ eb_n h) (ht : t < 5) : eb_I h' (ee_ce v t) = eb_I h (ee_ce v t) := by
  obtain ⟨n1, n2, n3⟩ := ee_ce_ne hv ht
  obtain ⟨i1, i2⟩ := ee_ce_ix hv ht
  have h9 := hv.2.2
  refine (a.2 _ ?_).1 (fun u => ?_)
  · by_cases t3 : t < 3
    · have := i1 t3; omega
    · have := i2 (by omega); omega
  · rcases u with u | u
    · exact n3 u
    · exact n1 u
theorem ee_ftq_ix {c : Nat} (h : ee_ftq c) : eb_ix c < 89 := by
  rcases h with (h | h | h) | h <;> rw [h] <;> decide
theorem ee_XB.law {g0 h h' : eb_H} {v k l : Nat} (b : ee_XB g0 h v) (a : ee_gw ee_ftq h h') (ko : eb_KO h') (hk : k = 7 ∨ k = 8) (e1 : eb_I h' s_tape 1 = eb_I h s_tape 1) : ee_XB g0 (eb_sR h' v k (some l)) v := by
  obtain ⟨⟨b1, b2, b3⟩, hv, ⟨b4, b5⟩, b6, b7, b8⟩ := b
  have h9 := hv.2.2
  have vr := (a.2 v (by omega)).2.2
  have sr := (a.2 s_reader (by have : eb_ix s_reader = 1 := by decide
                               omega)).2.2
  have nv : s_reader ≠ v := fun e => by
    have : eb_ix s_reader = 1 := by decide
    rw [e] at this
    omega
  have k5 : ¬ 5 = k := by omega
  have k6 : ¬ 6 = k := by omega
  refine ⟨⟨(b1.trans (a.weak (fun c z => Or.inl z))).sRn (by omega), ?_, e1.trans b3⟩, hv, ⟨b4, Nat.le_trans b5 a.1.1⟩, ?_, ?_, ?_⟩
  · rcases hk with rfl | rfl
    · exact ko_sRk hv.1 (by decide) ko
    · exact ko_sRk hv.1 (by decide) ko
  · rw [eb_R_sRn nv, sr]; exact b6
  · rw [eb_R_sR, if_neg k5, vr]; exact b7
  · rw [eb_R_sR, if_neg k6, vr]; exact b8
theorem ee_CL.law {g0 h h' : eb_H} {v k k' l : Nat} {o : Option (List Nat)} (r : ee_CL h v k' o) (b : ee_XB g0 h v) (a : ee_gw ee_ftq h h') (hk : k' ≠ k) : ee_CL (eb_sR h' v k (some l)) v k' o := by
  obtain ⟨⟨b1, b2, b3⟩, hv, ⟨b4, b5⟩, b6, b7, b8⟩ := b
  have h9 := hv.2.2
  have vr := (a.2 v (by omega)).2.2
  cases o with
  | none =>
    show eb_R (eb_sR h' v k (some l)) v k' = none
    rw [eb_R_sR, if_neg hk, vr]
    exact r
  | some cs =>
    obtain ⟨l', r1, r2, r3⟩ := r
    refine ⟨l', by rw [eb_R_sR, if_neg hk, vr]; exact r1, r2, r3.mv a.1.1 (fun c z1 z2 => ?_)⟩
    have m := a.2 c z2
    refine ⟨m.1 (fun u => ?_), ?_⟩
    · have := ee_ftq_ix u
      omega
    · rw [eb_R_sRn (fun e : c = v => by rw [e] at z1; omega)]
      exact m.2.2
theorem C_lawX {d : Nat} {h g0 : eb_H} {R : eb_H → Prop} {tx : Nat → Nat} {n p v : Nat} {D : ee_D} (ht : ∀ j, j < n → tx j < 256) (hn : n ≤ 900) (x : ee_XR g0 h v tx n p D) (nb : ee_k tx n p ≠ 25) (tk : Bool) (xv : Int32) (hx : xv = 0 ↔ ¬ tk = true) (k : Nat) (hk : k = if tk = true then 8 else 7) (h3 : p + 3 ≤ ee_e tx n p)
    (qf : ∀ y, (ee_law tx n tk p).2.1 = some y → ∀ h', ee_XF g0 h' v tx n y → eb_n h' = eb_n h + 4 → eb_z h' ≤ eb_z h + 940 → R h')
    (qo : (ee_law tx n tk p).2.1 = none → ∀ h', ee_XR g0 h' v tx n (ee_law tx n tk p).1 (ee_setl D tk (ee_law tx n tk p).2.2) → ee_k tx n (ee_law tx n tk p).1 = 30 → p + 3 < (ee_law tx n tk p).1 → eb_n h' = eb_n h + 4 → eb_z h' = eb_z h + (41 + (ee_law tx n tk p).2.2.length) → R h') :
    eb_Ct (d + 7) 28 [.ref s_reader_laws, .int xv] h (fun r h52 => ∃ y53, r = some (.ref y53) ∧ eb_KO h52 ∧ (eb_kd y53 = 2) ∧ R (eb_sR h52 v k (some y53))) := by
  obtain ⟨x1, x2, x3, ⟨x4, x5⟩, x6⟩ := x
  have hv := x1.vk
  have h9 := hv.2.2
  have h5 := x1.2.2.1.2
  have k78 : k = 7 ∨ k = 8 := by
    rw [hk]
    cases tk
    · exact Or.inl rfl
    · exact Or.inr rfl
  have t := x2
  rw [(ee_nf_n hn).mpr nb] at t
  refine C_rt (d := d) ht hn tk xv hx t x6 h3 x1.ko (by omega) (fun y ey l h' K a1 a2 a3 a4 a5 a6 a7 a8 a9 => ⟨l, rfl, a2, ?_, ?_⟩) (fun ey l h' a1 a2 a3 a4 a6 a7 k30 lt le a8 a9 => ⟨l, rfl, a2, ?_, ?_⟩)
  · obtain ⟨c, st, nm, z, _⟩ := a9
    exact z.1
  · obtain ⟨p', hp', t'⟩ := a7
    exact qf y ey _ ⟨x1.law a1 a2 k78 a6, p', hp', t'.eq rfl rfl⟩ a3 (by show eb_z h' ≤ _; omega)
  · obtain ⟨c, st, nm, z, _⟩ := a9
    exact z.1
  · have B := x1.law (l := l) a1 a2 k78 a6
    have new : ee_CL (eb_sR h' v k (some l)) v k (some (ee_law tx n tk p).2.2) := by
      refine ⟨l, by rw [eb_R_sR, if_pos rfl], by omega, a9.mv (Nat.le_refl _) (fun c z1 z2 => ⟨rfl, ?_⟩)⟩
      rw [eb_R_sRn (fun e : c = v => by rw [e] at z1; omega)]
    have Y : ee_XR g0 (eb_sR h' v k (some l)) v tx n (ee_law tx n tk p).1 (ee_setl D tk (ee_law tx n tk p).2.2) := by
      refine ⟨B, ?_, fun j hj hj2 => ?_, ?_, le⟩
      · rw [(ee_nf_n hn).mpr (by omega)]
        exact a7.eq rfl rfl
      · show eb_I h' _ _ = D.1 j
        rw [a1.ce hv (by omega) (ee_at_lt j hj hj2)]
        exact x3 j hj hj2
      · cases tk
        · have e7 : k = 7 := hk
          subst e7
          exact ⟨new, x5.law x1 a1 (by decide)⟩
        · have e8 : k = 8 := hk
          subst e8
          exact ⟨x4.law x1 a1 (by decide), new⟩
    exact qo ey _ Y k30 lt a3 a4
end EBXEND
