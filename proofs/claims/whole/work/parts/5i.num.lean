section EBNUM
variable {L : Nat} {xs : Nat → Int32}
/-- a number within bounds -/
abbrev ee_ok (tx : Nat → Nat) (n p lo hi : Nat) : Prop := ee_k tx n p = 23 ∧ lo ≤ ee_v tx n p ∧ ee_v tx n p ≤ hi
def ee_nfa (tx : Nat → Nat) (n p : Nat) : Int32 × Int32 := ee_fa tx n p (if ee_k tx n p = 23 then 3 else 2)
theorem C_num0 {d : Nat} {h : eb_H} {Q : Option Value → eb_H → Prop} {tx : Nat → Nat} {n p : Nat} {y : Int32 × Int32} (t : ee_XT h tx n p (some y)) (x1 x2 : Int32) (ko : eb_KO h) (q : ∀ h', ee_ft h h' → ee_XT h' tx n p (some y) → Q (some (.int x1)) h') : eb_Ct (d + 1) 51 [.ref s_reader, .int x1, .int x2] h Q := by
  have nz : ∀ g, ee_XT g tx n p (some y) → ¬ eb_I g s_tape 7 = 0 := fun g t z => t.2.2.2.2.2.2.2 (t.2.2.2.2.2.1.symm.trans z)
  have F : ∀ c : Int32, c ≠ 0 → ∀ (R : eb_H → Prop), eb_Ct d 68 [.ref s_tape, .int c] h (fun r h3 => r = none ∧ eb_KO h3 ∧ (((eb_I h3 s_tape 7) = 0 → R h3) ∧ (¬ ((eb_I h3 s_tape 7) = 0) → Q (some (.int x1)) h3))) := fun c hc R => C_fl t c hc ko (fun h' F' t' => ⟨rfl, F'.1.ko ko, fun z => absurd z (nz h' t'), fun _ => q h' F' t'⟩)
  exact T_X5_number (d := d) _ _ ko ⟨fun _ => ⟨fun _ => F 3 (by decide) _, fun _ => ⟨fun _ => ⟨fun z => absurd z (nz h t), fun _ => q h ee_ft.rfl t⟩, fun _ => F 3 (by decide) _⟩⟩, fun _ => F 2 (by decide) _⟩
theorem ee_k23_so {tx : Nat → Nat} {n p : Nat} (hn : n ≤ 900) (nb : ee_k tx n p ≠ 25) : ee_so tx n (ee_b tx n p) = 2 ↔ ee_k tx n p = 23 := by
  rw [ee_k_23 hn]
  refine ⟨fun z => ⟨z, fun u => nb ((ee_k_bad hn).mpr ?_)⟩, fun z => z.1⟩
  unfold ee_bad
  rw [z]
  simp [u]
theorem ee_so_lt (tx : Nat → Nat) (n i : Nat) : ee_so tx n i < 100 := by
  unfold ee_so
  unfold ee_sc
  repeat' split
  all_goals omega
theorem C_num {d : Nat} {h : eb_H} {Q : Option Value → eb_H → Prop} {tx : Nat → Nat} {n p : Nat} (ht : ∀ j, j < n → tx j < 256) (hn : n ≤ 900) (hp : p ≤ n) (t : ee_XT h tx n p (ee_nf tx n p)) (lo hi : Nat) (hlo : lo < 1000) (hhi : hi < 1000) (ko : eb_KO h) (qo : ee_ok tx n p lo hi → ∀ h', ee_ft h h' → ee_XT h' tx n (ee_e tx n p) (ee_nf tx n (ee_e tx n p)) → Q (some (.int (nI (ee_v tx n p)))) h') (qf : ¬ ee_ok tx n p lo hi → ∀ h', ee_ft h h' → ee_XT h' tx n p (some (ee_nfa tx n p)) → Q (some (.int (nI lo))) h') : eb_Ct (d + 7) 51 [.ref s_reader, .int (nI lo), .int (nI hi)] h Q := by
  by_cases nb : ee_k tx n p = 25
  · rw [ee_nf_s hn nb (if ee_k tx n p = 23 then 3 else 2)] at t
    exact C_num0 (d := d + 6) t _ _ ko (qf (fun z => by have := z.1; omega))
  · have k2 := ee_k23_so hn nb
    have nf : ee_nf tx n p = none := (ee_nf_n hn).mpr nb
    have t0 := t
    rw [nf] at t0
    have e7 : eb_I h s_tape 7 = 0 := t0.2.2.2.2.2.1
    have e5 : (eb_I h s_tape 5 = (2 : Int32)) ↔ ee_k tx n p = 23 := by
      rw [t.2.2.2.1, ← k2]
      exact nI_eq (b := 2) (by have := ee_so_lt tx n (ee_b tx n p); omega) (by omega)
    have fail : ∀ c : Int32, c ≠ 0 → ¬ ee_ok tx n p lo hi → c = (if ee_k tx n p = 23 then 3 else 2) → ∀ (R : eb_H → Prop), eb_Ct (d + 6) 68 [.ref s_tape, .int c] h (fun r h3 => r = none ∧ eb_KO h3 ∧ (((eb_I h3 s_tape 7) = 0 → R h3) ∧ (¬ ((eb_I h3 s_tape 7) = 0) → Q (some (.int (nI lo))) h3))) := fun c hc no ec R => C_fl2 hn t c hc ko (fun h' F' t' => ⟨rfl, F'.1.ko ko, fun z => absurd (t'.2.2.2.2.2.1.symm.trans z) t'.2.2.2.2.2.2.2, fun _ => by
      rw [ec] at t'
      exact qf no h' F' t'⟩)
    refine T_X5_number (d := d + 6) _ _ ko ⟨fun z => ?_, fun z => ?_⟩
    · have k23 := e5.mp z
      have e6 : eb_I h s_tape 6 = nI (ee_v tx n p) := t.2.2.2.2.1 (k2.mpr k23)
      have vl := ee_v_lt hn k23
      rw [e6, nI_ltI (by omega) (by omega), nI_leI (by omega) (by omega)]
      refine ⟨fun lt => fail 3 (by decide) (fun u => by have := u.2.1; omega) (by rw [if_pos k23]) _, fun ge => ⟨fun le => ⟨fun _ => ?_, fun u => absurd e7 u⟩, fun gt => fail 3 (by decide) (fun u => gt u.2.2) (by rw [if_pos k23]) _⟩⟩
      refine C_adv (d := d) ht hn hp t0 ko (fun h' F' t' => ⟨rfl, F'.1.ko ko, qo ⟨k23, by omega, le⟩ h' F' t'⟩)
    · have k23 : ¬ ee_k tx n p = 23 := fun u => z (e5.mpr u)
      exact fail 2 (by decide) (fun u => k23 u.1) (by rw [if_neg k23]) _
/-- the reference's -/
theorem M_tk0 {d : Nat} {h : eb_H} {Q : Option Value → eb_H → Prop} {y : Int32 × Int32} (w : ee_MW h (some y)) (x1 x2 : Int32) (ko : eb_KO h) (q : ∀ v, Q (some (.int v)) h) : eb_Ct (d + 1) 168 [.ref s_MO, .int x1, .int x2] h Q :=
  T_X11_takes (d := d) _ _ ko (M_is0 w _ ko ⟨_, rfl, ko, fun z => absurd rfl z, fun _ => M_fl0 w _ ko ⟨rfl, ko, fun _ => q _, fun z => absurd (w.1.symm.trans z) w.2.2⟩⟩)
theorem M_tk {d : Nat} {h : eb_H} {Q : Option Value → eb_H → Prop} {tx : Nat → Nat} {n p : Nat} (ht : ∀ j, j < n → tx j < 256) (hn : n ≤ 900) (hp : p ≤ n) (t : ee_MT h tx n p) (w : ee_MW h none) (lo hi : Nat) (hlo : lo < 1000) (hhi : hi < 1000) (f : Nat) (ko : eb_KO h) (qo : ee_ok tx n p lo hi → ∀ h', ee_fo h h' → ee_MT h' tx n (ee_e tx n p) → Q (some (.int (nI (ee_v tx n p)))) h') (qf : ¬ ee_ok tx n p lo hi → ∀ v h', ee_fl f h h' → ee_MW h' (some (ee_nfa tx n p)) → eb_I h' s_m_fresh = eb_I h s_m_fresh → Q (some (.int v)) h') : eb_Ct (d + 6) 168 [.ref s_MO, .int (nI lo), .int (nI hi)] h Q := by
  have kl := ee_k_lt tx n p
  have w0 : eb_I h s_MO 11 = 0 := w
  refine T_X11_takes (d := d + 5) _ _ ko (M_is1 t w kl 23 (by omega) ko ⟨_, rfl, ko, fun z => ?_, fun z => ?_⟩)
  · rw [ee_i01] at z
    have z := Decidable.not_not.mp z
    have vl := ee_v_lt hn z
    rw [t.2.2.2.2 z]
    have e1 : (nI (ee_v tx n p)).toInt64 < (nI lo).toInt64 ↔ ee_v tx n p < lo := by
      rw [eb_l64, nI_toInt (by omega), nI_toInt (by omega)]
      omega
    have e2 : (nI hi).toInt64 < (nI (ee_v tx n p)).toInt64 ↔ hi < ee_v tx n p := by
      rw [eb_l64, nI_toInt (by omega), nI_toInt (by omega)]
      omega
    rw [e1, e2]
    refine ⟨fun u => ⟨fun v => absurd w0 v, fun _ => ?_⟩, fun u => ?_⟩
    · exact M_next (d := d) ht hn t.1 (ee_e tx n p) (ee_e_le tx hn hp).1 t.2.2.1 ko (fun h' F' t' => ⟨rfl, F'.1.ko ko, qo ⟨z, by omega, by omega⟩ h' F' t'⟩)
    · refine M_fl t w kl 3 (by decide) f ko (fun h' F' w' ef => ⟨rfl, F'.1.ko ko, fun _ => ?_, fun v => absurd (w'.1.symm.trans v) w'.2.2⟩)
      refine qf (fun k => u ⟨by have := k.2.1; omega, by have := k.2.2; omega⟩) _ h' F' ?_ ef
      unfold ee_nfa
      rw [if_pos z]
      exact w'
  · rw [ee_i01] at z
    refine M_fl t w kl 2 (by decide) f ko (fun h' F' w' ef => ⟨rfl, F'.1.ko ko, fun _ => ?_, fun v => absurd (w'.1.symm.trans v) w'.2.2⟩)
    refine qf (fun k => z k.1) _ h' F' ?_ ef
    unfold ee_nfa
    rw [if_neg z]
    exact w'
end EBNUM
