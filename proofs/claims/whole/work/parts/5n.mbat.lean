section EBMBAT
variable {L : Nat} {xs : Nat → Int32}
def ee_batl (tx : Nat → Nat) (n c : Nat) : Nat → Nat → Nat → ee_D → ee_R
  | 0, p, _, D => (p, some (9, 9), D)
  | f + 1, p, e, D => if ee_k tx n p = 23 then (if ee_ok tx n p 1 6 then (if e / 2 ^ (ee_v tx n p - 1) % 2 = 0 ∧ ec_bc e = c then (p, some (3, nI (ee_b tx n p)), D) else ee_batl tx n c f (ee_e tx n p) (e ||| 2 ^ (ee_v tx n p - 1)) D) else (p, some (ee_nfa tx n p), D)) else (p, none, ee_set D 32 (nI e))
def ee_lbat (tx : Nat → Nat) (n p a b c : Nat) (D : ee_D) : ee_R := ee_nb tx n (ee_e tx n p) 0 (a * b - 1) D (fun v p2 => ee_batl tx n c 1000 p2 0 (ee_set D 31 (nI v)))
theorem ee_orb : ∀ e, e < 64 → ∀ v, v < 6 → nI e ||| ((1 : Int32) <<< (nI v &&& 31)) = nI (e ||| 2 ^ v) ∧ (e ||| 2 ^ v) < 64 := by decide +kernel
theorem ee_l01 {x : Nat} (h : x < 2) : lN x = 1 ↔ x = 1 := by
  have : x = 0 ∨ x = 1 := by omega
  rcases this with rfl | rfl <;> decide
theorem M_bat0 {d : Nat} {h0 h : eb_H} {Q : Option Value → eb_H → Prop} {y : Int32 × Int32} (w : ee_MW h (some y)) (x1 : Int32) (ko : eb_KO h) (q : ∀ h', ee_fx h h' → eb_KO h' → ee_MW h' (some y) → Q none h') : eb_Sn (d + 1) m_X11_readBat h0 17 [(0, .ref s_MO), (1, .int x1)] [] h Q :=
  b_X11_readBat_17 (d := d) _ ko ⟨fun _ => q _ ee_fx.rfl.fs (ee_fx.rfl.fs.1.ko ko) w.fs, fun z => absurd (w.1.symm.trans z) w.2.2⟩
theorem M_batl {d : Nat} {h0 : eb_H} {Q : Option Value → eb_H → Prop} {tx : Nat → Nat} {n c : Nat} (ht : ∀ j, j < n → tx j < 256) (hn : n ≤ 900) (hc : c ≤ 6) : ∀ (f p e : Nat) (D : ee_D) (h : eb_H), n - p < f → e < 64 → D.1 3 = nI c → ee_MR tx n h p D → eb_KO h → (∀ h', ee_fx h h' → eb_KO h' → ee_MQ tx n h' (ee_batl tx n c f p e D) → Q none h') → eb_Sn (d + 8) m_X11_readBat h0 17 [(0, .ref s_MO), (1, .int (nI e))] [] h Q
  | 0, p, e, D, h, hf, _, _, _, _, _ => absurd hf (by omega)
  | f + 1, p, e, D, h, hf, he, e3, m, ko, q => by
    have c3 : (3 : Int32).toNatClampNeg = 3 := by decide
    have c32 : (32 : Int32).toNatClampNeg = 32 := by decide
    have m0 := m
    obtain ⟨m1, m2, m3, m4, m5⟩ := m
    have kl := ee_k_lt tx n p
    unfold ee_batl at q
    refine b_X11_readBat_17 (d := d + 7) _ ko ⟨fun z => absurd m2 z, fun _ => M_is1 m1 m2 kl 23 (by omega) ko ⟨_, rfl, ko, fun z => ?_, fun z => ?_⟩⟩
    · rw [ee_i01] at z
      rw [if_neg z] at q
      rw [c32]
      exact q _ ee_fx.rfl.fs (ee_fx.rfl.fs.1.ko ko) (Or.inr ⟨rfl, m0.set (by omega)⟩)
    · rw [ee_i01] at z
      have k23 := Decidable.not_not.mp z
      rw [if_pos k23] at q
      have vl := ee_v_lt hn k23
      obtain ⟨g1, g2⟩ := ee_gt hn m5 (show ee_k tx n p ≠ 24 by omega)
      have e10 : eb_I h s_MO 10 = nI (ee_v tx n p) := m1.2.2.2.2 k23
      have cond : ((¬ (((eb_I h s_MO 10).toInt64) < 1)) ∧ (¬ (6 < ((eb_I h s_MO 10).toInt64)))) ↔ ee_ok tx n p 1 6 := by
        have o1 : (1 : Int64).toInt = 1 := by decide
        have o6 : (6 : Int64).toInt = 6 := by decide
        rw [e10, eb_l64a, eb_l64b, o1, o6, nI_toInt (by omega)]
        exact ⟨fun u => ⟨k23, by omega, by omega⟩, fun u => ⟨by have := u.2.1; omega, by have := u.2.2; omega⟩⟩
      rw [cond]
      refine ⟨fun no => ?_, fun ok => ?_⟩
      · rw [if_neg no] at q
        refine M_tkR (d := d + 1) ht hn m0 1 6 (by omega) (by omega) ko (fun ok => absurd ok no) (fun _ v h1 F1 k1 w1 ef => ⟨_, rfl, k1, fun _ => ?_, fun u => absurd (w1.1.symm.trans u) w1.2.2⟩)
        exact M_bat0 (d := d + 7) w1 _ k1 (fun h' F' k' w' => q h' (F1.trans F') k' (Or.inl ⟨_, rfl, w'⟩))
      · rw [if_pos ok] at q
        obtain ⟨v', ev⟩ : ∃ v', ee_v tx n p = v' + 1 := ⟨ee_v tx n p - 1, by have := ok.2.1; omega⟩
        have v6 : v' < 6 := by have := ok.2.2; omega
        obtain ⟨ob, ol⟩ := ee_orb e he v' v6
        rw [e10, ev, nI_pred, ec_lbit (by omega) (by omega), ee_l01 (Nat.mod_lt _ (by decide))]
        rw [ev, Nat.add_sub_cancel] at q
        -- taken: on
        have go : ¬ (e / 2 ^ v' % 2 = 0 ∧ ec_bc e = c) → eb_Ct (d + 7) 168 [.ref s_MO, .int 1, .int 6] h (fun r h9 => ∃ y10, r = some (.int y10) ∧ eb_KO h9 ∧ ((¬ (eb_I h9 s_MO 11) = 0 → eb_Sn (d + 8) m_X11_readBat h0 17 [(0, .ref s_MO), (1, .int (nI e))] [] h9 Q) ∧ ((eb_I h9 s_MO 11) = 0 → eb_Sn (d + 8) m_X11_readBat h0 17 [(0, .ref s_MO), (1, .int (nI e ||| ((1 : Int32) <<< ((y10 - 1) &&& 31))))] [] h9 Q))) := fun nc => by
          rw [if_neg nc] at q
          refine M_tkR (d := d + 1) ht hn m0 1 6 (by omega) (by omega) ko (fun _ h1 F1 k1 m1' => ⟨_, rfl, k1, fun u => absurd m1'.2.1 u, fun _ => ?_⟩) (fun no => absurd ok no)
          rw [ev, nI_pred, ob]
          exact M_batl ht hn hc f _ _ D h1 (by omega) ol e3 m1' k1 (fun h' F' k' mq => q h' (F1.trans F') k' mq)
        refine ⟨fun b1 => go (fun u => by omega), fun b0 => ?_⟩
        refine M_bits e he ko ⟨_, rfl, ko, fun z2 => ?_, fun z2 => ?_⟩
        · rw [c3, m3.1 3 (by omega) (by omega), e3] at z2
          exact go (fun u => z2 (by rw [u.2]))
        · rw [c3, m3.1 3 (by omega) (by omega), e3] at z2
          have bl := ec_bc_le e
          rw [nI_eq (by omega) (by omega)] at z2
          rw [if_pos ⟨by omega, z2⟩] at q
          refine M_fl m1 m2 kl 3 (by decide) 0 ko (fun h1 F1 w1 _ => ⟨rfl, F1.1.ko ko, ?_⟩)
          have k1 := F1.1.ko ko
          have ef : ee_fa tx n p 3 = (3, nI (ee_b tx n p)) := by unfold ee_fa; rw [if_neg (by omega)]
          rw [ef] at w1
          refine M_tk0 (d := d + 6) w1 _ _ k1 (fun v => ⟨_, rfl, k1, fun _ => ?_, fun u => absurd (w1.1.symm.trans u) w1.2.2⟩)
          exact M_bat0 (d := d + 7) w1 _ k1 (fun h' F' k' w' => q h' (F1.fx.trans F') k' (Or.inl ⟨_, rfl, w'⟩))
theorem M_bat {d : Nat} {h : eb_H} {Q : Option Value → eb_H → Prop} {tx : Nat → Nat} {n p a b c s : Nat} {D : ee_D} (ht : ∀ j, j < n → tx j < 256) (hn : n ≤ 900) (m : ee_MR tx n h p D) (dw : ee_DW D a b c s) (ko : eb_KO h) (q : ∀ h', ee_fx h h' → eb_KO h' → ee_MQ tx n h' (ee_lbat tx n p a b c D) → Q none h') : eb_Ct (d + 8) 183 [.ref s_MO] h Q := by
  have c1 : (31 : Int32).toNatClampNeg = 31 := by decide
  refine T_X11_readBat (d := d + 7) ko (M_nxR (d := d + 2) ht hn m ko (fun h1 F1 k1 m1 f1 => ⟨rfl, k1, ?_⟩))
  rw [c1]
  unfold ee_lbat ee_nb at q
  refine M_rcR (d := d) ht hn m1 dw k1 (fun ok h2 F2 k2 m2 => ⟨_, rfl, k2, ?_⟩) (fun no v h2 F2 k2 w2 ef => ⟨_, rfl, k2, ?_⟩)
  · rw [if_pos ok] at q
    exact M_batl (d := d) (c := c) ht hn dw.2.2.1.2.2 1000 _ 0 _ _ (by omega) (by omega) ((dw.set (j := 31) (by omega)).2.2.1.1) (m2.set (j := 31) (by omega)) ((F1.trans F2).fs.1.ko ko) (fun h' F' k' mq => q h' ((F1.trans F2).fs.trans F') k' mq)
  · rw [if_neg no] at q
    exact M_bat0 (d := d + 7) w2.fs _ ((F1.trans F2).fs.1.ko ko) (fun h' F' k' w' => q h' ((F1.trans F2).fs.trans F') k' (Or.inl ⟨_, rfl, w'⟩))
end EBMBAT
