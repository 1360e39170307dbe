section EBXOPEN
variable {L : Nat} {xs : Nat → Int32}
def ee_O3 (d : Nat) (Q : Option Value → eb_H → Prop) (h16 : eb_H) : Prop := ∃ r19, eb_R h16 s_reader 2 = some r19 ∧ eb_kd r19 = 9 ∧ eb_Ct d 51 [.ref s_reader, .int 1, .int 6] h16 (fun r h22 => ∃ y23, r = some (.int y23) ∧ eb_KO h22 ∧ eb_Ct d 50 [.ref s_reader] (eb_sI h22 r19 2 y23) (fun r h25 => r = none ∧ eb_KO h25 ∧ Q none h25))
def ee_O2 (d : Nat) (Q : Option Value → eb_H → Prop) (h : eb_H) : Prop := eb_Ct d 49 [.ref s_reader, .ref (eb_mk 6 21 0)] h (fun r h16 => r = none ∧ eb_KO h16 ∧ ee_O3 d Q h16)
def ee_O1b (d : Nat) (Q : Option Value → eb_H → Prop) (h : eb_H) : Prop := ∃ r10, eb_R h s_reader 2 = some r10 ∧ eb_kd r10 = 9 ∧ eb_Ct d 51 [.ref s_reader, .int 1, .int 4] h (fun r h13 => ∃ y14, r = some (.int y14) ∧ eb_KO h13 ∧ ee_O2 d Q (eb_sI h13 r10 1 y14))
def ee_O1 (d : Nat) (Q : Option Value → eb_H → Prop) (h1 : eb_H) : Prop := ∃ r4, eb_R h1 s_reader 2 = some r4 ∧ eb_kd r4 = 9 ∧ eb_Ct d 51 [.ref s_reader, .int 1, .int 4] h1 (fun r h7 => ∃ y8, r = some (.int y8) ∧ eb_KO h7 ∧ ee_O1b d Q (eb_sI h7 r4 0 y8))
theorem C_O3f {d : Nat} {h g0 : eb_H} {Q : Option Value → eb_H → Prop} {tx : Nat → Nat} {n v : Nat} {y : Int32 × Int32} (ht : ∀ j, j < n → tx j < 256) (hn : n ≤ 900) (x : ee_XF g0 h v tx n y) (K : ∀ h', ee_vf v h h' → ee_XF g0 h' v tx n y → Q none h') : ee_O3 (d + 8) Q h :=
  ⟨v, x.1.2.2.2.1, x.1.vk.1, C_nm0 (d := d + 7) x _ _ (fun h22 F x22 => ⟨_, rfl, x22.ko, C_end0 (d := d) ht hn (x22.set (t := 0) (k := 2) (x := 1) (by decide)) (fun h' F' x' => ⟨rfl, x'.ko, K h' ((F.vf.sI (t := 0) x.1.vk (by decide)).trans F') x'⟩)⟩)⟩
theorem C_O2f {d : Nat} {h g0 : eb_H} {Q : Option Value → eb_H → Prop} {tx : Nat → Nat} {n v : Nat} {y : Int32 × Int32} (ht : ∀ j, j < n → tx j < 256) (hn : n ≤ 900) (x : ee_XF g0 h v tx n y) (K : ∀ h', ee_vf v h h' → ee_XF g0 h' v tx n y → Q none h') : ee_O2 (d + 8) Q h :=
  C_exp0 (d := d + 1) ht hn x 6 (by decide) (fun h5 F5 x5 => ⟨rfl, x5.ko, C_O3f ht hn x5 (fun h' F' x' => K h' (F5.vf.trans F') x')⟩)
theorem C_O1bf {d : Nat} {h g0 : eb_H} {Q : Option Value → eb_H → Prop} {tx : Nat → Nat} {n v : Nat} {y : Int32 × Int32} (ht : ∀ j, j < n → tx j < 256) (hn : n ≤ 900) (x : ee_XF g0 h v tx n y) (K : ∀ h', ee_vf v h h' → ee_XF g0 h' v tx n y → Q none h') : ee_O1b (d + 8) Q h :=
  ⟨v, x.1.2.2.2.1, x.1.vk.1, C_nm0 (d := d + 7) x _ _ (fun h22 F x22 => ⟨_, rfl, x22.ko, C_O2f ht hn (x22.set (t := 0) (k := 1) (x := 1) (by decide)) (fun h' F' x' => K h' ((F.vf.sI (t := 0) x.1.vk (by decide)).trans F') x')⟩)⟩
theorem C_O1f {d : Nat} {h g0 : eb_H} {Q : Option Value → eb_H → Prop} {tx : Nat → Nat} {n v : Nat} {y : Int32 × Int32} (ht : ∀ j, j < n → tx j < 256) (hn : n ≤ 900) (x : ee_XF g0 h v tx n y) (K : ∀ h', ee_vf v h h' → ee_XF g0 h' v tx n y → Q none h') : ee_O1 (d + 8) Q h :=
  ⟨v, x.1.2.2.2.1, x.1.vk.1, C_nm0 (d := d + 7) x _ _ (fun h22 F x22 => ⟨_, rfl, x22.ko, C_O1bf ht hn (x22.set (t := 0) (k := 0) (x := 1) (by decide)) (fun h' F' x' => K h' ((F.vf.sI (t := 0) x.1.vk (by decide)).trans F') x')⟩)⟩
def ee_o3 (tx : Nat → Nat) (n p : Nat) (D Dz : ee_D) : ee_R := ee_nb tx n p 1 6 Dz (fun c p4 => ee_end tx n p4 (ee_set D 3 (nI c)))
def ee_o2 (tx : Nat → Nat) (n p3 : Nat) (D Dz : ee_D) : ee_R := if ee_k tx n p3 = 1 then ee_o3 tx n (ee_e tx n p3) D Dz else (p3, some (ee_fa tx n p3 2), Dz)
def ee_o1b (tx : Nat → Nat) (n p2 : Nat) (D Dz : ee_D) : ee_R := ee_nb tx n p2 1 4 Dz (fun b p3 => ee_o2 tx n p3 (ee_set D 2 (nI b)) Dz)
def ee_o1 (tx : Nat → Nat) (n p1 : Nat) (D Dz : ee_D) : ee_R := ee_nb tx n p1 1 4 Dz (fun a p2 => ee_o1b tx n p2 (ee_set D 1 (nI a)) Dz)
theorem ee_opn_o {tx : Nat → Nat} {n : Nat} : ee_opn tx n = if ee_k tx n 0 = 0 then ee_o1 tx n (ee_e tx n 0) ee_D0 ee_D0 else (0, some (ee_fa tx n 0 2), ee_D0) := rfl
theorem C_O3 {d : Nat} {h g0 : eb_H} {Q : Option Value → eb_H → Prop} {tx : Nat → Nat} {n p v : Nat} {D Dz : ee_D} (ht : ∀ j, j < n → tx j < 256) (hn : n ≤ 900) (x : ee_XR g0 h v tx n p D) (K : ∀ h', ee_vf v h h' → ee_XQ g0 h' v tx n (ee_o3 tx n p D Dz) → Q none h') : ee_O3 (d + 8) Q h := by
  have hv := x.1.vk
  unfold ee_o3 ee_nb at K
  refine ⟨v, x.1.2.2.2.1, hv.1, C_nmR (d := d + 1) ht hn x 1 6 (by decide) (by decide) (fun ok h5 F5 x5 => ⟨_, rfl, x5.ko, ?_⟩) (fun no h5 F5 x5 => ⟨_, rfl, x5.ko, ?_⟩)⟩
  · rw [if_pos ok] at K
    exact C_end (d := d) ht hn (x5.set (j := 3) (by decide) (by decide)) (fun h' F' x' => ⟨rfl, F'.1.ko x5.ko, K h' ((F5.vf.sI (t := 0) hv (by decide)).trans F') x'⟩)
  · rw [if_neg no] at K
    exact C_end0 (d := d) ht hn (x5.set (t := 0) (k := 2) (x := nI 1) (by decide)) (fun h' F' x' => ⟨rfl, x'.ko, K h' ((F5.vf.sI (t := 0) hv (by decide)).trans F') (Or.inl ⟨_, rfl, x'⟩)⟩)
theorem C_O2 {d : Nat} {h g0 : eb_H} {Q : Option Value → eb_H → Prop} {tx : Nat → Nat} {n p v : Nat} {D Dz : ee_D} (ht : ∀ j, j < n → tx j < 256) (hn : n ≤ 900) (x : ee_XR g0 h v tx n p D) (K : ∀ h', ee_vf v h h' → ee_XQ g0 h' v tx n (ee_o2 tx n p D Dz) → Q none h') : ee_O2 (d + 8) Q h := by
  have hv := x.1.vk
  unfold ee_o2 at K
  refine T_X5_expect (d := d + 7) 6 (by decide) x.ko (C_isk (d := d + 3) ht hn x.2.2.2.2 x.2.1 1 6 (by decide) rfl x.ko ⟨_, rfl, x.ko, fun z => ?_, fun z => ?_⟩)
  · rw [ee_i01] at z
    rw [if_neg z] at K
    exact C_flR hn x 2 (by decide) (fun h5 F5 x5 => ⟨rfl, x5.ko, rfl, x5.ko, C_O3f ht hn x5 (fun h' F' x' => K h' (F5.vf.trans F') (Or.inl ⟨_, rfl, x'⟩))⟩)
  · rw [ee_i01] at z
    have z := Decidable.not_not.mp z
    rw [if_pos z] at K
    exact C_nxR (d := d + 1) ht hn x (by omega) (fun h5 F5 x5 => ⟨rfl, x5.ko, rfl, x5.ko, C_O3 (Dz := Dz) ht hn x5 (fun h' F' x' => K h' (F5.vf.trans F') x')⟩)
theorem C_O1b {d : Nat} {h g0 : eb_H} {Q : Option Value → eb_H → Prop} {tx : Nat → Nat} {n p v : Nat} {D Dz : ee_D} (ht : ∀ j, j < n → tx j < 256) (hn : n ≤ 900) (x : ee_XR g0 h v tx n p D) (K : ∀ h', ee_vf v h h' → ee_XQ g0 h' v tx n (ee_o1b tx n p D Dz) → Q none h') : ee_O1b (d + 8) Q h := by
  have hv := x.1.vk
  unfold ee_o1b ee_nb at K
  refine ⟨v, x.1.2.2.2.1, hv.1, C_nmR (d := d + 1) ht hn x 1 4 (by decide) (by decide) (fun ok h5 F5 x5 => ⟨_, rfl, x5.ko, ?_⟩) (fun no h5 F5 x5 => ⟨_, rfl, x5.ko, ?_⟩)⟩
  · rw [if_pos ok] at K
    exact C_O2 (Dz := Dz) ht hn (x5.set (j := 2) (by decide) (by decide)) (fun h' F' x' => K h' ((F5.vf.sI (t := 0) hv (by decide)).trans F') x')
  · rw [if_neg no] at K
    exact C_O2f ht hn (x5.set (t := 0) (k := 1) (x := nI 1) (by decide)) (fun h' F' x' => K h' ((F5.vf.sI (t := 0) hv (by decide)).trans F') (Or.inl ⟨_, rfl, x'⟩))
theorem C_O1 {d : Nat} {h g0 : eb_H} {Q : Option Value → eb_H → Prop} {tx : Nat → Nat} {n p v : Nat} {D Dz : ee_D} (ht : ∀ j, j < n → tx j < 256) (hn : n ≤ 900) (x : ee_XR g0 h v tx n p D) (K : ∀ h', ee_vf v h h' → ee_XQ g0 h' v tx n (ee_o1 tx n p D Dz) → Q none h') : ee_O1 (d + 8) Q h := by
  have hv := x.1.vk
  unfold ee_o1 ee_nb at K
  refine ⟨v, x.1.2.2.2.1, hv.1, C_nmR (d := d + 1) ht hn x 1 4 (by decide) (by decide) (fun ok h5 F5 x5 => ⟨_, rfl, x5.ko, ?_⟩) (fun no h5 F5 x5 => ⟨_, rfl, x5.ko, ?_⟩)⟩
  · rw [if_pos ok] at K
    exact C_O1b (Dz := Dz) ht hn (x5.set (j := 1) (by decide) (by decide)) (fun h' F' x' => K h' ((F5.vf.sI (t := 0) hv (by decide)).trans F') x')
  · rw [if_neg no] at K
    exact C_O1bf ht hn (x5.set (t := 0) (k := 0) (x := nI 1) (by decide)) (fun h' F' x' => K h' ((F5.vf.sI (t := 0) hv (by decide)).trans F') (Or.inl ⟨_, rfl, x'⟩))
theorem C_opn {d : Nat} {h g0 : eb_H} {Q : Option Value → eb_H → Prop} {tx : Nat → Nat} {n v : Nat} (ht : ∀ j, j < n → tx j < 256) (hn : n ≤ 900) (x : ee_XR g0 h v tx n 0 ee_D0) (K : ∀ h', ee_vf v h h' → ee_XQ g0 h' v tx n (ee_opn tx n) → Q none h') : eb_Ct (d + 9) 47 [.ref s_reader] h Q := by
  rw [ee_opn_o] at K
  refine T_X5_readOpening (d := d + 8) x.ko ?_
  show eb_Ct (d + 8) 49 [.ref s_reader, .ref (eb_mk 19 21 0)] h (fun r h1 => r = none ∧ eb_KO h1 ∧ ee_O1 (d + 8) Q h1)
  refine T_X5_expect (d := d + 7) 19 (by decide) x.ko (C_isk (d := d + 3) ht hn x.2.2.2.2 x.2.1 0 19 (by decide) rfl x.ko ⟨_, rfl, x.ko, fun z => ?_, fun z => ?_⟩)
  · rw [ee_i01] at z
    rw [if_neg z] at K
    exact C_flR hn x 2 (by decide) (fun h5 F5 x5 => ⟨rfl, x5.ko, rfl, x5.ko, C_O1f ht hn x5 (fun h' F' x' => K h' (F5.vf.trans F') (Or.inl ⟨_, rfl, x'⟩))⟩)
  · rw [ee_i01] at z
    have z := Decidable.not_not.mp z
    rw [if_pos z] at K
    exact C_nxR (d := d + 1) ht hn x (by omega) (fun h5 F5 x5 => ⟨rfl, x5.ko, rfl, x5.ko, C_O1 (Dz := ee_D0) ht hn x5 (fun h' F' x' => K h' (F5.vf.trans F') x')⟩)
/-! the lines, one after the other -/
theorem ee_rb_rb {r : ee_R} {k k2 : Nat → ee_D → ee_R} : ee_rb r (fun p D => ee_rb (k p D) k2) = ee_rb (ee_rb r k) k2 := by
  obtain ⟨p, F, D⟩ := r
  cases F <;> rfl
theorem C_lns {d : Nat} {h0 g0 : eb_H} {Q : Option Value → eb_H → Prop} {tx : Nat → Nat} {n v a b c : Nat} (ht : ∀ j, j < n → tx j < 256) (hn : n ≤ 900) : ∀ (f i p s : Nat) (D : ee_D) (h : eb_H), n - p < f → i ≤ p → ee_DW D a b c s → ee_XR g0 h v tx n p D → ee_rm g0 h p → (∀ h', ee_XM g0 h' v tx n (ee_lns tx n a b c f p D) → Q none h') → eb_Sn (d + 10) m_X5_readText h0 32 [(0, .ref s_reader), (1, .int (nI n)), (2, .int (nI i))] [] h Q
  | 0, i, p, s, D, h, hf, _, _, _, _, _ => absurd hf (by omega)
  | f + 1, i, p, s, D, h, hf, hi, dw, x, rm, q => by
    have hp := x.2.2.2.2
    have so6 := ee_so_6 tx n (ee_b tx n p)
    have s5 : eb_I h s_tape 5 = 0 ↔ ee_so tx n (ee_b tx n p) = 0 := by
      rw [x.2.1.2.2.2.1]
      exact nI_eq (b := 0) (by omega) (by omega)
    unfold ee_lns at q
    by_cases k24 : ee_k tx n p = 24
    · rw [if_pos k24] at q
      have X := q h (Or.inr ⟨rfl, x, rm⟩)
      refine b_X5_readText_32 (d := d + 9) _ _ x.ko ⟨fun _ => X, fun _ => ⟨fun _ => X, fun _ => ⟨fun _ => X, fun z => absurd (s5.mpr ?_) z⟩⟩⟩
      refine Classical.byContradiction fun u => ?_
      unfold ee_k at k24
      rw [if_neg u] at k24
      have kl := ee_key_lt tx (ee_b tx n p) (ee_e tx n p)
      split at k24
      · omega
      · split at k24
        · split at k24 <;> omega
        · split at k24 <;> omega
    · rw [if_neg k24, dw.s, ee_rb_rb] at q
      change ∀ h', ee_XM g0 h' v tx n (ee_rb (ee_lnE tx n p a b c s D) (fun p2 D2 => ee_lns tx n a b c f p2 D2)) → Q none h' at q
      obtain ⟨g1, g2⟩ := ee_gt hn hp k24
      have s0 : ¬ eb_I h s_tape 5 = 0 := fun z => k24 (by
        unfold ee_k
        rw [if_pos (s5.mp z)])
      have ex : ∀ (j : Int32) (h1 : eb_H) (y : Int32 × Int32), ee_XF g0 h1 v tx n y → Q none h1 → eb_Sn (d + 10) m_X5_readText h0 32 [(0, .ref s_reader), (1, .int (nI n)), (2, .int j)] [] h1 Q := fun j h1 y x1 q1 => by
        obtain ⟨b1, p1, _, t1⟩ := x1
        exact b_X5_readText_32 (d := d + 9) _ _ b1.ko ⟨fun _ => q1, fun _ => ⟨fun _ => q1, fun z => absurd (t1.2.2.2.2.2.1.symm.trans z) t1.2.2.2.2.2.2.2⟩⟩
      by_cases nb : ee_k tx n p = 25
      · have t := x.2.1
        rw [ee_nf_s hn nb 2] at t
        have el : ee_line tx n p a b c s D = (p, some (ee_fa tx n p 2), D) := by
          unfold ee_line
          rw [if_neg (by omega), if_neg (by omega), if_neg (by omega), if_neg (by omega), if_neg (by omega), if_neg (by omega), if_neg (by omega), if_neg (by omega)]
        have XF : ee_XF g0 h v tx n (ee_fa tx n p 2) := ⟨x.1, p, hp, t⟩
        refine ex _ h _ XF (q h (Or.inl ⟨_, ?_, XF, ?_⟩))
        · unfold ee_lnE
          rw [el]
          rfl
        · obtain ⟨m1, m2⟩ := rm
          unfold ee_rx
          omega
      · have t := x.2.1
        rw [(ee_nf_n hn).mpr nb] at t
        have e7 : eb_I h s_tape 7 = 0 := t.2.2.2.2.2.1
        have e1 : nI i + 1 = nI (i + 1) := nI_add i 1
        refine b_X5_readText_32 (d := d + 9) _ _ x.ko ⟨fun z => absurd z (nI_ge (show i < n by omega) (by omega)), fun _ => ⟨fun z => absurd e7 z, fun _ => ⟨fun z => absurd z s0, fun _ => ?_⟩⟩⟩
        rw [e1]
        refine C_line (d := d) ht hn x dw nb rm (fun h' x' => ?_)
        rcases x' with ⟨y, e, x', r'⟩ | ⟨e, x', r'⟩
        · exact ⟨rfl, x'.ko, ex _ h' y x' (q h' (Or.inl ⟨y, ee_rb_f e, x', r'⟩))⟩
        · obtain ⟨w1, w2, s', w3⟩ := ee_lnE_ge hn hp dw e
          rw [ee_rb_n e] at q
          exact ⟨rfl, x'.ko, C_lns ht hn f (i + 1) _ s' _ h' (by omega) (by omega) w3 x' r' q⟩
end EBXOPEN
