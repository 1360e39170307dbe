section EBGROW
variable {L : Nat} {xs : Nat → Int32}
/-! ===== cells made on the way ===== -/
/-- of the cells that were, only ints of those of P changed -/
def ee_gw (P : Nat → Prop) (h h' : eb_H) : Prop := (eb_n h ≤ eb_n h' ∧ eb_XL h' = eb_XL h ∧ eb_X h' = eb_X h) ∧ ∀ c, eb_ix c < eb_n h → (¬ P c → eb_I h' c = eb_I h c) ∧ eb_J h' c = eb_J h c ∧ eb_R h' c = eb_R h c
theorem ee_gw.rfl {P : Nat → Prop} {h : eb_H} : ee_gw P h h := ⟨⟨Nat.le_refl _, Eq.refl _, Eq.refl _⟩, fun _ _ => ⟨fun _ => Eq.refl _, Eq.refl _, Eq.refl _⟩⟩
theorem ee_gw.trans {P : Nat → Prop} {h h1 h2 : eb_H} (a : ee_gw P h h1) (b : ee_gw P h1 h2) : ee_gw P h h2 := ⟨⟨Nat.le_trans a.1.1 b.1.1, b.1.2.1.trans a.1.2.1, b.1.2.2.trans a.1.2.2⟩, fun c z => by
  obtain ⟨a1, a2, a3⟩ := a.2 c z
  obtain ⟨b1, b2, b3⟩ := b.2 c (Nat.lt_of_lt_of_le z a.1.1)
  exact ⟨fun p => (b1 p).trans (a1 p), b2.trans a2, b3.trans a3⟩⟩
theorem ee_gw.weak {P P' : Nat → Prop} {h h1 : eb_H} (a : ee_gw P h h1) (z : ∀ c, P c → P' c) : ee_gw P' h h1 := ⟨a.1, fun c y => ⟨fun p => (a.2 c y).1 (fun u => p (z c u)), (a.2 c y).2⟩⟩
theorem ec_fr.gw {P : Nat → Prop} {h h1 : eb_H} (a : ec_fr P h h1) : ee_gw P h h1 := ⟨⟨Nat.le_of_eq a.1.1.symm, a.1.2.2.1, a.1.2.2.2.1⟩, fun c _ => ⟨fun p => a.2.2 c p, by rw [a.2.1], by rw [a.R]⟩⟩
theorem ee_ne {h : eb_H} {k len c : Nat} (hk : k < 32) (hl : len < 16384) (z : eb_ix c < eb_n h) : c ≠ eb_nx h k len := fun e => by
  rw [e, eb_nx, eb_mk_ix hk hl] at z
  exact Nat.lt_irrefl _ z
theorem ee_nw_I {h : eb_H} {k len sl c : Nat} (e : c ≠ eb_nx h k len) : eb_I (eb_nw h k len sl) c = eb_I h c := by simp [eb_I, eb_nw, va_up, e]
theorem ee_nw_J {h : eb_H} {k len sl c : Nat} (e : c ≠ eb_nx h k len) : eb_J (eb_nw h k len sl) c = eb_J h c := by simp [eb_J, eb_nw, va_up, e]
theorem ee_nw_R {h : eb_H} {k len sl c : Nat} (e : c ≠ eb_nx h k len) : eb_R (eb_nw h k len sl) c = eb_R h c := by simp [eb_R, eb_nw, va_up, e]
theorem ee_nw_I0 {h : eb_H} {k len sl : Nat} : eb_I (eb_nw h k len sl) (eb_nx h k len) = fun _ => 0 := by simp [eb_I, eb_nw, va_up]
theorem ee_nw_R0 {h : eb_H} {k len sl : Nat} : eb_R (eb_nw h k len sl) (eb_nx h k len) = fun _ => none := by simp [eb_R, eb_nw, va_up]
theorem ee_gw.nw {P : Nat → Prop} {h h1 : eb_H} (a : ee_gw P h h1) {k len sl : Nat} (hk : k < 32) (hl : len < 16384) : ee_gw P h (eb_nw h1 k len sl) := by
  refine a.trans ⟨⟨Nat.le_succ _, Eq.refl _, Eq.refl _⟩, fun c z => ?_⟩
  have e := ee_ne (h := h1) hk hl z
  exact ⟨fun _ => ee_nw_I e, ee_nw_J e, ee_nw_R e⟩
theorem ee_gw.rIn {P : Nat → Prop} {h h1 : eb_H} (a : ee_gw P h h1) {i : Nat} {f : Nat → Int32} (z : eb_n h ≤ eb_ix i) : ee_gw P h (eb_rI h1 i f) := by
  refine ⟨a.1, fun c y => ⟨fun p => ?_, (a.2 c y).2⟩⟩
  rw [eb_I_rIn (fun e : c = i => by rw [e] at y; omega)]
  exact (a.2 c y).1 p
theorem ee_gw.sRn {P : Nat → Prop} {h h1 : eb_H} (a : ee_gw P h h1) {i k : Nat} {v : Option Nat} (z : eb_n h ≤ eb_ix i) : ee_gw P h (eb_sR h1 i k v) := by
  refine ⟨a.1, fun c y => ⟨(a.2 c y).1, (a.2 c y).2.1, ?_⟩⟩
  rw [eb_R_sRn (fun e : c = i => by rw [e] at y; omega)]
  exact (a.2 c y).2.2
theorem ee_gw.sIn {P : Nat → Prop} {h h1 : eb_H} (a : ee_gw P h h1) {i k : Nat} {v : Int32} (z : eb_n h ≤ eb_ix i) : ee_gw P h (eb_sI h1 i k v) := by
  refine ⟨a.1, fun c y => ⟨fun p => ?_, (a.2 c y).2⟩⟩
  rw [eb_I_sIn (fun e : c = i => by rw [e] at y; omega)]
  exact (a.2 c y).1 p
theorem ee_koix : ∀ q ∈ eb_koL, eb_ix q.1 < 89 := by decide +kernel
theorem ee_gw.ko {P : Nat → Prop} {h h1 : eb_H} (a : ee_gw P h h1) (ko : eb_KO h) (h89 : 89 ≤ eb_n h) : eb_KO h1 := fun q hq => by
  rw [(a.2 q.1 (Nat.lt_of_lt_of_le (ee_koix q hq) h89)).2.2]
  exact ko q hq
theorem ee_ro.to {h h' : eb_H} {a b : Nat} : ∀ {l : List Nat}, ee_ro h a l → (∀ j, j < l.length → eb_I h' b j = eb_I h a j) → ee_ro h' b l
  | [], _, _ => True.intro
  | x :: l, r, e => ⟨by rw [e l.length (by show l.length < l.length + 1; omega)]; exact r.1, r.2.to (fun j hj => e j (by show j < l.length + 1; omega))⟩
/-- a law made: its codes, the latest first -/
def ee_lw (h : eb_H) (l : Nat) (K : List Nat) : Prop := ∃ c st nm, (eb_kd l = 2 ∧ 89 ≤ eb_ix l ∧ eb_ix l < eb_n h) ∧ (eb_R h l 0 = some c ∧ eb_kd c = 13 ∧ eb_ix l < eb_ix c ∧ eb_ix c < eb_n h ∧ eb_ln c = K.length) ∧ (eb_R h l 1 = some st ∧ eb_kd st = 19 ∧ eb_ln st = 32) ∧ (eb_R h l 2 = some nm ∧ eb_kd nm = 19 ∧ eb_ln nm = 6) ∧ ee_ro h c K
theorem C_ex {d : Nat} {h : eb_H} {Q : Option Value → eb_H → Prop} {C q W : List Nat} {dp ps br sd wa fr : Nat} (l : ee_LR h C (q ++ W) (dp + ee_nt q) ps br sd wa fr) (hq : ∀ x, x ∈ q → 102 ≤ x / 10 ∧ x < 2000) (hW : ∀ x W', W = x :: W' → x / 10 < 102 ∧ x < 2000) (hl : (q ++ W).length ≤ 32) (hC : C.length + q.length < 900) (hd : dp + ee_nt q < 1000) (ko : eb_KO h) (h89 : 89 ≤ eb_n h) (w : ∀ l h', ee_gw ee_fq h h' → eb_KO h' → eb_n h' = eb_n h + 4 → eb_z h' = eb_z h + (41 + (q.reverse ++ C).length) → eb_n h ≤ eb_ix l → ee_lw h' l (q.reverse ++ C) → Q (some (.ref l)) h') : eb_Ct (d + 1) 37 [.ref s_reader_laws, .int 1020] h (fun r h2 => r = none ∧ eb_KO h2 ∧ (89 ≤ eb_n h2) ∧ eb_Ct (d + 1) 303 [.ref s_reader_laws_codes, .int (eb_I (eb_nw h2 2 0 (eb_nf 2)) s_reader_laws 3)] (eb_nw h2 2 0 (eb_nf 2)) (fun r h6 => ∃ y7, r = some (.ref y7) ∧ eb_KO h6 ∧ eb_Ct (d + 1) 24 [.ref (eb_nx h2 2 0), .ref y7] h6 (fun r h9 => r = none ∧ eb_KO h9 ∧ Q (some (.ref (eb_nx h2 2 0))) h9))) := by
  refine C_settle (d := d) l 1020 (by omega) hq hW hl (by omega) hd ko (fun h2 F2 l2 => ⟨rfl, F2.ko ko, ?_⟩)
  have n2 : eb_n h2 = eb_n h := F2.1.1
  have z2 : eb_z h2 = eb_z h := F2.1.2.1
  refine ⟨by omega, ?_⟩
  have hN : (q.reverse ++ C).length < 900 := by rw [List.length_append, List.length_reverse]; omega
  have e3 : eb_I (eb_nw h2 2 0 (eb_nf 2)) s_reader_laws 3 = nI (q.reverse ++ C).length := by
    rw [ee_nw_I (ee_ne (by decide) (by decide) (by rw [n2]; exact Nat.lt_of_lt_of_le (by decide) h89))]
    exact l2.1.1
  rw [e3]
  have ro := l2.1.2
  generalize q.reverse ++ C = K at hN ro w
  generalize ea : eb_nx h2 2 0 = a
  have ixa : eb_ix a = eb_n h2 := by rw [← ea]; exact eb_mk_ix (by decide) (by decide)
  have kda : eb_kd a = 2 := by rw [← ea]; exact eb_mk_kd (by decide)
  have G3 : ee_gw ee_fq h (eb_nw h2 2 0 (eb_nf 2)) := F2.gw.nw (by decide) (by decide)
  have n3 : eb_n (eb_nw h2 2 0 (eb_nf 2)) = eb_n h + 1 := by show eb_n h2 + 1 = _; omega
  have z3 : eb_z (eb_nw h2 2 0 (eb_nf 2)) = eb_z h + 3 := by show eb_z h2 + eb_nf 2 = _; rw [z2]; rfl
  have I3 : eb_I (eb_nw h2 2 0 (eb_nf 2)) s_reader_laws_codes = eb_I h2 s_reader_laws_codes := ee_nw_I (ee_ne (by decide) (by decide) (by rw [n2]; exact Nat.lt_of_lt_of_le (by decide) h89))
  clear e3
  generalize eb_nw h2 2 0 (eb_nf 2) = h3 at G3 n3 z3 I3 ⊢
  have el : eb_ln s_reader_laws_codes = 900 := by decide
  have ec := eb_cln (n := K.length) (by omega)
  have lt9 : nI K.length < Int32.ofNat 900 := nI_lt (b := 900) (by omega) (by omega)
  generalize eb' : eb_nx h3 13 K.length = b
  have ixb : eb_ix b = eb_n h + 1 := by rw [← eb', ← n3]; exact eb_mk_ix (by decide) (by omega)
  have kdb : eb_kd b = 13 := by rw [← eb']; exact eb_mk_kd (by decide)
  have lnb : eb_ln b = K.length := by rw [← eb']; exact eb_mk_ln (by decide) (by omega)
  refine T_J7_copyOf_59c91 (d := d) _ _ (by decide) (G3.ko ko h89) ?_
  rw [el, ec, if_pos lt9, ec, eb', lnb]
  refine ⟨fun z => ?_, by omega, nI_pos (by omega), by omega, nI_pos (by omega), by show 0 + K.length ≤ 900; omega, by show 0 + K.length ≤ K.length; omega, ?_⟩
  · have z : nI K.length = nI 900 := z
    rw [nI_eq (by omega) (by omega)] at z
    omega
  have G4 : ee_gw ee_fq h (eb_nw h3 13 K.length K.length) := G3.nw (by decide) (by omega)
  have n4 : eb_n (eb_nw h3 13 K.length K.length) = eb_n h + 2 := by show eb_n h3 + 1 = _; omega
  have z4 : eb_z (eb_nw h3 13 K.length K.length) = eb_z h + 3 + K.length := by show eb_z h3 + K.length = _; omega
  have I4 : eb_I (eb_nw h3 13 K.length K.length) s_reader_laws_codes = eb_I h2 s_reader_laws_codes := (ee_nw_I (ee_ne (by decide) (by omega) (by rw [n3]; exact Nat.lt_of_lt_of_le (by decide) (Nat.le_succ_of_le h89)))).trans I3
  rw [I4]
  generalize eb_nw h3 13 K.length K.length = h4 at G4 n4 z4 ⊢
  have G5 : ee_gw ee_fq h (eb_rI h4 b (va_cpy (eb_I h2 s_reader_laws_codes) (eb_I h4 b) (0 : Int32).toNatClampNeg (0 : Int32).toNatClampNeg K.length)) := G4.rIn (by omega)
  have ro5 : ee_ro (eb_rI h4 b (va_cpy (eb_I h2 s_reader_laws_codes) (eb_I h4 b) (0 : Int32).toNatClampNeg (0 : Int32).toNatClampNeg K.length)) b K := ro.to (fun j hj => by
    rw [eb_I_rI]
    show va_cpy (eb_I h2 s_reader_laws_codes) (eb_I h4 b) 0 0 K.length j = _
    unfold va_cpy
    rw [if_pos (by omega), Nat.zero_add, Nat.sub_zero])
  have n5 : eb_n (eb_rI h4 b (va_cpy (eb_I h2 s_reader_laws_codes) (eb_I h4 b) (0 : Int32).toNatClampNeg (0 : Int32).toNatClampNeg K.length)) = eb_n h + 2 := n4
  have z5 : eb_z (eb_rI h4 b (va_cpy (eb_I h2 s_reader_laws_codes) (eb_I h4 b) (0 : Int32).toNatClampNeg (0 : Int32).toNatClampNeg K.length)) = eb_z h + 3 + K.length := z4
  generalize eb_rI h4 b (va_cpy (eb_I h2 s_reader_laws_codes) (eb_I h4 b) (0 : Int32).toNatClampNeg (0 : Int32).toNatClampNeg K.length) = h5 at G5 ro5 n5 z5 ⊢
  refine ⟨b, rfl, G5.ko ko h89, T_X2_init (d := d) a b kda kdb ?_⟩
  intro r3 er3 h6 eh6 h7 eh7 r9 er9 h8 eh8 h9 eh9 h10 eh10
  have G6 : ee_gw ee_fq h h6 := by rw [eh6]; exact G5.nw (by decide) (by decide)
  have n6 : eb_n h6 = eb_n h + 3 := by rw [eh6]; show eb_n h5 + 1 = _; omega
  have z6 : eb_z h6 = eb_z h + 35 + K.length := by rw [eh6]; show eb_z h5 + 32 = _; omega
  have G7 : ee_gw ee_fq h h7 := by rw [eh7]; exact G6.sRn (by omega)
  have n7 : eb_n h7 = eb_n h + 3 := by rw [eh7]; exact n6
  have G8 : ee_gw ee_fq h h8 := by rw [eh8]; exact G7.nw (by decide) (by decide)
  have n8 : eb_n h8 = eb_n h + 4 := by rw [eh8]; show eb_n h7 + 1 = _; omega
  have z8 : eb_z h8 = eb_z h + 41 + K.length := by rw [eh8]; show eb_z h7 + 6 = _; rw [eh7]; show eb_z h6 + 6 = _; omega
  have G9 : ee_gw ee_fq h h9 := by rw [eh9]; exact G8.sRn (by omega)
  have G10 : ee_gw ee_fq h h10 := by rw [eh10]; exact G9.sRn (by omega)
  have n10 : eb_n h10 = eb_n h + 4 := by rw [eh10, eh9]; exact n8
  have z10 : eb_z h10 = eb_z h + (41 + K.length) := by rw [eh10, eh9]; show eb_z h8 = _; omega
  have k10 := G10.ko ko h89
  have ab : b ≠ eb_nx h5 19 32 := ee_ne (by decide) (by decide) (by omega)
  have ab2 : b ≠ eb_nx h7 19 6 := ee_ne (by decide) (by decide) (by omega)
  have aa2 : a ≠ eb_nx h7 19 6 := ee_ne (by decide) (by decide) (by omega)
  refine ⟨rfl, k10, w a h10 G10 k10 n10 z10 (by omega) ⟨b, r3, r9, ⟨kda, by omega, by omega⟩, ⟨?_, kdb, by omega, by omega, lnb⟩, ⟨?_, by rw [er3]; exact eb_mk_kd (by decide), by rw [er3]; exact eb_mk_ln (by decide) (by decide)⟩, ⟨?_, by rw [er9]; exact eb_mk_kd (by decide), by rw [er9]; exact eb_mk_ln (by decide) (by decide)⟩, ?_⟩⟩
  · rw [eh10, eb_R_sR, if_pos rfl]
  · rw [eh10, eb_R_sR, if_neg (by decide), eh9, eb_R_sR, if_neg (by decide), eh8, ee_nw_R aa2, eh7, eb_R_sR, if_pos rfl]
  · rw [eh10, eb_R_sR, if_neg (by decide), eh9, eb_R_sR, if_pos rfl]
  · refine ro5.to (fun j hj => ?_)
    rw [eh10, eh9]
    show eb_I h8 b j = _
    rw [eh8, ee_nw_I ab2, eh7]
    show eb_I h6 b j = _
    rw [eh6, ee_nw_I ab]
end EBGROW
