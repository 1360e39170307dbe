section EBXDRAFT
variable {L : Nat} {xs : Nat → Int32}
/-! ===== the draft, where the class keeps it: 0 the valley, 1 its houses, 2 its heights, 3 the start, 4 its things ===== -/
def ee_at (j : Nat) : Nat × Nat := if j = 0 then (0, 3) else if j < 4 then (0, j - 1) else if j = 4 then (0, 4) else if j < 11 then (9, j) else if j < 27 then (2, j - 11) else if j < 31 then (1, j - 27) else if j < 34 then (3, j - 31) else if j < 50 then (4, j - 34) else (3, j - 47)
def ee_ce (v t : Nat) : Nat := if t = 0 then v else if t = 1 then v + 524420 else if t = 2 then v + 1049092 else if t = 3 then s_reader_start else s_reader_start + 524807
theorem ee_at_inj0 : ∀ i, i < 52 → ∀ j, j < 52 → ((i < 5 ∨ 11 ≤ i) ∧ (j < 5 ∨ 11 ≤ j) ∧ ee_at i = ee_at j) → i = j := by decide +kernel
theorem ee_at_inj (i : Nat) (hi : i < 52) (j : Nat) (hj : j < 52) (a : i < 5 ∨ 11 ≤ i) (b : j < 5 ∨ 11 ≤ j) (c : (ee_at i).1 = (ee_at j).1) (d : (ee_at i).2 = (ee_at j).2) : i = j := ee_at_inj0 i hi j hj ⟨a, b, Prod.ext c d⟩
theorem ee_at_lt : ∀ i, i < 52 → (i < 5 ∨ 11 ≤ i) → (ee_at i).1 < 5 := by decide +kernel
theorem ee_at_ht : ∀ i, i < 16 → ee_at (11 + i) = (2, i) := by decide +kernel
theorem ee_at_hs : ∀ i, i < 4 → ee_at (27 + i) = (1, i) := by decide +kernel
theorem ee_at_th : ∀ i, i < 16 → ee_at (34 + i) = (4, i) := by decide +kernel
def ee_vk (v : Nat) : Prop := eb_kd v = 9 ∧ eb_ln v = 0 ∧ 89 ≤ eb_ix v
theorem ee_vk.eq {v : Nat} (hv : ee_vk v) : v = 524288 * eb_ix v + 9 ∧ 89 ≤ eb_ix v := by
  obtain ⟨a, b, c⟩ := hv
  unfold eb_kd at a
  unfold eb_ln at b
  unfold eb_ix at c ⊢
  omega
theorem ee_ce_cases {t : Nat} (ht : t < 5) : t = 0 ∨ t = 1 ∨ t = 2 ∨ t = 3 ∨ t = 4 := by omega
theorem ee_ce_inj {v t u : Nat} (hv : ee_vk v) (ht : t < 5) (hu : u < 5) (h : ee_ce v t = ee_ce v u) : t = u := by
  obtain ⟨a, b⟩ := hv.eq
  have e0 : ee_ce v 0 = v := rfl
  have e1 : ee_ce v 1 = v + 524420 := rfl
  have e2 : ee_ce v 2 = v + 1049092 := rfl
  have e3 : ee_ce v 3 = 5242886 := rfl
  have e4 : ee_ce v 4 = 5767693 := rfl
  rcases ee_ce_cases ht with rfl | rfl | rfl | rfl | rfl <;> rcases ee_ce_cases hu with rfl | rfl | rfl | rfl | rfl <;> omega
theorem ee_ce_ne {v t : Nat} (hv : ee_vk v) (ht : t < 5) : ee_ce v t ≠ s_tape ∧ ee_ce v t ≠ s_tape_text ∧ ¬ ee_fq (ee_ce v t) := by
  obtain ⟨a, b⟩ := hv.eq
  have e0 : ee_ce v 0 = v := rfl
  have e1 : ee_ce v 1 = v + 524420 := rfl
  have e2 : ee_ce v 2 = v + 1049092 := rfl
  have e3 : ee_ce v 3 = 5242886 := rfl
  have e4 : ee_ce v 4 = 5767693 := rfl
  unfold ee_fq
  have s1 : s_tape = 1572871 := rfl
  have s2 : s_tape_text = 2125964 := rfl
  have s3 : s_reader_laws < 5242886 := by decide
  have s4 : s_reader_laws_codes < 5242886 := by decide
  have s5 : s_reader_laws_waiting < 5242886 := by decide
  rcases ee_ce_cases ht with rfl | rfl | rfl | rfl | rfl <;> refine ⟨?_, ?_, fun z => ?_⟩ <;> omega
theorem ee_ce_ix {v t : Nat} (hv : ee_vk v) (ht : t < 5) : (t < 3 → eb_ix (ee_ce v t) = eb_ix v + t) ∧ (3 ≤ t → eb_ix (ee_ce v t) < 12) := by
  obtain ⟨a, b⟩ := hv.eq
  have e0 : ee_ce v 0 = v := rfl
  have e1 : ee_ce v 1 = v + 524420 := rfl
  have e2 : ee_ce v 2 = v + 1049092 := rfl
  have e3 : ee_ce v 3 = 5242886 := rfl
  have e4 : ee_ce v 4 = 5767693 := rfl
  unfold eb_ix at *
  rcases ee_ce_cases ht with rfl | rfl | rfl | rfl | rfl <;> refine ⟨fun z => ?_, fun z => ?_⟩ <;> omega
/-- the class's ints tell D -/
def ee_XI (h : eb_H) (v : Nat) (D : ee_D) : Prop := ∀ j, j < 52 → (j < 5 ∨ 11 ≤ j) → eb_I h (ee_ce v (ee_at j).1) (ee_at j).2 = D.1 j
theorem ee_XI.set {h : eb_H} {v j : Nat} {D : ee_D} {x : Int32} (r : ee_XI h v D) (hv : ee_vk v) (hj : j < 52) (hj2 : j < 5 ∨ 11 ≤ j) : ee_XI (eb_sI h (ee_ce v (ee_at j).1) (ee_at j).2 x) v (ee_set D j x) := fun i hi hi2 => by
  show _ = if i = j then x else D.1 i
  by_cases e : i = j
  · subst e
    rw [if_pos rfl, eb_I_sI']
  · rw [if_neg e]
    by_cases c : ee_ce v (ee_at i).1 = ee_ce v (ee_at j).1
    · rw [c, eb_I_sI, if_neg (fun z => e (ee_at_inj i hi j hj hi2 hj2 (ee_ce_inj hv (ee_at_lt i hi hi2) (ee_at_lt j hj hj2) c) z)), ← c]
      exact r i hi hi2
    · rw [eb_I_sIn c]
      exact r i hi hi2
/-- only the draft's ints, and the tape's -/
def ee_vq (v c : Nat) : Prop := c = s_tape ∨ ∃ t, t < 5 ∧ c = ee_ce v t
def ee_vf (v : Nat) (h h' : eb_H) : Prop := ec_fr (ee_vq v) h h' ∧ eb_I h' s_tape 1 = eb_I h s_tape 1
theorem ee_vf.rfl {v : Nat} {h : eb_H} : ee_vf v h h := ⟨ec_fr.rfl, Eq.refl _⟩
theorem ee_vf.trans {v : Nat} {h h1 h2 : eb_H} (a : ee_vf v h h1) (b : ee_vf v h1 h2) : ee_vf v h h2 := ⟨a.1.trans b.1, b.2.trans a.2⟩
theorem ee_ft.vf {v : Nat} {h h' : eb_H} (a : ee_ft h h') : ee_vf v h h' := ⟨a.1.weak (fun c z => Or.inl z), a.2⟩
theorem ee_vf.sI {v : Nat} {h h1 : eb_H} (a : ee_vf v h h1) {t k : Nat} {x : Int32} (hv : ee_vk v) (ht : t < 5) : ee_vf v h (eb_sI h1 (ee_ce v t) k x) := ⟨a.1.sI (Or.inr ⟨t, ht, Eq.refl _⟩), by rw [eb_I_sIn (fun e => (ee_ce_ne hv ht).1 e.symm)]; exact a.2⟩
theorem ee_XI.ft {h h' : eb_H} {v : Nat} {D : ee_D} (r : ee_XI h v D) (hv : ee_vk v) (a : ee_ft h h') : ee_XI h' v D := fun j hj hj2 => by
  rw [a.1.2.2 _ (ee_ce_ne hv (ee_at_lt j hj hj2)).1]
  exact r j hj hj2
theorem ee_XT.eq {h h' : eb_H} {tx : Nat → Nat} {n p : Nat} {F : Option (Int32 × Int32)} (t : ee_XT h tx n p F) (e1 : eb_I h' s_tape = eb_I h s_tape) (e2 : eb_I h' s_tape_text = eb_I h s_tape_text) : ee_XT h' tx n p F := by
  unfold ee_XT ee_TX
  rw [e1, e2]
  exact t
theorem ee_XT.ce {h : eb_H} {tx : Nat → Nat} {n p v t k : Nat} {x : Int32} {F : Option (Int32 × Int32)} (a : ee_XT h tx n p F) (hv : ee_vk v) (ht : t < 5) : ee_XT (eb_sI h (ee_ce v t) k x) tx n p F := by
  obtain ⟨n1, n2, _⟩ := ee_ce_ne hv ht
  exact a.eq (eb_I_sIn (fun e => n1 e.symm)) (eb_I_sIn (fun e => n2 e.symm))
/-! a law of the draft -/
def ee_CL (h : eb_H) (v k : Nat) : Option (List Nat) → Prop
  | none => eb_R h v k = none
  | some cs => ∃ l, eb_R h v k = some l ∧ eb_ix v + 3 ≤ eb_ix l ∧ ee_lw h l (cs.map ee_t1).reverse
theorem ee_lw.mv {h h' : eb_H} {l : Nat} {K : List Nat} (r : ee_lw h l K) (hn : eb_n h ≤ eb_n h') (e : ∀ c, eb_ix l ≤ eb_ix c → eb_ix c < eb_n h → eb_I h' c = eb_I h c ∧ eb_R h' c = eb_R h c) : ee_lw h' l K := by
  obtain ⟨c, st, nm, ⟨a1, a2, a3⟩, ⟨b1, b2, b3, b4, b5⟩, c1, d1, e1⟩ := r
  have el := (e l (Nat.le_refl _) a3).2
  have ec := (e c (Nat.le_of_lt b3) b4).1
  refine ⟨c, st, nm, ⟨a1, a2, Nat.lt_of_lt_of_le a3 hn⟩, ⟨by rw [el]; exact b1, b2, b3, Nat.lt_of_lt_of_le b4 hn, b5⟩, by rw [el]; exact c1, by rw [el]; exact d1, e1.to (fun j _ => by rw [ec])⟩
theorem ee_vq_ix {v c : Nat} (hv : ee_vk v) (h : eb_ix v + 3 ≤ eb_ix c) : ¬ ee_vq v c := fun z => by
  have h9 := hv.2.2
  rcases z with z | ⟨t, ht, z⟩
  · rw [z] at h
    have : eb_ix s_tape = 3 := by decide
    omega
  · obtain ⟨i1, i2⟩ := ee_ce_ix hv ht
    rw [z] at h
    by_cases t3 : t < 3
    · have := i1 t3
      omega
    · have := i2 (by omega)
      omega
theorem ee_CL.vf {h h' : eb_H} {v k : Nat} {l : Option (List Nat)} (r : ee_CL h v k l) (hv : ee_vk v) (a : ee_vf v h h') : ee_CL h' v k l := by
  cases l with
  | none => show eb_R h' v k = none; rw [a.1.R]; exact r
  | some cs =>
    obtain ⟨l, r1, r2, r3⟩ := r
    exact ⟨l, by rw [a.1.R]; exact r1, r2, r3.mv (Nat.le_of_eq a.1.1.1.symm) (fun c z _ => ⟨a.1.2.2 c (ee_vq_ix hv (by omega)), by rw [a.1.R]⟩)⟩
/-! the whole of it -/
def ee_xP (c : Nat) : Prop := ee_ftq c ∨ c = s_reader_start ∨ c = s_reader_start + 524807
def ee_XB (g0 h : eb_H) (v : Nat) : Prop := (ee_gw ee_xP g0 h ∧ eb_KO h ∧ eb_I h s_tape 1 = eb_I g0 s_tape 1) ∧ ee_vk v ∧ (eb_ix v = eb_n g0 ∧ eb_ix v + 3 ≤ eb_n h) ∧ eb_R h s_reader 2 = some v ∧ eb_R h v 5 = some (v + 524420) ∧ eb_R h v 6 = some (v + 1049092)
theorem ee_XB.ko {g0 h : eb_H} {v : Nat} (b : ee_XB g0 h v) : eb_KO h := b.1.2.1
theorem ee_XB.vk {g0 h : eb_H} {v : Nat} (b : ee_XB g0 h v) : ee_vk v := b.2.1
theorem ee_XB.vf {g0 h h' : eb_H} {v : Nat} (b : ee_XB g0 h v) (a : ee_vf v h h') : ee_XB g0 h' v := by
  obtain ⟨⟨b1, b2, b3⟩, hv, ⟨b4, b5⟩, b6, b7, b8⟩ := b
  have en : eb_n h' = eb_n h := a.1.1.1
  refine ⟨⟨⟨⟨by rw [en]; exact b1.1.1, a.1.1.2.2.1.trans b1.1.2.1, a.1.1.2.2.2.1.trans b1.1.2.2⟩, fun c z => ⟨fun p => ?_, ?_, ?_⟩⟩, a.1.ko b2, a.2.trans b3⟩, hv, ⟨b4, by rw [en]; exact b5⟩, ?_, ?_, ?_⟩
  · rw [a.1.2.2 c ?_]
    · exact (b1.2 c z).1 p
    · intro u
      rcases u with u | ⟨t, ht, u⟩
      · exact p (Or.inl (Or.inr u))
      · obtain ⟨i1, i2⟩ := ee_ce_ix hv ht
        rw [u] at z
        rcases ee_ce_cases ht with rfl | rfl | rfl | rfl | rfl
        · have := i1 (by omega); omega
        · have := i1 (by omega); omega
        · have := i1 (by omega); omega
        · exact p (Or.inr (Or.inl u))
        · exact p (Or.inr (Or.inr u))
  · rw [a.1.2.1]; exact (b1.2 c z).2.1
  · rw [a.1.R]; exact (b1.2 c z).2.2
  · rw [a.1.R]; exact b6
  · rw [a.1.R]; exact b7
  · rw [a.1.R]; exact b8
def ee_XR (g0 h : eb_H) (v : Nat) (tx : Nat → Nat) (n p : Nat) (D : ee_D) : Prop := ee_XB g0 h v ∧ ee_XT h tx n p (ee_nf tx n p) ∧ ee_XI h v D ∧ (ee_CL h v 7 D.2.2.1 ∧ ee_CL h v 8 D.2.2.2) ∧ p ≤ n
def ee_XF (g0 h : eb_H) (v : Nat) (tx : Nat → Nat) (n : Nat) (y : Int32 × Int32) : Prop := ee_XB g0 h v ∧ ∃ p, p ≤ n ∧ ee_XT h tx n p (some y)
def ee_XQ (g0 h : eb_H) (v : Nat) (tx : Nat → Nat) (n : Nat) (r : ee_R) : Prop := (∃ y, r.2.1 = some y ∧ ee_XF g0 h v tx n y) ∨ (r.2.1 = none ∧ ee_XR g0 h v tx n r.1 r.2.2)
theorem ee_XR.ko {g0 h : eb_H} {v : Nat} {tx : Nat → Nat} {n p : Nat} {D : ee_D} (b : ee_XR g0 h v tx n p D) : eb_KO h := b.1.ko
theorem ee_XF.ko {g0 h : eb_H} {v : Nat} {tx : Nat → Nat} {n : Nat} {y : Int32 × Int32} (b : ee_XF g0 h v tx n y) : eb_KO h := b.1.ko
theorem ee_XR.set {g0 h : eb_H} {v : Nat} {tx : Nat → Nat} {n p j : Nat} {D : ee_D} {x : Int32} (b : ee_XR g0 h v tx n p D) (hj : j < 52) (hj2 : j < 5 ∨ 11 ≤ j) : ee_XR g0 (eb_sI h (ee_ce v (ee_at j).1) (ee_at j).2 x) v tx n p (ee_set D j x) := by
  obtain ⟨b1, b2, b3, ⟨b4, b5⟩, b6⟩ := b
  have hv := b1.vk
  have F := (ee_vf.rfl (v := v) (h := h)).sI (k := (ee_at j).2) (x := x) hv (ee_at_lt j hj hj2)
  exact ⟨b1.vf F, b2.ce hv (ee_at_lt j hj hj2), b3.set hv hj hj2, ⟨b4.vf hv F, b5.vf hv F⟩, b6⟩
theorem ee_XF.set {g0 h : eb_H} {v : Nat} {tx : Nat → Nat} {n t k : Nat} {y : Int32 × Int32} {x : Int32} (b : ee_XF g0 h v tx n y) (ht : t < 5) : ee_XF g0 (eb_sI h (ee_ce v t) k x) v tx n y := by
  obtain ⟨b1, p, b2, b3⟩ := b
  exact ⟨b1.vf (ee_vf.rfl.sI b1.vk ht), p, b2, b3.ce b1.vk ht⟩
theorem ee_XR.ft {g0 h h' : eb_H} {v : Nat} {tx : Nat → Nat} {n p p' : Nat} {D : ee_D} (b : ee_XR g0 h v tx n p D) (a : ee_ft h h') (t : ee_XT h' tx n p' (ee_nf tx n p')) (hp : p' ≤ n) : ee_XR g0 h' v tx n p' D := by
  obtain ⟨b1, b2, b3, ⟨b4, b5⟩, b6⟩ := b
  exact ⟨b1.vf a.vf, t, b3.ft b1.vk a, ⟨b4.vf b1.vk a.vf, b5.vf b1.vk a.vf⟩, hp⟩
/-! the tape's calls -/
theorem C_nxR {d : Nat} {h g0 : eb_H} {Q : Option Value → eb_H → Prop} {tx : Nat → Nat} {n p v : Nat} {D : ee_D} (ht : ∀ j, j < n → tx j < 256) (hn : n ≤ 900) (x : ee_XR g0 h v tx n p D) (nb : ee_k tx n p ≠ 25) (q : ∀ h', ee_ft h h' → ee_XR g0 h' v tx n (ee_e tx n p) D → Q none h') : eb_Ct (d + 6) 69 [.ref s_tape] h Q := by
  have t := x.2.1
  rw [(ee_nf_n hn).mpr nb] at t
  exact C_adv (d := d) ht hn x.2.2.2.2 t x.ko (fun h' F' t' => q h' F' (x.ft F' t' (ee_e_le tx hn x.2.2.2.2).1))
theorem C_nx0 {d : Nat} {h g0 : eb_H} {Q : Option Value → eb_H → Prop} {tx : Nat → Nat} {n v : Nat} {y : Int32 × Int32} (ht : ∀ j, j < n → tx j < 256) (hn : n ≤ 900) (x : ee_XF g0 h v tx n y) (q : ∀ h', ee_ft h h' → ee_XF g0 h' v tx n y → Q none h') : eb_Ct (d + 6) 69 [.ref s_tape] h Q := by
  obtain ⟨b, p, hp, t⟩ := x
  exact C_adv (d := d) ht hn hp t b.ko (fun h' F' t' => q h' F' ⟨b.vf F'.vf, p, hp, t'⟩)
theorem C_nmR {d : Nat} {h g0 : eb_H} {Q : Option Value → eb_H → Prop} {tx : Nat → Nat} {n p v : Nat} {D : ee_D} (ht : ∀ j, j < n → tx j < 256) (hn : n ≤ 900) (x : ee_XR g0 h v tx n p D) (lo hi : Nat) (hlo : lo < 1000) (hhi : hi < 1000) (qo : ee_ok tx n p lo hi → ∀ h', ee_ft h h' → ee_XR g0 h' v tx n (ee_e tx n p) D → Q (some (.int (nI (ee_v tx n p)))) h') (qf : ¬ ee_ok tx n p lo hi → ∀ h', ee_ft h h' → ee_XF g0 h' v tx n (ee_nfa tx n p) → Q (some (.int (nI lo))) h') : eb_Ct (d + 7) 51 [.ref s_reader, .int (nI lo), .int (nI hi)] h Q := by
  have hp := x.2.2.2.2
  exact C_num (d := d) ht hn hp x.2.1 lo hi hlo hhi x.ko (fun ok h' F' t' => qo ok h' F' (x.ft F' t' (ee_e_le tx hn hp).1)) (fun no h' F' t' => qf no h' F' ⟨x.1.vf F'.vf, p, hp, t'⟩)
theorem C_nm0 {d : Nat} {h g0 : eb_H} {Q : Option Value → eb_H → Prop} {tx : Nat → Nat} {n v : Nat} {y : Int32 × Int32} (x : ee_XF g0 h v tx n y) (x1 x2 : Int32) (q : ∀ h', ee_ft h h' → ee_XF g0 h' v tx n y → Q (some (.int x1)) h') : eb_Ct (d + 1) 51 [.ref s_reader, .int x1, .int x2] h Q := by
  obtain ⟨b, p, hp, t⟩ := x
  exact C_num0 (d := d) t x1 x2 b.ko (fun h' F' t' => q h' F' ⟨b.vf F'.vf, p, hp, t'⟩)
theorem C_fl0 {d : Nat} {h g0 : eb_H} {Q : Option Value → eb_H → Prop} {tx : Nat → Nat} {n v : Nat} {y : Int32 × Int32} (x : ee_XF g0 h v tx n y) (c : Int32) (hc : c ≠ 0) (q : ∀ h', ee_ft h h' → ee_XF g0 h' v tx n y → Q none h') : eb_Ct d 68 [.ref s_tape, .int c] h Q := by
  obtain ⟨b, p, hp, t⟩ := x
  exact C_fl t c hc b.ko (fun h' F' t' => q h' F' ⟨b.vf F'.vf, p, hp, t'⟩)
theorem C_flR {d : Nat} {h g0 : eb_H} {Q : Option Value → eb_H → Prop} {tx : Nat → Nat} {n p v : Nat} {D : ee_D} (hn : n ≤ 900) (x : ee_XR g0 h v tx n p D) (c : Int32) (hc : c ≠ 0) (q : ∀ h', ee_ft h h' → ee_XF g0 h' v tx n (ee_fa tx n p c) → Q none h') : eb_Ct d 68 [.ref s_tape, .int c] h Q :=
  C_fl2 hn x.2.1 c hc x.ko (fun h' F' t' => q h' F' ⟨x.1.vf F'.vf, p, x.2.2.2.2, t'⟩)
/-- a cell's number -/
theorem C_rcR {d : Nat} {h g0 : eb_H} {Q : Option Value → eb_H → Prop} {tx : Nat → Nat} {n p v a b c s : Nat} {D : ee_D} (ht : ∀ j, j < n → tx j < 256) (hn : n ≤ 900) (x : ee_XR g0 h v tx n p D) (dw : ee_DW D a b c s) (qo : ee_ok tx n p 0 (a * b - 1) → ∀ h', ee_ft h h' → ee_XR g0 h' v tx n (ee_e tx n p) D → Q (some (.int (nI (ee_v tx n p)))) h') (qf : ¬ ee_ok tx n p 0 (a * b - 1) → ∀ h', ee_ft h h' → ee_XF g0 h' v tx n (ee_nfa tx n p) → Q (some (.int (nI 0))) h') : eb_Ct (d + 7) 51 [.ref s_reader, .int 0, .int (((eb_I h v 0) * (eb_I h v 1)) - 1)] h Q := by
  have i0 : eb_I h v 0 = D.1 1 := x.2.2.1 1 (by decide) (by decide)
  have i1 : eb_I h v 1 = D.1 2 := x.2.2.1 2 (by decide) (by decide)
  obtain ⟨r1, r2⟩ := ee_rc dw.1.2 dw.2.1.2
  rw [i0, i1, dw.1.1, dw.2.1.1, r1]
  exact C_nmR (d := d) ht hn x 0 (a * b - 1) (by omega) (by omega) qo qf
end EBXDRAFT
