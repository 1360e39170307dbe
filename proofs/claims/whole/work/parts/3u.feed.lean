section EBFEED2
variable {L : Nat} {xs : Nat → Int32}
def ec_mb (x : Int32) (s : Nat) : Int32 := (x >>> (nI s &&& 31)) &&& 255
theorem ec_i8 {y z : Int32} (h : y.toBitVec.toNat % 256 = z.toBitVec.toNat % 256) : y.toInt8 = z.toInt8 := by
  apply Int8.toBitVec_inj.mp
  rw [Int32.toBitVec_toInt8, Int32.toBitVec_toInt8, BitVec.signExtend_eq_setWidth_of_le _ (by decide), BitVec.signExtend_eq_setWidth_of_le _ (by decide)]
  apply BitVec.eq_of_toNat_eq
  rw [BitVec.toNat_setWidth, BitVec.toNat_setWidth]
  exact h
theorem ec_i8i (y : Int32) : y.toInt8.toInt32.toInt8 = y.toInt8 := by
  simp
theorem ec_mb_n (x : Int32) (s : Nat) : ec_mb x s = nI ((x >>> (nI s &&& 31)).toBitVec.toNat % 256) := pk_and _ 8 (by decide)
theorem ec_mb_by (x : Int32) (s : Nat) (hs : s = 0 ∨ s = 8 ∨ s = 16 ∨ s = 24) : (ec_mb x s).toInt8.toInt32 = eb_by x s := by
  unfold eb_by
  rw [ec_i8i]
  congr 1
  apply ec_i8
  rw [ec_mb_n, pk_tn (by omega), Nat.mod_mod]
  have hs32 : s < 32 := by omega
  have e1 := pk_shr x (nI s &&& 31) s (ec_sm s hs32)
  have e2 : ((x.toUInt32 >>> ((nI s).toUInt32 &&& Int32.toUInt32 31)).toInt32).toBitVec.toNat = x.toBitVec.toNat / 2 ^ s := by
    refine pk_ushr x (nI s) s ?_
    rcases hs with rfl | rfl | rfl | rfl <;> decide
  rw [e2]
  have i1 : ∀ y : Int32, y.toInt = if 2 * y.toBitVec.toNat < 2 ^ 32 then (y.toBitVec.toNat : Int) else (y.toBitVec.toNat : Int) - 2 ^ 32 := fun y => BitVec.toInt_eq_toNat_cond ..
  rw [Int.shiftRight_eq_div_pow, i1, i1] at e1
  have b1 := (x >>> (nI s &&& 31)).toBitVec.isLt
  have b2 := x.toBitVec.isLt
  generalize (x >>> (nI s &&& 31)).toBitVec.toNat = A at *
  generalize x.toBitVec.toNat = B at *
  rcases hs with rfl | rfl | rfl | rfl
  · simp only [Nat.pow_zero, Nat.div_one] at *
    split at e1 <;> split at e1 <;> omega
  · have : ((2 ^ 8 : Nat) : Int) = 256 := by decide
    rw [this] at e1
    have : (2 : Nat) ^ 8 = 256 := by decide
    rw [this]
    split at e1 <;> split at e1 <;> omega
  · have : ((2 ^ 16 : Nat) : Int) = 65536 := by decide
    rw [this] at e1
    have : (2 : Nat) ^ 16 = 65536 := by decide
    rw [this]
    split at e1 <;> split at e1 <;> omega
  · have : ((2 ^ 24 : Nat) : Int) = 16777216 := by decide
    rw [this] at e1
    have : (2 : Nat) ^ 24 = 16777216 := by decide
    rw [this]
    split at e1 <;> split at e1 <;> omega
def ec_sel (x1 x2 x3 x4 x5 : Int32) (k : Nat) : Int32 := if 4 ≤ k then (if 8 ≤ k then (if 12 ≤ k then (if 16 ≤ k then x5 else x4) else x3) else x2) else x1
def ec_fb (x1 x2 x3 x4 x5 : Int32) (k : Nat) : Int32 := ec_mb (ec_sel x1 x2 x3 x4 x5 k) (24 - 8 * (k % 4))
def eb_Wo.setFed (w : eb_Wo) (x1 x2 x3 x4 x5 : Int32) : eb_Wo := (w.fed + 20, (fun j => if j < w.fed then w.text j else ec_fb x1 x2 x3 x4 x5 (j - w.fed)), w.2.2.1, w.va, w.now, w.past, w.tray, w.img)
theorem M_feed_l {d : Nat} {h0 h : eb_H} {Q : Option Value → eb_H → Prop} (x1 x2 x3 x4 x5 : Int32) (f : Nat) (hf : f + 20 ≤ 900) (e5 : eb_I h s_MO 5 = nI f) (ko : eb_KO h) (w : ∀ h', ec_fr (fun c => c = s_MO ∨ c = s_m_tape) h h' → (∀ j, j ≠ 5 → eb_I h' s_MO j = eb_I h s_MO j) → eb_I h' s_MO 5 = nI (f + 20) → (∀ j, j < 20 → eb_I h' s_m_tape (f + j) = ec_fb x1 x2 x3 x4 x5 j) → (∀ j, j < f → eb_I h' s_m_tape j = eb_I h s_m_tape j) → Q (some (.int (nI (f + 20)))) h') : eb_Sn d m_X11_feed h0 24 [(0, .ref s_MO), (1, .int x1), (2, .int x2), (3, .int x3), (4, .int x4), (5, .int x5), (6, .int 0)] [] h Q := by
  have key : ∀ (m j : Nat) (g : eb_H), j + m = 20 → ec_fr (fun c => c = s_MO ∨ c = s_m_tape) h g → (∀ j, j ≠ 5 → eb_I g s_MO j = eb_I h s_MO j) → eb_I g s_MO 5 = nI (f + j) → (∀ q, q < j → eb_I g s_m_tape (f + q) = ec_fb x1 x2 x3 x4 x5 q) → (∀ q, q < f → eb_I g s_m_tape q = eb_I h s_m_tape q) → eb_Sn d m_X11_feed h0 24 [(0, .ref s_MO), (1, .int x1), (2, .int x2), (3, .int x3), (4, .int x4), (5, .int x5), (6, .int (nI j))] [] g Q := by
    intro m
    induction m with
    | zero =>
      intro j g hj F a b c e
      have : j = 20 := by omega
      subst this
      refine b_X11_feed_24 _ _ _ _ _ _ (F.ko ko) ⟨fun _ => ?_, fun z => absurd (by decide) z⟩
      rw [b]
      exact w g F a b c e
    | succ m ih =>
      intro j g hj F a b c e
      have l4 : (4 : Int32) ≤ nI j ↔ 4 ≤ j := nI_leI (a := 4) (by decide) (by omega)
      have l8 : (8 : Int32) ≤ nI j ↔ 8 ≤ j := nI_leI (a := 8) (by decide) (by omega)
      have l12 : (12 : Int32) ≤ nI j ↔ 12 ≤ j := nI_leI (a := 12) (by decide) (by omega)
      have l16 : (16 : Int32) ≤ nI j ↔ 16 ≤ j := nI_leI (a := 16) (by decide) (by omega)
      have em : nI j - nI j / 4 * 4 = nI (j % 4) := pk_rem (d := 4) (by omega) (by omega) (by omega)
      have es : (24 : Int32) - (8 : Int32) * nI (j % 4) = nI (24 - 8 * (j % 4)) := by
        have : (8 : Int32) * nI (j % 4) = nI (8 * (j % 4)) := pk_mul 8 _
        rw [this]
        exact pk_sub (a := 24) (by omega)
      refine b_X11_feed_24 _ _ _ _ _ _ (F.ko ko) ⟨fun z => ?_, fun _ => ?_⟩
      · exfalso
        exact nI_ge (a := j) (b := 20) (by omega) (by omega) z
      · have ev : ((if (4 : Int32) ≤ nI j then (if (8 : Int32) ≤ nI j then (if (12 : Int32) ≤ nI j then (if (16 : Int32) ≤ nI j then x5 else x4) else x3) else x2) else x1 : Int32) >>> (((24 : Int32) - ((8 : Int32) * (nI j - nI j / 4 * 4))) &&& 31)) &&& 255 = ec_fb x1 x2 x3 x4 x5 j := by
          rw [em, es]
          simp only [l4, l8, l12, l16]
          rfl
        rw [ev, b, eb_cln (by omega), nI_1]
        have et : eb_I (eb_sI g s_m_tape (f + j) (ec_fb x1 x2 x3 x4 x5 j)) s_MO 5 + 1 = nI (f + (j + 1)) := by
          rw [eb_I_sIn (by decide), b, nI_1]; rfl
        rw [et]
        refine ⟨vp_in_nI (by omega) (by omega), ih (j + 1) _ (by omega) ((F.sI (Or.inr rfl)).sI (Or.inl rfl)) (fun q hq => ?_) eb_I_sI' (fun q hq => ?_) (fun q hq => ?_)⟩
        · rw [eb_I_sI, if_neg hq, eb_I_sIn (by decide)]; exact a q hq
        · rw [eb_I_sIn (by decide), eb_I_sI]
          by_cases y : q = j
          · rw [if_pos (by omega), y]
          · rw [if_neg (by omega)]; exact c q (by omega)
        · rw [eb_I_sIn (by decide), eb_I_sI, if_neg (by omega)]; exact e q hq
  exact key 20 0 h (by omega) ec_fr.rfl (fun _ _ => rfl) e5 (fun q hq => absurd hq (by omega)) (fun _ _ => rfl)
theorem PX.setFed {w : eb_Wo} {h h' : eb_H} (p : PX w h) (x1 x2 x3 x4 x5 : Int32) (q : eb_same (fun c => c ≠ s_tape ∧ c ≠ s_tape_text) h h') (t1 : eb_I h' s_tape 1 = nI (w.fed + 20)) (t7 : eb_I h' s_tape 7 = eb_I h s_tape 7) (t8 : eb_I h' s_tape 8 = eb_I h s_tape 8) (tx : ∀ j, j < w.fed + 20 → eb_I h' s_tape_text j = (if j < w.fed then w.text j else ec_fb x1 x2 x3 x4 x5 (j - w.fed)).toInt8.toInt32) : PX (w.setFed x1 x2 x3 x4 x5) h' := by
  have wk : ∀ a b, (b < 3 ∨ 4 < a) → eb_same (eb_in a b) h h' := fun a b z => q.weak (fun c y => by
    unfold eb_in at y
    refine ⟨fun e => ?_, fun e => ?_⟩
    · rw [e] at y; unfold eb_ix s_tape at y; omega
    · rw [e] at y; unfold eb_ix s_tape_text at y; omega)
  have w9 : eb_same (fun c => eb_kd c ≠ 19 ∧ 89 ≤ eb_ix c) h h' := q.weak (fun c y => by
    refine ⟨fun e => ?_, fun e => ?_⟩
    · rw [e] at y; unfold eb_ix s_tape at y; omega
    · rw [e] at y; unfold eb_ix s_tape_text at y; omega)
  obtain ⟨y1, y2⟩ := p.past_mv (wk 21 42 (by omega))
  refine ⟨t1, tx, t7.trans p.fault, t8.trans p.place, p.va_mv (wk 0 0 (by omega)) (wk 12 14 (by omega)) w9, p.now_mv (wk 15 16 (by omega)), y1, y2, fun j hj => (p.tray j hj).mv hj (wk _ _ (by omega)), fun j hj => ?_, p.two_mv (wk 43 43 (by omega))⟩
  refine (p.img j hj).mv hj ?_ (wk _ _ (by omega)) (wk 12 14 (by omega)) w9
  rw [(wk 57 57 (by omega) s_imageValleys (by unfold eb_in eb_ix eb_kd s_imageValleys; omega)).2.2]
theorem PM.setFed {w : eb_Wo} {h h' : eb_H} (p : PM w h) (x1 x2 x3 x4 x5 : Int32) (F : ec_fr (fun c => c = s_MO ∨ c = s_m_tape) h h') (m : ∀ j, j ≠ 5 → eb_I h' s_MO j = eb_I h s_MO j) (m5 : eb_I h' s_MO 5 = nI (w.fed + 20)) (tx : ∀ j, j < w.fed + 20 → eb_I h' s_m_tape j = (if j < w.fed then w.text j else ec_fb x1 x2 x3 x4 x5 (j - w.fed))) : PM (w.setFed x1 x2 x3 x4 x5) h' := by
  have e1 : eb_I h' s_m_all = eb_I h s_m_all := F.2.2 _ (by decide)
  have q3 : eb_I h' s_m_rowSort = eb_I h s_m_rowSort := F.2.2 _ (by decide)
  have q4 : eb_I h' s_m_rowMany = eb_I h s_m_rowMany := F.2.2 _ (by decide)
  have q6 : eb_I h' s_m_hasImage = eb_I h s_m_hasImage := F.2.2 _ (by decide)
  refine ⟨m5, tx, (m 13 (by decide)).trans p.fault, (m 14 (by decide)).trans p.place, p.va.mvA e1, p.now.mvA e1, by rw [e1]; exact p.size, fun i hi => (p.past i hi).mvA e1, ?_, ?_⟩
  · intro j hj
    have p1 := p.tray j hj
    show PMT h' j (w.tray j)
    cases hq : w.tray j with
    | none => rw [hq] at p1; unfold PMT at p1 ⊢; rw [q3]; exact p1
    | some z => rw [hq] at p1; unfold PMT at p1 ⊢; rw [q3, q4, F.2.1]; exact p1
  · intro j hj
    show PMI h' j (w.img j)
    have p1 := p.img j hj
    cases hq : w.img j with
    | none => rw [hq] at p1; unfold PMI at p1 ⊢; rw [q6]; exact p1
    | some z =>
      rw [hq] at p1
      unfold PMI at p1 ⊢
      rw [q6]
      exact ⟨p1.1, p1.2.1.mvA e1, p1.2.2.mvA e1⟩
/-- 2: feed -/
theorem c_feed (k : Nat) (h : eb_H) (v1 v2 v3 v4 v5 : Int32) (inv : eb_Inv L xs k h) : eb_Pr 96 159 [.int v1, .int v2, .int v3, .int v4, .int v5] (eb_Inv L xs (k + 1)) h := by
  refine eb_pr inv (fun w ok => ?_)
  have hf := ok.fed
  by_cases hx : w.fed + 20 ≤ 900
  · refine ⟨nI (w.fed + 20), w.setFed v1 v2 v3 v4 v5, ⟨hx, fun j hj => ?_, ok.va, ok.now, ok.len, ok.past, ok.tray, ok.img⟩, by show w.fed + 20 ≤ _; omega, eb_XS.of (fun h ko p Q q => ?_), eb_MS.of (fun h g ko eg kog p Q q => ?_)⟩
    · show 0 ≤ (if j < w.fed then w.text j else ec_fb v1 v2 v3 v4 v5 (j - w.fed)).toInt ∧ (if j < w.fed then w.text j else ec_fb v1 v2 v3 v4 v5 (j - w.fed)).toInt ≤ 255
      by_cases z : j < w.fed
      · rw [if_pos z]; exact ok.text j z
      · rw [if_neg z]
        unfold ec_fb
        rw [ec_mb_n, nI_toInt (by omega)]
        omega
    · have P : ∀ c, ¬ (c ≠ s_tape ∧ c ≠ s_tape_text) → ¬ ec_isM c := fun c z y => by
        refine z ⟨fun e => ?_, fun e => ?_⟩
        · rw [e] at y; unfold ec_isM eb_isM eb_ix s_tape at y; omega
        · rw [e] at y; unfold ec_isM eb_isM eb_ix s_tape_text at y; omega
      refine T_X10_feed (d := 1298) _ _ _ _ _ ko ⟨fun _ => ?_, fun z => ?_⟩
      · refine C_add v1 w.fed p.fed (by omega) ko (fun h1 s1 z1 a1 b1 t1 => ⟨rfl, z1.ko ko, ?_⟩)
        refine C_add v2 (w.fed + 4) b1 (by omega) (z1.ko ko) (fun h2 s2 z2 a2 b2 t2 => ⟨rfl, z2.ko (z1.ko ko), ?_⟩)
        refine C_add v3 (w.fed + 8) b2 (by omega) (z2.ko (z1.ko ko)) (fun h3 s3 z3 a3 b3 t3 => ⟨rfl, z3.ko (z2.ko (z1.ko ko)), ?_⟩)
        refine C_add v4 (w.fed + 12) b3 (by omega) (z3.ko (z2.ko (z1.ko ko))) (fun h4 s4 z4 a4 b4 t4 => ⟨rfl, z4.ko (z3.ko (z2.ko (z1.ko ko))), ?_⟩)
        refine C_add v5 (w.fed + 16) b4 (by omega) (z4.ko (z3.ko (z2.ko (z1.ko ko)))) (fun h5 s5 z5 a5 b5 t5 => ⟨rfl, z5.ko (z4.ko (z3.ko (z2.ko (z1.ko ko)))), ?_⟩)
        have Z := ((((z1.trans z2).trans z3).trans z4).trans z5)
        have S := ((((s1.trans s2).trans s3).trans s4).trans s5)
        have b5' : eb_I h5 s_tape 1 = nI (w.fed + 20) := b5
        rw [b5']
        refine q h5 (eb_fx.of ko Z (S.weak (fun c y => Classical.byContradiction (fun z => P c z y)))) (p.setFed v1 v2 v3 v4 v5 S b5' ?_ ?_ (fun j hj => ?_))
        · rw [a5 7 (by decide), a4 7 (by decide), a3 7 (by decide), a2 7 (by decide), a1 7 (by decide)]
        · rw [a5 8 (by decide), a4 8 (by decide), a3 8 (by decide), a2 8 (by decide), a1 8 (by decide)]
        · by_cases lt : j < w.fed
          · rw [if_pos lt, t5, if_neg (by omega), if_neg (by omega), if_neg (by omega), if_neg (by omega), t4, if_neg (by omega), if_neg (by omega), if_neg (by omega), if_neg (by omega), t3, if_neg (by omega), if_neg (by omega), if_neg (by omega), if_neg (by omega), t2, if_neg (by omega), if_neg (by omega), if_neg (by omega), if_neg (by omega), t1, if_neg (by omega), if_neg (by omega), if_neg (by omega), if_neg (by omega)]
            exact p.text j lt
          · rw [if_neg lt]
            obtain ⟨m, rfl⟩ : ∃ m, j = w.fed + m := ⟨j - w.fed, by omega⟩
            have hm : m < 20 := by omega
            rw [show w.fed + m - w.fed = m by omega]
            unfold ec_fb
            rw [ec_mb_by _ _ (by omega), t5, t4, t3, t2, t1]
            unfold ec_sel
            rcases (by omega : m = 0 ∨ m = 1 ∨ m = 2 ∨ m = 3 ∨ m = 4 ∨ m = 5 ∨ m = 6 ∨ m = 7 ∨ m = 8 ∨ m = 9 ∨ m = 10 ∨ m = 11 ∨ m = 12 ∨ m = 13 ∨ m = 14 ∨ m = 15 ∨ m = 16 ∨ m = 17 ∨ m = 18 ∨ m = 19) with rfl | rfl | rfl | rfl | rfl | rfl | rfl | rfl | rfl | rfl | rfl | rfl | rfl | rfl | rfl | rfl | rfl | rfl | rfl | rfl <;> simp [Nat.add_assoc]
      · exfalso
        apply z
        rw [p.fed]
        exact nI_le (b := 880) (by omega) (by omega)
    · refine T_X11_feed (d := 1299) _ _ _ _ _ ko ?_
      rw [← eg]
      rw [p.fed, show nI w.fed + 20 = nI (w.fed + 20) from nI_add w.fed 20]
      refine ⟨fun _ => M_feed_l v1 v2 v3 v4 v5 w.fed hx p.fed kog (fun h' F a b c e => q h' (F.fm kog (fun c z => ?_)) (p.setFed v1 v2 v3 v4 v5 F a b (fun j hj => ?_))), fun z => absurd (nI_le (b := 900) hx (by omega)) z⟩
      · rcases z with rfl | rfl
        · unfold eb_isM eb_ix s_MO; omega
        · unfold eb_isM eb_ix s_m_tape; omega
      · by_cases lt : j < w.fed
        · rw [if_pos lt, e j lt]
          exact p.text j lt
        · rw [if_neg lt]
          have := c (j - w.fed) (by omega)
          rw [show w.fed + (j - w.fed) = j by omega] at this
          exact this
  · refine ⟨-5, w, ok, by omega, eb_XS.of (fun h ko p Q q => ?_), eb_MS.of (fun h g ko eg kog p Q q => ?_)⟩
    · refine T_X10_feed (d := 1298) _ _ _ _ _ ko ⟨fun z => ?_, fun _ => q h (eb_fx.rfl ko) p⟩
      exfalso
      rw [p.fed] at z
      exact nI_ge (a := 880) (b := w.fed) (by omega) (by omega) z
    · refine T_X11_feed (d := 1299) _ _ _ _ _ ko ?_
      rw [← eg]
      rw [p.fed, show nI w.fed + 20 = nI (w.fed + 20) from nI_add w.fed 20]
      exact ⟨fun z => absurd z (nI_ge (a := 900) (b := w.fed + 20) (by omega) (by omega)), fun _ => q g (eb_fm.rfl kog) p⟩
end EBFEED2
