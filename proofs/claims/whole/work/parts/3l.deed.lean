section EBDEED
/-! ===== deeds: what is remembered ===== -/
def eb_Wo.setNP (w : eb_Wo) (s : eb_St) (p : List eb_St) : eb_Wo := (w.1, w.2.1, w.2.2.1, w.va, s, p, w.tray, w.img)
def ec_s0 : eb_St := fun _ => (0 : Int32)
theorem ec_getD {p : List eb_St} {i : Nat} (h : i < p.length) (x y : eb_St) : p.getD i x = p.getD i y := by
  rw [List.getD_eq_getElem?_getD, List.getD_eq_getElem?_getD, List.getElem?_eq_getElem h]; rfl
/-- a state as the reference lays it in a row -/
def ec_rw (s : eb_St) (q : Nat) : Int32 := if q < 3 then s q else if q < 19 then s (q + 2) else s (q - 16)
theorem PMS_rw {h : eb_H} {o : Nat} {s : eb_St} : PMS h o s ↔ ∀ q, q < 21 → eb_I h s_m_all (o + q) = ec_rw s q := by
  constructor
  · rintro ⟨a0, a1, a2, a3, a4, a5⟩ q hq
    unfold ec_rw
    by_cases q3 : q < 3
    · rw [if_pos q3]
      rcases (by omega : q = 0 ∨ q = 1 ∨ q = 2) with rfl | rfl | rfl
      · exact a0
      · exact a1
      · exact a2
    · rw [if_neg q3]
      by_cases q19 : q < 19
      · rw [if_pos q19]
        have := a3 (q - 3) (by omega)
        rw [show o + 3 + (q - 3) = o + q by omega] at this
        rw [this]
        show s (5 + (q - 3)) = s (q + 2)
        rw [show 5 + (q - 3) = q + 2 by omega]
      · rw [if_neg q19]
        rcases (by omega : q = 19 ∨ q = 20) with rfl | rfl
        · exact a4
        · exact a5
  · intro z
    refine ⟨z 0 (by omega), z 1 (by omega), z 2 (by omega), fun j hj => ?_, z 19 (by omega), z 20 (by omega)⟩
    have := z (3 + j) (by omega)
    rw [← Nat.add_assoc] at this
    rw [this]
    unfold ec_rw
    rw [if_neg (by omega), if_pos (by omega)]
    show s (3 + j + 2) = s (5 + j)
    rw [show 3 + j + 2 = 5 + j by omega]
/-- the class's past -/
def PXP (h : eb_H) (p : List eb_St) : Prop := eb_I h s_past 2 = nI p.length ∧ ∃ n, n < 10 ∧ eb_I h s_past 1 = nI n ∧ ∀ i, i < p.length → PXS h (s_past_states_0 + 1048576 * ((n + 9 - i) % 10)) (p.getD i ec_s0)
theorem PX.pp {w : eb_Wo} {h : eb_H} (q : PX w h) : PXP h w.past := by
  obtain ⟨n, hn, e, f⟩ := q.past
  refine ⟨q.size, n, hn, e, fun i hi => ?_⟩
  rw [ec_getD hi _ w.now]
  exact f i hi
def ec_pst (c : Nat) : Prop := 21 ≤ eb_ix c ∧ eb_ix c ≤ 42
theorem PXP.mv {h h' : eb_H} {p : List eb_St} (q : PXP h p) (s : eb_same (fun c => ec_pst c ∧ eb_kd c ≠ 19) h h') : PXP h' p := by
  obtain ⟨a, n, hn, e, f⟩ := q
  have qp := s s_past (by unfold ec_pst eb_ix eb_kd s_past; omega)
  refine ⟨by rw [qp.1]; exact a, n, hn, by rw [qp.1]; exact e, fun i hi => ?_⟩
  have := Nat.mod_lt (n + 9 - i) (show 0 < 10 by omega)
  have q1 := s (s_past_states_0 + 1048576 * ((n + 9 - i) % 10)) (by unfold ec_pst eb_ix eb_kd s_past_states_0; omega)
  have q2 := s (s_past_states_0 + 1048576 * ((n + 9 - i) % 10) + 524807) (by unfold ec_pst eb_ix eb_kd s_past_states_0; omega)
  exact (f i hi).mv q1.1 q1.2.2 q2.1
theorem eb_pss {h : eb_H} (ko : eb_KO h) {i : Nat} (hi : i < 10) : eb_R h s_past_states i = some (s_past_states_0 + 1048576 * i) ∧ eb_isS (s_past_states_0 + 1048576 * i) ∧ eb_R h (s_past_states_0 + 1048576 * i) 5 = some (s_past_states_0 + 1048576 * i + 524807) := by
  refine ⟨?_, ⟨by unfold eb_kd s_past_states_0; omega, by unfold eb_ln s_past_states_0; omega⟩, ?_⟩
  · rcases (by omega : i = 0 ∨ i = 1 ∨ i = 2 ∨ i = 3 ∨ i = 4 ∨ i = 5 ∨ i = 6 ∨ i = 7 ∨ i = 8 ∨ i = 9) with rfl | rfl | rfl | rfl | rfl | rfl | rfl | rfl | rfl | rfl
    · exact ko_s_past_states_0 ko
    · exact ko_s_past_states_1 ko
    · exact ko_s_past_states_2 ko
    · exact ko_s_past_states_3 ko
    · exact ko_s_past_states_4 ko
    · exact ko_s_past_states_5 ko
    · exact ko_s_past_states_6 ko
    · exact ko_s_past_states_7 ko
    · exact ko_s_past_states_8 ko
    · exact ko_s_past_states_9 ko
  · rcases (by omega : i = 0 ∨ i = 1 ∨ i = 2 ∨ i = 3 ∨ i = 4 ∨ i = 5 ∨ i = 6 ∨ i = 7 ∨ i = 8 ∨ i = 9) with rfl | rfl | rfl | rfl | rfl | rfl | rfl | rfl | rfl | rfl
    · exact ko_s_past_states_0_5 ko
    · exact ko_s_past_states_1_5 ko
    · exact ko_s_past_states_2_5 ko
    · exact ko_s_past_states_3_5 ko
    · exact ko_s_past_states_4_5 ko
    · exact ko_s_past_states_5_5 ko
    · exact ko_s_past_states_6_5 ko
    · exact ko_s_past_states_7_5 ko
    · exact ko_s_past_states_8_5 ko
    · exact ko_s_past_states_9_5 ko
theorem ec_tk10 {p : List eb_St} (hp : p.length ≤ 10) (s : eb_St) : ((s :: p).take 10).length = min (p.length + 1) 10 ∧ ∀ i, i < ((s :: p).take 10).length → ((s :: p).take 10).getD i ec_s0 = if i = 0 then s else p.getD (i - 1) ec_s0 := by
  have hl : ((s :: p).take 10).length = min (p.length + 1) 10 := by rw [List.length_take]; simp; omega
  refine ⟨hl, fun i hi => ?_⟩
  rw [hl] at hi
  rw [List.getD_eq_getElem?_getD, List.getElem?_take]
  rw [if_pos (by omega)]
  cases i with
  | zero => rfl
  | succ i => rw [if_neg (by omega)]; rfl
theorem C_rem {d : Nat} {h : eb_H} {Q : Option Value → eb_H → Prop} (a : Nat) (s : eb_St) (p : List eb_St) (hp : p.length ≤ 10) (ia : eb_isS a) (na : ¬ ec_pst a) (ps : PXS h a s) (pp : PXP h p) (ko : eb_KO h) (w : ∀ h', PXP h' ((s :: p).take 10) → eb_nz h h' → eb_same (fun c => ¬ ec_pst c) h h' → Q none h') : eb_Ct (d + 2) 42 [.ref s_past, .ref a] h Q := by
  obtain ⟨a1, n, hn, e, f⟩ := pp
  obtain ⟨x1, x2, x3⟩ := eb_pss ko hn
  obtain ⟨l1, l2⟩ := ec_tk10 hp s
  have t : (nI n).toNatClampNeg = n := eb_cln (by omega)
  refine T_X4_remember a ia.1 ko ?_
  rw [e, t]
  refine ⟨fun z => absurd z (nI_pos (by omega)), fun _ => ⟨fun _ => ⟨vp_in_nI hn (by omega), _, x1, x2.1, ?_⟩, fun z => absurd (nI_lt (b := 10) hn (by omega)) z⟩⟩
  have ipa : ec_pst (s_past_states_0 + 1048576 * n) ∧ ec_pst (s_past_states_0 + 1048576 * n + 524807) := by unfold ec_pst eb_ix s_past_states_0; omega
  refine C_become _ a s x2 ia (fun z => na (by rw [z]; exact ipa.1)) x3 ps ko ?_
  intro h' ps' nz sm
  have np1 : s_past ≠ s_past_states_0 + 1048576 * n ∧ s_past ≠ s_past_states_0 + 1048576 * n + 524807 := by unfold s_past s_past_states_0; omega
  have e2 : eb_I h' s_past = eb_I h s_past := (sm s_past np1).1
  refine ⟨rfl, nz.ko ko, w _ ?_ (nz.trans ⟨rfl, rfl, rfl, rfl, rfl⟩) ?_⟩
  · have ed : nI n + 1 - (nI n + 1) / 10 * 10 = nI ((n + 1) % 10) := by
      rw [nI_1]
      exact pk_rem (d := 10) (by omega) (by omega) (by omega)
    have es : (if (10 : Int32) < eb_I h s_past 2 + 1 then 10 else eb_I h s_past 2 + 1 : Int32) = nI (min (p.length + 1) 10) := by
      rw [a1, nI_1]
      by_cases q : p.length = 10
      · rw [q]; rfl
      · rw [if_neg (show ¬ (10 : Int32) < nI (p.length + 1) from nI_nlt (a := 10) (by omega) (by omega)), Nat.min_eq_left (by omega)]
    rw [e2, e, ed]
    have e3 : eb_I (eb_sI h' s_past 1 (nI ((n + 1) % 10))) s_past 2 = eb_I h s_past 2 := by rw [eb_I_sI, if_neg (by decide), e2]
    rw [e3, es]
    refine ⟨by rw [eb_I_sI', l1], (n + 1) % 10, Nat.mod_lt _ (by omega), by rw [eb_I_sI, if_neg (by decide), eb_I_sI'], fun i hi => ?_⟩
    rw [l2 i hi]
    rw [l1] at hi
    have h10 := Nat.mod_lt ((n + 1) % 10 + 9 - i) (show 0 < 10 by omega)
    refine PXS.mv (h := h') ?_ (by rw [eb_I_sIn (by unfold s_past s_past_states_0; omega), eb_I_sIn (by unfold s_past s_past_states_0; omega)]) rfl (by rw [eb_I_sIn (by unfold s_past s_past_states_0; omega), eb_I_sIn (by unfold s_past s_past_states_0; omega)])
    by_cases i0 : i = 0
    · rw [if_pos i0, i0, show ((n + 1) % 10 + 9 - 0) % 10 = n by omega]
      exact ps'
    · rw [if_neg i0, show ((n + 1) % 10 + 9 - i) % 10 = (n + 9 - (i - 1)) % 10 by omega]
      have hne : (n + 9 - (i - 1)) % 10 ≠ n := by omega
      have hm := Nat.mod_lt (n + 9 - (i - 1)) (show 0 < 10 by omega)
      have k1 := sm (s_past_states_0 + 1048576 * ((n + 9 - (i - 1)) % 10)) (by unfold s_past_states_0; omega)
      have k2 := sm (s_past_states_0 + 1048576 * ((n + 9 - (i - 1)) % 10) + 524807) (by unfold s_past_states_0; omega)
      exact (f (i - 1) (by omega)).mv k1.1 k1.2.2 k2.1
  · have sp : ec_pst s_past := by unfold ec_pst eb_ix s_past; omega
    exact ((sm.weak (fun c z => ⟨fun y => z (by rw [y]; exact ipa.1), fun y => z (by rw [y]; exact ipa.2)⟩)).sI (fun z => z sp)).sI (fun z => z sp)
/-- the class's world with another state and past -/
theorem PX.setNP {w : eb_Wo} {h h' : eb_H} (p : PX w h) (s : eb_St) (ps : List eb_St) (q : eb_same (fun c => eb_isW c ∧ ¬ ec_pst c ∧ ¬ (15 ≤ eb_ix c ∧ eb_ix c ≤ 16) ∨ c = s_flights) h h') (pn : PXS h' s_now s) (pp : PXP h' ps) : PX (w.setNP s ps) h' := by
  have wk : ∀ a b, (b < 1 ∨ (3 ≤ a ∧ b ≤ 4) ∨ (12 ≤ a ∧ b ≤ 14) ∨ (57 ≤ a ∧ b ≤ 57) ∨ (59 ≤ a ∧ b ≤ 70)) → eb_same (eb_in a b) h h' := fun a b z => q.weak (fun c y => by
    unfold eb_in at y
    refine Or.inl ?_
    unfold eb_isW ec_pst
    omega)
  have w9 : eb_same (fun c => eb_kd c ≠ 19 ∧ 89 ≤ eb_ix c) h h' := q.weak (fun c y => by
    refine Or.inl ?_
    unfold eb_isW ec_pst
    omega)
  obtain ⟨t1, t2, t3, t4⟩ := p.tape_mv (wk 3 4 (by omega))
  obtain ⟨y1, n, hn, e, f⟩ := pp
  refine ⟨t1, t2, t3, t4, p.va_mv (wk 0 0 (by omega)) (wk 12 14 (by omega)) w9, pn, y1, ⟨n, hn, e, fun i hi => ?_⟩, fun j hj => (p.tray j hj).mv hj (wk _ _ (by omega)), fun j hj => ?_, ?_⟩
  · have hi : i < ps.length := hi
    show PXS h' _ (ps.getD i s)
    rw [ec_getD hi s ec_s0]
    exact f i hi
  · refine (p.img j hj).mv hj ?_ (wk _ _ (by omega)) (wk 12 14 (by omega)) w9
    rw [(wk 57 57 (by omega) s_imageValleys (by unfold eb_in eb_ix eb_kd s_imageValleys; omega)).2.2]
  · rw [(q s_flights (Or.inr rfl)).2.2]
    exact p.two
theorem PM.setNP {w : eb_Wo} {h h' : eb_H} (p : PM w h) (ok : eb_okW w) (s : eb_St) (ps : List eb_St) (hI : ∀ c, c = s_MO ∨ c = s_m_tape ∨ c = s_m_rowSort ∨ c = s_m_rowMany ∨ c = s_m_hasImage → eb_I h' c = eb_I h c) (hJ : eb_J h' = eb_J h) (hA : ∀ q, (q < 31 ∨ 263 ≤ q) → eb_I h' s_m_all q = eb_I h s_m_all q) (pn : PMS h' 31 s) (h52 : eb_I h' s_m_all 52 = nI ps.length) (pp : ∀ i, i < ps.length → PMS h' (53 + 21 * (ps.length - 1 - i)) (ps.getD i ec_s0)) : PM (w.setNP s ps) h' := by
  have q0 := hI s_MO (Or.inl rfl)
  have q2 := hI s_m_tape (Or.inr (Or.inl rfl))
  have q3 := hI s_m_rowSort (Or.inr (Or.inr (Or.inl rfl)))
  have q4 := hI s_m_rowMany (Or.inr (Or.inr (Or.inr (Or.inl rfl))))
  have q6 := hI s_m_hasImage (Or.inr (Or.inr (Or.inr (Or.inr rfl))))
  have hl := ok.len
  have eL : ∀ i l, i < 2 → PML h 0 i l → PML h' 0 i l := fun i l hi z => by
    cases l with
    | none => unfold PML at z ⊢; rw [hA _ (by omega)]; exact z
    | some cs =>
      unfold PML at z ⊢
      rw [hA _ (by omega), hA _ (by omega), hA _ (by omega)]
      obtain ⟨z1, f, z2, z3, z4, z5⟩ := z
      exact ⟨z1, f, z2, z3, z4, fun j hj => by rw [hA _ (by omega)]; exact z5 j hj⟩
  have hh := ok.va.houses
  refine ⟨?_, ?_, ?_, ?_, ?_, pn, h52, fun i hi => ?_, ?_, ?_⟩
  · rw [q0]; exact p.fed
  · rw [q2]; exact p.text
  · rw [q0]; exact p.fault
  · rw [q0]; exact p.place
  · obtain ⟨z1, z2, z3, z4, z5, z6, z7, z8, z9⟩ := p.va
    refine ⟨?_, ?_, ?_, ?_, ?_, eL _ _ (by omega) z6, eL _ _ (by omega) z7, fun j hj => ?_, fun j hj => ?_⟩
    · rw [hA _ (by omega)]; exact z1
    · rw [hA _ (by omega)]; exact z2
    · rw [hA _ (by omega)]; exact z3
    · rw [hA _ (by omega)]; exact z4
    · rw [hA _ (by omega)]; exact z5
    · rw [hA _ (by omega)]; exact z8 j hj
    · have hj' : j < w.va.houses := hj
      rw [hA _ (by omega)]; exact z9 j hj
  · have hi : i < ps.length := hi
    show PMS h' _ (ps.getD i s)
    rw [ec_getD hi s ec_s0]
    exact pp i hi
  · intro j hj
    have p1 := p.tray j hj
    show PMT h' j (w.tray j)
    cases hq : w.tray j with
    | none => rw [hq] at p1; unfold PMT at p1 ⊢; rw [q3]; exact p1
    | some z => rw [hq] at p1; unfold PMT at p1 ⊢; rw [q3, q4, hJ]; exact p1
  · intro j hj
    show PMI h' j (w.img j)
    have p1 := p.img j hj
    cases hq : w.img j with
    | none => rw [hq] at p1; unfold PMI at p1 ⊢; rw [q6]; exact p1
    | some z =>
      rw [hq] at p1
      unfold PMI at p1 ⊢
      rw [q6]
      exact ⟨p1.1, p1.2.1.mvB (ok.img j z hj hq).1 (fun q hq _ => hA _ (by omega)), p1.2.2.mvB (fun q hq => hA _ (by omega))⟩
theorem eb_okW.setNP {w : eb_Wo} (p : eb_okW w) (s : eb_St) (ps : List eb_St) (h1 : eb_okS w.va s) (h2 : ps.length ≤ 10) (h3 : ∀ i, i < ps.length → eb_okS w.va (ps.getD i ec_s0)) : eb_okW (w.setNP s ps) :=
  ⟨p.fed, p.text, p.va, h1, h2, fun i hi => by
    have hi : i < ps.length := hi
    show eb_okS w.va (ps.getD i s)
    rw [ec_getD hi s ec_s0]
    exact h3 i hi, p.tray, p.img⟩
theorem eb_okW.setN1 {w : eb_Wo} (p : eb_okW w) (s : eb_St) (h1 : eb_okS w.va s) : eb_okW (w.setNP s ((w.now :: w.past).take 10)) := by
  obtain ⟨l1, l2⟩ := ec_tk10 p.len w.now
  refine p.setNP s _ h1 (by omega) (fun i hi => ?_)
  rw [l2 i hi]
  rw [l1] at hi
  by_cases i0 : i = 0
  · rw [if_pos i0]; exact p.now
  · rw [if_neg i0]
    have := p.past (i - 1) (by omega)
    rw [ec_getD (show i - 1 < w.past.length by omega) w.now ec_s0] at this
    exact this
end EBDEED
