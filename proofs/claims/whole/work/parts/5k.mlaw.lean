section EBMLAW
variable {L : Nat} {xs : Nat → Int32}
/-! ===== what is read, as the reference lays it: 0 lines, 1 rows, 2 columns, 3 bears, 4 houses, 11.. heights, 27.. houses' cells, 31 bat, 32 echoes, 33 steps, 34.. things, 50 drifts, 51 wind; codes so far; the laws ===== -/
abbrev ee_D : Type := (Nat → Int32) × Nat × Option (List Nat) × Option (List Nat)
def ee_RL (F : Nat → Int32) (f i : Nat) : Option (List Nat) → Prop
  | none => F (5 + i) = 0
  | some cs => F (5 + i) = 1 ∧ ∃ f0, f0 + cs.length ≤ f ∧ F (7 + i) = nI f0 ∧ F (9 + i) = nI cs.length ∧ ∀ j, j < cs.length → F (264 + f0 + j) = nI (cs.getD j 0)
def ee_RF (F : Nat → Int32) (D : ee_D) : Prop := (∀ j, j ≤ 52 → (j < 5 ∨ 11 ≤ j) → F j = D.1 j) ∧ F 263 = nI D.2.1 ∧ ee_RL F D.2.1 0 D.2.2.1 ∧ ee_RL F D.2.1 1 D.2.2.2
theorem ee_RL.mv {F F' : Nat → Int32} {f f' i : Nat} {l : Option (List Nat)} (r : ee_RL F f i l) (e5 : F' (5 + i) = F (5 + i)) (e7 : F' (7 + i) = F (7 + i)) (e9 : F' (9 + i) = F (9 + i)) (ec : ∀ j, j < f → F' (264 + j) = F (264 + j)) (hf : f ≤ f') : ee_RL F' f' i l := by
  cases l with
  | none => exact e5.trans r
  | some cs =>
    obtain ⟨r1, f0, r2, r3, r4, r5⟩ := r
    refine ⟨e5.trans r1, f0, Nat.le_trans r2 hf, e7.trans r3, e9.trans r4, fun j hj => ?_⟩
    rw [Nat.add_assoc, ec (f0 + j) (by omega), ← Nat.add_assoc]
    exact r5 j hj
/-- only the reference's ints of these -/
def ee_fx (h h' : eb_H) : Prop := ec_fr (fun c => c = s_MO ∨ c = s_m_fresh) h h' ∧ ∀ j, j ≠ 6 → j ≠ 7 → j ≠ 9 → j ≠ 10 → j ≠ 11 → j ≠ 12 → j ≠ 15 → eb_I h' s_MO j = eb_I h s_MO j
theorem ee_fx.rfl {h : eb_H} : ee_fx h h := ⟨ec_fr.rfl, fun _ _ _ _ _ _ _ _ => Eq.refl _⟩
theorem ee_fx.trans {h h1 h2 : eb_H} (a : ee_fx h h1) (b : ee_fx h1 h2) : ee_fx h h2 := ⟨a.1.trans b.1, fun j x1 x2 x3 x4 x5 x6 x7 => (b.2 j x1 x2 x3 x4 x5 x6 x7).trans (a.2 j x1 x2 x3 x4 x5 x6 x7)⟩
theorem ee_fl.fx {f : Nat} {h h' : eb_H} (a : ee_fl f h h') : ee_fx h h' := ⟨a.1, fun j x1 x2 x3 x4 x5 x6 _ => a.2.1 j x1 x2 x3 x4 x5 x6⟩
theorem ee_fo.fx {h h' : eb_H} (a : ee_fo h h') : ee_fx h h' := (a.fl (f := 0)).fx
theorem ee_fx.fs {h h1 : eb_H} (a : ee_fx h h1) {k : Nat} {v : Int32} : ee_fx h (eb_sI h1 s_m_fresh k v) := ⟨a.1.sI (Or.inr (Eq.refl _)), fun j x1 x2 x3 x4 x5 x6 x7 => by rw [eb_I_sIn (by decide)]; exact a.2 j x1 x2 x3 x4 x5 x6 x7⟩
theorem ee_fo.fresh {h h' : eb_H} (a : ee_fo h h') : eb_I h' s_m_fresh = eb_I h s_m_fresh := a.1.2.2 _ (by decide)
theorem ee_MT.fs {h : eb_H} {tx : Nat → Nat} {n p k : Nat} {v : Int32} (t : ee_MT h tx n p) : ee_MT (eb_sI h s_m_fresh k v) tx n p := t.of (eb_I_sIn (by decide)) (eb_I_sIn (by decide))
theorem ee_MW.fs {h : eb_H} {F : Option (Int32 × Int32)} {k : Nat} {v : Int32} (t : ee_MW h F) : ee_MW (eb_sI h s_m_fresh k v) F := t.of (eb_I_sIn (by decide))
def ee_setl (D : ee_D) (tk : Bool) (cs : List Nat) : ee_D := (D.1, D.2.1 + cs.length, if tk = true then D.2.2.1 else some cs, if tk = true then some cs else D.2.2.2)
/-- a law, but its ; -/
def ee_law0 (tx : Nat → Nat) (n : Nat) (tk : Bool) (p : Nat) : Nat × Option (Int32 × Int32) × List Nat := if ee_k tx n (ee_e tx n p) = 31 then ee_pa tx n tk 10000 8 0 (ee_e tx n (ee_e tx n p)) [] else (ee_e tx n p, some (ee_fa tx n (ee_e tx n p) 2), [])
theorem ee_law_0 {tx : Nat → Nat} {n : Nat} {tk : Bool} {p : Nat} : ee_law tx n tk p = ee_bd (ee_law0 tx n tk p) (fun p1 cs => if ee_k tx n p1 = 30 then (p1, none, cs) else (p1, some (ee_fa tx n p1 2), [])) := by
  unfold ee_law ee_law0
  by_cases z : ee_k tx n (ee_e tx n p) = 31
  · rw [if_pos z, if_pos z]
  · rw [if_neg z, if_neg z]
    rfl
/-! behind a fault -/
theorem M_un0 {d : Nat} {h : eb_H} {Q : Option Value → eb_H → Prop} {y : Int32 × Int32} (w : ee_MW h (some y)) (x : Int32) (ko : eb_KO h) (q : Q none h) : eb_Ct (d + 4) 176 [.ref s_MO, .int x] h Q := by
  refine T_X11_readUnit (d := d + 3) _ ko (M_is0 w _ ko ⟨_, rfl, ko, fun _ => ?_, fun z => absurd rfl z⟩)
  refine M_is0 w _ ko ⟨_, rfl, ko, fun _ => ?_, fun z => absurd rfl z⟩
  refine M_sm0 (d := d) w _ ko ⟨rfl, ko, ?_⟩
  refine M_is0 w _ ko ⟨_, rfl, ko, fun _ => ?_, fun z => absurd rfl z⟩
  refine M_is0 w _ ko ⟨_, rfl, ko, ?_⟩
  refine M_is0 w _ ko ⟨_, rfl, ko, fun z => absurd rfl z, fun _ => ?_⟩
  refine M_is0 w _ ko ⟨_, rfl, ko, fun z => absurd rfl z, fun _ => ?_⟩
  refine M_is0 w _ ko ⟨_, rfl, ko, fun _ => ?_, fun z => absurd rfl z⟩
  exact M_fl0 w _ ko ⟨rfl, ko, M_sm0 (d := d) w _ ko ⟨rfl, ko, M_code0 w _ ko ⟨rfl, ko, q⟩⟩⟩
theorem M_bo0 {d : Nat} {h : eb_H} {Q : Option Value → eb_H → Prop} {y : Int32 × Int32} (w : ee_MW h (some y)) (x : Int32) (ko : eb_KO h) (q : Q none h) : eb_Ct (d + 5) 177 [.ref s_MO, .int x] h Q :=
  T_X11_readBoth (d := d + 4) _ ko (M_un0 (d := d) w _ ko ⟨rfl, ko, b_X11_readBoth_5 (d := d + 4) _ ko (M_eat0 (d := d + 3) w _ ko ⟨_, rfl, ko, fun _ => q, fun z => absurd rfl z⟩)⟩)
theorem M_tr0 {d : Nat} {h : eb_H} {Q : Option Value → eb_H → Prop} {y : Int32 × Int32} (w : ee_MW h (some y)) (x : Int32) (ko : eb_KO h) (q : Q none h) : eb_Ct (d + 6) 178 [.ref s_MO, .int x] h Q :=
  T_X11_readTruth (d := d + 5) _ ko (M_bo0 (d := d) w _ ko ⟨rfl, ko, b_X11_readTruth_5 (d := d + 5) _ ko (M_eat0 (d := d + 4) w _ ko ⟨_, rfl, ko, fun _ => q, fun z => absurd rfl z⟩)⟩)
theorem M_rl {d : Nat} {h : eb_H} {Q : Option Value → eb_H → Prop} {tx : Nat → Nat} {n p : Nat} {D : ee_D} (ht : ∀ j, j < n → tx j < 256) (hn : n ≤ 900) (hp : p ≤ n) (t : ee_MT h tx n p) (w : ee_MW h none) (r : ee_RF (eb_I h s_m_fresh) D) (hf : D.2.1 ≤ p) (ne : ee_k tx n p ≠ 24) (tk : Bool) (ko : eb_KO h)
    (qf : ∀ y, (ee_law0 tx n tk p).2.1 = some y → ∀ h', ee_fx h h' → ee_MW h' (some y) → Q none h')
    (qo : (ee_law0 tx n tk p).2.1 = none → ∀ h', ee_fx h h' → ee_MT h' tx n (ee_law0 tx n tk p).1 → ee_MW h' none → ee_RF (eb_I h' s_m_fresh) (ee_setl D tk (ee_law0 tx n tk p).2.2) → D.2.1 + (ee_law0 tx n tk p).2.2.length ≤ (ee_law0 tx n tk p).1 → p < (ee_law0 tx n tk p).1 → (ee_law0 tx n tk p).1 ≤ n → Q none h') : eb_Ct (d + 66) 184 [.ref s_MO, .int (nI (if tk = true then 1 else 0))] h Q := by
  obtain ⟨g1, g2⟩ := ee_gt hn hp ne
  refine T_X11_readLaw (d := d + 65) _ ko (M_next (d := d + 60) ht hn t.1 (ee_e tx n p) g2 t.2.2.1 ko (fun h1 F1 t1 => ⟨rfl, F1.1.ko ko, ?_⟩))
  have k1 := F1.1.ko ko
  have w1 := w.fo F1
  have f1 := F1.fresh
  unfold ee_law0 at qf qo
  generalize ee_e tx n p = p1 at g1 g2 t1 qf qo
  refine M_eat1 (d := d + 59) ht hn g2 t1 w1 (ee_k_lt tx n p1) 31 (by omega) k1 (fun k31 h2 F2 t2 => ⟨_, rfl, F2.1.ko k1, fun _ => ?_, fun z => absurd z (by decide)⟩) (fun k31 => ⟨_, rfl, k1, fun z => absurd rfl z, fun _ => ?_⟩)
  · rw [if_pos k31] at qf qo
    obtain ⟨g3, g4⟩ := ee_gt hn g2 (show ee_k tx n p1 ≠ 24 by omega)
    have k2 := F2.1.ko k1
    have w2 := w1.fo F2
    have f2 := F2.fresh.trans f1
    generalize ee_e tx n p1 = p2 at g3 g4 t2 qf qo
    have e263 : (263 : Int32).toNatClampNeg = 263 := by decide
    rw [e263, f2, r.2.1]
    have fx2 : ee_fx h (eb_sI h2 s_MO 15 (nI (if tk = true then 1 else 0))) := by
      have a := F1.fx.trans F2.fx
      exact ⟨a.1.sI (Or.inl rfl), fun j x1 x2 x3 x4 x5 x6 x7 => by rw [eb_I_sI, if_neg x7]; exact a.2 j x1 x2 x3 x4 x5 x6 x7⟩
    have M3 : ee_MS tx n tk (eb_sI h2 s_MO 15 (nI (if tk = true then 1 else 0))) p2 D.2.1 [] 0 := by
      refine ⟨⟨⟨?_, ?_⟩, ?_, ?_, ?_, fun z => ?_⟩, ?_, ⟨?_, fun j hj => absurd hj (by show ¬ j < 0; omega)⟩, by show D.2.1 + 0 + 0 ≤ p2; omega, g4, ?_⟩
      · intro j hj
        rw [eb_I_sIn (by decide)]
        exact t2.1.1 j hj
      · rw [eb_I_sI, if_neg (by decide)]; exact t2.1.2
      · rw [eb_I_sI, if_neg (by decide)]; exact t2.2.1
      · rw [eb_I_sI, if_neg (by decide)]; exact t2.2.2.1
      · rw [eb_I_sI, if_neg (by decide)]; exact t2.2.2.2.1
      · rw [eb_I_sI, if_neg (by decide)]; exact t2.2.2.2.2 z
      · show eb_I _ s_MO 11 = 0
        rw [eb_I_sI, if_neg (by decide)]; exact w2
      · rw [eb_I_sIn (by decide), f2]; exact r.2.1
      · rw [eb_I_sI, if_pos rfl]
        cases tk <;> rfl
    have f3 : eb_I (eb_sI h2 s_MO 15 (nI (if tk = true then 1 else 0))) s_m_fresh = eb_I h s_m_fresh := by rw [eb_I_sIn (by decide), f2]
    have k3 : eb_KO (eb_sI h2 s_MO 15 (nI (if tk = true then 1 else 0))) := fx2.1.ko ko
    generalize eb_sI h2 s_MO 15 (nI (if tk = true then 1 else 0)) = h3 at fx2 M3 f3 k3 ⊢
    refine ee_mp ht hn tk D.2.1 10000 8 0 p2 [] [] 0 h3 h3 _ (d + 65) (by omega) (by show 10 * (n - p2) + 5 < 10000; omega) (by omega) (by show 12 + 8 * (6 - 0) + 5 ≤ d + 65; omega) k3 (fun _ => rfl) M3 (fun h4 F4 ou => ⟨rfl, F4.1.ko k3, ?_⟩)
    rcases ou with ⟨y, e1, w4⟩ | ⟨e1, pg, pl, M4⟩
    · exact ⟨fun z => absurd (w4.1.symm.trans z) w4.2.2, fun _ => qf y e1 h4 (fx2.trans F4.fx) w4⟩
    · have pg := pg (Or.inl rfl)
      rw [List.nil_append] at M4
      have qo := qo e1
      generalize (ee_pa tx n tk 10000 8 0 p2 []).1 = p3 at qo M4 pg pl
      generalize (ee_pa tx n tk 10000 8 0 p2 []).2.2 = cs at qo M4
      obtain ⟨x1, x2, x3, x4, x5, x6⟩ := M4
      have w0 : eb_I h4 s_MO 11 = 0 := x2
      refine ⟨fun _ => ?_, fun z => absurd w0 z⟩
      have hb : ∃ b : Nat, (if tk = true then 1 else 0) = b ∧ b < 2 := ⟨_, rfl, by cases tk <;> decide⟩
      obtain ⟨b, eb, bl⟩ := hb
      rw [eb]
      have e5 : (5 : Int32) + nI b = nI (5 + b) := ec_9 5 b
      have e7 : (7 : Int32) + nI b = nI (7 + b) := ec_9 7 b
      have e9 : (9 : Int32) + nI b = nI (9 + b) := ec_9 9 b
      rw [e5, e7, e9, eb_cln (n := 5 + b) (by omega), eb_cln (n := 7 + b) (by omega), eb_cln (n := 9 + b) (by omega)]
      refine ⟨vp_in_nI (by omega) (by omega), vp_in_nI (by omega) (by omega), vp_in_nI (by omega) (by omega), ?_⟩
      have ev : eb_I (eb_sI (eb_sI h4 s_m_fresh (5 + b) 1) s_m_fresh (7 + b) (nI D.2.1)) s_m_fresh 263 - nI D.2.1 = nI cs.length := by
        rw [eb_I_sI, if_neg (by omega), eb_I_sI, if_neg (by omega), x3.1, Nat.add_comm, ← nI_add, Int32.add_sub_cancel]
      rw [ev]
      have lo : ∀ j, j ≠ 263 → j < 264 + D.2.1 → eb_I h4 s_m_fresh j = eb_I h s_m_fresh j := fun j a1 a2 => by rw [F4.2.2 j a1 a2, f3]
      have F5 : ∀ j, eb_I (eb_sI (eb_sI (eb_sI h4 s_m_fresh (5 + b) 1) s_m_fresh (7 + b) (nI D.2.1)) s_m_fresh (9 + b) (nI cs.length)) s_m_fresh j = if j = 9 + b then nI cs.length else if j = 7 + b then nI D.2.1 else if j = 5 + b then 1 else eb_I h4 s_m_fresh j := fun j => by rw [eb_I_sI, eb_I_sI, eb_I_sI]
      have keep : ∀ i l, i < 2 → i ≠ b → ee_RL (eb_I h s_m_fresh) D.2.1 i l → ee_RL (eb_I (eb_sI (eb_sI (eb_sI h4 s_m_fresh (5 + b) 1) s_m_fresh (7 + b) (nI D.2.1)) s_m_fresh (9 + b) (nI cs.length)) s_m_fresh) (D.2.1 + cs.length) i l := fun i l hi hb rl => by
        refine rl.mv ?_ ?_ ?_ (fun j hj => ?_) (Nat.le_add_right _ _)
        · rw [F5, if_neg (by omega), if_neg (by omega), if_neg (by omega), lo _ (by omega) (by omega)]
        · rw [F5, if_neg (by omega), if_neg (by omega), if_neg (by omega), lo _ (by omega) (by omega)]
        · rw [F5, if_neg (by omega), if_neg (by omega), if_neg (by omega), lo _ (by omega) (by omega)]
        · rw [F5, if_neg (by omega), if_neg (by omega), if_neg (by omega), lo _ (by omega) (by omega)]
      have new : ee_RL (eb_I (eb_sI (eb_sI (eb_sI h4 s_m_fresh (5 + b) 1) s_m_fresh (7 + b) (nI D.2.1)) s_m_fresh (9 + b) (nI cs.length)) s_m_fresh) (D.2.1 + cs.length) b (some cs) := by
        refine ⟨?_, D.2.1, Nat.le_refl _, ?_, ?_, fun j hj => ?_⟩
        · rw [F5, if_neg (by omega), if_neg (by omega), if_pos rfl]
        · rw [F5, if_neg (by omega), if_pos rfl]
        · rw [F5, if_pos rfl]
        · rw [F5, if_neg (by omega), if_neg (by omega), if_neg (by omega)]
          exact x3.2 j hj
      refine qo _ (((fx2.trans F4.fx).fs).fs).fs ((x1.fs).fs).fs ((x2.fs).fs).fs ⟨fun j hj1 hj2 => ?_, ?_, ?_, ?_⟩ (by show D.2.1 + cs.length ≤ p3; omega) (by show p < p3; omega) x5
      · rw [F5, if_neg (by omega), if_neg (by omega), if_neg (by omega), lo _ (by omega) (by omega)]
        exact r.1 j hj1 hj2
      · rw [F5, if_neg (by omega), if_neg (by omega), if_neg (by omega)]
        exact x3.1
      · show ee_RL _ (D.2.1 + cs.length) 0 (if tk = true then D.2.2.1 else some cs)
        cases tk with
        | true =>
          have eb : 1 = b := eb
          exact keep 0 _ (by omega) (by omega) r.2.2.1
        | false =>
          have eb : 0 = b := eb
          rw [← eb] at new
          rw [← eb]
          exact new
      · show ee_RL _ (D.2.1 + cs.length) 1 (if tk = true then some cs else D.2.2.2)
        cases tk with
        | true =>
          have eb : 1 = b := eb
          rw [← eb] at new
          rw [← eb]
          exact new
        | false =>
          have eb : 0 = b := eb
          exact keep 1 _ (by omega) (by omega) r.2.2.2
  · rw [if_neg k31] at qf
    refine M_fl t1 w1 (ee_k_lt tx n p1) 2 (by decide) 0 k1 (fun h2 F2 w2 _ => ⟨rfl, F2.1.ko k1, ?_⟩)
    have k2 := F2.1.ko k1
    have fx2 : ee_fx h (eb_sI h2 s_MO 15 (nI (if tk = true then 1 else 0))) := by
      have a := F1.fx.trans F2.fx
      exact ⟨a.1.sI (Or.inl rfl), fun j x1 x2 x3 x4 x5 x6 x7 => by rw [eb_I_sI, if_neg x7]; exact a.2 j x1 x2 x3 x4 x5 x6 x7⟩
    have w3 : ee_MW (eb_sI h2 s_MO 15 (nI (if tk = true then 1 else 0))) (some (ee_fa tx n p1 2)) := by
      refine ⟨?_, ?_, w2.2.2⟩
      · rw [eb_I_sI, if_neg (by decide)]; exact w2.1
      · rw [eb_I_sI, if_neg (by decide)]; exact w2.2.1
    have k3 : eb_KO (eb_sI h2 s_MO 15 (nI (if tk = true then 1 else 0))) := fx2.1.ko ko
    generalize eb_sI h2 s_MO 15 (nI (if tk = true then 1 else 0)) = h3 at fx2 w3 k3 ⊢
    refine M_tr0 (d := d + 59) w3 _ k3 ⟨rfl, k3, fun z => absurd (w3.1.symm.trans z) w3.2.2, fun _ => qf _ rfl h3 fx2 w3⟩
end EBMLAW
