section EBMOPS
variable {L : Nat} {xs : Nat → Int32}
/-- the reference's fault -/
def ee_MW (h : eb_H) (F : Option (Int32 × Int32)) : Prop := match F with
  | none => eb_I h s_MO 11 = 0
  | some y => eb_I h s_MO 11 = y.1 ∧ eb_I h s_MO 12 = y.2 ∧ y.1 ≠ 0
/-- the codes laid since f -/
def ee_MC (h : eb_H) (f : Nat) (A : List Nat) : Prop := eb_I h s_m_fresh 263 = nI (f + A.length) ∧ ∀ j, j < A.length → eb_I h s_m_fresh (264 + f + j) = nI (A.getD j 0)
/-- what reading a law changes: the token at hand, the fault, the codes behind f -/
def ee_fl (f : Nat) (h h' : eb_H) : Prop := ec_fr (fun c => c = s_MO ∨ c = s_m_fresh) h h' ∧ (∀ j, j ≠ 6 → j ≠ 7 → j ≠ 9 → j ≠ 10 → j ≠ 11 → j ≠ 12 → eb_I h' s_MO j = eb_I h s_MO j) ∧ ∀ j, j ≠ 263 → j < 264 + f → eb_I h' s_m_fresh j = eb_I h s_m_fresh j
theorem ee_fl.rfl {f : Nat} {h : eb_H} : ee_fl f h h := ⟨ec_fr.rfl, fun _ _ _ _ _ _ _ => Eq.refl _, fun _ _ _ => Eq.refl _⟩
theorem ee_fl.trans {f : Nat} {h h1 h2 : eb_H} (a : ee_fl f h h1) (b : ee_fl f h1 h2) : ee_fl f h h2 := ⟨a.1.trans b.1, fun j x1 x2 x3 x4 x5 x6 => (b.2.1 j x1 x2 x3 x4 x5 x6).trans (a.2.1 j x1 x2 x3 x4 x5 x6), fun j x1 x2 => (b.2.2 j x1 x2).trans (a.2.2 j x1 x2)⟩
theorem ee_fo.fl {f : Nat} {h h' : eb_H} (a : ee_fo h h') : ee_fl f h h' := ⟨a.1.weak (fun c z => Or.inl z), fun j x1 x2 x3 x4 _ _ => a.2 j x1 x2 x3 x4, fun j _ _ => by rw [a.1.2.2 _ (by decide)]⟩
theorem ee_MW.fo {h h' : eb_H} {F : Option (Int32 × Int32)} (w : ee_MW h F) (a : ee_fo h h') : ee_MW h' F := by
  have e1 := a.2 11 (by decide) (by decide) (by decide) (by decide)
  have e2 := a.2 12 (by decide) (by decide) (by decide) (by decide)
  unfold ee_MW
  rw [e1, e2]
  exact w
theorem ee_MC.fo {h h' : eb_H} {f : Nat} {A : List Nat} (w : ee_MC h f A) (a : ee_fo h h') : ee_MC h' f A := by
  unfold ee_MC
  rw [a.1.2.2 _ (by decide)]
  exact w
theorem M_is1 {d : Nat} {h : eb_H} {Q : Option Value → eb_H → Prop} {tx : Nat → Nat} {n p : Nat} (t : ee_MT h tx n p) (w : ee_MW h none) (hk : ee_k tx n p < 100) (c : Nat) (hc : c < 100) (ko : eb_KO h) (q : Q (some (.int (if ee_k tx n p = c then 1 else 0))) h) : eb_Ct d 166 [.ref s_MO, .int (nI c)] h Q := by
  refine T_X11_is _ ko ?_
  have w : eb_I h s_MO 11 = 0 := w
  have e : nI (ee_k tx n p) = nI c ↔ ee_k tx n p = c := nI_eq (by omega) (by omega)
  by_cases z : ee_k tx n p = c
  · rw [if_pos z] at q
    exact ec_qp (Q := fun y => Q (some (.int y)) h) ⟨w, by rw [t.2.2.2.1]; exact e.mpr z⟩ q
  · rw [if_neg z] at q
    exact ec_qn (Q := fun y => Q (some (.int y)) h) (fun u => z (e.mp (by rw [← t.2.2.2.1]; exact u.2))) q
theorem M_is0 {d : Nat} {h : eb_H} {Q : Option Value → eb_H → Prop} {y : Int32 × Int32} (w : ee_MW h (some y)) (x : Int32) (ko : eb_KO h) (q : Q (some (.int 0)) h) : eb_Ct d 166 [.ref s_MO, .int x] h Q :=
  T_X11_is _ ko (ec_qn (Q := fun y => Q (some (.int y)) h) (fun u => w.2.2 (w.1.symm.trans u.1)) q)
theorem M_fl {d : Nat} {h : eb_H} {Q : Option Value → eb_H → Prop} {tx : Nat → Nat} {n p : Nat} (t : ee_MT h tx n p) (w : ee_MW h none) (hk : ee_k tx n p < 100) (c : Int32) (hc : c ≠ 0) (f : Nat) (ko : eb_KO h) (q : ∀ h', ee_fl f h h' → ee_MW h' (some (ee_fa tx n p c)) → eb_I h' s_m_fresh = eb_I h s_m_fresh → Q none h') : eb_Ct d 165 [.ref s_MO, .int c] h Q := by
  have w : eb_I h s_MO 11 = 0 := w
  refine T_X11_fails _ ko ⟨fun _ => ?_, fun z => absurd w z⟩
  have e25 : nI (ee_k tx n p) = (25 : Int32) ↔ ee_k tx n p = 25 := nI_eq (b := 25) (by omega) (by omega)
  have ev : (if eb_I h s_MO 9 = (25 : Int32) then 1 else c : Int32) = (ee_fa tx n p c).1 := by
    unfold ee_fa
    rw [t.2.2.2.1]
    by_cases z : ee_k tx n p = 25
    · rw [if_pos (e25.mpr z), if_pos z]
    · rw [if_neg (fun u => z (e25.mp u)), if_neg z]
  rw [ev, eb_I_sI, if_neg (by decide), t.2.1]
  refine q _ ⟨(ec_fr.rfl.sI (Or.inl rfl)).sI (Or.inl rfl), fun j x1 x2 x3 x4 x5 x6 => ?_, fun j _ _ => ?_⟩ ⟨?_, ?_, ?_⟩ ?_
  · rw [eb_I_sI, if_neg x6, eb_I_sI, if_neg x5]
  · rw [eb_I_sIn (by decide), eb_I_sIn (by decide)]
  · rw [eb_I_sI, if_neg (by decide), eb_I_sI']
  · rw [eb_I_sI']
    rfl
  · unfold ee_fa
    show (if ee_k tx n p = 25 then (1 : Int32) else c) ≠ 0
    split
    · decide
    · exact hc
  · rw [eb_I_sIn (by decide), eb_I_sIn (by decide)]
theorem M_fl0 {d : Nat} {h : eb_H} {Q : Option Value → eb_H → Prop} {y : Int32 × Int32} (w : ee_MW h (some y)) (x : Int32) (ko : eb_KO h) (q : Q none h) : eb_Ct d 165 [.ref s_MO, .int x] h Q :=
  T_X11_fails _ ko ⟨fun z => absurd (w.1.symm.trans z) w.2.2, fun _ => q⟩
theorem M_eat1 {d : Nat} {h : eb_H} {Q : Option Value → eb_H → Prop} {tx : Nat → Nat} {n p : Nat} (ht : ∀ j, j < n → tx j < 256) (hn : n ≤ 900) (hp : p ≤ n) (t : ee_MT h tx n p) (w : ee_MW h none) (hk : ee_k tx n p < 100) (c : Nat) (hc : c < 100) (ko : eb_KO h) (q1 : ee_k tx n p = c → ∀ h', ee_fo h h' → ee_MT h' tx n (ee_e tx n p) → Q (some (.int 1)) h') (q0 : ee_k tx n p ≠ c → Q (some (.int 0)) h) : eb_Ct (d + 6) 167 [.ref s_MO, .int (nI c)] h Q := by
  refine T_X11_eats (d := d + 5) _ ko (M_is1 t w hk c hc ko ⟨_, rfl, ko, ?_⟩)
  rw [ee_i01]
  refine ⟨fun z => ?_, fun z => q0 z⟩
  have z := Decidable.not_not.mp z
  exact M_next (d := d) ht hn t.1 (ee_e tx n p) (ee_e_le tx hn hp).1 t.2.2.1 ko (fun h' F' t' => ⟨rfl, F'.1.ko ko, q1 z h' F' t'⟩)
theorem M_eat0 {d : Nat} {h : eb_H} {Q : Option Value → eb_H → Prop} {y : Int32 × Int32} (w : ee_MW h (some y)) (x : Int32) (ko : eb_KO h) (q : Q (some (.int 0)) h) : eb_Ct (d + 1) 167 [.ref s_MO, .int x] h Q :=
  T_X11_eats (d := d) _ ko (M_is0 w x ko ⟨_, rfl, ko, fun z => absurd rfl z, fun _ => q⟩)
theorem M_code {d : Nat} {h : eb_H} {Q : Option Value → eb_H → Prop} {f : Nat} {A : List Nat} (w : ee_MW h none) (m : ee_MC h f A) (c : Nat) (hf : f + A.length < 900) (ko : eb_KO h) (q : ∀ h', ee_fl f h h' → eb_I h' s_MO = eb_I h s_MO → eb_I h' s_m_tape = eb_I h s_m_tape → ee_MC h' f (A ++ [c]) → Q none h') : eb_Ct d 171 [.ref s_MO, .int (nI c)] h Q := by
  have w : eb_I h s_MO 11 = 0 := w
  refine T_X11_codes _ ko ⟨fun _ => ?_, fun z => absurd w z⟩
  have e263 : (263 : Int32).toNatClampNeg = 263 := by decide
  have ea : (264 : Int32) + nI (f + A.length) = nI (264 + (f + A.length)) := ec_9 264 _
  rw [e263, m.1, ea, eb_cln (n := 264 + (f + A.length)) (by omega)]
  refine ⟨vp_in_nI (by omega) (by omega), ?_⟩
  rw [eb_I_sI, if_neg (by omega), m.1, nI_1]
  refine q _ ⟨(ec_fr.rfl.sI (Or.inr rfl)).sI (Or.inr rfl), fun j _ _ _ _ _ _ => ?_, fun j x1 x2 => ?_⟩ ?_ ?_ ⟨?_, fun j hj => ?_⟩
  · rw [eb_I_sIn (by decide), eb_I_sIn (by decide)]
  · rw [eb_I_sI, if_neg x1, eb_I_sI, if_neg (by omega)]
  · rw [eb_I_sIn (by decide), eb_I_sIn (by decide)]
  · rw [eb_I_sIn (by decide), eb_I_sIn (by decide)]
  · rw [eb_I_sI', List.length_append]
    rfl
  · have hj : j < A.length + 1 := by rw [List.length_append] at hj; exact hj
    rw [eb_I_sI, if_neg (by omega), eb_I_sI]
    by_cases e : j = A.length
    · rw [if_pos (by omega), e]
      congr 1
      unfold List.getD
      rw [List.getElem?_append_right (Nat.le_refl _), Nat.sub_self]
      rfl
    · rw [if_neg (by omega), m.2 j (by omega)]
      congr 1
      unfold List.getD
      rw [List.getElem?_append_left (by omega)]
theorem M_code0 {d : Nat} {h : eb_H} {Q : Option Value → eb_H → Prop} {y : Int32 × Int32} (w : ee_MW h (some y)) (x : Int32) (ko : eb_KO h) (q : Q none h) : eb_Ct d 171 [.ref s_MO, .int x] h Q :=
  T_X11_codes _ ko ⟨fun z => absurd (w.1.symm.trans z) w.2.2, fun _ => q⟩
theorem ee_MT.of {h h' : eb_H} {tx : Nat → Nat} {n p : Nat} (t : ee_MT h tx n p) (e1 : eb_I h' s_MO = eb_I h s_MO) (e2 : eb_I h' s_m_tape = eb_I h s_m_tape) : ee_MT h' tx n p := by
  unfold ee_MT ee_MX
  rw [e1, e2]
  exact t
theorem ee_MW.of {h h' : eb_H} {F : Option (Int32 × Int32)} (t : ee_MW h F) (e1 : eb_I h' s_MO = eb_I h s_MO) : ee_MW h' F := by
  unfold ee_MW
  rw [e1]
  exact t
theorem ee_k_lt (tx : Nat → Nat) (n p : Nat) : ee_k tx n p < 100 := by
  have kl := ee_key_lt tx (ee_b tx n p) (ee_e tx n p)
  have sg := ee_sg12 (tx (ee_b tx n p))
  unfold ee_k
  split
  · omega
  · split
    · omega
    · split
      · split <;> omega
      · split <;> omega
/-! behind a fault nothing goes on -/
theorem M_at0 {d : Nat} {h : eb_H} {Q : Option Value → eb_H → Prop} {y : Int32 × Int32} (w : ee_MW h (some y)) (x : Int32) (ko : eb_KO h) (q : Q none h) : eb_Ct (d + 1) 173 [.ref s_MO, .int x] h Q := by
  have nz : ¬ eb_I h s_MO 11 = 0 := fun z => w.2.2 (w.1.symm.trans z)
  exact T_X11_readAtom (d := d) _ ko (M_is0 w _ ko ⟨_, rfl, ko, fun _ => ⟨fun _ => M_is0 w _ ko ⟨_, rfl, ko, fun _ => M_fl0 w _ ko ⟨rfl, ko, q⟩, fun z => absurd rfl z⟩, fun z => absurd z nz⟩, fun z => absurd rfl z⟩)
theorem M_tm0 {d : Nat} {h : eb_H} {Q : Option Value → eb_H → Prop} {y : Int32 × Int32} (w : ee_MW h (some y)) (x : Int32) (ko : eb_KO h) (q : Q none h) : eb_Ct (d + 2) 174 [.ref s_MO, .int x] h Q :=
  T_X11_readTerm (d := d + 1) _ ko (M_at0 (d := d) w _ ko ⟨rfl, ko, b_X11_readTerm_5 (d := d + 1) _ ko (M_eat0 (d := d) w _ ko ⟨_, rfl, ko, fun _ => q, fun z => absurd rfl z⟩)⟩)
theorem M_sm0 {d : Nat} {h : eb_H} {Q : Option Value → eb_H → Prop} {y : Int32 × Int32} (w : ee_MW h (some y)) (x : Int32) (ko : eb_KO h) (q : Q none h) : eb_Ct (d + 3) 175 [.ref s_MO, .int x] h Q :=
  T_X11_readSum (d := d + 2) _ ko (M_tm0 (d := d) w _ ko ⟨rfl, ko, b_X11_readSum_5 (d := d + 2) _ ko (M_is0 w _ ko ⟨_, rfl, ko, fun z => absurd rfl z, fun _ => M_is0 w _ ko ⟨_, rfl, ko, fun _ => q, fun z => absurd rfl z⟩⟩)⟩)
end EBMOPS
