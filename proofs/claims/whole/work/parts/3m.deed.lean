section EBDEED2
theorem ec_t0 : (0 : Int32).toNatClampNeg = 0 := by decide
theorem ec_t1 : (1 : Int32).toNatClampNeg = 1 := by decide
theorem ec_t2 : (2 : Int32).toNatClampNeg = 2 := by decide
theorem ec_t3 : (3 : Int32).toNatClampNeg = 3 := by decide
theorem ec_t4 : (4 : Int32).toNatClampNeg = 4 := by decide
theorem ec_t5 : (5 : Int32).toNatClampNeg = 5 := by decide
theorem ec_t6 : (6 : Int32).toNatClampNeg = 6 := by decide
theorem ec_t20 : (20 : Int32).toNatClampNeg = 20 := by decide
theorem ec_t31 : (31 : Int32).toNatClampNeg = 31 := by decide
theorem ec_t32 : (32 : Int32).toNatClampNeg = 32 := by decide
theorem ec_t33 : (33 : Int32).toNatClampNeg = 33 := by decide
theorem ec_t34 : (34 : Int32).toNatClampNeg = 34 := by decide
theorem ec_t50 : (50 : Int32).toNatClampNeg = 50 := by decide
theorem ec_t51 : (51 : Int32).toNatClampNeg = 51 := by decide
theorem ec_t52 : (52 : Int32).toNatClampNeg = 52 := by decide
theorem ec_rself {h : eb_H} {i : Nat} : eb_rI h i (eb_I h i) = h := by
  have : va_up h.2.2.1 i (h.2.2.1 i) = h.2.2.1 := by
    funext j
    unfold va_up
    split
    · rename_i q; rw [q]
    · rfl
  show (h.1, h.2.1, va_up h.2.2.1 i (h.2.2.1 i), h.2.2.2) = h
  rw [this]
/-! the reference keeps a state, and notes it -/
theorem M_keeps {d : Nat} {h : eb_H} {Q : Option Value → eb_H → Prop} (ko : eb_KO h) (w : ∀ h', ec_fr (fun c => c = s_m_was) h h' → (∀ q, q < 21 → eb_I h' s_m_was q = eb_I h s_m_all (31 + q)) → Q none h') : eb_Ct d 206 [.ref s_MO] h Q := by
  refine T_X11_keeps ko ?_
  have key : ∀ (m j : Nat) (g : eb_H), j + m = 21 → ec_fr (fun c => c = s_m_was) h g → (∀ q, q < j → eb_I g s_m_was q = eb_I h s_m_all (31 + q)) → eb_Sn d m_X11_keeps h 2 [(0, .ref s_MO), (1, .int (nI j))] [] g Q := by
    intro m
    induction m with
    | zero =>
      intro j g hj F hq
      have : j = 21 := by omega
      subst this
      exact b_X11_keeps_2 _ (F.ko ko) ⟨fun _ => w g F hq, fun z => absurd (by decide) z⟩
    | succ m ih =>
      intro j g hj F hq
      have e31 : (31 : Int32) + nI j = nI (31 + j) := ec_9 31 j
      refine b_X11_keeps_2 _ (F.ko ko) ⟨fun z => ?_, fun _ => ?_⟩
      · exfalso
        exact nI_ge (a := j) (b := 21) (by omega) (by omega) z
      · rw [e31, eb_cln (by omega), eb_cln (by omega), nI_1]
        refine ⟨vp_in_nI (by omega) (by omega), vp_in_nI (by omega) (by omega), ih (j + 1) _ (by omega) (F.sI rfl) (fun q hq2 => ?_)⟩
        rw [eb_I_sI]
        by_cases e : q = j
        · rw [if_pos e, e, F.2.2 s_m_all (by decide)]
        · rw [if_neg e]; exact hq q (by omega)
  exact key 21 0 h (by omega) ec_fr.rfl (fun q hq => absurd hq (by omega))
theorem M_again {d : Nat} {h : eb_H} {Q : Option Value → eb_H → Prop} (ko : eb_KO h) (w : ∀ h', ec_fr (fun c => c = s_m_all) h h' → (∀ q, q < 21 → eb_I h' s_m_all (31 + q) = eb_I h s_m_was q) → (∀ q, (q < 31 ∨ 52 ≤ q) → eb_I h' s_m_all q = eb_I h s_m_all q) → Q none h') : eb_Ct d 207 [.ref s_MO] h Q := by
  refine T_X11_isAgain ko ?_
  have key : ∀ (m j : Nat) (g : eb_H), j + m = 21 → ec_fr (fun c => c = s_m_all) h g → (∀ q, q < j → eb_I g s_m_all (31 + q) = eb_I h s_m_was q) → (∀ q, (q < 31 ∨ 52 ≤ q) → eb_I g s_m_all q = eb_I h s_m_all q) → eb_Sn d m_X11_isAgain h 2 [(0, .ref s_MO), (1, .int (nI j))] [] g Q := by
    intro m
    induction m with
    | zero =>
      intro j g hj F hq ho
      have : j = 21 := by omega
      subst this
      exact b_X11_isAgain_2 _ (F.ko ko) ⟨fun _ => w g F hq ho, fun z => absurd (by decide) z⟩
    | succ m ih =>
      intro j g hj F hq ho
      have e31 : (31 : Int32) + nI j = nI (31 + j) := ec_9 31 j
      refine b_X11_isAgain_2 _ (F.ko ko) ⟨fun z => ?_, fun _ => ?_⟩
      · exfalso
        exact nI_ge (a := j) (b := 21) (by omega) (by omega) z
      · rw [e31, eb_cln (by omega), eb_cln (by omega), nI_1]
        refine ⟨vp_in_nI (by omega) (by omega), vp_in_nI (by omega) (by omega), ih (j + 1) _ (by omega) (F.sI rfl) (fun q hq2 => ?_) (fun q hq2 => ?_)⟩
        · rw [eb_I_sI]
          by_cases e : q = j
          · rw [if_pos (by omega), e, F.2.2 s_m_was (by decide)]
          · rw [if_neg (by omega)]; exact hq q (by omega)
        · rw [eb_I_sI, if_neg (by omega)]; exact ho q hq2
  exact key 21 0 h (by omega) ec_fr.rfl (fun q hq => absurd hq (by omega)) (fun _ _ => rfl)
theorem M_notes2 {d : Nat} {h0 h : eb_H} {Q : Option Value → eb_H → Prop} (ko : eb_KO h) (n : Nat) (hn : n < 10) (e52 : eb_I h s_m_all 52 = nI n) (w : ∀ h', ec_fr (fun c => c = s_m_all) h h' → (∀ q, q < 21 → eb_I h' s_m_all (53 + 21 * n + q) = eb_I h s_m_was q) → (∀ q, (q < 52 ∨ (53 ≤ q ∧ q < 53 + 21 * n) ∨ 53 + 21 * n + 21 ≤ q) → eb_I h' s_m_all q = eb_I h s_m_all q) → eb_I h' s_m_all 52 = nI (n + 1) → Q none h') : eb_Sn d m_X11_notes h0 58 [(0, .ref s_MO), (1, .int 0)] [] h Q := by
  have key : ∀ (m j : Nat) (g : eb_H), j + m = 21 → ec_fr (fun c => c = s_m_all) h g → (∀ q, q < j → eb_I g s_m_all (53 + 21 * n + q) = eb_I h s_m_was q) → (∀ q, (q < 53 + 21 * n ∨ 53 + 21 * n + 21 ≤ q) → eb_I g s_m_all q = eb_I h s_m_all q) → eb_Sn d m_X11_notes h0 58 [(0, .ref s_MO), (1, .int (nI j))] [] g Q := by
    intro m
    induction m with
    | zero =>
      intro j g hj F hq ho
      have : j = 21 := by omega
      subst this
      refine b_X11_notes_58 _ (F.ko ko) ⟨fun _ => ?_, fun z => absurd (by decide) z⟩
      have e : eb_I g s_m_all (52 : Int32).toNatClampNeg = nI n := (ho 52 (by omega)).trans e52
      rw [e, nI_1, ec_t52]
      refine w _ (F.sI rfl) (fun q hq2 => ?_) (fun q hq2 => ?_) eb_I_sI'
      · rw [eb_I_sI, if_neg (show ¬ 53 + 21 * n + q = 52 by omega)]; exact hq q hq2
      · rw [eb_I_sI, if_neg (show ¬ q = 52 by omega)]; exact ho q (by omega)
    | succ m ih =>
      intro j g hj F hq ho
      have e : eb_I g s_m_all (52 : Int32).toNatClampNeg = nI n := (ho 52 (by omega)).trans e52
      have e53 : (53 : Int32) + (21 : Int32) * nI n + nI j = nI (53 + 21 * n + j) := by
        have : (21 : Int32) * nI n = nI (21 * n) := pk_mul 21 n
        rw [this, show (53 : Int32) + nI (21 * n) = nI (53 + 21 * n) from ec_9 53 (21 * n), nI_add]
      refine b_X11_notes_58 _ (F.ko ko) ⟨fun z => ?_, fun _ => ?_⟩
      · exfalso
        exact nI_ge (a := j) (b := 21) (by omega) (by omega) z
      · rw [e, e53, eb_cln (by omega), eb_cln (by omega), nI_1]
        refine ⟨vp_in_nI (by omega) (by omega), vp_in_nI (by omega) (by omega), ih (j + 1) _ (by omega) (F.sI rfl) (fun q hq2 => ?_) (fun q hq2 => ?_)⟩
        · rw [eb_I_sI]
          by_cases e : q = j
          · rw [if_pos (by omega), e, F.2.2 s_m_was (by decide)]
          · rw [if_neg (by omega)]; exact hq q (by omega)
        · rw [eb_I_sI, if_neg (by omega)]; exact ho q hq2
  exact key 21 0 h (by omega) ec_fr.rfl (fun q hq => absurd hq (by omega)) (fun _ _ => rfl)
theorem M_notes1 {d : Nat} {h0 h : eb_H} {Q : Option Value → eb_H → Prop} (ko : eb_KO h) (w : ∀ h', ec_fr (fun c => c = s_m_all) h h' → (∀ q, q < 189 → eb_I h' s_m_all (53 + q) = eb_I h s_m_all (74 + q)) → (∀ q, (q < 53 ∨ 263 ≤ q) → eb_I h' s_m_all q = eb_I h s_m_all q) → eb_Sn d m_X11_notes h0 58 [(0, .ref s_MO), (1, .int 0)] [] (eb_sI h' s_m_all 52 (eb_I h' s_m_all 52 - 1)) Q) : eb_Sn d m_X11_notes h0 14 [(0, .ref s_MO), (1, .int 0)] [] h Q := by
  have key : ∀ (m j : Nat) (g : eb_H), j + m = 189 → ec_fr (fun c => c = s_m_all) h g → (∀ q, q < j → eb_I g s_m_all (53 + q) = eb_I h s_m_all (74 + q)) → (∀ q, (q < 53 ∨ 53 + j ≤ q) → eb_I g s_m_all q = eb_I h s_m_all q) → eb_Sn d m_X11_notes h0 14 [(0, .ref s_MO), (1, .int (nI j))] [] g Q := by
    intro m
    induction m with
    | zero =>
      intro j g hj F hq ho
      have : j = 189 := by omega
      subst this
      exact b_X11_notes_14 _ (F.ko ko) ⟨fun _ => w g F hq (fun q z => ho q (by omega)), fun z => absurd (by decide) z⟩
    | succ m ih =>
      intro j g hj F hq ho
      have e1 : (74 : Int32) + nI j = nI (74 + j) := ec_9 74 j
      have e2 : (53 : Int32) + nI j = nI (53 + j) := ec_9 53 j
      refine b_X11_notes_14 _ (F.ko ko) ⟨fun z => ?_, fun _ => ?_⟩
      · exfalso
        exact nI_ge (a := j) (b := 189) (by omega) (by omega) z
      · rw [e1, e2, eb_cln (by omega), eb_cln (by omega), nI_1]
        refine ⟨vp_in_nI (by omega) (by omega), vp_in_nI (by omega) (by omega), ih (j + 1) _ (by omega) (F.sI rfl) (fun q hq2 => ?_) (fun q hq2 => ?_)⟩
        · rw [eb_I_sI]
          by_cases e : q = j
          · rw [if_pos (by omega), e]; exact ho _ (by omega)
          · rw [if_neg (by omega)]; exact hq q (by omega)
        · rw [eb_I_sI, if_neg (by omega)]; exact ho q (by omega)
  exact key 189 0 h (by omega) ec_fr.rfl (fun q hq => absurd hq (by omega)) (fun _ _ => rfl)
theorem M_notes {d : Nat} {h : eb_H} {Q : Option Value → eb_H → Prop} (ko : eb_KO h) (s : eb_St) (p : List eb_St) (hp : p.length ≤ 10) (e52 : eb_I h s_m_all 52 = nI p.length) (pp : ∀ i, i < p.length → PMS h (53 + 21 * (p.length - 1 - i)) (p.getD i ec_s0)) (hw : ∀ q, q < 21 → eb_I h s_m_was q = ec_rw s q) (w : ∀ h', ec_fr (fun c => c = s_m_all) h h' → (∀ q, (q < 52 ∨ 263 ≤ q) → eb_I h' s_m_all q = eb_I h s_m_all q) → eb_I h' s_m_all 52 = nI ((s :: p).take 10).length → (∀ i, i < ((s :: p).take 10).length → PMS h' (53 + 21 * (((s :: p).take 10).length - 1 - i)) (((s :: p).take 10).getD i ec_s0)) → Q none h') : eb_Ct d 208 [.ref s_MO] h Q := by
  obtain ⟨l1, l2⟩ := ec_tk10 hp s
  have e52' : eb_I h s_m_all (52 : Int32).toNatClampNeg = nI p.length := e52
  refine T_X11_notes ko ?_
  rw [e52']
  by_cases c10 : p.length = 10
  · refine ⟨fun z => absurd (by rw [c10]; rfl) z, fun _ => M_notes1 ko (fun g F g1 g2 => ?_)⟩
    have l10 : ((s :: p).take 10).length = 10 := by omega
    have e9 : eb_I g s_m_all 52 - 1 = nI 9 := by
      rw [g2 52 (by omega), e52, c10]; rfl
    rw [e9]
    have F2 : ec_fr (fun c => c = s_m_all) h (eb_sI g s_m_all 52 (nI 9)) := F.sI rfl
    refine M_notes2 (F2.ko ko) 9 (by omega) eb_I_sI' (fun h' F3 a1 a2 a3 => w h' (F2.trans F3) (fun q hq => ?_) (by rw [a3, l10]) (fun i hi => ?_))
    · rw [a2 q (by omega), eb_I_sI, if_neg (by omega)]; exact g2 q (by omega)
    · rw [l2 i hi, l10]
      rw [l10] at hi
      rw [PMS_rw]
      intro q hq
      by_cases i0 : i = 0
      · rw [if_pos i0, i0]
        have := a1 q hq
        rw [show 53 + 21 * (10 - 1 - 0) + q = 53 + 21 * 9 + q by omega, this, F2.2.2 s_m_was (by decide)]
        exact hw q hq
      · rw [if_neg i0]
        rw [a2 _ (by omega), eb_I_sI, if_neg (by omega)]
        have := g1 (21 * (9 - i) + q) (by omega)
        rw [show 53 + 21 * (10 - 1 - i) + q = 53 + (21 * (9 - i) + q) by omega, this]
        have := (PMS_rw.mp (pp (i - 1) (by omega))) q hq
        rw [c10] at this
        rw [show 74 + (21 * (9 - i) + q) = 53 + 21 * (10 - 1 - (i - 1)) + q by omega]
        exact this
  · have ln : ((s :: p).take 10).length = p.length + 1 := by omega
    refine ⟨fun _ => ?_, fun z => ?_⟩
    · refine M_notes2 ko p.length (by omega) e52 (fun h' F3 a1 a2 a3 => w h' F3 (fun q hq => a2 q (by omega)) (by rw [a3, ln]) (fun i hi => ?_))
      rw [l2 i hi, ln]
      rw [ln] at hi
      rw [PMS_rw]
      intro q hq
      by_cases i0 : i = 0
      · rw [if_pos i0, i0]
        have := a1 q hq
        rw [show 53 + 21 * (p.length + 1 - 1 - 0) + q = 53 + 21 * p.length + q by omega, this]
        exact hw q hq
      · rw [if_neg i0, a2 _ (by omega)]
        have := (PMS_rw.mp (pp (i - 1) (by omega))) q hq
        rw [show p.length + 1 - 1 - i = p.length - 1 - (i - 1) by omega]
        exact this
    · exfalso
      have z : nI p.length = nI 10 := z
      rw [nI_eq (by omega) (by omega)] at z
      exact c10 z
theorem PM.pp {w : eb_Wo} {h : eb_H} (q : PM w h) : ∀ i, i < w.past.length → PMS h (53 + 21 * (w.past.length - 1 - i)) (w.past.getD i ec_s0) := fun i hi => by
  rw [ec_getD hi ec_s0 w.now]
  exact q.past i hi
end EBDEED2
