section EBMPA
variable {L : Nat} {xs : Nat → Int32}
def ee_MS (tx : Nat → Nat) (n : Nat) (tk : Bool) (h : eb_H) (p f : Nat) (A : List Nat) (s : Nat) : Prop := ee_MT h tx n p ∧ ee_MW h none ∧ ee_MC h f A ∧ f + A.length + s ≤ p ∧ p ≤ n ∧ eb_I h s_MO 15 = (if tk = true then 1 else 0)
theorem ee_MS.fo {tx : Nat → Nat} {n : Nat} {tk : Bool} {h h' : eb_H} {p p' f s s' : Nat} {A : List Nat} (m : ee_MS tx n tk h p f A s) (F : ee_fo h h') (t : ee_MT h' tx n p') (hs : f + A.length + s' ≤ p') (hp : p' ≤ n) : ee_MS tx n tk h' p' f A s' := ⟨t, m.2.1.fo F, m.2.2.1.fo F, hs, hp, by rw [F.2 15 (by decide) (by decide) (by decide) (by decide)]; exact m.2.2.2.2.2⟩
def ee_EC (m D dp : Nat) (h0 h : eb_H) (Q : Option Value → eb_H → Prop) : Prop := if m = 0 then eb_Ct D 173 [.ref s_MO, .int (nI dp)] h Q else if m = 1 then eb_Ct D 176 [.ref s_MO, .int (nI dp)] h Q else if m = 2 then eb_Ct D 174 [.ref s_MO, .int (nI dp)] h Q else if m = 3 then eb_Sn D m_X11_readTerm h0 5 [(0, .ref s_MO), (1, .int (nI dp))] [] h Q else if m = 4 then eb_Ct D 175 [.ref s_MO, .int (nI dp)] h Q else if m = 5 then eb_Sn D m_X11_readSum h0 5 [(0, .ref s_MO), (1, .int (nI dp))] [] h Q else if m = 6 then eb_Ct D 177 [.ref s_MO, .int (nI dp)] h Q else if m = 7 then eb_Sn D m_X11_readBoth h0 5 [(0, .ref s_MO), (1, .int (nI dp))] [] h Q else if m = 8 then eb_Ct D 178 [.ref s_MO, .int (nI dp)] h Q else eb_Sn D m_X11_readTruth h0 5 [(0, .ref s_MO), (1, .int (nI dp))] [] h Q
def ee_dr (m : Nat) : Nat := if m = 0 then 0 else if m = 1 then 3 else if m < 4 then 1 else if m < 6 then 2 else if m < 8 then 4 else 5
/-- how it ends -/
def ee_OU (tx : Nat → Nat) (n : Nat) (tk : Bool) (m p f : Nat) (A : List Nat) (s : Nat) (r : Nat × Option (Int32 × Int32) × List Nat) (h' : eb_H) : Prop := (∃ y, r.2.1 = some y ∧ ee_MW h' (some y)) ∨ (r.2.1 = none ∧ ((m % 2 = 0 ∨ m = 1) → p < r.1) ∧ p ≤ r.1 ∧ ee_MS tx n tk h' r.1 f (A ++ r.2.2) s)
def ee_MP (tx : Nat → Nat) (n : Nat) (tk : Bool) (f fu : Nat) : Prop := ∀ (m dp p : Nat) (acc A : List Nat) (s : Nat) (h h0 : eb_H) (Q : Option Value → eb_H → Prop) (D : Nat), m ≤ 9 → 10 * (n - p) + ee_rk m < fu → dp ≤ 6 → 12 + 8 * (6 - dp) + ee_dr m ≤ D → eb_KO h → ((m % 2 = 0 ∨ m = 1) → acc = []) → ee_MS tx n tk h p f (A ++ acc) s → (∀ h', ee_fl f h h' → ee_OU tx n tk m p f A s (ee_pa tx n tk fu m dp p acc) h' → Q none h') → ee_EC m D dp h0 h Q
theorem M_wd {d : Nat} {h : eb_H} {Q : Option Value → eb_H → Prop} {k : Nat} {tk : Bool} (hk : k < 100) (e15 : eb_I h s_MO 15 = (if tk = true then 1 else 0)) (ko : eb_KO h) (q : Q (some (.int (if ee_wd tk k < 9 then nI (ee_wd tk k) else -1))) h) : eb_Ct d 170 [.ref s_MO, .int (nI k)] h Q := by
  have E : ∀ m : Nat, m < 100 → (nI k = nI m ↔ k = m) := fun m hm => nI_eq (by omega) (by omega)
  refine T_X11_wordOf _ ko ⟨fun z => ?_, fun z => ?_, fun z => ?_, fun z => ?_, fun z => ?_, fun z => ?_, fun z1 z2 z3 z4 z5 z6 => ?_⟩
  · have z := (E 3 (by omega)).mp z
    rw [z] at q
    rw [e15]
    cases tk with
    | true => exact q
    | false => exact q
  · have z := (E 6 (by omega)).mp z
    rw [z] at q; exact q
  · have z := (E 10 (by omega)).mp z
    rw [z] at q; exact q
  · have z := (E 11 (by omega)).mp z
    rw [z] at q; exact q
  · have z := (E 12 (by omega)).mp z
    rw [z] at q; exact q
  · have z := (E 13 (by omega)).mp z
    rw [z] at q; exact q
  · have : ee_wd tk k = 9 := by
      unfold ee_wd
      rw [if_neg (fun u => z3 ((E 10 (by omega)).mpr u)), if_neg (fun u => z4 ((E 11 (by omega)).mpr u)), if_neg (fun u => z5 ((E 12 (by omega)).mpr u)), if_neg (fun u => z2 ((E 6 (by omega)).mpr u)), if_neg (fun u => z6 ((E 13 (by omega)).mpr u)), if_neg (fun u => z1 ((E 3 (by omega)).mpr u))]
    rw [this, if_neg (by omega)] at q
    exact q
/-- a token more, and what comes next -/
theorem M_nx {d : Nat} {h : eb_H} {Q : Option Value → eb_H → Prop} {tx : Nat → Nat} {n p f s s' : Nat} {tk : Bool} {A : List Nat} (ht : ∀ j, j < n → tx j < 256) (hn : n ≤ 900) (m : ee_MS tx n tk h p f A s) (ne : ee_k tx n p ≠ 24) (hs : s' ≤ s + 1) (ko : eb_KO h) (q : ∀ h', ee_fo h h' → ee_MS tx n tk h' (ee_e tx n p) f A s' → Q none h') : eb_Ct (d + 5) 164 [.ref s_MO] h Q := by
  obtain ⟨m1, m2, m3, m4, m5, m6⟩ := m
  obtain ⟨g1, g2⟩ := ee_gt hn m5 ne
  exact M_next (d := d) ht hn m1.1 (ee_e tx n p) g2 m1.2.2.1 ko (fun h' F' t' => q h' F' (ee_MS.fo ⟨m1, m2, m3, m4, m5, m6⟩ F' t' (by omega) g2))
/-- an opener: 6 within others is one too many -/
theorem M_in {d : Nat} {h : eb_H} {Q : Option Value → eb_H → Prop} {tx : Nat → Nat} {n p f s : Nat} {tk : Bool} {A : List Nat} (ht : ∀ j, j < n → tx j < 256) (hn : n ≤ 900) (m : ee_MS tx n tk h p f A s) (ne : ee_k tx n p ≠ 24) (nb : ee_k tx n p ≠ 25) (dp : Nat) (hd : dp ≤ 6) (ko : eb_KO h) (q6 : dp = 6 → ∀ h', ee_fl f h h' → ee_MW h' (some (4, nI (ee_b tx n p))) → Q (some (.int 0)) h') (q : dp < 6 → ∀ h', ee_fo h h' → ee_MS tx n tk h' (ee_e tx n p) f A (s + 1) → Q (some (.int 1)) h') : eb_Ct (d + 6) 172 [.ref s_MO, .int (nI dp)] h Q := by
  have m0 := m
  obtain ⟨m1, m2, m3, m4, m5, m6⟩ := m
  have e6 : nI dp = (6 : Int32) ↔ dp = 6 := nI_eq (b := 6) (by omega) (by omega)
  have w0 : eb_I h s_MO 11 = 0 := m2
  refine T_X11_goesIn (d := d + 5) _ ko ?_
  rw [e6]
  refine ⟨fun z => ⟨fun u => absurd w0 u, fun _ => ?_⟩, fun z => ?_⟩
  · refine M_nx (d := d) ht hn m0 ne (Nat.le_refl _) ko (fun h' F' m' => ⟨rfl, F'.1.ko ko, ?_⟩)
    exact ec_qp (Q := fun y => Q (some (.int y)) h') m'.2.1 (q (by omega) h' F' m')
  · refine M_fl m1 m2 (ee_k_lt tx n p) 4 (by decide) f ko (fun h' F' w' _ => ⟨rfl, F'.1.ko ko, fun _ => ?_, fun u => absurd (w'.1.symm.trans u) w'.2.2⟩)
    have : ee_fa tx n p 4 = (4, nI (ee_b tx n p)) := by unfold ee_fa; rw [if_neg nb]
    rw [this] at w'
    exact q6 z h' F' w'
theorem ee_mpA {tx : Nat → Nat} {n : Nat} (ht : ∀ j, j < n → tx j < 256) (hn : n ≤ 900) (tk : Bool) (f fu : Nat) (IH : ee_MP tx n tk f fu) (dp p : Nat) (A : List Nat) (s : Nat) (h h0 : eb_H) (Q : Option Value → eb_H → Prop) (D : Nat) (hfu : 10 * (n - p) + 0 < fu + 1) (hd : dp ≤ 6) (hD : 12 + 8 * (6 - dp) + 0 ≤ D) (ko : eb_KO h) (m : ee_MS tx n tk h p f A s) (q : ∀ h', ee_fl f h h' → ee_OU tx n tk 0 p f A s (ee_pa tx n tk (fu + 1) 0 dp p []) h' → Q none h') : eb_Ct D 173 [.ref s_MO, .int (nI dp)] h Q := by
  have m0 := m
  obtain ⟨m1, m2, m3, m4, m5, m6⟩ := m
  have w0 : eb_I h s_MO 11 = 0 := m2
  have kl := ee_k_lt tx n p
  obtain ⟨E, rfl⟩ : ∃ E, D = E + 7 := ⟨D - 7, by omega⟩
  rw [ee_pa_0] at q
  -- one token, one code
  have one : ∀ c : Nat, ee_k tx n p ≠ 24 → (∀ h', ee_fl f h h' → ee_OU tx n tk 0 p f A s (ee_e tx n p, none, [c]) h' → Q none h') → eb_Ct (E + 6) 171 [.ref s_MO, .int (nI c)] h (fun r h61 => r = none ∧ eb_KO h61 ∧ eb_Ct (E + 6) 164 [.ref s_MO] h61 (fun r h64 => r = none ∧ eb_KO h64 ∧ Q none h64)) := by
    intro c ne q
    obtain ⟨g1, g2⟩ := ee_gt hn m5 ne
    refine M_code m2 m3 c (by omega) ko (fun h1 F1 a1 a2 c1 => ⟨rfl, F1.1.ko ko, ?_⟩)
    have k1 := F1.1.ko ko
    refine M_next (d := E + 1) ht hn (m1.of a1 a2).1 (ee_e tx n p) g2 (m1.of a1 a2).2.2.1 k1 (fun h2 F2 t2 => ⟨rfl, F2.1.ko k1, q h2 (F1.trans F2.fl) (Or.inr ⟨rfl, fun _ => g1, by show p ≤ ee_e tx n p; omega, t2, (m2.of a1).fo F2, c1.fo F2, ?_, g2, ?_⟩)⟩)
    · show f + (A ++ [c]).length + s ≤ ee_e tx n p
      rw [List.length_append]
      show f + (A.length + 1) + s ≤ _
      omega
    · rw [F2.2 15 (by decide) (by decide) (by decide) (by decide), a1]
      exact m6
  refine T_X11_readAtom (d := E + 6) _ ko (M_is1 m1 m2 kl 23 (by omega) ko ⟨_, rfl, ko, ?_⟩)
  rw [ee_i01]
  refine ⟨fun k23 => ⟨fun u => absurd w0 u, fun _ => ?_⟩, fun k23 => ?_⟩
  · rw [if_neg k23] at q
    rw [m1.2.2.2.1]
    refine M_wd kl m6 ko ⟨_, rfl, ko, ?_⟩
    by_cases kw : ee_wd tk (ee_k tx n p) < 9
    · rw [if_pos kw] at q ⊢
      obtain ⟨_, c2, c3, _, _⟩ := ee_wd_cc (v := 0) kw
      refine ⟨fun u => absurd u (ec_m1 (by omega)), fun _ => ?_⟩
      rw [m1.2.2.2.1]
      refine M_wd kl m6 ko ⟨_, rfl, ko, ?_⟩
      rw [if_pos kw, show (1000 : Int32) + nI (ee_wd tk (ee_k tx n p)) = nI (1000 + ee_wd tk (ee_k tx n p)) from ec_9 1000 _]
      exact one _ c3 q
    · rw [if_neg kw] at q ⊢
      refine ⟨fun _ => M_is1 m1 m2 kl 35 (by omega) ko ⟨_, rfl, ko, ?_⟩, fun u => absurd rfl u⟩
      rw [ee_i01]
      refine ⟨fun k35 => ?_, fun k35 => ?_⟩
      · rw [if_neg k35] at q
        exact M_fl m1 m2 kl 2 (by decide) f ko (fun h' F' w' _ => ⟨rfl, F'.1.ko ko, q h' F' (Or.inl ⟨_, rfl, w'⟩)⟩)
      · have k35 := Decidable.not_not.mp k35
        rw [if_pos k35] at q
        refine M_in (d := E) ht hn m0 (by omega) (by omega) dp hd ko (fun z h' F' w' => ⟨_, rfl, F'.1.ko ko, fun u => absurd rfl u, fun _ => ?_⟩) (fun z h' F' m' => ⟨_, rfl, F'.1.ko ko, fun _ => ?_, fun u => absurd u (by decide)⟩)
        · rw [if_pos z] at q
          exact q h' F' (Or.inl ⟨_, rfl, w'⟩)
        · rw [if_neg (by omega)] at q
          have k1 := F'.1.ko ko
          obtain ⟨g1, g2⟩ := ee_gt hn m5 (show ee_k tx n p ≠ 24 by omega)
          rw [nI_1]
          refine IH 4 (dp + 1) (ee_e tx n p) [] A (s + 1) h' h0 _ (E + 6) (by omega) (by show 10 * (n - ee_e tx n p) + 2 < fu; omega) (by omega) (by show 12 + 8 * (6 - (dp + 1)) + 2 ≤ E + 6; omega) k1 (fun _ => rfl) (by rw [List.append_nil]; exact m') (fun h2 F2 ou => ⟨rfl, F2.1.ko k1, ?_⟩)
          have k2 := F2.1.ko k1
          have FF : ee_fl f h h2 := (F'.fl).trans F2
          rcases ou with ⟨y, e1, w2⟩ | ⟨e1, pg, pl, M2⟩
          · refine M_eat0 (d := E + 5) w2 _ k2 ⟨_, rfl, k2, fun u => absurd rfl u, fun _ => M_fl0 w2 _ k2 ⟨rfl, k2, q h2 FF (Or.inl ⟨y, ee_bd_f e1, w2⟩)⟩⟩
          · rw [ee_bd_n e1] at q
            generalize (ee_pa tx n tk fu 4 (dp + 1) (ee_e tx n p) []).1 = p1 at q M2 pg pl
            generalize (ee_pa tx n tk fu 4 (dp + 1) (ee_e tx n p) []).2.2 = cs at q M2
            have M20 := M2
            obtain ⟨x1, x2, x3, x4, x5, x6⟩ := M2
            refine M_eat1 (d := E) ht hn x5 x1 x2 (ee_k_lt tx n p1) 36 (by omega) k2 (fun k36 h3 F3 t3 => ⟨_, rfl, F3.1.ko k2, fun _ => ?_, fun u => absurd u (by decide)⟩) (fun k36 => ⟨_, rfl, k2, fun u => absurd rfl u, fun _ => M_fl x1 x2 (ee_k_lt tx n p1) 2 (by decide) f k2 (fun h3 F3 w3 _ => ⟨rfl, F3.1.ko k2, ?_⟩)⟩)
            · rw [if_pos k36] at q
              obtain ⟨g3, g4⟩ := ee_gt hn x5 (show ee_k tx n p1 ≠ 24 by omega)
              exact q h3 (FF.trans F3.fl) (Or.inr ⟨rfl, fun _ => by show p < ee_e tx n p1; omega, by show p ≤ ee_e tx n p1; omega, M20.fo F3 t3 (by omega) g4⟩)
            · rw [if_neg k36] at q
              exact q h3 (FF.trans F3) (Or.inl ⟨_, rfl, w3⟩)
  · have k23 := Decidable.not_not.mp k23
    rw [if_pos k23] at q
    rw [m1.2.2.2.2 k23]
    exact one _ (by omega) q
end EBMPA
