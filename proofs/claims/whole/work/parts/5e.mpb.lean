section EBMPB
variable {L : Nat} {xs : Nat → Int32}
theorem ee_MS.code {d : Nat} {h : eb_H} {Q : Option Value → eb_H → Prop} {tx : Nat → Nat} {n p f s : Nat} {tk : Bool} {A : List Nat} (hn : n ≤ 900) (m : ee_MS tx n tk h p f A (s + 1)) (c : Nat) (ko : eb_KO h) (q : ∀ h', ee_fl f h h' → ee_MS tx n tk h' p f (A ++ [c]) s → Q none h') : eb_Ct d 171 [.ref s_MO, .int (nI c)] h Q := by
  obtain ⟨m1, m2, m3, m4, m5, m6⟩ := m
  refine M_code m2 m3 c (by omega) ko (fun h1 F1 a1 a2 c1 => q h1 F1 ⟨m1.of a1 a2, m2.of a1, c1, ?_, m5, ?_⟩)
  · rw [List.length_append]
    show f + (A.length + 1) + s ≤ p
    omega
  · rw [a1]; exact m6
theorem ee_mpU {tx : Nat → Nat} {n : Nat} (ht : ∀ j, j < n → tx j < 256) (hn : n ≤ 900) (tk : Bool) (f fu : Nat) (IH : ee_MP tx n tk f fu) (dp p : Nat) (A : List Nat) (s : Nat) (h h0 : eb_H) (Q : Option Value → eb_H → Prop) (D : Nat) (hfu : 10 * (n - p) + 3 < fu + 1) (hd : dp ≤ 6) (hD : 12 + 8 * (6 - dp) + 3 ≤ D) (ko : eb_KO h) (m : ee_MS tx n tk h p f A s) (q : ∀ h', ee_fl f h h' → ee_OU tx n tk 1 p f A s (ee_pa tx n tk (fu + 1) 1 dp p []) h' → Q none h') : eb_Ct D 176 [.ref s_MO, .int (nI dp)] h Q := by
  have m0 := m
  obtain ⟨m1, m2, m3, m4, m5, m6⟩ := m
  have kl := ee_k_lt tx n p
  obtain ⟨E, rfl⟩ : ∃ E, D = E + 7 := ⟨D - 7, by omega⟩
  rw [ee_pa_1] at q
  refine T_X11_readUnit (d := E + 6) _ ko (M_is1 m1 m2 kl 16 (by omega) ko ⟨_, rfl, ko, ?_⟩)
  rw [ee_i01]
  refine ⟨fun k16 => M_is1 m1 m2 kl 37 (by omega) ko ⟨_, rfl, ko, ?_⟩, fun k16 => ?_⟩
  · rw [if_neg k16] at q
    rw [ee_i01]
    refine ⟨fun k37 => ?_, fun k37 => ?_⟩
    · rw [if_neg k37] at q
      refine IH 4 dp p [] A s h h0 _ (E + 6) (by omega) (by show 10 * (n - p) + 2 < fu; omega) hd (by show 12 + 8 * (6 - dp) + 2 ≤ E + 6; omega) ko (fun _ => rfl) (by rw [List.append_nil]; exact m0) (fun h2 F2 ou => ⟨rfl, F2.1.ko ko, ?_⟩)
      have k2 := F2.1.ko ko
      rcases ou with ⟨y, e1, w2⟩ | ⟨e1, pg, pl, M2⟩
      · refine M_is0 w2 _ k2 ⟨_, rfl, k2, fun _ => ?_, fun z => absurd rfl z⟩
        refine M_is0 w2 _ k2 ⟨_, rfl, k2, ?_⟩
        refine M_is0 w2 _ k2 ⟨_, rfl, k2, fun z => absurd rfl z, fun _ => ?_⟩
        refine M_is0 w2 _ k2 ⟨_, rfl, k2, fun z => absurd rfl z, fun _ => ?_⟩
        refine M_is0 w2 _ k2 ⟨_, rfl, k2, fun _ => ?_, fun z => absurd rfl z⟩
        exact M_fl0 w2 _ k2 ⟨rfl, k2, M_sm0 (d := E + 3) w2 _ k2 ⟨rfl, k2, M_code0 w2 _ k2 ⟨rfl, k2, q h2 F2 (Or.inl ⟨y, ee_bd_f e1, w2⟩)⟩⟩⟩
      · rw [ee_bd_n e1] at q
        generalize (ee_pa tx n tk fu 4 dp p []).1 = p1 at q M2 pg pl
        generalize (ee_pa tx n tk fu 4 dp p []).2.2 = cs at q M2
        have pg := pg (Or.inl rfl)
        have M20 := M2
        obtain ⟨x1, x2, x3, x4, x5, x6⟩ := M2
        have kl1 := ee_k_lt tx n p1
        have rest : ∀ ci : Int32, 39 ≤ ee_k tx n p1 ∧ ee_k tx n p1 ≤ 41 → ci = nI (3003 + (ee_k tx n p1 - 39)) → eb_Ct (E + 6) 164 [.ref s_MO] h2 (fun r h26 => r = none ∧ eb_KO h26 ∧ eb_Ct (E + 6) 175 [.ref s_MO, .int (nI dp)] h26 (fun r h29 => r = none ∧ eb_KO h29 ∧ eb_Ct (E + 6) 171 [.ref s_MO, .int ci] h29 (fun r h32 => r = none ∧ eb_KO h32 ∧ Q none h32))) := by
          intro ci kk ec
          rw [if_pos kk] at q
          rw [ec]
          obtain ⟨g1, g2⟩ := ee_gt hn x5 (show ee_k tx n p1 ≠ 24 by omega)
          refine M_nx (d := E + 1) ht hn M20 (by omega) (Nat.le_refl _) k2 (fun h3 F3 M3 => ⟨rfl, F3.1.ko k2, ?_⟩)
          have k3 := F3.1.ko k2
          refine IH 4 dp (ee_e tx n p1) [] (A ++ cs) (s + 1) h3 h0 _ (E + 6) (by omega) (by show 10 * (n - ee_e tx n p1) + 2 < fu; omega) hd (by show 12 + 8 * (6 - dp) + 2 ≤ E + 6; omega) k3 (fun _ => rfl) (by rw [List.append_nil]; exact M3) (fun h4 F4 ou => ⟨rfl, F4.1.ko k3, ?_⟩)
          have k4 := F4.1.ko k3
          have FF : ee_fl f h h4 := (F2.trans F3.fl).trans F4
          rcases ou with ⟨y, e2, w4⟩ | ⟨e2, pg2, pl2, M4⟩
          · exact M_code0 w4 _ k4 ⟨rfl, k4, q h4 FF (Or.inl ⟨y, ee_bd_f e2, w4⟩)⟩
          · rw [ee_bd_n e2] at q
            generalize (ee_pa tx n tk fu 4 dp (ee_e tx n p1) []).1 = p2 at q M4 pg2 pl2
            generalize (ee_pa tx n tk fu 4 dp (ee_e tx n p1) []).2.2 = cs2 at q M4
            refine M4.code hn _ k4 (fun h5 F5 M5 => ⟨rfl, F5.1.ko k4, q h5 (FF.trans F5) (Or.inr ⟨rfl, fun _ => by show p < p2; omega, by show p ≤ p2; omega, ?_⟩)⟩)
            rw [List.append_assoc A cs cs2, List.append_assoc A (cs ++ cs2)] at M5
            exact M5
        refine M_is1 x1 x2 kl1 39 (by omega) k2 ⟨_, rfl, k2, ?_⟩
        rw [ee_i01]
        refine ⟨fun k39 => ?_, fun k39 => ?_⟩
        · refine M_is1 x1 x2 kl1 40 (by omega) k2 ⟨_, rfl, k2, ?_⟩
          refine M_is1 x1 x2 kl1 39 (by omega) k2 ⟨_, rfl, k2, ?_⟩
          rw [ee_i01]
          refine ⟨fun z => absurd k39 z, fun _ => ?_⟩
          refine M_is1 x1 x2 kl1 40 (by omega) k2 ⟨_, rfl, k2, fun k40 => ?_, fun k40 => ?_⟩
          · rw [ee_i01] at k40
            have k40 := Decidable.not_not.mp k40
            refine rest _ ⟨by omega, by omega⟩ ?_
            rw [k40]
            decide
          · rw [ee_i01] at k40
            refine M_is1 x1 x2 kl1 41 (by omega) k2 ⟨_, rfl, k2, fun k41 => ?_, fun k41 => ?_⟩
            · rw [ee_i01] at k41
              refine M_fl x1 x2 kl1 2 (by decide) f k2 (fun h3 F3 w3 _ => ⟨rfl, F3.1.ko k2, ?_⟩)
              have k3 := F3.1.ko k2
              rw [if_neg (by omega)] at q
              exact M_sm0 (d := E + 3) w3 _ k3 ⟨rfl, k3, M_code0 w3 _ k3 ⟨rfl, k3, q h3 (F2.trans F3) (Or.inl ⟨_, rfl, w3⟩)⟩⟩
            · rw [ee_i01] at k41
              have k41 := Decidable.not_not.mp k41
              refine rest _ ⟨by omega, by omega⟩ ?_
              rw [k41]
              decide
        · have k39 := Decidable.not_not.mp k39
          refine M_is1 x1 x2 kl1 39 (by omega) k2 ⟨_, rfl, k2, ?_⟩
          rw [ee_i01]
          refine ⟨fun _ => ?_, fun z => absurd k39 z⟩
          refine rest _ ⟨by omega, by omega⟩ ?_
          rw [k39]
          rfl
    · have k37 := Decidable.not_not.mp k37
      rw [if_pos k37] at q
      refine M_in (d := E) ht hn m0 (by omega) (by omega) dp hd ko (fun z h' F' w' => ⟨_, rfl, F'.1.ko ko, fun u => absurd rfl u, fun _ => ?_⟩) (fun z h' F' m' => ⟨_, rfl, F'.1.ko ko, fun _ => ?_, fun u => absurd u (by decide)⟩)
      · rw [if_pos z] at q
        exact q h' F' (Or.inl ⟨_, rfl, w'⟩)
      · rw [if_neg (by omega)] at q
        have k1 := F'.1.ko ko
        obtain ⟨g1, g2⟩ := ee_gt hn m5 (show ee_k tx n p ≠ 24 by omega)
        rw [nI_1]
        refine IH 8 (dp + 1) (ee_e tx n p) [] A (s + 1) h' h0 _ (E + 6) (by omega) (by show 10 * (n - ee_e tx n p) + 5 < fu; omega) (by omega) (by show 12 + 8 * (6 - (dp + 1)) + 5 ≤ E + 6; omega) k1 (fun _ => rfl) (by rw [List.append_nil]; exact m') (fun h2 F2 ou => ⟨rfl, F2.1.ko k1, ?_⟩)
        have k2 := F2.1.ko k1
        have FF : ee_fl f h h2 := (F'.fl).trans F2
        rcases ou with ⟨y, e1, w2⟩ | ⟨e1, pg, pl, M2⟩
        · refine M_eat0 (d := E + 5) w2 _ k2 ⟨_, rfl, k2, fun u => absurd rfl u, fun _ => M_fl0 w2 _ k2 ⟨rfl, k2, q h2 FF (Or.inl ⟨y, ee_bd_f e1, w2⟩)⟩⟩
        · rw [ee_bd_n e1] at q
          generalize (ee_pa tx n tk fu 8 (dp + 1) (ee_e tx n p) []).1 = p1 at q M2 pg pl
          generalize (ee_pa tx n tk fu 8 (dp + 1) (ee_e tx n p) []).2.2 = cs at q M2
          have M20 := M2
          obtain ⟨x1, x2, x3, x4, x5, x6⟩ := M2
          refine M_eat1 (d := E) ht hn x5 x1 x2 (ee_k_lt tx n p1) 38 (by omega) k2 (fun k38 h3 F3 t3 => ⟨_, rfl, F3.1.ko k2, fun _ => ?_, fun u => absurd u (by decide)⟩) (fun k38 => ⟨_, rfl, k2, fun u => absurd rfl u, fun _ => M_fl x1 x2 (ee_k_lt tx n p1) 2 (by decide) f k2 (fun h3 F3 w3 _ => ⟨rfl, F3.1.ko k2, ?_⟩)⟩)
          · rw [if_pos k38] at q
            obtain ⟨g3, g4⟩ := ee_gt hn x5 (show ee_k tx n p1 ≠ 24 by omega)
            exact q h3 (FF.trans F3.fl) (Or.inr ⟨rfl, fun _ => by show p < ee_e tx n p1; omega, by show p ≤ ee_e tx n p1; omega, M20.fo F3 t3 (by omega) g4⟩)
          · rw [if_neg k38] at q
            exact q h3 (FF.trans F3) (Or.inl ⟨_, rfl, w3⟩)
  · have k16 := Decidable.not_not.mp k16
    rw [if_pos k16] at q
    refine M_in (d := E) ht hn m0 (by omega) (by omega) dp hd ko (fun z h' F' w' => ⟨_, rfl, F'.1.ko ko, fun u => absurd rfl u, fun _ => ?_⟩) (fun z h' F' m' => ⟨_, rfl, F'.1.ko ko, fun _ => ?_, fun u => absurd u (by decide)⟩)
    · rw [if_pos z] at q
      exact q h' F' (Or.inl ⟨_, rfl, w'⟩)
    · rw [if_neg (by omega)] at q
      have k1 := F'.1.ko ko
      obtain ⟨g1, g2⟩ := ee_gt hn m5 (show ee_k tx n p ≠ 24 by omega)
      rw [nI_1]
      refine IH 1 (dp + 1) (ee_e tx n p) [] A (s + 1) h' h0 _ (E + 6) (by omega) (by show 10 * (n - ee_e tx n p) + 3 < fu; omega) (by omega) (by show 12 + 8 * (6 - (dp + 1)) + 3 ≤ E + 6; omega) k1 (fun _ => rfl) (by rw [List.append_nil]; exact m') (fun h2 F2 ou => ⟨rfl, F2.1.ko k1, ?_⟩)
      have k2 := F2.1.ko k1
      have FF : ee_fl f h h2 := (F'.fl).trans F2
      rcases ou with ⟨y, e1, w2⟩ | ⟨e1, pg, pl, M2⟩
      · exact M_code0 w2 _ k2 ⟨rfl, k2, q h2 FF (Or.inl ⟨y, ee_bd_f e1, w2⟩)⟩
      · rw [ee_bd_n e1] at q
        generalize (ee_pa tx n tk fu 1 (dp + 1) (ee_e tx n p) []).1 = p1 at q M2 pg pl
        generalize (ee_pa tx n tk fu 1 (dp + 1) (ee_e tx n p) []).2.2 = cs at q M2
        refine M2.code hn 3006 k2 (fun h3 F3 M3 => ⟨rfl, F3.1.ko k2, q h3 (FF.trans F3) (Or.inr ⟨rfl, fun _ => by show p < p1; omega, by show p ≤ p1; omega, ?_⟩)⟩)
        rw [List.append_assoc] at M3
        exact M3
end EBMPB
