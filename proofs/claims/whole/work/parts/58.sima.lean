section EBSIMA
variable {L : Nat} {xs : Nat → Int32}
theorem ee_bd_f {r : Nat × Option (Int32 × Int32) × List Nat} {k : Nat → List Nat → Nat × Option (Int32 × Int32) × List Nat} {y : Int32 × Int32} (h : r.2.1 = some y) : (ee_bd r k).2.1 = some y := by
  obtain ⟨p, F, cs⟩ := r
  have h : F = some y := h
  subst h
  rfl
theorem ee_bd_n {r : Nat × Option (Int32 × Int32) × List Nat} {k : Nat → List Nat → Nat × Option (Int32 × Int32) × List Nat} (h : r.2.1 = none) : ee_bd r k = k r.1 r.2.2 := by
  obtain ⟨p, F, cs⟩ := r
  have h : F = none := h
  subst h
  rfl
theorem ee_pa_0 {tx : Nat → Nat} {n : Nat} {tk : Bool} {f dp p : Nat} {acc : List Nat} : ee_pa tx n tk (f + 1) 0 dp p acc = (if ee_k tx n p = 23 then (ee_e tx n p, none, [ee_v tx n p]) else if ee_wd tk (ee_k tx n p) < 9 then (ee_e tx n p, none, [1000 + ee_wd tk (ee_k tx n p)]) else if ee_k tx n p = 35 then (if dp = 6 then (p, some (4, nI (ee_b tx n p)), []) else ee_bd (ee_pa tx n tk f 4 (dp + 1) (ee_e tx n p) []) (fun p1 cs => if ee_k tx n p1 = 36 then (ee_e tx n p1, none, cs) else (p1, some (ee_fa tx n p1 2), []))) else (p, some (ee_fa tx n p 2), [])) := rfl
theorem ee_pa_1 {tx : Nat → Nat} {n : Nat} {tk : Bool} {f dp p : Nat} {acc : List Nat} : ee_pa tx n tk (f + 1) 1 dp p acc = (if ee_k tx n p = 16 then (if dp = 6 then (p, some (4, nI (ee_b tx n p)), []) else ee_bd (ee_pa tx n tk f 1 (dp + 1) (ee_e tx n p) []) (fun p1 cs => (p1, none, cs ++ [3006]))) else if ee_k tx n p = 37 then (if dp = 6 then (p, some (4, nI (ee_b tx n p)), []) else ee_bd (ee_pa tx n tk f 8 (dp + 1) (ee_e tx n p) []) (fun p1 cs => if ee_k tx n p1 = 38 then (ee_e tx n p1, none, cs) else (p1, some (ee_fa tx n p1 2), []))) else ee_bd (ee_pa tx n tk f 4 dp p []) (fun p1 cs1 => if 39 ≤ ee_k tx n p1 ∧ ee_k tx n p1 ≤ 41 then ee_bd (ee_pa tx n tk f 4 dp (ee_e tx n p1) []) (fun p2 cs2 => (p2, none, cs1 ++ cs2 ++ [3003 + (ee_k tx n p1 - 39)])) else (p1, some (ee_fa tx n p1 2), []))) := rfl
theorem ee_pa_c {tx : Nat → Nat} {n : Nat} {tk : Bool} {f dp p : Nat} {acc : List Nat} {l : Nat} (hl : l < 4) : ee_pa tx n tk (f + 1) (2 + 2 * l) dp p acc = ee_bd (ee_pa tx n tk f (ee_sub l) dp p []) (fun p1 cs => ee_pa tx n tk f (3 + 2 * l) dp p1 cs) := by
  have h : l = 0 ∨ l = 1 ∨ l = 2 ∨ l = 3 := by omega
  rcases h with rfl | rfl | rfl | rfl <;> rfl
theorem ee_pa_l {tx : Nat → Nat} {n : Nat} {tk : Bool} {f dp p : Nat} {acc : List Nat} {l : Nat} (hl : l < 4) : ee_pa tx n tk (f + 1) (3 + 2 * l) dp p acc = (if ee_op l (ee_k tx n p) = 0 then (p, none, acc) else ee_bd (ee_pa tx n tk f (ee_sub l) dp (ee_e tx n p) []) (fun p1 cs => ee_pa tx n tk f (3 + 2 * l) dp p1 (acc ++ cs ++ [ee_op l (ee_k tx n p)]))) := by
  have h : l = 0 ∨ l = 1 ∨ l = 2 ∨ l = 3 := by omega
  rcases h with rfl | rfl | rfl | rfl <;> rfl
theorem ee_gt {tx : Nat → Nat} {n p : Nat} (hn : n ≤ 900) (hp : p ≤ n) (ne : ee_k tx n p ≠ 24) : p < ee_e tx n p ∧ ee_e tx n p ≤ n := by
  obtain ⟨e1, e2, e3, e4⟩ := ee_e_le tx hn hp
  have eg : ee_b tx n p < ee_e tx n p := by
    refine (ee_eb_le tx hn e3).2.2 (fun z => ne ?_)
    unfold ee_k
    rw [if_pos z]
  exact ⟨by omega, e1⟩
theorem ee_op0 {k : Nat} (h : ee_op 0 k = 0) : k ≠ 34 := fun z => by
  rw [z] at h
  exact absurd h (by decide)
theorem ee_op1 {k : Nat} (h : ee_op 1 k = 0) : k ≠ 32 ∧ k ≠ 33 := ⟨fun z => by rw [z] at h; exact absurd h (by decide), fun z => by rw [z] at h; exact absurd h (by decide)⟩
theorem ee_op2 {k : Nat} (h : ee_op 2 k = 0) : k ≠ 14 := fun z => by
  rw [z] at h
  exact absurd h (by decide)
theorem ee_op3 {k : Nat} (h : ee_op 3 k = 0) : k ≠ 15 := fun z => by
  rw [z] at h
  exact absurd h (by decide)
/-- the state behind an opener that is one too many -/
theorem S_six {d : Nat} {h0 gB g : eb_H} {Q : Option Value → eb_H → Prop} {tx : Nat → Nat} {n p : Nat} {C W : List Nat} {ps br sd fr i : Nat} (ht : ∀ j, j < n → tx j < 256) (hn : n ≤ 900) (tk : Bool) (x : Int32) (hx : x = 0 ↔ ¬ tk = true) (S : ee_SS gB tx n g p C W 6 ps br sd 1 fr i) (ko : eb_KO gB) (hb : sd < 3 ∧ ps ≤ 6 ∧ br ≤ 6) (hW : W.length < 32) (hw : ee_nt W ≤ 6) (hwx : ∀ x, x ∈ W → 101 ≤ x / 10 ∧ x < 2000) (c : Nat) (hc : c = 1011 ∨ ((c = 1040 ∨ c = 1010) ∧ fr = 1)) (ec : ee_cc tk (ee_k tx n p) (ee_v tx n p) = c) (nb : ee_k tx n p ≠ 25) (K : ∀ g' i', ee_fw gB g' → (∃ p', p' ≤ n ∧ ee_XT g' tx n p' (some (4, nI (ee_b tx n p)))) → ee_LS g' → ee_HD d h0 Q x g' i') : ee_HD d h0 Q x g i := by
  have S0 := S
  obtain ⟨s1, s2, s3, s4, s5, s6⟩ := S
  have kg := s1.1.ko ko
  rw [(ee_nf_n (tx := tx) (p := p) hn).mpr nb] at s2
  refine S_gen ht hn tk x hx S0 ko nb (fun z => absurd z.2.1 (by omega)) ⟨by omega, by omega, by omega, by omega⟩ (fun _ => ?_) (fun z => absurd z (by omega))
  rw [ec, ee_ci_n (by omega)]
  refine C_o3 (d := d + 5) s2 s3 c hc (by omega) (by omega) hW (by omega) hw hwx kg (fun h' F' f1 t' l' => ⟨_, rfl, F'.ko kg, fun _ => ?_, fun z => absurd z (by decide)⟩)
  refine C_adv (d := d) ht hn s6 t' (F'.ko kg) (fun h2 F2 t2 => ⟨rfl, F2.1.ko (F'.ko kg), K h2 (i + 1) ((s1.trans ⟨F', f1⟩).trans F2.fw) ⟨p, s6, t2⟩ (l'.fr F2.1 (by decide) (by decide) (by decide))⟩)
theorem ee_simA {d : Nat} {h0 gB g : eb_H} {Q : Option Value → eb_H → Prop} {tx : Nat → Nat} {n : Nat} (ht : ∀ j, j < n → tx j < 256) (hn : n ≤ 900) (tk : Bool) (x : Int32) (hx : x = 0 ↔ ¬ tk = true) (ko : eb_KO gB) {f : Nat} (IH : ee_Sim d h0 gB Q tx n tk x f) (dp p : Nat) (acc C W : List Nat) (ps br sd fr i : Nat) (fu : 10 * (n - p) + 0 < f + 1) (B : ee_B0 gB tx n 0 dp p C W ps br sd fr i g) (Kf : ∀ y, (ee_pa tx n tk (f + 1) 0 dp p acc).2.1 = some y → ∀ g' i', ee_fw gB g' → (∃ p', p' ≤ n ∧ ee_XT g' tx n p' (some y)) → ee_LS g' → ee_HD d h0 Q x g' i') (Ko : (ee_pa tx n tk (f + 1) 0 dp p acc).2.1 = none → ∀ g' i' e q, ee_EN gB tx n 0 dp p (ee_pa tx n tk (f + 1) 0 dp p acc).1 (ee_pa tx n tk (f + 1) 0 dp p acc).2.2 C W ps br sd g' i' e q → ee_HD d h0 Q x g' i') : ee_HD d h0 Q x g i := by
  obtain ⟨⟨w1, w2, w3, w4, w5⟩, ⟨hps, hbr⟩, low, _, S⟩ := B
  obtain ⟨l1, l2, l3⟩ := low (Or.inl rfl)
  have S0 := S
  obtain ⟨s1, s2, s3, s4, s5, s6⟩ := S
  have w1 : W.length ≤ 3 * dp + 5 := w1
  have kg := s1.1.ko ko
  rw [ee_pa_0] at Kf Ko
  -- an atom of one token
  have one : ∀ v, v ≤ 1005 → ee_cc tk (ee_k tx n p) (ee_v tx n p) = v → ee_k tx n p ≠ 25 → ee_k tx n p ≠ 24 → (∀ g' i' e q, ee_EN gB tx n 0 dp p (ee_e tx n p) [v] C W ps br sd g' i' e q → ee_HD d h0 Q x g' i') → ee_HD d h0 Q x g i := by
    intro v vl ec nb n24 K
    rw [(ee_nf_n (tx := tx) (p := p) hn).mpr nb] at s2
    obtain ⟨g1, g2⟩ := ee_gt hn s6 n24
    refine S_gen ht hn tk x hx S0 ko nb (fun z => absurd z.2.1 (by omega)) ⟨by omega, by omega, by omega, by omega⟩ (fun _ => ?_) (fun z => absurd z (by omega))
    rw [ec, ee_ci_n (by omega)]
    refine C_o1 (d := d + 5) s3 v vl (by omega) kg (fun h' F' l' => ⟨_, rfl, F'.ko kg, fun _ => S_ok ht hn s1 s2 s6 s5 n24 ko F' l' (by show C.length + 1 + W.length ≤ i + 1; omega) (fun g' S' => K g' (i + 1) [v] [] ⟨fun _ => g1, by omega, ?_, fun y hy => absurd hy (List.not_mem_nil), w1, w2, sd, fun _ => rfl, fun z => absurd z (by omega), ⟨fun z => absurd rfl z, fun z => absurd z (by omega), fun z => absurd z (by omega), fun z => absurd z (by omega)⟩, S'⟩), fun z => absurd z (by decide)⟩)
    show [ee_t1 v] = [v]
    rw [ee_t1_lo (by omega)]
  by_cases k23 : ee_k tx n p = 23
  · rw [if_pos k23] at Kf Ko
    have vl := ee_v_lt hn k23
    exact one (ee_v tx n p) (by omega) (by rw [k23]; rfl) (by omega) (by omega) (Ko rfl)
  · rw [if_neg k23] at Kf Ko
    by_cases kw : ee_wd tk (ee_k tx n p) < 9
    · rw [if_pos kw] at Kf Ko
      obtain ⟨c1, c2, c3, c4, c5⟩ := ee_wd_cc (v := ee_v tx n p) kw
      exact one (1000 + ee_wd tk (ee_k tx n p)) (by omega) c1 c4 c3 (Ko rfl)
    · rw [if_neg kw] at Kf Ko
      by_cases k35 : ee_k tx n p = 35
      · rw [if_pos k35] at Kf Ko
        have ec : ee_cc tk (ee_k tx n p) (ee_v tx n p) = 1011 := by rw [k35]; rfl
        by_cases d6 : dp = 6
        · subst d6
          rw [if_pos rfl] at Kf Ko
          exact S_six ht hn tk x hx S0 ko ⟨by omega, by omega, by omega⟩ (by omega) w3 w4 1011 (Or.inl rfl) ec (by omega) (fun g' i' a b c => Kf _ rfl g' i' a b c)
        · rw [if_neg d6] at Kf Ko
          rw [(ee_nf_n (tx := tx) (p := p) hn).mpr (by omega)] at s2
          obtain ⟨g1, g2⟩ := ee_gt hn s6 (show ee_k tx n p ≠ 24 by omega)
          refine S_gen ht hn tk x hx S0 ko (by omega) (fun z => absurd z.2.1 (by omega)) ⟨by omega, by omega, by omega, by omega⟩ (fun _ => ?_) (fun z => absurd z (by omega))
          rw [ec, ee_ci_n (by omega)]
          refine C_o2 (d := d + 5) s3 1011 (Or.inl rfl) (by omega) (by omega) (by omega) (by omega) kg (fun h' F' l' => ⟨_, rfl, F'.ko kg, fun _ => S_ok (C := C) (W := 1011 :: W) (dp := dp + 1) (ps := ps + 1) (br := br) (sd := sd) (wa := 1) (fr := 0) ht hn s1 s2 s6 s5 (by omega) ko F' l' (by show C.length + (W.length + 1) ≤ i + 1; omega) (fun g' S' => ?_), fun z => absurd z (by decide)⟩)
          have nt1 : ee_nt (1011 :: W) = ee_nt W := Nat.zero_add _
          refine IH 4 (dp + 1) (ee_e tx n p) [] C (1011 :: W) (ps + 1) br sd 0 (i + 1) g' (by omega) (by show 10 * (n - ee_e tx n p) + 2 < f; omega) (fun _ => ⟨⟨by show W.length + 1 ≤ 3 * (dp + 1) + 3; omega, by omega, by rw [nt1]; omega, fun y hy => ?_, fun y W' e => ?_⟩, ⟨by omega, by omega⟩, fun _ => ⟨l1, by omega, fun z => absurd z (by omega)⟩, fun z => absurd z (by omega), S'⟩) (fun z => absurd (Or.inl rfl) z) (fun y hy g2 i2 => Kf y (ee_bd_f hy) g2 i2) (fun hn0 g2 i2 e q EN => ?_)
          · rcases List.mem_cons.mp hy with z | z
            · rw [z]; decide
            · exact w4 y z
          · cases e
            decide
          · rw [ee_bd_n hn0] at Kf Ko
            generalize (ee_pa tx n tk f 4 (dp + 1) (ee_e tx n p) []).1 = p1 at Kf Ko EN
            generalize (ee_pa tx n tk f 4 (dp + 1) (ee_e tx n p) []).2.2 = cs at Kf Ko EN
            obtain ⟨n1, n2, n3, n4, n5, n6, sd', n7, _, n8, SS2⟩ := EN
            have n7 := n7 ⟨by omega, by omega⟩
            subst n7
            have n1 := n1 (Or.inl rfl)
            have S20 := SS2
            obtain ⟨t1, t2, t3, t4, t5, t6⟩ := SS2
            have k2 := t1.1.ko ko
            have ntq : ee_nt (q ++ 1011 :: W) = ee_nt q + ee_nt W := by rw [ee_nt_app, nt1]
            have lq : (q ++ 1011 :: W).length = q.length + (W.length + 1) := List.length_append
            have lc : (e.reverse ++ C).length = e.length + C.length := by rw [List.length_append, List.length_reverse]
            have hel : ∀ y, y ∈ q ++ 1011 :: W → 101 ≤ y / 10 ∧ y < 2000 := fun y hy => by
              rcases List.mem_append.mp hy with z | z
              · have := n4 y z
                have p4 : ee_P 4 = 106 := rfl
                omega
              · rcases List.mem_cons.mp z with u | u
                · rw [u]; decide
                · exact w4 y u
            by_cases k36 : ee_k tx n p1 = 36
            · rw [if_pos k36] at Kf Ko
              rw [(ee_nf_n (tx := tx) (p := p1) hn).mpr (by omega)] at t2
              obtain ⟨g3, g4⟩ := ee_gt hn t6 (show ee_k tx n p1 ≠ 24 by omega)
              refine S_gen ht hn tk x hx S20 ko (by omega) (fun z => absurd z.2.2.2.1 (by omega)) ⟨by omega, by omega, by omega, by omega⟩ (fun z => absurd z (by omega)) (fun _ => ?_)
              have ec2 : ee_cc tk (ee_k tx n p1) (ee_v tx n p1) = 1081 := by rw [k36]; rfl
              rw [ec2, ee_ci_n (by omega)]
              refine C_j4 (d := d + 3) t3 (by omega) (fun y hy => by have := n4 y hy; have p4 : ee_P 4 = 106 := rfl; omega) (by omega) (by omega) (by omega) k2 (fun h3 F3 l3 => ⟨_, rfl, F3.ko k2, fun _ => S_ok (C := q.reverse ++ (e.reverse ++ C)) (W := W) (dp := dp) (ps := ps) (br := br) (sd := sd') (wa := 0) (fr := 0) ht hn t1 t2 t6 t5 (by omega) ko F3 l3 (by rw [List.length_append, List.length_reverse]; omega) (fun g4' S4 => ?_), fun z => absurd z (by decide)⟩)
              refine Ko rfl g4' (i2 + 1) (e ++ q) [] ⟨fun _ => by show p < ee_e tx n p1; omega, by show p ≤ ee_e tx n p1; omega, by rw [List.append_nil]; exact n3, fun y hy => absurd hy (List.not_mem_nil), w1, w2, sd', fun _ => rfl, fun z => absurd z (by omega), ⟨fun z => absurd rfl z, fun z => absurd z (by omega), fun z => absurd z (by omega), fun z => absurd z (by omega)⟩, ?_⟩
              rw [List.reverse_append, List.append_assoc]
              exact S4
            · rw [if_neg k36] at Kf Ko
              have o0 := ee_op0 (n8.1 (by omega) (by omega))
              have o1 := ee_op1 (n8.2.1 (Or.inl (by omega)) (by omega))
              exact S_bad0 ht hn tk x hx S20 ko (fun z => absurd z.2.2.1 (by omega)) ⟨by omega, by omega, by omega⟩ (by omega) (by omega) (by omega) hel (fun z => absurd z (by omega)) (fun z => absurd z (by omega)) (fun z => absurd z (by omega)) (fun _ => k36) (fun g3 i3 a b c => Kf _ rfl g3 i3 a b c)
      · rw [if_neg k35] at Kf Ko
        exact S_bad1 ht hn tk x hx S0 ko ⟨by omega, by omega, by omega⟩ (by omega) w3 w2 w4 ⟨k23, kw⟩ k35 (fun z => l3 (by omega)) (fun g' i' a b c => Kf _ rfl g' i' a b c)
end EBSIMA
