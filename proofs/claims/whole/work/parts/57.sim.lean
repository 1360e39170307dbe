section EBSIM
variable {L : Nat} {xs : Nat → Int32}
def ee_rk (m : Nat) : Nat := if m = 0 then 0 else if m = 1 then 3 else if m = 2 then 1 else if m = 4 then 2 else if m = 6 then 4 else if m = 8 then 5 else 6
/-- how closely what is left waiting binds -/
def ee_P (m : Nat) : Nat := if m = 0 then 108 else if m = 1 then 104 else if m < 4 then 107 else if m < 6 then 106 else if m < 8 then 103 else 102
def ee_H (m : Nat) : Nat := if m = 0 then 200 else if m = 1 then 105 else ee_P m
def ee_wb (m : Nat) : Nat := if m = 0 then 5 else if m = 1 then 2 else if m < 4 then 4 else if m < 6 then 3 else if m < 8 then 1 else 0
def ee_WI (m dp : Nat) (W : List Nat) : Prop := W.length ≤ 3 * dp + ee_wb m ∧ dp ≤ 6 ∧ ee_nt W ≤ dp ∧ (∀ x, x ∈ W → 101 ≤ x / 10 ∧ x < 2000) ∧ ∀ x W', W = x :: W' → x / 10 < ee_H m
/-- what the next token is not -/
def ee_no (m sd k : Nat) : Prop := (m ≠ 0 → sd ≠ 2 → ee_op 0 k = 0) ∧ ((4 ≤ m ∨ m = 1) → sd ≠ 2 → ee_op 1 k = 0) ∧ (6 ≤ m → ee_op 2 k = 0) ∧ (8 ≤ m → ee_op 3 k = 0)
def ee_B0 (gB : eb_H) (tx : Nat → Nat) (n m dp p : Nat) (C W : List Nat) (ps br sd fr i : Nat) (g : eb_H) : Prop := ee_WI m dp W ∧ (ps ≤ dp ∧ br ≤ dp) ∧ ((m = 0 ∨ m = 2 ∨ m = 4) → sd < 2 ∧ fr < 2 ∧ (fr = 1 → ee_k tx n p ≠ 16 ∧ ee_k tx n p ≠ 37)) ∧ ((m = 1 ∨ m = 6 ∨ m = 8) → ps = 0 ∧ sd = 0 ∧ fr = 1) ∧ ee_SS gB tx n g p C W dp ps br sd 1 fr i
def ee_B1 (gB : eb_H) (tx : Nat → Nat) (n m dp p : Nat) (acc C W : List Nat) (ps br sd i : Nat) (g : eb_H) : Prop := ∃ e q, acc.map ee_t1 = e ++ q ∧ ee_WI (m - 1) dp W ∧ (ps ≤ dp ∧ br ≤ dp) ∧ (m < 6 → sd < 2) ∧ (6 ≤ m → ps = 0 ∧ (sd = 1 ∨ sd = 2)) ∧ ee_no (ee_sub ((m - 3) / 2)) sd (ee_k tx n p) ∧ (∀ x, x ∈ q → ee_P m ≤ x / 10 ∧ x < 2000) ∧ (q ++ W).length ≤ 3 * (dp + ee_nt q) + 5 ∧ dp + ee_nt q ≤ 6 ∧ ee_SS gB tx n g p (e.reverse ++ C) (q ++ W) (dp + ee_nt q) ps br sd 0 0 i
def ee_EN (gB : eb_H) (tx : Nat → Nat) (n m dp p p' : Nat) (cs C W : List Nat) (ps br sd : Nat) (g' : eb_H) (i' : Nat) (e q : List Nat) : Prop := ((m % 2 = 0 ∨ m = 1) → p < p') ∧ p ≤ p' ∧ cs.map ee_t1 = e ++ q ∧ (∀ x, x ∈ q → ee_P m ≤ x / 10 ∧ x < 2000) ∧ (q ++ W).length ≤ 3 * (dp + ee_nt q) + 5 ∧ dp + ee_nt q ≤ 6 ∧ ∃ sd', ((m < 6 ∧ m ≠ 1) → sd' = sd) ∧ ((6 ≤ m ∨ m = 1) → sd' = 1 ∨ sd' = 2) ∧ ee_no m sd' (ee_k tx n p') ∧ ee_SS gB tx n g' p' (e.reverse ++ C) (q ++ W) (dp + ee_nt q) ps br sd' 0 0 i'
def ee_Sim (d : Nat) (h0 gB : eb_H) (Q : Option Value → eb_H → Prop) (tx : Nat → Nat) (n : Nat) (tk : Bool) (x : Int32) (f : Nat) : Prop := ∀ (m dp p : Nat) (acc C W : List Nat) (ps br sd fr i : Nat) (g : eb_H), m ≤ 9 → 10 * (n - p) + ee_rk m < f → ((m % 2 = 0 ∨ m = 1) → ee_B0 gB tx n m dp p C W ps br sd fr i g) → (¬ (m % 2 = 0 ∨ m = 1) → ee_B1 gB tx n m dp p acc C W ps br sd i g) → (∀ y, (ee_pa tx n tk f m dp p acc).2.1 = some y → ∀ g' i', ee_fw gB g' → (∃ p', p' ≤ n ∧ ee_XT g' tx n p' (some y)) → ee_LS g' → ee_HD d h0 Q x g' i') → ((ee_pa tx n tk f m dp p acc).2.1 = none → ∀ g' i' e q, ee_EN gB tx n m dp p (ee_pa tx n tk f m dp p acc).1 (ee_pa tx n tk f m dp p acc).2.2 C W ps br sd g' i' e q → ee_HD d h0 Q x g' i') → ee_HD d h0 Q x g i
theorem ee_LS_of {g : eb_H} {C W : List Nat} {dp ps br sd wa fr i : Nat} (l : ee_LR g C W dp ps br sd wa fr) (h1 : W.length ≤ 32) (h2 : C.length + W.length ≤ i) (h3 : i ≤ 899) (h4 : ee_nt W ≤ dp) (h5 : dp ≤ 6) (h6 : ∀ x, x ∈ W → 101 ≤ x / 10 ∧ x < 2000) : ee_LS g := ⟨C, W, dp, ps, br, sd, wa, fr, l, h1, by omega, ⟨dp - ee_nt W, by omega⟩, by omega, h6⟩
theorem ee_v_lt {tx : Nat → Nat} {n p : Nat} (hn : n ≤ 900) (h : ee_k tx n p = 23) : ee_v tx n p < 1000 := by
  obtain ⟨z, le3⟩ := (ee_k_23 hn).mp h
  have dg : ∀ k, k ≤ ee_e tx n p - ee_b tx n p → ee_vn tx (ee_b tx n p) k < 10 ^ k := by
    intro k
    induction k with
    | zero => intro _; show 0 < 1; omega
    | succ k ih =>
      intro hk
      have := ih (by omega)
      have so2 : ee_so tx n (ee_b tx n p + k) = 2 := by
        by_cases k0 : k = 0
        · rw [k0, Nat.add_zero]; exact z
        · have ee : ee_e tx n p = ee_run (ee_so tx n) 2 901 (ee_b tx n p + 1) := by
            unfold ee_e ee_eb
            rw [if_neg (by omega), if_pos (Or.inr z), z]
          exact ee_run_in 901 (ee_b tx n p + 1) (ee_b tx n p + k) (by omega) (by omega)
      have d9 := (ee_so2 so2).2
      show 10 * ee_vn tx (ee_b tx n p) k + (tx (ee_b tx n p + k) - 48) < 10 ^ (k + 1)
      rw [Nat.pow_succ]
      omega
  have := dg _ (Nat.le_refl _)
  have p3 : 10 ^ (ee_e tx n p - ee_b tx n p) ≤ 10 ^ 3 := Nat.pow_le_pow_right (by decide) (by omega)
  have p4 : (10 : Nat) ^ 3 = 1000 := by decide
  unfold ee_v
  omega
theorem ee_ccI {tk : Bool} {k v : Nat} (hv : k = 23 → v < 1000) : (ee_cc tk k v = 1060 → k = 32) ∧ (ee_cc tk k v = 1061 → k = 33) ∧ (ee_cc tk k v = 1070 → k = 34) ∧ (ee_cc tk k v = 1050 → k = 39) ∧ (ee_cc tk k v = 1051 → k = 40) ∧ (ee_cc tk k v = 1052 → k = 41) ∧ (ee_cc tk k v = 1030 → k = 14) ∧ (ee_cc tk k v = 1020 → k = 15) ∧ (ee_cc tk k v = 1080 → k = 38) ∧ (ee_cc tk k v = 1081 → k = 36) ∧ (ee_cc tk k v = 1011 → k = 35) ∧ (ee_cc tk k v = 1040 → k = 16) ∧ (ee_cc tk k v = 1010 → k = 37) ∧ (ee_cc tk k v < 1006 → k = 23 ∨ ee_wd tk k < 9) ∧ (ee_cc tk k v < 2000 ∨ ee_cc tk k v = 9999) := by
  by_cases k23 : k = 23
  · have e : ee_cc tk k v = v := if_pos k23
    have := hv k23
    rw [e]
    exact ⟨by omega, by omega, by omega, by omega, by omega, by omega, by omega, by omega, by omega, by omega, by omega, by omega, by omega, fun _ => Or.inl k23, by omega⟩
  · by_cases k42 : k < 42
    · have ev : ee_cc tk k v = ee_cc tk k 0 := by
        unfold ee_cc
        rw [if_neg k23, if_neg k23]
      rw [ev]
      cases tk with
      | false =>
        have k0 : ∀ k, k < 42 → k ≠ 23 → (ee_cc false k 0 = 1060 → k = 32) ∧ (ee_cc false k 0 = 1061 → k = 33) ∧ (ee_cc false k 0 = 1070 → k = 34) ∧ (ee_cc false k 0 = 1050 → k = 39) ∧ (ee_cc false k 0 = 1051 → k = 40) := by decide +kernel
        have k1 : ∀ k, k < 42 → k ≠ 23 → (ee_cc false k 0 = 1052 → k = 41) ∧ (ee_cc false k 0 = 1030 → k = 14) ∧ (ee_cc false k 0 = 1020 → k = 15) ∧ (ee_cc false k 0 = 1080 → k = 38) ∧ (ee_cc false k 0 = 1081 → k = 36) := by decide +kernel
        have k2 : ∀ k, k < 42 → k ≠ 23 → (ee_cc false k 0 = 1011 → k = 35) ∧ (ee_cc false k 0 = 1040 → k = 16) ∧ (ee_cc false k 0 = 1010 → k = 37) ∧ (ee_cc false k 0 < 1006 → k = 23 ∨ ee_wd false k < 9) ∧ (ee_cc false k 0 < 2000 ∨ ee_cc false k 0 = 9999) := by decide +kernel
        obtain ⟨a1, a2, a3, a4, a5⟩ := k0 k k42 k23
        obtain ⟨b1, b2, b3, b4, b5⟩ := k1 k k42 k23
        obtain ⟨c1, c2, c3, c4, c5⟩ := k2 k k42 k23
        exact ⟨a1, a2, a3, a4, a5, b1, b2, b3, b4, b5, c1, c2, c3, c4, c5⟩
      | true =>
        have k0 : ∀ k, k < 42 → k ≠ 23 → (ee_cc true k 0 = 1060 → k = 32) ∧ (ee_cc true k 0 = 1061 → k = 33) ∧ (ee_cc true k 0 = 1070 → k = 34) ∧ (ee_cc true k 0 = 1050 → k = 39) ∧ (ee_cc true k 0 = 1051 → k = 40) := by decide +kernel
        have k1 : ∀ k, k < 42 → k ≠ 23 → (ee_cc true k 0 = 1052 → k = 41) ∧ (ee_cc true k 0 = 1030 → k = 14) ∧ (ee_cc true k 0 = 1020 → k = 15) ∧ (ee_cc true k 0 = 1080 → k = 38) ∧ (ee_cc true k 0 = 1081 → k = 36) := by decide +kernel
        have k2 : ∀ k, k < 42 → k ≠ 23 → (ee_cc true k 0 = 1011 → k = 35) ∧ (ee_cc true k 0 = 1040 → k = 16) ∧ (ee_cc true k 0 = 1010 → k = 37) ∧ (ee_cc true k 0 < 1006 → k = 23 ∨ ee_wd true k < 9) ∧ (ee_cc true k 0 < 2000 ∨ ee_cc true k 0 = 9999) := by decide +kernel
        obtain ⟨a1, a2, a3, a4, a5⟩ := k0 k k42 k23
        obtain ⟨b1, b2, b3, b4, b5⟩ := k1 k k42 k23
        obtain ⟨c1, c2, c3, c4, c5⟩ := k2 k k42 k23
        exact ⟨a1, a2, a3, a4, a5, b1, b2, b3, b4, b5, c1, c2, c3, c4, c5⟩
    · have e : ee_cc tk k v = 9999 := by
        unfold ee_cc
        repeat rw [if_neg (by omega)]
      rw [e]
      exact ⟨by omega, by omega, by omega, by omega, by omega, by omega, by omega, by omega, by omega, by omega, by omega, by omega, by omega, by omega, by omega⟩
theorem ee_ciE {c m : Nat} (hc : c < 2000 ∨ c = 9999) (hm : m < 2000) : ee_ci c = nI m ↔ c = m := by
  unfold ee_ci
  by_cases z : c = 9999
  · rw [if_pos z]
    exact ⟨fun u => absurd u.symm (ec_m1 (by omega)), fun u => absurd u (by omega)⟩
  · rw [if_neg z]
    exact ee_c c m (by omega) (by omega)
theorem ee_ci_n {c : Nat} (hc : c < 2000) : ee_ci c = nI c := if_neg (by omega)
theorem ee_t1_lo {c : Nat} (h : c < 3000) : ee_t1 c = c := by
  unfold ee_t1
  repeat rw [if_neg (by omega)]
theorem ee_wd_cc {tk : Bool} {k v : Nat} (h : ee_wd tk k < 9) : ee_cc tk k v = 1000 + ee_wd tk k ∧ ee_wd tk k < 6 ∧ k ≠ 24 ∧ k ≠ 25 ∧ k ≠ 30 := by
  have k42 : k < 42 := by
    refine Classical.byContradiction fun z => ?_
    unfold ee_wd at h
    rw [if_neg (by omega), if_neg (by omega), if_neg (by omega), if_neg (by omega), if_neg (by omega), if_neg (by omega)] at h
    omega
  have k23 : k ≠ 23 := fun z => by
    rw [z] at h
    unfold ee_wd at h
    rw [if_neg (by decide), if_neg (by decide), if_neg (by decide), if_neg (by decide), if_neg (by decide), if_neg (by decide)] at h
    omega
  have ev : ee_cc tk k v = ee_cc tk k 0 := by
    unfold ee_cc
    rw [if_neg k23, if_neg k23]
  rw [ev]
  cases tk with
  | false =>
    have key : ∀ k, k < 42 → ee_wd false k < 9 → ee_cc false k 0 = 1000 + ee_wd false k ∧ ee_wd false k < 6 ∧ k ≠ 24 ∧ k ≠ 25 ∧ k ≠ 30 := by decide +kernel
    exact key k k42 h
  | true =>
    have key : ∀ k, k < 42 → ee_wd true k < 9 → ee_cc true k 0 = 1000 + ee_wd true k ∧ ee_wd true k < 6 ∧ k ≠ 24 ∧ k ≠ 25 ∧ k ≠ 30 := by decide +kernel
    exact key k k42 h
/-- a token that can't stand where an operator is due -/
theorem S_bad0 {d : Nat} {h0 gB g : eb_H} {Q : Option Value → eb_H → Prop} {tx : Nat → Nat} {n p : Nat} {C W : List Nat} {dp ps br sd i : Nat} (ht : ∀ j, j < n → tx j < 256) (hn : n ≤ 900) (tk : Bool) (x : Int32) (hx : x = 0 ↔ ¬ tk = true) (S : ee_SS gB tx n g p C W dp ps br sd 0 0 i) (ko : eb_KO gB) (nov : ¬ (ee_k tx n p = 30 ∧ sd ≠ 0 ∧ ps = 0 ∧ br = 0)) (hb : sd < 3 ∧ ps ≤ 6 ∧ br ≤ 6) (hW : W.length ≤ 32) (hw : ee_nt W ≤ dp) (hd : dp ≤ 6) (hwx : ∀ x, x ∈ W → 101 ≤ x / 10 ∧ x < 2000) (n1 : (ee_k tx n p = 32 ∨ ee_k tx n p = 33 ∨ ee_k tx n p = 34) → sd = 2) (n2 : ps = 0 → (ee_k tx n p = 39 ∨ ee_k tx n p = 40 ∨ ee_k tx n p = 41) → sd ≠ 0) (n3 : ps = 0 → sd ≠ 0 → ee_k tx n p ≠ 14 ∧ ee_k tx n p ≠ 15 ∧ (ee_k tx n p = 38 → br = 0)) (n4 : ps ≠ 0 → ee_k tx n p ≠ 36) (K : ∀ g' i', ee_fw gB g' → (∃ p', p' ≤ n ∧ ee_XT g' tx n p' (some (ee_fa tx n p 2))) → ee_LS g' → ee_HD d h0 Q x g' i') : ee_HD d h0 Q x g i := by
  have S0 := S
  obtain ⟨s1, s2, s3, s4, s5, s6⟩ := S
  have ls := ee_LS_of s3 hW s4 (by omega) hw hd hwx
  by_cases nb : ee_k tx n p = 25
  · refine K g i s1 ⟨p, s6, ?_⟩ ls
    rw [← ee_nf_s hn nb 2]
    exact s2
  · have nf := (ee_nf_n (tx := tx) (p := p) hn).mpr nb
    rw [nf] at s2
    have kg := s1.1.ko ko
    obtain ⟨a1, a2, a3, a4, a5, a6, a7, a8, a9, a10, a11, a12, a13, a14, a15⟩ := ee_ccI (tk := tk) (k := ee_k tx n p) (v := ee_v tx n p) (fun z => ee_v_lt hn z)
    have E := fun m (hm : m < 2000) => (ee_ciE (m := m) a15 hm).mp
    refine S_gen ht hn tk x hx S0 ko nb (fun z => nov ⟨z.1, z.2.2.1, z.2.2.2.1, z.2.2.2.2⟩) ⟨by omega, by omega, by omega, by omega⟩ (fun z => absurd z (by omega)) (fun _ => ?_)
    refine C_j6 (d := d + 5) s3 _ ⟨by omega, by omega, by omega⟩ (fun z => n1 ?_) (fun z y => n2 z ?_) (fun z y => ?_) (fun z y => n4 z (a10 (E 1081 (by omega) y))) kg ⟨_, rfl, kg, fun z => absurd rfl z, fun _ => S_bad ht hn s1 s2 s6 ko ls nb K⟩
    · rcases z with z | z | z
      · exact Or.inl (a1 (E 1060 (by omega) z))
      · exact Or.inr (Or.inl (a2 (E 1061 (by omega) z)))
      · exact Or.inr (Or.inr (a3 (E 1070 (by omega) z)))
    · rcases y with y | y | y
      · exact Or.inl (a4 (E 1050 (by omega) y))
      · exact Or.inr (Or.inl (a5 (E 1051 (by omega) y)))
      · exact Or.inr (Or.inr (a6 (E 1052 (by omega) y)))
    · obtain ⟨b1, b2, b3⟩ := n3 z y
      exact ⟨fun u => b1 (a7 (E 1030 (by omega) u)), fun u => b2 (a8 (E 1020 (by omega) u)), fun u => b3 (a9 (E 1080 (by omega) u))⟩
/-- a token that can't stand where an atom is due -/
theorem S_bad1 {d : Nat} {h0 gB g : eb_H} {Q : Option Value → eb_H → Prop} {tx : Nat → Nat} {n p : Nat} {C W : List Nat} {dp ps br sd fr i : Nat} (ht : ∀ j, j < n → tx j < 256) (hn : n ≤ 900) (tk : Bool) (x : Int32) (hx : x = 0 ↔ ¬ tk = true) (S : ee_SS gB tx n g p C W dp ps br sd 1 fr i) (ko : eb_KO gB) (hb : sd < 3 ∧ ps ≤ 6 ∧ br ≤ 6) (hW : W.length ≤ 32) (hw : ee_nt W ≤ dp) (hd : dp ≤ 6) (hwx : ∀ x, x ∈ W → 101 ≤ x / 10 ∧ x < 2000) (n1 : ee_k tx n p ≠ 23 ∧ ¬ ee_wd tk (ee_k tx n p) < 9) (n2 : ee_k tx n p ≠ 35) (n3 : fr ≠ 0 → ee_k tx n p ≠ 16 ∧ ee_k tx n p ≠ 37) (K : ∀ g' i', ee_fw gB g' → (∃ p', p' ≤ n ∧ ee_XT g' tx n p' (some (ee_fa tx n p 2))) → ee_LS g' → ee_HD d h0 Q x g' i') : ee_HD d h0 Q x g i := by
  have S0 := S
  obtain ⟨s1, s2, s3, s4, s5, s6⟩ := S
  have ls := ee_LS_of s3 hW s4 (by omega) hw hd hwx
  by_cases nb : ee_k tx n p = 25
  · refine K g i s1 ⟨p, s6, ?_⟩ ls
    rw [← ee_nf_s hn nb 2]
    exact s2
  · have nf := (ee_nf_n (tx := tx) (p := p) hn).mpr nb
    rw [nf] at s2
    have kg := s1.1.ko ko
    obtain ⟨a1, a2, a3, a4, a5, a6, a7, a8, a9, a10, a11, a12, a13, a14, a15⟩ := ee_ccI (tk := tk) (k := ee_k tx n p) (v := ee_v tx n p) (fun z => ee_v_lt hn z)
    have E := fun m (hm : m < 2000) => (ee_ciE (m := m) a15 hm).mp
    refine S_gen ht hn tk x hx S0 ko nb (fun z => absurd z.2.1 (by omega)) ⟨by omega, by omega, by omega, by omega⟩ (fun _ => ?_) (fun z => absurd z (by omega))
    refine C_o4 (d := d + 5) _ ?_ ?_ kg ⟨_, rfl, kg, fun z => absurd rfl z, fun _ => S_bad ht hn s1 s2 s6 ko ls nb K⟩
    · rcases a15 with z | z
      · refine Or.inr ?_
        rw [ee_ci_n z]
        refine nI_lt (a := 1005) ?_ (by omega)
        refine Classical.byContradiction fun u => ?_
        rcases a14 (by omega) with y | y
        · exact n1.1 y
        · exact n1.2 y
      · refine Or.inl ?_
        rw [z]
        decide
    · rintro (z | ⟨z, y⟩)
      · exact n2 (a11 (E 1011 (by omega) z))
      · have fr0 : fr ≠ 0 := fun u => z (by rw [s3.2.2.2.2.2.2.2, u]; rfl)
        rcases y with y | y
        · exact (n3 fr0).1 (a12 (E 1040 (by omega) y))
        · exact (n3 fr0).2 (a13 (E 1010 (by omega) y))
end EBSIM
