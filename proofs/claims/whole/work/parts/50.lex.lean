section EBLEX
variable {L : Nat} {xs : Nat → Int32}
/-! ===== the text, cut into words, numbers and signs ===== -/
def ee_sg (c : Nat) : Nat := [59, 58, 43, 45, 42, 40, 41, 91, 93, 61, 60, 62].findIdx (fun x => x == c)
/-- 4 blank, 1 word, 2 number, 3 sign, 5 else; 0 behind the end -/
def ee_sc (c : Nat) : Nat := if c = 10 ∨ c = 32 then 4 else if 97 ≤ c ∧ c ≤ 122 then 1 else if 48 ≤ c ∧ c ≤ 57 then 2 else if ee_sg c < 12 then 3 else 5
def ee_so (tx : Nat → Nat) (n p : Nat) : Nat := if p < n then ee_sc (tx p) else 0
def ee_run (so : Nat → Nat) (s : Nat) : Nat → Nat → Nat
  | 0, p => p
  | f + 1, p => if so p = s then ee_run so s f (p + 1) else p
theorem ee_run_ge {so : Nat → Nat} {s : Nat} : ∀ f p, p ≤ ee_run so s f p
  | 0, p => Nat.le_refl _
  | f + 1, p => by
    show p ≤ if so p = s then ee_run so s f (p + 1) else p
    split
    · have := ee_run_ge (so := so) (s := s) f (p + 1)
      omega
    · exact Nat.le_refl _
theorem ee_run_in {so : Nat → Nat} {s : Nat} : ∀ f p i, p ≤ i → i < ee_run so s f p → so i = s
  | 0, p, i, h1, h2 => by
    have h2 : i < p := h2
    omega
  | f + 1, p, i, h1, h2 => by
    have h2 : i < if so p = s then ee_run so s f (p + 1) else p := h2
    by_cases e : so p = s
    · rw [if_pos e] at h2
      by_cases z : i = p
      · rw [z]; exact e
      · exact ee_run_in f (p + 1) i (by omega) h2
    · rw [if_neg e] at h2
      omega
theorem ee_run_end {so : Nat → Nat} {s n : Nat} (hs : s ≠ 0) (h0 : ∀ p, n ≤ p → so p = 0) : ∀ f p, n + 1 ≤ p + f → so (ee_run so s f p) ≠ s ∧ ee_run so s f p ≤ max p n
  | 0, p, h => by
    refine ⟨fun z => hs ?_, by show p ≤ _; omega⟩
    rw [← z]
    exact h0 p (by omega)
  | f + 1, p, h => by
    show so (if so p = s then ee_run so s f (p + 1) else p) ≠ s ∧ (if so p = s then ee_run so s f (p + 1) else p) ≤ max p n
    by_cases e : so p = s
    · rw [if_pos e]
      have pn : p < n := by
        refine Classical.byContradiction fun z => hs ?_
        rw [← e]
        exact h0 p (by omega)
      have := ee_run_end hs h0 f (p + 1) (by omega)
      refine ⟨this.1, ?_⟩
      omega
    · rw [if_neg e]
      exact ⟨e, by omega⟩
theorem ee_run_0 {so : Nat → Nat} {s p : Nat} (h : so p ≠ s) : ∀ f, ee_run so s f p = p
  | 0 => rfl
  | f + 1 => if_neg h
theorem ee_run_1 {so : Nat → Nat} {s p f : Nat} (h : so p = s) : ee_run so s (f + 1) p = ee_run so s f (p + 1) := if_pos h
/-- more fuel changes nothing -/
theorem ee_run_f {so : Nat → Nat} {s n : Nat} (hs : s ≠ 0) (h0 : ∀ p, n ≤ p → so p = 0) : ∀ f f' p, n + 1 ≤ p + f → n + 1 ≤ p + f' → ee_run so s f p = ee_run so s f' p
  | 0, f', p, h, _ => (ee_run_0 (fun z => hs (by rw [← z]; exact h0 p (by omega))) f').symm
  | f + 1, 0, p, _, h => ee_run_0 (fun z => hs (by rw [← z]; exact h0 p (by omega))) (f + 1)
  | f + 1, f' + 1, p, h, h' => by
    by_cases e : so p = s
    · rw [ee_run_1 e, ee_run_1 e]
      exact ee_run_f hs h0 f f' (p + 1) (by omega) (by omega)
    · rw [ee_run_0 e, ee_run_0 e]
def ee_b (tx : Nat → Nat) (n p : Nat) : Nat := ee_run (ee_so tx n) 4 901 p
def ee_eb (tx : Nat → Nat) (n b : Nat) : Nat := if ee_so tx n b = 0 then b else if ee_so tx n b = 1 ∨ ee_so tx n b = 2 then ee_run (ee_so tx n) (ee_so tx n b) 901 (b + 1) else b + 1
def ee_e (tx : Nat → Nat) (n p : Nat) : Nat := ee_eb tx n (ee_b tx n p)
def ee_vn (tx : Nat → Nat) (b : Nat) : Nat → Nat
  | 0 => 0
  | k + 1 => 10 * ee_vn tx b k + (tx (b + k) - 48)
theorem ee_so_0 (tx : Nat → Nat) (n : Nat) : ∀ p, n ≤ p → ee_so tx n p = 0 := fun p h => if_neg (by omega)
theorem ee_sc_n0 (c : Nat) : ee_sc c ≠ 0 ∧ ee_sc c < 6 := by
  unfold ee_sc
  split
  · omega
  · split
    · omega
    · split
      · omega
      · split <;> omega
theorem ee_so_n {tx : Nat → Nat} {n p : Nat} : ee_so tx n p = 0 ↔ n ≤ p := by
  constructor
  · intro h
    refine Classical.byContradiction fun z => ?_
    unfold ee_so at h
    rw [if_pos (by omega)] at h
    exact (ee_sc_n0 _).1 h
  · exact ee_so_0 tx n p
theorem ee_b_n4 (tx : Nat → Nat) {n p : Nat} (hn : n ≤ 900) : ee_so tx n (ee_b tx n p) ≠ 4 ∧ ee_b tx n p ≤ max p n ∧ p ≤ ee_b tx n p := by
  have := ee_run_end (so := ee_so tx n) (s := 4) (n := n) (by decide) (ee_so_0 tx n) 901 p (by omega)
  exact ⟨this.1, this.2, ee_run_ge 901 p⟩
theorem ee_eb_le (tx : Nat → Nat) {n b : Nat} (hn : n ≤ 900) (hb : b ≤ n) : ee_eb tx n b ≤ n ∧ b ≤ ee_eb tx n b ∧ (ee_so tx n b ≠ 0 → b < ee_eb tx n b) := by
  unfold ee_eb
  by_cases z : ee_so tx n b = 0
  · rw [if_pos z]
    exact ⟨hb, Nat.le_refl _, fun y => absurd z y⟩
  · have bn : b < n := by
      refine Classical.byContradiction fun u => z (ee_so_0 tx n b (by omega))
    rw [if_neg z]
    by_cases y : ee_so tx n b = 1 ∨ ee_so tx n b = 2
    · rw [if_pos y]
      have h1 := ee_run_end (so := ee_so tx n) (s := ee_so tx n b) (n := n) z (ee_so_0 tx n) 901 (b + 1) (by omega)
      have h2 := ee_run_ge (so := ee_so tx n) (s := ee_so tx n b) 901 (b + 1)
      exact ⟨by omega, by omega, fun _ => by omega⟩
    · rw [if_neg y]
      exact ⟨by omega, by omega, fun _ => by omega⟩
theorem ee_e_le (tx : Nat → Nat) {n p : Nat} (hn : n ≤ 900) (hp : p ≤ n) : ee_e tx n p ≤ n ∧ p ≤ ee_b tx n p ∧ ee_b tx n p ≤ n ∧ ee_b tx n p ≤ ee_e tx n p := by
  obtain ⟨_, h1, h2⟩ := ee_b_n4 tx (p := p) hn
  obtain ⟨h3, h4, _⟩ := ee_eb_le tx (b := ee_b tx n p) hn (by omega)
  exact ⟨h3, h2, by omega, h4⟩
/-! the class's tape -/
theorem ee_c255 : ∀ c, c < 256 → (nI c).toInt8.toInt32 &&& 255 = nI c := by decide +kernel
theorem ee_ch {c : Nat} (h : c < 256) : ((nI c).toUInt32 % 65536).toInt32 = nI c := by
  rw [pk_char, pk_tn (by omega), Nat.mod_eq_of_lt (by omega)]
theorem ee_ixo : ∀ c, c < 256 → (eb_ixo 3 (nI c) < 0 ↔ ¬ ee_sg c < 12) := by decide +kernel
def ee_TX (h : eb_H) (tx : Nat → Nat) (n : Nat) : Prop := (∀ j, j < n → eb_I h s_tape_text j = (nI (tx j)).toInt8.toInt32) ∧ eb_I h s_tape 2 = nI n
theorem C_sor {d : Nat} {h : eb_H} {Q : Option Value → eb_H → Prop} {tx : Nat → Nat} {n : Nat} (ht : ∀ j, j < n → tx j < 256) (hn : n ≤ 900) (t : ee_TX h tx n) (p : Nat) (hp : p ≤ 900) (ko : eb_KO h) (q : Q (some (.int (nI (ee_so tx n p)))) h) : eb_Ct (d + 5) 70 [.ref s_tape, .int (nI p)] h Q := by
  refine T_X7_sortAt (d := d + 4) _ ko ?_
  rw [t.2, nI_leI (by omega) (by omega), eb_cln (n := p) (by omega)]
  refine ⟨fun z => absurd z (nI_pos (by omega)), fun _ => ⟨fun z => ?_, fun z => ?_⟩⟩
  · rw [ee_so_0 tx n p z] at q
    exact q
  · have pn : p < n := by omega
    have cl := ht p pn
    have es : ee_so tx n p = ee_sc (tx p) := if_pos pn
    rw [t.1 p pn, ee_c255 _ cl, ee_ch cl]
    rw [es] at q
    have ix := ee_ixo (tx p) cl
    have e10 : nI (tx p) = (10 : Int32) ↔ tx p = 10 := nI_eq (b := 10) (by omega) (by omega)
    have e32 : nI (tx p) = (32 : Int32) ↔ tx p = 32 := nI_eq (b := 32) (by omega) (by omega)
    have l97 : nI (tx p) < (97 : Int32) ↔ tx p < 97 := nI_ltI (b := 97) (by omega) (by omega)
    have l48 : nI (tx p) < (48 : Int32) ↔ tx p < 48 := nI_ltI (b := 48) (by omega) (by omega)
    have g122 : (122 : Int32) < nI (tx p) ↔ 122 < tx p := nI_ltI (a := 122) (by omega) (by omega)
    have g57 : (57 : Int32) < nI (tx p) ↔ 57 < tx p := nI_ltI (a := 57) (by omega) (by omega)
    rw [e10, e32, l97, l48, g122, g57]
    have sgn : ¬ (tx p = 10 ∨ tx p = 32) → ¬ (97 ≤ tx p ∧ tx p ≤ 122) → ¬ (48 ≤ tx p ∧ tx p ≤ 57) → eb_Ct (d + 4) 291 [.ref (eb_mk 3 21 0), .int (nI (tx p))] h (fun r h9 => ∃ y10, r = some (.int y10) ∧ eb_KO h9 ∧ Q (some (.int (if y10 < 0 then 5 else 3 : Int32))) h9) := fun a1 a2 a3 => by
      refine C_indexOf (d := d) 3 (by decide) _ ko ⟨_, rfl, ko, ?_⟩
      unfold ee_sc at q
      rw [if_neg a1, if_neg a2, if_neg a3] at q
      by_cases y : ee_sg (tx p) < 12
      · rw [if_pos y] at q
        rw [if_neg (fun u => ix.mp u y)]
        exact q
      · rw [if_neg y] at q
        rw [if_pos (ix.mpr y)]
        exact q
    refine ⟨fun _ => ⟨vp_in_nI (by omega) (by omega), fun u => ?_, fun u => ⟨fun u2 => ⟨fun u3 => ⟨fun u4 => sgn (by omega) (by omega) (by omega), fun u4 => ⟨fun u5 => sgn (by omega) (by omega) (by omega), fun u5 => ?_⟩⟩, fun u3 => ⟨fun u4 => ⟨fun u5 => absurd u5 (by omega), fun u5 => ⟨fun u6 => sgn (by omega) (by omega) (by omega), fun u6 => absurd u6 (by omega)⟩⟩, fun u4 => ?_⟩⟩, fun u2 => ?_⟩⟩, fun u => absurd (nI_lt (b := 900) (by omega) (by omega)) u⟩
    · unfold ee_sc at q
      rw [if_pos (by omega)] at q
      exact q
    · unfold ee_sc at q
      rw [if_neg (by omega), if_neg (by omega), if_pos (by omega)] at q
      exact q
    · unfold ee_sc at q
      rw [if_neg (by omega), if_pos (by omega)] at q
      exact q
    · unfold ee_sc at q
      rw [if_pos (by omega)] at q
      exact q
end EBLEX
