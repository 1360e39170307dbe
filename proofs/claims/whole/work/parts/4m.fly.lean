section EBFLY
variable {L : Nat} {xs : Nat → Int32}
/-! ===== all flights at once: rows of amounts, as the class lays them ===== -/
def ed_sd (q : Nat) : Nat := 64 * (q % 16) + q / 16
theorem ed_sd_cd {n : Nat} (h : n < 1024) : ed_sd (ec_cd n) = n := by unfold ed_sd ec_cd; omega
theorem ed_cd_sd {q : Nat} (h : q < 1024) : ec_cd (ed_sd q) = q := by unfold ed_sd ec_cd; omega
theorem ed_cdm {n : Nat} (h : n < 1024) : ec_cd n % 16 = n / 64 := by
  unfold ec_cd
  rw [Nat.mul_add_mod, Nat.mod_eq_of_lt (by omega)]
def ed_nxc (V : eb_Va) (s : eb_St) (D : Nat) (st : Bool) (q y : Nat) : Option Nat := match ec_g V s D (ed_sd q) y with
  | some m => some (ec_cd m)
  | none => if st = true then some q else none
def ed_jn (sort : Int32) (x0 x2 : Int64) (y c : Nat) : Int64 := if sort = 3 then x0 &&& (x2 ||| ((1 : Int64) <<< ((nI c).toInt64 &&& 63))) else if sort = 2 then (if x0 = (-1) then ((4 : Int64) * x2) + (nI y).toInt64 else (if (((4 : Int64) * x2) + (nI y).toInt64) < x0 then ((4 : Int64) * x2) + (nI y).toInt64 else x0)) else x0 + x2
def ed_o1 (nx : Nat → Nat → Option Nat) (jn : Int64 → Int64 → Nat → Nat → Int64) (A : Nat → Int64) (q : Nat) (B : Nat → Int64) (y : Nat) : Nat → Int64 := match nx q y with
  | some t => fun j => if j = t then jn (B t) (A q) y (t % 16) else B j
  | none => B
def ed_on (nx : Nat → Nat → Option Nat) (jn : Int64 → Int64 → Nat → Nat → Int64) (A : Nat → Int64) (q : Nat) (B : Nat → Int64) : Nat → (Nat → Int64)
  | 0 => B
  | y + 1 => ed_o1 nx jn A q (ed_on nx jn A q B y) y
def ed_al (nx : Nat → Nat → Option Nat) (jn : Int64 → Int64 → Nat → Nat → Int64) (no : Int64) (A : Nat → Int64) : Nat → (Nat → Int64)
  | 0 => fun _ => no
  | k + 1 => if A k = no then ed_al nx jn no A k else ed_on nx jn A k (ed_al nx jn no A k) 4
def ed_it (nx : Nat → Nat → Option Nat) (jn : Int64 → Int64 → Nat → Nat → Int64) (no : Int64) (A0 : Nat → Int64) : Nat → (Nat → Int64)
  | 0 => A0
  | n + 1 => ed_al nx jn no (ed_it nx jn no A0 n) 1024
/-- only cells of the valley are come to -/
theorem ed_itV {nx : Nat → Nat → Option Nat} {jn : Int64 → Int64 → Nat → Nat → Int64} {no : Int64} {A0 : Nat → Int64} {P : Nat → Prop} (hx : ∀ q y t, P q → nx q y = some t → P t) (h0 : ∀ q, A0 q ≠ no → P q) : ∀ n q, ed_it nx jn no A0 n q ≠ no → P q := by
  have on : ∀ (A B : Nat → Int64) (k : Nat), P k → (∀ q, B q ≠ no → P q) → ∀ y q, ed_on nx jn A k B y q ≠ no → P q := by
    intro A B k pk hB y
    induction y with
    | zero => exact hB
    | succ y ih =>
      intro q hq
      have hq : ed_o1 nx jn A k (ed_on nx jn A k B y) y q ≠ no := hq
      unfold ed_o1 at hq
      cases hn : nx k y with
      | none => rw [hn] at hq; exact ih q hq
      | some t =>
        rw [hn] at hq
        dsimp only at hq
        by_cases e : q = t
        · rw [e]; exact hx k y t pk hn
        · rw [if_neg e] at hq; exact ih q hq
  have al : ∀ (A : Nat → Int64), (∀ q, A q ≠ no → P q) → ∀ k q, ed_al nx jn no A k q ≠ no → P q := by
    intro A hA k
    induction k with
    | zero => intro q hq; exact absurd rfl hq
    | succ k ih =>
      intro q hq
      have hq : (if A k = no then ed_al nx jn no A k else ed_on nx jn A k (ed_al nx jn no A k) 4) q ≠ no := hq
      by_cases e : A k = no
      · rw [if_pos e] at hq; exact ih q hq
      · rw [if_neg e] at hq; exact on A _ k (hA k e) ih 4 q hq
  intro n
  induction n with
  | zero => exact h0
  | succ n ih => exact al _ ih 1024
theorem C_jn {d : Nat} {h : eb_H} {Q : Option Value → eb_H → Prop} (x0 x2 : Int64) (sort : Int32) (y c : Nat) (ko : eb_KO h) (w : Q (some (.long (ed_jn sort x0 x2 y c))) h) : eb_Ct (d + 1) 20 [.long x0, .long x2, .int sort, .int (nI y), .int (nI c)] h Q := by
  unfold ed_jn at w
  refine T_X1_joined (d := d) _ _ _ _ _ ko ⟨fun z => ⟨fun z2 => ?_, fun z2 => ?_⟩, fun z => ?_⟩
  · rw [if_neg z, if_pos z2] at w; exact w
  · rw [if_neg z, if_neg z2] at w; exact w
  · rw [if_pos z] at w; exact w
theorem ed_a15 {t : Nat} (h : t < 1024) : nI t &&& 15 = nI (t % 16) := pk_andN (by omega) 4 (by decide)
theorem C_caq {d : Nat} {h : eb_H} {Q : Option Value → eb_H → Prop} {V : eb_Va} {s : eb_St} (ok : eb_okV V) (os : eb_okS V s) (D : Nat) (hD : D < 65536) (fl : ec_FL V s D h) (q way : Nat) (hq : q < 1024) (hc : q % 16 < V.R * V.W) (hw : way < 4) (ko : eb_KO h) (w : ∀ h', ec_fr ec_fv2 h h' → ec_FL V s D h' → Q (some (.int (ec_oi ((ec_g V s D (ed_sd q) way).map ec_cd)))) h') : eb_Ct (d + 4) 9 [.ref s_flights, .int (nI q), .int (nI way)] h Q := by
  have := C_ca (d := d) ok os D hD fl (q % 16) (q / 16) way hc (by omega) hw ko w
  rw [show 16 * (q / 16) + q % 16 = q by omega] at this
  exact this
/-- the two rows of amounts -/
def ed_AM (h : eb_H) (r r2 : Nat) (A B : Nat → Int64) : Prop := (eb_R h s_flights 10 = some r ∧ eb_R h s_flights 11 = some r2) ∧ ((r = s_flights_amounts0 ∧ r2 = s_flights_others0) ∨ (r = s_flights_others0 ∧ r2 = s_flights_amounts0)) ∧ (∀ q, q < 1024 → eb_J h r q = A q) ∧ ∀ q, q < 1024 → eb_J h r2 q = B q
theorem ed_r2 {r r2 : Nat} (a : (r = s_flights_amounts0 ∧ r2 = s_flights_others0) ∨ (r = s_flights_others0 ∧ r2 = s_flights_amounts0)) : (eb_kd r = 14 ∧ eb_kd r2 = 14) ∧ (eb_ln r = 1024 ∧ eb_ln r2 = 1024) ∧ (r ≠ r2) ∧ (ec_fs r ∧ ec_fs r2) ∧ (s_flights ≠ r ∧ s_flights ≠ r2) ∧ (s_flights_state ≠ r ∧ s_flights_state ≠ r2) := by
  rcases a with ⟨rfl, rfl⟩ | ⟨rfl, rfl⟩
  · refine ⟨by decide, by decide, by decide, ?_, by decide, by decide⟩
    unfold ec_fs eb_ix s_flights_amounts0 s_flights_others0; omega
  · refine ⟨by decide, by decide, by decide, ?_, by decide, by decide⟩
    unfold ec_fs eb_ix s_flights_amounts0 s_flights_others0; omega
theorem ed_AM.fr {P : Nat → Prop} {h h' : eb_H} {r r2 : Nat} {A B : Nat → Int64} (a : ed_AM h r r2 A B) (F : ec_fr P h h') : ed_AM h' r r2 A B := by
  unfold ed_AM
  rw [F.R, F.2.1]
  exact a
theorem ec_ff.sJ {h h1 : eb_H} (a : ec_ff h h1) {i k : Nat} {v : Int64} (z : ec_fs i) : ec_ff h (eb_sJ h1 i k v) := ⟨a.1, a.2.1, a.2.2.1.sJ (fun y => y z), a.2.2.2⟩
theorem C_on {d : Nat} {h0 h : eb_H} {Q : Option Value → eb_H → Prop} {V : eb_Va} {s : eb_St} (ok : eb_okV V) (os : eb_okS V s) (D : Nat) (hD : D < 65536) (fl : ec_FL V s D h) (sort : Int32) (st : Bool) (hst : st = true ↔ sort = 1) {r r2 : Nat} {A B : Nat → Int64} (am : ed_AM h r r2 A B) (qc : Nat) (hq : qc < 1024) (hv : qc % 16 < V.R * V.W) (ff : ec_ff h0 h) (q : ∀ h', ec_ff h0 h' → ec_FL V s D h' → ed_AM h' r r2 A (ed_on (ed_nxc V s D st) (ed_jn sort) A qc B 4) → Q none h') : eb_Ct (d + 5) 19 [.ref s_flights, .int (nI qc), .int sort] h Q := by
  obtain ⟨r1, r2', r3, r4, r5, r6, r7, r8, r9, r10, _⟩ := ok.RW
  obtain ⟨⟨k1, k2⟩, ⟨l1, l2⟩, ne, ⟨s1, s2⟩, ⟨f1, f2⟩, _⟩ := ed_r2 am.2.1
  have key : ∀ (m y : Nat) (g : eb_H), y + m = 4 → ec_ff h0 g → ec_FL V s D g → ed_AM g r r2 A (ed_on (ed_nxc V s D st) (ed_jn sort) A qc B y) → eb_Sn (d + 5) m_X1_flyOn h 2 [(0, .ref s_flights), (1, .int (nI qc)), (2, .int sort), (3, .int (nI y))] [] g Q := by
    intro m
    induction m with
    | zero =>
      intro y g hy fg flg ag
      have hy : y = 4 := by omega
      subst hy
      exact b_X1_flyOn_2 (d := d + 4) _ _ _ fg.1 ⟨fun _ => q g fg flg ag, fun z => absurd (by decide) z⟩
    | succ m ih =>
      intro y g hy fg flg ag
      refine b_X1_flyOn_2 (d := d + 4) _ _ _ fg.1 ⟨fun z => absurd z (nI_ge (a := y) (b := 4) (by omega) (by omega)), fun _ => ?_⟩
      rw [nI_1]
      refine C_caq (d := d) ok os D hD flg qc y hq hv (by omega) fg.1 (fun h2 F2 fl2 => ⟨_, rfl, F2.ko fg.1, ?_⟩)
      have ag2 := ag.fr F2
      have fg2 := fg.gf F2.gr ec_fs_v
      have upd : ∀ t, t < 1024 → ed_nxc V s D st qc y = some t → ∃ r9, eb_R h2 s_flights 11 = some r9 ∧ eb_kd r9 = 14 ∧ (vp_in (nI t) (eb_ln r9)) ∧ ∃ r13, eb_R h2 s_flights 10 = some r13 ∧ eb_kd r13 = 14 ∧ (vp_in (nI qc) (eb_ln r13)) ∧ eb_Ct (d + 4) 20 [.long (eb_J h2 r9 (nI t).toNatClampNeg), .long (eb_J h2 r13 (nI qc).toNatClampNeg), .int sort, .int (nI y), .int (nI t &&& 15)] h2 (fun r' h17 => ∃ y18, r' = some (.long y18) ∧ eb_KO h17 ∧ (vp_in (nI t) (eb_ln r9)) ∧ eb_Sn (d + 5) m_X1_flyOn h 2 [(0, .ref s_flights), (1, .int (nI qc)), (2, .int sort), (3, .int (nI (y + 1)))] [] (eb_sJ h17 r9 (nI t).toNatClampNeg y18) Q) := by
        intro t ht hn
        refine ⟨r2, ag2.1.2, k2, by rw [l2]; exact vp_in_nI ht (by omega), r, ag2.1.1, k1, by rw [l1]; exact vp_in_nI hq (by omega), ?_⟩
        rw [eb_cln (n := t) (by omega), eb_cln (n := qc) (by omega), ag2.2.2.1 qc hq, ag2.2.2.2 t ht, ed_a15 ht]
        refine C_jn (d := d + 3) _ _ _ _ _ fg2.1 ⟨_, rfl, fg2.1, by rw [l2]; exact vp_in_nI ht (by omega), ?_⟩
        refine ih (y + 1) _ (by omega) (fg2.sJ s2) fl2 ⟨ag2.1, ag2.2.1, fun q' hq' => ?_, fun q' hq' => ?_⟩
        · rw [ec_J_sJ' ne]; exact ag2.2.2.1 q' hq'
        · rw [eb_J_sJ]
          show _ = ed_o1 (ed_nxc V s D st) (ed_jn sort) A qc (ed_on (ed_nxc V s D st) (ed_jn sort) A qc B y) y q'
          unfold ed_o1
          rw [hn]
          dsimp only
          by_cases e : q' = t
          · rw [if_pos e, if_pos e]
          · rw [if_neg e, if_neg e]; exact ag2.2.2.2 q' hq'
      have skip : ed_nxc V s D st qc y = none → eb_Sn (d + 5) m_X1_flyOn h 2 [(0, .ref s_flights), (1, .int (nI qc)), (2, .int sort), (3, .int (nI (y + 1)))] [] h2 Q := by
        intro hn
        refine ih (y + 1) h2 (by omega) fg2 fl2 ?_
        have e : ed_on (ed_nxc V s D st) (ed_jn sort) A qc B (y + 1) = ed_on (ed_nxc V s D st) (ed_jn sort) A qc B y := by
          show ed_o1 (ed_nxc V s D st) (ed_jn sort) A qc (ed_on (ed_nxc V s D st) (ed_jn sort) A qc B y) y = _
          unfold ed_o1
          rw [hn]
        rw [e]
        exact ag2
      cases hg : ec_g V s D (ed_sd qc) y with
      | none =>
        have n1 : ¬ ((¬ ((-1 : Int32) < 0)) ∧ (¬ ((1024 : Int32) ≤ -1))) := fun z => z.1 (by decide)
        refine ⟨fun z => absurd rfl z, fun _ => ⟨fun z => ⟨fun _ => skip ?_, fun u => absurd u n1⟩, fun z => ⟨fun u => absurd ⟨nI_pos (by omega), nI_ge (a := qc) (b := 1024) hq (by omega)⟩ u, fun _ => upd qc hq ?_⟩⟩⟩
        · unfold ed_nxc
          rw [hg]
          dsimp only
          rw [if_neg (fun u => z (hst.mp u))]
        · unfold ed_nxc
          rw [hg]
          dsimp only
          rw [if_pos (hst.mpr z)]
      | some m0 =>
        have hm0 := ec_g_lt ok os (n := ed_sd qc) (by unfold ed_sd; omega) hg
        have c0 := ec_cd_lt (show m0 < 1024 by omega)
        have yn : ec_oi ((some m0).map ec_cd) = nI (ec_cd m0) := rfl
        rw [yn]
        refine ⟨fun _ => ⟨fun u => absurd ⟨nI_pos (by omega), nI_ge (a := ec_cd m0) (b := 1024) c0 (by omega)⟩ u, fun _ => upd (ec_cd m0) c0 ?_⟩, fun z => absurd z (ec_m1 (by omega))⟩
        unfold ed_nxc
        rw [hg]
  exact T_X1_flyOn (d := d + 4) _ _ ff.1 (key 4 0 h (by omega) ff fl am)
theorem C_stv {d : Nat} {h : eb_H} {Q : Option Value → eb_H → Prop} {w : eb_Wo} (p : PX w h) (ko : eb_KO h) (ok : eb_okW w) (v : Nat) (ev : eb_R h s_EB 2 = some v) (q : ∀ h', ec_ff h h' → ec_FL w.va w.now w.now.D h' → Q none h') : eb_Ct (d + 2) 8 [.ref s_flights, .ref v, .ref s_now] h Q := by
  obtain ⟨v', ev', _, ct⟩ := C_start (d := d) (Q := Q) p ko ok (fun _ h' _ ff fl => q h' ff fl)
  rw [ev] at ev'
  cases ev'
  exact ct
theorem ec_FL.sR {V : eb_Va} {s : eb_St} {D : Nat} {h : eb_H} (f : ec_FL V s D h) {k : Nat} (hk : k ≠ 0) (x : Option Nat) : ec_FL V s D (eb_sR h s_flights k x) := by
  obtain ⟨⟨v, ev, pv⟩, ps, e2, ca⟩ := f
  refine ⟨⟨v, ?_, pv.mv (eb_same.rfl.sR (fun z => ?_))⟩, ps.mv rfl (eb_R_sRn (by decide)) rfl, e2, ca⟩
  · rw [eb_R_sR, if_neg (fun e => hk e.symm)]; exact ev
  · unfold eb_isV eb_ix s_flights at z; omega
/-- what stands in a row where nothing comes; where it begins -/
def ed_non (sort : Int32) : Int64 := if sort = (2 : Int32) then (-1) else (if sort = (3 : Int32) then (-1) else 0)
def ed_sta (sort : Int32) : Int64 := if sort = (2 : Int32) then 0 else (if sort = (3 : Int32) then 0 else 1)
def ed_fy (w : eb_Wo) (sort : Int32) (st : Bool) : Nat → (Nat → Int64) := ed_it (ed_nxc w.va w.now w.now.D st) (ed_jn sort) (ed_non sort) (fun q => if q = ec_cd (64 * w.now.b + w.now.e) then ed_sta sort else ed_non sort)
theorem ed_fyV {w : eb_Wo} (ok : eb_okW w) (sort : Int32) (st : Bool) : ∀ n q, ed_fy w sort st n q ≠ ed_non sort → q < 1024 ∧ q % 16 < w.va.R * w.va.W := by
  obtain ⟨r1, r2, r3, r4, r5, r6, r7, r8, r9, r10, _⟩ := ok.va.RW
  obtain ⟨n1, n2, n3, n4, n5, n6, n7⟩ := ok.now.N ok.va
  refine ed_itV (P := fun q => q < 1024 ∧ q % 16 < w.va.R * w.va.W) (fun q y t pq hn => ?_) (fun q hq => ?_)
  · unfold ed_nxc at hn
    cases hg : ec_g w.va w.now w.now.D (ed_sd q) y with
    | none =>
      rw [hg] at hn
      dsimp only at hn
      split at hn
      · cases hn; exact pq
      · cases hn
    | some m0 =>
      rw [hg] at hn
      cases hn
      have hm0 := ec_g_lt ok.va ok.now (n := ed_sd q) (by unfold ed_sd; omega) hg
      have := ed_cdm (show m0 < 1024 by omega)
      exact ⟨ec_cd_lt (by omega), by omega⟩
  · by_cases e : q = ec_cd (64 * w.now.b + w.now.e)
    · rw [e]
      have := ed_cdm (show 64 * w.now.b + w.now.e < 1024 by omega)
      exact ⟨ec_cd_lt (by omega), by omega⟩
    · rw [if_neg e] at hq
      exact absurd rfl hq
/-- the class: all flights of n steps -/
theorem C_fa {d : Nat} {h : eb_H} {Q : Option Value → eb_H → Prop} {w : eb_Wo} (p : PX w h) (ko : eb_KO h) (ok : eb_okW w) (n : Nat) (hn : n ≤ 12) (sort : Int32) (st : Bool) (hst : st = true ↔ sort = 1) (v : Nat) (ev : eb_R h s_EB 2 = some v) (q : ∀ h' r, ec_ff h h' → (eb_R h' s_flights 10 = some r ∧ eb_kd r = 14 ∧ eb_ln r = 1024) → (∀ q, q < 1024 → eb_J h' r q = ed_fy w sort st n q) → Q none h') : eb_Ct (d + 6) 18 [.ref s_flights, .ref v, .ref s_now, .int (nI n), .int sort] h Q := by
  obtain ⟨r1, r2, r3, r4, r5, r6, r7, r8, r9, r10, _⟩ := ok.va.RW
  obtain ⟨n1, n2, n3, n4, n5, n6, n7⟩ := ok.now.N ok.va
  obtain ⟨v', ev', pv⟩ := p.va
  have kv : eb_kd v = 9 := by
    rw [ev] at ev'
    cases ev'
    exact pv.1.1
  -- the loops
  have outer : ∀ (m i : Nat) (g : eb_H) (r r2 : Nat) (B : Nat → Int64), i + m = n → ec_ff h g → ec_FL w.va w.now w.now.D g → ed_AM g r r2 (ed_fy w sort st i) B → eb_Sn (d + 6) m_X1_flyAll h 65 [(0, .ref s_flights), (3, .int (nI n)), (4, .int sort), (5, .long (ed_non sort)), (7, .int (nI i))] [] g Q := by
    intro m
    induction m with
    | zero =>
      intro i g r r2 B hi fg flg ag
      obtain ⟨⟨k1, k2⟩, ⟨l1, l2⟩, _⟩ := ed_r2 ag.2.1
      have hi : i = n := by omega
      subst hi
      exact b_X1_flyAll_65 (d := d + 4) _ _ _ _ fg.1 ⟨fun _ => q g r fg ⟨ag.1.1, k1, l1⟩ ag.2.2.1, fun z => absurd (nI_le (Nat.le_refl _) (by omega)) z⟩
    | succ m ih =>
      intro i g r r2 B hi fg flg ag
      obtain ⟨⟨k1, k2⟩, ⟨l1, l2⟩, ne, ⟨s1, s2⟩, ⟨f1, f2⟩, ⟨t1, t2⟩⟩ := ed_r2 ag.2.1
      refine b_X1_flyAll_65 (d := d + 4) _ _ _ _ fg.1 ⟨fun z => absurd z (nI_ge (by omega) (by omega)), fun _ => ⟨r2, ag.1.2, k2, ?_⟩⟩
      refine C_fillJ r2 _ k2 fg.1 (fun g1 sm nz fill => ⟨rfl, nz.ko fg.1, ?_⟩)
      have inner : ∀ (m k : Nat) (g : eb_H), k + m = 1024 → ec_ff h g → ec_FL w.va w.now w.now.D g → ed_AM g r r2 (ed_fy w sort st i) (ed_al (ed_nxc w.va w.now w.now.D st) (ed_jn sort) (ed_non sort) (ed_fy w sort st i) k) → eb_Sn (d + 6) m_X1_flyAll h 83 [(0, .ref s_flights), (3, .int (nI n)), (4, .int sort), (5, .long (ed_non sort)), (7, .int (nI i)), (8, .int (nI k))] [] g Q := by
        intro m
        induction m with
        | zero =>
          intro k g hk fg flg ag
          have hk : k = 1024 := by omega
          subst hk
          refine b_X1_flyAll_83 (d := d + 4) _ _ _ _ _ fg.1 ⟨fun _ => ⟨r, ag.1.1, k1, r2, ag.1.2, k2, ?_⟩, fun z => absurd (by decide) z⟩
          rw [nI_1]
          have ko2 : eb_KO (eb_sR (eb_sR g s_flights 10 (some r2)) s_flights 11 (some r)) := ko_sR (by decide) (ko_sR (by decide) fg.1)
          have e10 : eb_R (eb_sR (eb_sR g s_flights 10 (some r2)) s_flights 11 (some r)) s_flights 10 = some r2 := by rw [eb_R_sR, if_neg (by decide), eb_R_sR, if_pos rfl]
          have e11 : eb_R (eb_sR (eb_sR g s_flights 10 (some r2)) s_flights 11 (some r)) s_flights 11 = some r := by rw [eb_R_sR, if_pos rfl]
          have al : (r2 = s_flights_amounts0 ∧ r = s_flights_others0) ∨ (r2 = s_flights_others0 ∧ r = s_flights_amounts0) := by
            rcases ag.2.1 with x | x
            · exact Or.inr ⟨x.2, x.1⟩
            · exact Or.inl ⟨x.2, x.1⟩
          have nfs : ¬ (fun c => ¬ ec_fs c) s_flights := fun z => z (by unfold ec_fs eb_ix s_flights; omega)
          refine ih (i + 1) _ r2 r (ed_fy w sort st i) (by omega) ⟨ko2, fg.2.1, (fg.2.2.1.sR nfs).sR nfs, ?_⟩ ((flg.sR (by decide) _).sR (by decide) _) ⟨⟨e10, e11⟩, al, ag.2.2.2, ag.2.2.1⟩
          unfold eb_two
          rw [e10, e11]
          rcases al with ⟨x, y⟩ | ⟨x, y⟩
          · left; rw [x, y]; exact ⟨rfl, rfl⟩
          · right; rw [x, y]; exact ⟨rfl, rfl⟩
        | succ m ihk =>
          intro k g hk fg flg ag
          refine b_X1_flyAll_83 (d := d + 4) _ _ _ _ _ fg.1 ⟨fun z => absurd z (nI_ge (a := k) (b := 1024) (by omega) (by omega)), fun _ => ⟨r, ag.1.1, k1, by rw [l1]; exact vp_in_nI (by omega) (by omega), ?_⟩⟩
          rw [eb_cln (n := k) (by omega), ag.2.2.1 k (by omega), nI_1]
          refine ⟨fun z => ihk (k + 1) g (by omega) fg flg ?_, fun z => ?_⟩
          · have e : ed_al (ed_nxc w.va w.now w.now.D st) (ed_jn sort) (ed_non sort) (ed_fy w sort st i) (k + 1) = ed_al (ed_nxc w.va w.now w.now.D st) (ed_jn sort) (ed_non sort) (ed_fy w sort st i) k := if_pos z
            rw [e]
            exact ag
          · have e : ed_al (ed_nxc w.va w.now w.now.D st) (ed_jn sort) (ed_non sort) (ed_fy w sort st i) (k + 1) = ed_on (ed_nxc w.va w.now w.now.D st) (ed_jn sort) (ed_fy w sort st i) k (ed_al (ed_nxc w.va w.now w.now.D st) (ed_jn sort) (ed_non sort) (ed_fy w sort st i) k) 4 := if_neg z
            refine C_on (d := d) ok.va ok.now w.now.D n6 flg sort st hst ag k (by omega) (ed_fyV ok sort st i k z).2 fg (fun h' fg' fl' ag' => ⟨rfl, fg'.1, ihk (k + 1) h' (by omega) fg' fl' ?_⟩)
            rw [e]
            exact ag'
      have G : ec_gf (fun c => c = r2) g g1 := ⟨nz, sm⟩
      refine inner 1024 0 g1 (by omega) (fg.gf G (fun c z => by rw [z]; exact s2)) ?_ ⟨by rw [nz.2.2.2.2]; exact ag.1, ag.2.1, fun q' hq' => ?_, fun q' hq' => fill q' (by rw [l2]; exact hq')⟩
      · obtain ⟨⟨u, eu, pu⟩, ps, e2, ca⟩ := flg
        have nr : ∀ c, c ≠ r2 → eb_I g1 c = eb_I g c := fun c hc => (sm c hc).1
        have ixr : eb_ix r2 = 53 ∨ eb_ix r2 = 54 := by
          rcases ag.2.1 with x | x
          · rw [x.2]; right; decide
          · rw [x.2]; left; decide
        refine ⟨⟨u, by rw [nz.2.2.2.2]; exact eu, pu.mv (sm.weak (fun c z e => ?_))⟩, ps.mv (nr _ t2) (by rw [nz.2.2.2.2]) (nr _ (fun e => ?_)), by rw [nr _ f2]; exact e2, ?_⟩
        · rw [e] at z
          unfold eb_isV at z
          omega
        · rw [← e] at ixr
          unfold eb_ix s_flights_state at ixr
          omega
        · rw [nr _ (fun e => by rw [← e] at ixr; unfold eb_ix s_flights_verdicts at ixr; omega)]
          exact ca
      · rw [(sm r ne).2.1]; exact ag.2.2.1 q' hq'
  refine T_X1_flyAll (d := d + 4) v s_now _ _ kv ec_nowS.1.1 ko ?_
  refine C_stv (d := d + 3) p ko ok v ev (fun h1 ff fl => ⟨rfl, ff.1, ?_⟩)
  obtain ⟨r, r2, alt, e10, e11⟩ : ∃ r r2, ((r = s_flights_amounts0 ∧ r2 = s_flights_others0) ∨ (r = s_flights_others0 ∧ r2 = s_flights_amounts0)) ∧ eb_R h1 s_flights 10 = some r ∧ eb_R h1 s_flights 11 = some r2 := by
    rcases ff.2.2.2 with x | x
    · exact ⟨_, _, Or.inl ⟨rfl, rfl⟩, x.1, x.2⟩
    · exact ⟨_, _, Or.inr ⟨rfl, rfl⟩, x.1, x.2⟩
  obtain ⟨⟨k1, k2⟩, ⟨l1, l2⟩, ne, ⟨s1, s2⟩, ⟨f1, f2⟩, ⟨t1, t2⟩⟩ := ed_r2 alt
  refine ⟨r, e10, k1, C_fillJ r _ k1 ff.1 (fun g1 sm nz fill => ⟨rfl, nz.ko ff.1, r, by rw [nz.2.2.2.2]; exact e10, k1, ?_⟩)⟩
  have nr : ∀ c, c ≠ r → eb_I g1 c = eb_I h1 c := fun c hc => (sm c hc).1
  have ec : (16 : Int32) * (eb_I g1 s_flights_state 1) + (eb_I g1 s_flights_state 0) = nI (16 * w.now.e + w.now.b) := by
    rw [nr _ t1, fl.2.1.2.1, fl.2.1.1, n1, n2, show (16 : Int32) * nI w.now.e = nI (16 * w.now.e) from pk_mul 16 _, nI_add]
  have cs : ec_cd (64 * w.now.b + w.now.e) = 16 * w.now.e + w.now.b := by
    unfold ec_cd
    rw [(ec_sq n5).1, (ec_sq n5).2]
  have ei : (if (¬ (nI (16 * w.now.e + w.now.b) < 0)) ∧ (¬ ((1024 : Int32) ≤ nI (16 * w.now.e + w.now.b))) then nI (16 * w.now.e + w.now.b) else 0 : Int32) = nI (16 * w.now.e + w.now.b) := if_pos ⟨nI_pos (by omega), nI_ge (a := 16 * w.now.e + w.now.b) (b := 1024) (by omega) (by omega)⟩
  rw [ec, ei, eb_cln (n := 16 * w.now.e + w.now.b) (by omega)]
  refine ⟨by rw [l1]; exact vp_in_nI (by omega) (by omega), ?_⟩
  have G : ec_gf (fun c => c = r) h1 g1 := ⟨nz, sm⟩
  have ffg := (ff.gf G (fun c z => by rw [z]; exact s1)).sJ (i := r) (k := 16 * w.now.e + w.now.b) (v := (if sort = (2 : Int32) then 0 else (if sort = (3 : Int32) then 0 else 1) : Int64)) s1
  refine outer n 0 _ r r2 (eb_J g1 r2) (by omega) ffg ?_ ⟨by show eb_R g1 s_flights 10 = _ ∧ eb_R g1 s_flights 11 = _; rw [nz.2.2.2.2]; exact ⟨e10, e11⟩, alt, fun q' hq' => ?_, fun q' hq' => by rw [ec_J_sJ' (fun e => ne e.symm)]⟩
  · show ec_FL w.va w.now w.now.D g1
    obtain ⟨⟨u, eu, pu⟩, ps, e2, ca⟩ := fl
    have ixr : eb_ix r = 53 ∨ eb_ix r = 54 := by
      rcases alt with x | x
      · rw [x.1]; left; decide
      · rw [x.1]; right; decide
    refine ⟨⟨u, by rw [nz.2.2.2.2]; exact eu, pu.mv (sm.weak (fun c z e => ?_))⟩, ps.mv (nr _ t1) (by rw [nz.2.2.2.2]) (nr _ (fun e => ?_)), by rw [nr _ f1]; exact e2, ?_⟩
    · rw [e] at z
      unfold eb_isV at z
      omega
    · rw [← e] at ixr
      unfold eb_ix s_flights_state at ixr
      omega
    · rw [nr _ (fun e => by rw [← e] at ixr; unfold eb_ix s_flights_verdicts at ixr; omega)]
      exact ca
  · rw [eb_J_sJ]
    show _ = if q' = ec_cd (64 * w.now.b + w.now.e) then ed_sta sort else ed_non sort
    rw [cs]
    by_cases e : q' = 16 * w.now.e + w.now.b
    · rw [if_pos e, if_pos e]; rfl
    · rw [if_neg e, if_neg e]; exact fill q' (by rw [l1]; exact hq')
end EBFLY
