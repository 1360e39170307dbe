section EBMADE
variable {L : Nat} {xs : Nat → Int32}
def eS_0 : eb_S := es_nw (0, 0, [], []) (eb_nf 10)
def eS_r : eb_S := es_nw eS_0 (eb_nf 5)
def eS_Reader : eb_S := (es_sR (es_State (es_nw (es_sR (es_Valley (es_nw (es_sR (es_sR (es_LawReader (es_nw eS_r (eb_nf 3)) 1048579) 524293 0 (some 1048579)) 524293 1 (some 1572871)) (eb_nf 9)) 3670025) 524293 2 (some 3670025)) (eb_nf 6)) 5242886) 524293 3 (some 5242886))
theorem I_Reader {d : Nat} {h : eb_H} {Q : Option Value → eb_H → Prop} (E : eb_ini L xs eS_r h) (q : ∀ h', eb_ini L xs eS_Reader h' → Q none h') : eb_Ct (d + 3) 45 [.ref 524293] h Q := by
  refine T_X5_init (d := d + 2) 524293 (by decide) ?_
  intro r3 er3
  have er3 : r3 = 1048579 := (E.nx er3).trans (by decide +kernel)
  intro h1 eh1
  have E1 := E.nw eh1 (by decide) (by decide)
  refine I_LawReader (d := d) E1 (by rw [er3]; decide) (by rw [er3]; decide +kernel) (fun h5 E5 => ⟨rfl, ?_⟩)
  rw [er3] at E5
  intro h8 eh8
  rw [er3] at eh8
  have E8 := E5.sR eh8 (by decide +kernel)
  refine ⟨1048579, (E8.2.2.2.1 524293 0).trans (by decide +kernel), by decide, ?_⟩
  refine ⟨1572871, (E8.2.2.2.1 1048579 0).trans (by decide +kernel), by decide, ?_⟩
  intro h16 eh16
  have E16 := E8.sR eh16 (by decide +kernel)
  intro r20 er20
  have er20 : r20 = 3670025 := (E16.nx er20).trans (by decide +kernel)
  intro h18 eh18
  have E18 := E16.nw eh18 (by decide) (by decide)
  refine I_Valley (d := d + 1) E18 (by rw [er20]; decide) (by rw [er20]; decide +kernel) (fun h22 E22 => ⟨rfl, ?_⟩)
  rw [er20] at E22
  intro h25 eh25
  rw [er20] at eh25
  have E25 := E22.sR eh25 (by decide +kernel)
  intro r29 er29
  have er29 : r29 = 5242886 := (E25.nx er29).trans (by decide +kernel)
  intro h27 eh27
  have E27 := E25.nw eh27 (by decide) (by decide)
  refine I_State (d := d + 1) E27 (by rw [er29]; decide) (by rw [er29]; decide +kernel) (fun h31 E31 => ⟨rfl, ?_⟩)
  rw [er29] at E31
  intro h34 eh34
  rw [er29] at eh34
  have E34 := E31.sR eh34 (by decide +kernel)
  exact q _ E34
def eS_p : eb_S := (es_nw (es_sR (es_State (es_nw (es_sR (es_State (es_nw (es_sR (es_State (es_nw (es_sR (es_Valley (es_nw (es_sR (es_sR eS_Reader 10 0 (some 524293)) 10 1 (some 1572871)) (eb_nf 9)) 6291465) 10 2 (some 6291465)) (eb_nf 6)) 7864326) 10 3 (some 7864326)) (eb_nf 6)) 8912902) 10 4 (some 8912902)) (eb_nf 6)) 9961478) 10 5 (some 9961478)) (eb_nf 4))
def eS_Past : eb_S := (es_sR (es_State (es_nw (es_sR (es_State (es_nw (es_sR (es_State (es_nw (es_sR (es_State (es_nw (es_sR (es_State (es_nw (es_sR (es_State (es_nw (es_sR (es_State (es_nw (es_sR (es_State (es_nw (es_sR (es_State (es_nw (es_sR (es_State (es_nw (es_sI (es_sI (es_sR (es_nw eS_p 10) 11010052 0 (some 11534672)) 11010052 1 0) 11010052 2 0) (eb_nf 6)) 12058630) 11534672 0 (some 12058630)) (eb_nf 6)) 13107206) 11534672 1 (some 13107206)) (eb_nf 6)) 14155782) 11534672 2 (some 14155782)) (eb_nf 6)) 15204358) 11534672 3 (some 15204358)) (eb_nf 6)) 16252934) 11534672 4 (some 16252934)) (eb_nf 6)) 17301510) 11534672 5 (some 17301510)) (eb_nf 6)) 18350086) 11534672 6 (some 18350086)) (eb_nf 6)) 19398662) 11534672 7 (some 19398662)) (eb_nf 6)) 20447238) 11534672 8 (some 20447238)) (eb_nf 6)) 21495814) 11534672 9 (some 21495814))
theorem I_Past {d : Nat} {h : eb_H} {Q : Option Value → eb_H → Prop} (E : eb_ini L xs eS_p h) (q : ∀ h', eb_ini L xs eS_Past h' → Q none h') : eb_Ct (d + 2) 41 [.ref 11010052] h Q := by
  refine T_X4_init (d := d + 1) 11010052 (by decide) ?_
  intro r3 er3
  have er3 : r3 = 11534672 := (E.nx er3).trans (by decide +kernel)
  intro h1 eh1
  have E1 := E.nw eh1 (by decide) (by decide)
  intro h5 eh5
  rw [er3] at eh5
  have E5 := E1.sR eh5 (by decide +kernel)
  intro h7 eh7
  have E7 := E5.sI eh7 (by decide +kernel)
  intro h9 eh9
  have E9 := E7.sI eh9 (by decide +kernel)
  show eb_Sn (d + 1 + 1) m_X4_init h 25 [(0, .ref 11010052), (1, .int (nI 0))] [] _ Q
  refine b_X4_init_25 (d := d + 1) 11010052 (nI 0) (by decide) ⟨fun z => absurd z (by decide), fun _ => ⟨11534672, (E9.2.2.2.1 11010052 0).trans (by decide +kernel), by decide, ?_⟩⟩
  intro r er x ex
  have er : r = 12058630 := (E9.nx er).trans (by decide +kernel)
  have F0 := E9.nw ex (by decide) (by decide)
  refine I_State (d := d) F0 (by rw [er]; decide) (by rw [er]; decide +kernel) (fun y G0 => ⟨rfl, vp_in_nI (n := 0) (N := eb_ln 11534672) (by decide) (by decide), ?_⟩)
  intro z ez
  rw [er] at G0
  rw [er, eb_cln (n := 0) (by decide)] at ez
  have P0 := G0.sR ez (by decide +kernel)
  rw [show nI 0 + 1 = nI 1 from nI_add 0 1]
  clear ex ez er F0 G0
  refine b_X4_init_25 (d := d + 1) 11010052 (nI 1) (by decide) ⟨fun z => absurd z (by decide), fun _ => ⟨11534672, (P0.2.2.2.1 11010052 0).trans (by decide +kernel), by decide, ?_⟩⟩
  intro r er x ex
  have er : r = 13107206 := (P0.nx er).trans (by decide +kernel)
  have F1 := P0.nw ex (by decide) (by decide)
  refine I_State (d := d) F1 (by rw [er]; decide) (by rw [er]; decide +kernel) (fun y G1 => ⟨rfl, vp_in_nI (n := 1) (N := eb_ln 11534672) (by decide) (by decide), ?_⟩)
  intro z ez
  rw [er] at G1
  rw [er, eb_cln (n := 1) (by decide)] at ez
  have P1 := G1.sR ez (by decide +kernel)
  rw [show nI 1 + 1 = nI 2 from nI_add 1 1]
  clear ex ez er F1 G1
  refine b_X4_init_25 (d := d + 1) 11010052 (nI 2) (by decide) ⟨fun z => absurd z (by decide), fun _ => ⟨11534672, (P1.2.2.2.1 11010052 0).trans (by decide +kernel), by decide, ?_⟩⟩
  intro r er x ex
  have er : r = 14155782 := (P1.nx er).trans (by decide +kernel)
  have F2 := P1.nw ex (by decide) (by decide)
  refine I_State (d := d) F2 (by rw [er]; decide) (by rw [er]; decide +kernel) (fun y G2 => ⟨rfl, vp_in_nI (n := 2) (N := eb_ln 11534672) (by decide) (by decide), ?_⟩)
  intro z ez
  rw [er] at G2
  rw [er, eb_cln (n := 2) (by decide)] at ez
  have P2 := G2.sR ez (by decide +kernel)
  rw [show nI 2 + 1 = nI 3 from nI_add 2 1]
  clear ex ez er F2 G2
  refine b_X4_init_25 (d := d + 1) 11010052 (nI 3) (by decide) ⟨fun z => absurd z (by decide), fun _ => ⟨11534672, (P2.2.2.2.1 11010052 0).trans (by decide +kernel), by decide, ?_⟩⟩
  intro r er x ex
  have er : r = 15204358 := (P2.nx er).trans (by decide +kernel)
  have F3 := P2.nw ex (by decide) (by decide)
  refine I_State (d := d) F3 (by rw [er]; decide) (by rw [er]; decide +kernel) (fun y G3 => ⟨rfl, vp_in_nI (n := 3) (N := eb_ln 11534672) (by decide) (by decide), ?_⟩)
  intro z ez
  rw [er] at G3
  rw [er, eb_cln (n := 3) (by decide)] at ez
  have P3 := G3.sR ez (by decide +kernel)
  rw [show nI 3 + 1 = nI 4 from nI_add 3 1]
  clear ex ez er F3 G3
  refine b_X4_init_25 (d := d + 1) 11010052 (nI 4) (by decide) ⟨fun z => absurd z (by decide), fun _ => ⟨11534672, (P3.2.2.2.1 11010052 0).trans (by decide +kernel), by decide, ?_⟩⟩
  intro r er x ex
  have er : r = 16252934 := (P3.nx er).trans (by decide +kernel)
  have F4 := P3.nw ex (by decide) (by decide)
  refine I_State (d := d) F4 (by rw [er]; decide) (by rw [er]; decide +kernel) (fun y G4 => ⟨rfl, vp_in_nI (n := 4) (N := eb_ln 11534672) (by decide) (by decide), ?_⟩)
  intro z ez
  rw [er] at G4
  rw [er, eb_cln (n := 4) (by decide)] at ez
  have P4 := G4.sR ez (by decide +kernel)
  rw [show nI 4 + 1 = nI 5 from nI_add 4 1]
  clear ex ez er F4 G4
  refine b_X4_init_25 (d := d + 1) 11010052 (nI 5) (by decide) ⟨fun z => absurd z (by decide), fun _ => ⟨11534672, (P4.2.2.2.1 11010052 0).trans (by decide +kernel), by decide, ?_⟩⟩
  intro r er x ex
  have er : r = 17301510 := (P4.nx er).trans (by decide +kernel)
  have F5 := P4.nw ex (by decide) (by decide)
  refine I_State (d := d) F5 (by rw [er]; decide) (by rw [er]; decide +kernel) (fun y G5 => ⟨rfl, vp_in_nI (n := 5) (N := eb_ln 11534672) (by decide) (by decide), ?_⟩)
  intro z ez
  rw [er] at G5
  rw [er, eb_cln (n := 5) (by decide)] at ez
  have P5 := G5.sR ez (by decide +kernel)
  rw [show nI 5 + 1 = nI 6 from nI_add 5 1]
  clear ex ez er F5 G5
  refine b_X4_init_25 (d := d + 1) 11010052 (nI 6) (by decide) ⟨fun z => absurd z (by decide), fun _ => ⟨11534672, (P5.2.2.2.1 11010052 0).trans (by decide +kernel), by decide, ?_⟩⟩
  intro r er x ex
  have er : r = 18350086 := (P5.nx er).trans (by decide +kernel)
  have F6 := P5.nw ex (by decide) (by decide)
  refine I_State (d := d) F6 (by rw [er]; decide) (by rw [er]; decide +kernel) (fun y G6 => ⟨rfl, vp_in_nI (n := 6) (N := eb_ln 11534672) (by decide) (by decide), ?_⟩)
  intro z ez
  rw [er] at G6
  rw [er, eb_cln (n := 6) (by decide)] at ez
  have P6 := G6.sR ez (by decide +kernel)
  rw [show nI 6 + 1 = nI 7 from nI_add 6 1]
  clear ex ez er F6 G6
  refine b_X4_init_25 (d := d + 1) 11010052 (nI 7) (by decide) ⟨fun z => absurd z (by decide), fun _ => ⟨11534672, (P6.2.2.2.1 11010052 0).trans (by decide +kernel), by decide, ?_⟩⟩
  intro r er x ex
  have er : r = 19398662 := (P6.nx er).trans (by decide +kernel)
  have F7 := P6.nw ex (by decide) (by decide)
  refine I_State (d := d) F7 (by rw [er]; decide) (by rw [er]; decide +kernel) (fun y G7 => ⟨rfl, vp_in_nI (n := 7) (N := eb_ln 11534672) (by decide) (by decide), ?_⟩)
  intro z ez
  rw [er] at G7
  rw [er, eb_cln (n := 7) (by decide)] at ez
  have P7 := G7.sR ez (by decide +kernel)
  rw [show nI 7 + 1 = nI 8 from nI_add 7 1]
  clear ex ez er F7 G7
  refine b_X4_init_25 (d := d + 1) 11010052 (nI 8) (by decide) ⟨fun z => absurd z (by decide), fun _ => ⟨11534672, (P7.2.2.2.1 11010052 0).trans (by decide +kernel), by decide, ?_⟩⟩
  intro r er x ex
  have er : r = 20447238 := (P7.nx er).trans (by decide +kernel)
  have F8 := P7.nw ex (by decide) (by decide)
  refine I_State (d := d) F8 (by rw [er]; decide) (by rw [er]; decide +kernel) (fun y G8 => ⟨rfl, vp_in_nI (n := 8) (N := eb_ln 11534672) (by decide) (by decide), ?_⟩)
  intro z ez
  rw [er] at G8
  rw [er, eb_cln (n := 8) (by decide)] at ez
  have P8 := G8.sR ez (by decide +kernel)
  rw [show nI 8 + 1 = nI 9 from nI_add 8 1]
  clear ex ez er F8 G8
  refine b_X4_init_25 (d := d + 1) 11010052 (nI 9) (by decide) ⟨fun z => absurd z (by decide), fun _ => ⟨11534672, (P8.2.2.2.1 11010052 0).trans (by decide +kernel), by decide, ?_⟩⟩
  intro r er x ex
  have er : r = 21495814 := (P8.nx er).trans (by decide +kernel)
  have F9 := P8.nw ex (by decide) (by decide)
  refine I_State (d := d) F9 (by rw [er]; decide) (by rw [er]; decide +kernel) (fun y G9 => ⟨rfl, vp_in_nI (n := 9) (N := eb_ln 11534672) (by decide) (by decide), ?_⟩)
  intro z ez
  rw [er] at G9
  rw [er, eb_cln (n := 9) (by decide)] at ez
  have P9 := G9.sR ez (by decide +kernel)
  rw [show nI 9 + 1 = nI 10 from nI_add 9 1]
  clear ex ez er F9 G9
  exact b_X4_init_25 (d := d + 1) 11010052 (nI 10) (by decide) ⟨fun _ => q _ P9, fun z => absurd (by decide) z⟩
def eS_EB : eb_S := (es_sR (es_State (es_nw (es_sR (es_State (es_nw (es_sR (es_Tray (es_nw (es_sR (es_Tray (es_nw (es_sR (es_Tray (es_nw (es_sR (es_Tray (es_nw (es_sR (es_nw (es_sR (es_nw (es_sR (es_nw (es_sR (es_Draws (es_nw (es_sR (es_Flights (es_nw (es_sR eS_Past 10 6 (some 11010052)) (eb_nf 1)) 22544385) 10 7 (some 22544385)) (eb_nf 0)) 28835840) 10 8 (some 28835840)) 4) 10 9 (some 29360273)) 2) 10 10 (some 29884498)) 2) 10 11 (some 30408784)) (eb_nf 8)) 30933000) 29360273 0 (some 30933000)) (eb_nf 8)) 31981576) 29360273 1 (some 31981576)) (eb_nf 8)) 33030152) 29360273 2 (some 33030152)) (eb_nf 8)) 34078728) 29360273 3 (some 34078728)) (eb_nf 6)) 35127302) 30408784 0 (some 35127302)) (eb_nf 6)) 36175878) 30408784 1 (some 36175878))
theorem I_EB {d : Nat} {h : eb_H} {Q : Option Value → eb_H → Prop} (E : eb_ini L xs eS_0 h) (q : ∀ h', eb_ini L xs eS_EB h' → Q none h') : eb_Ct (d + 5) 95 [.ref 10] h Q := by
  refine T_X10_init (d := d + 4) 10 (by decide) ?_
  intro r3 er3
  have er3 : r3 = 524293 := (E.nx er3).trans (by decide +kernel)
  intro h1 eh1
  have E1 := E.nw eh1 (by decide) (by decide)
  rw [er3]
  refine I_Reader (d := d + 1) E1 (fun h5 E5 => ⟨rfl, ?_⟩)
  intro h8 eh8
  have E8 := E5.sR eh8 (by decide +kernel)
  refine ⟨524293, (E8.2.2.2.1 10 0).trans (by decide +kernel), by decide, ?_⟩
  refine ⟨1572871, (E8.2.2.2.1 524293 1).trans (by decide +kernel), by decide, ?_⟩
  intro h16 eh16
  have E16 := E8.sR eh16 (by decide +kernel)
  intro r20 er20
  have er20 : r20 = 6291465 := (E16.nx er20).trans (by decide +kernel)
  intro h18 eh18
  have E18 := E16.nw eh18 (by decide) (by decide)
  refine I_Valley (d := d + 3) E18 (by rw [er20]; decide) (by rw [er20]; decide +kernel) (fun h22 E22 => ⟨rfl, ?_⟩)
  rw [er20] at E22
  intro h25 eh25
  rw [er20] at eh25
  have E25 := E22.sR eh25 (by decide +kernel)
  intro r29 er29
  have er29 : r29 = 7864326 := (E25.nx er29).trans (by decide +kernel)
  intro h27 eh27
  have E27 := E25.nw eh27 (by decide) (by decide)
  refine I_State (d := d + 3) E27 (by rw [er29]; decide) (by rw [er29]; decide +kernel) (fun h31 E31 => ⟨rfl, ?_⟩)
  rw [er29] at E31
  intro h34 eh34
  rw [er29] at eh34
  have E34 := E31.sR eh34 (by decide +kernel)
  intro r38 er38
  have er38 : r38 = 8912902 := (E34.nx er38).trans (by decide +kernel)
  intro h36 eh36
  have E36 := E34.nw eh36 (by decide) (by decide)
  refine I_State (d := d + 3) E36 (by rw [er38]; decide) (by rw [er38]; decide +kernel) (fun h40 E40 => ⟨rfl, ?_⟩)
  rw [er38] at E40
  intro h43 eh43
  rw [er38] at eh43
  have E43 := E40.sR eh43 (by decide +kernel)
  intro r47 er47
  have er47 : r47 = 9961478 := (E43.nx er47).trans (by decide +kernel)
  intro h45 eh45
  have E45 := E43.nw eh45 (by decide) (by decide)
  refine I_State (d := d + 3) E45 (by rw [er47]; decide) (by rw [er47]; decide +kernel) (fun h49 E49 => ⟨rfl, ?_⟩)
  rw [er47] at E49
  intro h52 eh52
  rw [er47] at eh52
  have E52 := E49.sR eh52 (by decide +kernel)
  intro r56 er56
  have er56 : r56 = 11010052 := (E52.nx er56).trans (by decide +kernel)
  intro h54 eh54
  have E54 := E52.nw eh54 (by decide) (by decide)
  rw [er56]
  refine I_Past (d := d + 2) E54 (fun h58 E58 => ⟨rfl, ?_⟩)
  intro h61 eh61
  have E61 := E58.sR eh61 (by decide +kernel)
  intro r65 er65
  have er65 : r65 = 22544385 := (E61.nx er65).trans (by decide +kernel)
  intro h63 eh63
  have E63 := E61.nw eh63 (by decide) (by decide)
  refine I_Flights (d := d + 2) E63 (by rw [er65]; decide) (by rw [er65]; decide +kernel) (fun h67 E67 => ⟨rfl, ?_⟩)
  rw [er65] at E67
  intro h70 eh70
  rw [er65] at eh70
  have E70 := E67.sR eh70 (by decide +kernel)
  intro r74 er74
  have er74 : r74 = 28835840 := (E70.nx er74).trans (by decide +kernel)
  intro h72 eh72
  have E72 := E70.nw eh72 (by decide) (by decide)
  refine I_Draws (d := d + 3) E72 (by rw [er74]; decide) (by rw [er74]; decide +kernel) (fun h76 E76 => ⟨rfl, ?_⟩)
  rw [er74] at E76
  intro h79 eh79
  rw [er74] at eh79
  have E79 := E76.sR eh79 (by decide +kernel)
  intro r83 er83
  have er83 : r83 = 29360273 := (E79.nx er83).trans (by decide +kernel)
  intro h81 eh81
  have E81 := E79.nw eh81 (by decide) (by decide)
  intro h85 eh85
  rw [er83] at eh85
  have E85 := E81.sR eh85 (by decide +kernel)
  intro r89 er89
  have er89 : r89 = 29884498 := (E85.nx er89).trans (by decide +kernel)
  intro h87 eh87
  have E87 := E85.nw eh87 (by decide) (by decide)
  intro h91 eh91
  rw [er89] at eh91
  have E91 := E87.sR eh91 (by decide +kernel)
  intro r95 er95
  have er95 : r95 = 30408784 := (E91.nx er95).trans (by decide +kernel)
  intro h93 eh93
  have E93 := E91.nw eh93 (by decide) (by decide)
  intro h97 eh97
  rw [er95] at eh97
  have E97 := E93.sR eh97 (by decide +kernel)
  show eb_Sn (d + 4 + 1) m_X10_init h 129 [(0, .ref 10), (1, .int (nI 0))] [] _ Q
  refine b_X10_init_129 (d := d + 4) 10 (nI 0) (by decide) ⟨fun z => absurd z (by decide), fun _ => ⟨29360273, (E97.2.2.2.1 10 9).trans (by decide +kernel), by decide, ?_⟩⟩
  intro r er x ex
  have er : r = 30933000 := (E97.nx er).trans (by decide +kernel)
  have F0 := E97.nw ex (by decide) (by decide)
  refine I_Tray (d := d + 3) F0 (by rw [er]; decide) (by rw [er]; decide +kernel) (fun y G0 => ⟨rfl, vp_in_nI (n := 0) (N := eb_ln 29360273) (by decide) (by decide), ?_⟩)
  intro z ez
  rw [er] at G0
  rw [er, eb_cln (n := 0) (by decide)] at ez
  have P0 := G0.sR ez (by decide +kernel)
  rw [show nI 0 + 1 = nI 1 from nI_add 0 1]
  clear ex ez er F0 G0
  refine b_X10_init_129 (d := d + 4) 10 (nI 1) (by decide) ⟨fun z => absurd z (by decide), fun _ => ⟨29360273, (P0.2.2.2.1 10 9).trans (by decide +kernel), by decide, ?_⟩⟩
  intro r er x ex
  have er : r = 31981576 := (P0.nx er).trans (by decide +kernel)
  have F1 := P0.nw ex (by decide) (by decide)
  refine I_Tray (d := d + 3) F1 (by rw [er]; decide) (by rw [er]; decide +kernel) (fun y G1 => ⟨rfl, vp_in_nI (n := 1) (N := eb_ln 29360273) (by decide) (by decide), ?_⟩)
  intro z ez
  rw [er] at G1
  rw [er, eb_cln (n := 1) (by decide)] at ez
  have P1 := G1.sR ez (by decide +kernel)
  rw [show nI 1 + 1 = nI 2 from nI_add 1 1]
  clear ex ez er F1 G1
  refine b_X10_init_129 (d := d + 4) 10 (nI 2) (by decide) ⟨fun z => absurd z (by decide), fun _ => ⟨29360273, (P1.2.2.2.1 10 9).trans (by decide +kernel), by decide, ?_⟩⟩
  intro r er x ex
  have er : r = 33030152 := (P1.nx er).trans (by decide +kernel)
  have F2 := P1.nw ex (by decide) (by decide)
  refine I_Tray (d := d + 3) F2 (by rw [er]; decide) (by rw [er]; decide +kernel) (fun y G2 => ⟨rfl, vp_in_nI (n := 2) (N := eb_ln 29360273) (by decide) (by decide), ?_⟩)
  intro z ez
  rw [er] at G2
  rw [er, eb_cln (n := 2) (by decide)] at ez
  have P2 := G2.sR ez (by decide +kernel)
  rw [show nI 2 + 1 = nI 3 from nI_add 2 1]
  clear ex ez er F2 G2
  refine b_X10_init_129 (d := d + 4) 10 (nI 3) (by decide) ⟨fun z => absurd z (by decide), fun _ => ⟨29360273, (P2.2.2.2.1 10 9).trans (by decide +kernel), by decide, ?_⟩⟩
  intro r er x ex
  have er : r = 34078728 := (P2.nx er).trans (by decide +kernel)
  have F3 := P2.nw ex (by decide) (by decide)
  refine I_Tray (d := d + 3) F3 (by rw [er]; decide) (by rw [er]; decide +kernel) (fun y G3 => ⟨rfl, vp_in_nI (n := 3) (N := eb_ln 29360273) (by decide) (by decide), ?_⟩)
  intro z ez
  rw [er] at G3
  rw [er, eb_cln (n := 3) (by decide)] at ez
  have P3 := G3.sR ez (by decide +kernel)
  rw [show nI 3 + 1 = nI 4 from nI_add 3 1]
  clear ex ez er F3 G3
  refine b_X10_init_129 (d := d + 4) 10 (nI 4) (by decide) ⟨fun _ => ?_, fun z => absurd (by decide) z⟩
  show eb_Sn (d + 4 + 1) m_X10_init h 155 [(0, .ref 10), (1, .int (nI 0))] [] _ Q
  refine b_X10_init_155 (d := d + 4) 10 (nI 0) (by decide) ⟨fun z => absurd z (by decide), fun _ => ⟨30408784, (P3.2.2.2.1 10 11).trans (by decide +kernel), by decide, ?_⟩⟩
  intro r er x ex
  have er : r = 35127302 := (P3.nx er).trans (by decide +kernel)
  have F0 := P3.nw ex (by decide) (by decide)
  refine I_State (d := d + 3) F0 (by rw [er]; decide) (by rw [er]; decide +kernel) (fun y G0 => ⟨rfl, vp_in_nI (n := 0) (N := eb_ln 30408784) (by decide) (by decide), ?_⟩)
  intro z ez
  rw [er] at G0
  rw [er, eb_cln (n := 0) (by decide)] at ez
  have T0 := G0.sR ez (by decide +kernel)
  rw [show nI 0 + 1 = nI 1 from nI_add 0 1]
  clear ex ez er F0 G0
  refine b_X10_init_155 (d := d + 4) 10 (nI 1) (by decide) ⟨fun z => absurd z (by decide), fun _ => ⟨30408784, (T0.2.2.2.1 10 11).trans (by decide +kernel), by decide, ?_⟩⟩
  intro r er x ex
  have er : r = 36175878 := (T0.nx er).trans (by decide +kernel)
  have F1 := T0.nw ex (by decide) (by decide)
  refine I_State (d := d + 3) F1 (by rw [er]; decide) (by rw [er]; decide +kernel) (fun y G1 => ⟨rfl, vp_in_nI (n := 1) (N := eb_ln 30408784) (by decide) (by decide), ?_⟩)
  intro z ez
  rw [er] at G1
  rw [er, eb_cln (n := 1) (by decide)] at ez
  have T1 := G1.sR ez (by decide +kernel)
  rw [show nI 1 + 1 = nI 2 from nI_add 1 1]
  clear ex ez er F1 G1
  exact b_X10_init_155 (d := d + 4) 10 (nI 2) (by decide) ⟨fun _ => q _ T1, fun z => absurd (by decide) z⟩
def eS_m : eb_S := es_nw eS_EB (eb_nf 11)
def eS_MO : eb_S := (es_sR (es_nw (es_sR (es_nw (es_sR (es_sI (es_sI (es_sI (es_sI (es_nw (es_sR (es_nw (es_sR (es_nw (es_sR (es_nw (es_sR (es_nw (es_sR (es_nw (es_sR (es_nw (es_sR (es_nw (es_sR (es_nw (es_sR (es_nw (es_sR (es_nw (es_sI (es_sR (es_nw (es_sR (es_nw (es_sR (es_nw (es_sR (es_nw eS_m 3492) 37224459 1 (some 37860493)) 2) 37224459 2 (some 38273103)) 900) 37224459 3 (some 38826125)) 1164) 37224459 4 (some 39358861)) 37224459 14 (-1)) 900) 37224459 16 (some 39874701)) 6) 37224459 17 (some 40370381)) 21) 37224459 18 (some 40895149)) 4096) 37224459 21 (some 41549837)) 1024) 37224459 22 (some 41975821)) 1024) 37224459 23 (some 42500111)) 1024) 37224459 24 (some 43024398)) 1024) 37224459 25 (some 43548686)) 11264) 37224459 26 (some 44400654)) 10) 37224459 27 (some 44564813)) 4) 45088909 0 (-1)) 45088909 1 (-1)) 45088909 2 (-1)) 45088909 3 (-1)) 37224459 28 (some 45088909)) 4) 37224459 29 (some 45613197)) 160) 37224459 30 (some 46142478))
theorem M_plA {d : Nat} {h0 : eb_H} {Q : Option Value → eb_H → Prop} : ∀ (k i : Nat) (h : eb_H), i + k = 1164 → eb_KO h → (∀ j, j < i → eb_I h s_m_all j = 0) → (∀ h', ec_fr (fun c => c = s_m_all) h h' → (∀ j, j < 1164 → eb_I h' s_m_all j = ee_D0.1 j) → Q none h') → eb_Sn d m_X11_plain h0 2 [(0, .ref s_m_all), (1, .int (nI i))] [] h Q
  | 0, i, h, hi, ko, z, q => by
    have c1 : (1 : Int32).toNatClampNeg = 1 := by decide
    have c2 : (2 : Int32).toNatClampNeg = 2 := by decide
    have c3 : (3 : Int32).toNatClampNeg = 3 := by decide
    refine b_X11_plain_2 (d := d) s_m_all _ (by decide) ko ⟨fun _ => ⟨vp_in_nI (n := 1) (N := eb_ln s_m_all) (by decide) (by decide), vp_in_nI (n := 2) (N := eb_ln s_m_all) (by decide) (by decide), vp_in_nI (n := 3) (N := eb_ln s_m_all) (by decide) (by decide), ?_⟩, fun u => absurd (nI_le (a := 1164) (b := i) (by omega) (by omega)) u⟩
    rw [c1, c2, c3]
    refine q _ ((((ec_fr.rfl (P := fun c => c = s_m_all)).sI (Eq.refl _)).sI (Eq.refl _)).sI (Eq.refl _)) (fun j hj => ?_)
    rw [eb_I_sI, eb_I_sI, eb_I_sI, z j (by omega)]
    rfl
  | k + 1, i, h, hi, ko, z, q => by
    refine b_X11_plain_2 (d := d) s_m_all _ (by decide) ko ⟨fun u => absurd u (nI_ge (a := i) (b := 1164) (by omega) (by omega)), fun _ => ⟨vp_in_nI (show i < eb_ln s_m_all by show i < 3492; omega) (by decide), ?_⟩⟩
    rw [eb_cln (n := i) (by omega), nI_1]
    have F1 : ec_fr (fun c => c = s_m_all) h (eb_sI h s_m_all i 0) := ec_fr.rfl.sI rfl
    refine M_plA k (i + 1) _ (by omega) (F1.ko ko) (fun j hj => ?_) (fun h' F' e => q h' (F1.trans F') e)
    rw [eb_I_sI]
    by_cases y : j = i
    · rw [if_pos y]
    · rw [if_neg y]
      exact z j (by omega)
theorem eS_ko : ∀ q, q ∈ eb_koL → es_R eS_MO.2.2.2 q.1 q.2.1 = some q.2.2 := by decide +kernel
theorem eb_ini.ko {h : eb_H} (E : eb_ini L xs eS_MO h) : eb_KO h := fun q hq => (E.2.2.2.1 _ _).trans (eS_ko q hq)
theorem I_MO {d : Nat} {h : eb_H} {Q : Option Value → eb_H → Prop} (E : eb_ini L xs eS_m h) (q : ∀ g h', eb_ini L xs eS_MO g → ec_fr (fun c => c = s_m_all) g h' → (∀ j, j < 1164 → eb_I h' s_m_all j = ee_D0.1 j) → Q none h') : eb_Ct (d + 1) 157 [.ref 37224459] h Q := by
  refine T_X11_init (d := d) 37224459 (by decide) ?_
  intro r3 er3
  have er3 : r3 = 37860493 := (E.nx er3).trans (by decide +kernel)
  intro h1 eh1
  have E1 := E.nw eh1 (by decide) (by decide)
  intro h5 eh5
  rw [er3] at eh5
  have E5 := E1.sR eh5 (by decide +kernel)
  intro r9 er9
  have er9 : r9 = 38273103 := (E5.nx er9).trans (by decide +kernel)
  intro h7 eh7
  have E7 := E5.nw eh7 (by decide) (by decide)
  intro h11 eh11
  rw [er9] at eh11
  have E11 := E7.sR eh11 (by decide +kernel)
  intro r15 er15
  have er15 : r15 = 38826125 := (E11.nx er15).trans (by decide +kernel)
  intro h13 eh13
  have E13 := E11.nw eh13 (by decide) (by decide)
  intro h17 eh17
  rw [er15] at eh17
  have E17 := E13.sR eh17 (by decide +kernel)
  intro r21 er21
  have er21 : r21 = 39358861 := (E17.nx er21).trans (by decide +kernel)
  intro h19 eh19
  have E19 := E17.nw eh19 (by decide) (by decide)
  intro h23 eh23
  rw [er21] at eh23
  have E23 := E19.sR eh23 (by decide +kernel)
  intro h25 eh25
  have E25 := E23.sI eh25 (by decide +kernel)
  intro r29 er29
  have er29 : r29 = 39874701 := (E25.nx er29).trans (by decide +kernel)
  intro h27 eh27
  have E27 := E25.nw eh27 (by decide) (by decide)
  intro h31 eh31
  rw [er29] at eh31
  have E31 := E27.sR eh31 (by decide +kernel)
  intro r35 er35
  have er35 : r35 = 40370381 := (E31.nx er35).trans (by decide +kernel)
  intro h33 eh33
  have E33 := E31.nw eh33 (by decide) (by decide)
  intro h37 eh37
  rw [er35] at eh37
  have E37 := E33.sR eh37 (by decide +kernel)
  intro r41 er41
  have er41 : r41 = 40895149 := (E37.nx er41).trans (by decide +kernel)
  intro h39 eh39
  have E39 := E37.nw eh39 (by decide) (by decide)
  intro h43 eh43
  rw [er41] at eh43
  have E43 := E39.sR eh43 (by decide +kernel)
  intro r47 er47
  have er47 : r47 = 41549837 := (E43.nx er47).trans (by decide +kernel)
  intro h45 eh45
  have E45 := E43.nw eh45 (by decide) (by decide)
  intro h49 eh49
  rw [er47] at eh49
  have E49 := E45.sR eh49 (by decide +kernel)
  intro r53 er53
  have er53 : r53 = 41975821 := (E49.nx er53).trans (by decide +kernel)
  intro h51 eh51
  have E51 := E49.nw eh51 (by decide) (by decide)
  intro h55 eh55
  rw [er53] at eh55
  have E55 := E51.sR eh55 (by decide +kernel)
  intro r59 er59
  have er59 : r59 = 42500111 := (E55.nx er59).trans (by decide +kernel)
  intro h57 eh57
  have E57 := E55.nw eh57 (by decide) (by decide)
  intro h61 eh61
  rw [er59] at eh61
  have E61 := E57.sR eh61 (by decide +kernel)
  intro r65 er65
  have er65 : r65 = 43024398 := (E61.nx er65).trans (by decide +kernel)
  intro h63 eh63
  have E63 := E61.nw eh63 (by decide) (by decide)
  intro h67 eh67
  rw [er65] at eh67
  have E67 := E63.sR eh67 (by decide +kernel)
  intro r71 er71
  have er71 : r71 = 43548686 := (E67.nx er71).trans (by decide +kernel)
  intro h69 eh69
  have E69 := E67.nw eh69 (by decide) (by decide)
  intro h73 eh73
  rw [er71] at eh73
  have E73 := E69.sR eh73 (by decide +kernel)
  intro r77 er77
  have er77 : r77 = 44400654 := (E73.nx er77).trans (by decide +kernel)
  intro h75 eh75
  have E75 := E73.nw eh75 (by decide) (by decide)
  intro h79 eh79
  rw [er77] at eh79
  have E79 := E75.sR eh79 (by decide +kernel)
  intro r83 er83
  have er83 : r83 = 44564813 := (E79.nx er83).trans (by decide +kernel)
  intro h81 eh81
  have E81 := E79.nw eh81 (by decide) (by decide)
  intro h85 eh85
  rw [er83] at eh85
  have E85 := E81.sR eh85 (by decide +kernel)
  intro r89 er89
  have er89 : r89 = 45088909 := (E85.nx er89).trans (by decide +kernel)
  intro h87 eh87
  have E87 := E85.nw eh87 (by decide) (by decide)
  refine ⟨by rw [er89]; exact vp_in_nI (n := 0) (N := eb_ln 45088909) (by decide) (by decide), ?_⟩
  intro h92 eh92
  rw [er89, show (0 : Int32).toNatClampNeg = 0 from by decide] at eh92
  have E92 := E87.sI eh92 (by decide +kernel)
  refine ⟨by rw [er89]; exact vp_in_nI (n := 1) (N := eb_ln 45088909) (by decide) (by decide), ?_⟩
  intro h95 eh95
  rw [er89, show (1 : Int32).toNatClampNeg = 1 from by decide] at eh95
  have E95 := E92.sI eh95 (by decide +kernel)
  refine ⟨by rw [er89]; exact vp_in_nI (n := 2) (N := eb_ln 45088909) (by decide) (by decide), ?_⟩
  intro h98 eh98
  rw [er89, show (2 : Int32).toNatClampNeg = 2 from by decide] at eh98
  have E98 := E95.sI eh98 (by decide +kernel)
  refine ⟨by rw [er89]; exact vp_in_nI (n := 3) (N := eb_ln 45088909) (by decide) (by decide), ?_⟩
  intro h101 eh101
  rw [er89, show (3 : Int32).toNatClampNeg = 3 from by decide] at eh101
  have E101 := E98.sI eh101 (by decide +kernel)
  intro h103 eh103
  rw [er89] at eh103
  have E103 := E101.sR eh103 (by decide +kernel)
  intro r107 er107
  have er107 : r107 = 45613197 := (E103.nx er107).trans (by decide +kernel)
  intro h105 eh105
  have E105 := E103.nw eh105 (by decide) (by decide)
  intro h109 eh109
  rw [er107] at eh109
  have E109 := E105.sR eh109 (by decide +kernel)
  intro r113 er113
  have er113 : r113 = 46142478 := (E109.nx er113).trans (by decide +kernel)
  intro h111 eh111
  have E111 := E109.nw eh111 (by decide) (by decide)
  intro h115 eh115
  rw [er113] at eh115
  have E115 := E111.sR eh115 (by decide +kernel)
  refine ⟨37860493, (E115.2.2.2.1 37224459 1).trans (by decide +kernel), by decide, ?_⟩
  exact T_X11_plain s_m_all (by decide) E115.ko (M_plA 1164 0 _ (by omega) E115.ko (fun j hj => absurd hj (by omega)) (fun h' F' e => ⟨rfl, q _ h' E115 F' e⟩))
end EBMADE
