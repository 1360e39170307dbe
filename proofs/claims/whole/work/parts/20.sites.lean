abbrev s_EB : Nat := 10
abbrev s_reader : Nat := 524293
abbrev s_reader_laws : Nat := 1048579
abbrev s_tape : Nat := 1572871
abbrev s_tape_text : Nat := 2125964
abbrev s_reader_laws_codes : Nat := 2650253
abbrev s_reader_laws_waiting : Nat := 3146765
abbrev s_reader_valley0 : Nat := 3670025
abbrev s_reader_valley0_houseCells : Nat := 4194445
abbrev s_reader_valley0_heights : Nat := 4719117
abbrev s_reader_start : Nat := 5242886
abbrev s_reader_start_things : Nat := 5767693
abbrev s_EB_valley0 : Nat := 6291465
abbrev s_EB_valley0_houseCells : Nat := 6815885
abbrev s_EB_valley0_heights : Nat := 7340557
abbrev s_now : Nat := 7864326
abbrev s_now_things : Nat := 8389133
abbrev s_before : Nat := 8912902
abbrev s_before_things : Nat := 9437709
abbrev s_trial : Nat := 9961478
abbrev s_trial_things : Nat := 10486285
abbrev s_past : Nat := 11010052
abbrev s_past_states : Nat := 11534672
abbrev s_past_states_0 : Nat := 12058630
abbrev s_past_states_0_things : Nat := 12583437
abbrev s_past_states_1 : Nat := 13107206
abbrev s_past_states_1_things : Nat := 13632013
abbrev s_past_states_2 : Nat := 14155782
abbrev s_past_states_2_things : Nat := 14680589
abbrev s_past_states_3 : Nat := 15204358
abbrev s_past_states_3_things : Nat := 15729165
abbrev s_past_states_4 : Nat := 16252934
abbrev s_past_states_4_things : Nat := 16777741
abbrev s_past_states_5 : Nat := 17301510
abbrev s_past_states_5_things : Nat := 17826317
abbrev s_past_states_6 : Nat := 18350086
abbrev s_past_states_6_things : Nat := 18874893
abbrev s_past_states_7 : Nat := 19398662
abbrev s_past_states_7_things : Nat := 19923469
abbrev s_past_states_8 : Nat := 20447238
abbrev s_past_states_8_things : Nat := 20972045
abbrev s_past_states_9 : Nat := 21495814
abbrev s_past_states_9_things : Nat := 22020621
abbrev s_flights : Nat := 22544385
abbrev s_flights_valley0 : Nat := 23068681
abbrev s_flights_valley0_houseCells : Nat := 23593101
abbrev s_flights_valley0_heights : Nat := 24117773
abbrev s_flights_state : Nat := 24641542
abbrev s_flights_state_things : Nat := 25166349
abbrev s_flights_verdicts : Nat := 25704460
abbrev s_flights_order : Nat := 26247181
abbrev s_flights_origins : Nat := 26771469
abbrev s_flights_trace : Nat := 27295756
abbrev s_flights_amounts0 : Nat := 27820046
abbrev s_flights_others0 : Nat := 28344334
abbrev s_draws : Nat := 28835840
abbrev s_trays : Nat := 29360273
abbrev s_imageValleys : Nat := 29884498
abbrev s_imageStates : Nat := 30408784
abbrev s_trays_0 : Nat := 30933000
abbrev s_trays_0_values : Nat := 31458574
abbrev s_trays_1 : Nat := 31981576
abbrev s_trays_1_values : Nat := 32507150
abbrev s_trays_2 : Nat := 33030152
abbrev s_trays_2_values : Nat := 33555726
abbrev s_trays_3 : Nat := 34078728
abbrev s_trays_3_values : Nat := 34604302
abbrev s_imageStates_0 : Nat := 35127302
abbrev s_imageStates_0_things : Nat := 35652109
abbrev s_imageStates_1 : Nat := 36175878
abbrev s_imageStates_1_things : Nat := 36700685
abbrev s_MO : Nat := 37224459
abbrev s_m_all : Nat := 37860493
abbrev s_m_hasImage : Nat := 38273103
abbrev s_m_tape : Nat := 38826125
abbrev s_m_fresh : Nat := 39358861
abbrev s_m_reckoned : Nat := 39874701
abbrev s_m_words : Nat := 40370381
abbrev s_m_was : Nat := 40895149
abbrev s_m_then : Nat := 41549837
abbrev s_m_far : Nat := 41975821
abbrev s_m_reached : Nat := 42500111
abbrev s_m_many : Nat := 43024398
abbrev s_m_manyThen : Nat := 43548686
abbrev s_m_still : Nat := 44400654
abbrev s_m_standBy : Nat := 44564813
abbrev s_m_rowSort : Nat := 45088909
abbrev s_m_rowMany : Nat := 45613197
abbrev s_m_numbers : Nat := 46142478
def eb_koL : List (Nat × Nat × Nat) := [(1572871, 0, 2125964), (1048579, 0, 1572871), (1048579, 1, 2650253), (1048579, 2, 3146765), (524293, 0, 1048579), (524293, 1, 1572871), (3670025, 5, 4194445), (3670025, 6, 4719117), (5242886, 5, 5767693), (524293, 3, 5242886), (10, 0, 524293), (10, 1, 1572871), (6291465, 5, 6815885), (6291465, 6, 7340557), (7864326, 5, 8389133), (10, 3, 7864326), (8912902, 5, 9437709), (10, 4, 8912902), (9961478, 5, 10486285), (10, 5, 9961478), (11010052, 0, 11534672), (12058630, 5, 12583437), (11534672, 0, 12058630), (13107206, 5, 13632013), (11534672, 1, 13107206), (14155782, 5, 14680589), (11534672, 2, 14155782), (15204358, 5, 15729165), (11534672, 3, 15204358), (16252934, 5, 16777741), (11534672, 4, 16252934), (17301510, 5, 17826317), (11534672, 5, 17301510), (18350086, 5, 18874893), (11534672, 6, 18350086), (19398662, 5, 19923469), (11534672, 7, 19398662), (20447238, 5, 20972045), (11534672, 8, 20447238), (21495814, 5, 22020621), (11534672, 9, 21495814), (10, 6, 11010052), (23068681, 5, 23593101), (23068681, 6, 24117773), (24641542, 5, 25166349), (22544385, 1, 24641542), (22544385, 6, 25704460), (22544385, 7, 26247181), (22544385, 8, 26771469), (22544385, 9, 27295756), (10, 7, 22544385), (10, 8, 28835840), (10, 9, 29360273), (10, 10, 29884498), (10, 11, 30408784), (30933000, 0, 31458574), (29360273, 0, 30933000), (31981576, 0, 32507150), (29360273, 1, 31981576), (33030152, 0, 33555726), (29360273, 2, 33030152), (34078728, 0, 34604302), (29360273, 3, 34078728), (35127302, 5, 35652109), (30408784, 0, 35127302), (36175878, 5, 36700685), (30408784, 1, 36175878), (37224459, 1, 37860493), (37224459, 2, 38273103), (37224459, 3, 38826125), (37224459, 4, 39358861), (37224459, 16, 39874701), (37224459, 17, 40370381), (37224459, 18, 40895149), (37224459, 21, 41549837), (37224459, 22, 41975821), (37224459, 23, 42500111), (37224459, 24, 43024398), (37224459, 25, 43548686), (37224459, 26, 44400654), (37224459, 27, 44564813), (37224459, 28, 45088909), (37224459, 29, 45613197), (37224459, 30, 46142478)]
/-- the references that never change -/
def eb_KO (h : eb_H) : Prop := ∀ q ∈ eb_koL, eb_R h q.1 q.2.1 = some q.2.2
theorem ko_s_tape_0 {h : eb_H} (ko : eb_KO h) : eb_R h s_tape 0 = some s_tape_text := ko (1572871, 0, 2125964) (List.mem_of_getElem? (i := 0) rfl)
theorem ko_s_reader_laws_0 {h : eb_H} (ko : eb_KO h) : eb_R h s_reader_laws 0 = some s_tape := ko (1048579, 0, 1572871) (List.mem_of_getElem? (i := 1) rfl)
theorem ko_s_reader_laws_1 {h : eb_H} (ko : eb_KO h) : eb_R h s_reader_laws 1 = some s_reader_laws_codes := ko (1048579, 1, 2650253) (List.mem_of_getElem? (i := 2) rfl)
theorem ko_s_reader_laws_2 {h : eb_H} (ko : eb_KO h) : eb_R h s_reader_laws 2 = some s_reader_laws_waiting := ko (1048579, 2, 3146765) (List.mem_of_getElem? (i := 3) rfl)
theorem ko_s_reader_0 {h : eb_H} (ko : eb_KO h) : eb_R h s_reader 0 = some s_reader_laws := ko (524293, 0, 1048579) (List.mem_of_getElem? (i := 4) rfl)
theorem ko_s_reader_1 {h : eb_H} (ko : eb_KO h) : eb_R h s_reader 1 = some s_tape := ko (524293, 1, 1572871) (List.mem_of_getElem? (i := 5) rfl)
theorem ko_s_reader_valley0_5 {h : eb_H} (ko : eb_KO h) : eb_R h s_reader_valley0 5 = some s_reader_valley0_houseCells := ko (3670025, 5, 4194445) (List.mem_of_getElem? (i := 6) rfl)
theorem ko_s_reader_valley0_6 {h : eb_H} (ko : eb_KO h) : eb_R h s_reader_valley0 6 = some s_reader_valley0_heights := ko (3670025, 6, 4719117) (List.mem_of_getElem? (i := 7) rfl)
theorem ko_s_reader_start_5 {h : eb_H} (ko : eb_KO h) : eb_R h s_reader_start 5 = some s_reader_start_things := ko (5242886, 5, 5767693) (List.mem_of_getElem? (i := 8) rfl)
theorem ko_s_reader_3 {h : eb_H} (ko : eb_KO h) : eb_R h s_reader 3 = some s_reader_start := ko (524293, 3, 5242886) (List.mem_of_getElem? (i := 9) rfl)
theorem ko_s_EB_0 {h : eb_H} (ko : eb_KO h) : eb_R h s_EB 0 = some s_reader := ko (10, 0, 524293) (List.mem_of_getElem? (i := 10) rfl)
theorem ko_s_EB_1 {h : eb_H} (ko : eb_KO h) : eb_R h s_EB 1 = some s_tape := ko (10, 1, 1572871) (List.mem_of_getElem? (i := 11) rfl)
theorem ko_s_EB_valley0_5 {h : eb_H} (ko : eb_KO h) : eb_R h s_EB_valley0 5 = some s_EB_valley0_houseCells := ko (6291465, 5, 6815885) (List.mem_of_getElem? (i := 12) rfl)
theorem ko_s_EB_valley0_6 {h : eb_H} (ko : eb_KO h) : eb_R h s_EB_valley0 6 = some s_EB_valley0_heights := ko (6291465, 6, 7340557) (List.mem_of_getElem? (i := 13) rfl)
theorem ko_s_now_5 {h : eb_H} (ko : eb_KO h) : eb_R h s_now 5 = some s_now_things := ko (7864326, 5, 8389133) (List.mem_of_getElem? (i := 14) rfl)
theorem ko_s_EB_3 {h : eb_H} (ko : eb_KO h) : eb_R h s_EB 3 = some s_now := ko (10, 3, 7864326) (List.mem_of_getElem? (i := 15) rfl)
theorem ko_s_before_5 {h : eb_H} (ko : eb_KO h) : eb_R h s_before 5 = some s_before_things := ko (8912902, 5, 9437709) (List.mem_of_getElem? (i := 16) rfl)
theorem ko_s_EB_4 {h : eb_H} (ko : eb_KO h) : eb_R h s_EB 4 = some s_before := ko (10, 4, 8912902) (List.mem_of_getElem? (i := 17) rfl)
theorem ko_s_trial_5 {h : eb_H} (ko : eb_KO h) : eb_R h s_trial 5 = some s_trial_things := ko (9961478, 5, 10486285) (List.mem_of_getElem? (i := 18) rfl)
theorem ko_s_EB_5 {h : eb_H} (ko : eb_KO h) : eb_R h s_EB 5 = some s_trial := ko (10, 5, 9961478) (List.mem_of_getElem? (i := 19) rfl)
theorem ko_s_past_0 {h : eb_H} (ko : eb_KO h) : eb_R h s_past 0 = some s_past_states := ko (11010052, 0, 11534672) (List.mem_of_getElem? (i := 20) rfl)
theorem ko_s_past_states_0_5 {h : eb_H} (ko : eb_KO h) : eb_R h s_past_states_0 5 = some s_past_states_0_things := ko (12058630, 5, 12583437) (List.mem_of_getElem? (i := 21) rfl)
theorem ko_s_past_states_0 {h : eb_H} (ko : eb_KO h) : eb_R h s_past_states 0 = some s_past_states_0 := ko (11534672, 0, 12058630) (List.mem_of_getElem? (i := 22) rfl)
theorem ko_s_past_states_1_5 {h : eb_H} (ko : eb_KO h) : eb_R h s_past_states_1 5 = some s_past_states_1_things := ko (13107206, 5, 13632013) (List.mem_of_getElem? (i := 23) rfl)
theorem ko_s_past_states_1 {h : eb_H} (ko : eb_KO h) : eb_R h s_past_states 1 = some s_past_states_1 := ko (11534672, 1, 13107206) (List.mem_of_getElem? (i := 24) rfl)
theorem ko_s_past_states_2_5 {h : eb_H} (ko : eb_KO h) : eb_R h s_past_states_2 5 = some s_past_states_2_things := ko (14155782, 5, 14680589) (List.mem_of_getElem? (i := 25) rfl)
theorem ko_s_past_states_2 {h : eb_H} (ko : eb_KO h) : eb_R h s_past_states 2 = some s_past_states_2 := ko (11534672, 2, 14155782) (List.mem_of_getElem? (i := 26) rfl)
theorem ko_s_past_states_3_5 {h : eb_H} (ko : eb_KO h) : eb_R h s_past_states_3 5 = some s_past_states_3_things := ko (15204358, 5, 15729165) (List.mem_of_getElem? (i := 27) rfl)
theorem ko_s_past_states_3 {h : eb_H} (ko : eb_KO h) : eb_R h s_past_states 3 = some s_past_states_3 := ko (11534672, 3, 15204358) (List.mem_of_getElem? (i := 28) rfl)
theorem ko_s_past_states_4_5 {h : eb_H} (ko : eb_KO h) : eb_R h s_past_states_4 5 = some s_past_states_4_things := ko (16252934, 5, 16777741) (List.mem_of_getElem? (i := 29) rfl)
theorem ko_s_past_states_4 {h : eb_H} (ko : eb_KO h) : eb_R h s_past_states 4 = some s_past_states_4 := ko (11534672, 4, 16252934) (List.mem_of_getElem? (i := 30) rfl)
theorem ko_s_past_states_5_5 {h : eb_H} (ko : eb_KO h) : eb_R h s_past_states_5 5 = some s_past_states_5_things := ko (17301510, 5, 17826317) (List.mem_of_getElem? (i := 31) rfl)
theorem ko_s_past_states_5 {h : eb_H} (ko : eb_KO h) : eb_R h s_past_states 5 = some s_past_states_5 := ko (11534672, 5, 17301510) (List.mem_of_getElem? (i := 32) rfl)
theorem ko_s_past_states_6_5 {h : eb_H} (ko : eb_KO h) : eb_R h s_past_states_6 5 = some s_past_states_6_things := ko (18350086, 5, 18874893) (List.mem_of_getElem? (i := 33) rfl)
theorem ko_s_past_states_6 {h : eb_H} (ko : eb_KO h) : eb_R h s_past_states 6 = some s_past_states_6 := ko (11534672, 6, 18350086) (List.mem_of_getElem? (i := 34) rfl)
theorem ko_s_past_states_7_5 {h : eb_H} (ko : eb_KO h) : eb_R h s_past_states_7 5 = some s_past_states_7_things := ko (19398662, 5, 19923469) (List.mem_of_getElem? (i := 35) rfl)
theorem ko_s_past_states_7 {h : eb_H} (ko : eb_KO h) : eb_R h s_past_states 7 = some s_past_states_7 := ko (11534672, 7, 19398662) (List.mem_of_getElem? (i := 36) rfl)
theorem ko_s_past_states_8_5 {h : eb_H} (ko : eb_KO h) : eb_R h s_past_states_8 5 = some s_past_states_8_things := ko (20447238, 5, 20972045) (List.mem_of_getElem? (i := 37) rfl)
theorem ko_s_past_states_8 {h : eb_H} (ko : eb_KO h) : eb_R h s_past_states 8 = some s_past_states_8 := ko (11534672, 8, 20447238) (List.mem_of_getElem? (i := 38) rfl)
theorem ko_s_past_states_9_5 {h : eb_H} (ko : eb_KO h) : eb_R h s_past_states_9 5 = some s_past_states_9_things := ko (21495814, 5, 22020621) (List.mem_of_getElem? (i := 39) rfl)
theorem ko_s_past_states_9 {h : eb_H} (ko : eb_KO h) : eb_R h s_past_states 9 = some s_past_states_9 := ko (11534672, 9, 21495814) (List.mem_of_getElem? (i := 40) rfl)
theorem ko_s_EB_6 {h : eb_H} (ko : eb_KO h) : eb_R h s_EB 6 = some s_past := ko (10, 6, 11010052) (List.mem_of_getElem? (i := 41) rfl)
theorem ko_s_flights_valley0_5 {h : eb_H} (ko : eb_KO h) : eb_R h s_flights_valley0 5 = some s_flights_valley0_houseCells := ko (23068681, 5, 23593101) (List.mem_of_getElem? (i := 42) rfl)
theorem ko_s_flights_valley0_6 {h : eb_H} (ko : eb_KO h) : eb_R h s_flights_valley0 6 = some s_flights_valley0_heights := ko (23068681, 6, 24117773) (List.mem_of_getElem? (i := 43) rfl)
theorem ko_s_flights_state_5 {h : eb_H} (ko : eb_KO h) : eb_R h s_flights_state 5 = some s_flights_state_things := ko (24641542, 5, 25166349) (List.mem_of_getElem? (i := 44) rfl)
theorem ko_s_flights_1 {h : eb_H} (ko : eb_KO h) : eb_R h s_flights 1 = some s_flights_state := ko (22544385, 1, 24641542) (List.mem_of_getElem? (i := 45) rfl)
theorem ko_s_flights_6 {h : eb_H} (ko : eb_KO h) : eb_R h s_flights 6 = some s_flights_verdicts := ko (22544385, 6, 25704460) (List.mem_of_getElem? (i := 46) rfl)
theorem ko_s_flights_7 {h : eb_H} (ko : eb_KO h) : eb_R h s_flights 7 = some s_flights_order := ko (22544385, 7, 26247181) (List.mem_of_getElem? (i := 47) rfl)
theorem ko_s_flights_8 {h : eb_H} (ko : eb_KO h) : eb_R h s_flights 8 = some s_flights_origins := ko (22544385, 8, 26771469) (List.mem_of_getElem? (i := 48) rfl)
theorem ko_s_flights_9 {h : eb_H} (ko : eb_KO h) : eb_R h s_flights 9 = some s_flights_trace := ko (22544385, 9, 27295756) (List.mem_of_getElem? (i := 49) rfl)
theorem ko_s_EB_7 {h : eb_H} (ko : eb_KO h) : eb_R h s_EB 7 = some s_flights := ko (10, 7, 22544385) (List.mem_of_getElem? (i := 50) rfl)
theorem ko_s_EB_8 {h : eb_H} (ko : eb_KO h) : eb_R h s_EB 8 = some s_draws := ko (10, 8, 28835840) (List.mem_of_getElem? (i := 51) rfl)
theorem ko_s_EB_9 {h : eb_H} (ko : eb_KO h) : eb_R h s_EB 9 = some s_trays := ko (10, 9, 29360273) (List.mem_of_getElem? (i := 52) rfl)
theorem ko_s_EB_10 {h : eb_H} (ko : eb_KO h) : eb_R h s_EB 10 = some s_imageValleys := ko (10, 10, 29884498) (List.mem_of_getElem? (i := 53) rfl)
theorem ko_s_EB_11 {h : eb_H} (ko : eb_KO h) : eb_R h s_EB 11 = some s_imageStates := ko (10, 11, 30408784) (List.mem_of_getElem? (i := 54) rfl)
theorem ko_s_trays_0_0 {h : eb_H} (ko : eb_KO h) : eb_R h s_trays_0 0 = some s_trays_0_values := ko (30933000, 0, 31458574) (List.mem_of_getElem? (i := 55) rfl)
theorem ko_s_trays_0 {h : eb_H} (ko : eb_KO h) : eb_R h s_trays 0 = some s_trays_0 := ko (29360273, 0, 30933000) (List.mem_of_getElem? (i := 56) rfl)
theorem ko_s_trays_1_0 {h : eb_H} (ko : eb_KO h) : eb_R h s_trays_1 0 = some s_trays_1_values := ko (31981576, 0, 32507150) (List.mem_of_getElem? (i := 57) rfl)
theorem ko_s_trays_1 {h : eb_H} (ko : eb_KO h) : eb_R h s_trays 1 = some s_trays_1 := ko (29360273, 1, 31981576) (List.mem_of_getElem? (i := 58) rfl)
theorem ko_s_trays_2_0 {h : eb_H} (ko : eb_KO h) : eb_R h s_trays_2 0 = some s_trays_2_values := ko (33030152, 0, 33555726) (List.mem_of_getElem? (i := 59) rfl)
theorem ko_s_trays_2 {h : eb_H} (ko : eb_KO h) : eb_R h s_trays 2 = some s_trays_2 := ko (29360273, 2, 33030152) (List.mem_of_getElem? (i := 60) rfl)
theorem ko_s_trays_3_0 {h : eb_H} (ko : eb_KO h) : eb_R h s_trays_3 0 = some s_trays_3_values := ko (34078728, 0, 34604302) (List.mem_of_getElem? (i := 61) rfl)
theorem ko_s_trays_3 {h : eb_H} (ko : eb_KO h) : eb_R h s_trays 3 = some s_trays_3 := ko (29360273, 3, 34078728) (List.mem_of_getElem? (i := 62) rfl)
theorem ko_s_imageStates_0_5 {h : eb_H} (ko : eb_KO h) : eb_R h s_imageStates_0 5 = some s_imageStates_0_things := ko (35127302, 5, 35652109) (List.mem_of_getElem? (i := 63) rfl)
theorem ko_s_imageStates_0 {h : eb_H} (ko : eb_KO h) : eb_R h s_imageStates 0 = some s_imageStates_0 := ko (30408784, 0, 35127302) (List.mem_of_getElem? (i := 64) rfl)
theorem ko_s_imageStates_1_5 {h : eb_H} (ko : eb_KO h) : eb_R h s_imageStates_1 5 = some s_imageStates_1_things := ko (36175878, 5, 36700685) (List.mem_of_getElem? (i := 65) rfl)
theorem ko_s_imageStates_1 {h : eb_H} (ko : eb_KO h) : eb_R h s_imageStates 1 = some s_imageStates_1 := ko (30408784, 1, 36175878) (List.mem_of_getElem? (i := 66) rfl)
theorem ko_s_MO_1 {h : eb_H} (ko : eb_KO h) : eb_R h s_MO 1 = some s_m_all := ko (37224459, 1, 37860493) (List.mem_of_getElem? (i := 67) rfl)
theorem ko_s_MO_2 {h : eb_H} (ko : eb_KO h) : eb_R h s_MO 2 = some s_m_hasImage := ko (37224459, 2, 38273103) (List.mem_of_getElem? (i := 68) rfl)
theorem ko_s_MO_3 {h : eb_H} (ko : eb_KO h) : eb_R h s_MO 3 = some s_m_tape := ko (37224459, 3, 38826125) (List.mem_of_getElem? (i := 69) rfl)
theorem ko_s_MO_4 {h : eb_H} (ko : eb_KO h) : eb_R h s_MO 4 = some s_m_fresh := ko (37224459, 4, 39358861) (List.mem_of_getElem? (i := 70) rfl)
theorem ko_s_MO_16 {h : eb_H} (ko : eb_KO h) : eb_R h s_MO 16 = some s_m_reckoned := ko (37224459, 16, 39874701) (List.mem_of_getElem? (i := 71) rfl)
theorem ko_s_MO_17 {h : eb_H} (ko : eb_KO h) : eb_R h s_MO 17 = some s_m_words := ko (37224459, 17, 40370381) (List.mem_of_getElem? (i := 72) rfl)
theorem ko_s_MO_18 {h : eb_H} (ko : eb_KO h) : eb_R h s_MO 18 = some s_m_was := ko (37224459, 18, 40895149) (List.mem_of_getElem? (i := 73) rfl)
theorem ko_s_MO_21 {h : eb_H} (ko : eb_KO h) : eb_R h s_MO 21 = some s_m_then := ko (37224459, 21, 41549837) (List.mem_of_getElem? (i := 74) rfl)
theorem ko_s_MO_22 {h : eb_H} (ko : eb_KO h) : eb_R h s_MO 22 = some s_m_far := ko (37224459, 22, 41975821) (List.mem_of_getElem? (i := 75) rfl)
theorem ko_s_MO_23 {h : eb_H} (ko : eb_KO h) : eb_R h s_MO 23 = some s_m_reached := ko (37224459, 23, 42500111) (List.mem_of_getElem? (i := 76) rfl)
theorem ko_s_MO_24 {h : eb_H} (ko : eb_KO h) : eb_R h s_MO 24 = some s_m_many := ko (37224459, 24, 43024398) (List.mem_of_getElem? (i := 77) rfl)
theorem ko_s_MO_25 {h : eb_H} (ko : eb_KO h) : eb_R h s_MO 25 = some s_m_manyThen := ko (37224459, 25, 43548686) (List.mem_of_getElem? (i := 78) rfl)
theorem ko_s_MO_26 {h : eb_H} (ko : eb_KO h) : eb_R h s_MO 26 = some s_m_still := ko (37224459, 26, 44400654) (List.mem_of_getElem? (i := 79) rfl)
theorem ko_s_MO_27 {h : eb_H} (ko : eb_KO h) : eb_R h s_MO 27 = some s_m_standBy := ko (37224459, 27, 44564813) (List.mem_of_getElem? (i := 80) rfl)
theorem ko_s_MO_28 {h : eb_H} (ko : eb_KO h) : eb_R h s_MO 28 = some s_m_rowSort := ko (37224459, 28, 45088909) (List.mem_of_getElem? (i := 81) rfl)
theorem ko_s_MO_29 {h : eb_H} (ko : eb_KO h) : eb_R h s_MO 29 = some s_m_rowMany := ko (37224459, 29, 45613197) (List.mem_of_getElem? (i := 82) rfl)
theorem ko_s_MO_30 {h : eb_H} (ko : eb_KO h) : eb_R h s_MO 30 = some s_m_numbers := ko (37224459, 30, 46142478) (List.mem_of_getElem? (i := 83) rfl)
theorem eb_joinI {d : Nat} {M : eb_M} {h0 : eb_H} {pc : Nat} {ls : List (Nat × Value)} {st : List Value} {h : eb_H} {Q : Option Value → eb_H → Prop} (pc2 : Nat) (ls2 : List (Nat × Value)) (st2 : List Value) (v : Int32) (k : eb_Sn d M h0 pc2 ls2 (.int v :: st2) h Q) (f : (∀ w : Int32, w = v → eb_Sn d M h0 pc2 ls2 (.int w :: st2) h Q) → eb_Sn d M h0 pc ls st h Q) : eb_Sn d M h0 pc ls st h Q := f (fun w e => by rw [e]; exact k)
theorem eb_joinL {d : Nat} {M : eb_M} {h0 : eb_H} {pc : Nat} {ls : List (Nat × Value)} {st : List Value} {h : eb_H} {Q : Option Value → eb_H → Prop} (pc2 : Nat) (ls2 : List (Nat × Value)) (st2 : List Value) (v : Int64) (k : eb_Sn d M h0 pc2 ls2 (.long v :: st2) h Q) (f : (∀ w : Int64, w = v → eb_Sn d M h0 pc2 ls2 (.long w :: st2) h Q) → eb_Sn d M h0 pc ls st h Q) : eb_Sn d M h0 pc ls st h Q := f (fun w e => by rw [e]; exact k)
/-- a truth as an int -/
def eb_q (p : Prop) [Decidable p] : Int32 := if p then 1 else 0
theorem eb_qt {p : Prop} [Decidable p] (h : p) : eb_q p = 1 := if_pos h
theorem eb_qf {p : Prop} [Decidable p] (h : ¬ p) : eb_q p = 0 := if_neg h
theorem eb_q0 {p : Prop} [Decidable p] : eb_q p = 0 ↔ ¬ p := by
  unfold eb_q
  split
  · rename_i h; exact ⟨fun q => absurd q (by decide), fun q => absurd h q⟩
  · rename_i h; exact ⟨fun _ => h, fun _ => rfl⟩
theorem eb_q1 {p : Prop} [Decidable p] : ¬ eb_q p = 0 ↔ p := by
  rw [eb_q0]
  exact Decidable.not_not
theorem eb_qn {p : Prop} [Decidable p] : narrow .boolean (.int (eb_q p)) = .int (eb_q p) := by
  unfold eb_q
  split <;> rfl
theorem eb_k20 {j c : Nat} (h : eb_kd j = c) (h2 : c < 20) : eb_kd j < 20 := by rw [h]; exact h2
theorem ko_sR {h : eb_H} {i k : Nat} {v : Option Nat} (hn : ∀ q ∈ eb_koL, q.1 = i → q.2.1 = k → False) (ko : eb_KO h) : eb_KO (eb_sR h i k v) := by
  intro q hq
  have h1 := ko q hq
  by_cases e : q.1 = i
  · by_cases e2 : q.2.1 = k
    · exact (hn q hq e e2).elim
    · rw [← h1]
      subst e
      simp [eb_R, eb_sR, eb_rR, va_up, e2]
  · rw [← h1]
    simp [eb_R, eb_sR, eb_rR, va_up, e]
theorem ko_sRi {h : eb_H} {i k : Nat} {v : Option Nat} (hn : ∀ q ∈ eb_koL, q.1 ≠ i) (ko : eb_KO h) : eb_KO (eb_sR h i k v) := ko_sR (fun q hq e _ => hn q hq e) ko
theorem ko_sRk {h : eb_H} {i k c : Nat} {v : Option Nat} (hk : eb_kd i = c) (hn : ∀ q ∈ eb_koL, eb_kd q.1 = c → q.2.1 = k → False) (ko : eb_KO h) : eb_KO (eb_sR h i k v) := ko_sR (fun q hq e e2 => hn q hq (by rw [e]; exact hk) e2) ko
theorem ko_ix : ∀ q ∈ eb_koL, eb_ix q.1 < 89 := by decide +kernel
theorem ko_nw {h : eb_H} {k len sl : Nat} (hn : 89 ≤ eb_n h) (ko : eb_KO h) : eb_KO (eb_nw h k len sl) := by
  intro q hq
  have h1 := ko q hq
  have h2 := ko_ix q hq
  have hne : q.1 ≠ eb_nx h k len := by
    intro e
    have : eb_n h ≤ eb_ix q.1 := by
      rw [e]; unfold eb_nx eb_mk eb_ix
      omega
    omega
  rw [← h1]
  show va_up (eb_R h) (eb_nx h k len) (fun _ => none) q.1 q.2.1 = _
  simp [va_up, hne]
theorem eb_lc_eq {x y : Int64} : lg_cmp x y = 0 ↔ x = y := by
  unfold lg_cmp
  simp only [GT.gt, Int64.lt_iff_toInt_lt, ← Int64.toInt_inj]
  split
  · exact ⟨fun q => absurd q (by decide), fun q => by omega⟩
  · split
    · exact ⟨fun _ => by omega, fun _ => rfl⟩
    · exact ⟨fun q => absurd q (by decide), fun q => by omega⟩
theorem eb_lc_ne {x y : Int64} : ¬ lg_cmp x y = 0 ↔ ¬ x = y := not_congr eb_lc_eq
theorem eb_lc_gt {x y : Int64} : 0 < lg_cmp x y ↔ y < x := by
  unfold lg_cmp
  simp only [GT.gt, Int64.lt_iff_toInt_lt, ← Int64.toInt_inj]
  split
  · exact ⟨fun _ => by omega, fun _ => by decide⟩
  · split
    · exact ⟨fun q => absurd q (by decide), fun q => by omega⟩
    · exact ⟨fun q => absurd q (by decide), fun q => by omega⟩
theorem eb_lc_lt {x y : Int64} : lg_cmp x y < 0 ↔ x < y := by
  unfold lg_cmp
  simp only [GT.gt, Int64.lt_iff_toInt_lt, ← Int64.toInt_inj]
  split
  · exact ⟨fun q => absurd q (by decide), fun q => by omega⟩
  · split
    · exact ⟨fun q => absurd q (by decide), fun q => by omega⟩
    · exact ⟨fun _ => by omega, fun _ => by decide⟩
theorem eb_lc_ge {x y : Int64} : 0 ≤ lg_cmp x y ↔ y ≤ x := by
  rw [← Int32.not_lt, eb_lc_lt, Int64.not_lt]
theorem eb_lc_le {x y : Int64} : lg_cmp x y ≤ 0 ↔ x ≤ y := by
  rw [← Int32.not_lt, eb_lc_gt, Int64.not_lt]
