/-! Rows of methods that change no cell: their answer alone. -/
def rP (ty : FieldType) (v : Int32) : Option Int32 := if vp_nar ty v = v then some v else none
def cvP {X : Type} (G : GH) (b ci : Nat) (r : Option Int32) (K : Int32 → Option X) : Option X := match G b with
  | some (.inr (c, _)) => if c = ci then r.bind K else none
  | _ => none
theorem cvP_is {X : Type} {G : GH} {b ci : Nat} {r : Option Int32} {K : Int32 → Option X} {z : X} (h : cvP G b ci r K = some z) : (∃ fs, G b = some (.inr (ci, fs))) ∧ ∃ q, r = some q ∧ K q = some z := by
  unfold cvP at h
  split at h
  · rename_i c fs hb
    split at h
    · rename_i hc
      subst hc
      exact ⟨⟨fs, hb⟩, Option.bind_eq_some_iff.mp h⟩
    · cases h
  · cases h
section GP
variable {E : GE} {own nm : String} {cc : ByteArray} {mL : Nat} {ret : Option FieldType} {fr lo rc rs pc nx tg : Nat} {off : Int} {lv : List (Nat × Value)} {st rest : List Value} {n : Nat} {G : GH} {out : GQ}
variable {y : MethodName} {ycc : ByteArray} {ymL : Nat} {yret : Option FieldType} {fr1 lo1 mc1 ms1 idx : Nat} {o1 : GO} {b ci : Nat} {st0 : List Value}
theorem r_wk {rc1 rs1 : Nat} (h1 : Nat.ble rc1 rc = true) (h2 : Nat.ble rs1 rs = true) (kk : WG E own nm cc mL ret fr lo rc1 rs1 pc lv st n G out) : WG E own nm cc mL ret fr lo rc rs pc lv st n G out := by
  intro p l e R s m args below meth c H locs cells slots ls C hc hs hr ho hv
  have a1 := Nat.le_of_ble_eq_true h1
  have a2 := Nat.le_of_ble_eq_true h2
  exact kk p l e R s m args below meth c H locs cells slots ls C (by omega) (by omega) hr ho hv
theorem r_pret {v z : Int32} (h : some v = some z) (hd : dec 1 cc pc .ireturn nx) : WG E own nm cc mL (some .int) fr lo rc rs pc lv [.int v] n G (g_O E (some (.int z), n, G)) := by
  cases h
  exact r_iret (z := (v, n, G)) rfl hd
theorem r_pzret {v z : Int32} (h : rP .boolean v = some z) (hd : dec 1 cc pc .ireturn nx) : WG E own nm cc mL (some .boolean) fr lo rc rs pc lv [.int v] n G (g_O E (some (.int z), n, G)) := by
  refine r_zret (z := (z, n, G)) ?_ hd
  unfold rP at h
  unfold rN
  split at h
  · rename_i hq
    cases h
    rw [if_pos hq]
  · cases h
theorem r_pbret {v z : Int32} (h : rP .byte v = some z) (hd : dec 1 cc pc .ireturn nx) : WG E own nm cc mL (some .byte) fr lo rc rs pc lv [.int v] n G (g_O E (some (.int z), n, G)) := by
  refine r_bret (z := (z, n, G)) ?_ hd
  unfold rP at h
  unfold rN
  split at h
  · rename_i hq
    cases h
    rw [if_pos hq]
  · cases h
theorem r_invP {X : Type} {r : Option Int32} {K : Int32 → Option X} {z : X} (as : List Value) (h : cvP G b ci r K = some z) (hs : ∀ q, r = some q → GM E y ycc ymL yret fr1 lo1 mc1 ms1 (.ref b :: as) n G (some (.int q), n, G)) (hd : dec 3 cc pc (.invokevirtual idx) nx) (hl : pL own idx y) (hY : pY y ycc ymL yret as.length) (hI : pI y ci) (hst : st0 = as.reverse ++ .ref b :: rest) (hw : g_cat rest = true) (hR : g_room fr1 lo1 mc1 ms1 ymL fr lo rc rs = true)
    (kk : ∀ v, K v = some z → WG E own nm cc mL ret fr lo (rc - mc1) (rs - ms1) nx lv (.int v :: rest) n G out) : WG E own nm cc mL ret fr lo rc rs pc lv st0 n G out := by
  obtain ⟨⟨fs, h1⟩, q, h2, h3⟩ := cvP_is h
  exact g_invV (hs q h2) hd hl hY hI h1 hst hw hR (kk _ h3)
theorem r_invSP {X : Type} {r : Option Int32} {K : Int32 → Option X} {z : X} (as : List Value) (h : Option.bind r K = some z) (hs : ∀ q, r = some q → GM E y ycc ymL yret fr1 lo1 mc1 ms1 as n G (some (.int q), n, G)) (hd : dec 3 cc pc (.invokestatic idx) nx) (hl : pL own idx y) (hY : pY y ycc ymL yret as.length) (hI : Cond.static y ∈ g_tbl) (hst : st0 = as.reverse ++ rest) (hw : g_cat rest = true) (hR : g_room fr1 lo1 mc1 ms1 ymL fr lo rc rs = true)
    (kk : ∀ v, K v = some z → WG E own nm cc mL ret fr lo (rc - mc1) (rs - ms1) nx lv (.int v :: rest) n G out) : WG E own nm cc mL ret fr lo rc rs pc lv st0 n G out := by
  obtain ⟨q, h2, h3⟩ := Option.bind_eq_some_iff.mp h
  exact g_invS (hs q h2) hd hl hY hI hst hw hR (kk _ h3)
theorem g_room_of {ymL : Nat} (h : fr1 + 1 ≤ fr ∧ 8 + (ymL + 11) + lo1 ≤ lo ∧ mc1 ≤ rc ∧ ms1 ≤ rs) : g_room fr1 lo1 mc1 ms1 ymL fr lo rc rs = true := by
  unfold g_room
  rw [Nat.ble_eq_true_of_le h.1, Nat.ble_eq_true_of_le h.2.1, Nat.ble_eq_true_of_le h.2.2.1, Nat.ble_eq_true_of_le h.2.2.2]
  rfl
end GP
theorem ic_m1 : Int32.ofInt (-1) = (-1 : Int32) := by decide
theorem ic_0 : Int32.ofInt (0) = (0 : Int32) := by decide
theorem ic_1 : Int32.ofInt (1) = (1 : Int32) := by decide
theorem ic_2 : Int32.ofInt (2) = (2 : Int32) := by decide
theorem ic_3 : Int32.ofInt (3) = (3 : Int32) := by decide
theorem ic_4 : Int32.ofInt (4) = (4 : Int32) := by decide
theorem ic_5 : Int32.ofInt (5) = (5 : Int32) := by decide
theorem bp_6 : (Int8.ofInt (6)).toInt32 = (6 : Int32) := by decide
theorem bp_7 : (Int8.ofInt (7)).toInt32 = (7 : Int32) := by decide
theorem bp_8 : (Int8.ofInt (8)).toInt32 = (8 : Int32) := by decide
theorem bp_9 : (Int8.ofInt (9)).toInt32 = (9 : Int32) := by decide
theorem bp_10 : (Int8.ofInt (10)).toInt32 = (10 : Int32) := by decide
theorem bp_11 : (Int8.ofInt (11)).toInt32 = (11 : Int32) := by decide
theorem bp_12 : (Int8.ofInt (12)).toInt32 = (12 : Int32) := by decide
theorem bp_13 : (Int8.ofInt (13)).toInt32 = (13 : Int32) := by decide
theorem bp_14 : (Int8.ofInt (14)).toInt32 = (14 : Int32) := by decide
theorem bp_15 : (Int8.ofInt (15)).toInt32 = (15 : Int32) := by decide
theorem bp_16 : (Int8.ofInt (16)).toInt32 = (16 : Int32) := by decide
theorem bp_17 : (Int8.ofInt (17)).toInt32 = (17 : Int32) := by decide
theorem bp_18 : (Int8.ofInt (18)).toInt32 = (18 : Int32) := by decide
theorem bp_19 : (Int8.ofInt (19)).toInt32 = (19 : Int32) := by decide
theorem bp_20 : (Int8.ofInt (20)).toInt32 = (20 : Int32) := by decide
theorem bp_21 : (Int8.ofInt (21)).toInt32 = (21 : Int32) := by decide
theorem bp_22 : (Int8.ofInt (22)).toInt32 = (22 : Int32) := by decide
theorem bp_23 : (Int8.ofInt (23)).toInt32 = (23 : Int32) := by decide
theorem bp_24 : (Int8.ofInt (24)).toInt32 = (24 : Int32) := by decide
theorem bp_25 : (Int8.ofInt (25)).toInt32 = (25 : Int32) := by decide
theorem bp_26 : (Int8.ofInt (26)).toInt32 = (26 : Int32) := by decide
theorem bp_27 : (Int8.ofInt (27)).toInt32 = (27 : Int32) := by decide
theorem bp_28 : (Int8.ofInt (28)).toInt32 = (28 : Int32) := by decide
theorem bp_29 : (Int8.ofInt (29)).toInt32 = (29 : Int32) := by decide
theorem bp_30 : (Int8.ofInt (30)).toInt32 = (30 : Int32) := by decide
theorem bp_31 : (Int8.ofInt (31)).toInt32 = (31 : Int32) := by decide
theorem bp_32 : (Int8.ofInt (32)).toInt32 = (32 : Int32) := by decide
theorem bp_33 : (Int8.ofInt (33)).toInt32 = (33 : Int32) := by decide
theorem bp_34 : (Int8.ofInt (34)).toInt32 = (34 : Int32) := by decide
theorem bp_35 : (Int8.ofInt (35)).toInt32 = (35 : Int32) := by decide
theorem bp_36 : (Int8.ofInt (36)).toInt32 = (36 : Int32) := by decide
theorem bp_37 : (Int8.ofInt (37)).toInt32 = (37 : Int32) := by decide
theorem bp_38 : (Int8.ofInt (38)).toInt32 = (38 : Int32) := by decide
theorem bp_39 : (Int8.ofInt (39)).toInt32 = (39 : Int32) := by decide
theorem bp_40 : (Int8.ofInt (40)).toInt32 = (40 : Int32) := by decide
theorem bp_41 : (Int8.ofInt (41)).toInt32 = (41 : Int32) := by decide
theorem bp_42 : (Int8.ofInt (42)).toInt32 = (42 : Int32) := by decide
theorem bp_43 : (Int8.ofInt (43)).toInt32 = (43 : Int32) := by decide
theorem bp_44 : (Int8.ofInt (44)).toInt32 = (44 : Int32) := by decide
theorem bp_45 : (Int8.ofInt (45)).toInt32 = (45 : Int32) := by decide
theorem bp_46 : (Int8.ofInt (46)).toInt32 = (46 : Int32) := by decide
theorem bp_47 : (Int8.ofInt (47)).toInt32 = (47 : Int32) := by decide
theorem bp_48 : (Int8.ofInt (48)).toInt32 = (48 : Int32) := by decide
theorem bp_49 : (Int8.ofInt (49)).toInt32 = (49 : Int32) := by decide
theorem bp_50 : (Int8.ofInt (50)).toInt32 = (50 : Int32) := by decide
theorem bp_51 : (Int8.ofInt (51)).toInt32 = (51 : Int32) := by decide
theorem bp_52 : (Int8.ofInt (52)).toInt32 = (52 : Int32) := by decide
theorem bp_53 : (Int8.ofInt (53)).toInt32 = (53 : Int32) := by decide
theorem bp_54 : (Int8.ofInt (54)).toInt32 = (54 : Int32) := by decide
theorem bp_55 : (Int8.ofInt (55)).toInt32 = (55 : Int32) := by decide
theorem bp_56 : (Int8.ofInt (56)).toInt32 = (56 : Int32) := by decide
theorem bp_57 : (Int8.ofInt (57)).toInt32 = (57 : Int32) := by decide
theorem bp_58 : (Int8.ofInt (58)).toInt32 = (58 : Int32) := by decide
theorem bp_59 : (Int8.ofInt (59)).toInt32 = (59 : Int32) := by decide
theorem bp_60 : (Int8.ofInt (60)).toInt32 = (60 : Int32) := by decide
theorem bp_61 : (Int8.ofInt (61)).toInt32 = (61 : Int32) := by decide
theorem bp_62 : (Int8.ofInt (62)).toInt32 = (62 : Int32) := by decide
theorem bp_63 : (Int8.ofInt (63)).toInt32 = (63 : Int32) := by decide
theorem bp_64 : (Int8.ofInt (64)).toInt32 = (64 : Int32) := by decide
theorem bp_65 : (Int8.ofInt (65)).toInt32 = (65 : Int32) := by decide
theorem bp_66 : (Int8.ofInt (66)).toInt32 = (66 : Int32) := by decide
theorem bp_67 : (Int8.ofInt (67)).toInt32 = (67 : Int32) := by decide
theorem bp_68 : (Int8.ofInt (68)).toInt32 = (68 : Int32) := by decide
theorem bp_69 : (Int8.ofInt (69)).toInt32 = (69 : Int32) := by decide
theorem bp_70 : (Int8.ofInt (70)).toInt32 = (70 : Int32) := by decide
theorem bp_71 : (Int8.ofInt (71)).toInt32 = (71 : Int32) := by decide
theorem bp_72 : (Int8.ofInt (72)).toInt32 = (72 : Int32) := by decide
theorem bp_73 : (Int8.ofInt (73)).toInt32 = (73 : Int32) := by decide
theorem bp_74 : (Int8.ofInt (74)).toInt32 = (74 : Int32) := by decide
theorem bp_75 : (Int8.ofInt (75)).toInt32 = (75 : Int32) := by decide
theorem bp_76 : (Int8.ofInt (76)).toInt32 = (76 : Int32) := by decide
theorem bp_77 : (Int8.ofInt (77)).toInt32 = (77 : Int32) := by decide
theorem bp_78 : (Int8.ofInt (78)).toInt32 = (78 : Int32) := by decide
theorem bp_79 : (Int8.ofInt (79)).toInt32 = (79 : Int32) := by decide
theorem bp_80 : (Int8.ofInt (80)).toInt32 = (80 : Int32) := by decide
theorem bp_81 : (Int8.ofInt (81)).toInt32 = (81 : Int32) := by decide
theorem bp_82 : (Int8.ofInt (82)).toInt32 = (82 : Int32) := by decide
theorem bp_83 : (Int8.ofInt (83)).toInt32 = (83 : Int32) := by decide
theorem bp_84 : (Int8.ofInt (84)).toInt32 = (84 : Int32) := by decide
theorem bp_85 : (Int8.ofInt (85)).toInt32 = (85 : Int32) := by decide
theorem bp_86 : (Int8.ofInt (86)).toInt32 = (86 : Int32) := by decide
theorem bp_87 : (Int8.ofInt (87)).toInt32 = (87 : Int32) := by decide
theorem bp_88 : (Int8.ofInt (88)).toInt32 = (88 : Int32) := by decide
theorem bp_89 : (Int8.ofInt (89)).toInt32 = (89 : Int32) := by decide
theorem bp_90 : (Int8.ofInt (90)).toInt32 = (90 : Int32) := by decide
theorem bp_91 : (Int8.ofInt (91)).toInt32 = (91 : Int32) := by decide
theorem bp_92 : (Int8.ofInt (92)).toInt32 = (92 : Int32) := by decide
theorem bp_93 : (Int8.ofInt (93)).toInt32 = (93 : Int32) := by decide
theorem bp_94 : (Int8.ofInt (94)).toInt32 = (94 : Int32) := by decide
theorem bp_95 : (Int8.ofInt (95)).toInt32 = (95 : Int32) := by decide
theorem bp_96 : (Int8.ofInt (96)).toInt32 = (96 : Int32) := by decide
theorem bp_97 : (Int8.ofInt (97)).toInt32 = (97 : Int32) := by decide
theorem bp_98 : (Int8.ofInt (98)).toInt32 = (98 : Int32) := by decide
theorem bp_99 : (Int8.ofInt (99)).toInt32 = (99 : Int32) := by decide
theorem bp_100 : (Int8.ofInt (100)).toInt32 = (100 : Int32) := by decide
theorem bp_101 : (Int8.ofInt (101)).toInt32 = (101 : Int32) := by decide
theorem bp_102 : (Int8.ofInt (102)).toInt32 = (102 : Int32) := by decide
theorem bp_103 : (Int8.ofInt (103)).toInt32 = (103 : Int32) := by decide
theorem bp_104 : (Int8.ofInt (104)).toInt32 = (104 : Int32) := by decide
theorem bp_105 : (Int8.ofInt (105)).toInt32 = (105 : Int32) := by decide
theorem bp_106 : (Int8.ofInt (106)).toInt32 = (106 : Int32) := by decide
theorem bp_107 : (Int8.ofInt (107)).toInt32 = (107 : Int32) := by decide
theorem bp_108 : (Int8.ofInt (108)).toInt32 = (108 : Int32) := by decide
theorem bp_109 : (Int8.ofInt (109)).toInt32 = (109 : Int32) := by decide
theorem bp_110 : (Int8.ofInt (110)).toInt32 = (110 : Int32) := by decide
theorem bp_111 : (Int8.ofInt (111)).toInt32 = (111 : Int32) := by decide
theorem bp_112 : (Int8.ofInt (112)).toInt32 = (112 : Int32) := by decide
theorem bp_113 : (Int8.ofInt (113)).toInt32 = (113 : Int32) := by decide
theorem bp_114 : (Int8.ofInt (114)).toInt32 = (114 : Int32) := by decide
theorem bp_115 : (Int8.ofInt (115)).toInt32 = (115 : Int32) := by decide
theorem bp_116 : (Int8.ofInt (116)).toInt32 = (116 : Int32) := by decide
theorem bp_117 : (Int8.ofInt (117)).toInt32 = (117 : Int32) := by decide
theorem bp_118 : (Int8.ofInt (118)).toInt32 = (118 : Int32) := by decide
theorem bp_119 : (Int8.ofInt (119)).toInt32 = (119 : Int32) := by decide
theorem bp_120 : (Int8.ofInt (120)).toInt32 = (120 : Int32) := by decide
theorem bp_121 : (Int8.ofInt (121)).toInt32 = (121 : Int32) := by decide
theorem bp_122 : (Int8.ofInt (122)).toInt32 = (122 : Int32) := by decide
theorem bp_123 : (Int8.ofInt (123)).toInt32 = (123 : Int32) := by decide
theorem bp_124 : (Int8.ofInt (124)).toInt32 = (124 : Int32) := by decide
theorem bp_125 : (Int8.ofInt (125)).toInt32 = (125 : Int32) := by decide
theorem bp_126 : (Int8.ofInt (126)).toInt32 = (126 : Int32) := by decide
theorem bp_127 : (Int8.ofInt (127)).toInt32 = (127 : Int32) := by decide
theorem bp_m2 : (Int8.ofInt (-2)).toInt32 = (-2 : Int32) := by decide
theorem bp_m3 : (Int8.ofInt (-3)).toInt32 = (-3 : Int32) := by decide
theorem bp_m4 : (Int8.ofInt (-4)).toInt32 = (-4 : Int32) := by decide
theorem bp_m9 : (Int8.ofInt (-9)).toInt32 = (-9 : Int32) := by decide
