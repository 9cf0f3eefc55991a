/-! X11_init -/
theorem qol_X11_1 : Cond.methodLink RX11 1 objectInit ∈ g_tbl := g_in 1144 (by decide +kernel) rfl
theorem pw_X11_7 : pW RX11 "<init>" 7 11 1 (.array .int) := ⟨RX11, TX11, 37, rfl, by decide, rfl, Or.inl ⟨g_in 1146 (by decide +kernel) rfl, Or.inr ⟨rfl, rfl, rfl⟩⟩, by decide +kernel⟩
theorem pw_X11_13 : pW RX11 "<init>" 13 11 2 (.array .byte) := ⟨RX11, TX11, 37, rfl, by decide, rfl, Or.inl ⟨g_in 1147 (by decide +kernel) rfl, Or.inr ⟨rfl, rfl, rfl⟩⟩, by decide +kernel⟩
theorem pw_X11_17 : pW RX11 "<init>" 17 11 3 (.array .boolean) := ⟨RX11, TX11, 37, rfl, by decide, rfl, Or.inl ⟨g_in 1148 (by decide +kernel) rfl, Or.inr ⟨rfl, rfl, rfl⟩⟩, by decide +kernel⟩
theorem pw_X11_21 : pW RX11 "<init>" 21 11 4 (.array .int) := ⟨RX11, TX11, 37, rfl, by decide, rfl, Or.inl ⟨g_in 1149 (by decide +kernel) rfl, Or.inr ⟨rfl, rfl, rfl⟩⟩, by decide +kernel⟩
theorem pw_X11_24 : pW RX11 "<init>" 24 11 16 (.array .int) := ⟨RX11, TX11, 37, rfl, by decide, rfl, Or.inl ⟨g_in 1161 (by decide +kernel) rfl, Or.inr ⟨rfl, rfl, rfl⟩⟩, by decide +kernel⟩
theorem pw_X11_27 : pW RX11 "<init>" 27 11 17 (.array .int) := ⟨RX11, TX11, 37, rfl, by decide, rfl, Or.inl ⟨g_in 1162 (by decide +kernel) rfl, Or.inr ⟨rfl, rfl, rfl⟩⟩, by decide +kernel⟩
theorem pw_X11_30 : pW RX11 "<init>" 30 11 18 (.array .int) := ⟨RX11, TX11, 37, rfl, by decide, rfl, Or.inl ⟨g_in 1163 (by decide +kernel) rfl, Or.inr ⟨rfl, rfl, rfl⟩⟩, by decide +kernel⟩
theorem pw_X11_33 : pW RX11 "<init>" 33 11 20 (.array .int) := ⟨RX11, TX11, 37, rfl, by decide, rfl, Or.inl ⟨g_in 1165 (by decide +kernel) rfl, Or.inr ⟨rfl, rfl, rfl⟩⟩, by decide +kernel⟩
theorem pw_X11_36 : pW RX11 "<init>" 36 11 21 (.array .int) := ⟨RX11, TX11, 37, rfl, by decide, rfl, Or.inl ⟨g_in 1166 (by decide +kernel) rfl, Or.inr ⟨rfl, rfl, rfl⟩⟩, by decide +kernel⟩
theorem pw_X11_39 : pW RX11 "<init>" 39 11 22 (.array .int) := ⟨RX11, TX11, 37, rfl, by decide, rfl, Or.inl ⟨g_in 1167 (by decide +kernel) rfl, Or.inr ⟨rfl, rfl, rfl⟩⟩, by decide +kernel⟩
theorem pw_X11_42 : pW RX11 "<init>" 42 11 23 (.array .int) := ⟨RX11, TX11, 37, rfl, by decide, rfl, Or.inl ⟨g_in 1168 (by decide +kernel) rfl, Or.inr ⟨rfl, rfl, rfl⟩⟩, by decide +kernel⟩
theorem pw_X11_45 : pW RX11 "<init>" 45 11 24 (.array .int) := ⟨RX11, TX11, 37, rfl, by decide, rfl, Or.inl ⟨g_in 1169 (by decide +kernel) rfl, Or.inr ⟨rfl, rfl, rfl⟩⟩, by decide +kernel⟩
theorem pw_X11_48 : pW RX11 "<init>" 48 11 25 (.array .int) := ⟨RX11, TX11, 37, rfl, by decide, rfl, Or.inl ⟨g_in 1170 (by decide +kernel) rfl, Or.inr ⟨rfl, rfl, rfl⟩⟩, by decide +kernel⟩
theorem pw_X11_51 : pW RX11 "<init>" 51 11 27 (.array .int) := ⟨RX11, TX11, 37, rfl, by decide, rfl, Or.inl ⟨g_in 1172 (by decide +kernel) rfl, Or.inr ⟨rfl, rfl, rfl⟩⟩, by decide +kernel⟩
theorem pw_X11_54 : pW RX11 "<init>" 54 11 28 (.array .int) := ⟨RX11, TX11, 37, rfl, by decide, rfl, Or.inl ⟨g_in 1173 (by decide +kernel) rfl, Or.inr ⟨rfl, rfl, rfl⟩⟩, by decide +kernel⟩
theorem pw_X11_57 : pW RX11 "<init>" 57 11 30 (.array .int) := ⟨RX11, TX11, 37, rfl, by decide, rfl, Or.inl ⟨g_in 1175 (by decide +kernel) rfl, Or.inr ⟨rfl, rfl, rfl⟩⟩, by decide +kernel⟩
theorem pw_X11_60 : pW RX11 "<init>" 60 11 31 (.array .int) := ⟨RX11, TX11, 37, rfl, by decide, rfl, Or.inl ⟨g_in 1176 (by decide +kernel) rfl, Or.inr ⟨rfl, rfl, rfl⟩⟩, by decide +kernel⟩
theorem pw_X11_63 : pW RX11 "<init>" 63 11 33 (.array .int) := ⟨RX11, TX11, 37, rfl, by decide, rfl, Or.inl ⟨g_in 1178 (by decide +kernel) rfl, Or.inr ⟨rfl, rfl, rfl⟩⟩, by decide +kernel⟩
theorem pw_X11_66 : pW RX11 "<init>" 66 11 34 (.array .int) := ⟨RX11, TX11, 37, rfl, by decide, rfl, Or.inl ⟨g_in 1179 (by decide +kernel) rfl, Or.inr ⟨rfl, rfl, rfl⟩⟩, by decide +kernel⟩
theorem pw_X11_69 : pW RX11 "<init>" 69 11 36 (.array .int) := ⟨RX11, TX11, 37, rfl, by decide, rfl, Or.inl ⟨g_in 1181 (by decide +kernel) rfl, Or.inr ⟨rfl, rfl, rfl⟩⟩, by decide +kernel⟩
theorem pf_X11_7 : pF RX11 7 11 1 := ⟨RX11, TX11, 37, rfl, by decide, rfl, Or.inl (g_in 1146 (by decide +kernel) rfl)⟩
theorem d_X11_init_0 : decAL cX11_init 0 0 1 := Or.inr ⟨0, rfl, by decide +kernel, rfl⟩
theorem d_X11_init_1 : dec 3 cX11_init 1 (.invokespecial 1) 4 := ⟨by decide +kernel, rfl⟩
theorem d_X11_init_4 : decAL cX11_init 4 0 5 := Or.inr ⟨0, rfl, by decide +kernel, rfl⟩
theorem d_X11_init_5 : dec 3 cX11_init 5 (.sipush 4470) 8 := ⟨by decide +kernel, rfl⟩
theorem d_X11_init_8 : dec 2 cX11_init 8 (.newarray .int) 10 := ⟨by decide +kernel, rfl⟩
theorem d_X11_init_10 : dec 3 cX11_init 10 (.putfield 7) 13 := ⟨by decide +kernel, rfl⟩
theorem d_X11_init_13 : decAL cX11_init 13 0 14 := Or.inr ⟨0, rfl, by decide +kernel, rfl⟩
theorem d_X11_init_14 : dec 3 cX11_init 14 (.sipush 2400) 17 := ⟨by decide +kernel, rfl⟩
theorem d_X11_init_17 : dec 2 cX11_init 17 (.newarray .byte) 19 := ⟨by decide +kernel, rfl⟩
theorem d_X11_init_19 : dec 3 cX11_init 19 (.putfield 13) 22 := ⟨by decide +kernel, rfl⟩
theorem d_X11_init_22 : decAL cX11_init 22 0 23 := Or.inr ⟨0, rfl, by decide +kernel, rfl⟩
theorem d_X11_init_23 : dec 1 cX11_init 23 (.iconst 3) 24 := ⟨by decide +kernel, rfl⟩
theorem d_X11_init_24 : dec 2 cX11_init 24 (.newarray .boolean) 26 := ⟨by decide +kernel, rfl⟩
theorem d_X11_init_26 : dec 3 cX11_init 26 (.putfield 17) 29 := ⟨by decide +kernel, rfl⟩
theorem d_X11_init_29 : decAL cX11_init 29 0 30 := Or.inr ⟨0, rfl, by decide +kernel, rfl⟩
theorem d_X11_init_30 : dec 3 cX11_init 30 (.sipush 7128) 33 := ⟨by decide +kernel, rfl⟩
theorem d_X11_init_33 : dec 2 cX11_init 33 (.newarray .int) 35 := ⟨by decide +kernel, rfl⟩
theorem d_X11_init_35 : dec 3 cX11_init 35 (.putfield 21) 38 := ⟨by decide +kernel, rfl⟩
theorem d_X11_init_38 : decAL cX11_init 38 0 39 := Or.inr ⟨0, rfl, by decide +kernel, rfl⟩
theorem d_X11_init_39 : dec 3 cX11_init 39 (.sipush 891) 42 := ⟨by decide +kernel, rfl⟩
theorem d_X11_init_42 : dec 2 cX11_init 42 (.newarray .int) 44 := ⟨by decide +kernel, rfl⟩
theorem d_X11_init_44 : dec 3 cX11_init 44 (.putfield 24) 47 := ⟨by decide +kernel, rfl⟩
theorem d_X11_init_47 : decAL cX11_init 47 0 48 := Or.inr ⟨0, rfl, by decide +kernel, rfl⟩
theorem d_X11_init_48 : dec 3 cX11_init 48 (.sipush 300) 51 := ⟨by decide +kernel, rfl⟩
theorem d_X11_init_51 : dec 2 cX11_init 51 (.newarray .int) 53 := ⟨by decide +kernel, rfl⟩
theorem d_X11_init_53 : dec 3 cX11_init 53 (.putfield 27) 56 := ⟨by decide +kernel, rfl⟩
theorem d_X11_init_56 : decAL cX11_init 56 0 57 := Or.inr ⟨0, rfl, by decide +kernel, rfl⟩
theorem d_X11_init_57 : dec 3 cX11_init 57 (.sipush 300) 60 := ⟨by decide +kernel, rfl⟩
theorem d_X11_init_60 : dec 2 cX11_init 60 (.newarray .int) 62 := ⟨by decide +kernel, rfl⟩
theorem d_X11_init_62 : dec 3 cX11_init 62 (.putfield 30) 65 := ⟨by decide +kernel, rfl⟩
theorem d_X11_init_65 : decAL cX11_init 65 0 66 := Or.inr ⟨0, rfl, by decide +kernel, rfl⟩
theorem d_X11_init_66 : dec 2 cX11_init 66 (.bipush 11) 68 := ⟨by decide +kernel, rfl⟩
theorem d_X11_init_68 : dec 2 cX11_init 68 (.newarray .int) 70 := ⟨by decide +kernel, rfl⟩
theorem d_X11_init_70 : dec 3 cX11_init 70 (.putfield 33) 73 := ⟨by decide +kernel, rfl⟩
theorem d_X11_init_73 : decAL cX11_init 73 0 74 := Or.inr ⟨0, rfl, by decide +kernel, rfl⟩
theorem d_X11_init_74 : dec 2 cX11_init 74 (.bipush 16) 76 := ⟨by decide +kernel, rfl⟩
theorem d_X11_init_76 : dec 2 cX11_init 76 (.newarray .int) 78 := ⟨by decide +kernel, rfl⟩
theorem d_X11_init_78 : dec 3 cX11_init 78 (.putfield 36) 81 := ⟨by decide +kernel, rfl⟩
theorem d_X11_init_81 : decAL cX11_init 81 0 82 := Or.inr ⟨0, rfl, by decide +kernel, rfl⟩
theorem d_X11_init_82 : dec 2 cX11_init 82 (.bipush 16) 84 := ⟨by decide +kernel, rfl⟩
theorem d_X11_init_84 : dec 2 cX11_init 84 (.newarray .int) 86 := ⟨by decide +kernel, rfl⟩
theorem d_X11_init_86 : dec 3 cX11_init 86 (.putfield 39) 89 := ⟨by decide +kernel, rfl⟩
theorem d_X11_init_89 : decAL cX11_init 89 0 90 := Or.inr ⟨0, rfl, by decide +kernel, rfl⟩
theorem d_X11_init_90 : dec 2 cX11_init 90 (.bipush 16) 92 := ⟨by decide +kernel, rfl⟩
theorem d_X11_init_92 : dec 2 cX11_init 92 (.newarray .int) 94 := ⟨by decide +kernel, rfl⟩
theorem d_X11_init_94 : dec 3 cX11_init 94 (.putfield 42) 97 := ⟨by decide +kernel, rfl⟩
theorem d_X11_init_97 : decAL cX11_init 97 0 98 := Or.inr ⟨0, rfl, by decide +kernel, rfl⟩
theorem d_X11_init_98 : dec 2 cX11_init 98 (.bipush 16) 100 := ⟨by decide +kernel, rfl⟩
theorem d_X11_init_100 : dec 2 cX11_init 100 (.newarray .int) 102 := ⟨by decide +kernel, rfl⟩
theorem d_X11_init_102 : dec 3 cX11_init 102 (.putfield 45) 105 := ⟨by decide +kernel, rfl⟩
theorem d_X11_init_105 : decAL cX11_init 105 0 106 := Or.inr ⟨0, rfl, by decide +kernel, rfl⟩
theorem d_X11_init_106 : dec 2 cX11_init 106 (.bipush 64) 108 := ⟨by decide +kernel, rfl⟩
theorem d_X11_init_108 : dec 2 cX11_init 108 (.newarray .int) 110 := ⟨by decide +kernel, rfl⟩
theorem d_X11_init_110 : dec 3 cX11_init 110 (.putfield 48) 113 := ⟨by decide +kernel, rfl⟩
theorem d_X11_init_113 : decAL cX11_init 113 0 114 := Or.inr ⟨0, rfl, by decide +kernel, rfl⟩
theorem d_X11_init_114 : dec 2 cX11_init 114 (.bipush 64) 116 := ⟨by decide +kernel, rfl⟩
theorem d_X11_init_116 : dec 2 cX11_init 116 (.newarray .int) 118 := ⟨by decide +kernel, rfl⟩
theorem d_X11_init_118 : dec 3 cX11_init 118 (.putfield 51) 121 := ⟨by decide +kernel, rfl⟩
theorem d_X11_init_121 : decAL cX11_init 121 0 122 := Or.inr ⟨0, rfl, by decide +kernel, rfl⟩
theorem d_X11_init_122 : dec 2 cX11_init 122 (.bipush 64) 124 := ⟨by decide +kernel, rfl⟩
theorem d_X11_init_124 : dec 2 cX11_init 124 (.newarray .int) 126 := ⟨by decide +kernel, rfl⟩
theorem d_X11_init_126 : dec 3 cX11_init 126 (.putfield 54) 129 := ⟨by decide +kernel, rfl⟩
theorem d_X11_init_129 : decAL cX11_init 129 0 130 := Or.inr ⟨0, rfl, by decide +kernel, rfl⟩
theorem d_X11_init_130 : dec 2 cX11_init 130 (.bipush 60) 132 := ⟨by decide +kernel, rfl⟩
theorem d_X11_init_132 : dec 2 cX11_init 132 (.newarray .int) 134 := ⟨by decide +kernel, rfl⟩
theorem d_X11_init_134 : dec 3 cX11_init 134 (.putfield 57) 137 := ⟨by decide +kernel, rfl⟩
theorem d_X11_init_137 : decAL cX11_init 137 0 138 := Or.inr ⟨0, rfl, by decide +kernel, rfl⟩
theorem d_X11_init_138 : dec 2 cX11_init 138 (.bipush 12) 140 := ⟨by decide +kernel, rfl⟩
theorem d_X11_init_140 : dec 2 cX11_init 140 (.newarray .int) 142 := ⟨by decide +kernel, rfl⟩
theorem d_X11_init_142 : dec 3 cX11_init 142 (.putfield 60) 145 := ⟨by decide +kernel, rfl⟩
theorem d_X11_init_145 : decAL cX11_init 145 0 146 := Or.inr ⟨0, rfl, by decide +kernel, rfl⟩
theorem d_X11_init_146 : dec 2 cX11_init 146 (.bipush 12) 148 := ⟨by decide +kernel, rfl⟩
theorem d_X11_init_148 : dec 2 cX11_init 148 (.newarray .int) 150 := ⟨by decide +kernel, rfl⟩
theorem d_X11_init_150 : dec 3 cX11_init 150 (.putfield 63) 153 := ⟨by decide +kernel, rfl⟩
theorem d_X11_init_153 : decAL cX11_init 153 0 154 := Or.inr ⟨0, rfl, by decide +kernel, rfl⟩
theorem d_X11_init_154 : dec 2 cX11_init 154 (.bipush 13) 156 := ⟨by decide +kernel, rfl⟩
theorem d_X11_init_156 : dec 2 cX11_init 156 (.newarray .int) 158 := ⟨by decide +kernel, rfl⟩
theorem d_X11_init_158 : dec 3 cX11_init 158 (.putfield 66) 161 := ⟨by decide +kernel, rfl⟩
theorem d_X11_init_161 : decAL cX11_init 161 0 162 := Or.inr ⟨0, rfl, by decide +kernel, rfl⟩
theorem d_X11_init_162 : dec 1 cX11_init 162 (.iconst 3) 163 := ⟨by decide +kernel, rfl⟩
theorem d_X11_init_163 : dec 2 cX11_init 163 (.newarray .int) 165 := ⟨by decide +kernel, rfl⟩
theorem d_X11_init_165 : dec 3 cX11_init 165 (.putfield 69) 168 := ⟨by decide +kernel, rfl⟩
theorem d_X11_init_168 : decAL cX11_init 168 0 169 := Or.inr ⟨0, rfl, by decide +kernel, rfl⟩
theorem d_X11_init_169 : dec 3 cX11_init 169 (.getfield 7) 172 := ⟨by decide +kernel, rfl⟩
theorem d_X11_init_172 : dec 3 cX11_init 172 (.sipush 893) 175 := ⟨by decide +kernel, rfl⟩
theorem d_X11_init_175 : dec 1 cX11_init 175 (.iconst (-1)) 176 := ⟨by decide +kernel, rfl⟩
theorem d_X11_init_176 : dec 1 cX11_init 176 .iastore 177 := ⟨by decide +kernel, rfl⟩
theorem d_X11_init_177 : dec 1 cX11_init 177 .return_ 178 := ⟨by decide +kernel, rfl⟩
def f_X11_init (F : Nat)  (v0 : Nat) (n : Nat) (G : GH) : Option (Nat × GH) :=
  Option.bind (pV (gset G n (.inl (0, 4470, .inl (fun _ => 0)))) v0 11 1 (.ref n)) (fun (G1 : GH) =>
  Option.bind (pV (gset G1 (n + 1) (.inl (1, 2400, .inl (fun _ => 0)))) v0 11 2 (.ref (n + 1))) (fun (G2 : GH) =>
  Option.bind (pV (gset G2 ((n + 1) + 1) (.inl (2, 3, .inl (fun _ => 0)))) v0 11 3 (.ref ((n + 1) + 1))) (fun (G3 : GH) =>
  Option.bind (pV (gset G3 (((n + 1) + 1) + 1) (.inl (0, 7128, .inl (fun _ => 0)))) v0 11 4 (.ref (((n + 1) + 1) + 1))) (fun (G4 : GH) =>
  Option.bind (pV (gset G4 ((((n + 1) + 1) + 1) + 1) (.inl (0, 891, .inl (fun _ => 0)))) v0 11 16 (.ref ((((n + 1) + 1) + 1) + 1))) (fun (G5 : GH) =>
  Option.bind (pV (gset G5 (((((n + 1) + 1) + 1) + 1) + 1) (.inl (0, 300, .inl (fun _ => 0)))) v0 11 17 (.ref (((((n + 1) + 1) + 1) + 1) + 1))) (fun (G6 : GH) =>
  Option.bind (pV (gset G6 ((((((n + 1) + 1) + 1) + 1) + 1) + 1) (.inl (0, 300, .inl (fun _ => 0)))) v0 11 18 (.ref ((((((n + 1) + 1) + 1) + 1) + 1) + 1))) (fun (G7 : GH) =>
  Option.bind (pV (gset G7 (((((((n + 1) + 1) + 1) + 1) + 1) + 1) + 1) (.inl (0, 11, .inl (fun _ => 0)))) v0 11 20 (.ref (((((((n + 1) + 1) + 1) + 1) + 1) + 1) + 1))) (fun (G8 : GH) =>
  Option.bind (pV (gset G8 ((((((((n + 1) + 1) + 1) + 1) + 1) + 1) + 1) + 1) (.inl (0, 16, .inl (fun _ => 0)))) v0 11 21 (.ref ((((((((n + 1) + 1) + 1) + 1) + 1) + 1) + 1) + 1))) (fun (G9 : GH) =>
  Option.bind (pV (gset G9 (((((((((n + 1) + 1) + 1) + 1) + 1) + 1) + 1) + 1) + 1) (.inl (0, 16, .inl (fun _ => 0)))) v0 11 22 (.ref (((((((((n + 1) + 1) + 1) + 1) + 1) + 1) + 1) + 1) + 1))) (fun (G10 : GH) =>
  Option.bind (pV (gset G10 ((((((((((n + 1) + 1) + 1) + 1) + 1) + 1) + 1) + 1) + 1) + 1) (.inl (0, 16, .inl (fun _ => 0)))) v0 11 23 (.ref ((((((((((n + 1) + 1) + 1) + 1) + 1) + 1) + 1) + 1) + 1) + 1))) (fun (G11 : GH) =>
  Option.bind (pV (gset G11 (((((((((((n + 1) + 1) + 1) + 1) + 1) + 1) + 1) + 1) + 1) + 1) + 1) (.inl (0, 16, .inl (fun _ => 0)))) v0 11 24 (.ref (((((((((((n + 1) + 1) + 1) + 1) + 1) + 1) + 1) + 1) + 1) + 1) + 1))) (fun (G12 : GH) =>
  Option.bind (pV (gset G12 ((((((((((((n + 1) + 1) + 1) + 1) + 1) + 1) + 1) + 1) + 1) + 1) + 1) + 1) (.inl (0, 64, .inl (fun _ => 0)))) v0 11 25 (.ref ((((((((((((n + 1) + 1) + 1) + 1) + 1) + 1) + 1) + 1) + 1) + 1) + 1) + 1))) (fun (G13 : GH) =>
  Option.bind (pV (gset G13 (((((((((((((n + 1) + 1) + 1) + 1) + 1) + 1) + 1) + 1) + 1) + 1) + 1) + 1) + 1) (.inl (0, 64, .inl (fun _ => 0)))) v0 11 27 (.ref (((((((((((((n + 1) + 1) + 1) + 1) + 1) + 1) + 1) + 1) + 1) + 1) + 1) + 1) + 1))) (fun (G14 : GH) =>
  Option.bind (pV (gset G14 ((((((((((((((n + 1) + 1) + 1) + 1) + 1) + 1) + 1) + 1) + 1) + 1) + 1) + 1) + 1) + 1) (.inl (0, 64, .inl (fun _ => 0)))) v0 11 28 (.ref ((((((((((((((n + 1) + 1) + 1) + 1) + 1) + 1) + 1) + 1) + 1) + 1) + 1) + 1) + 1) + 1))) (fun (G15 : GH) =>
  Option.bind (pV (gset G15 (((((((((((((((n + 1) + 1) + 1) + 1) + 1) + 1) + 1) + 1) + 1) + 1) + 1) + 1) + 1) + 1) + 1) (.inl (0, 60, .inl (fun _ => 0)))) v0 11 30 (.ref (((((((((((((((n + 1) + 1) + 1) + 1) + 1) + 1) + 1) + 1) + 1) + 1) + 1) + 1) + 1) + 1) + 1))) (fun (G16 : GH) =>
  Option.bind (pV (gset G16 ((((((((((((((((n + 1) + 1) + 1) + 1) + 1) + 1) + 1) + 1) + 1) + 1) + 1) + 1) + 1) + 1) + 1) + 1) (.inl (0, 12, .inl (fun _ => 0)))) v0 11 31 (.ref ((((((((((((((((n + 1) + 1) + 1) + 1) + 1) + 1) + 1) + 1) + 1) + 1) + 1) + 1) + 1) + 1) + 1) + 1))) (fun (G17 : GH) =>
  Option.bind (pV (gset G17 (((((((((((((((((n + 1) + 1) + 1) + 1) + 1) + 1) + 1) + 1) + 1) + 1) + 1) + 1) + 1) + 1) + 1) + 1) + 1) (.inl (0, 12, .inl (fun _ => 0)))) v0 11 33 (.ref (((((((((((((((((n + 1) + 1) + 1) + 1) + 1) + 1) + 1) + 1) + 1) + 1) + 1) + 1) + 1) + 1) + 1) + 1) + 1))) (fun (G18 : GH) =>
  Option.bind (pV (gset G18 ((((((((((((((((((n + 1) + 1) + 1) + 1) + 1) + 1) + 1) + 1) + 1) + 1) + 1) + 1) + 1) + 1) + 1) + 1) + 1) + 1) (.inl (0, 13, .inl (fun _ => 0)))) v0 11 34 (.ref ((((((((((((((((((n + 1) + 1) + 1) + 1) + 1) + 1) + 1) + 1) + 1) + 1) + 1) + 1) + 1) + 1) + 1) + 1) + 1) + 1))) (fun (G19 : GH) =>
  Option.bind (pV (gset G19 (((((((((((((((((((n + 1) + 1) + 1) + 1) + 1) + 1) + 1) + 1) + 1) + 1) + 1) + 1) + 1) + 1) + 1) + 1) + 1) + 1) + 1) (.inl (0, 3, .inl (fun _ => 0)))) v0 11 36 (.ref (((((((((((((((((((n + 1) + 1) + 1) + 1) + 1) + 1) + 1) + 1) + 1) + 1) + 1) + 1) + 1) + 1) + 1) + 1) + 1) + 1) + 1))) (fun (G20 : GH) =>
  Option.bind (gR G20 v0 11 1) (fun (x21 : Nat) =>
  Option.bind (aS G20 x21 0 (893 : Int32) (-1 : Int32)) (fun (G22 : GH) =>
  some ((((((((((((((((((((n + 1) + 1) + 1) + 1) + 1) + 1) + 1) + 1) + 1) + 1) + 1) + 1) + 1) + 1) + 1) + 1) + 1) + 1) + 1) + 1, G22)))))))))))))))))))))))
set_option maxRecDepth 100000 in
set_option maxHeartbeats 4000000 in
theorem s_X11_init {E : GE} {F : Nat}  {v0 : Nat} {n : Nat} {G : GH} {z : Nat × GH}  (h : f_X11_init F  v0 n G = some z) : GM E yX11_init cX11_init 1 none 1 40 20 15859 [.ref v0] n G (none, z.1, z.2) := by
  refine GM.of (by decide) (Nat.le_of_ble_eq_true rfl) ?_
  show WG E RX11 "<init>" cX11_init 1 none 1 40 20 15859 0 [(0, .ref v0)] [] n G (g_O E (none, z.1, z.2))
  unfold f_X11_init at h
  refine r_aload d_X11_init_0 rfl ?_
  refine r_obj d_X11_init_1 qol_X11_1 qoi qoc rfl rfl ?_
  refine r_aload d_X11_init_4 rfl ?_
  refine r_sipush d_X11_init_5 sp_4470 ?_
  refine r_newaI (N := 4470) d_X11_init_8 qa_int (by decide) (by decide) rfl rfl rfl ?_
  refine r_put h d_X11_init_10 pw_X11_7 rfl rfl (fun G1 h => ?_)
  refine r_aload d_X11_init_13 rfl ?_
  refine r_sipush d_X11_init_14 sp_2400 ?_
  refine r_newaB (N := 2400) d_X11_init_17 qa_byte (by decide) (by decide) rfl rfl rfl ?_
  refine r_put h d_X11_init_19 pw_X11_13 rfl rfl (fun G2 h => ?_)
  refine r_aload d_X11_init_22 rfl ?_
  refine r_iconst d_X11_init_23 ic_3 ?_
  refine r_newaZ (N := 3) d_X11_init_24 qa_boolean (by decide) (by decide) rfl rfl rfl ?_
  refine r_put h d_X11_init_26 pw_X11_17 rfl rfl (fun G3 h => ?_)
  refine r_aload d_X11_init_29 rfl ?_
  refine r_sipush d_X11_init_30 sp_7128 ?_
  refine r_newaI (N := 7128) d_X11_init_33 qa_int (by decide) (by decide) rfl rfl rfl ?_
  refine r_put h d_X11_init_35 pw_X11_21 rfl rfl (fun G4 h => ?_)
  refine r_aload d_X11_init_38 rfl ?_
  refine r_sipush d_X11_init_39 sp_891 ?_
  refine r_newaI (N := 891) d_X11_init_42 qa_int (by decide) (by decide) rfl rfl rfl ?_
  refine r_put h d_X11_init_44 pw_X11_24 rfl rfl (fun G5 h => ?_)
  refine r_aload d_X11_init_47 rfl ?_
  refine r_sipush d_X11_init_48 sp_300 ?_
  refine r_newaI (N := 300) d_X11_init_51 qa_int (by decide) (by decide) rfl rfl rfl ?_
  refine r_put h d_X11_init_53 pw_X11_27 rfl rfl (fun G6 h => ?_)
  refine r_aload d_X11_init_56 rfl ?_
  refine r_sipush d_X11_init_57 sp_300 ?_
  refine r_newaI (N := 300) d_X11_init_60 qa_int (by decide) (by decide) rfl rfl rfl ?_
  refine r_put h d_X11_init_62 pw_X11_30 rfl rfl (fun G7 h => ?_)
  refine r_aload d_X11_init_65 rfl ?_
  refine r_bipush d_X11_init_66 bp_11 ?_
  refine r_newaI (N := 11) d_X11_init_68 qa_int (by decide) (by decide) rfl rfl rfl ?_
  refine r_put h d_X11_init_70 pw_X11_33 rfl rfl (fun G8 h => ?_)
  refine r_aload d_X11_init_73 rfl ?_
  refine r_bipush d_X11_init_74 bp_16 ?_
  refine r_newaI (N := 16) d_X11_init_76 qa_int (by decide) (by decide) rfl rfl rfl ?_
  refine r_put h d_X11_init_78 pw_X11_36 rfl rfl (fun G9 h => ?_)
  refine r_aload d_X11_init_81 rfl ?_
  refine r_bipush d_X11_init_82 bp_16 ?_
  refine r_newaI (N := 16) d_X11_init_84 qa_int (by decide) (by decide) rfl rfl rfl ?_
  refine r_put h d_X11_init_86 pw_X11_39 rfl rfl (fun G10 h => ?_)
  refine r_aload d_X11_init_89 rfl ?_
  refine r_bipush d_X11_init_90 bp_16 ?_
  refine r_newaI (N := 16) d_X11_init_92 qa_int (by decide) (by decide) rfl rfl rfl ?_
  refine r_put h d_X11_init_94 pw_X11_42 rfl rfl (fun G11 h => ?_)
  refine r_aload d_X11_init_97 rfl ?_
  refine r_bipush d_X11_init_98 bp_16 ?_
  refine r_newaI (N := 16) d_X11_init_100 qa_int (by decide) (by decide) rfl rfl rfl ?_
  refine r_put h d_X11_init_102 pw_X11_45 rfl rfl (fun G12 h => ?_)
  refine r_aload d_X11_init_105 rfl ?_
  refine r_bipush d_X11_init_106 bp_64 ?_
  refine r_newaI (N := 64) d_X11_init_108 qa_int (by decide) (by decide) rfl rfl rfl ?_
  refine r_put h d_X11_init_110 pw_X11_48 rfl rfl (fun G13 h => ?_)
  refine r_aload d_X11_init_113 rfl ?_
  refine r_bipush d_X11_init_114 bp_64 ?_
  refine r_newaI (N := 64) d_X11_init_116 qa_int (by decide) (by decide) rfl rfl rfl ?_
  refine r_put h d_X11_init_118 pw_X11_51 rfl rfl (fun G14 h => ?_)
  refine r_aload d_X11_init_121 rfl ?_
  refine r_bipush d_X11_init_122 bp_64 ?_
  refine r_newaI (N := 64) d_X11_init_124 qa_int (by decide) (by decide) rfl rfl rfl ?_
  refine r_put h d_X11_init_126 pw_X11_54 rfl rfl (fun G15 h => ?_)
  refine r_aload d_X11_init_129 rfl ?_
  refine r_bipush d_X11_init_130 bp_60 ?_
  refine r_newaI (N := 60) d_X11_init_132 qa_int (by decide) (by decide) rfl rfl rfl ?_
  refine r_put h d_X11_init_134 pw_X11_57 rfl rfl (fun G16 h => ?_)
  refine r_aload d_X11_init_137 rfl ?_
  refine r_bipush d_X11_init_138 bp_12 ?_
  refine r_newaI (N := 12) d_X11_init_140 qa_int (by decide) (by decide) rfl rfl rfl ?_
  refine r_put h d_X11_init_142 pw_X11_60 rfl rfl (fun G17 h => ?_)
  refine r_aload d_X11_init_145 rfl ?_
  refine r_bipush d_X11_init_146 bp_12 ?_
  refine r_newaI (N := 12) d_X11_init_148 qa_int (by decide) (by decide) rfl rfl rfl ?_
  refine r_put h d_X11_init_150 pw_X11_63 rfl rfl (fun G18 h => ?_)
  refine r_aload d_X11_init_153 rfl ?_
  refine r_bipush d_X11_init_154 bp_13 ?_
  refine r_newaI (N := 13) d_X11_init_156 qa_int (by decide) (by decide) rfl rfl rfl ?_
  refine r_put h d_X11_init_158 pw_X11_66 rfl rfl (fun G19 h => ?_)
  refine r_aload d_X11_init_161 rfl ?_
  refine r_iconst d_X11_init_162 ic_3 ?_
  refine r_newaI (N := 3) d_X11_init_163 qa_int (by decide) (by decide) rfl rfl rfl ?_
  refine r_put h d_X11_init_165 pw_X11_69 rfl rfl (fun G20 h => ?_)
  refine r_aload d_X11_init_168 rfl ?_
  refine r_getR h d_X11_init_169 pf_X11_7 (fun x21 h => ?_)
  refine r_sipush d_X11_init_172 sp_893 ?_
  refine r_iconst d_X11_init_175 ic_m1 ?_
  refine r_iast h d_X11_init_176 (fun G22 h => ?_)
  exact r_vret h d_X11_init_177
/-! X11_thrown -/
theorem pf_X11_72 : pF RX11 72 11 0 := ⟨RX11, TX11, 37, rfl, by decide, rfl, Or.inl (g_in 1145 (by decide +kernel) rfl)⟩
theorem d_X11_thrown_0 : decAL cX11_thrown 0 0 1 := Or.inr ⟨0, rfl, by decide +kernel, rfl⟩
theorem d_X11_thrown_1 : dec 3 cX11_thrown 1 (.getfield 72) 4 := ⟨by decide +kernel, rfl⟩
theorem d_X11_thrown_4 : dec 1 cX11_thrown 4 .ireturn 5 := ⟨by decide +kernel, rfl⟩
def f_X11_thrown (F : Nat)  (v0 : Nat) (G : GH) : Option (Int32) :=
  Option.bind (gI G v0 11 0) (fun (x1 : Int32) =>
  some x1)
set_option maxRecDepth 100000 in
set_option maxHeartbeats 4000000 in
theorem s_X11_thrown {E : GE} {F : Nat}  {v0 : Nat} {n : Nat} {G : GH} {z : Int32}  (h : f_X11_thrown F  v0 G = some z) : GM E yX11_thrown cX11_thrown 1 (some .int) 0 0 0 0 [.ref v0] n G (some (.int z), n, G) := by
  refine GM.of (by decide) (Nat.le_of_ble_eq_true rfl) ?_
  show WG E RX11 "thrown" cX11_thrown 1 (some .int) 0 0 0 0 0 [(0, .ref v0)] [] n G (g_O E (some (.int z), n, G))
  unfold f_X11_thrown at h
  refine r_aload d_X11_thrown_0 rfl ?_
  refine r_getI h d_X11_thrown_1 pf_X11_72 (fun x1 h => ?_)
  exact r_pret h d_X11_thrown_4
/-! X11_in -/
theorem d_X11_in_0 : decIL cX11_in 0 0 1 := Or.inr ⟨0, rfl, by decide +kernel, rfl⟩
theorem d_X11_in_1 : decIL cX11_in 1 1 2 := Or.inr ⟨1, rfl, by decide +kernel, rfl⟩
theorem d_X11_in_2 : decB cX11_in 2 (.if_icmp .lt 12) (12) 5 14 := ⟨by decide +kernel, rfl, by decide⟩
theorem d_X11_in_5 : decIL cX11_in 5 0 6 := Or.inr ⟨0, rfl, by decide +kernel, rfl⟩
theorem d_X11_in_6 : decIL cX11_in 6 2 7 := Or.inr ⟨2, rfl, by decide +kernel, rfl⟩
theorem d_X11_in_7 : decB cX11_in 7 (.if_icmp .gt 7) (7) 10 14 := ⟨by decide +kernel, rfl, by decide⟩
theorem d_X11_in_10 : dec 1 cX11_in 10 (.iconst 1) 11 := ⟨by decide +kernel, rfl⟩
theorem d_X11_in_11 : decB cX11_in 11 (.goto 4) (4) 14 15 := ⟨by decide +kernel, rfl, by decide⟩
theorem d_X11_in_14 : dec 1 cX11_in 14 (.iconst 0) 15 := ⟨by decide +kernel, rfl⟩
theorem d_X11_in_15 : dec 1 cX11_in 15 .ireturn 16 := ⟨by decide +kernel, rfl⟩
def f_X11_in (F : Nat)  (v0 : Int32) (v1 : Int32) (v2 : Int32) (G : GH) : Option (Int32) :=
  if v0 < v1 then
  (rP .boolean (0 : Int32))
  else (if v2 < v0 then
  (rP .boolean (0 : Int32))
  else (rP .boolean (1 : Int32)))
set_option maxRecDepth 100000 in
set_option maxHeartbeats 4000000 in
theorem s_X11_in {E : GE} {F : Nat}  {v0 : Int32} {v1 : Int32} {v2 : Int32} {n : Nat} {G : GH} {z : Int32}  (h : f_X11_in F  v0 v1 v2 G = some z) : GM E yX11_in cX11_in 3 (some .boolean) 0 0 0 0 [.int v0, .int v1, .int v2] n G (some (.int z), n, G) := by
  refine GM.of (by decide) (Nat.le_of_ble_eq_true rfl) ?_
  show WG E RX11 "in" cX11_in 3 (some .boolean) 0 0 0 0 0 [(0, .int v0), (1, .int v1), (2, .int v2)] [] n G (g_O E (some (.int z), n, G))
  unfold f_X11_in at h
  refine r_iload d_X11_in_0 rfl ?_
  refine r_iload d_X11_in_1 rfl ?_
  refine r_icmp_lt h d_X11_in_2 (fun h => ?_) (fun h => ?_)
  · refine r_iconst d_X11_in_14 ic_0 ?_
    exact r_pzret h d_X11_in_15
  · refine r_iload d_X11_in_5 rfl ?_
    refine r_iload d_X11_in_6 rfl ?_
    refine r_icmp_gt h d_X11_in_7 (fun h => ?_) (fun h => ?_)
    · refine r_iconst d_X11_in_14 ic_0 ?_
      exact r_pzret h d_X11_in_15
    · refine r_iconst d_X11_in_10 ic_1 ?_
      refine r_goto d_X11_in_11 ?_
      exact r_pzret h d_X11_in_15
/-! X11_of -/
theorem d_X11_of_0 : decAL cX11_of 0 0 1 := Or.inr ⟨0, rfl, by decide +kernel, rfl⟩
theorem d_X11_of_1 : dec 3 cX11_of 1 (.getfield 7) 4 := ⟨by decide +kernel, rfl⟩
theorem d_X11_of_4 : dec 1 cX11_of 4 (.iconst 1) 5 := ⟨by decide +kernel, rfl⟩
theorem d_X11_of_5 : dec 2 cX11_of 5 (.bipush 11) 7 := ⟨by decide +kernel, rfl⟩
theorem d_X11_of_7 : decIL cX11_of 7 1 8 := Or.inr ⟨1, rfl, by decide +kernel, rfl⟩
theorem d_X11_of_8 : dec 1 cX11_of 8 .imul 9 := ⟨by decide +kernel, rfl⟩
theorem d_X11_of_9 : dec 1 cX11_of 9 .iadd 10 := ⟨by decide +kernel, rfl⟩
theorem d_X11_of_10 : decIL cX11_of 10 2 11 := Or.inr ⟨2, rfl, by decide +kernel, rfl⟩
theorem d_X11_of_11 : dec 1 cX11_of 11 .iadd 12 := ⟨by decide +kernel, rfl⟩
theorem d_X11_of_12 : dec 1 cX11_of 12 .iaload 13 := ⟨by decide +kernel, rfl⟩
theorem d_X11_of_13 : dec 1 cX11_of 13 .ireturn 14 := ⟨by decide +kernel, rfl⟩
def f_X11_of (F : Nat)  (v0 : Nat) (v1 : Int32) (v2 : Int32) (G : GH) : Option (Int32) :=
  Option.bind (gR G v0 11 1) (fun (x1 : Nat) =>
  Option.bind (aI G x1 0 (((1 : Int32) + ((11 : Int32) * v1)) + v2)) (fun (x2 : Int32) =>
  some x2))
set_option maxRecDepth 100000 in
set_option maxHeartbeats 4000000 in
theorem s_X11_of {E : GE} {F : Nat}  {v0 : Nat} {v1 : Int32} {v2 : Int32} {n : Nat} {G : GH} {z : Int32}  (h : f_X11_of F  v0 v1 v2 G = some z) : GM E yX11_of cX11_of 3 (some .int) 0 0 0 0 [.ref v0, .int v1, .int v2] n G (some (.int z), n, G) := by
  refine GM.of (by decide) (Nat.le_of_ble_eq_true rfl) ?_
  show WG E RX11 "of" cX11_of 3 (some .int) 0 0 0 0 0 [(0, .ref v0), (1, .int v1), (2, .int v2)] [] n G (g_O E (some (.int z), n, G))
  unfold f_X11_of at h
  refine r_aload d_X11_of_0 rfl ?_
  refine r_getR h d_X11_of_1 pf_X11_7 (fun x1 h => ?_)
  refine r_iconst d_X11_of_4 ic_1 ?_
  refine r_bipush d_X11_of_5 bp_11 ?_
  refine r_iload d_X11_of_7 rfl ?_
  refine r_imul d_X11_of_8 ?_
  refine r_iadd d_X11_of_9 ?_
  refine r_iload d_X11_of_10 rfl ?_
  refine r_iadd d_X11_of_11 ?_
  refine r_iald h d_X11_of_12 (fun x2 h => ?_)
  exact r_pret h d_X11_of_13
/-! X11_isLazy -/
theorem py_X11_of : pY yX11_of cX11_of 3 (some .int) 2 := ⟨g_in 1363 (by decide +kernel) rfl, g_in 104 (by decide +kernel) rfl, by decide, by decide, by decide +kernel⟩
theorem pi_X11_of : pI yX11_of 11 := ⟨g_in 1362 (by decide +kernel) rfl, g_in 53 (by decide +kernel) rfl, (RX11, TX11, 37), rfl, rfl⟩
theorem pl_X11_76 : pL RX11 76 yX11_of := Or.inl (g_in 1360 (by decide +kernel) rfl)
theorem d_X11_isLazy_0 : decAL cX11_isLazy 0 0 1 := Or.inr ⟨0, rfl, by decide +kernel, rfl⟩
theorem d_X11_isLazy_1 : decIL cX11_isLazy 1 1 2 := Or.inr ⟨1, rfl, by decide +kernel, rfl⟩
theorem d_X11_isLazy_2 : dec 2 cX11_isLazy 2 (.bipush 7) 4 := ⟨by decide +kernel, rfl⟩
theorem d_X11_isLazy_4 : dec 3 cX11_isLazy 4 (.invokevirtual 76) 7 := ⟨by decide +kernel, rfl⟩
theorem d_X11_isLazy_7 : decIL cX11_isLazy 7 2 8 := Or.inr ⟨2, rfl, by decide +kernel, rfl⟩
theorem d_X11_isLazy_8 : dec 1 cX11_isLazy 8 .ishr 9 := ⟨by decide +kernel, rfl⟩
theorem d_X11_isLazy_9 : dec 1 cX11_isLazy 9 (.iconst 1) 10 := ⟨by decide +kernel, rfl⟩
theorem d_X11_isLazy_10 : dec 1 cX11_isLazy 10 .iand 11 := ⟨by decide +kernel, rfl⟩
theorem d_X11_isLazy_11 : dec 1 cX11_isLazy 11 (.iconst 1) 12 := ⟨by decide +kernel, rfl⟩
theorem d_X11_isLazy_12 : decB cX11_isLazy 12 (.if_icmp .ne 7) (7) 15 19 := ⟨by decide +kernel, rfl, by decide⟩
theorem d_X11_isLazy_15 : dec 1 cX11_isLazy 15 (.iconst 1) 16 := ⟨by decide +kernel, rfl⟩
theorem d_X11_isLazy_16 : decB cX11_isLazy 16 (.goto 4) (4) 19 20 := ⟨by decide +kernel, rfl, by decide⟩
theorem d_X11_isLazy_19 : dec 1 cX11_isLazy 19 (.iconst 0) 20 := ⟨by decide +kernel, rfl⟩
theorem d_X11_isLazy_20 : dec 1 cX11_isLazy 20 .ireturn 21 := ⟨by decide +kernel, rfl⟩
def f_X11_isLazy (F : Nat)  (v0 : Nat) (v1 : Int32) (v2 : Int32) (G : GH) : Option (Int32) :=
  cvP G v0 11 (f_X11_of F v0 v1 (7 : Int32) G) (fun (x1 : Int32) =>
  if ((x1 >>> (v2 &&& 31)) &&& (1 : Int32)) = (1 : Int32) then
  (rP .boolean (1 : Int32))
  else (rP .boolean (0 : Int32)))
set_option maxRecDepth 100000 in
set_option maxHeartbeats 4000000 in
theorem s_X11_isLazy {E : GE} {F : Nat}  {v0 : Nat} {v1 : Int32} {v2 : Int32} {n : Nat} {G : GH} {z : Int32}  (h : f_X11_isLazy F  v0 v1 v2 G = some z) : GM E yX11_isLazy cX11_isLazy 3 (some .boolean) 1 22 0 0 [.ref v0, .int v1, .int v2] n G (some (.int z), n, G) := by
  refine GM.of (by decide) (Nat.le_of_ble_eq_true rfl) ?_
  show WG E RX11 "isLazy" cX11_isLazy 3 (some .boolean) 1 22 0 0 0 [(0, .ref v0), (1, .int v1), (2, .int v2)] [] n G (g_O E (some (.int z), n, G))
  unfold f_X11_isLazy at h
  refine r_aload d_X11_isLazy_0 rfl ?_
  refine r_iload d_X11_isLazy_1 rfl ?_
  refine r_bipush d_X11_isLazy_2 bp_7 ?_
  refine r_invP [_, _] h (fun _ hq => s_X11_of hq) d_X11_isLazy_4 pl_X11_76 py_X11_of pi_X11_of rfl rfl rfl (fun x1 h => ?_)
  refine r_iload d_X11_isLazy_7 rfl ?_
  refine r_ishr d_X11_isLazy_8 ?_
  refine r_iconst d_X11_isLazy_9 ic_1 ?_
  refine r_iand d_X11_isLazy_10 ?_
  refine r_iconst d_X11_isLazy_11 ic_1 ?_
  refine r_icmp_ne h d_X11_isLazy_12 (fun h => ?_) (fun h => ?_)
  · refine r_iconst d_X11_isLazy_19 ic_0 ?_
    exact r_pzret h d_X11_isLazy_20
  · refine r_iconst d_X11_isLazy_15 ic_1 ?_
    refine r_goto d_X11_isLazy_16 ?_
    exact r_pzret h d_X11_isLazy_20
/-! X11_isPart -/
theorem py_X11_in : pY yX11_in cX11_in 3 (some .boolean) 3 := ⟨g_in 1280 (by decide +kernel) rfl, g_in 104 (by decide +kernel) rfl, by decide, by decide, by decide +kernel⟩
theorem ps_X11_in : Cond.static yX11_in ∈ g_tbl := g_in 1279 (by decide +kernel) rfl
theorem pl_X11_80 : pL RX11 80 yX11_in := Or.inl (g_in 1278 (by decide +kernel) rfl)
theorem d_X11_isPart_0 : decIL cX11_isPart 0 1 1 := Or.inr ⟨1, rfl, by decide +kernel, rfl⟩
theorem d_X11_isPart_1 : dec 1 cX11_isPart 1 (.iconst 0) 2 := ⟨by decide +kernel, rfl⟩
theorem d_X11_isPart_2 : decAL cX11_isPart 2 0 3 := Or.inr ⟨0, rfl, by decide +kernel, rfl⟩
theorem d_X11_isPart_3 : dec 3 cX11_isPart 3 (.getfield 7) 6 := ⟨by decide +kernel, rfl⟩
theorem d_X11_isPart_6 : dec 1 cX11_isPart 6 (.iconst 0) 7 := ⟨by decide +kernel, rfl⟩
theorem d_X11_isPart_7 : dec 1 cX11_isPart 7 .iaload 8 := ⟨by decide +kernel, rfl⟩
theorem d_X11_isPart_8 : dec 1 cX11_isPart 8 (.iconst 1) 9 := ⟨by decide +kernel, rfl⟩
theorem d_X11_isPart_9 : dec 1 cX11_isPart 9 .isub 10 := ⟨by decide +kernel, rfl⟩
theorem d_X11_isPart_10 : dec 3 cX11_isPart 10 (.invokestatic 80) 13 := ⟨by decide +kernel, rfl⟩
theorem d_X11_isPart_13 : dec 1 cX11_isPart 13 .ireturn 14 := ⟨by decide +kernel, rfl⟩
def f_X11_isPart (F : Nat)  (v0 : Nat) (v1 : Int32) (G : GH) : Option (Int32) :=
  Option.bind (gR G v0 11 1) (fun (x1 : Nat) =>
  Option.bind (aI G x1 0 (0 : Int32)) (fun (x2 : Int32) =>
  Option.bind (f_X11_in F v1 (0 : Int32) (x2 - (1 : Int32)) G) (fun (x3 : Int32) =>
  rP .boolean x3)))
set_option maxRecDepth 100000 in
set_option maxHeartbeats 4000000 in
theorem s_X11_isPart {E : GE} {F : Nat}  {v0 : Nat} {v1 : Int32} {n : Nat} {G : GH} {z : Int32}  (h : f_X11_isPart F  v0 v1 G = some z) : GM E yX11_isPart cX11_isPart 2 (some .boolean) 1 22 0 0 [.ref v0, .int v1] n G (some (.int z), n, G) := by
  refine GM.of (by decide) (Nat.le_of_ble_eq_true rfl) ?_
  show WG E RX11 "isPart" cX11_isPart 2 (some .boolean) 1 22 0 0 0 [(0, .ref v0), (1, .int v1)] [] n G (g_O E (some (.int z), n, G))
  unfold f_X11_isPart at h
  refine r_iload d_X11_isPart_0 rfl ?_
  refine r_iconst d_X11_isPart_1 ic_0 ?_
  refine r_aload d_X11_isPart_2 rfl ?_
  refine r_getR h d_X11_isPart_3 pf_X11_7 (fun x1 h => ?_)
  refine r_iconst d_X11_isPart_6 ic_0 ?_
  refine r_iald h d_X11_isPart_7 (fun x2 h => ?_)
  refine r_iconst d_X11_isPart_8 ic_1 ?_
  refine r_isub d_X11_isPart_9 ?_
  refine r_invSP [_, _, _] h (fun _ hq => s_X11_in hq) d_X11_isPart_10 pl_X11_80 py_X11_in ps_X11_in rfl rfl rfl (fun x3 h => ?_)
  exact r_pzret h d_X11_isPart_13
/-! X11_its -/
theorem d_X11_its_0 : decAL cX11_its 0 0 1 := Or.inr ⟨0, rfl, by decide +kernel, rfl⟩
theorem d_X11_its_1 : dec 3 cX11_its 1 (.getfield 7) 4 := ⟨by decide +kernel, rfl⟩
theorem d_X11_its_4 : dec 3 cX11_its 4 (.sipush 207) 7 := ⟨by decide +kernel, rfl⟩
theorem d_X11_its_7 : dec 2 cX11_its 7 (.bipush 8) 9 := ⟨by decide +kernel, rfl⟩
theorem d_X11_its_9 : decIL cX11_its 9 1 10 := Or.inr ⟨1, rfl, by decide +kernel, rfl⟩
theorem d_X11_its_10 : dec 1 cX11_its 10 .imul 11 := ⟨by decide +kernel, rfl⟩
theorem d_X11_its_11 : dec 1 cX11_its 11 .iadd 12 := ⟨by decide +kernel, rfl⟩
theorem d_X11_its_12 : decIL cX11_its 12 2 13 := Or.inr ⟨2, rfl, by decide +kernel, rfl⟩
theorem d_X11_its_13 : dec 1 cX11_its 13 .iadd 14 := ⟨by decide +kernel, rfl⟩
theorem d_X11_its_14 : dec 1 cX11_its 14 .iaload 15 := ⟨by decide +kernel, rfl⟩
theorem d_X11_its_15 : dec 1 cX11_its 15 .ireturn 16 := ⟨by decide +kernel, rfl⟩
def f_X11_its (F : Nat)  (v0 : Nat) (v1 : Int32) (v2 : Int32) (G : GH) : Option (Int32) :=
  Option.bind (gR G v0 11 1) (fun (x1 : Nat) =>
  Option.bind (aI G x1 0 (((207 : Int32) + ((8 : Int32) * v1)) + v2)) (fun (x2 : Int32) =>
  some x2))
set_option maxRecDepth 100000 in
set_option maxHeartbeats 4000000 in
theorem s_X11_its {E : GE} {F : Nat}  {v0 : Nat} {v1 : Int32} {v2 : Int32} {n : Nat} {G : GH} {z : Int32}  (h : f_X11_its F  v0 v1 v2 G = some z) : GM E yX11_its cX11_its 3 (some .int) 0 0 0 0 [.ref v0, .int v1, .int v2] n G (some (.int z), n, G) := by
  refine GM.of (by decide) (Nat.le_of_ble_eq_true rfl) ?_
  show WG E RX11 "its" cX11_its 3 (some .int) 0 0 0 0 0 [(0, .ref v0), (1, .int v1), (2, .int v2)] [] n G (g_O E (some (.int z), n, G))
  unfold f_X11_its at h
  refine r_aload d_X11_its_0 rfl ?_
  refine r_getR h d_X11_its_1 pf_X11_7 (fun x1 h => ?_)
  refine r_sipush d_X11_its_4 sp_207 ?_
  refine r_bipush d_X11_its_7 bp_8 ?_
  refine r_iload d_X11_its_9 rfl ?_
  refine r_imul d_X11_its_10 ?_
  refine r_iadd d_X11_its_11 ?_
  refine r_iload d_X11_its_12 rfl ?_
  refine r_iadd d_X11_its_13 ?_
  refine r_iald h d_X11_its_14 (fun x2 h => ?_)
  exact r_pret h d_X11_its_15
/-! X11_itIs -/
theorem d_X11_itIs_0 : decAL cX11_itIs 0 0 1 := Or.inr ⟨0, rfl, by decide +kernel, rfl⟩
theorem d_X11_itIs_1 : dec 3 cX11_itIs 1 (.getfield 7) 4 := ⟨by decide +kernel, rfl⟩
theorem d_X11_itIs_4 : dec 3 cX11_itIs 4 (.sipush 207) 7 := ⟨by decide +kernel, rfl⟩
theorem d_X11_itIs_7 : dec 2 cX11_itIs 7 (.bipush 8) 9 := ⟨by decide +kernel, rfl⟩
theorem d_X11_itIs_9 : decIL cX11_itIs 9 1 10 := Or.inr ⟨1, rfl, by decide +kernel, rfl⟩
theorem d_X11_itIs_10 : dec 1 cX11_itIs 10 .imul 11 := ⟨by decide +kernel, rfl⟩
theorem d_X11_itIs_11 : dec 1 cX11_itIs 11 .iadd 12 := ⟨by decide +kernel, rfl⟩
theorem d_X11_itIs_12 : decIL cX11_itIs 12 2 13 := Or.inr ⟨2, rfl, by decide +kernel, rfl⟩
theorem d_X11_itIs_13 : dec 1 cX11_itIs 13 .iadd 14 := ⟨by decide +kernel, rfl⟩
theorem d_X11_itIs_14 : decIL cX11_itIs 14 3 15 := Or.inr ⟨3, rfl, by decide +kernel, rfl⟩
theorem d_X11_itIs_15 : dec 1 cX11_itIs 15 .iastore 16 := ⟨by decide +kernel, rfl⟩
theorem d_X11_itIs_16 : dec 1 cX11_itIs 16 .return_ 17 := ⟨by decide +kernel, rfl⟩
def f_X11_itIs (F : Nat)  (v0 : Nat) (v1 : Int32) (v2 : Int32) (v3 : Int32) (n : Nat) (G : GH) : Option (Nat × GH) :=
  Option.bind (gR G v0 11 1) (fun (x1 : Nat) =>
  Option.bind (aS G x1 0 (((207 : Int32) + ((8 : Int32) * v1)) + v2) v3) (fun (G2 : GH) =>
  some (n, G2)))
set_option maxRecDepth 100000 in
set_option maxHeartbeats 4000000 in
theorem s_X11_itIs {E : GE} {F : Nat}  {v0 : Nat} {v1 : Int32} {v2 : Int32} {v3 : Int32} {n : Nat} {G : GH} {z : Nat × GH}  (h : f_X11_itIs F  v0 v1 v2 v3 n G = some z) : GM E yX11_itIs cX11_itIs 4 none 0 0 0 0 [.ref v0, .int v1, .int v2, .int v3] n G (none, z.1, z.2) := by
  refine GM.of (by decide) (Nat.le_of_ble_eq_true rfl) ?_
  show WG E RX11 "itIs" cX11_itIs 4 none 0 0 0 0 0 [(0, .ref v0), (1, .int v1), (2, .int v2), (3, .int v3)] [] n G (g_O E (none, z.1, z.2))
  unfold f_X11_itIs at h
  refine r_aload d_X11_itIs_0 rfl ?_
  refine r_getR h d_X11_itIs_1 pf_X11_7 (fun x1 h => ?_)
  refine r_sipush d_X11_itIs_4 sp_207 ?_
  refine r_bipush d_X11_itIs_7 bp_8 ?_
  refine r_iload d_X11_itIs_9 rfl ?_
  refine r_imul d_X11_itIs_10 ?_
  refine r_iadd d_X11_itIs_11 ?_
  refine r_iload d_X11_itIs_12 rfl ?_
  refine r_iadd d_X11_itIs_13 ?_
  refine r_iload d_X11_itIs_14 rfl ?_
  refine r_iast h d_X11_itIs_15 (fun G2 h => ?_)
  exact r_vret h d_X11_itIs_16
/-! X11_isThing -/
theorem d_X11_isThing_0 : decIL cX11_isThing 0 1 1 := Or.inr ⟨1, rfl, by decide +kernel, rfl⟩
theorem d_X11_isThing_1 : dec 1 cX11_isThing 1 (.iconst 0) 2 := ⟨by decide +kernel, rfl⟩
theorem d_X11_isThing_2 : decAL cX11_isThing 2 0 3 := Or.inr ⟨0, rfl, by decide +kernel, rfl⟩
theorem d_X11_isThing_3 : dec 3 cX11_isThing 3 (.getfield 7) 6 := ⟨by decide +kernel, rfl⟩
theorem d_X11_isThing_6 : dec 3 cX11_isThing 6 (.sipush 206) 9 := ⟨by decide +kernel, rfl⟩
theorem d_X11_isThing_9 : dec 1 cX11_isThing 9 .iaload 10 := ⟨by decide +kernel, rfl⟩
theorem d_X11_isThing_10 : dec 1 cX11_isThing 10 (.iconst 1) 11 := ⟨by decide +kernel, rfl⟩
theorem d_X11_isThing_11 : dec 1 cX11_isThing 11 .isub 12 := ⟨by decide +kernel, rfl⟩
theorem d_X11_isThing_12 : dec 3 cX11_isThing 12 (.invokestatic 80) 15 := ⟨by decide +kernel, rfl⟩
theorem d_X11_isThing_15 : dec 1 cX11_isThing 15 .ireturn 16 := ⟨by decide +kernel, rfl⟩
def f_X11_isThing (F : Nat)  (v0 : Nat) (v1 : Int32) (G : GH) : Option (Int32) :=
  Option.bind (gR G v0 11 1) (fun (x1 : Nat) =>
  Option.bind (aI G x1 0 (206 : Int32)) (fun (x2 : Int32) =>
  Option.bind (f_X11_in F v1 (0 : Int32) (x2 - (1 : Int32)) G) (fun (x3 : Int32) =>
  rP .boolean x3)))
set_option maxRecDepth 100000 in
set_option maxHeartbeats 4000000 in
theorem s_X11_isThing {E : GE} {F : Nat}  {v0 : Nat} {v1 : Int32} {n : Nat} {G : GH} {z : Int32}  (h : f_X11_isThing F  v0 v1 G = some z) : GM E yX11_isThing cX11_isThing 2 (some .boolean) 1 22 0 0 [.ref v0, .int v1] n G (some (.int z), n, G) := by
  refine GM.of (by decide) (Nat.le_of_ble_eq_true rfl) ?_
  show WG E RX11 "isThing" cX11_isThing 2 (some .boolean) 1 22 0 0 0 [(0, .ref v0), (1, .int v1)] [] n G (g_O E (some (.int z), n, G))
  unfold f_X11_isThing at h
  refine r_iload d_X11_isThing_0 rfl ?_
  refine r_iconst d_X11_isThing_1 ic_0 ?_
  refine r_aload d_X11_isThing_2 rfl ?_
  refine r_getR h d_X11_isThing_3 pf_X11_7 (fun x1 h => ?_)
  refine r_sipush d_X11_isThing_6 sp_206 ?_
  refine r_iald h d_X11_isThing_9 (fun x2 h => ?_)
  refine r_iconst d_X11_isThing_10 ic_1 ?_
  refine r_isub d_X11_isThing_11 ?_
  refine r_invSP [_, _, _] h (fun _ hq => s_X11_in hq) d_X11_isThing_12 pl_X11_80 py_X11_in ps_X11_in rfl rfl rfl (fun x3 h => ?_)
  exact r_pzret h d_X11_isThing_15
/-! X11_type -/
theorem pw_X11_72 {nm : String} : pW RX11 nm 72 11 0 .int := ⟨RX11, TX11, 37, rfl, by decide, rfl, Or.inl ⟨g_in 1145 (by decide +kernel) rfl, Or.inl rfl⟩, by decide +kernel⟩
theorem pf_X11_13 : pF RX11 13 11 2 := ⟨RX11, TX11, 37, rfl, by decide, rfl, Or.inl (g_in 1147 (by decide +kernel) rfl)⟩
theorem cl_X11_84 : Cond.constantLong RX11 84 (255) ∈ g_tbl := g_in 1265 (by decide +kernel) rfl
theorem d_X11_type_0 : decAL cX11_type 0 0 1 := Or.inr ⟨0, rfl, by decide +kernel, rfl⟩
theorem d_X11_type_1 : dec 1 cX11_type 1 (.iconst 0) 2 := ⟨by decide +kernel, rfl⟩
theorem d_X11_type_2 : dec 3 cX11_type 2 (.putfield 72) 5 := ⟨by decide +kernel, rfl⟩
theorem d_X11_type_5 : dec 1 cX11_type 5 (.iconst 0) 6 := ⟨by decide +kernel, rfl⟩
theorem d_X11_type_6 : decIS cX11_type 6 3 7 := Or.inr ⟨3, rfl, by decide +kernel, rfl⟩
theorem d_X11_type_7 : decIL cX11_type 7 3 8 := Or.inr ⟨3, rfl, by decide +kernel, rfl⟩
theorem d_X11_type_8 : dec 2 cX11_type 8 (.bipush 8) 10 := ⟨by decide +kernel, rfl⟩
theorem d_X11_type_10 : decB cX11_type 10 (.if_icmp .ge 27) (27) 13 37 := ⟨by decide +kernel, rfl, by decide⟩
theorem d_X11_type_13 : decLL cX11_type 13 1 14 := Or.inr ⟨1, rfl, by decide +kernel, rfl⟩
theorem d_X11_type_14 : dec 2 cX11_type 14 (.bipush 56) 16 := ⟨by decide +kernel, rfl⟩
theorem d_X11_type_16 : dec 2 cX11_type 16 (.bipush 8) 18 := ⟨by decide +kernel, rfl⟩
theorem d_X11_type_18 : decIL cX11_type 18 3 19 := Or.inr ⟨3, rfl, by decide +kernel, rfl⟩
theorem d_X11_type_19 : dec 1 cX11_type 19 .imul 20 := ⟨by decide +kernel, rfl⟩
theorem d_X11_type_20 : dec 1 cX11_type 20 .isub 21 := ⟨by decide +kernel, rfl⟩
theorem d_X11_type_21 : dec 1 cX11_type 21 .lshr 22 := ⟨by decide +kernel, rfl⟩
theorem d_X11_type_22 : dec 3 cX11_type 22 (.ldc2_w 84) 25 := ⟨by decide +kernel, rfl⟩
theorem d_X11_type_25 : dec 1 cX11_type 25 .land 26 := ⟨by decide +kernel, rfl⟩
theorem d_X11_type_26 : dec 1 cX11_type 26 (.lconst 0) 27 := ⟨by decide +kernel, rfl⟩
theorem d_X11_type_27 : dec 1 cX11_type 27 .lcmp 28 := ⟨by decide +kernel, rfl⟩
theorem d_X11_type_28 : decB cX11_type 28 (.ifCond .eq 9) (9) 31 37 := ⟨by decide +kernel, rfl, by decide⟩
theorem d_X11_type_31 : dec 3 cX11_type 31 (.iinc 3 1) 34 := ⟨by decide +kernel, rfl⟩
theorem d_X11_type_34 : decB cX11_type 34 (.goto (-27)) (-27) 37 7 := ⟨by decide +kernel, rfl, by decide⟩
theorem d_X11_type_37 : decAL cX11_type 37 0 38 := Or.inr ⟨0, rfl, by decide +kernel, rfl⟩
theorem d_X11_type_38 : dec 3 cX11_type 38 (.getfield 7) 41 := ⟨by decide +kernel, rfl⟩
theorem d_X11_type_41 : dec 3 cX11_type 41 (.sipush 891) 44 := ⟨by decide +kernel, rfl⟩
theorem d_X11_type_44 : dec 1 cX11_type 44 .iaload 45 := ⟨by decide +kernel, rfl⟩
theorem d_X11_type_45 : decIL cX11_type 45 3 46 := Or.inr ⟨3, rfl, by decide +kernel, rfl⟩
theorem d_X11_type_46 : dec 1 cX11_type 46 .iadd 47 := ⟨by decide +kernel, rfl⟩
theorem d_X11_type_47 : dec 3 cX11_type 47 (.sipush 600) 50 := ⟨by decide +kernel, rfl⟩
theorem d_X11_type_50 : decB cX11_type 50 (.if_icmp .le 5) (5) 53 55 := ⟨by decide +kernel, rfl, by decide⟩
theorem d_X11_type_53 : dec 1 cX11_type 53 (.iconst (-1)) 54 := ⟨by decide +kernel, rfl⟩
theorem d_X11_type_54 : dec 1 cX11_type 54 .ireturn 55 := ⟨by decide +kernel, rfl⟩
theorem d_X11_type_55 : dec 1 cX11_type 55 (.iconst 0) 56 := ⟨by decide +kernel, rfl⟩
theorem d_X11_type_56 : decIS cX11_type 56 4 58 := Or.inl ⟨by decide +kernel, rfl⟩
theorem d_X11_type_58 : decIL cX11_type 58 4 60 := Or.inl ⟨by decide +kernel, rfl⟩
theorem d_X11_type_60 : decIL cX11_type 60 3 61 := Or.inr ⟨3, rfl, by decide +kernel, rfl⟩
theorem d_X11_type_61 : decB cX11_type 61 (.if_icmp .ge 46) (46) 64 107 := ⟨by decide +kernel, rfl, by decide⟩
theorem d_X11_type_64 : decAL cX11_type 64 0 65 := Or.inr ⟨0, rfl, by decide +kernel, rfl⟩
theorem d_X11_type_65 : dec 3 cX11_type 65 (.getfield 13) 68 := ⟨by decide +kernel, rfl⟩
theorem d_X11_type_68 : decAL cX11_type 68 0 69 := Or.inr ⟨0, rfl, by decide +kernel, rfl⟩
theorem d_X11_type_69 : dec 3 cX11_type 69 (.getfield 7) 72 := ⟨by decide +kernel, rfl⟩
theorem d_X11_type_72 : dec 3 cX11_type 72 (.sipush 891) 75 := ⟨by decide +kernel, rfl⟩
theorem d_X11_type_75 : dec 1 cX11_type 75 .iaload 76 := ⟨by decide +kernel, rfl⟩
theorem d_X11_type_76 : decLL cX11_type 76 1 77 := Or.inr ⟨1, rfl, by decide +kernel, rfl⟩
theorem d_X11_type_77 : dec 2 cX11_type 77 (.bipush 56) 79 := ⟨by decide +kernel, rfl⟩
theorem d_X11_type_79 : dec 2 cX11_type 79 (.bipush 8) 81 := ⟨by decide +kernel, rfl⟩
theorem d_X11_type_81 : decIL cX11_type 81 4 83 := Or.inl ⟨by decide +kernel, rfl⟩
theorem d_X11_type_83 : dec 1 cX11_type 83 .imul 84 := ⟨by decide +kernel, rfl⟩
theorem d_X11_type_84 : dec 1 cX11_type 84 .isub 85 := ⟨by decide +kernel, rfl⟩
theorem d_X11_type_85 : dec 1 cX11_type 85 .lshr 86 := ⟨by decide +kernel, rfl⟩
theorem d_X11_type_86 : dec 1 cX11_type 86 .l2i 87 := ⟨by decide +kernel, rfl⟩
theorem d_X11_type_87 : dec 1 cX11_type 87 .i2b 88 := ⟨by decide +kernel, rfl⟩
theorem d_X11_type_88 : dec 1 cX11_type 88 .bastore 89 := ⟨by decide +kernel, rfl⟩
theorem d_X11_type_89 : decAL cX11_type 89 0 90 := Or.inr ⟨0, rfl, by decide +kernel, rfl⟩
theorem d_X11_type_90 : dec 3 cX11_type 90 (.getfield 7) 93 := ⟨by decide +kernel, rfl⟩
theorem d_X11_type_93 : dec 3 cX11_type 93 (.sipush 891) 96 := ⟨by decide +kernel, rfl⟩
theorem d_X11_type_96 : dec 1 cX11_type 96 .dup2 97 := ⟨by decide +kernel, rfl⟩
theorem d_X11_type_97 : dec 1 cX11_type 97 .iaload 98 := ⟨by decide +kernel, rfl⟩
theorem d_X11_type_98 : dec 1 cX11_type 98 (.iconst 1) 99 := ⟨by decide +kernel, rfl⟩
theorem d_X11_type_99 : dec 1 cX11_type 99 .iadd 100 := ⟨by decide +kernel, rfl⟩
theorem d_X11_type_100 : dec 1 cX11_type 100 .iastore 101 := ⟨by decide +kernel, rfl⟩
theorem d_X11_type_101 : dec 3 cX11_type 101 (.iinc 4 1) 104 := ⟨by decide +kernel, rfl⟩
theorem d_X11_type_104 : decB cX11_type 104 (.goto (-46)) (-46) 107 58 := ⟨by decide +kernel, rfl, by decide⟩
theorem d_X11_type_107 : decAL cX11_type 107 0 108 := Or.inr ⟨0, rfl, by decide +kernel, rfl⟩
theorem d_X11_type_108 : dec 3 cX11_type 108 (.getfield 7) 111 := ⟨by decide +kernel, rfl⟩
theorem d_X11_type_111 : dec 3 cX11_type 111 (.sipush 891) 114 := ⟨by decide +kernel, rfl⟩
theorem d_X11_type_114 : dec 1 cX11_type 114 .iaload 115 := ⟨by decide +kernel, rfl⟩
theorem d_X11_type_115 : dec 1 cX11_type 115 .ireturn 116 := ⟨by decide +kernel, rfl⟩
def k_X11_type_107 (F : Nat)   (v0 : Nat)  (n : Nat) (G : GH) : Option (Int32 × Nat × GH) :=
  Option.bind (gR G v0 11 1) (fun (x4 : Nat) =>
  Option.bind (aI G x4 0 (891 : Int32)) (fun (x5 : Int32) =>
  some (x5, n, G)))
def b_X11_type_58 (F : Nat)   (v0 : Nat) (v1 : Int64) (v3 : Int32) (rec58 : Int32 → Nat → GH → Option (Int32 × Nat × GH)) : Int32 → Nat → GH → Option (Int32 × Nat × GH) := fun v4 n G =>
  if v3 ≤ v4 then
  (k_X11_type_107 F   v0 n G)
  else (Option.bind (gR G v0 11 2) (fun (x6 : Nat) =>
  Option.bind (gR G v0 11 1) (fun (x7 : Nat) =>
  Option.bind (aI G x7 0 (891 : Int32)) (fun (x8 : Int32) =>
  Option.bind (aS G x6 1 x8 (vp_nar .byte (Int8.toInt32 (Int32.toInt8 (Int64.toInt32 (v1 >>> ((Int32.toInt64 ((56 : Int32) - ((8 : Int32) * v4))) &&& 63))))))) (fun (G9 : GH) =>
  Option.bind (gR G9 v0 11 1) (fun (x10 : Nat) =>
  Option.bind (aI G9 x10 0 (891 : Int32)) (fun (x11 : Int32) =>
  Option.bind (aS G9 x10 0 (891 : Int32) (x11 + (1 : Int32))) (fun (G12 : GH) =>
  rec58 (v4 + 1) n G12))))))))
def k_X11_type_37 (F : Nat)   (v0 : Nat) (v1 : Int64) (v3 : Int32)  (n : Nat) (G : GH) : Option (Int32 × Nat × GH) :=
  Option.bind (gR G v0 11 1) (fun (x2 : Nat) =>
  Option.bind (aI G x2 0 (891 : Int32)) (fun (x3 : Int32) =>
  if (x3 + v3) ≤ (600 : Int32) then
  (fixN (fun _ _ _ => none) (b_X11_type_58 F   v0 v1 v3) F (0 : Int32) n G)
  else (some ((-1 : Int32), n, G))))
def b_X11_type_7 (F : Nat)   (v0 : Nat) (v1 : Int64) (n : Nat) (G : GH) (rec7 : Int32 → Option (Int32 × Nat × GH)) : Int32 → Option (Int32 × Nat × GH) := fun v3 =>
  if (8 : Int32) ≤ v3 then
  (k_X11_type_37 F   v0 v1 v3 n G)
  else (if (lg_cmp ((v1 >>> ((Int32.toInt64 ((56 : Int32) - ((8 : Int32) * v3))) &&& 63)) &&& (255 : Int64)) (0 : Int64)) = 0 then
  (k_X11_type_37 F   v0 v1 v3 n G)
  else (rec7 (v3 + 1)))
def f_X11_type (F : Nat)  (v0 : Nat) (v1 : Int64) (n : Nat) (G : GH) : Option (Int32 × Nat × GH) :=
  Option.bind (pV G v0 11 0 (.int (0 : Int32))) (fun (G1 : GH) =>
  fixN (fun _ => none) (b_X11_type_7 F   v0 v1 n G1) F (0 : Int32))
set_option maxRecDepth 100000 in
set_option maxHeartbeats 4000000 in
theorem c_X11_type_107 {E : GE} {F : Nat}   {v0 : Nat}  {n : Nat} {G : GH} {z : Int32 × Nat × GH}   (h : k_X11_type_107 F   v0  n G = some z) : WG E RX11 "type" cX11_type 5 (some .int) 0 0 0 0 107 [(0, .ref v0)] [] n G (g_O E (some (.int z.1), z.2.1, z.2.2)) := by
  unfold k_X11_type_107 at h
  refine r_aload d_X11_type_107 rfl ?_
  refine r_getR h d_X11_type_108 pf_X11_7 (fun x4 h => ?_)
  refine r_sipush d_X11_type_111 sp_891 ?_
  refine r_iald h d_X11_type_114 (fun x5 h => ?_)
  exact r_iret h d_X11_type_115
set_option maxRecDepth 100000 in
set_option maxHeartbeats 4000000 in
theorem l_X11_type_58 {E : GE} {F : Nat}   {v0 : Nat} {v1 : Int64} {v3 : Int32}   : ∀ (K : Nat) (v4 : Int32) (n : Nat) (G : GH) (z : Int32 × Nat × GH), fixN ((fun _ _ _ => none) : Int32 → Nat → GH → Option (Int32 × Nat × GH)) (b_X11_type_58 F   v0 v1 v3) K v4 n G = some z → WG E RX11 "type" cX11_type 5 (some .int) 0 0 0 0 58 [(0, .ref v0), (1, .long v1), (3, .int v3), (4, .int v4)] [] n G (g_O E (some (.int z.1), z.2.1, z.2.2)) := by
  intro K
  refine fixN_ind (P := fun (r : Int32 → Nat → GH → Option (Int32 × Nat × GH)) => ∀ (v4 : Int32) (n : Nat) (G : GH) (z : Int32 × Nat × GH), r v4 n G = some z → WG E RX11 "type" cX11_type 5 (some .int) 0 0 0 0 58 [(0, .ref v0), (1, .long v1), (3, .int v3), (4, .int v4)] [] n G (g_O E (some (.int z.1), z.2.1, z.2.2))) ?_ ?_ K
  · intro v4 n G z h
    cases h
  · intro rec58 hrec58 v4 n G z h
    unfold b_X11_type_58 at h
    refine r_iload d_X11_type_58 rfl ?_
    refine r_iload d_X11_type_60 rfl ?_
    refine r_icmp_ge h d_X11_type_61 (fun h => ?_) (fun h => ?_)
    · refine r_lv [(0, .ref v0)] (g_allc rfl g_alln) ?_
      exact c_X11_type_107   h
    · refine r_aload d_X11_type_64 rfl ?_
      refine r_getR h d_X11_type_65 pf_X11_13 (fun x6 h => ?_)
      refine r_aload d_X11_type_68 rfl ?_
      refine r_getR h d_X11_type_69 pf_X11_7 (fun x7 h => ?_)
      refine r_sipush d_X11_type_72 sp_891 ?_
      refine r_iald h d_X11_type_75 (fun x8 h => ?_)
      refine r_lload d_X11_type_76 rfl ?_
      refine r_bipush d_X11_type_77 bp_56 ?_
      refine r_bipush d_X11_type_79 bp_8 ?_
      refine r_iload d_X11_type_81 rfl ?_
      refine r_imul d_X11_type_83 ?_
      refine r_isub d_X11_type_84 ?_
      refine r_lshr d_X11_type_85 ?_
      refine r_l2i d_X11_type_86 ?_
      refine r_i2b d_X11_type_87 ?_
      refine r_bast h d_X11_type_88 (fun G9 h => ?_)
      refine r_aload d_X11_type_89 rfl ?_
      refine r_getR h d_X11_type_90 pf_X11_7 (fun x10 h => ?_)
      refine r_sipush d_X11_type_93 sp_891 ?_
      refine r_dup2 d_X11_type_96 rfl rfl ?_
      refine r_iald h d_X11_type_97 (fun x11 h => ?_)
      refine r_iconst d_X11_type_98 ic_1 ?_
      refine r_iadd d_X11_type_99 ?_
      refine r_iast h d_X11_type_100 (fun G12 h => ?_)
      refine r_iinc d_X11_type_101 rfl (ii_1 _) rfl rfl ?_
      refine r_goto d_X11_type_104 ?_
      refine r_lv [(0, .ref v0), (1, .long v1), (3, .int v3), (4, .int (v4 + 1))] (g_allc rfl (g_allc rfl (g_allc rfl (g_allc rfl g_alln)))) ?_
      exact hrec58 _ _ _ _ h
set_option maxRecDepth 100000 in
set_option maxHeartbeats 4000000 in
theorem c_X11_type_37 {E : GE} {F : Nat}   {v0 : Nat} {v1 : Int64} {v3 : Int32}  {n : Nat} {G : GH} {z : Int32 × Nat × GH}   (h : k_X11_type_37 F   v0 v1 v3  n G = some z) : WG E RX11 "type" cX11_type 5 (some .int) 0 0 0 0 37 [(0, .ref v0), (1, .long v1), (3, .int v3)] [] n G (g_O E (some (.int z.1), z.2.1, z.2.2)) := by
  unfold k_X11_type_37 at h
  refine r_aload d_X11_type_37 rfl ?_
  refine r_getR h d_X11_type_38 pf_X11_7 (fun x2 h => ?_)
  refine r_sipush d_X11_type_41 sp_891 ?_
  refine r_iald h d_X11_type_44 (fun x3 h => ?_)
  refine r_iload d_X11_type_45 rfl ?_
  refine r_iadd d_X11_type_46 ?_
  refine r_sipush d_X11_type_47 sp_600 ?_
  refine r_icmp_le h d_X11_type_50 (fun h => ?_) (fun h => ?_)
  · refine r_iconst d_X11_type_55 ic_0 ?_
    refine r_istore d_X11_type_56 rfl rfl ?_
    refine r_lv [(0, .ref v0), (1, .long v1), (3, .int v3), (4, .int (0 : Int32))] (g_allc rfl (g_allc rfl (g_allc rfl (g_allc rfl g_alln)))) ?_
    exact l_X11_type_58   _ _ _ _ _ h
  · refine r_iconst d_X11_type_53 ic_m1 ?_
    exact r_iret h d_X11_type_54
set_option maxRecDepth 100000 in
set_option maxHeartbeats 4000000 in
theorem l_X11_type_7 {E : GE} {F : Nat}   {v0 : Nat} {v1 : Int64} {n : Nat} {G : GH}   : ∀ (K : Nat) (v3 : Int32) (z : Int32 × Nat × GH), fixN ((fun _ => none) : Int32 → Option (Int32 × Nat × GH)) (b_X11_type_7 F   v0 v1 n G) K v3 = some z → WG E RX11 "type" cX11_type 5 (some .int) 0 0 0 0 7 [(0, .ref v0), (1, .long v1), (3, .int v3)] [] n G (g_O E (some (.int z.1), z.2.1, z.2.2)) := by
  intro K
  refine fixN_ind (P := fun (r : Int32 → Option (Int32 × Nat × GH)) => ∀ (v3 : Int32) (z : Int32 × Nat × GH), r v3 = some z → WG E RX11 "type" cX11_type 5 (some .int) 0 0 0 0 7 [(0, .ref v0), (1, .long v1), (3, .int v3)] [] n G (g_O E (some (.int z.1), z.2.1, z.2.2))) ?_ ?_ K
  · intro v3 z h
    cases h
  · intro rec7 hrec7 v3 z h
    unfold b_X11_type_7 at h
    refine r_iload d_X11_type_7 rfl ?_
    refine r_bipush d_X11_type_8 bp_8 ?_
    refine r_icmp_ge h d_X11_type_10 (fun h => ?_) (fun h => ?_)
    · refine r_lv [(0, .ref v0), (1, .long v1), (3, .int v3)] (g_allc rfl (g_allc rfl (g_allc rfl g_alln))) ?_
      exact c_X11_type_37   h
    · refine r_lload d_X11_type_13 rfl ?_
      refine r_bipush d_X11_type_14 bp_56 ?_
      refine r_bipush d_X11_type_16 bp_8 ?_
      refine r_iload d_X11_type_18 rfl ?_
      refine r_imul d_X11_type_19 ?_
      refine r_isub d_X11_type_20 ?_
      refine r_lshr d_X11_type_21 ?_
      refine r_ldc2 d_X11_type_22 cl_X11_84 ?_
      refine r_land d_X11_type_25 ?_
      refine r_lconst d_X11_type_26 lc_0 ?_
      refine r_lcmp d_X11_type_27 ?_
      refine r_if_eq h d_X11_type_28 (fun h => ?_) (fun h => ?_)
      · refine r_lv [(0, .ref v0), (1, .long v1), (3, .int v3)] (g_allc rfl (g_allc rfl (g_allc rfl g_alln))) ?_
        exact c_X11_type_37   h
      · refine r_iinc d_X11_type_31 rfl (ii_1 _) rfl rfl ?_
        refine r_goto d_X11_type_34 ?_
        refine r_lv [(0, .ref v0), (1, .long v1), (3, .int (v3 + 1))] (g_allc rfl (g_allc rfl (g_allc rfl g_alln))) ?_
        exact hrec7 _ _ h
set_option maxRecDepth 100000 in
set_option maxHeartbeats 4000000 in
theorem s_X11_type {E : GE} {F : Nat}  {v0 : Nat} {v1 : Int64} {n : Nat} {G : GH} {z : Int32 × Nat × GH}  (h : f_X11_type F  v0 v1 n G = some z) : GM E yX11_type cX11_type 5 (some .int) 0 0 0 0 [.ref v0, .long v1] n G (some (.int z.1), z.2.1, z.2.2) := by
  refine GM.of (by decide) (Nat.le_of_ble_eq_true rfl) ?_
  show WG E RX11 "type" cX11_type 5 (some .int) 0 0 0 0 0 [(0, .ref v0), (1, .long v1)] [] n G (g_O E (some (.int z.1), z.2.1, z.2.2))
  unfold f_X11_type at h
  refine r_aload d_X11_type_0 rfl ?_
  refine r_iconst d_X11_type_1 ic_0 ?_
  refine r_put h d_X11_type_2 pw_X11_72 rfl rfl (fun G1 h => ?_)
  refine r_iconst d_X11_type_5 ic_0 ?_
  refine r_istore d_X11_type_6 rfl rfl ?_
  refine r_lv [(0, .ref v0), (1, .long v1), (3, .int (0 : Int32))] (g_allc rfl (g_allc rfl (g_allc rfl g_alln))) ?_
  exact l_X11_type_7   _ _ _ h
/-! X11_see -/
theorem pf_X11_86 : pF RX11 86 11 6 := ⟨RX11, TX11, 37, rfl, by decide, rfl, Or.inl (g_in 1151 (by decide +kernel) rfl)⟩
theorem pf_X11_89 : pF RX11 89 11 7 := ⟨RX11, TX11, 37, rfl, by decide, rfl, Or.inl (g_in 1152 (by decide +kernel) rfl)⟩
theorem d_X11_see_0 : decAL cX11_see 0 0 1 := Or.inr ⟨0, rfl, by decide +kernel, rfl⟩
theorem d_X11_see_1 : dec 3 cX11_see 1 (.getfield 86) 4 := ⟨by decide +kernel, rfl⟩
theorem d_X11_see_4 : decAL cX11_see 4 0 5 := Or.inr ⟨0, rfl, by decide +kernel, rfl⟩
theorem d_X11_see_5 : dec 3 cX11_see 5 (.getfield 89) 8 := ⟨by decide +kernel, rfl⟩
theorem d_X11_see_8 : decB cX11_see 8 (.if_icmp .ge 19) (19) 11 27 := ⟨by decide +kernel, rfl, by decide⟩
theorem d_X11_see_11 : decAL cX11_see 11 0 12 := Or.inr ⟨0, rfl, by decide +kernel, rfl⟩
theorem d_X11_see_12 : dec 3 cX11_see 12 (.getfield 13) 15 := ⟨by decide +kernel, rfl⟩
theorem d_X11_see_15 : decAL cX11_see 15 0 16 := Or.inr ⟨0, rfl, by decide +kernel, rfl⟩
theorem d_X11_see_16 : dec 3 cX11_see 16 (.getfield 86) 19 := ⟨by decide +kernel, rfl⟩
theorem d_X11_see_19 : dec 1 cX11_see 19 .baload 20 := ⟨by decide +kernel, rfl⟩
theorem d_X11_see_20 : dec 3 cX11_see 20 (.sipush 255) 23 := ⟨by decide +kernel, rfl⟩
theorem d_X11_see_23 : dec 1 cX11_see 23 .iand 24 := ⟨by decide +kernel, rfl⟩
theorem d_X11_see_24 : decB cX11_see 24 (.goto 4) (4) 27 28 := ⟨by decide +kernel, rfl, by decide⟩
theorem d_X11_see_27 : dec 1 cX11_see 27 (.iconst (-1)) 28 := ⟨by decide +kernel, rfl⟩
theorem d_X11_see_28 : dec 1 cX11_see 28 .ireturn 29 := ⟨by decide +kernel, rfl⟩
def f_X11_see (F : Nat)  (v0 : Nat) (G : GH) : Option (Int32) :=
  Option.bind (gI G v0 11 6) (fun (x1 : Int32) =>
  Option.bind (gI G v0 11 7) (fun (x2 : Int32) =>
  if x2 ≤ x1 then
  (some (-1 : Int32))
  else (Option.bind (gR G v0 11 2) (fun (x3 : Nat) =>
  Option.bind (gI G v0 11 6) (fun (x4 : Int32) =>
  Option.bind (aI G x3 1 x4) (fun (x5 : Int32) =>
  some (x5 &&& (255 : Int32))))))))
set_option maxRecDepth 100000 in
set_option maxHeartbeats 4000000 in
theorem s_X11_see {E : GE} {F : Nat}  {v0 : Nat} {n : Nat} {G : GH} {z : Int32}  (h : f_X11_see F  v0 G = some z) : GM E yX11_see cX11_see 1 (some .int) 0 0 0 0 [.ref v0] n G (some (.int z), n, G) := by
  refine GM.of (by decide) (Nat.le_of_ble_eq_true rfl) ?_
  show WG E RX11 "see" cX11_see 1 (some .int) 0 0 0 0 0 [(0, .ref v0)] [] n G (g_O E (some (.int z), n, G))
  unfold f_X11_see at h
  refine r_aload d_X11_see_0 rfl ?_
  refine r_getI h d_X11_see_1 pf_X11_86 (fun x1 h => ?_)
  refine r_aload d_X11_see_4 rfl ?_
  refine r_getI h d_X11_see_5 pf_X11_89 (fun x2 h => ?_)
  refine r_icmp_ge h d_X11_see_8 (fun h => ?_) (fun h => ?_)
  · refine r_iconst d_X11_see_27 ic_m1 ?_
    exact r_pret h d_X11_see_28
  · refine r_aload d_X11_see_11 rfl ?_
    refine r_getR h d_X11_see_12 pf_X11_13 (fun x3 h => ?_)
    refine r_aload d_X11_see_15 rfl ?_
    refine r_getI h d_X11_see_16 pf_X11_86 (fun x4 h => ?_)
    refine r_bald h d_X11_see_19 (fun x5 h => ?_)
    refine r_sipush d_X11_see_20 sp_255 ?_
    refine r_iand d_X11_see_23 ?_
    refine r_goto d_X11_see_24 ?_
    exact r_pret h d_X11_see_28
/-! X11_token -/
theorem py_X11_see : pY yX11_see cX11_see 1 (some .int) 0 := ⟨g_in 1277 (by decide +kernel) rfl, g_in 104 (by decide +kernel) rfl, by decide, by decide, by decide +kernel⟩
theorem pi_X11_see : pI yX11_see 11 := ⟨g_in 1276 (by decide +kernel) rfl, g_in 39 (by decide +kernel) rfl, (RX11, TX11, 37), rfl, rfl⟩
theorem pl_X11_92 : pL RX11 92 yX11_see := Or.inl (g_in 1274 (by decide +kernel) rfl)
theorem pw_X11_86 {nm : String} : pW RX11 nm 86 11 6 .int := ⟨RX11, TX11, 37, rfl, by decide, rfl, Or.inl ⟨g_in 1151 (by decide +kernel) rfl, Or.inl rfl⟩, by decide +kernel⟩
theorem pw_X11_96 {nm : String} : pW RX11 nm 96 11 8 .int := ⟨RX11, TX11, 37, rfl, by decide, rfl, Or.inl ⟨g_in 1153 (by decide +kernel) rfl, Or.inl rfl⟩, by decide +kernel⟩
theorem pw_X11_99 {nm : String} : pW RX11 nm 99 11 12 .long := ⟨RX11, TX11, 37, rfl, by decide, rfl, Or.inl ⟨g_in 1157 (by decide +kernel) rfl, Or.inl rfl⟩, by decide +kernel⟩
theorem pw_X11_103 {nm : String} : pW RX11 nm 103 11 10 .int := ⟨RX11, TX11, 37, rfl, by decide, rfl, Or.inl ⟨g_in 1155 (by decide +kernel) rfl, Or.inl rfl⟩, by decide +kernel⟩
theorem pw_X11_106 {nm : String} : pW RX11 nm 106 11 9 .int := ⟨RX11, TX11, 37, rfl, by decide, rfl, Or.inl ⟨g_in 1154 (by decide +kernel) rfl, Or.inl rfl⟩, by decide +kernel⟩
theorem pw_X11_109 {nm : String} : pW RX11 nm 109 11 11 .int := ⟨RX11, TX11, 37, rfl, by decide, rfl, Or.inl ⟨g_in 1156 (by decide +kernel) rfl, Or.inl rfl⟩, by decide +kernel⟩
theorem pf_X11_109 : pF RX11 109 11 11 := ⟨RX11, TX11, 37, rfl, by decide, rfl, Or.inl (g_in 1156 (by decide +kernel) rfl)⟩
theorem pf_X11_99 : pF RX11 99 11 12 := ⟨RX11, TX11, 37, rfl, by decide, rfl, Or.inl (g_in 1157 (by decide +kernel) rfl)⟩
theorem d_X11_token_0 : decAL cX11_token 0 0 1 := Or.inr ⟨0, rfl, by decide +kernel, rfl⟩
theorem d_X11_token_1 : dec 3 cX11_token 1 (.invokevirtual 92) 4 := ⟨by decide +kernel, rfl⟩
theorem d_X11_token_4 : dec 2 cX11_token 4 (.bipush 10) 6 := ⟨by decide +kernel, rfl⟩
theorem d_X11_token_6 : decB cX11_token 6 (.if_icmp .eq 12) (12) 9 18 := ⟨by decide +kernel, rfl, by decide⟩
theorem d_X11_token_9 : decAL cX11_token 9 0 10 := Or.inr ⟨0, rfl, by decide +kernel, rfl⟩
theorem d_X11_token_10 : dec 3 cX11_token 10 (.invokevirtual 92) 13 := ⟨by decide +kernel, rfl⟩
theorem d_X11_token_13 : dec 2 cX11_token 13 (.bipush 32) 15 := ⟨by decide +kernel, rfl⟩
theorem d_X11_token_15 : decB cX11_token 15 (.if_icmp .ne 16) (16) 18 31 := ⟨by decide +kernel, rfl, by decide⟩
theorem d_X11_token_18 : decAL cX11_token 18 0 19 := Or.inr ⟨0, rfl, by decide +kernel, rfl⟩
theorem d_X11_token_19 : dec 1 cX11_token 19 .dup 20 := ⟨by decide +kernel, rfl⟩
theorem d_X11_token_20 : dec 3 cX11_token 20 (.getfield 86) 23 := ⟨by decide +kernel, rfl⟩
theorem d_X11_token_23 : dec 1 cX11_token 23 (.iconst 1) 24 := ⟨by decide +kernel, rfl⟩
theorem d_X11_token_24 : dec 1 cX11_token 24 .iadd 25 := ⟨by decide +kernel, rfl⟩
theorem d_X11_token_25 : dec 3 cX11_token 25 (.putfield 86) 28 := ⟨by decide +kernel, rfl⟩
theorem d_X11_token_28 : decB cX11_token 28 (.goto (-28)) (-28) 31 0 := ⟨by decide +kernel, rfl, by decide⟩
theorem d_X11_token_31 : decAL cX11_token 31 0 32 := Or.inr ⟨0, rfl, by decide +kernel, rfl⟩
theorem d_X11_token_32 : decAL cX11_token 32 0 33 := Or.inr ⟨0, rfl, by decide +kernel, rfl⟩
theorem d_X11_token_33 : dec 3 cX11_token 33 (.getfield 86) 36 := ⟨by decide +kernel, rfl⟩
theorem d_X11_token_36 : dec 3 cX11_token 36 (.putfield 96) 39 := ⟨by decide +kernel, rfl⟩
theorem d_X11_token_39 : decAL cX11_token 39 0 40 := Or.inr ⟨0, rfl, by decide +kernel, rfl⟩
theorem d_X11_token_40 : dec 3 cX11_token 40 (.invokevirtual 92) 43 := ⟨by decide +kernel, rfl⟩
theorem d_X11_token_43 : decIS cX11_token 43 1 44 := Or.inr ⟨1, rfl, by decide +kernel, rfl⟩
theorem d_X11_token_44 : decAL cX11_token 44 0 45 := Or.inr ⟨0, rfl, by decide +kernel, rfl⟩
theorem d_X11_token_45 : dec 1 cX11_token 45 (.lconst 0) 46 := ⟨by decide +kernel, rfl⟩
theorem d_X11_token_46 : dec 3 cX11_token 46 (.putfield 99) 49 := ⟨by decide +kernel, rfl⟩
theorem d_X11_token_49 : decAL cX11_token 49 0 50 := Or.inr ⟨0, rfl, by decide +kernel, rfl⟩
theorem d_X11_token_50 : dec 1 cX11_token 50 (.iconst 0) 51 := ⟨by decide +kernel, rfl⟩
theorem d_X11_token_51 : dec 3 cX11_token 51 (.putfield 103) 54 := ⟨by decide +kernel, rfl⟩
theorem d_X11_token_54 : dec 1 cX11_token 54 (.iconst 0) 55 := ⟨by decide +kernel, rfl⟩
theorem d_X11_token_55 : decIS cX11_token 55 2 56 := Or.inr ⟨2, rfl, by decide +kernel, rfl⟩
theorem d_X11_token_56 : decIL cX11_token 56 1 57 := Or.inr ⟨1, rfl, by decide +kernel, rfl⟩
theorem d_X11_token_57 : decB cX11_token 57 (.ifCond .ge 11) (11) 60 68 := ⟨by decide +kernel, rfl, by decide⟩
theorem d_X11_token_60 : decAL cX11_token 60 0 61 := Or.inr ⟨0, rfl, by decide +kernel, rfl⟩
theorem d_X11_token_61 : dec 1 cX11_token 61 (.iconst 0) 62 := ⟨by decide +kernel, rfl⟩
theorem d_X11_token_62 : dec 3 cX11_token 62 (.putfield 106) 65 := ⟨by decide +kernel, rfl⟩
theorem d_X11_token_65 : decB cX11_token 65 (.goto 217) (217) 68 282 := ⟨by decide +kernel, rfl, by decide⟩
theorem d_X11_token_68 : decIL cX11_token 68 1 69 := Or.inr ⟨1, rfl, by decide +kernel, rfl⟩
theorem d_X11_token_69 : dec 2 cX11_token 69 (.bipush 97) 71 := ⟨by decide +kernel, rfl⟩
theorem d_X11_token_71 : dec 2 cX11_token 71 (.bipush 122) 73 := ⟨by decide +kernel, rfl⟩
theorem d_X11_token_73 : dec 3 cX11_token 73 (.invokestatic 80) 76 := ⟨by decide +kernel, rfl⟩
theorem d_X11_token_76 : decB cX11_token 76 (.ifCond .eq 76) (76) 79 152 := ⟨by decide +kernel, rfl, by decide⟩
theorem d_X11_token_79 : decAL cX11_token 79 0 80 := Or.inr ⟨0, rfl, by decide +kernel, rfl⟩
theorem d_X11_token_80 : dec 3 cX11_token 80 (.invokevirtual 92) 83 := ⟨by decide +kernel, rfl⟩
theorem d_X11_token_83 : dec 2 cX11_token 83 (.bipush 97) 85 := ⟨by decide +kernel, rfl⟩
theorem d_X11_token_85 : dec 2 cX11_token 85 (.bipush 122) 87 := ⟨by decide +kernel, rfl⟩
theorem d_X11_token_87 : dec 3 cX11_token 87 (.invokestatic 80) 90 := ⟨by decide +kernel, rfl⟩
theorem d_X11_token_90 : decB cX11_token 90 (.ifCond .eq 36) (36) 93 126 := ⟨by decide +kernel, rfl, by decide⟩
theorem d_X11_token_93 : decAL cX11_token 93 0 94 := Or.inr ⟨0, rfl, by decide +kernel, rfl⟩
theorem d_X11_token_94 : decAL cX11_token 94 0 95 := Or.inr ⟨0, rfl, by decide +kernel, rfl⟩
theorem d_X11_token_95 : dec 3 cX11_token 95 (.getfield 99) 98 := ⟨by decide +kernel, rfl⟩
theorem d_X11_token_98 : dec 2 cX11_token 98 (.bipush 8) 100 := ⟨by decide +kernel, rfl⟩
theorem d_X11_token_100 : dec 1 cX11_token 100 .lshl 101 := ⟨by decide +kernel, rfl⟩
theorem d_X11_token_101 : decAL cX11_token 101 0 102 := Or.inr ⟨0, rfl, by decide +kernel, rfl⟩
theorem d_X11_token_102 : dec 3 cX11_token 102 (.invokevirtual 92) 105 := ⟨by decide +kernel, rfl⟩
theorem d_X11_token_105 : dec 1 cX11_token 105 .i2l 106 := ⟨by decide +kernel, rfl⟩
theorem d_X11_token_106 : dec 1 cX11_token 106 .lor 107 := ⟨by decide +kernel, rfl⟩
theorem d_X11_token_107 : dec 3 cX11_token 107 (.putfield 99) 110 := ⟨by decide +kernel, rfl⟩
theorem d_X11_token_110 : decAL cX11_token 110 0 111 := Or.inr ⟨0, rfl, by decide +kernel, rfl⟩
theorem d_X11_token_111 : dec 1 cX11_token 111 .dup 112 := ⟨by decide +kernel, rfl⟩
theorem d_X11_token_112 : dec 3 cX11_token 112 (.getfield 86) 115 := ⟨by decide +kernel, rfl⟩
theorem d_X11_token_115 : dec 1 cX11_token 115 (.iconst 1) 116 := ⟨by decide +kernel, rfl⟩
theorem d_X11_token_116 : dec 1 cX11_token 116 .iadd 117 := ⟨by decide +kernel, rfl⟩
theorem d_X11_token_117 : dec 3 cX11_token 117 (.putfield 86) 120 := ⟨by decide +kernel, rfl⟩
theorem d_X11_token_120 : dec 3 cX11_token 120 (.iinc 2 1) 123 := ⟨by decide +kernel, rfl⟩
theorem d_X11_token_123 : decB cX11_token 123 (.goto (-44)) (-44) 126 79 := ⟨by decide +kernel, rfl, by decide⟩
theorem d_X11_token_126 : decAL cX11_token 126 0 127 := Or.inr ⟨0, rfl, by decide +kernel, rfl⟩
theorem d_X11_token_127 : decIL cX11_token 127 2 128 := Or.inr ⟨2, rfl, by decide +kernel, rfl⟩
theorem d_X11_token_128 : dec 2 cX11_token 128 (.bipush 8) 130 := ⟨by decide +kernel, rfl⟩
theorem d_X11_token_130 : decB cX11_token 130 (.if_icmp .le 7) (7) 133 137 := ⟨by decide +kernel, rfl, by decide⟩
theorem d_X11_token_133 : dec 1 cX11_token 133 (.lconst 0) 134 := ⟨by decide +kernel, rfl⟩
theorem d_X11_token_134 : decB cX11_token 134 (.goto 7) (7) 137 141 := ⟨by decide +kernel, rfl, by decide⟩
theorem d_X11_token_137 : decAL cX11_token 137 0 138 := Or.inr ⟨0, rfl, by decide +kernel, rfl⟩
theorem d_X11_token_138 : dec 3 cX11_token 138 (.getfield 99) 141 := ⟨by decide +kernel, rfl⟩
theorem d_X11_token_141 : dec 3 cX11_token 141 (.putfield 99) 144 := ⟨by decide +kernel, rfl⟩
theorem d_X11_token_144 : decAL cX11_token 144 0 145 := Or.inr ⟨0, rfl, by decide +kernel, rfl⟩
theorem d_X11_token_145 : dec 1 cX11_token 145 (.iconst 2) 146 := ⟨by decide +kernel, rfl⟩
theorem d_X11_token_146 : dec 3 cX11_token 146 (.putfield 106) 149 := ⟨by decide +kernel, rfl⟩
theorem d_X11_token_149 : decB cX11_token 149 (.goto 133) (133) 152 282 := ⟨by decide +kernel, rfl, by decide⟩
theorem d_X11_token_152 : decIL cX11_token 152 1 153 := Or.inr ⟨1, rfl, by decide +kernel, rfl⟩
theorem d_X11_token_153 : dec 2 cX11_token 153 (.bipush 48) 155 := ⟨by decide +kernel, rfl⟩
theorem d_X11_token_155 : dec 2 cX11_token 155 (.bipush 57) 157 := ⟨by decide +kernel, rfl⟩
theorem d_X11_token_157 : dec 3 cX11_token 157 (.invokestatic 80) 160 := ⟨by decide +kernel, rfl⟩
theorem d_X11_token_160 : decB cX11_token 160 (.ifCond .eq 86) (86) 163 246 := ⟨by decide +kernel, rfl, by decide⟩
theorem d_X11_token_163 : decAL cX11_token 163 0 164 := Or.inr ⟨0, rfl, by decide +kernel, rfl⟩
theorem d_X11_token_164 : dec 1 cX11_token 164 (.iconst 0) 165 := ⟨by decide +kernel, rfl⟩
theorem d_X11_token_165 : dec 3 cX11_token 165 (.putfield 109) 168 := ⟨by decide +kernel, rfl⟩
theorem d_X11_token_168 : decAL cX11_token 168 0 169 := Or.inr ⟨0, rfl, by decide +kernel, rfl⟩
theorem d_X11_token_169 : dec 3 cX11_token 169 (.invokevirtual 92) 172 := ⟨by decide +kernel, rfl⟩
theorem d_X11_token_172 : dec 2 cX11_token 172 (.bipush 48) 174 := ⟨by decide +kernel, rfl⟩
theorem d_X11_token_174 : dec 2 cX11_token 174 (.bipush 57) 176 := ⟨by decide +kernel, rfl⟩
theorem d_X11_token_176 : dec 3 cX11_token 176 (.invokestatic 80) 179 := ⟨by decide +kernel, rfl⟩
theorem d_X11_token_179 : decB cX11_token 179 (.ifCond .eq 50) (50) 182 229 := ⟨by decide +kernel, rfl, by decide⟩
theorem d_X11_token_182 : decAL cX11_token 182 0 183 := Or.inr ⟨0, rfl, by decide +kernel, rfl⟩
theorem d_X11_token_183 : decIL cX11_token 183 2 184 := Or.inr ⟨2, rfl, by decide +kernel, rfl⟩
theorem d_X11_token_184 : dec 1 cX11_token 184 (.iconst 3) 185 := ⟨by decide +kernel, rfl⟩
theorem d_X11_token_185 : decB cX11_token 185 (.if_icmp .ge 21) (21) 188 206 := ⟨by decide +kernel, rfl, by decide⟩
theorem d_X11_token_188 : dec 2 cX11_token 188 (.bipush 10) 190 := ⟨by decide +kernel, rfl⟩
theorem d_X11_token_190 : decAL cX11_token 190 0 191 := Or.inr ⟨0, rfl, by decide +kernel, rfl⟩
theorem d_X11_token_191 : dec 3 cX11_token 191 (.getfield 109) 194 := ⟨by decide +kernel, rfl⟩
theorem d_X11_token_194 : dec 1 cX11_token 194 .imul 195 := ⟨by decide +kernel, rfl⟩
theorem d_X11_token_195 : decAL cX11_token 195 0 196 := Or.inr ⟨0, rfl, by decide +kernel, rfl⟩
theorem d_X11_token_196 : dec 3 cX11_token 196 (.invokevirtual 92) 199 := ⟨by decide +kernel, rfl⟩
theorem d_X11_token_199 : dec 1 cX11_token 199 .iadd 200 := ⟨by decide +kernel, rfl⟩
theorem d_X11_token_200 : dec 2 cX11_token 200 (.bipush 48) 202 := ⟨by decide +kernel, rfl⟩
theorem d_X11_token_202 : dec 1 cX11_token 202 .isub 203 := ⟨by decide +kernel, rfl⟩
theorem d_X11_token_203 : decB cX11_token 203 (.goto 7) (7) 206 210 := ⟨by decide +kernel, rfl, by decide⟩
theorem d_X11_token_206 : decAL cX11_token 206 0 207 := Or.inr ⟨0, rfl, by decide +kernel, rfl⟩
theorem d_X11_token_207 : dec 3 cX11_token 207 (.getfield 109) 210 := ⟨by decide +kernel, rfl⟩
theorem d_X11_token_210 : dec 3 cX11_token 210 (.putfield 109) 213 := ⟨by decide +kernel, rfl⟩
theorem d_X11_token_213 : decAL cX11_token 213 0 214 := Or.inr ⟨0, rfl, by decide +kernel, rfl⟩
theorem d_X11_token_214 : dec 1 cX11_token 214 .dup 215 := ⟨by decide +kernel, rfl⟩
theorem d_X11_token_215 : dec 3 cX11_token 215 (.getfield 86) 218 := ⟨by decide +kernel, rfl⟩
theorem d_X11_token_218 : dec 1 cX11_token 218 (.iconst 1) 219 := ⟨by decide +kernel, rfl⟩
theorem d_X11_token_219 : dec 1 cX11_token 219 .iadd 220 := ⟨by decide +kernel, rfl⟩
theorem d_X11_token_220 : dec 3 cX11_token 220 (.putfield 86) 223 := ⟨by decide +kernel, rfl⟩
theorem d_X11_token_223 : dec 3 cX11_token 223 (.iinc 2 1) 226 := ⟨by decide +kernel, rfl⟩
theorem d_X11_token_226 : decB cX11_token 226 (.goto (-58)) (-58) 229 168 := ⟨by decide +kernel, rfl, by decide⟩
theorem d_X11_token_229 : decAL cX11_token 229 0 230 := Or.inr ⟨0, rfl, by decide +kernel, rfl⟩
theorem d_X11_token_230 : decIL cX11_token 230 2 231 := Or.inr ⟨2, rfl, by decide +kernel, rfl⟩
theorem d_X11_token_231 : dec 1 cX11_token 231 (.iconst 3) 232 := ⟨by decide +kernel, rfl⟩
theorem d_X11_token_232 : decB cX11_token 232 (.if_icmp .le 7) (7) 235 239 := ⟨by decide +kernel, rfl, by decide⟩
theorem d_X11_token_235 : dec 1 cX11_token 235 (.iconst 1) 236 := ⟨by decide +kernel, rfl⟩
theorem d_X11_token_236 : decB cX11_token 236 (.goto 4) (4) 239 240 := ⟨by decide +kernel, rfl, by decide⟩
theorem d_X11_token_239 : dec 1 cX11_token 239 (.iconst 3) 240 := ⟨by decide +kernel, rfl⟩
theorem d_X11_token_240 : dec 3 cX11_token 240 (.putfield 106) 243 := ⟨by decide +kernel, rfl⟩
theorem d_X11_token_243 : decB cX11_token 243 (.goto 39) (39) 246 282 := ⟨by decide +kernel, rfl, by decide⟩
theorem d_X11_token_246 : decAL cX11_token 246 0 247 := Or.inr ⟨0, rfl, by decide +kernel, rfl⟩
theorem d_X11_token_247 : dec 1 cX11_token 247 .dup 248 := ⟨by decide +kernel, rfl⟩
theorem d_X11_token_248 : dec 3 cX11_token 248 (.getfield 86) 251 := ⟨by decide +kernel, rfl⟩
theorem d_X11_token_251 : dec 1 cX11_token 251 (.iconst 1) 252 := ⟨by decide +kernel, rfl⟩
theorem d_X11_token_252 : dec 1 cX11_token 252 .iadd 253 := ⟨by decide +kernel, rfl⟩
theorem d_X11_token_253 : dec 3 cX11_token 253 (.putfield 86) 256 := ⟨by decide +kernel, rfl⟩
theorem d_X11_token_256 : decAL cX11_token 256 0 257 := Or.inr ⟨0, rfl, by decide +kernel, rfl⟩
theorem d_X11_token_257 : decIL cX11_token 257 1 258 := Or.inr ⟨1, rfl, by decide +kernel, rfl⟩
theorem d_X11_token_258 : dec 3 cX11_token 258 (.putfield 103) 261 := ⟨by decide +kernel, rfl⟩
theorem d_X11_token_261 : decAL cX11_token 261 0 262 := Or.inr ⟨0, rfl, by decide +kernel, rfl⟩
theorem d_X11_token_262 : decIL cX11_token 262 1 263 := Or.inr ⟨1, rfl, by decide +kernel, rfl⟩
theorem d_X11_token_263 : dec 2 cX11_token 263 (.bipush 59) 265 := ⟨by decide +kernel, rfl⟩
theorem d_X11_token_265 : decB cX11_token 265 (.if_icmp .eq 9) (9) 268 274 := ⟨by decide +kernel, rfl, by decide⟩
theorem d_X11_token_268 : decIL cX11_token 268 1 269 := Or.inr ⟨1, rfl, by decide +kernel, rfl⟩
theorem d_X11_token_269 : dec 2 cX11_token 269 (.bipush 45) 271 := ⟨by decide +kernel, rfl⟩
theorem d_X11_token_271 : decB cX11_token 271 (.if_icmp .ne 7) (7) 274 278 := ⟨by decide +kernel, rfl, by decide⟩
theorem d_X11_token_274 : dec 1 cX11_token 274 (.iconst 4) 275 := ⟨by decide +kernel, rfl⟩
theorem d_X11_token_275 : decB cX11_token 275 (.goto 4) (4) 278 279 := ⟨by decide +kernel, rfl, by decide⟩
theorem d_X11_token_278 : dec 1 cX11_token 278 (.iconst 1) 279 := ⟨by decide +kernel, rfl⟩
theorem d_X11_token_279 : dec 3 cX11_token 279 (.putfield 106) 282 := ⟨by decide +kernel, rfl⟩
theorem d_X11_token_282 : dec 1 cX11_token 282 .return_ 283 := ⟨by decide +kernel, rfl⟩
def k_X11_token_18 (F : Nat)  (rec0 : Nat → GH → Option (Nat × GH)) (v0 : Nat)  (n : Nat) (G : GH) : Option (Nat × GH) :=
  Option.bind (gI G v0 11 6) (fun (x2 : Int32) =>
  Option.bind (pV G v0 11 6 (.int (x2 + (1 : Int32)))) (fun (G3 : GH) =>
  rec0 n G3))
def k_X11_token_229 (F : Nat)   (v0 : Nat) (v2 : Int32)  (n : Nat) (G : GH) : Option (Nat × GH) :=
  if v2 ≤ (3 : Int32) then
  (Option.bind (pV G v0 11 9 (.int (3 : Int32))) (fun (G21 : GH) =>
  some (n, G21)))
  else (Option.bind (pV G v0 11 9 (.int (1 : Int32))) (fun (G22 : GH) =>
  some (n, G22)))
def k_X11_token_210 (F : Nat)  (rec168 : Int32 → Nat → GH → Option (Nat × GH)) (v0 : Nat) (v2 : Int32) (s0 : Nat) (s1 : Int32) (n : Nat) (G : GH) : Option (Nat × GH) :=
  Option.bind (pV G s0 11 11 (.int s1)) (fun (G24 : GH) =>
  Option.bind (gI G24 v0 11 6) (fun (x25 : Int32) =>
  Option.bind (pV G24 v0 11 6 (.int (x25 + (1 : Int32)))) (fun (G26 : GH) =>
  rec168 (v2 + 1) n G26)))
def b_X11_token_168 (F : Nat)   (v0 : Nat) (rec168 : Int32 → Nat → GH → Option (Nat × GH)) : Int32 → Nat → GH → Option (Nat × GH) := fun v2 n G =>
  cvP G v0 11 (f_X11_see F v0 G) (fun (x19 : Int32) =>
  Option.bind (f_X11_in F x19 (48 : Int32) (57 : Int32) G) (fun (x20 : Int32) =>
  if x20 = 0 then
  (k_X11_token_229 F   v0 v2 n G)
  else (if (3 : Int32) ≤ v2 then
  (Option.bind (gI G v0 11 11) (fun (x23 : Int32) =>
  k_X11_token_210 F  rec168 v0 v2 v0 x23 n G))
  else (Option.bind (gI G v0 11 11) (fun (x27 : Int32) =>
  cvP G v0 11 (f_X11_see F v0 G) (fun (x28 : Int32) =>
  k_X11_token_210 F  rec168 v0 v2 v0 ((((10 : Int32) * x27) + x28) - (48 : Int32)) n G))))))
def k_X11_token_126 (F : Nat)   (v0 : Nat) (v2 : Int32)  (n : Nat) (G : GH) : Option (Nat × GH) :=
  if v2 ≤ (8 : Int32) then
  (Option.bind (gJ G v0 11 12) (fun (x31 : Int64) =>
  Option.bind (pV G v0 11 12 (.long x31)) (fun (G32 : GH) =>
  Option.bind (pV G32 v0 11 9 (.int (2 : Int32))) (fun (G33 : GH) =>
  some (n, G33)))))
  else (Option.bind (pV G v0 11 12 (.long (0 : Int64))) (fun (G34 : GH) =>
  Option.bind (pV G34 v0 11 9 (.int (2 : Int32))) (fun (G35 : GH) =>
  some (n, G35))))
def b_X11_token_79 (F : Nat)   (v0 : Nat) (rec79 : Int32 → Nat → GH → Option (Nat × GH)) : Int32 → Nat → GH → Option (Nat × GH) := fun v2 n G =>
  cvP G v0 11 (f_X11_see F v0 G) (fun (x29 : Int32) =>
  Option.bind (f_X11_in F x29 (97 : Int32) (122 : Int32) G) (fun (x30 : Int32) =>
  if x30 = 0 then
  (k_X11_token_126 F   v0 v2 n G)
  else (Option.bind (gJ G v0 11 12) (fun (x36 : Int64) =>
  cvP G v0 11 (f_X11_see F v0 G) (fun (x37 : Int32) =>
  Option.bind (pV G v0 11 12 (.long ((x36 <<< ((Int32.toInt64 (8 : Int32)) &&& 63)) ||| (Int32.toInt64 x37)))) (fun (G38 : GH) =>
  Option.bind (gI G38 v0 11 6) (fun (x39 : Int32) =>
  Option.bind (pV G38 v0 11 6 (.int (x39 + (1 : Int32)))) (fun (G40 : GH) =>
  rec79 (v2 + 1) n G40))))))))
def k_X11_token_31 (F : Nat)   (v0 : Nat)  (n : Nat) (G : GH) : Option (Nat × GH) :=
  Option.bind (gI G v0 11 6) (fun (x5 : Int32) =>
  Option.bind (pV G v0 11 8 (.int x5)) (fun (G6 : GH) =>
  cvP G6 v0 11 (f_X11_see F v0 G6) (fun (x7 : Int32) =>
  Option.bind (pV G6 v0 11 12 (.long (0 : Int64))) (fun (G8 : GH) =>
  Option.bind (pV G8 v0 11 10 (.int (0 : Int32))) (fun (G9 : GH) =>
  if 0 ≤ x7 then
  (Option.bind (f_X11_in F x7 (97 : Int32) (122 : Int32) G9) (fun (x10 : Int32) =>
  if x10 = 0 then
  (Option.bind (f_X11_in F x7 (48 : Int32) (57 : Int32) G9) (fun (x11 : Int32) =>
  if x11 = 0 then
  (Option.bind (gI G9 v0 11 6) (fun (x12 : Int32) =>
  Option.bind (pV G9 v0 11 6 (.int (x12 + (1 : Int32)))) (fun (G13 : GH) =>
  Option.bind (pV G13 v0 11 10 (.int x7)) (fun (G14 : GH) =>
  if x7 = (59 : Int32) then
  (Option.bind (pV G14 v0 11 9 (.int (4 : Int32))) (fun (G15 : GH) =>
  some (n, G15)))
  else (if x7 = (45 : Int32) then
  (Option.bind (pV G14 v0 11 9 (.int (4 : Int32))) (fun (G17 : GH) =>
  some (n, G17)))
  else (Option.bind (pV G14 v0 11 9 (.int (1 : Int32))) (fun (G16 : GH) =>
  some (n, G16))))))))
  else (Option.bind (pV G9 v0 11 11 (.int (0 : Int32))) (fun (G18 : GH) =>
  fixN (fun _ _ _ => none) (b_X11_token_168 F   v0) F (0 : Int32) n G18))))
  else (fixN (fun _ _ _ => none) (b_X11_token_79 F   v0) F (0 : Int32) n G9)))
  else (Option.bind (pV G9 v0 11 9 (.int (0 : Int32))) (fun (G41 : GH) =>
  some (n, G41))))))))
def b_X11_token_0 (F : Nat)   (v0 : Nat) (rec0 : Nat → GH → Option (Nat × GH)) : Nat → GH → Option (Nat × GH) := fun  n G =>
  cvP G v0 11 (f_X11_see F v0 G) (fun (x1 : Int32) =>
  if x1 = (10 : Int32) then
  (k_X11_token_18 F  rec0 v0 n G)
  else (cvP G v0 11 (f_X11_see F v0 G) (fun (x4 : Int32) =>
  if x4 = (32 : Int32) then
  (k_X11_token_18 F  rec0 v0 n G)
  else (k_X11_token_31 F   v0 n G))))
def f_X11_token (F : Nat)  (v0 : Nat) (n : Nat) (G : GH) : Option (Nat × GH) :=
  fixN (fun _ _ => none) (b_X11_token_0 F   v0) F n G
set_option maxRecDepth 100000 in
set_option maxHeartbeats 4000000 in
theorem c_X11_token_18 {E : GE} {F : Nat}  {rec0 : Nat → GH → Option (Nat × GH)} {v0 : Nat}  {n : Nat} {G : GH} {z : Nat × GH}  (hrec0 : ∀  (n : Nat) (G : GH) (z : Nat × GH), rec0  n G = some z → WG E RX11 "token" cX11_token 3 none 1 22 0 0 0 [(0, .ref v0)] [] n G (g_O E (none, z.1, z.2))) (h : k_X11_token_18 F  rec0 v0  n G = some z) : WG E RX11 "token" cX11_token 3 none 1 22 0 0 18 [(0, .ref v0)] [] n G (g_O E (none, z.1, z.2)) := by
  unfold k_X11_token_18 at h
  refine r_aload d_X11_token_18 rfl ?_
  refine r_dup d_X11_token_19 rfl ?_
  refine r_getI h d_X11_token_20 pf_X11_86 (fun x2 h => ?_)
  refine r_iconst d_X11_token_23 ic_1 ?_
  refine r_iadd d_X11_token_24 ?_
  refine r_put h d_X11_token_25 pw_X11_86 rfl rfl (fun G3 h => ?_)
  refine r_goto d_X11_token_28 ?_
  refine r_lv [(0, .ref v0)] (g_allc rfl g_alln) ?_
  exact hrec0 _ _ _ h
set_option maxRecDepth 100000 in
set_option maxHeartbeats 4000000 in
theorem c_X11_token_229 {E : GE} {F : Nat}   {v0 : Nat} {v2 : Int32}  {n : Nat} {G : GH} {z : Nat × GH}   (h : k_X11_token_229 F   v0 v2  n G = some z) : WG E RX11 "token" cX11_token 3 none 1 22 0 0 229 [(0, .ref v0), (2, .int v2)] [] n G (g_O E (none, z.1, z.2)) := by
  unfold k_X11_token_229 at h
  refine r_aload d_X11_token_229 rfl ?_
  refine r_iload d_X11_token_230 rfl ?_
  refine r_iconst d_X11_token_231 ic_3 ?_
  refine r_icmp_le h d_X11_token_232 (fun h => ?_) (fun h => ?_)
  · refine r_iconst d_X11_token_239 ic_3 ?_
    refine r_put h d_X11_token_240 pw_X11_106 rfl rfl (fun G21 h => ?_)
    refine r_goto d_X11_token_243 ?_
    exact r_vret h d_X11_token_282
  · refine r_iconst d_X11_token_235 ic_1 ?_
    refine r_goto d_X11_token_236 ?_
    refine r_put h d_X11_token_240 pw_X11_106 rfl rfl (fun G22 h => ?_)
    refine r_goto d_X11_token_243 ?_
    exact r_vret h d_X11_token_282
set_option maxRecDepth 100000 in
set_option maxHeartbeats 4000000 in
theorem c_X11_token_210 {E : GE} {F : Nat}  {rec168 : Int32 → Nat → GH → Option (Nat × GH)} {v0 : Nat} {v2 : Int32} {s0 : Nat} {s1 : Int32} {n : Nat} {G : GH} {z : Nat × GH}  (hrec168 : ∀ (w2 : Int32) (n : Nat) (G : GH) (z : Nat × GH), rec168 w2 n G = some z → WG E RX11 "token" cX11_token 3 none 1 22 0 0 168 [(0, .ref v0), (2, .int w2)] [] n G (g_O E (none, z.1, z.2))) (h : k_X11_token_210 F  rec168 v0 v2 s0 s1 n G = some z) : WG E RX11 "token" cX11_token 3 none 1 22 0 0 210 [(0, .ref v0), (2, .int v2)] [.int s1, .ref s0] n G (g_O E (none, z.1, z.2)) := by
  unfold k_X11_token_210 at h
  refine r_put h d_X11_token_210 pw_X11_109 rfl rfl (fun G24 h => ?_)
  refine r_aload d_X11_token_213 rfl ?_
  refine r_dup d_X11_token_214 rfl ?_
  refine r_getI h d_X11_token_215 pf_X11_86 (fun x25 h => ?_)
  refine r_iconst d_X11_token_218 ic_1 ?_
  refine r_iadd d_X11_token_219 ?_
  refine r_put h d_X11_token_220 pw_X11_86 rfl rfl (fun G26 h => ?_)
  refine r_iinc d_X11_token_223 rfl (ii_1 _) rfl rfl ?_
  refine r_goto d_X11_token_226 ?_
  refine r_lv [(0, .ref v0), (2, .int (v2 + 1))] (g_allc rfl (g_allc rfl g_alln)) ?_
  exact hrec168 _ _ _ _ h
set_option maxRecDepth 100000 in
set_option maxHeartbeats 4000000 in
theorem l_X11_token_168 {E : GE} {F : Nat}   {v0 : Nat}   : ∀ (K : Nat) (v2 : Int32) (n : Nat) (G : GH) (z : Nat × GH), fixN ((fun _ _ _ => none) : Int32 → Nat → GH → Option (Nat × GH)) (b_X11_token_168 F   v0) K v2 n G = some z → WG E RX11 "token" cX11_token 3 none 1 22 0 0 168 [(0, .ref v0), (2, .int v2)] [] n G (g_O E (none, z.1, z.2)) := by
  intro K
  refine fixN_ind (P := fun (r : Int32 → Nat → GH → Option (Nat × GH)) => ∀ (v2 : Int32) (n : Nat) (G : GH) (z : Nat × GH), r v2 n G = some z → WG E RX11 "token" cX11_token 3 none 1 22 0 0 168 [(0, .ref v0), (2, .int v2)] [] n G (g_O E (none, z.1, z.2))) ?_ ?_ K
  · intro v2 n G z h
    cases h
  · intro rec168 hrec168 v2 n G z h
    unfold b_X11_token_168 at h
    refine r_aload d_X11_token_168 rfl ?_
    refine r_invP [] h (fun _ hq => s_X11_see hq) d_X11_token_169 pl_X11_92 py_X11_see pi_X11_see rfl rfl rfl (fun x19 h => ?_)
    refine r_bipush d_X11_token_172 bp_48 ?_
    refine r_bipush d_X11_token_174 bp_57 ?_
    refine r_invSP [_, _, _] h (fun _ hq => s_X11_in hq) d_X11_token_176 pl_X11_80 py_X11_in ps_X11_in rfl rfl rfl (fun x20 h => ?_)
    refine r_if_eq h d_X11_token_179 (fun h => ?_) (fun h => ?_)
    · refine r_lv [(0, .ref v0), (2, .int v2)] (g_allc rfl (g_allc rfl g_alln)) ?_
      exact c_X11_token_229   h
    · refine r_aload d_X11_token_182 rfl ?_
      refine r_iload d_X11_token_183 rfl ?_
      refine r_iconst d_X11_token_184 ic_3 ?_
      refine r_icmp_ge h d_X11_token_185 (fun h => ?_) (fun h => ?_)
      · refine r_aload d_X11_token_206 rfl ?_
        refine r_getI h d_X11_token_207 pf_X11_109 (fun x23 h => ?_)
        refine r_lv [(0, .ref v0), (2, .int v2)] (g_allc rfl (g_allc rfl g_alln)) ?_
        exact c_X11_token_210  hrec168 h
      · refine r_bipush d_X11_token_188 bp_10 ?_
        refine r_aload d_X11_token_190 rfl ?_
        refine r_getI h d_X11_token_191 pf_X11_109 (fun x27 h => ?_)
        refine r_imul d_X11_token_194 ?_
        refine r_aload d_X11_token_195 rfl ?_
        refine r_invP [] h (fun _ hq => s_X11_see hq) d_X11_token_196 pl_X11_92 py_X11_see pi_X11_see rfl rfl rfl (fun x28 h => ?_)
        refine r_iadd d_X11_token_199 ?_
        refine r_bipush d_X11_token_200 bp_48 ?_
        refine r_isub d_X11_token_202 ?_
        refine r_goto d_X11_token_203 ?_
        refine r_lv [(0, .ref v0), (2, .int v2)] (g_allc rfl (g_allc rfl g_alln)) ?_
        exact c_X11_token_210  hrec168 h
set_option maxRecDepth 100000 in
set_option maxHeartbeats 4000000 in
theorem c_X11_token_126 {E : GE} {F : Nat}   {v0 : Nat} {v2 : Int32}  {n : Nat} {G : GH} {z : Nat × GH}   (h : k_X11_token_126 F   v0 v2  n G = some z) : WG E RX11 "token" cX11_token 3 none 1 22 0 0 126 [(0, .ref v0), (2, .int v2)] [] n G (g_O E (none, z.1, z.2)) := by
  unfold k_X11_token_126 at h
  refine r_aload d_X11_token_126 rfl ?_
  refine r_iload d_X11_token_127 rfl ?_
  refine r_bipush d_X11_token_128 bp_8 ?_
  refine r_icmp_le h d_X11_token_130 (fun h => ?_) (fun h => ?_)
  · refine r_aload d_X11_token_137 rfl ?_
    refine r_getJ h d_X11_token_138 pf_X11_99 (fun x31 h => ?_)
    refine r_put h d_X11_token_141 pw_X11_99 rfl rfl (fun G32 h => ?_)
    refine r_aload d_X11_token_144 rfl ?_
    refine r_iconst d_X11_token_145 ic_2 ?_
    refine r_put h d_X11_token_146 pw_X11_106 rfl rfl (fun G33 h => ?_)
    refine r_goto d_X11_token_149 ?_
    exact r_vret h d_X11_token_282
  · refine r_lconst d_X11_token_133 lc_0 ?_
    refine r_goto d_X11_token_134 ?_
    refine r_put h d_X11_token_141 pw_X11_99 rfl rfl (fun G34 h => ?_)
    refine r_aload d_X11_token_144 rfl ?_
    refine r_iconst d_X11_token_145 ic_2 ?_
    refine r_put h d_X11_token_146 pw_X11_106 rfl rfl (fun G35 h => ?_)
    refine r_goto d_X11_token_149 ?_
    exact r_vret h d_X11_token_282
set_option maxRecDepth 100000 in
set_option maxHeartbeats 4000000 in
theorem l_X11_token_79 {E : GE} {F : Nat}   {v0 : Nat}   : ∀ (K : Nat) (v2 : Int32) (n : Nat) (G : GH) (z : Nat × GH), fixN ((fun _ _ _ => none) : Int32 → Nat → GH → Option (Nat × GH)) (b_X11_token_79 F   v0) K v2 n G = some z → WG E RX11 "token" cX11_token 3 none 1 22 0 0 79 [(0, .ref v0), (2, .int v2)] [] n G (g_O E (none, z.1, z.2)) := by
  intro K
  refine fixN_ind (P := fun (r : Int32 → Nat → GH → Option (Nat × GH)) => ∀ (v2 : Int32) (n : Nat) (G : GH) (z : Nat × GH), r v2 n G = some z → WG E RX11 "token" cX11_token 3 none 1 22 0 0 79 [(0, .ref v0), (2, .int v2)] [] n G (g_O E (none, z.1, z.2))) ?_ ?_ K
  · intro v2 n G z h
    cases h
  · intro rec79 hrec79 v2 n G z h
    unfold b_X11_token_79 at h
    refine r_aload d_X11_token_79 rfl ?_
    refine r_invP [] h (fun _ hq => s_X11_see hq) d_X11_token_80 pl_X11_92 py_X11_see pi_X11_see rfl rfl rfl (fun x29 h => ?_)
    refine r_bipush d_X11_token_83 bp_97 ?_
    refine r_bipush d_X11_token_85 bp_122 ?_
    refine r_invSP [_, _, _] h (fun _ hq => s_X11_in hq) d_X11_token_87 pl_X11_80 py_X11_in ps_X11_in rfl rfl rfl (fun x30 h => ?_)
    refine r_if_eq h d_X11_token_90 (fun h => ?_) (fun h => ?_)
    · refine r_lv [(0, .ref v0), (2, .int v2)] (g_allc rfl (g_allc rfl g_alln)) ?_
      exact c_X11_token_126   h
    · refine r_aload d_X11_token_93 rfl ?_
      refine r_aload d_X11_token_94 rfl ?_
      refine r_getJ h d_X11_token_95 pf_X11_99 (fun x36 h => ?_)
      refine r_bipush d_X11_token_98 bp_8 ?_
      refine r_lshl d_X11_token_100 ?_
      refine r_aload d_X11_token_101 rfl ?_
      refine r_invP [] h (fun _ hq => s_X11_see hq) d_X11_token_102 pl_X11_92 py_X11_see pi_X11_see rfl rfl rfl (fun x37 h => ?_)
      refine r_i2l d_X11_token_105 ?_
      refine r_lor d_X11_token_106 ?_
      refine r_put h d_X11_token_107 pw_X11_99 rfl rfl (fun G38 h => ?_)
      refine r_aload d_X11_token_110 rfl ?_
      refine r_dup d_X11_token_111 rfl ?_
      refine r_getI h d_X11_token_112 pf_X11_86 (fun x39 h => ?_)
      refine r_iconst d_X11_token_115 ic_1 ?_
      refine r_iadd d_X11_token_116 ?_
      refine r_put h d_X11_token_117 pw_X11_86 rfl rfl (fun G40 h => ?_)
      refine r_iinc d_X11_token_120 rfl (ii_1 _) rfl rfl ?_
      refine r_goto d_X11_token_123 ?_
      refine r_lv [(0, .ref v0), (2, .int (v2 + 1))] (g_allc rfl (g_allc rfl g_alln)) ?_
      exact hrec79 _ _ _ _ h
set_option maxRecDepth 100000 in
set_option maxHeartbeats 4000000 in
theorem c_X11_token_31 {E : GE} {F : Nat}   {v0 : Nat}  {n : Nat} {G : GH} {z : Nat × GH}   (h : k_X11_token_31 F   v0  n G = some z) : WG E RX11 "token" cX11_token 3 none 1 22 0 0 31 [(0, .ref v0)] [] n G (g_O E (none, z.1, z.2)) := by
  unfold k_X11_token_31 at h
  refine r_aload d_X11_token_31 rfl ?_
  refine r_aload d_X11_token_32 rfl ?_
  refine r_getI h d_X11_token_33 pf_X11_86 (fun x5 h => ?_)
  refine r_put h d_X11_token_36 pw_X11_96 rfl rfl (fun G6 h => ?_)
  refine r_aload d_X11_token_39 rfl ?_
  refine r_invP [] h (fun _ hq => s_X11_see hq) d_X11_token_40 pl_X11_92 py_X11_see pi_X11_see rfl rfl rfl (fun x7 h => ?_)
  refine r_istore d_X11_token_43 rfl rfl ?_
  refine r_aload d_X11_token_44 rfl ?_
  refine r_lconst d_X11_token_45 lc_0 ?_
  refine r_put h d_X11_token_46 pw_X11_99 rfl rfl (fun G8 h => ?_)
  refine r_aload d_X11_token_49 rfl ?_
  refine r_iconst d_X11_token_50 ic_0 ?_
  refine r_put h d_X11_token_51 pw_X11_103 rfl rfl (fun G9 h => ?_)
  refine r_iconst d_X11_token_54 ic_0 ?_
  refine r_istore d_X11_token_55 rfl rfl ?_
  refine r_iload d_X11_token_56 rfl ?_
  refine r_if_ge h d_X11_token_57 (fun h => ?_) (fun h => ?_)
  · refine r_iload d_X11_token_68 rfl ?_
    refine r_bipush d_X11_token_69 bp_97 ?_
    refine r_bipush d_X11_token_71 bp_122 ?_
    refine r_invSP [_, _, _] h (fun _ hq => s_X11_in hq) d_X11_token_73 pl_X11_80 py_X11_in ps_X11_in rfl rfl rfl (fun x10 h => ?_)
    refine r_if_eq h d_X11_token_76 (fun h => ?_) (fun h => ?_)
    · refine r_iload d_X11_token_152 rfl ?_
      refine r_bipush d_X11_token_153 bp_48 ?_
      refine r_bipush d_X11_token_155 bp_57 ?_
      refine r_invSP [_, _, _] h (fun _ hq => s_X11_in hq) d_X11_token_157 pl_X11_80 py_X11_in ps_X11_in rfl rfl rfl (fun x11 h => ?_)
      refine r_if_eq h d_X11_token_160 (fun h => ?_) (fun h => ?_)
      · refine r_aload d_X11_token_246 rfl ?_
        refine r_dup d_X11_token_247 rfl ?_
        refine r_getI h d_X11_token_248 pf_X11_86 (fun x12 h => ?_)
        refine r_iconst d_X11_token_251 ic_1 ?_
        refine r_iadd d_X11_token_252 ?_
        refine r_put h d_X11_token_253 pw_X11_86 rfl rfl (fun G13 h => ?_)
        refine r_aload d_X11_token_256 rfl ?_
        refine r_iload d_X11_token_257 rfl ?_
        refine r_put h d_X11_token_258 pw_X11_103 rfl rfl (fun G14 h => ?_)
        refine r_aload d_X11_token_261 rfl ?_
        refine r_iload d_X11_token_262 rfl ?_
        refine r_bipush d_X11_token_263 bp_59 ?_
        refine r_icmp_eq h d_X11_token_265 (fun h => ?_) (fun h => ?_)
        · refine r_iconst d_X11_token_274 ic_4 ?_
          refine r_goto d_X11_token_275 ?_
          refine r_put h d_X11_token_279 pw_X11_106 rfl rfl (fun G15 h => ?_)
          exact r_vret h d_X11_token_282
        · refine r_iload d_X11_token_268 rfl ?_
          refine r_bipush d_X11_token_269 bp_45 ?_
          refine r_icmp_ne h d_X11_token_271 (fun h => ?_) (fun h => ?_)
          · refine r_iconst d_X11_token_278 ic_1 ?_
            refine r_put h d_X11_token_279 pw_X11_106 rfl rfl (fun G16 h => ?_)
            exact r_vret h d_X11_token_282
          · refine r_iconst d_X11_token_274 ic_4 ?_
            refine r_goto d_X11_token_275 ?_
            refine r_put h d_X11_token_279 pw_X11_106 rfl rfl (fun G17 h => ?_)
            exact r_vret h d_X11_token_282
      · refine r_aload d_X11_token_163 rfl ?_
        refine r_iconst d_X11_token_164 ic_0 ?_
        refine r_put h d_X11_token_165 pw_X11_109 rfl rfl (fun G18 h => ?_)
        refine r_lv [(0, .ref v0), (2, .int (0 : Int32))] (g_allc rfl (g_allc rfl g_alln)) ?_
        exact l_X11_token_168   _ _ _ _ _ h
    · refine r_lv [(0, .ref v0), (2, .int (0 : Int32))] (g_allc rfl (g_allc rfl g_alln)) ?_
      exact l_X11_token_79   _ _ _ _ _ h
  · refine r_aload d_X11_token_60 rfl ?_
    refine r_iconst d_X11_token_61 ic_0 ?_
    refine r_put h d_X11_token_62 pw_X11_106 rfl rfl (fun G41 h => ?_)
    refine r_goto d_X11_token_65 ?_
    exact r_vret h d_X11_token_282
set_option maxRecDepth 100000 in
set_option maxHeartbeats 4000000 in
theorem l_X11_token_0 {E : GE} {F : Nat}   {v0 : Nat}   : ∀ (K : Nat)  (n : Nat) (G : GH) (z : Nat × GH), fixN ((fun _ _ => none) : Nat → GH → Option (Nat × GH)) (b_X11_token_0 F   v0) K  n G = some z → WG E RX11 "token" cX11_token 3 none 1 22 0 0 0 [(0, .ref v0)] [] n G (g_O E (none, z.1, z.2)) := by
  intro K
  refine fixN_ind (P := fun (r : Nat → GH → Option (Nat × GH)) => ∀  (n : Nat) (G : GH) (z : Nat × GH), r  n G = some z → WG E RX11 "token" cX11_token 3 none 1 22 0 0 0 [(0, .ref v0)] [] n G (g_O E (none, z.1, z.2))) ?_ ?_ K
  · intro  n G z h
    cases h
  · intro rec0 hrec0  n G z h
    unfold b_X11_token_0 at h
    refine r_aload d_X11_token_0 rfl ?_
    refine r_invP [] h (fun _ hq => s_X11_see hq) d_X11_token_1 pl_X11_92 py_X11_see pi_X11_see rfl rfl rfl (fun x1 h => ?_)
    refine r_bipush d_X11_token_4 bp_10 ?_
    refine r_icmp_eq h d_X11_token_6 (fun h => ?_) (fun h => ?_)
    · refine r_lv [(0, .ref v0)] (g_allc rfl g_alln) ?_
      exact c_X11_token_18  hrec0 h
    · refine r_aload d_X11_token_9 rfl ?_
      refine r_invP [] h (fun _ hq => s_X11_see hq) d_X11_token_10 pl_X11_92 py_X11_see pi_X11_see rfl rfl rfl (fun x4 h => ?_)
      refine r_bipush d_X11_token_13 bp_32 ?_
      refine r_icmp_ne h d_X11_token_15 (fun h => ?_) (fun h => ?_)
      · refine r_lv [(0, .ref v0)] (g_allc rfl g_alln) ?_
        exact c_X11_token_31   h
      · refine r_lv [(0, .ref v0)] (g_allc rfl g_alln) ?_
        exact c_X11_token_18  hrec0 h
set_option maxRecDepth 100000 in
set_option maxHeartbeats 4000000 in
theorem s_X11_token {E : GE} {F : Nat}  {v0 : Nat} {n : Nat} {G : GH} {z : Nat × GH}  (h : f_X11_token F  v0 n G = some z) : GM E yX11_token cX11_token 3 none 1 22 0 0 [.ref v0] n G (none, z.1, z.2) := by
  refine GM.of (by decide) (Nat.le_of_ble_eq_true rfl) ?_
  show WG E RX11 "token" cX11_token 3 none 1 22 0 0 0 [(0, .ref v0)] [] n G (g_O E (none, z.1, z.2))
  unfold f_X11_token at h
  refine r_lv [(0, .ref v0)] (g_allc rfl g_alln) ?_
  exact l_X11_token_0   _ _ _ _ h
/-! X11_fails -/
theorem pf_X11_96 : pF RX11 96 11 8 := ⟨RX11, TX11, 37, rfl, by decide, rfl, Or.inl (g_in 1153 (by decide +kernel) rfl)⟩
theorem pw_X11_112 {nm : String} : pW RX11 nm 112 11 13 .int := ⟨RX11, TX11, 37, rfl, by decide, rfl, Or.inl ⟨g_in 1158 (by decide +kernel) rfl, Or.inl rfl⟩, by decide +kernel⟩
theorem d_X11_fails_0 : decAL cX11_fails 0 0 1 := Or.inr ⟨0, rfl, by decide +kernel, rfl⟩
theorem d_X11_fails_1 : decAL cX11_fails 1 0 2 := Or.inr ⟨0, rfl, by decide +kernel, rfl⟩
theorem d_X11_fails_2 : dec 3 cX11_fails 2 (.getfield 96) 5 := ⟨by decide +kernel, rfl⟩
theorem d_X11_fails_5 : dec 3 cX11_fails 5 (.putfield 112) 8 := ⟨by decide +kernel, rfl⟩
theorem d_X11_fails_8 : dec 1 cX11_fails 8 (.iconst 0) 9 := ⟨by decide +kernel, rfl⟩
theorem d_X11_fails_9 : dec 1 cX11_fails 9 .ireturn 10 := ⟨by decide +kernel, rfl⟩
def f_X11_fails (F : Nat)  (v0 : Nat) (n : Nat) (G : GH) : Option (Int32 × Nat × GH) :=
  Option.bind (gI G v0 11 8) (fun (x1 : Int32) =>
  Option.bind (pV G v0 11 13 (.int x1)) (fun (G2 : GH) =>
  rN .boolean (0 : Int32) n G2))
set_option maxRecDepth 100000 in
set_option maxHeartbeats 4000000 in
theorem s_X11_fails {E : GE} {F : Nat}  {v0 : Nat} {n : Nat} {G : GH} {z : Int32 × Nat × GH}  (h : f_X11_fails F  v0 n G = some z) : GM E yX11_fails cX11_fails 1 (some .boolean) 0 0 0 0 [.ref v0] n G (some (.int z.1), z.2.1, z.2.2) := by
  refine GM.of (by decide) (Nat.le_of_ble_eq_true rfl) ?_
  show WG E RX11 "fails" cX11_fails 1 (some .boolean) 0 0 0 0 0 [(0, .ref v0)] [] n G (g_O E (some (.int z.1), z.2.1, z.2.2))
  unfold f_X11_fails at h
  refine r_aload d_X11_fails_0 rfl ?_
  refine r_aload d_X11_fails_1 rfl ?_
  refine r_getI h d_X11_fails_2 pf_X11_96 (fun x1 h => ?_)
  refine r_put h d_X11_fails_5 pw_X11_112 rfl rfl (fun G2 h => ?_)
  refine r_iconst d_X11_fails_8 ic_0 ?_
  exact r_zret h d_X11_fails_9
/-! X11_isBad -/
theorem pf_X11_115 : pF RX11 115 11 15 := ⟨RX11, TX11, 37, rfl, by decide, rfl, Or.inl (g_in 1160 (by decide +kernel) rfl)⟩
theorem pw_X11_115 {nm : String} : pW RX11 nm 115 11 15 .int := ⟨RX11, TX11, 37, rfl, by decide, rfl, Or.inl ⟨g_in 1160 (by decide +kernel) rfl, Or.inl rfl⟩, by decide +kernel⟩
theorem pw_X11_118 {nm : String} : pW RX11 nm 118 11 14 .int := ⟨RX11, TX11, 37, rfl, by decide, rfl, Or.inl ⟨g_in 1159 (by decide +kernel) rfl, Or.inl rfl⟩, by decide +kernel⟩
theorem pf_X11_118 : pF RX11 118 11 14 := ⟨RX11, TX11, 37, rfl, by decide, rfl, Or.inl (g_in 1159 (by decide +kernel) rfl)⟩
theorem d_X11_isBad_0 : decAL cX11_isBad 0 0 1 := Or.inr ⟨0, rfl, by decide +kernel, rfl⟩
theorem d_X11_isBad_1 : dec 3 cX11_isBad 1 (.getfield 115) 4 := ⟨by decide +kernel, rfl⟩
theorem d_X11_isBad_4 : decB cX11_isBad 4 (.ifCond .eq 27) (27) 7 31 := ⟨by decide +kernel, rfl, by decide⟩
theorem d_X11_isBad_7 : decIL cX11_isBad 7 2 8 := Or.inr ⟨2, rfl, by decide +kernel, rfl⟩
theorem d_X11_isBad_8 : decAL cX11_isBad 8 0 9 := Or.inr ⟨0, rfl, by decide +kernel, rfl⟩
theorem d_X11_isBad_9 : dec 3 cX11_isBad 9 (.getfield 118) 12 := ⟨by decide +kernel, rfl⟩
theorem d_X11_isBad_12 : decB cX11_isBad 12 (.if_icmp .lt 19) (19) 15 31 := ⟨by decide +kernel, rfl, by decide⟩
theorem d_X11_isBad_15 : decIL cX11_isBad 15 2 16 := Or.inr ⟨2, rfl, by decide +kernel, rfl⟩
theorem d_X11_isBad_16 : decAL cX11_isBad 16 0 17 := Or.inr ⟨0, rfl, by decide +kernel, rfl⟩
theorem d_X11_isBad_17 : dec 3 cX11_isBad 17 (.getfield 118) 20 := ⟨by decide +kernel, rfl⟩
theorem d_X11_isBad_20 : decB cX11_isBad 20 (.if_icmp .ne 21) (21) 23 41 := ⟨by decide +kernel, rfl, by decide⟩
theorem d_X11_isBad_23 : decIL cX11_isBad 23 1 24 := Or.inr ⟨1, rfl, by decide +kernel, rfl⟩
theorem d_X11_isBad_24 : decAL cX11_isBad 24 0 25 := Or.inr ⟨0, rfl, by decide +kernel, rfl⟩
theorem d_X11_isBad_25 : dec 3 cX11_isBad 25 (.getfield 115) 28 := ⟨by decide +kernel, rfl⟩
theorem d_X11_isBad_28 : decB cX11_isBad 28 (.if_icmp .ge 13) (13) 31 41 := ⟨by decide +kernel, rfl, by decide⟩
theorem d_X11_isBad_31 : decAL cX11_isBad 31 0 32 := Or.inr ⟨0, rfl, by decide +kernel, rfl⟩
theorem d_X11_isBad_32 : decIL cX11_isBad 32 1 33 := Or.inr ⟨1, rfl, by decide +kernel, rfl⟩
theorem d_X11_isBad_33 : dec 3 cX11_isBad 33 (.putfield 115) 36 := ⟨by decide +kernel, rfl⟩
theorem d_X11_isBad_36 : decAL cX11_isBad 36 0 37 := Or.inr ⟨0, rfl, by decide +kernel, rfl⟩
theorem d_X11_isBad_37 : decIL cX11_isBad 37 2 38 := Or.inr ⟨2, rfl, by decide +kernel, rfl⟩
theorem d_X11_isBad_38 : dec 3 cX11_isBad 38 (.putfield 118) 41 := ⟨by decide +kernel, rfl⟩
theorem d_X11_isBad_41 : dec 1 cX11_isBad 41 .return_ 42 := ⟨by decide +kernel, rfl⟩
def k_X11_isBad_31 (F : Nat)   (v0 : Nat) (v1 : Int32) (v2 : Int32)  (n : Nat) (G : GH) : Option (Nat × GH) :=
  Option.bind (pV G v0 11 15 (.int v1)) (fun (G2 : GH) =>
  Option.bind (pV G2 v0 11 14 (.int v2)) (fun (G3 : GH) =>
  some (n, G3)))
def f_X11_isBad (F : Nat)  (v0 : Nat) (v1 : Int32) (v2 : Int32) (n : Nat) (G : GH) : Option (Nat × GH) :=
  Option.bind (gI G v0 11 15) (fun (x1 : Int32) =>
  if x1 = 0 then
  (k_X11_isBad_31 F   v0 v1 v2 n G)
  else (Option.bind (gI G v0 11 14) (fun (x4 : Int32) =>
  if v2 < x4 then
  (k_X11_isBad_31 F   v0 v1 v2 n G)
  else (Option.bind (gI G v0 11 14) (fun (x5 : Int32) =>
  if v2 = x5 then
  (Option.bind (gI G v0 11 15) (fun (x6 : Int32) =>
  if x6 ≤ v1 then
  (some (n, G))
  else (k_X11_isBad_31 F   v0 v1 v2 n G)))
  else (some (n, G)))))))
set_option maxRecDepth 100000 in
set_option maxHeartbeats 4000000 in
theorem c_X11_isBad_31 {E : GE} {F : Nat}   {v0 : Nat} {v1 : Int32} {v2 : Int32}  {n : Nat} {G : GH} {z : Nat × GH}   (h : k_X11_isBad_31 F   v0 v1 v2  n G = some z) : WG E RX11 "isBad" cX11_isBad 3 none 0 0 0 0 31 [(0, .ref v0), (1, .int v1), (2, .int v2)] [] n G (g_O E (none, z.1, z.2)) := by
  unfold k_X11_isBad_31 at h
  refine r_aload d_X11_isBad_31 rfl ?_
  refine r_iload d_X11_isBad_32 rfl ?_
  refine r_put h d_X11_isBad_33 pw_X11_115 rfl rfl (fun G2 h => ?_)
  refine r_aload d_X11_isBad_36 rfl ?_
  refine r_iload d_X11_isBad_37 rfl ?_
  refine r_put h d_X11_isBad_38 pw_X11_118 rfl rfl (fun G3 h => ?_)
  exact r_vret h d_X11_isBad_41
set_option maxRecDepth 100000 in
set_option maxHeartbeats 4000000 in
theorem s_X11_isBad {E : GE} {F : Nat}  {v0 : Nat} {v1 : Int32} {v2 : Int32} {n : Nat} {G : GH} {z : Nat × GH}  (h : f_X11_isBad F  v0 v1 v2 n G = some z) : GM E yX11_isBad cX11_isBad 3 none 0 0 0 0 [.ref v0, .int v1, .int v2] n G (none, z.1, z.2) := by
  refine GM.of (by decide) (Nat.le_of_ble_eq_true rfl) ?_
  show WG E RX11 "isBad" cX11_isBad 3 none 0 0 0 0 0 [(0, .ref v0), (1, .int v1), (2, .int v2)] [] n G (g_O E (none, z.1, z.2))
  unfold f_X11_isBad at h
  refine r_aload d_X11_isBad_0 rfl ?_
  refine r_getI h d_X11_isBad_1 pf_X11_115 (fun x1 h => ?_)
  refine r_if_eq h d_X11_isBad_4 (fun h => ?_) (fun h => ?_)
  · refine r_lv [(0, .ref v0), (1, .int v1), (2, .int v2)] (g_allc rfl (g_allc rfl (g_allc rfl g_alln))) ?_
    exact c_X11_isBad_31   h
  · refine r_iload d_X11_isBad_7 rfl ?_
    refine r_aload d_X11_isBad_8 rfl ?_
    refine r_getI h d_X11_isBad_9 pf_X11_118 (fun x4 h => ?_)
    refine r_icmp_lt h d_X11_isBad_12 (fun h => ?_) (fun h => ?_)
    · refine r_lv [(0, .ref v0), (1, .int v1), (2, .int v2)] (g_allc rfl (g_allc rfl (g_allc rfl g_alln))) ?_
      exact c_X11_isBad_31   h
    · refine r_iload d_X11_isBad_15 rfl ?_
      refine r_aload d_X11_isBad_16 rfl ?_
      refine r_getI h d_X11_isBad_17 pf_X11_118 (fun x5 h => ?_)
      refine r_icmp_ne h d_X11_isBad_20 (fun h => ?_) (fun h => ?_)
      · exact r_vret h d_X11_isBad_41
      · refine r_iload d_X11_isBad_23 rfl ?_
        refine r_aload d_X11_isBad_24 rfl ?_
        refine r_getI h d_X11_isBad_25 pf_X11_115 (fun x6 h => ?_)
        refine r_icmp_ge h d_X11_isBad_28 (fun h => ?_) (fun h => ?_)
        · exact r_vret h d_X11_isBad_41
        · refine r_lv [(0, .ref v0), (1, .int v1), (2, .int v2)] (g_allc rfl (g_allc rfl (g_allc rfl g_alln))) ?_
          exact c_X11_isBad_31   h
/-! X11_isWord -/
theorem pf_X11_106 : pF RX11 106 11 9 := ⟨RX11, TX11, 37, rfl, by decide, rfl, Or.inl (g_in 1154 (by decide +kernel) rfl)⟩
theorem d_X11_isWord_0 : decAL cX11_isWord 0 0 1 := Or.inr ⟨0, rfl, by decide +kernel, rfl⟩
theorem d_X11_isWord_1 : dec 3 cX11_isWord 1 (.getfield 106) 4 := ⟨by decide +kernel, rfl⟩
theorem d_X11_isWord_4 : dec 1 cX11_isWord 4 (.iconst 2) 5 := ⟨by decide +kernel, rfl⟩
theorem d_X11_isWord_5 : decB cX11_isWord 5 (.if_icmp .ne 16) (16) 8 21 := ⟨by decide +kernel, rfl, by decide⟩
theorem d_X11_isWord_8 : decAL cX11_isWord 8 0 9 := Or.inr ⟨0, rfl, by decide +kernel, rfl⟩
theorem d_X11_isWord_9 : dec 3 cX11_isWord 9 (.getfield 99) 12 := ⟨by decide +kernel, rfl⟩
theorem d_X11_isWord_12 : decLL cX11_isWord 12 1 13 := Or.inr ⟨1, rfl, by decide +kernel, rfl⟩
theorem d_X11_isWord_13 : dec 1 cX11_isWord 13 .lcmp 14 := ⟨by decide +kernel, rfl⟩
theorem d_X11_isWord_14 : decB cX11_isWord 14 (.ifCond .ne 7) (7) 17 21 := ⟨by decide +kernel, rfl, by decide⟩
theorem d_X11_isWord_17 : dec 1 cX11_isWord 17 (.iconst 1) 18 := ⟨by decide +kernel, rfl⟩
theorem d_X11_isWord_18 : decB cX11_isWord 18 (.goto 4) (4) 21 22 := ⟨by decide +kernel, rfl, by decide⟩
theorem d_X11_isWord_21 : dec 1 cX11_isWord 21 (.iconst 0) 22 := ⟨by decide +kernel, rfl⟩
theorem d_X11_isWord_22 : dec 1 cX11_isWord 22 .ireturn 23 := ⟨by decide +kernel, rfl⟩
def f_X11_isWord (F : Nat)  (v0 : Nat) (v1 : Int64) (G : GH) : Option (Int32) :=
  Option.bind (gI G v0 11 9) (fun (x1 : Int32) =>
  if x1 = (2 : Int32) then
  (Option.bind (gJ G v0 11 12) (fun (x2 : Int64) =>
  if (lg_cmp x2 v1) = 0 then
  (rP .boolean (1 : Int32))
  else (rP .boolean (0 : Int32))))
  else (rP .boolean (0 : Int32)))
set_option maxRecDepth 100000 in
set_option maxHeartbeats 4000000 in
theorem s_X11_isWord {E : GE} {F : Nat}  {v0 : Nat} {v1 : Int64} {n : Nat} {G : GH} {z : Int32}  (h : f_X11_isWord F  v0 v1 G = some z) : GM E yX11_isWord cX11_isWord 3 (some .boolean) 0 0 0 0 [.ref v0, .long v1] n G (some (.int z), n, G) := by
  refine GM.of (by decide) (Nat.le_of_ble_eq_true rfl) ?_
  show WG E RX11 "isWord" cX11_isWord 3 (some .boolean) 0 0 0 0 0 [(0, .ref v0), (1, .long v1)] [] n G (g_O E (some (.int z), n, G))
  unfold f_X11_isWord at h
  refine r_aload d_X11_isWord_0 rfl ?_
  refine r_getI h d_X11_isWord_1 pf_X11_106 (fun x1 h => ?_)
  refine r_iconst d_X11_isWord_4 ic_2 ?_
  refine r_icmp_ne h d_X11_isWord_5 (fun h => ?_) (fun h => ?_)
  · refine r_iconst d_X11_isWord_21 ic_0 ?_
    exact r_pzret h d_X11_isWord_22
  · refine r_aload d_X11_isWord_8 rfl ?_
    refine r_getJ h d_X11_isWord_9 pf_X11_99 (fun x2 h => ?_)
    refine r_lload d_X11_isWord_12 rfl ?_
    refine r_lcmp d_X11_isWord_13 ?_
    refine r_if_ne h d_X11_isWord_14 (fun h => ?_) (fun h => ?_)
    · refine r_iconst d_X11_isWord_21 ic_0 ?_
      exact r_pzret h d_X11_isWord_22
    · refine r_iconst d_X11_isWord_17 ic_1 ?_
      refine r_goto d_X11_isWord_18 ?_
      exact r_pzret h d_X11_isWord_22
/-! X11_isSign -/
theorem pf_X11_103 : pF RX11 103 11 10 := ⟨RX11, TX11, 37, rfl, by decide, rfl, Or.inl (g_in 1155 (by decide +kernel) rfl)⟩
theorem d_X11_isSign_0 : decAL cX11_isSign 0 0 1 := Or.inr ⟨0, rfl, by decide +kernel, rfl⟩
theorem d_X11_isSign_1 : dec 3 cX11_isSign 1 (.getfield 106) 4 := ⟨by decide +kernel, rfl⟩
theorem d_X11_isSign_4 : dec 1 cX11_isSign 4 (.iconst 4) 5 := ⟨by decide +kernel, rfl⟩
theorem d_X11_isSign_5 : decB cX11_isSign 5 (.if_icmp .ne 15) (15) 8 20 := ⟨by decide +kernel, rfl, by decide⟩
theorem d_X11_isSign_8 : decAL cX11_isSign 8 0 9 := Or.inr ⟨0, rfl, by decide +kernel, rfl⟩
theorem d_X11_isSign_9 : dec 3 cX11_isSign 9 (.getfield 103) 12 := ⟨by decide +kernel, rfl⟩
theorem d_X11_isSign_12 : decIL cX11_isSign 12 1 13 := Or.inr ⟨1, rfl, by decide +kernel, rfl⟩
theorem d_X11_isSign_13 : decB cX11_isSign 13 (.if_icmp .ne 7) (7) 16 20 := ⟨by decide +kernel, rfl, by decide⟩
theorem d_X11_isSign_16 : dec 1 cX11_isSign 16 (.iconst 1) 17 := ⟨by decide +kernel, rfl⟩
theorem d_X11_isSign_17 : decB cX11_isSign 17 (.goto 4) (4) 20 21 := ⟨by decide +kernel, rfl, by decide⟩
theorem d_X11_isSign_20 : dec 1 cX11_isSign 20 (.iconst 0) 21 := ⟨by decide +kernel, rfl⟩
theorem d_X11_isSign_21 : dec 1 cX11_isSign 21 .ireturn 22 := ⟨by decide +kernel, rfl⟩
def f_X11_isSign (F : Nat)  (v0 : Nat) (v1 : Int32) (G : GH) : Option (Int32) :=
  Option.bind (gI G v0 11 9) (fun (x1 : Int32) =>
  if x1 = (4 : Int32) then
  (Option.bind (gI G v0 11 10) (fun (x2 : Int32) =>
  if x2 = v1 then
  (rP .boolean (1 : Int32))
  else (rP .boolean (0 : Int32))))
  else (rP .boolean (0 : Int32)))
set_option maxRecDepth 100000 in
set_option maxHeartbeats 4000000 in
theorem s_X11_isSign {E : GE} {F : Nat}  {v0 : Nat} {v1 : Int32} {n : Nat} {G : GH} {z : Int32}  (h : f_X11_isSign F  v0 v1 G = some z) : GM E yX11_isSign cX11_isSign 2 (some .boolean) 0 0 0 0 [.ref v0, .int v1] n G (some (.int z), n, G) := by
  refine GM.of (by decide) (Nat.le_of_ble_eq_true rfl) ?_
  show WG E RX11 "isSign" cX11_isSign 2 (some .boolean) 0 0 0 0 0 [(0, .ref v0), (1, .int v1)] [] n G (g_O E (some (.int z), n, G))
  unfold f_X11_isSign at h
  refine r_aload d_X11_isSign_0 rfl ?_
  refine r_getI h d_X11_isSign_1 pf_X11_106 (fun x1 h => ?_)
  refine r_iconst d_X11_isSign_4 ic_4 ?_
  refine r_icmp_ne h d_X11_isSign_5 (fun h => ?_) (fun h => ?_)
  · refine r_iconst d_X11_isSign_20 ic_0 ?_
    exact r_pzret h d_X11_isSign_21
  · refine r_aload d_X11_isSign_8 rfl ?_
    refine r_getI h d_X11_isSign_9 pf_X11_103 (fun x2 h => ?_)
    refine r_iload d_X11_isSign_12 rfl ?_
    refine r_icmp_ne h d_X11_isSign_13 (fun h => ?_) (fun h => ?_)
    · refine r_iconst d_X11_isSign_20 ic_0 ?_
      exact r_pzret h d_X11_isSign_21
    · refine r_iconst d_X11_isSign_16 ic_1 ?_
      refine r_goto d_X11_isSign_17 ?_
      exact r_pzret h d_X11_isSign_21
/-! X11_actHere -/
theorem cl_X11_121 : Cond.constantLong RX11 121 (1786082164) ∈ g_tbl := g_in 1302 (by decide +kernel) rfl
theorem cl_X11_123 : Cond.constantLong RX11 123 (6382692) ∈ g_tbl := g_in 1303 (by decide +kernel) rfl
theorem cl_X11_125 : Cond.constantLong RX11 125 (7173484) ∈ g_tbl := g_in 1304 (by decide +kernel) rfl
theorem cl_X11_127 : Cond.constantLong RX11 127 (7168376) ∈ g_tbl := g_in 1305 (by decide +kernel) rfl
theorem cl_X11_129 : Cond.constantLong RX11 129 (7170414) ∈ g_tbl := g_in 1306 (by decide +kernel) rfl
theorem cl_X11_131 : Cond.constantLong RX11 131 (7566690) ∈ g_tbl := g_in 1307 (by decide +kernel) rfl
theorem d_X11_actHere_0 : decAL cX11_actHere 0 0 1 := Or.inr ⟨0, rfl, by decide +kernel, rfl⟩
theorem d_X11_actHere_1 : dec 3 cX11_actHere 1 (.getfield 106) 4 := ⟨by decide +kernel, rfl⟩
theorem d_X11_actHere_4 : dec 1 cX11_actHere 4 (.iconst 2) 5 := ⟨by decide +kernel, rfl⟩
theorem d_X11_actHere_5 : decB cX11_actHere 5 (.if_icmp .eq 5) (5) 8 10 := ⟨by decide +kernel, rfl, by decide⟩
theorem d_X11_actHere_8 : dec 1 cX11_actHere 8 (.iconst (-1)) 9 := ⟨by decide +kernel, rfl⟩
theorem d_X11_actHere_9 : dec 1 cX11_actHere 9 .ireturn 10 := ⟨by decide +kernel, rfl⟩
theorem d_X11_actHere_10 : decAL cX11_actHere 10 0 11 := Or.inr ⟨0, rfl, by decide +kernel, rfl⟩
theorem d_X11_actHere_11 : dec 3 cX11_actHere 11 (.getfield 99) 14 := ⟨by decide +kernel, rfl⟩
theorem d_X11_actHere_14 : dec 3 cX11_actHere 14 (.ldc2_w 121) 17 := ⟨by decide +kernel, rfl⟩
theorem d_X11_actHere_17 : dec 1 cX11_actHere 17 .lcmp 18 := ⟨by decide +kernel, rfl⟩
theorem d_X11_actHere_18 : decB cX11_actHere 18 (.ifCond .ne 7) (7) 21 25 := ⟨by decide +kernel, rfl, by decide⟩
theorem d_X11_actHere_21 : dec 1 cX11_actHere 21 (.iconst 0) 22 := ⟨by decide +kernel, rfl⟩
theorem d_X11_actHere_22 : decB cX11_actHere 22 (.goto 79) (79) 25 101 := ⟨by decide +kernel, rfl, by decide⟩
theorem d_X11_actHere_25 : decAL cX11_actHere 25 0 26 := Or.inr ⟨0, rfl, by decide +kernel, rfl⟩
theorem d_X11_actHere_26 : dec 3 cX11_actHere 26 (.getfield 99) 29 := ⟨by decide +kernel, rfl⟩
theorem d_X11_actHere_29 : dec 3 cX11_actHere 29 (.ldc2_w 123) 32 := ⟨by decide +kernel, rfl⟩
theorem d_X11_actHere_32 : dec 1 cX11_actHere 32 .lcmp 33 := ⟨by decide +kernel, rfl⟩
theorem d_X11_actHere_33 : decB cX11_actHere 33 (.ifCond .ne 7) (7) 36 40 := ⟨by decide +kernel, rfl, by decide⟩
theorem d_X11_actHere_36 : dec 1 cX11_actHere 36 (.iconst 1) 37 := ⟨by decide +kernel, rfl⟩
theorem d_X11_actHere_37 : decB cX11_actHere 37 (.goto 64) (64) 40 101 := ⟨by decide +kernel, rfl, by decide⟩
theorem d_X11_actHere_40 : decAL cX11_actHere 40 0 41 := Or.inr ⟨0, rfl, by decide +kernel, rfl⟩
theorem d_X11_actHere_41 : dec 3 cX11_actHere 41 (.getfield 99) 44 := ⟨by decide +kernel, rfl⟩
theorem d_X11_actHere_44 : dec 3 cX11_actHere 44 (.ldc2_w 125) 47 := ⟨by decide +kernel, rfl⟩
theorem d_X11_actHere_47 : dec 1 cX11_actHere 47 .lcmp 48 := ⟨by decide +kernel, rfl⟩
theorem d_X11_actHere_48 : decB cX11_actHere 48 (.ifCond .ne 7) (7) 51 55 := ⟨by decide +kernel, rfl, by decide⟩
theorem d_X11_actHere_51 : dec 1 cX11_actHere 51 (.iconst 2) 52 := ⟨by decide +kernel, rfl⟩
theorem d_X11_actHere_52 : decB cX11_actHere 52 (.goto 49) (49) 55 101 := ⟨by decide +kernel, rfl, by decide⟩
theorem d_X11_actHere_55 : decAL cX11_actHere 55 0 56 := Or.inr ⟨0, rfl, by decide +kernel, rfl⟩
theorem d_X11_actHere_56 : dec 3 cX11_actHere 56 (.getfield 99) 59 := ⟨by decide +kernel, rfl⟩
theorem d_X11_actHere_59 : dec 3 cX11_actHere 59 (.ldc2_w 127) 62 := ⟨by decide +kernel, rfl⟩
theorem d_X11_actHere_62 : dec 1 cX11_actHere 62 .lcmp 63 := ⟨by decide +kernel, rfl⟩
theorem d_X11_actHere_63 : decB cX11_actHere 63 (.ifCond .ne 7) (7) 66 70 := ⟨by decide +kernel, rfl, by decide⟩
theorem d_X11_actHere_66 : dec 1 cX11_actHere 66 (.iconst 3) 67 := ⟨by decide +kernel, rfl⟩
theorem d_X11_actHere_67 : decB cX11_actHere 67 (.goto 34) (34) 70 101 := ⟨by decide +kernel, rfl, by decide⟩
theorem d_X11_actHere_70 : decAL cX11_actHere 70 0 71 := Or.inr ⟨0, rfl, by decide +kernel, rfl⟩
theorem d_X11_actHere_71 : dec 3 cX11_actHere 71 (.getfield 99) 74 := ⟨by decide +kernel, rfl⟩
theorem d_X11_actHere_74 : dec 3 cX11_actHere 74 (.ldc2_w 129) 77 := ⟨by decide +kernel, rfl⟩
theorem d_X11_actHere_77 : dec 1 cX11_actHere 77 .lcmp 78 := ⟨by decide +kernel, rfl⟩
theorem d_X11_actHere_78 : decB cX11_actHere 78 (.ifCond .ne 7) (7) 81 85 := ⟨by decide +kernel, rfl, by decide⟩
theorem d_X11_actHere_81 : dec 1 cX11_actHere 81 (.iconst 4) 82 := ⟨by decide +kernel, rfl⟩
theorem d_X11_actHere_82 : decB cX11_actHere 82 (.goto 19) (19) 85 101 := ⟨by decide +kernel, rfl, by decide⟩
theorem d_X11_actHere_85 : decAL cX11_actHere 85 0 86 := Or.inr ⟨0, rfl, by decide +kernel, rfl⟩
theorem d_X11_actHere_86 : dec 3 cX11_actHere 86 (.getfield 99) 89 := ⟨by decide +kernel, rfl⟩
theorem d_X11_actHere_89 : dec 3 cX11_actHere 89 (.ldc2_w 131) 92 := ⟨by decide +kernel, rfl⟩
theorem d_X11_actHere_92 : dec 1 cX11_actHere 92 .lcmp 93 := ⟨by decide +kernel, rfl⟩
theorem d_X11_actHere_93 : decB cX11_actHere 93 (.ifCond .ne 7) (7) 96 100 := ⟨by decide +kernel, rfl, by decide⟩
theorem d_X11_actHere_96 : dec 1 cX11_actHere 96 (.iconst 5) 97 := ⟨by decide +kernel, rfl⟩
theorem d_X11_actHere_97 : decB cX11_actHere 97 (.goto 4) (4) 100 101 := ⟨by decide +kernel, rfl, by decide⟩
theorem d_X11_actHere_100 : dec 1 cX11_actHere 100 (.iconst (-1)) 101 := ⟨by decide +kernel, rfl⟩
theorem d_X11_actHere_101 : dec 1 cX11_actHere 101 .ireturn 102 := ⟨by decide +kernel, rfl⟩
def f_X11_actHere (F : Nat)  (v0 : Nat) (G : GH) : Option (Int32) :=
  Option.bind (gI G v0 11 9) (fun (x1 : Int32) =>
  if x1 = (2 : Int32) then
  (Option.bind (gJ G v0 11 12) (fun (x2 : Int64) =>
  if (lg_cmp x2 (1786082164 : Int64)) = 0 then
  (some (0 : Int32))
  else (Option.bind (gJ G v0 11 12) (fun (x3 : Int64) =>
  if (lg_cmp x3 (6382692 : Int64)) = 0 then
  (some (1 : Int32))
  else (Option.bind (gJ G v0 11 12) (fun (x4 : Int64) =>
  if (lg_cmp x4 (7173484 : Int64)) = 0 then
  (some (2 : Int32))
  else (Option.bind (gJ G v0 11 12) (fun (x5 : Int64) =>
  if (lg_cmp x5 (7168376 : Int64)) = 0 then
  (some (3 : Int32))
  else (Option.bind (gJ G v0 11 12) (fun (x6 : Int64) =>
  if (lg_cmp x6 (7170414 : Int64)) = 0 then
  (some (4 : Int32))
  else (Option.bind (gJ G v0 11 12) (fun (x7 : Int64) =>
  if (lg_cmp x7 (7566690 : Int64)) = 0 then
  (some (5 : Int32))
  else (some (-1 : Int32))))))))))))))
  else (some (-1 : Int32)))
set_option maxRecDepth 100000 in
set_option maxHeartbeats 4000000 in
theorem s_X11_actHere {E : GE} {F : Nat}  {v0 : Nat} {n : Nat} {G : GH} {z : Int32}  (h : f_X11_actHere F  v0 G = some z) : GM E yX11_actHere cX11_actHere 1 (some .int) 0 0 0 0 [.ref v0] n G (some (.int z), n, G) := by
  refine GM.of (by decide) (Nat.le_of_ble_eq_true rfl) ?_
  show WG E RX11 "actHere" cX11_actHere 1 (some .int) 0 0 0 0 0 [(0, .ref v0)] [] n G (g_O E (some (.int z), n, G))
  unfold f_X11_actHere at h
  refine r_aload d_X11_actHere_0 rfl ?_
  refine r_getI h d_X11_actHere_1 pf_X11_106 (fun x1 h => ?_)
  refine r_iconst d_X11_actHere_4 ic_2 ?_
  refine r_icmp_eq h d_X11_actHere_5 (fun h => ?_) (fun h => ?_)
  · refine r_aload d_X11_actHere_10 rfl ?_
    refine r_getJ h d_X11_actHere_11 pf_X11_99 (fun x2 h => ?_)
    refine r_ldc2 d_X11_actHere_14 cl_X11_121 ?_
    refine r_lcmp d_X11_actHere_17 ?_
    refine r_if_ne h d_X11_actHere_18 (fun h => ?_) (fun h => ?_)
    · refine r_aload d_X11_actHere_25 rfl ?_
      refine r_getJ h d_X11_actHere_26 pf_X11_99 (fun x3 h => ?_)
      refine r_ldc2 d_X11_actHere_29 cl_X11_123 ?_
      refine r_lcmp d_X11_actHere_32 ?_
      refine r_if_ne h d_X11_actHere_33 (fun h => ?_) (fun h => ?_)
      · refine r_aload d_X11_actHere_40 rfl ?_
        refine r_getJ h d_X11_actHere_41 pf_X11_99 (fun x4 h => ?_)
        refine r_ldc2 d_X11_actHere_44 cl_X11_125 ?_
        refine r_lcmp d_X11_actHere_47 ?_
        refine r_if_ne h d_X11_actHere_48 (fun h => ?_) (fun h => ?_)
        · refine r_aload d_X11_actHere_55 rfl ?_
          refine r_getJ h d_X11_actHere_56 pf_X11_99 (fun x5 h => ?_)
          refine r_ldc2 d_X11_actHere_59 cl_X11_127 ?_
          refine r_lcmp d_X11_actHere_62 ?_
          refine r_if_ne h d_X11_actHere_63 (fun h => ?_) (fun h => ?_)
          · refine r_aload d_X11_actHere_70 rfl ?_
            refine r_getJ h d_X11_actHere_71 pf_X11_99 (fun x6 h => ?_)
            refine r_ldc2 d_X11_actHere_74 cl_X11_129 ?_
            refine r_lcmp d_X11_actHere_77 ?_
            refine r_if_ne h d_X11_actHere_78 (fun h => ?_) (fun h => ?_)
            · refine r_aload d_X11_actHere_85 rfl ?_
              refine r_getJ h d_X11_actHere_86 pf_X11_99 (fun x7 h => ?_)
              refine r_ldc2 d_X11_actHere_89 cl_X11_131 ?_
              refine r_lcmp d_X11_actHere_92 ?_
              refine r_if_ne h d_X11_actHere_93 (fun h => ?_) (fun h => ?_)
              · refine r_iconst d_X11_actHere_100 ic_m1 ?_
                exact r_pret h d_X11_actHere_101
              · refine r_iconst d_X11_actHere_96 ic_5 ?_
                refine r_goto d_X11_actHere_97 ?_
                exact r_pret h d_X11_actHere_101
            · refine r_iconst d_X11_actHere_81 ic_4 ?_
              refine r_goto d_X11_actHere_82 ?_
              exact r_pret h d_X11_actHere_101
          · refine r_iconst d_X11_actHere_66 ic_3 ?_
            refine r_goto d_X11_actHere_67 ?_
            exact r_pret h d_X11_actHere_101
        · refine r_iconst d_X11_actHere_51 ic_2 ?_
          refine r_goto d_X11_actHere_52 ?_
          exact r_pret h d_X11_actHere_101
      · refine r_iconst d_X11_actHere_36 ic_1 ?_
        refine r_goto d_X11_actHere_37 ?_
        exact r_pret h d_X11_actHere_101
    · refine r_iconst d_X11_actHere_21 ic_0 ?_
      refine r_goto d_X11_actHere_22 ?_
      exact r_pret h d_X11_actHere_101
  · refine r_iconst d_X11_actHere_8 ic_m1 ?_
    exact r_pret h d_X11_actHere_9
/-! X11_spanHere -/
theorem cl_X11_133 : Cond.constantLong RX11 133 (422775452260) ∈ g_tbl := g_in 1331 (by decide +kernel) rfl
theorem cl_X11_135 : Cond.constantLong RX11 135 (495589486693) ∈ g_tbl := g_in 1332 (by decide +kernel) rfl
theorem cl_X11_137 : Cond.constantLong RX11 137 (1700881256) ∈ g_tbl := g_in 1333 (by decide +kernel) rfl
theorem d_X11_spanHere_0 : decAL cX11_spanHere 0 0 1 := Or.inr ⟨0, rfl, by decide +kernel, rfl⟩
theorem d_X11_spanHere_1 : dec 3 cX11_spanHere 1 (.getfield 106) 4 := ⟨by decide +kernel, rfl⟩
theorem d_X11_spanHere_4 : dec 1 cX11_spanHere 4 (.iconst 2) 5 := ⟨by decide +kernel, rfl⟩
theorem d_X11_spanHere_5 : decB cX11_spanHere 5 (.if_icmp .eq 5) (5) 8 10 := ⟨by decide +kernel, rfl, by decide⟩
theorem d_X11_spanHere_8 : dec 1 cX11_spanHere 8 (.iconst (-1)) 9 := ⟨by decide +kernel, rfl⟩
theorem d_X11_spanHere_9 : dec 1 cX11_spanHere 9 .ireturn 10 := ⟨by decide +kernel, rfl⟩
theorem d_X11_spanHere_10 : decAL cX11_spanHere 10 0 11 := Or.inr ⟨0, rfl, by decide +kernel, rfl⟩
theorem d_X11_spanHere_11 : dec 3 cX11_spanHere 11 (.getfield 99) 14 := ⟨by decide +kernel, rfl⟩
theorem d_X11_spanHere_14 : dec 3 cX11_spanHere 14 (.ldc2_w 133) 17 := ⟨by decide +kernel, rfl⟩
theorem d_X11_spanHere_17 : dec 1 cX11_spanHere 17 .lcmp 18 := ⟨by decide +kernel, rfl⟩
theorem d_X11_spanHere_18 : decB cX11_spanHere 18 (.ifCond .ne 7) (7) 21 25 := ⟨by decide +kernel, rfl, by decide⟩
theorem d_X11_spanHere_21 : dec 1 cX11_spanHere 21 (.iconst 0) 22 := ⟨by decide +kernel, rfl⟩
theorem d_X11_spanHere_22 : decB cX11_spanHere 22 (.goto 34) (34) 25 56 := ⟨by decide +kernel, rfl, by decide⟩
theorem d_X11_spanHere_25 : decAL cX11_spanHere 25 0 26 := Or.inr ⟨0, rfl, by decide +kernel, rfl⟩
theorem d_X11_spanHere_26 : dec 3 cX11_spanHere 26 (.getfield 99) 29 := ⟨by decide +kernel, rfl⟩
theorem d_X11_spanHere_29 : dec 3 cX11_spanHere 29 (.ldc2_w 135) 32 := ⟨by decide +kernel, rfl⟩
theorem d_X11_spanHere_32 : dec 1 cX11_spanHere 32 .lcmp 33 := ⟨by decide +kernel, rfl⟩
theorem d_X11_spanHere_33 : decB cX11_spanHere 33 (.ifCond .ne 7) (7) 36 40 := ⟨by decide +kernel, rfl, by decide⟩
theorem d_X11_spanHere_36 : dec 1 cX11_spanHere 36 (.iconst 1) 37 := ⟨by decide +kernel, rfl⟩
theorem d_X11_spanHere_37 : decB cX11_spanHere 37 (.goto 19) (19) 40 56 := ⟨by decide +kernel, rfl, by decide⟩
theorem d_X11_spanHere_40 : decAL cX11_spanHere 40 0 41 := Or.inr ⟨0, rfl, by decide +kernel, rfl⟩
theorem d_X11_spanHere_41 : dec 3 cX11_spanHere 41 (.getfield 99) 44 := ⟨by decide +kernel, rfl⟩
theorem d_X11_spanHere_44 : dec 3 cX11_spanHere 44 (.ldc2_w 137) 47 := ⟨by decide +kernel, rfl⟩
theorem d_X11_spanHere_47 : dec 1 cX11_spanHere 47 .lcmp 48 := ⟨by decide +kernel, rfl⟩
theorem d_X11_spanHere_48 : decB cX11_spanHere 48 (.ifCond .ne 7) (7) 51 55 := ⟨by decide +kernel, rfl, by decide⟩
theorem d_X11_spanHere_51 : dec 1 cX11_spanHere 51 (.iconst 2) 52 := ⟨by decide +kernel, rfl⟩
theorem d_X11_spanHere_52 : decB cX11_spanHere 52 (.goto 4) (4) 55 56 := ⟨by decide +kernel, rfl, by decide⟩
theorem d_X11_spanHere_55 : dec 1 cX11_spanHere 55 (.iconst (-1)) 56 := ⟨by decide +kernel, rfl⟩
theorem d_X11_spanHere_56 : dec 1 cX11_spanHere 56 .ireturn 57 := ⟨by decide +kernel, rfl⟩
def f_X11_spanHere (F : Nat)  (v0 : Nat) (G : GH) : Option (Int32) :=
  Option.bind (gI G v0 11 9) (fun (x1 : Int32) =>
  if x1 = (2 : Int32) then
  (Option.bind (gJ G v0 11 12) (fun (x2 : Int64) =>
  if (lg_cmp x2 (422775452260 : Int64)) = 0 then
  (some (0 : Int32))
  else (Option.bind (gJ G v0 11 12) (fun (x3 : Int64) =>
  if (lg_cmp x3 (495589486693 : Int64)) = 0 then
  (some (1 : Int32))
  else (Option.bind (gJ G v0 11 12) (fun (x4 : Int64) =>
  if (lg_cmp x4 (1700881256 : Int64)) = 0 then
  (some (2 : Int32))
  else (some (-1 : Int32))))))))
  else (some (-1 : Int32)))
set_option maxRecDepth 100000 in
set_option maxHeartbeats 4000000 in
theorem s_X11_spanHere {E : GE} {F : Nat}  {v0 : Nat} {n : Nat} {G : GH} {z : Int32}  (h : f_X11_spanHere F  v0 G = some z) : GM E yX11_spanHere cX11_spanHere 1 (some .int) 0 0 0 0 [.ref v0] n G (some (.int z), n, G) := by
  refine GM.of (by decide) (Nat.le_of_ble_eq_true rfl) ?_
  show WG E RX11 "spanHere" cX11_spanHere 1 (some .int) 0 0 0 0 0 [(0, .ref v0)] [] n G (g_O E (some (.int z), n, G))
  unfold f_X11_spanHere at h
  refine r_aload d_X11_spanHere_0 rfl ?_
  refine r_getI h d_X11_spanHere_1 pf_X11_106 (fun x1 h => ?_)
  refine r_iconst d_X11_spanHere_4 ic_2 ?_
  refine r_icmp_eq h d_X11_spanHere_5 (fun h => ?_) (fun h => ?_)
  · refine r_aload d_X11_spanHere_10 rfl ?_
    refine r_getJ h d_X11_spanHere_11 pf_X11_99 (fun x2 h => ?_)
    refine r_ldc2 d_X11_spanHere_14 cl_X11_133 ?_
    refine r_lcmp d_X11_spanHere_17 ?_
    refine r_if_ne h d_X11_spanHere_18 (fun h => ?_) (fun h => ?_)
    · refine r_aload d_X11_spanHere_25 rfl ?_
      refine r_getJ h d_X11_spanHere_26 pf_X11_99 (fun x3 h => ?_)
      refine r_ldc2 d_X11_spanHere_29 cl_X11_135 ?_
      refine r_lcmp d_X11_spanHere_32 ?_
      refine r_if_ne h d_X11_spanHere_33 (fun h => ?_) (fun h => ?_)
      · refine r_aload d_X11_spanHere_40 rfl ?_
        refine r_getJ h d_X11_spanHere_41 pf_X11_99 (fun x4 h => ?_)
        refine r_ldc2 d_X11_spanHere_44 cl_X11_137 ?_
        refine r_lcmp d_X11_spanHere_47 ?_
        refine r_if_ne h d_X11_spanHere_48 (fun h => ?_) (fun h => ?_)
        · refine r_iconst d_X11_spanHere_55 ic_m1 ?_
          exact r_pret h d_X11_spanHere_56
        · refine r_iconst d_X11_spanHere_51 ic_2 ?_
          refine r_goto d_X11_spanHere_52 ?_
          exact r_pret h d_X11_spanHere_56
      · refine r_iconst d_X11_spanHere_36 ic_1 ?_
        refine r_goto d_X11_spanHere_37 ?_
        exact r_pret h d_X11_spanHere_56
    · refine r_iconst d_X11_spanHere_21 ic_0 ?_
      refine r_goto d_X11_spanHere_22 ?_
      exact r_pret h d_X11_spanHere_56
  · refine r_iconst d_X11_spanHere_8 ic_m1 ?_
    exact r_pret h d_X11_spanHere_9
/-! X11_needHere -/
theorem pf_X11_27 : pF RX11 27 11 17 := ⟨RX11, TX11, 37, rfl, by decide, rfl, Or.inl (g_in 1162 (by decide +kernel) rfl)⟩
theorem pf_X11_143 : pF RX11 143 11 19 := ⟨RX11, TX11, 37, rfl, by decide, rfl, Or.inl (g_in 1164 (by decide +kernel) rfl)⟩
theorem pf_X11_30 : pF RX11 30 11 18 := ⟨RX11, TX11, 37, rfl, by decide, rfl, Or.inl (g_in 1163 (by decide +kernel) rfl)⟩
theorem pw_X11_143 {nm : String} : pW RX11 nm 143 11 19 .int := ⟨RX11, TX11, 37, rfl, by decide, rfl, Or.inl ⟨g_in 1164 (by decide +kernel) rfl, Or.inl rfl⟩, by decide +kernel⟩
theorem pf_X11_33 : pF RX11 33 11 20 := ⟨RX11, TX11, 37, rfl, by decide, rfl, Or.inl (g_in 1165 (by decide +kernel) rfl)⟩
theorem py_X11_token : pY yX11_token cX11_token 3 none 0 := ⟨g_in 1273 (by decide +kernel) rfl, g_in 104 (by decide +kernel) rfl, by decide, by decide, by decide +kernel⟩
theorem pi_X11_token : pI yX11_token 11 := ⟨g_in 1272 (by decide +kernel) rfl, g_in 38 (by decide +kernel) rfl, (RX11, TX11, 37), rfl, rfl⟩
theorem pl_X11_146 : pL RX11 146 yX11_token := Or.inl (g_in 1270 (by decide +kernel) rfl)
theorem py_X11_isBad : pY yX11_isBad cX11_isBad 3 none 2 := ⟨g_in 1297 (by decide +kernel) rfl, g_in 104 (by decide +kernel) rfl, by decide, by decide, by decide +kernel⟩
theorem pi_X11_isBad : pI yX11_isBad 11 := ⟨g_in 1296 (by decide +kernel) rfl, g_in 43 (by decide +kernel) rfl, (RX11, TX11, 37), rfl, rfl⟩
theorem pl_X11_139 : pL RX11 139 yX11_isBad := Or.inl (g_in 1294 (by decide +kernel) rfl)
theorem d_X11_needHere_0 : decAL cX11_needHere 0 0 1 := Or.inr ⟨0, rfl, by decide +kernel, rfl⟩
theorem d_X11_needHere_1 : dec 3 cX11_needHere 1 (.getfield 109) 4 := ⟨by decide +kernel, rfl⟩
theorem d_X11_needHere_4 : dec 2 cX11_needHere 4 (.bipush 12) 6 := ⟨by decide +kernel, rfl⟩
theorem d_X11_needHere_6 : decB cX11_needHere 6 (.if_icmp .lt 12) (12) 9 18 := ⟨by decide +kernel, rfl, by decide⟩
theorem d_X11_needHere_9 : decAL cX11_needHere 9 0 10 := Or.inr ⟨0, rfl, by decide +kernel, rfl⟩
theorem d_X11_needHere_10 : dec 1 cX11_needHere 10 (.iconst 2) 11 := ⟨by decide +kernel, rfl⟩
theorem d_X11_needHere_11 : decAL cX11_needHere 11 0 12 := Or.inr ⟨0, rfl, by decide +kernel, rfl⟩
theorem d_X11_needHere_12 : dec 3 cX11_needHere 12 (.getfield 96) 15 := ⟨by decide +kernel, rfl⟩
theorem d_X11_needHere_15 : dec 3 cX11_needHere 15 (.invokevirtual 139) 18 := ⟨by decide +kernel, rfl⟩
theorem d_X11_needHere_18 : decAL cX11_needHere 18 0 19 := Or.inr ⟨0, rfl, by decide +kernel, rfl⟩
theorem d_X11_needHere_19 : dec 3 cX11_needHere 19 (.getfield 27) 22 := ⟨by decide +kernel, rfl⟩
theorem d_X11_needHere_22 : decAL cX11_needHere 22 0 23 := Or.inr ⟨0, rfl, by decide +kernel, rfl⟩
theorem d_X11_needHere_23 : dec 3 cX11_needHere 23 (.getfield 143) 26 := ⟨by decide +kernel, rfl⟩
theorem d_X11_needHere_26 : decAL cX11_needHere 26 0 27 := Or.inr ⟨0, rfl, by decide +kernel, rfl⟩
theorem d_X11_needHere_27 : dec 3 cX11_needHere 27 (.getfield 96) 30 := ⟨by decide +kernel, rfl⟩
theorem d_X11_needHere_30 : dec 1 cX11_needHere 30 .iastore 31 := ⟨by decide +kernel, rfl⟩
theorem d_X11_needHere_31 : decAL cX11_needHere 31 0 32 := Or.inr ⟨0, rfl, by decide +kernel, rfl⟩
theorem d_X11_needHere_32 : dec 3 cX11_needHere 32 (.getfield 30) 35 := ⟨by decide +kernel, rfl⟩
theorem d_X11_needHere_35 : decAL cX11_needHere 35 0 36 := Or.inr ⟨0, rfl, by decide +kernel, rfl⟩
theorem d_X11_needHere_36 : dec 3 cX11_needHere 36 (.getfield 143) 39 := ⟨by decide +kernel, rfl⟩
theorem d_X11_needHere_39 : decAL cX11_needHere 39 0 40 := Or.inr ⟨0, rfl, by decide +kernel, rfl⟩
theorem d_X11_needHere_40 : dec 3 cX11_needHere 40 (.getfield 109) 43 := ⟨by decide +kernel, rfl⟩
theorem d_X11_needHere_43 : dec 1 cX11_needHere 43 .iastore 44 := ⟨by decide +kernel, rfl⟩
theorem d_X11_needHere_44 : decAL cX11_needHere 44 0 45 := Or.inr ⟨0, rfl, by decide +kernel, rfl⟩
theorem d_X11_needHere_45 : dec 1 cX11_needHere 45 .dup 46 := ⟨by decide +kernel, rfl⟩
theorem d_X11_needHere_46 : dec 3 cX11_needHere 46 (.getfield 143) 49 := ⟨by decide +kernel, rfl⟩
theorem d_X11_needHere_49 : dec 1 cX11_needHere 49 (.iconst 1) 50 := ⟨by decide +kernel, rfl⟩
theorem d_X11_needHere_50 : dec 1 cX11_needHere 50 .iadd 51 := ⟨by decide +kernel, rfl⟩
theorem d_X11_needHere_51 : dec 3 cX11_needHere 51 (.putfield 143) 54 := ⟨by decide +kernel, rfl⟩
theorem d_X11_needHere_54 : decAL cX11_needHere 54 0 55 := Or.inr ⟨0, rfl, by decide +kernel, rfl⟩
theorem d_X11_needHere_55 : dec 3 cX11_needHere 55 (.getfield 33) 58 := ⟨by decide +kernel, rfl⟩
theorem d_X11_needHere_58 : dec 1 cX11_needHere 58 (.iconst 2) 59 := ⟨by decide +kernel, rfl⟩
theorem d_X11_needHere_59 : dec 1 cX11_needHere 59 .iaload 60 := ⟨by decide +kernel, rfl⟩
theorem d_X11_needHere_60 : dec 1 cX11_needHere 60 (.iconst 4) 61 := ⟨by decide +kernel, rfl⟩
theorem d_X11_needHere_61 : decB cX11_needHere 61 (.if_icmp .ne 15) (15) 64 76 := ⟨by decide +kernel, rfl, by decide⟩
theorem d_X11_needHere_64 : decAL cX11_needHere 64 0 65 := Or.inr ⟨0, rfl, by decide +kernel, rfl⟩
theorem d_X11_needHere_65 : dec 1 cX11_needHere 65 (.iconst 3) 66 := ⟨by decide +kernel, rfl⟩
theorem d_X11_needHere_66 : decAL cX11_needHere 66 0 67 := Or.inr ⟨0, rfl, by decide +kernel, rfl⟩
theorem d_X11_needHere_67 : dec 3 cX11_needHere 67 (.getfield 96) 70 := ⟨by decide +kernel, rfl⟩
theorem d_X11_needHere_70 : dec 3 cX11_needHere 70 (.invokevirtual 139) 73 := ⟨by decide +kernel, rfl⟩
theorem d_X11_needHere_73 : decB cX11_needHere 73 (.goto 56) (56) 76 129 := ⟨by decide +kernel, rfl, by decide⟩
theorem d_X11_needHere_76 : decAL cX11_needHere 76 0 77 := Or.inr ⟨0, rfl, by decide +kernel, rfl⟩
theorem d_X11_needHere_77 : dec 3 cX11_needHere 77 (.getfield 33) 80 := ⟨by decide +kernel, rfl⟩
theorem d_X11_needHere_80 : dec 1 cX11_needHere 80 (.iconst 3) 81 := ⟨by decide +kernel, rfl⟩
theorem d_X11_needHere_81 : decAL cX11_needHere 81 0 82 := Or.inr ⟨0, rfl, by decide +kernel, rfl⟩
theorem d_X11_needHere_82 : dec 3 cX11_needHere 82 (.getfield 33) 85 := ⟨by decide +kernel, rfl⟩
theorem d_X11_needHere_85 : dec 1 cX11_needHere 85 (.iconst 2) 86 := ⟨by decide +kernel, rfl⟩
theorem d_X11_needHere_86 : dec 1 cX11_needHere 86 .iaload 87 := ⟨by decide +kernel, rfl⟩
theorem d_X11_needHere_87 : dec 1 cX11_needHere 87 .iadd 88 := ⟨by decide +kernel, rfl⟩
theorem d_X11_needHere_88 : decAL cX11_needHere 88 0 89 := Or.inr ⟨0, rfl, by decide +kernel, rfl⟩
theorem d_X11_needHere_89 : dec 3 cX11_needHere 89 (.getfield 109) 92 := ⟨by decide +kernel, rfl⟩
theorem d_X11_needHere_92 : dec 1 cX11_needHere 92 .iastore 93 := ⟨by decide +kernel, rfl⟩
theorem d_X11_needHere_93 : decAL cX11_needHere 93 0 94 := Or.inr ⟨0, rfl, by decide +kernel, rfl⟩
theorem d_X11_needHere_94 : dec 3 cX11_needHere 94 (.getfield 33) 97 := ⟨by decide +kernel, rfl⟩
theorem d_X11_needHere_97 : dec 2 cX11_needHere 97 (.bipush 7) 99 := ⟨by decide +kernel, rfl⟩
theorem d_X11_needHere_99 : dec 1 cX11_needHere 99 .dup2 100 := ⟨by decide +kernel, rfl⟩
theorem d_X11_needHere_100 : dec 1 cX11_needHere 100 .iaload 101 := ⟨by decide +kernel, rfl⟩
theorem d_X11_needHere_101 : decIL cX11_needHere 101 1 102 := Or.inr ⟨1, rfl, by decide +kernel, rfl⟩
theorem d_X11_needHere_102 : decB cX11_needHere 102 (.ifCond .eq 14) (14) 105 116 := ⟨by decide +kernel, rfl, by decide⟩
theorem d_X11_needHere_105 : dec 1 cX11_needHere 105 (.iconst 1) 106 := ⟨by decide +kernel, rfl⟩
theorem d_X11_needHere_106 : decAL cX11_needHere 106 0 107 := Or.inr ⟨0, rfl, by decide +kernel, rfl⟩
theorem d_X11_needHere_107 : dec 3 cX11_needHere 107 (.getfield 33) 110 := ⟨by decide +kernel, rfl⟩
theorem d_X11_needHere_110 : dec 1 cX11_needHere 110 (.iconst 2) 111 := ⟨by decide +kernel, rfl⟩
theorem d_X11_needHere_111 : dec 1 cX11_needHere 111 .iaload 112 := ⟨by decide +kernel, rfl⟩
theorem d_X11_needHere_112 : dec 1 cX11_needHere 112 .ishl 113 := ⟨by decide +kernel, rfl⟩
theorem d_X11_needHere_113 : decB cX11_needHere 113 (.goto 4) (4) 116 117 := ⟨by decide +kernel, rfl, by decide⟩
theorem d_X11_needHere_116 : dec 1 cX11_needHere 116 (.iconst 0) 117 := ⟨by decide +kernel, rfl⟩
theorem d_X11_needHere_117 : dec 1 cX11_needHere 117 .ior 118 := ⟨by decide +kernel, rfl⟩
theorem d_X11_needHere_118 : dec 1 cX11_needHere 118 .iastore 119 := ⟨by decide +kernel, rfl⟩
theorem d_X11_needHere_119 : decAL cX11_needHere 119 0 120 := Or.inr ⟨0, rfl, by decide +kernel, rfl⟩
theorem d_X11_needHere_120 : dec 3 cX11_needHere 120 (.getfield 33) 123 := ⟨by decide +kernel, rfl⟩
theorem d_X11_needHere_123 : dec 1 cX11_needHere 123 (.iconst 2) 124 := ⟨by decide +kernel, rfl⟩
theorem d_X11_needHere_124 : dec 1 cX11_needHere 124 .dup2 125 := ⟨by decide +kernel, rfl⟩
theorem d_X11_needHere_125 : dec 1 cX11_needHere 125 .iaload 126 := ⟨by decide +kernel, rfl⟩
theorem d_X11_needHere_126 : dec 1 cX11_needHere 126 (.iconst 1) 127 := ⟨by decide +kernel, rfl⟩
theorem d_X11_needHere_127 : dec 1 cX11_needHere 127 .iadd 128 := ⟨by decide +kernel, rfl⟩
theorem d_X11_needHere_128 : dec 1 cX11_needHere 128 .iastore 129 := ⟨by decide +kernel, rfl⟩
theorem d_X11_needHere_129 : decAL cX11_needHere 129 0 130 := Or.inr ⟨0, rfl, by decide +kernel, rfl⟩
theorem d_X11_needHere_130 : dec 3 cX11_needHere 130 (.invokevirtual 146) 133 := ⟨by decide +kernel, rfl⟩
theorem d_X11_needHere_133 : dec 1 cX11_needHere 133 .return_ 134 := ⟨by decide +kernel, rfl⟩
def k_X11_needHere_117 (F : Nat)   (v0 : Nat) (s0 : Nat) (s1 : Int32) (s2 : Int32) (s3 : Int32) (n : Nat) (G : GH) : Option (Nat × GH) :=
  Option.bind (aS G s0 0 s1 (s2 ||| s3)) (fun (G21 : GH) =>
  Option.bind (gR G21 v0 11 20) (fun (x22 : Nat) =>
  Option.bind (aI G21 x22 0 (2 : Int32)) (fun (x23 : Int32) =>
  Option.bind (aS G21 x22 0 (2 : Int32) (x23 + (1 : Int32))) (fun (G24 : GH) =>
  cvU G24 v0 11 (f_X11_token F v0 n G24) (fun (n25 : Nat) (G26 : GH) =>
  some (n25, G26))))))
def k_X11_needHere_18 (F : Nat)   (v0 : Nat) (v1 : Int32)  (n : Nat) (G : GH) : Option (Nat × GH) :=
  Option.bind (gR G v0 11 17) (fun (x2 : Nat) =>
  Option.bind (gI G v0 11 19) (fun (x3 : Int32) =>
  Option.bind (gI G v0 11 8) (fun (x4 : Int32) =>
  Option.bind (aS G x2 0 x3 x4) (fun (G5 : GH) =>
  Option.bind (gR G5 v0 11 18) (fun (x6 : Nat) =>
  Option.bind (gI G5 v0 11 19) (fun (x7 : Int32) =>
  Option.bind (gI G5 v0 11 11) (fun (x8 : Int32) =>
  Option.bind (aS G5 x6 0 x7 x8) (fun (G9 : GH) =>
  Option.bind (gI G9 v0 11 19) (fun (x10 : Int32) =>
  Option.bind (pV G9 v0 11 19 (.int (x10 + (1 : Int32)))) (fun (G11 : GH) =>
  Option.bind (gR G11 v0 11 20) (fun (x12 : Nat) =>
  Option.bind (aI G11 x12 0 (2 : Int32)) (fun (x13 : Int32) =>
  if x13 = (4 : Int32) then
  (Option.bind (gI G11 v0 11 8) (fun (x29 : Int32) =>
  cvU G11 v0 11 (f_X11_isBad F v0 (3 : Int32) x29 n G11) (fun (n30 : Nat) (G31 : GH) =>
  cvU G31 v0 11 (f_X11_token F v0 n30 G31) (fun (n32 : Nat) (G33 : GH) =>
  some (n32, G33)))))
  else (Option.bind (gR G11 v0 11 20) (fun (x14 : Nat) =>
  Option.bind (gR G11 v0 11 20) (fun (x15 : Nat) =>
  Option.bind (aI G11 x15 0 (2 : Int32)) (fun (x16 : Int32) =>
  Option.bind (gI G11 v0 11 11) (fun (x17 : Int32) =>
  Option.bind (aS G11 x14 0 ((3 : Int32) + x16) x17) (fun (G18 : GH) =>
  Option.bind (gR G18 v0 11 20) (fun (x19 : Nat) =>
  Option.bind (aI G18 x19 0 (7 : Int32)) (fun (x20 : Int32) =>
  if v1 = 0 then
  (k_X11_needHere_117 F   v0 x19 (7 : Int32) x20 (0 : Int32) n G18)
  else (Option.bind (gR G18 v0 11 20) (fun (x27 : Nat) =>
  Option.bind (aI G18 x27 0 (2 : Int32)) (fun (x28 : Int32) =>
  k_X11_needHere_117 F   v0 x19 (7 : Int32) x20 ((1 : Int32) <<< (x28 &&& 31)) n G18)))))))))))))))))))))))
def f_X11_needHere (F : Nat)  (v0 : Nat) (v1 : Int32) (n : Nat) (G : GH) : Option (Nat × GH) :=
  Option.bind (gI G v0 11 11) (fun (x1 : Int32) =>
  if x1 < (12 : Int32) then
  (k_X11_needHere_18 F   v0 v1 n G)
  else (Option.bind (gI G v0 11 8) (fun (x34 : Int32) =>
  cvU G v0 11 (f_X11_isBad F v0 (2 : Int32) x34 n G) (fun (n35 : Nat) (G36 : GH) =>
  k_X11_needHere_18 F   v0 v1 n35 G36))))
set_option maxRecDepth 100000 in
set_option maxHeartbeats 4000000 in
theorem c_X11_needHere_117 {E : GE} {F : Nat}   {v0 : Nat} {s0 : Nat} {s1 : Int32} {s2 : Int32} {s3 : Int32} {n : Nat} {G : GH} {z : Nat × GH}   (h : k_X11_needHere_117 F   v0 s0 s1 s2 s3 n G = some z) : WG E RX11 "needHere" cX11_needHere 2 none 2 44 0 0 117 [(0, .ref v0)] [.int s3, .int s2, .int s1, .ref s0] n G (g_O E (none, z.1, z.2)) := by
  unfold k_X11_needHere_117 at h
  refine r_ior d_X11_needHere_117 ?_
  refine r_iast h d_X11_needHere_118 (fun G21 h => ?_)
  refine r_aload d_X11_needHere_119 rfl ?_
  refine r_getR h d_X11_needHere_120 pf_X11_33 (fun x22 h => ?_)
  refine r_iconst d_X11_needHere_123 ic_2 ?_
  refine r_dup2 d_X11_needHere_124 rfl rfl ?_
  refine r_iald h d_X11_needHere_125 (fun x23 h => ?_)
  refine r_iconst d_X11_needHere_126 ic_1 ?_
  refine r_iadd d_X11_needHere_127 ?_
  refine r_iast h d_X11_needHere_128 (fun G24 h => ?_)
  refine r_aload d_X11_needHere_129 rfl ?_
  refine r_invU [] h (fun _ hq => s_X11_token hq) d_X11_needHere_130 pl_X11_146 py_X11_token pi_X11_token rfl rfl rfl (fun n25 G26 h => ?_)
  exact r_vret h d_X11_needHere_133
set_option maxRecDepth 100000 in
set_option maxHeartbeats 4000000 in
theorem c_X11_needHere_18 {E : GE} {F : Nat}   {v0 : Nat} {v1 : Int32}  {n : Nat} {G : GH} {z : Nat × GH}   (h : k_X11_needHere_18 F   v0 v1  n G = some z) : WG E RX11 "needHere" cX11_needHere 2 none 2 44 0 0 18 [(0, .ref v0), (1, .int v1)] [] n G (g_O E (none, z.1, z.2)) := by
  unfold k_X11_needHere_18 at h
  refine r_aload d_X11_needHere_18 rfl ?_
  refine r_getR h d_X11_needHere_19 pf_X11_27 (fun x2 h => ?_)
  refine r_aload d_X11_needHere_22 rfl ?_
  refine r_getI h d_X11_needHere_23 pf_X11_143 (fun x3 h => ?_)
  refine r_aload d_X11_needHere_26 rfl ?_
  refine r_getI h d_X11_needHere_27 pf_X11_96 (fun x4 h => ?_)
  refine r_iast h d_X11_needHere_30 (fun G5 h => ?_)
  refine r_aload d_X11_needHere_31 rfl ?_
  refine r_getR h d_X11_needHere_32 pf_X11_30 (fun x6 h => ?_)
  refine r_aload d_X11_needHere_35 rfl ?_
  refine r_getI h d_X11_needHere_36 pf_X11_143 (fun x7 h => ?_)
  refine r_aload d_X11_needHere_39 rfl ?_
  refine r_getI h d_X11_needHere_40 pf_X11_109 (fun x8 h => ?_)
  refine r_iast h d_X11_needHere_43 (fun G9 h => ?_)
  refine r_aload d_X11_needHere_44 rfl ?_
  refine r_dup d_X11_needHere_45 rfl ?_
  refine r_getI h d_X11_needHere_46 pf_X11_143 (fun x10 h => ?_)
  refine r_iconst d_X11_needHere_49 ic_1 ?_
  refine r_iadd d_X11_needHere_50 ?_
  refine r_put h d_X11_needHere_51 pw_X11_143 rfl rfl (fun G11 h => ?_)
  refine r_aload d_X11_needHere_54 rfl ?_
  refine r_getR h d_X11_needHere_55 pf_X11_33 (fun x12 h => ?_)
  refine r_iconst d_X11_needHere_58 ic_2 ?_
  refine r_iald h d_X11_needHere_59 (fun x13 h => ?_)
  refine r_iconst d_X11_needHere_60 ic_4 ?_
  refine r_icmp_ne h d_X11_needHere_61 (fun h => ?_) (fun h => ?_)
  · refine r_aload d_X11_needHere_76 rfl ?_
    refine r_getR h d_X11_needHere_77 pf_X11_33 (fun x14 h => ?_)
    refine r_iconst d_X11_needHere_80 ic_3 ?_
    refine r_aload d_X11_needHere_81 rfl ?_
    refine r_getR h d_X11_needHere_82 pf_X11_33 (fun x15 h => ?_)
    refine r_iconst d_X11_needHere_85 ic_2 ?_
    refine r_iald h d_X11_needHere_86 (fun x16 h => ?_)
    refine r_iadd d_X11_needHere_87 ?_
    refine r_aload d_X11_needHere_88 rfl ?_
    refine r_getI h d_X11_needHere_89 pf_X11_109 (fun x17 h => ?_)
    refine r_iast h d_X11_needHere_92 (fun G18 h => ?_)
    refine r_aload d_X11_needHere_93 rfl ?_
    refine r_getR h d_X11_needHere_94 pf_X11_33 (fun x19 h => ?_)
    refine r_bipush d_X11_needHere_97 bp_7 ?_
    refine r_dup2 d_X11_needHere_99 rfl rfl ?_
    refine r_iald h d_X11_needHere_100 (fun x20 h => ?_)
    refine r_iload d_X11_needHere_101 rfl ?_
    refine r_if_eq h d_X11_needHere_102 (fun h => ?_) (fun h => ?_)
    · refine r_iconst d_X11_needHere_116 ic_0 ?_
      refine r_lv [(0, .ref v0)] (g_allc rfl g_alln) ?_
      exact c_X11_needHere_117   h
    · refine r_iconst d_X11_needHere_105 ic_1 ?_
      refine r_aload d_X11_needHere_106 rfl ?_
      refine r_getR h d_X11_needHere_107 pf_X11_33 (fun x27 h => ?_)
      refine r_iconst d_X11_needHere_110 ic_2 ?_
      refine r_iald h d_X11_needHere_111 (fun x28 h => ?_)
      refine r_ishl d_X11_needHere_112 ?_
      refine r_goto d_X11_needHere_113 ?_
      refine r_lv [(0, .ref v0)] (g_allc rfl g_alln) ?_
      exact c_X11_needHere_117   h
  · refine r_aload d_X11_needHere_64 rfl ?_
    refine r_iconst d_X11_needHere_65 ic_3 ?_
    refine r_aload d_X11_needHere_66 rfl ?_
    refine r_getI h d_X11_needHere_67 pf_X11_96 (fun x29 h => ?_)
    refine r_invU [_, _] h (fun _ hq => s_X11_isBad hq) d_X11_needHere_70 pl_X11_139 py_X11_isBad pi_X11_isBad rfl rfl rfl (fun n30 G31 h => ?_)
    refine r_goto d_X11_needHere_73 ?_
    refine r_aload d_X11_needHere_129 rfl ?_
    refine r_invU [] h (fun _ hq => s_X11_token hq) d_X11_needHere_130 pl_X11_146 py_X11_token pi_X11_token rfl rfl rfl (fun n32 G33 h => ?_)
    exact r_vret h d_X11_needHere_133
set_option maxRecDepth 100000 in
set_option maxHeartbeats 4000000 in
theorem s_X11_needHere {E : GE} {F : Nat}  {v0 : Nat} {v1 : Int32} {n : Nat} {G : GH} {z : Nat × GH}  (h : f_X11_needHere F  v0 v1 n G = some z) : GM E yX11_needHere cX11_needHere 2 none 2 44 0 0 [.ref v0, .int v1] n G (none, z.1, z.2) := by
  refine GM.of (by decide) (Nat.le_of_ble_eq_true rfl) ?_
  show WG E RX11 "needHere" cX11_needHere 2 none 2 44 0 0 0 [(0, .ref v0), (1, .int v1)] [] n G (g_O E (none, z.1, z.2))
  unfold f_X11_needHere at h
  refine r_aload d_X11_needHere_0 rfl ?_
  refine r_getI h d_X11_needHere_1 pf_X11_109 (fun x1 h => ?_)
  refine r_bipush d_X11_needHere_4 bp_12 ?_
  refine r_icmp_lt h d_X11_needHere_6 (fun h => ?_) (fun h => ?_)
  · refine r_lv [(0, .ref v0), (1, .int v1)] (g_allc rfl (g_allc rfl g_alln)) ?_
    exact c_X11_needHere_18   h
  · refine r_aload d_X11_needHere_9 rfl ?_
    refine r_iconst d_X11_needHere_10 ic_2 ?_
    refine r_aload d_X11_needHere_11 rfl ?_
    refine r_getI h d_X11_needHere_12 pf_X11_96 (fun x34 h => ?_)
    refine r_invU [_, _] h (fun _ hq => s_X11_isBad hq) d_X11_needHere_15 pl_X11_139 py_X11_isBad pi_X11_isBad rfl rfl rfl (fun n35 G36 h => ?_)
    refine r_lv [(0, .ref v0), (1, .int v1)] (g_allc rfl (g_allc rfl g_alln)) ?_
    exact c_X11_needHere_18   h
/-! X11_needsTold -/
theorem py_X11_needHere : pY yX11_needHere cX11_needHere 2 none 1 := ⟨g_in 1325 (by decide +kernel) rfl, g_in 104 (by decide +kernel) rfl, by decide, by decide, by decide +kernel⟩
theorem pi_X11_needHere : pI yX11_needHere 11 := ⟨g_in 1324 (by decide +kernel) rfl, g_in 48 (by decide +kernel) rfl, (RX11, TX11, 37), rfl, rfl⟩
theorem pl_X11_153 : pL RX11 153 yX11_needHere := Or.inl (g_in 1322 (by decide +kernel) rfl)
theorem py_X11_fails : pY yX11_fails cX11_fails 1 (some .boolean) 0 := ⟨g_in 1293 (by decide +kernel) rfl, g_in 104 (by decide +kernel) rfl, by decide, by decide, by decide +kernel⟩
theorem pi_X11_fails : pI yX11_fails 11 := ⟨g_in 1292 (by decide +kernel) rfl, g_in 42 (by decide +kernel) rfl, (RX11, TX11, 37), rfl, rfl⟩
theorem pl_X11_149 : pL RX11 149 yX11_fails := Or.inl (g_in 1290 (by decide +kernel) rfl)
theorem d_X11_needsTold_0 : decAL cX11_needsTold 0 0 1 := Or.inr ⟨0, rfl, by decide +kernel, rfl⟩
theorem d_X11_needsTold_1 : dec 3 cX11_needsTold 1 (.getfield 106) 4 := ⟨by decide +kernel, rfl⟩
theorem d_X11_needsTold_4 : dec 1 cX11_needsTold 4 (.iconst 3) 5 := ⟨by decide +kernel, rfl⟩
theorem d_X11_needsTold_5 : decB cX11_needsTold 5 (.if_icmp .eq 8) (8) 8 13 := ⟨by decide +kernel, rfl, by decide⟩
theorem d_X11_needsTold_8 : decAL cX11_needsTold 8 0 9 := Or.inr ⟨0, rfl, by decide +kernel, rfl⟩
theorem d_X11_needsTold_9 : dec 3 cX11_needsTold 9 (.invokevirtual 149) 12 := ⟨by decide +kernel, rfl⟩
theorem d_X11_needsTold_12 : dec 1 cX11_needsTold 12 .ireturn 13 := ⟨by decide +kernel, rfl⟩
theorem d_X11_needsTold_13 : decAL cX11_needsTold 13 0 14 := Or.inr ⟨0, rfl, by decide +kernel, rfl⟩
theorem d_X11_needsTold_14 : dec 3 cX11_needsTold 14 (.getfield 106) 17 := ⟨by decide +kernel, rfl⟩
theorem d_X11_needsTold_17 : dec 1 cX11_needsTold 17 (.iconst 3) 18 := ⟨by decide +kernel, rfl⟩
theorem d_X11_needsTold_18 : decB cX11_needsTold 18 (.if_icmp .ne 11) (11) 21 29 := ⟨by decide +kernel, rfl, by decide⟩
theorem d_X11_needsTold_21 : decAL cX11_needsTold 21 0 22 := Or.inr ⟨0, rfl, by decide +kernel, rfl⟩
theorem d_X11_needsTold_22 : decIL cX11_needsTold 22 1 23 := Or.inr ⟨1, rfl, by decide +kernel, rfl⟩
theorem d_X11_needsTold_23 : dec 3 cX11_needsTold 23 (.invokevirtual 153) 26 := ⟨by decide +kernel, rfl⟩
theorem d_X11_needsTold_26 : decB cX11_needsTold 26 (.goto (-13)) (-13) 29 13 := ⟨by decide +kernel, rfl, by decide⟩
theorem d_X11_needsTold_29 : dec 1 cX11_needsTold 29 (.iconst 1) 30 := ⟨by decide +kernel, rfl⟩
theorem d_X11_needsTold_30 : dec 1 cX11_needsTold 30 .ireturn 31 := ⟨by decide +kernel, rfl⟩
def b_X11_needsTold_13 (F : Nat)   (v0 : Nat) (v1 : Int32) (rec13 : Nat → GH → Option (Int32 × Nat × GH)) : Nat → GH → Option (Int32 × Nat × GH) := fun  n G =>
  Option.bind (gI G v0 11 9) (fun (x2 : Int32) =>
  if x2 = (3 : Int32) then
  (cvU G v0 11 (f_X11_needHere F v0 v1 n G) (fun (n3 : Nat) (G4 : GH) =>
  rec13 n3 G4))
  else (rN .boolean (1 : Int32) n G))
def f_X11_needsTold (F : Nat)  (v0 : Nat) (v1 : Int32) (n : Nat) (G : GH) : Option (Int32 × Nat × GH) :=
  Option.bind (gI G v0 11 9) (fun (x1 : Int32) =>
  if x1 = (3 : Int32) then
  (fixN (fun _ _ => none) (b_X11_needsTold_13 F   v0 v1) F n G)
  else (cvI G v0 11 (f_X11_fails F v0 n G) (fun (x7 : Int32) (n5 : Nat) (G6 : GH) =>
  rN .boolean x7 n5 G6)))
set_option maxRecDepth 100000 in
set_option maxHeartbeats 4000000 in
theorem l_X11_needsTold_13 {E : GE} {F : Nat}   {v0 : Nat} {v1 : Int32}   : ∀ (K : Nat)  (n : Nat) (G : GH) (z : Int32 × Nat × GH), fixN ((fun _ _ => none) : Nat → GH → Option (Int32 × Nat × GH)) (b_X11_needsTold_13 F   v0 v1) K  n G = some z → WG E RX11 "needsTold" cX11_needsTold 2 (some .boolean) 3 65 0 0 13 [(0, .ref v0), (1, .int v1)] [] n G (g_O E (some (.int z.1), z.2.1, z.2.2)) := by
  intro K
  refine fixN_ind (P := fun (r : Nat → GH → Option (Int32 × Nat × GH)) => ∀  (n : Nat) (G : GH) (z : Int32 × Nat × GH), r  n G = some z → WG E RX11 "needsTold" cX11_needsTold 2 (some .boolean) 3 65 0 0 13 [(0, .ref v0), (1, .int v1)] [] n G (g_O E (some (.int z.1), z.2.1, z.2.2))) ?_ ?_ K
  · intro  n G z h
    cases h
  · intro rec13 hrec13  n G z h
    unfold b_X11_needsTold_13 at h
    refine r_aload d_X11_needsTold_13 rfl ?_
    refine r_getI h d_X11_needsTold_14 pf_X11_106 (fun x2 h => ?_)
    refine r_iconst d_X11_needsTold_17 ic_3 ?_
    refine r_icmp_ne h d_X11_needsTold_18 (fun h => ?_) (fun h => ?_)
    · refine r_iconst d_X11_needsTold_29 ic_1 ?_
      exact r_zret h d_X11_needsTold_30
    · refine r_aload d_X11_needsTold_21 rfl ?_
      refine r_iload d_X11_needsTold_22 rfl ?_
      refine r_invU [_] h (fun _ hq => s_X11_needHere hq) d_X11_needsTold_23 pl_X11_153 py_X11_needHere pi_X11_needHere rfl rfl rfl (fun n3 G4 h => ?_)
      refine r_goto d_X11_needsTold_26 ?_
      refine r_lv [(0, .ref v0), (1, .int v1)] (g_allc rfl (g_allc rfl g_alln)) ?_
      exact hrec13 _ _ _ h
set_option maxRecDepth 100000 in
set_option maxHeartbeats 4000000 in
theorem s_X11_needsTold {E : GE} {F : Nat}  {v0 : Nat} {v1 : Int32} {n : Nat} {G : GH} {z : Int32 × Nat × GH}  (h : f_X11_needsTold F  v0 v1 n G = some z) : GM E yX11_needsTold cX11_needsTold 2 (some .boolean) 3 65 0 0 [.ref v0, .int v1] n G (some (.int z.1), z.2.1, z.2.2) := by
  refine GM.of (by decide) (Nat.le_of_ble_eq_true rfl) ?_
  show WG E RX11 "needsTold" cX11_needsTold 2 (some .boolean) 3 65 0 0 0 [(0, .ref v0), (1, .int v1)] [] n G (g_O E (some (.int z.1), z.2.1, z.2.2))
  unfold f_X11_needsTold at h
  refine r_aload d_X11_needsTold_0 rfl ?_
  refine r_getI h d_X11_needsTold_1 pf_X11_106 (fun x1 h => ?_)
  refine r_iconst d_X11_needsTold_4 ic_3 ?_
  refine r_icmp_eq h d_X11_needsTold_5 (fun h => ?_) (fun h => ?_)
  · refine r_lv [(0, .ref v0), (1, .int v1)] (g_allc rfl (g_allc rfl g_alln)) ?_
    exact l_X11_needsTold_13   _ _ _ _ h
  · refine r_aload d_X11_needsTold_8 rfl ?_
    refine r_invI [] h (fun _ hq => s_X11_fails hq) d_X11_needsTold_9 pl_X11_149 py_X11_fails pi_X11_fails rfl rfl rfl (fun x7 n5 G6 h => ?_)
    exact r_zret h d_X11_needsTold_12
/-! X11_clause -/
theorem cl_X11_157 : Cond.constantLong RX11 157 (1818327673) ∈ g_tbl := g_in 1316 (by decide +kernel) rfl
theorem py_X11_isWord : pY yX11_isWord cX11_isWord 3 (some .boolean) 1 := ⟨g_in 1289 (by decide +kernel) rfl, g_in 104 (by decide +kernel) rfl, by decide, by decide, by decide +kernel⟩
theorem pi_X11_isWord : pI yX11_isWord 11 := ⟨g_in 1288 (by decide +kernel) rfl, g_in 41 (by decide +kernel) rfl, (RX11, TX11, 37), rfl, rfl⟩
theorem pl_X11_159 : pL RX11 159 yX11_isWord := Or.inl (g_in 1286 (by decide +kernel) rfl)
theorem py_X11_needsTold : pY yX11_needsTold cX11_needsTold 2 (some .boolean) 1 := ⟨g_in 1321 (by decide +kernel) rfl, g_in 104 (by decide +kernel) rfl, by decide, by decide, by decide +kernel⟩
theorem pi_X11_needsTold : pI yX11_needsTold 11 := ⟨g_in 1320 (by decide +kernel) rfl, g_in 47 (by decide +kernel) rfl, (RX11, TX11, 37), rfl, rfl⟩
theorem pl_X11_165 : pL RX11 165 yX11_needsTold := Or.inl (g_in 1318 (by decide +kernel) rfl)
theorem cl_X11_163 : Cond.constantLong RX11 163 (474147546227) ∈ g_tbl := g_in 1317 (by decide +kernel) rfl
theorem cl_X11_169 : Cond.constantLong RX11 169 (1936744814) ∈ g_tbl := g_in 1326 (by decide +kernel) rfl
theorem cl_X11_174 : Cond.constantLong RX11 174 (108243466677107) ∈ g_tbl := g_in 1334 (by decide +kernel) rfl
theorem cl_X11_176 : Cond.constantLong RX11 176 (6447460) ∈ g_tbl := g_in 1335 (by decide +kernel) rfl
theorem py_X11_spanHere : pY yX11_spanHere cX11_spanHere 1 (some .int) 0 := ⟨g_in 1330 (by decide +kernel) rfl, g_in 104 (by decide +kernel) rfl, by decide, by decide, by decide +kernel⟩
theorem pi_X11_spanHere : pI yX11_spanHere 11 := ⟨g_in 1329 (by decide +kernel) rfl, g_in 49 (by decide +kernel) rfl, (RX11, TX11, 37), rfl, rfl⟩
theorem pl_X11_171 : pL RX11 171 yX11_spanHere := Or.inl (g_in 1327 (by decide +kernel) rfl)
theorem d_X11_clause_0 : decAL cX11_clause 0 0 1 := Or.inr ⟨0, rfl, by decide +kernel, rfl⟩
theorem d_X11_clause_1 : dec 3 cX11_clause 1 (.ldc2_w 157) 4 := ⟨by decide +kernel, rfl⟩
theorem d_X11_clause_4 : dec 3 cX11_clause 4 (.invokevirtual 159) 7 := ⟨by decide +kernel, rfl⟩
theorem d_X11_clause_7 : decIS cX11_clause 7 1 8 := Or.inr ⟨1, rfl, by decide +kernel, rfl⟩
theorem d_X11_clause_8 : decIL cX11_clause 8 1 9 := Or.inr ⟨1, rfl, by decide +kernel, rfl⟩
theorem d_X11_clause_9 : decB cX11_clause 9 (.ifCond .ne 13) (13) 12 22 := ⟨by decide +kernel, rfl, by decide⟩
theorem d_X11_clause_12 : decAL cX11_clause 12 0 13 := Or.inr ⟨0, rfl, by decide +kernel, rfl⟩
theorem d_X11_clause_13 : dec 3 cX11_clause 13 (.ldc2_w 163) 16 := ⟨by decide +kernel, rfl⟩
theorem d_X11_clause_16 : dec 3 cX11_clause 16 (.invokevirtual 159) 19 := ⟨by decide +kernel, rfl⟩
theorem d_X11_clause_19 : decB cX11_clause 19 (.ifCond .eq 13) (13) 22 32 := ⟨by decide +kernel, rfl, by decide⟩
theorem d_X11_clause_22 : decAL cX11_clause 22 0 23 := Or.inr ⟨0, rfl, by decide +kernel, rfl⟩
theorem d_X11_clause_23 : dec 3 cX11_clause 23 (.invokevirtual 146) 26 := ⟨by decide +kernel, rfl⟩
theorem d_X11_clause_26 : decAL cX11_clause 26 0 27 := Or.inr ⟨0, rfl, by decide +kernel, rfl⟩
theorem d_X11_clause_27 : decIL cX11_clause 27 1 28 := Or.inr ⟨1, rfl, by decide +kernel, rfl⟩
theorem d_X11_clause_28 : dec 3 cX11_clause 28 (.invokevirtual 165) 31 := ⟨by decide +kernel, rfl⟩
theorem d_X11_clause_31 : dec 1 cX11_clause 31 .ireturn 32 := ⟨by decide +kernel, rfl⟩
theorem d_X11_clause_32 : decAL cX11_clause 32 0 33 := Or.inr ⟨0, rfl, by decide +kernel, rfl⟩
theorem d_X11_clause_33 : dec 3 cX11_clause 33 (.ldc2_w 169) 36 := ⟨by decide +kernel, rfl⟩
theorem d_X11_clause_36 : dec 3 cX11_clause 36 (.invokevirtual 159) 39 := ⟨by decide +kernel, rfl⟩
theorem d_X11_clause_39 : decB cX11_clause 39 (.ifCond .eq 40) (40) 42 79 := ⟨by decide +kernel, rfl, by decide⟩
theorem d_X11_clause_42 : decAL cX11_clause 42 0 43 := Or.inr ⟨0, rfl, by decide +kernel, rfl⟩
theorem d_X11_clause_43 : dec 3 cX11_clause 43 (.invokevirtual 146) 46 := ⟨by decide +kernel, rfl⟩
theorem d_X11_clause_46 : decAL cX11_clause 46 0 47 := Or.inr ⟨0, rfl, by decide +kernel, rfl⟩
theorem d_X11_clause_47 : dec 3 cX11_clause 47 (.getfield 33) 50 := ⟨by decide +kernel, rfl⟩
theorem d_X11_clause_50 : dec 2 cX11_clause 50 (.bipush 8) 52 := ⟨by decide +kernel, rfl⟩
theorem d_X11_clause_52 : decAL cX11_clause 52 0 53 := Or.inr ⟨0, rfl, by decide +kernel, rfl⟩
theorem d_X11_clause_53 : dec 3 cX11_clause 53 (.invokevirtual 171) 56 := ⟨by decide +kernel, rfl⟩
theorem d_X11_clause_56 : dec 1 cX11_clause 56 .iastore 57 := ⟨by decide +kernel, rfl⟩
theorem d_X11_clause_57 : decAL cX11_clause 57 0 58 := Or.inr ⟨0, rfl, by decide +kernel, rfl⟩
theorem d_X11_clause_58 : dec 3 cX11_clause 58 (.getfield 33) 61 := ⟨by decide +kernel, rfl⟩
theorem d_X11_clause_61 : dec 2 cX11_clause 61 (.bipush 8) 63 := ⟨by decide +kernel, rfl⟩
theorem d_X11_clause_63 : dec 1 cX11_clause 63 .iaload 64 := ⟨by decide +kernel, rfl⟩
theorem d_X11_clause_64 : dec 1 cX11_clause 64 (.iconst (-1)) 65 := ⟨by decide +kernel, rfl⟩
theorem d_X11_clause_65 : decB cX11_clause 65 (.if_icmp .ne 8) (8) 68 73 := ⟨by decide +kernel, rfl, by decide⟩
theorem d_X11_clause_68 : decAL cX11_clause 68 0 69 := Or.inr ⟨0, rfl, by decide +kernel, rfl⟩
theorem d_X11_clause_69 : dec 3 cX11_clause 69 (.invokevirtual 149) 72 := ⟨by decide +kernel, rfl⟩
theorem d_X11_clause_72 : dec 1 cX11_clause 72 .ireturn 73 := ⟨by decide +kernel, rfl⟩
theorem d_X11_clause_73 : decAL cX11_clause 73 0 74 := Or.inr ⟨0, rfl, by decide +kernel, rfl⟩
theorem d_X11_clause_74 : dec 3 cX11_clause 74 (.invokevirtual 146) 77 := ⟨by decide +kernel, rfl⟩
theorem d_X11_clause_77 : dec 1 cX11_clause 77 (.iconst 1) 78 := ⟨by decide +kernel, rfl⟩
theorem d_X11_clause_78 : dec 1 cX11_clause 78 .ireturn 79 := ⟨by decide +kernel, rfl⟩
theorem d_X11_clause_79 : decAL cX11_clause 79 0 80 := Or.inr ⟨0, rfl, by decide +kernel, rfl⟩
theorem d_X11_clause_80 : dec 3 cX11_clause 80 (.ldc2_w 174) 83 := ⟨by decide +kernel, rfl⟩
theorem d_X11_clause_83 : dec 3 cX11_clause 83 (.invokevirtual 159) 86 := ⟨by decide +kernel, rfl⟩
theorem d_X11_clause_86 : decB cX11_clause 86 (.ifCond .eq 55) (55) 89 141 := ⟨by decide +kernel, rfl, by decide⟩
theorem d_X11_clause_89 : decAL cX11_clause 89 0 90 := Or.inr ⟨0, rfl, by decide +kernel, rfl⟩
theorem d_X11_clause_90 : dec 3 cX11_clause 90 (.invokevirtual 146) 93 := ⟨by decide +kernel, rfl⟩
theorem d_X11_clause_93 : decAL cX11_clause 93 0 94 := Or.inr ⟨0, rfl, by decide +kernel, rfl⟩
theorem d_X11_clause_94 : dec 3 cX11_clause 94 (.getfield 106) 97 := ⟨by decide +kernel, rfl⟩
theorem d_X11_clause_97 : dec 1 cX11_clause 97 (.iconst 3) 98 := ⟨by decide +kernel, rfl⟩
theorem d_X11_clause_98 : decB cX11_clause 98 (.if_icmp .eq 8) (8) 101 106 := ⟨by decide +kernel, rfl, by decide⟩
theorem d_X11_clause_101 : decAL cX11_clause 101 0 102 := Or.inr ⟨0, rfl, by decide +kernel, rfl⟩
theorem d_X11_clause_102 : dec 3 cX11_clause 102 (.invokevirtual 149) 105 := ⟨by decide +kernel, rfl⟩
theorem d_X11_clause_105 : dec 1 cX11_clause 105 .ireturn 106 := ⟨by decide +kernel, rfl⟩
theorem d_X11_clause_106 : decAL cX11_clause 106 0 107 := Or.inr ⟨0, rfl, by decide +kernel, rfl⟩
theorem d_X11_clause_107 : dec 3 cX11_clause 107 (.getfield 109) 110 := ⟨by decide +kernel, rfl⟩
theorem d_X11_clause_110 : dec 2 cX11_clause 110 (.bipush 9) 112 := ⟨by decide +kernel, rfl⟩
theorem d_X11_clause_112 : decB cX11_clause 112 (.if_icmp .le 12) (12) 115 124 := ⟨by decide +kernel, rfl, by decide⟩
theorem d_X11_clause_115 : decAL cX11_clause 115 0 116 := Or.inr ⟨0, rfl, by decide +kernel, rfl⟩
theorem d_X11_clause_116 : dec 1 cX11_clause 116 (.iconst 2) 117 := ⟨by decide +kernel, rfl⟩
theorem d_X11_clause_117 : decAL cX11_clause 117 0 118 := Or.inr ⟨0, rfl, by decide +kernel, rfl⟩
theorem d_X11_clause_118 : dec 3 cX11_clause 118 (.getfield 96) 121 := ⟨by decide +kernel, rfl⟩
theorem d_X11_clause_121 : dec 3 cX11_clause 121 (.invokevirtual 139) 124 := ⟨by decide +kernel, rfl⟩
theorem d_X11_clause_124 : decAL cX11_clause 124 0 125 := Or.inr ⟨0, rfl, by decide +kernel, rfl⟩
theorem d_X11_clause_125 : dec 3 cX11_clause 125 (.getfield 33) 128 := ⟨by decide +kernel, rfl⟩
theorem d_X11_clause_128 : dec 2 cX11_clause 128 (.bipush 9) 130 := ⟨by decide +kernel, rfl⟩
theorem d_X11_clause_130 : decAL cX11_clause 130 0 131 := Or.inr ⟨0, rfl, by decide +kernel, rfl⟩
theorem d_X11_clause_131 : dec 3 cX11_clause 131 (.getfield 109) 134 := ⟨by decide +kernel, rfl⟩
theorem d_X11_clause_134 : dec 1 cX11_clause 134 .iastore 135 := ⟨by decide +kernel, rfl⟩
theorem d_X11_clause_135 : decAL cX11_clause 135 0 136 := Or.inr ⟨0, rfl, by decide +kernel, rfl⟩
theorem d_X11_clause_136 : dec 3 cX11_clause 136 (.invokevirtual 146) 139 := ⟨by decide +kernel, rfl⟩
theorem d_X11_clause_139 : dec 1 cX11_clause 139 (.iconst 1) 140 := ⟨by decide +kernel, rfl⟩
theorem d_X11_clause_140 : dec 1 cX11_clause 140 .ireturn 141 := ⟨by decide +kernel, rfl⟩
theorem d_X11_clause_141 : decAL cX11_clause 141 0 142 := Or.inr ⟨0, rfl, by decide +kernel, rfl⟩
theorem d_X11_clause_142 : dec 3 cX11_clause 142 (.ldc2_w 176) 145 := ⟨by decide +kernel, rfl⟩
theorem d_X11_clause_145 : dec 3 cX11_clause 145 (.invokevirtual 159) 148 := ⟨by decide +kernel, rfl⟩
theorem d_X11_clause_148 : decB cX11_clause 148 (.ifCond .ne 8) (8) 151 156 := ⟨by decide +kernel, rfl, by decide⟩
theorem d_X11_clause_151 : decAL cX11_clause 151 0 152 := Or.inr ⟨0, rfl, by decide +kernel, rfl⟩
theorem d_X11_clause_152 : dec 3 cX11_clause 152 (.invokevirtual 149) 155 := ⟨by decide +kernel, rfl⟩
theorem d_X11_clause_155 : dec 1 cX11_clause 155 .ireturn 156 := ⟨by decide +kernel, rfl⟩
theorem d_X11_clause_156 : decAL cX11_clause 156 0 157 := Or.inr ⟨0, rfl, by decide +kernel, rfl⟩
theorem d_X11_clause_157 : dec 3 cX11_clause 157 (.getfield 33) 160 := ⟨by decide +kernel, rfl⟩
theorem d_X11_clause_160 : dec 2 cX11_clause 160 (.bipush 10) 162 := ⟨by decide +kernel, rfl⟩
theorem d_X11_clause_162 : dec 1 cX11_clause 162 (.iconst 1) 163 := ⟨by decide +kernel, rfl⟩
theorem d_X11_clause_163 : dec 1 cX11_clause 163 .iastore 164 := ⟨by decide +kernel, rfl⟩
theorem d_X11_clause_164 : decAL cX11_clause 164 0 165 := Or.inr ⟨0, rfl, by decide +kernel, rfl⟩
theorem d_X11_clause_165 : dec 3 cX11_clause 165 (.invokevirtual 146) 168 := ⟨by decide +kernel, rfl⟩
theorem d_X11_clause_168 : dec 1 cX11_clause 168 (.iconst 1) 169 := ⟨by decide +kernel, rfl⟩
theorem d_X11_clause_169 : dec 1 cX11_clause 169 .ireturn 170 := ⟨by decide +kernel, rfl⟩
def k_X11_clause_124 (F : Nat)   (v0 : Nat)  (n : Nat) (G : GH) : Option (Int32 × Nat × GH) :=
  Option.bind (gR G v0 11 20) (fun (x22 : Nat) =>
  Option.bind (gI G v0 11 11) (fun (x23 : Int32) =>
  Option.bind (aS G x22 0 (9 : Int32) x23) (fun (G24 : GH) =>
  cvU G24 v0 11 (f_X11_token F v0 n G24) (fun (n25 : Nat) (G26 : GH) =>
  rN .boolean (1 : Int32) n25 G26))))
def f_X11_clause (F : Nat)  (v0 : Nat) (n : Nat) (G : GH) : Option (Int32 × Nat × GH) :=
  cvP G v0 11 (f_X11_isWord F v0 (1818327673 : Int64) G) (fun (x1 : Int32) =>
  if x1 = 0 then
  (cvP G v0 11 (f_X11_isWord F v0 (474147546227 : Int64) G) (fun (x7 : Int32) =>
  if x7 = 0 then
  (cvP G v0 11 (f_X11_isWord F v0 (1936744814 : Int64) G) (fun (x8 : Int32) =>
  if x8 = 0 then
  (cvP G v0 11 (f_X11_isWord F v0 (108243466677107 : Int64) G) (fun (x9 : Int32) =>
  if x9 = 0 then
  (cvP G v0 11 (f_X11_isWord F v0 (6447460 : Int64) G) (fun (x10 : Int32) =>
  if x10 = 0 then
  (cvI G v0 11 (f_X11_fails F v0 n G) (fun (x17 : Int32) (n15 : Nat) (G16 : GH) =>
  rN .boolean x17 n15 G16))
  else (Option.bind (gR G v0 11 20) (fun (x11 : Nat) =>
  Option.bind (aS G x11 0 (10 : Int32) (1 : Int32)) (fun (G12 : GH) =>
  cvU G12 v0 11 (f_X11_token F v0 n G12) (fun (n13 : Nat) (G14 : GH) =>
  rN .boolean (1 : Int32) n13 G14))))))
  else (cvU G v0 11 (f_X11_token F v0 n G) (fun (n18 : Nat) (G19 : GH) =>
  Option.bind (gI G19 v0 11 9) (fun (x20 : Int32) =>
  if x20 = (3 : Int32) then
  (Option.bind (gI G19 v0 11 11) (fun (x21 : Int32) =>
  if x21 ≤ (9 : Int32) then
  (k_X11_clause_124 F   v0 n18 G19)
  else (Option.bind (gI G19 v0 11 8) (fun (x27 : Int32) =>
  cvU G19 v0 11 (f_X11_isBad F v0 (2 : Int32) x27 n18 G19) (fun (n28 : Nat) (G29 : GH) =>
  k_X11_clause_124 F   v0 n28 G29)))))
  else (cvI G19 v0 11 (f_X11_fails F v0 n18 G19) (fun (x32 : Int32) (n30 : Nat) (G31 : GH) =>
  rN .boolean x32 n30 G31)))))))
  else (cvU G v0 11 (f_X11_token F v0 n G) (fun (n33 : Nat) (G34 : GH) =>
  Option.bind (gR G34 v0 11 20) (fun (x35 : Nat) =>
  cvP G34 v0 11 (f_X11_spanHere F v0 G34) (fun (x36 : Int32) =>
  Option.bind (aS G34 x35 0 (8 : Int32) x36) (fun (G37 : GH) =>
  Option.bind (gR G37 v0 11 20) (fun (x38 : Nat) =>
  Option.bind (aI G37 x38 0 (8 : Int32)) (fun (x39 : Int32) =>
  if x39 = (-1 : Int32) then
  (cvI G37 v0 11 (f_X11_fails F v0 n33 G37) (fun (x44 : Int32) (n42 : Nat) (G43 : GH) =>
  rN .boolean x44 n42 G43))
  else (cvU G37 v0 11 (f_X11_token F v0 n33 G37) (fun (n40 : Nat) (G41 : GH) =>
  rN .boolean (1 : Int32) n40 G41)))))))))))
  else (cvU G v0 11 (f_X11_token F v0 n G) (fun (n45 : Nat) (G46 : GH) =>
  cvI G46 v0 11 (f_X11_needsTold F v0 x1 n45 G46) (fun (x49 : Int32) (n47 : Nat) (G48 : GH) =>
  rN .boolean x49 n47 G48)))))
  else (cvU G v0 11 (f_X11_token F v0 n G) (fun (n2 : Nat) (G3 : GH) =>
  cvI G3 v0 11 (f_X11_needsTold F v0 x1 n2 G3) (fun (x6 : Int32) (n4 : Nat) (G5 : GH) =>
  rN .boolean x6 n4 G5))))
set_option maxRecDepth 100000 in
set_option maxHeartbeats 4000000 in
theorem c_X11_clause_124 {E : GE} {F : Nat}   {v0 : Nat}  {n : Nat} {G : GH} {z : Int32 × Nat × GH}   (h : k_X11_clause_124 F   v0  n G = some z) : WG E RX11 "clause" cX11_clause 2 (some .boolean) 4 86 0 0 124 [(0, .ref v0)] [] n G (g_O E (some (.int z.1), z.2.1, z.2.2)) := by
  unfold k_X11_clause_124 at h
  refine r_aload d_X11_clause_124 rfl ?_
  refine r_getR h d_X11_clause_125 pf_X11_33 (fun x22 h => ?_)
  refine r_bipush d_X11_clause_128 bp_9 ?_
  refine r_aload d_X11_clause_130 rfl ?_
  refine r_getI h d_X11_clause_131 pf_X11_109 (fun x23 h => ?_)
  refine r_iast h d_X11_clause_134 (fun G24 h => ?_)
  refine r_aload d_X11_clause_135 rfl ?_
  refine r_invU [] h (fun _ hq => s_X11_token hq) d_X11_clause_136 pl_X11_146 py_X11_token pi_X11_token rfl rfl rfl (fun n25 G26 h => ?_)
  refine r_iconst d_X11_clause_139 ic_1 ?_
  exact r_zret h d_X11_clause_140
set_option maxRecDepth 100000 in
set_option maxHeartbeats 4000000 in
theorem s_X11_clause {E : GE} {F : Nat}  {v0 : Nat} {n : Nat} {G : GH} {z : Int32 × Nat × GH}  (h : f_X11_clause F  v0 n G = some z) : GM E yX11_clause cX11_clause 2 (some .boolean) 4 86 0 0 [.ref v0] n G (some (.int z.1), z.2.1, z.2.2) := by
  refine GM.of (by decide) (Nat.le_of_ble_eq_true rfl) ?_
  show WG E RX11 "clause" cX11_clause 2 (some .boolean) 4 86 0 0 0 [(0, .ref v0)] [] n G (g_O E (some (.int z.1), z.2.1, z.2.2))
  unfold f_X11_clause at h
  refine r_aload d_X11_clause_0 rfl ?_
  refine r_ldc2 d_X11_clause_1 cl_X11_157 ?_
  refine r_invP [_] h (fun _ hq => s_X11_isWord hq) d_X11_clause_4 pl_X11_159 py_X11_isWord pi_X11_isWord rfl rfl rfl (fun x1 h => ?_)
  refine r_istore d_X11_clause_7 rfl rfl ?_
  refine r_iload d_X11_clause_8 rfl ?_
  refine r_if_ne h d_X11_clause_9 (fun h => ?_) (fun h => ?_)
  · refine r_aload d_X11_clause_22 rfl ?_
    refine r_invU [] h (fun _ hq => s_X11_token hq) d_X11_clause_23 pl_X11_146 py_X11_token pi_X11_token rfl rfl rfl (fun n2 G3 h => ?_)
    refine r_aload d_X11_clause_26 rfl ?_
    refine r_iload d_X11_clause_27 rfl ?_
    refine r_invI [_] h (fun _ hq => s_X11_needsTold hq) d_X11_clause_28 pl_X11_165 py_X11_needsTold pi_X11_needsTold rfl rfl rfl (fun x6 n4 G5 h => ?_)
    exact r_zret h d_X11_clause_31
  · refine r_aload d_X11_clause_12 rfl ?_
    refine r_ldc2 d_X11_clause_13 cl_X11_163 ?_
    refine r_invP [_] h (fun _ hq => s_X11_isWord hq) d_X11_clause_16 pl_X11_159 py_X11_isWord pi_X11_isWord rfl rfl rfl (fun x7 h => ?_)
    refine r_if_eq h d_X11_clause_19 (fun h => ?_) (fun h => ?_)
    · refine r_aload d_X11_clause_32 rfl ?_
      refine r_ldc2 d_X11_clause_33 cl_X11_169 ?_
      refine r_invP [_] h (fun _ hq => s_X11_isWord hq) d_X11_clause_36 pl_X11_159 py_X11_isWord pi_X11_isWord rfl rfl rfl (fun x8 h => ?_)
      refine r_if_eq h d_X11_clause_39 (fun h => ?_) (fun h => ?_)
      · refine r_aload d_X11_clause_79 rfl ?_
        refine r_ldc2 d_X11_clause_80 cl_X11_174 ?_
        refine r_invP [_] h (fun _ hq => s_X11_isWord hq) d_X11_clause_83 pl_X11_159 py_X11_isWord pi_X11_isWord rfl rfl rfl (fun x9 h => ?_)
        refine r_if_eq h d_X11_clause_86 (fun h => ?_) (fun h => ?_)
        · refine r_aload d_X11_clause_141 rfl ?_
          refine r_ldc2 d_X11_clause_142 cl_X11_176 ?_
          refine r_invP [_] h (fun _ hq => s_X11_isWord hq) d_X11_clause_145 pl_X11_159 py_X11_isWord pi_X11_isWord rfl rfl rfl (fun x10 h => ?_)
          refine r_if_ne h d_X11_clause_148 (fun h => ?_) (fun h => ?_)
          · refine r_aload d_X11_clause_156 rfl ?_
            refine r_getR h d_X11_clause_157 pf_X11_33 (fun x11 h => ?_)
            refine r_bipush d_X11_clause_160 bp_10 ?_
            refine r_iconst d_X11_clause_162 ic_1 ?_
            refine r_iast h d_X11_clause_163 (fun G12 h => ?_)
            refine r_aload d_X11_clause_164 rfl ?_
            refine r_invU [] h (fun _ hq => s_X11_token hq) d_X11_clause_165 pl_X11_146 py_X11_token pi_X11_token rfl rfl rfl (fun n13 G14 h => ?_)
            refine r_iconst d_X11_clause_168 ic_1 ?_
            exact r_zret h d_X11_clause_169
          · refine r_aload d_X11_clause_151 rfl ?_
            refine r_invI [] h (fun _ hq => s_X11_fails hq) d_X11_clause_152 pl_X11_149 py_X11_fails pi_X11_fails rfl rfl rfl (fun x17 n15 G16 h => ?_)
            exact r_zret h d_X11_clause_155
        · refine r_aload d_X11_clause_89 rfl ?_
          refine r_invU [] h (fun _ hq => s_X11_token hq) d_X11_clause_90 pl_X11_146 py_X11_token pi_X11_token rfl rfl rfl (fun n18 G19 h => ?_)
          refine r_aload d_X11_clause_93 rfl ?_
          refine r_getI h d_X11_clause_94 pf_X11_106 (fun x20 h => ?_)
          refine r_iconst d_X11_clause_97 ic_3 ?_
          refine r_icmp_eq h d_X11_clause_98 (fun h => ?_) (fun h => ?_)
          · refine r_aload d_X11_clause_106 rfl ?_
            refine r_getI h d_X11_clause_107 pf_X11_109 (fun x21 h => ?_)
            refine r_bipush d_X11_clause_110 bp_9 ?_
            refine r_icmp_le h d_X11_clause_112 (fun h => ?_) (fun h => ?_)
            · refine r_lv [(0, .ref v0)] (g_allc rfl g_alln) ?_
              exact c_X11_clause_124   h
            · refine r_aload d_X11_clause_115 rfl ?_
              refine r_iconst d_X11_clause_116 ic_2 ?_
              refine r_aload d_X11_clause_117 rfl ?_
              refine r_getI h d_X11_clause_118 pf_X11_96 (fun x27 h => ?_)
              refine r_invU [_, _] h (fun _ hq => s_X11_isBad hq) d_X11_clause_121 pl_X11_139 py_X11_isBad pi_X11_isBad rfl rfl rfl (fun n28 G29 h => ?_)
              refine r_lv [(0, .ref v0)] (g_allc rfl g_alln) ?_
              exact c_X11_clause_124   h
          · refine r_aload d_X11_clause_101 rfl ?_
            refine r_invI [] h (fun _ hq => s_X11_fails hq) d_X11_clause_102 pl_X11_149 py_X11_fails pi_X11_fails rfl rfl rfl (fun x32 n30 G31 h => ?_)
            exact r_zret h d_X11_clause_105
      · refine r_aload d_X11_clause_42 rfl ?_
        refine r_invU [] h (fun _ hq => s_X11_token hq) d_X11_clause_43 pl_X11_146 py_X11_token pi_X11_token rfl rfl rfl (fun n33 G34 h => ?_)
        refine r_aload d_X11_clause_46 rfl ?_
        refine r_getR h d_X11_clause_47 pf_X11_33 (fun x35 h => ?_)
        refine r_bipush d_X11_clause_50 bp_8 ?_
        refine r_aload d_X11_clause_52 rfl ?_
        refine r_invP [] h (fun _ hq => s_X11_spanHere hq) d_X11_clause_53 pl_X11_171 py_X11_spanHere pi_X11_spanHere rfl rfl rfl (fun x36 h => ?_)
        refine r_iast h d_X11_clause_56 (fun G37 h => ?_)
        refine r_aload d_X11_clause_57 rfl ?_
        refine r_getR h d_X11_clause_58 pf_X11_33 (fun x38 h => ?_)
        refine r_bipush d_X11_clause_61 bp_8 ?_
        refine r_iald h d_X11_clause_63 (fun x39 h => ?_)
        refine r_iconst d_X11_clause_64 ic_m1 ?_
        refine r_icmp_ne h d_X11_clause_65 (fun h => ?_) (fun h => ?_)
        · refine r_aload d_X11_clause_73 rfl ?_
          refine r_invU [] h (fun _ hq => s_X11_token hq) d_X11_clause_74 pl_X11_146 py_X11_token pi_X11_token rfl rfl rfl (fun n40 G41 h => ?_)
          refine r_iconst d_X11_clause_77 ic_1 ?_
          exact r_zret h d_X11_clause_78
        · refine r_aload d_X11_clause_68 rfl ?_
          refine r_invI [] h (fun _ hq => s_X11_fails hq) d_X11_clause_69 pl_X11_149 py_X11_fails pi_X11_fails rfl rfl rfl (fun x44 n42 G43 h => ?_)
          exact r_zret h d_X11_clause_72
    · refine r_aload d_X11_clause_22 rfl ?_
      refine r_invU [] h (fun _ hq => s_X11_token hq) d_X11_clause_23 pl_X11_146 py_X11_token pi_X11_token rfl rfl rfl (fun n45 G46 h => ?_)
      refine r_aload d_X11_clause_26 rfl ?_
      refine r_iload d_X11_clause_27 rfl ?_
      refine r_invI [_] h (fun _ hq => s_X11_needsTold hq) d_X11_clause_28 pl_X11_165 py_X11_needsTold pi_X11_needsTold rfl rfl rfl (fun x49 n47 G48 h => ?_)
      exact r_zret h d_X11_clause_31
/-! X11_line -/
theorem cl_X11_178 : Cond.constantLong RX11 178 (1885434484) ∈ g_tbl := g_in 1285 (by decide +kernel) rfl
theorem pf_X11_24 : pF RX11 24 11 16 := ⟨RX11, TX11, 37, rfl, by decide, rfl, Or.inl (g_in 1161 (by decide +kernel) rfl)⟩
theorem py_X11_actHere : pY yX11_actHere cX11_actHere 1 (some .int) 0 := ⟨g_in 1301 (by decide +kernel) rfl, g_in 104 (by decide +kernel) rfl, by decide, by decide, by decide +kernel⟩
theorem pi_X11_actHere : pI yX11_actHere 11 := ⟨g_in 1300 (by decide +kernel) rfl, g_in 44 (by decide +kernel) rfl, (RX11, TX11, 37), rfl, rfl⟩
theorem pl_X11_180 : pL RX11 180 yX11_actHere := Or.inl (g_in 1298 (by decide +kernel) rfl)
theorem py_X11_isSign : pY yX11_isSign cX11_isSign 2 (some .boolean) 1 := ⟨g_in 1311 (by decide +kernel) rfl, g_in 104 (by decide +kernel) rfl, by decide, by decide, by decide +kernel⟩
theorem pi_X11_isSign : pI yX11_isSign 11 := ⟨g_in 1310 (by decide +kernel) rfl, g_in 45 (by decide +kernel) rfl, (RX11, TX11, 37), rfl, rfl⟩
theorem pl_X11_183 : pL RX11 183 yX11_isSign := Or.inl (g_in 1308 (by decide +kernel) rfl)
theorem py_X11_clause : pY yX11_clause cX11_clause 2 (some .boolean) 0 := ⟨g_in 1315 (by decide +kernel) rfl, g_in 104 (by decide +kernel) rfl, by decide, by decide, by decide +kernel⟩
theorem pi_X11_clause : pI yX11_clause 11 := ⟨g_in 1314 (by decide +kernel) rfl, g_in 46 (by decide +kernel) rfl, (RX11, TX11, 37), rfl, rfl⟩
theorem pl_X11_187 : pL RX11 187 yX11_clause := Or.inl (g_in 1312 (by decide +kernel) rfl)
theorem d_X11_line_0 : decAL cX11_line 0 0 1 := Or.inr ⟨0, rfl, by decide +kernel, rfl⟩
theorem d_X11_line_1 : dec 3 cX11_line 1 (.ldc2_w 178) 4 := ⟨by decide +kernel, rfl⟩
theorem d_X11_line_4 : dec 3 cX11_line 4 (.invokevirtual 159) 7 := ⟨by decide +kernel, rfl⟩
theorem d_X11_line_7 : decB cX11_line 7 (.ifCond .ne 8) (8) 10 15 := ⟨by decide +kernel, rfl, by decide⟩
theorem d_X11_line_10 : decAL cX11_line 10 0 11 := Or.inr ⟨0, rfl, by decide +kernel, rfl⟩
theorem d_X11_line_11 : dec 3 cX11_line 11 (.invokevirtual 149) 14 := ⟨by decide +kernel, rfl⟩
theorem d_X11_line_14 : dec 1 cX11_line 14 .ireturn 15 := ⟨by decide +kernel, rfl⟩
theorem d_X11_line_15 : decAL cX11_line 15 0 16 := Or.inr ⟨0, rfl, by decide +kernel, rfl⟩
theorem d_X11_line_16 : dec 3 cX11_line 16 (.getfield 24) 19 := ⟨by decide +kernel, rfl⟩
theorem d_X11_line_19 : dec 1 cX11_line 19 (.iconst 0) 20 := ⟨by decide +kernel, rfl⟩
theorem d_X11_line_20 : dec 1 cX11_line 20 .iaload 21 := ⟨by decide +kernel, rfl⟩
theorem d_X11_line_21 : dec 2 cX11_line 21 (.bipush 12) 23 := ⟨by decide +kernel, rfl⟩
theorem d_X11_line_23 : decB cX11_line 23 (.if_icmp .ge 7) (7) 26 30 := ⟨by decide +kernel, rfl, by decide⟩
theorem d_X11_line_26 : dec 1 cX11_line 26 (.iconst 1) 27 := ⟨by decide +kernel, rfl⟩
theorem d_X11_line_27 : decB cX11_line 27 (.goto 4) (4) 30 31 := ⟨by decide +kernel, rfl, by decide⟩
theorem d_X11_line_30 : dec 1 cX11_line 30 (.iconst 0) 31 := ⟨by decide +kernel, rfl⟩
theorem d_X11_line_31 : decIS cX11_line 31 1 32 := Or.inr ⟨1, rfl, by decide +kernel, rfl⟩
theorem d_X11_line_32 : decIL cX11_line 32 1 33 := Or.inr ⟨1, rfl, by decide +kernel, rfl⟩
theorem d_X11_line_33 : decB cX11_line 33 (.ifCond .ne 12) (12) 36 45 := ⟨by decide +kernel, rfl, by decide⟩
theorem d_X11_line_36 : decAL cX11_line 36 0 37 := Or.inr ⟨0, rfl, by decide +kernel, rfl⟩
theorem d_X11_line_37 : dec 1 cX11_line 37 (.iconst 4) 38 := ⟨by decide +kernel, rfl⟩
theorem d_X11_line_38 : decAL cX11_line 38 0 39 := Or.inr ⟨0, rfl, by decide +kernel, rfl⟩
theorem d_X11_line_39 : dec 3 cX11_line 39 (.getfield 96) 42 := ⟨by decide +kernel, rfl⟩
theorem d_X11_line_42 : dec 3 cX11_line 42 (.invokevirtual 139) 45 := ⟨by decide +kernel, rfl⟩
theorem d_X11_line_45 : decAL cX11_line 45 0 46 := Or.inr ⟨0, rfl, by decide +kernel, rfl⟩
theorem d_X11_line_46 : dec 3 cX11_line 46 (.invokevirtual 146) 49 := ⟨by decide +kernel, rfl⟩
theorem d_X11_line_49 : dec 1 cX11_line 49 (.iconst 0) 50 := ⟨by decide +kernel, rfl⟩
theorem d_X11_line_50 : decIS cX11_line 50 2 51 := Or.inr ⟨2, rfl, by decide +kernel, rfl⟩
theorem d_X11_line_51 : decIL cX11_line 51 2 52 := Or.inr ⟨2, rfl, by decide +kernel, rfl⟩
theorem d_X11_line_52 : dec 2 cX11_line 52 (.bipush 11) 54 := ⟨by decide +kernel, rfl⟩
theorem d_X11_line_54 : decB cX11_line 54 (.if_icmp .ge 16) (16) 57 70 := ⟨by decide +kernel, rfl, by decide⟩
theorem d_X11_line_57 : decAL cX11_line 57 0 58 := Or.inr ⟨0, rfl, by decide +kernel, rfl⟩
theorem d_X11_line_58 : dec 3 cX11_line 58 (.getfield 33) 61 := ⟨by decide +kernel, rfl⟩
theorem d_X11_line_61 : decIL cX11_line 61 2 62 := Or.inr ⟨2, rfl, by decide +kernel, rfl⟩
theorem d_X11_line_62 : dec 1 cX11_line 62 (.iconst 0) 63 := ⟨by decide +kernel, rfl⟩
theorem d_X11_line_63 : dec 1 cX11_line 63 .iastore 64 := ⟨by decide +kernel, rfl⟩
theorem d_X11_line_64 : dec 3 cX11_line 64 (.iinc 2 1) 67 := ⟨by decide +kernel, rfl⟩
theorem d_X11_line_67 : decB cX11_line 67 (.goto (-16)) (-16) 70 51 := ⟨by decide +kernel, rfl, by decide⟩
theorem d_X11_line_70 : decAL cX11_line 70 0 71 := Or.inr ⟨0, rfl, by decide +kernel, rfl⟩
theorem d_X11_line_71 : dec 3 cX11_line 71 (.getfield 33) 74 := ⟨by decide +kernel, rfl⟩
theorem d_X11_line_74 : dec 1 cX11_line 74 (.iconst 0) 75 := ⟨by decide +kernel, rfl⟩
theorem d_X11_line_75 : decAL cX11_line 75 0 76 := Or.inr ⟨0, rfl, by decide +kernel, rfl⟩
theorem d_X11_line_76 : dec 3 cX11_line 76 (.invokevirtual 180) 79 := ⟨by decide +kernel, rfl⟩
theorem d_X11_line_79 : dec 1 cX11_line 79 .iastore 80 := ⟨by decide +kernel, rfl⟩
theorem d_X11_line_80 : decAL cX11_line 80 0 81 := Or.inr ⟨0, rfl, by decide +kernel, rfl⟩
theorem d_X11_line_81 : dec 3 cX11_line 81 (.getfield 33) 84 := ⟨by decide +kernel, rfl⟩
theorem d_X11_line_84 : dec 1 cX11_line 84 (.iconst 0) 85 := ⟨by decide +kernel, rfl⟩
theorem d_X11_line_85 : dec 1 cX11_line 85 .iaload 86 := ⟨by decide +kernel, rfl⟩
theorem d_X11_line_86 : dec 1 cX11_line 86 (.iconst (-1)) 87 := ⟨by decide +kernel, rfl⟩
theorem d_X11_line_87 : decB cX11_line 87 (.if_icmp .ne 8) (8) 90 95 := ⟨by decide +kernel, rfl, by decide⟩
theorem d_X11_line_90 : decAL cX11_line 90 0 91 := Or.inr ⟨0, rfl, by decide +kernel, rfl⟩
theorem d_X11_line_91 : dec 3 cX11_line 91 (.invokevirtual 149) 94 := ⟨by decide +kernel, rfl⟩
theorem d_X11_line_94 : dec 1 cX11_line 94 .ireturn 95 := ⟨by decide +kernel, rfl⟩
theorem d_X11_line_95 : decAL cX11_line 95 0 96 := Or.inr ⟨0, rfl, by decide +kernel, rfl⟩
theorem d_X11_line_96 : dec 3 cX11_line 96 (.invokevirtual 146) 99 := ⟨by decide +kernel, rfl⟩
theorem d_X11_line_99 : decAL cX11_line 99 0 100 := Or.inr ⟨0, rfl, by decide +kernel, rfl⟩
theorem d_X11_line_100 : dec 2 cX11_line 100 (.bipush 45) 102 := ⟨by decide +kernel, rfl⟩
theorem d_X11_line_102 : dec 3 cX11_line 102 (.invokevirtual 183) 105 := ⟨by decide +kernel, rfl⟩
theorem d_X11_line_105 : decB cX11_line 105 (.ifCond .eq 7) (7) 108 112 := ⟨by decide +kernel, rfl, by decide⟩
theorem d_X11_line_108 : dec 1 cX11_line 108 (.iconst (-1)) 109 := ⟨by decide +kernel, rfl⟩
theorem d_X11_line_109 : decB cX11_line 109 (.goto 4) (4) 112 113 := ⟨by decide +kernel, rfl, by decide⟩
theorem d_X11_line_112 : dec 1 cX11_line 112 (.iconst 1) 113 := ⟨by decide +kernel, rfl⟩
theorem d_X11_line_113 : decIS cX11_line 113 2 114 := Or.inr ⟨2, rfl, by decide +kernel, rfl⟩
theorem d_X11_line_114 : decIL cX11_line 114 2 115 := Or.inr ⟨2, rfl, by decide +kernel, rfl⟩
theorem d_X11_line_115 : decB cX11_line 115 (.ifCond .ge 7) (7) 118 122 := ⟨by decide +kernel, rfl, by decide⟩
theorem d_X11_line_118 : decAL cX11_line 118 0 119 := Or.inr ⟨0, rfl, by decide +kernel, rfl⟩
theorem d_X11_line_119 : dec 3 cX11_line 119 (.invokevirtual 146) 122 := ⟨by decide +kernel, rfl⟩
theorem d_X11_line_122 : decAL cX11_line 122 0 123 := Or.inr ⟨0, rfl, by decide +kernel, rfl⟩
theorem d_X11_line_123 : dec 3 cX11_line 123 (.getfield 106) 126 := ⟨by decide +kernel, rfl⟩
theorem d_X11_line_126 : dec 1 cX11_line 126 (.iconst 3) 127 := ⟨by decide +kernel, rfl⟩
theorem d_X11_line_127 : decB cX11_line 127 (.if_icmp .eq 8) (8) 130 135 := ⟨by decide +kernel, rfl, by decide⟩
theorem d_X11_line_130 : decAL cX11_line 130 0 131 := Or.inr ⟨0, rfl, by decide +kernel, rfl⟩
theorem d_X11_line_131 : dec 3 cX11_line 131 (.invokevirtual 149) 134 := ⟨by decide +kernel, rfl⟩
theorem d_X11_line_134 : dec 1 cX11_line 134 .ireturn 135 := ⟨by decide +kernel, rfl⟩
theorem d_X11_line_135 : decAL cX11_line 135 0 136 := Or.inr ⟨0, rfl, by decide +kernel, rfl⟩
theorem d_X11_line_136 : dec 3 cX11_line 136 (.getfield 33) 139 := ⟨by decide +kernel, rfl⟩
theorem d_X11_line_139 : dec 1 cX11_line 139 (.iconst 1) 140 := ⟨by decide +kernel, rfl⟩
theorem d_X11_line_140 : decIL cX11_line 140 2 141 := Or.inr ⟨2, rfl, by decide +kernel, rfl⟩
theorem d_X11_line_141 : decAL cX11_line 141 0 142 := Or.inr ⟨0, rfl, by decide +kernel, rfl⟩
theorem d_X11_line_142 : dec 3 cX11_line 142 (.getfield 109) 145 := ⟨by decide +kernel, rfl⟩
theorem d_X11_line_145 : dec 1 cX11_line 145 .imul 146 := ⟨by decide +kernel, rfl⟩
theorem d_X11_line_146 : dec 1 cX11_line 146 .iastore 147 := ⟨by decide +kernel, rfl⟩
theorem d_X11_line_147 : decAL cX11_line 147 0 148 := Or.inr ⟨0, rfl, by decide +kernel, rfl⟩
theorem d_X11_line_148 : dec 3 cX11_line 148 (.invokevirtual 146) 151 := ⟨by decide +kernel, rfl⟩
theorem d_X11_line_151 : decAL cX11_line 151 0 152 := Or.inr ⟨0, rfl, by decide +kernel, rfl⟩
theorem d_X11_line_152 : dec 2 cX11_line 152 (.bipush 59) 154 := ⟨by decide +kernel, rfl⟩
theorem d_X11_line_154 : dec 3 cX11_line 154 (.invokevirtual 183) 157 := ⟨by decide +kernel, rfl⟩
theorem d_X11_line_157 : decB cX11_line 157 (.ifCond .ne 12) (12) 160 169 := ⟨by decide +kernel, rfl, by decide⟩
theorem d_X11_line_160 : decAL cX11_line 160 0 161 := Or.inr ⟨0, rfl, by decide +kernel, rfl⟩
theorem d_X11_line_161 : dec 3 cX11_line 161 (.invokevirtual 187) 164 := ⟨by decide +kernel, rfl⟩
theorem d_X11_line_164 : decB cX11_line 164 (.ifCond .ne (-13)) (-13) 167 151 := ⟨by decide +kernel, rfl, by decide⟩
theorem d_X11_line_167 : dec 1 cX11_line 167 (.iconst 0) 168 := ⟨by decide +kernel, rfl⟩
theorem d_X11_line_168 : dec 1 cX11_line 168 .ireturn 169 := ⟨by decide +kernel, rfl⟩
theorem d_X11_line_169 : decAL cX11_line 169 0 170 := Or.inr ⟨0, rfl, by decide +kernel, rfl⟩
theorem d_X11_line_170 : dec 3 cX11_line 170 (.invokevirtual 146) 173 := ⟨by decide +kernel, rfl⟩
theorem d_X11_line_173 : decIL cX11_line 173 1 174 := Or.inr ⟨1, rfl, by decide +kernel, rfl⟩
theorem d_X11_line_174 : decB cX11_line 174 (.ifCond .eq 51) (51) 177 225 := ⟨by decide +kernel, rfl, by decide⟩
theorem d_X11_line_177 : dec 1 cX11_line 177 (.iconst 0) 178 := ⟨by decide +kernel, rfl⟩
theorem d_X11_line_178 : decIS cX11_line 178 3 179 := Or.inr ⟨3, rfl, by decide +kernel, rfl⟩
theorem d_X11_line_179 : decIL cX11_line 179 3 180 := Or.inr ⟨3, rfl, by decide +kernel, rfl⟩
theorem d_X11_line_180 : dec 2 cX11_line 180 (.bipush 11) 182 := ⟨by decide +kernel, rfl⟩
theorem d_X11_line_182 : decB cX11_line 182 (.if_icmp .ge 33) (33) 185 215 := ⟨by decide +kernel, rfl, by decide⟩
theorem d_X11_line_185 : decAL cX11_line 185 0 186 := Or.inr ⟨0, rfl, by decide +kernel, rfl⟩
theorem d_X11_line_186 : dec 3 cX11_line 186 (.getfield 24) 189 := ⟨by decide +kernel, rfl⟩
theorem d_X11_line_189 : dec 1 cX11_line 189 (.iconst 1) 190 := ⟨by decide +kernel, rfl⟩
theorem d_X11_line_190 : dec 2 cX11_line 190 (.bipush 11) 192 := ⟨by decide +kernel, rfl⟩
theorem d_X11_line_192 : decAL cX11_line 192 0 193 := Or.inr ⟨0, rfl, by decide +kernel, rfl⟩
theorem d_X11_line_193 : dec 3 cX11_line 193 (.getfield 24) 196 := ⟨by decide +kernel, rfl⟩
theorem d_X11_line_196 : dec 1 cX11_line 196 (.iconst 0) 197 := ⟨by decide +kernel, rfl⟩
theorem d_X11_line_197 : dec 1 cX11_line 197 .iaload 198 := ⟨by decide +kernel, rfl⟩
theorem d_X11_line_198 : dec 1 cX11_line 198 .imul 199 := ⟨by decide +kernel, rfl⟩
theorem d_X11_line_199 : dec 1 cX11_line 199 .iadd 200 := ⟨by decide +kernel, rfl⟩
theorem d_X11_line_200 : decIL cX11_line 200 3 201 := Or.inr ⟨3, rfl, by decide +kernel, rfl⟩
theorem d_X11_line_201 : dec 1 cX11_line 201 .iadd 202 := ⟨by decide +kernel, rfl⟩
theorem d_X11_line_202 : decAL cX11_line 202 0 203 := Or.inr ⟨0, rfl, by decide +kernel, rfl⟩
theorem d_X11_line_203 : dec 3 cX11_line 203 (.getfield 33) 206 := ⟨by decide +kernel, rfl⟩
theorem d_X11_line_206 : decIL cX11_line 206 3 207 := Or.inr ⟨3, rfl, by decide +kernel, rfl⟩
theorem d_X11_line_207 : dec 1 cX11_line 207 .iaload 208 := ⟨by decide +kernel, rfl⟩
theorem d_X11_line_208 : dec 1 cX11_line 208 .iastore 209 := ⟨by decide +kernel, rfl⟩
theorem d_X11_line_209 : dec 3 cX11_line 209 (.iinc 3 1) 212 := ⟨by decide +kernel, rfl⟩
theorem d_X11_line_212 : decB cX11_line 212 (.goto (-33)) (-33) 215 179 := ⟨by decide +kernel, rfl, by decide⟩
theorem d_X11_line_215 : decAL cX11_line 215 0 216 := Or.inr ⟨0, rfl, by decide +kernel, rfl⟩
theorem d_X11_line_216 : dec 3 cX11_line 216 (.getfield 24) 219 := ⟨by decide +kernel, rfl⟩
theorem d_X11_line_219 : dec 1 cX11_line 219 (.iconst 0) 220 := ⟨by decide +kernel, rfl⟩
theorem d_X11_line_220 : dec 1 cX11_line 220 .dup2 221 := ⟨by decide +kernel, rfl⟩
theorem d_X11_line_221 : dec 1 cX11_line 221 .iaload 222 := ⟨by decide +kernel, rfl⟩
theorem d_X11_line_222 : dec 1 cX11_line 222 (.iconst 1) 223 := ⟨by decide +kernel, rfl⟩
theorem d_X11_line_223 : dec 1 cX11_line 223 .iadd 224 := ⟨by decide +kernel, rfl⟩
theorem d_X11_line_224 : dec 1 cX11_line 224 .iastore 225 := ⟨by decide +kernel, rfl⟩
theorem d_X11_line_225 : dec 1 cX11_line 225 (.iconst 1) 226 := ⟨by decide +kernel, rfl⟩
theorem d_X11_line_226 : dec 1 cX11_line 226 .ireturn 227 := ⟨by decide +kernel, rfl⟩
def k_X11_line_215 (F : Nat)   (v0 : Nat)  (n : Nat) (G : GH) : Option (Int32 × Nat × GH) :=
  Option.bind (gR G v0 11 16) (fun (x23 : Nat) =>
  Option.bind (aI G x23 0 (0 : Int32)) (fun (x24 : Int32) =>
  Option.bind (aS G x23 0 (0 : Int32) (x24 + (1 : Int32))) (fun (G25 : GH) =>
  rN .boolean (1 : Int32) n G25)))
def b_X11_line_179 (F : Nat)   (v0 : Nat) (rec179 : Int32 → Nat → GH → Option (Int32 × Nat × GH)) : Int32 → Nat → GH → Option (Int32 × Nat × GH) := fun v3 n G =>
  if (11 : Int32) ≤ v3 then
  (k_X11_line_215 F   v0 n G)
  else (Option.bind (gR G v0 11 16) (fun (x26 : Nat) =>
  Option.bind (gR G v0 11 16) (fun (x27 : Nat) =>
  Option.bind (aI G x27 0 (0 : Int32)) (fun (x28 : Int32) =>
  Option.bind (gR G v0 11 20) (fun (x29 : Nat) =>
  Option.bind (aI G x29 0 v3) (fun (x30 : Int32) =>
  Option.bind (aS G x26 0 (((1 : Int32) + ((11 : Int32) * x28)) + v3) x30) (fun (G31 : GH) =>
  rec179 (v3 + 1) n G31)))))))
def k_X11_line_169 (F : Nat)   (v0 : Nat) (v1 : Int32)  (n : Nat) (G : GH) : Option (Int32 × Nat × GH) :=
  cvU G v0 11 (f_X11_token F v0 n G) (fun (n21 : Nat) (G22 : GH) =>
  if v1 = 0 then
  (rN .boolean (1 : Int32) n21 G22)
  else (fixN (fun _ _ _ => none) (b_X11_line_179 F   v0) F (0 : Int32) n21 G22))
def b_X11_line_151 (F : Nat)   (v0 : Nat) (v1 : Int32) (rec151 : Nat → GH → Option (Int32 × Nat × GH)) : Nat → GH → Option (Int32 × Nat × GH) := fun  n G =>
  cvP G v0 11 (f_X11_isSign F v0 (59 : Int32) G) (fun (x20 : Int32) =>
  if x20 = 0 then
  (cvI G v0 11 (f_X11_clause F v0 n G) (fun (x34 : Int32) (n32 : Nat) (G33 : GH) =>
  if x34 = 0 then
  (rN .boolean (0 : Int32) n32 G33)
  else (rec151 n32 G33)))
  else (k_X11_line_169 F   v0 v1 n G))
def k_X11_line_122 (F : Nat)   (v0 : Nat) (v1 : Int32) (v2 : Int32)  (n : Nat) (G : GH) : Option (Int32 × Nat × GH) :=
  Option.bind (gI G v0 11 9) (fun (x14 : Int32) =>
  if x14 = (3 : Int32) then
  (Option.bind (gR G v0 11 20) (fun (x15 : Nat) =>
  Option.bind (gI G v0 11 11) (fun (x16 : Int32) =>
  Option.bind (aS G x15 0 (1 : Int32) (v2 * x16)) (fun (G17 : GH) =>
  cvU G17 v0 11 (f_X11_token F v0 n G17) (fun (n18 : Nat) (G19 : GH) =>
  fixN (fun _ _ => none) (b_X11_line_151 F   v0 v1) F n18 G19)))))
  else (cvI G v0 11 (f_X11_fails F v0 n G) (fun (x37 : Int32) (n35 : Nat) (G36 : GH) =>
  rN .boolean x37 n35 G36)))
def k_X11_line_113 (F : Nat)   (v0 : Nat) (v1 : Int32) (s0 : Int32) (n : Nat) (G : GH) : Option (Int32 × Nat × GH) :=
  if 0 ≤ s0 then
  (k_X11_line_122 F   v0 v1 s0 n G)
  else (cvU G v0 11 (f_X11_token F v0 n G) (fun (n38 : Nat) (G39 : GH) =>
  k_X11_line_122 F   v0 v1 s0 n38 G39))
def k_X11_line_70 (F : Nat)   (v0 : Nat) (v1 : Int32)  (n : Nat) (G : GH) : Option (Int32 × Nat × GH) :=
  Option.bind (gR G v0 11 20) (fun (x6 : Nat) =>
  cvP G v0 11 (f_X11_actHere F v0 G) (fun (x7 : Int32) =>
  Option.bind (aS G x6 0 (0 : Int32) x7) (fun (G8 : GH) =>
  Option.bind (gR G8 v0 11 20) (fun (x9 : Nat) =>
  Option.bind (aI G8 x9 0 (0 : Int32)) (fun (x10 : Int32) =>
  if x10 = (-1 : Int32) then
  (cvI G8 v0 11 (f_X11_fails F v0 n G8) (fun (x42 : Int32) (n40 : Nat) (G41 : GH) =>
  rN .boolean x42 n40 G41))
  else (cvU G8 v0 11 (f_X11_token F v0 n G8) (fun (n11 : Nat) (G12 : GH) =>
  cvP G12 v0 11 (f_X11_isSign F v0 (45 : Int32) G12) (fun (x13 : Int32) =>
  if x13 = 0 then
  (k_X11_line_113 F   v0 v1 (1 : Int32) n11 G12)
  else (k_X11_line_113 F   v0 v1 (-1 : Int32) n11 G12)))))))))
def b_X11_line_51 (F : Nat)   (v0 : Nat) (v1 : Int32) (rec51 : Int32 → Nat → GH → Option (Int32 × Nat × GH)) : Int32 → Nat → GH → Option (Int32 × Nat × GH) := fun v2 n G =>
  if (11 : Int32) ≤ v2 then
  (k_X11_line_70 F   v0 v1 n G)
  else (Option.bind (gR G v0 11 20) (fun (x43 : Nat) =>
  Option.bind (aS G x43 0 v2 (0 : Int32)) (fun (G44 : GH) =>
  rec51 (v2 + 1) n G44)))
def k_X11_line_45 (F : Nat)   (v0 : Nat) (v1 : Int32)  (n : Nat) (G : GH) : Option (Int32 × Nat × GH) :=
  cvU G v0 11 (f_X11_token F v0 n G) (fun (n4 : Nat) (G5 : GH) =>
  fixN (fun _ _ _ => none) (b_X11_line_51 F   v0 v1) F (0 : Int32) n4 G5)
def k_X11_line_31 (F : Nat)   (v0 : Nat) (s0 : Int32) (n : Nat) (G : GH) : Option (Int32 × Nat × GH) :=
  if s0 = 0 then
  (Option.bind (gI G v0 11 8) (fun (x45 : Int32) =>
  cvU G v0 11 (f_X11_isBad F v0 (4 : Int32) x45 n G) (fun (n46 : Nat) (G47 : GH) =>
  k_X11_line_45 F   v0 s0 n46 G47)))
  else (k_X11_line_45 F   v0 s0 n G)
def f_X11_line (F : Nat)  (v0 : Nat) (n : Nat) (G : GH) : Option (Int32 × Nat × GH) :=
  cvP G v0 11 (f_X11_isWord F v0 (1885434484 : Int64) G) (fun (x1 : Int32) =>
  if x1 = 0 then
  (cvI G v0 11 (f_X11_fails F v0 n G) (fun (x50 : Int32) (n48 : Nat) (G49 : GH) =>
  rN .boolean x50 n48 G49))
  else (Option.bind (gR G v0 11 16) (fun (x2 : Nat) =>
  Option.bind (aI G x2 0 (0 : Int32)) (fun (x3 : Int32) =>
  if (12 : Int32) ≤ x3 then
  (k_X11_line_31 F   v0 (0 : Int32) n G)
  else (k_X11_line_31 F   v0 (1 : Int32) n G)))))
set_option maxRecDepth 100000 in
set_option maxHeartbeats 4000000 in
theorem c_X11_line_215 {E : GE} {F : Nat}   {v0 : Nat}  {n : Nat} {G : GH} {z : Int32 × Nat × GH}   (h : k_X11_line_215 F   v0  n G = some z) : WG E RX11 "line" cX11_line 4 (some .boolean) 5 107 0 0 215 [(0, .ref v0)] [] n G (g_O E (some (.int z.1), z.2.1, z.2.2)) := by
  unfold k_X11_line_215 at h
  refine r_aload d_X11_line_215 rfl ?_
  refine r_getR h d_X11_line_216 pf_X11_24 (fun x23 h => ?_)
  refine r_iconst d_X11_line_219 ic_0 ?_
  refine r_dup2 d_X11_line_220 rfl rfl ?_
  refine r_iald h d_X11_line_221 (fun x24 h => ?_)
  refine r_iconst d_X11_line_222 ic_1 ?_
  refine r_iadd d_X11_line_223 ?_
  refine r_iast h d_X11_line_224 (fun G25 h => ?_)
  refine r_iconst d_X11_line_225 ic_1 ?_
  exact r_zret h d_X11_line_226
set_option maxRecDepth 100000 in
set_option maxHeartbeats 4000000 in
theorem l_X11_line_179 {E : GE} {F : Nat}   {v0 : Nat}   : ∀ (K : Nat) (v3 : Int32) (n : Nat) (G : GH) (z : Int32 × Nat × GH), fixN ((fun _ _ _ => none) : Int32 → Nat → GH → Option (Int32 × Nat × GH)) (b_X11_line_179 F   v0) K v3 n G = some z → WG E RX11 "line" cX11_line 4 (some .boolean) 5 107 0 0 179 [(0, .ref v0), (3, .int v3)] [] n G (g_O E (some (.int z.1), z.2.1, z.2.2)) := by
  intro K
  refine fixN_ind (P := fun (r : Int32 → Nat → GH → Option (Int32 × Nat × GH)) => ∀ (v3 : Int32) (n : Nat) (G : GH) (z : Int32 × Nat × GH), r v3 n G = some z → WG E RX11 "line" cX11_line 4 (some .boolean) 5 107 0 0 179 [(0, .ref v0), (3, .int v3)] [] n G (g_O E (some (.int z.1), z.2.1, z.2.2))) ?_ ?_ K
  · intro v3 n G z h
    cases h
  · intro rec179 hrec179 v3 n G z h
    unfold b_X11_line_179 at h
    refine r_iload d_X11_line_179 rfl ?_
    refine r_bipush d_X11_line_180 bp_11 ?_
    refine r_icmp_ge h d_X11_line_182 (fun h => ?_) (fun h => ?_)
    · refine r_lv [(0, .ref v0)] (g_allc rfl g_alln) ?_
      exact c_X11_line_215   h
    · refine r_aload d_X11_line_185 rfl ?_
      refine r_getR h d_X11_line_186 pf_X11_24 (fun x26 h => ?_)
      refine r_iconst d_X11_line_189 ic_1 ?_
      refine r_bipush d_X11_line_190 bp_11 ?_
      refine r_aload d_X11_line_192 rfl ?_
      refine r_getR h d_X11_line_193 pf_X11_24 (fun x27 h => ?_)
      refine r_iconst d_X11_line_196 ic_0 ?_
      refine r_iald h d_X11_line_197 (fun x28 h => ?_)
      refine r_imul d_X11_line_198 ?_
      refine r_iadd d_X11_line_199 ?_
      refine r_iload d_X11_line_200 rfl ?_
      refine r_iadd d_X11_line_201 ?_
      refine r_aload d_X11_line_202 rfl ?_
      refine r_getR h d_X11_line_203 pf_X11_33 (fun x29 h => ?_)
      refine r_iload d_X11_line_206 rfl ?_
      refine r_iald h d_X11_line_207 (fun x30 h => ?_)
      refine r_iast h d_X11_line_208 (fun G31 h => ?_)
      refine r_iinc d_X11_line_209 rfl (ii_1 _) rfl rfl ?_
      refine r_goto d_X11_line_212 ?_
      refine r_lv [(0, .ref v0), (3, .int (v3 + 1))] (g_allc rfl (g_allc rfl g_alln)) ?_
      exact hrec179 _ _ _ _ h
set_option maxRecDepth 100000 in
set_option maxHeartbeats 4000000 in
theorem c_X11_line_169 {E : GE} {F : Nat}   {v0 : Nat} {v1 : Int32}  {n : Nat} {G : GH} {z : Int32 × Nat × GH}   (h : k_X11_line_169 F   v0 v1  n G = some z) : WG E RX11 "line" cX11_line 4 (some .boolean) 5 107 0 0 169 [(0, .ref v0), (1, .int v1)] [] n G (g_O E (some (.int z.1), z.2.1, z.2.2)) := by
  unfold k_X11_line_169 at h
  refine r_aload d_X11_line_169 rfl ?_
  refine r_invU [] h (fun _ hq => s_X11_token hq) d_X11_line_170 pl_X11_146 py_X11_token pi_X11_token rfl rfl rfl (fun n21 G22 h => ?_)
  refine r_iload d_X11_line_173 rfl ?_
  refine r_if_eq h d_X11_line_174 (fun h => ?_) (fun h => ?_)
  · refine r_iconst d_X11_line_225 ic_1 ?_
    exact r_zret h d_X11_line_226
  · refine r_iconst d_X11_line_177 ic_0 ?_
    refine r_istore d_X11_line_178 rfl rfl ?_
    refine r_lv [(0, .ref v0), (3, .int (0 : Int32))] (g_allc rfl (g_allc rfl g_alln)) ?_
    exact l_X11_line_179   _ _ _ _ _ h
set_option maxRecDepth 100000 in
set_option maxHeartbeats 4000000 in
theorem l_X11_line_151 {E : GE} {F : Nat}   {v0 : Nat} {v1 : Int32}   : ∀ (K : Nat)  (n : Nat) (G : GH) (z : Int32 × Nat × GH), fixN ((fun _ _ => none) : Nat → GH → Option (Int32 × Nat × GH)) (b_X11_line_151 F   v0 v1) K  n G = some z → WG E RX11 "line" cX11_line 4 (some .boolean) 5 107 0 0 151 [(0, .ref v0), (1, .int v1)] [] n G (g_O E (some (.int z.1), z.2.1, z.2.2)) := by
  intro K
  refine fixN_ind (P := fun (r : Nat → GH → Option (Int32 × Nat × GH)) => ∀  (n : Nat) (G : GH) (z : Int32 × Nat × GH), r  n G = some z → WG E RX11 "line" cX11_line 4 (some .boolean) 5 107 0 0 151 [(0, .ref v0), (1, .int v1)] [] n G (g_O E (some (.int z.1), z.2.1, z.2.2))) ?_ ?_ K
  · intro  n G z h
    cases h
  · intro rec151 hrec151  n G z h
    unfold b_X11_line_151 at h
    refine r_aload d_X11_line_151 rfl ?_
    refine r_bipush d_X11_line_152 bp_59 ?_
    refine r_invP [_] h (fun _ hq => s_X11_isSign hq) d_X11_line_154 pl_X11_183 py_X11_isSign pi_X11_isSign rfl rfl rfl (fun x20 h => ?_)
    refine r_if_ne h d_X11_line_157 (fun h => ?_) (fun h => ?_)
    · refine r_lv [(0, .ref v0), (1, .int v1)] (g_allc rfl (g_allc rfl g_alln)) ?_
      exact c_X11_line_169   h
    · refine r_aload d_X11_line_160 rfl ?_
      refine r_invI [] h (fun _ hq => s_X11_clause hq) d_X11_line_161 pl_X11_187 py_X11_clause pi_X11_clause rfl rfl rfl (fun x34 n32 G33 h => ?_)
      refine r_if_ne h d_X11_line_164 (fun h => ?_) (fun h => ?_)
      · refine r_lv [(0, .ref v0), (1, .int v1)] (g_allc rfl (g_allc rfl g_alln)) ?_
        exact hrec151 _ _ _ h
      · refine r_iconst d_X11_line_167 ic_0 ?_
        exact r_zret h d_X11_line_168
set_option maxRecDepth 100000 in
set_option maxHeartbeats 4000000 in
theorem c_X11_line_122 {E : GE} {F : Nat}   {v0 : Nat} {v1 : Int32} {v2 : Int32}  {n : Nat} {G : GH} {z : Int32 × Nat × GH}   (h : k_X11_line_122 F   v0 v1 v2  n G = some z) : WG E RX11 "line" cX11_line 4 (some .boolean) 5 107 0 0 122 [(0, .ref v0), (1, .int v1), (2, .int v2)] [] n G (g_O E (some (.int z.1), z.2.1, z.2.2)) := by
  unfold k_X11_line_122 at h
  refine r_aload d_X11_line_122 rfl ?_
  refine r_getI h d_X11_line_123 pf_X11_106 (fun x14 h => ?_)
  refine r_iconst d_X11_line_126 ic_3 ?_
  refine r_icmp_eq h d_X11_line_127 (fun h => ?_) (fun h => ?_)
  · refine r_aload d_X11_line_135 rfl ?_
    refine r_getR h d_X11_line_136 pf_X11_33 (fun x15 h => ?_)
    refine r_iconst d_X11_line_139 ic_1 ?_
    refine r_iload d_X11_line_140 rfl ?_
    refine r_aload d_X11_line_141 rfl ?_
    refine r_getI h d_X11_line_142 pf_X11_109 (fun x16 h => ?_)
    refine r_imul d_X11_line_145 ?_
    refine r_iast h d_X11_line_146 (fun G17 h => ?_)
    refine r_aload d_X11_line_147 rfl ?_
    refine r_invU [] h (fun _ hq => s_X11_token hq) d_X11_line_148 pl_X11_146 py_X11_token pi_X11_token rfl rfl rfl (fun n18 G19 h => ?_)
    refine r_lv [(0, .ref v0), (1, .int v1)] (g_allc rfl (g_allc rfl g_alln)) ?_
    exact l_X11_line_151   _ _ _ _ h
  · refine r_aload d_X11_line_130 rfl ?_
    refine r_invI [] h (fun _ hq => s_X11_fails hq) d_X11_line_131 pl_X11_149 py_X11_fails pi_X11_fails rfl rfl rfl (fun x37 n35 G36 h => ?_)
    exact r_zret h d_X11_line_134
set_option maxRecDepth 100000 in
set_option maxHeartbeats 4000000 in
theorem c_X11_line_113 {E : GE} {F : Nat}   {v0 : Nat} {v1 : Int32} {s0 : Int32} {n : Nat} {G : GH} {z : Int32 × Nat × GH}   (h : k_X11_line_113 F   v0 v1 s0 n G = some z) : WG E RX11 "line" cX11_line 4 (some .boolean) 5 107 0 0 113 [(0, .ref v0), (1, .int v1)] [.int s0] n G (g_O E (some (.int z.1), z.2.1, z.2.2)) := by
  unfold k_X11_line_113 at h
  refine r_istore d_X11_line_113 rfl rfl ?_
  refine r_iload d_X11_line_114 rfl ?_
  refine r_if_ge h d_X11_line_115 (fun h => ?_) (fun h => ?_)
  · refine r_lv [(0, .ref v0), (1, .int v1), (2, .int s0)] (g_allc rfl (g_allc rfl (g_allc rfl g_alln))) ?_
    exact c_X11_line_122   h
  · refine r_aload d_X11_line_118 rfl ?_
    refine r_invU [] h (fun _ hq => s_X11_token hq) d_X11_line_119 pl_X11_146 py_X11_token pi_X11_token rfl rfl rfl (fun n38 G39 h => ?_)
    refine r_lv [(0, .ref v0), (1, .int v1), (2, .int s0)] (g_allc rfl (g_allc rfl (g_allc rfl g_alln))) ?_
    exact c_X11_line_122   h
set_option maxRecDepth 100000 in
set_option maxHeartbeats 4000000 in
theorem c_X11_line_70 {E : GE} {F : Nat}   {v0 : Nat} {v1 : Int32}  {n : Nat} {G : GH} {z : Int32 × Nat × GH}   (h : k_X11_line_70 F   v0 v1  n G = some z) : WG E RX11 "line" cX11_line 4 (some .boolean) 5 107 0 0 70 [(0, .ref v0), (1, .int v1)] [] n G (g_O E (some (.int z.1), z.2.1, z.2.2)) := by
  unfold k_X11_line_70 at h
  refine r_aload d_X11_line_70 rfl ?_
  refine r_getR h d_X11_line_71 pf_X11_33 (fun x6 h => ?_)
  refine r_iconst d_X11_line_74 ic_0 ?_
  refine r_aload d_X11_line_75 rfl ?_
  refine r_invP [] h (fun _ hq => s_X11_actHere hq) d_X11_line_76 pl_X11_180 py_X11_actHere pi_X11_actHere rfl rfl rfl (fun x7 h => ?_)
  refine r_iast h d_X11_line_79 (fun G8 h => ?_)
  refine r_aload d_X11_line_80 rfl ?_
  refine r_getR h d_X11_line_81 pf_X11_33 (fun x9 h => ?_)
  refine r_iconst d_X11_line_84 ic_0 ?_
  refine r_iald h d_X11_line_85 (fun x10 h => ?_)
  refine r_iconst d_X11_line_86 ic_m1 ?_
  refine r_icmp_ne h d_X11_line_87 (fun h => ?_) (fun h => ?_)
  · refine r_aload d_X11_line_95 rfl ?_
    refine r_invU [] h (fun _ hq => s_X11_token hq) d_X11_line_96 pl_X11_146 py_X11_token pi_X11_token rfl rfl rfl (fun n11 G12 h => ?_)
    refine r_aload d_X11_line_99 rfl ?_
    refine r_bipush d_X11_line_100 bp_45 ?_
    refine r_invP [_] h (fun _ hq => s_X11_isSign hq) d_X11_line_102 pl_X11_183 py_X11_isSign pi_X11_isSign rfl rfl rfl (fun x13 h => ?_)
    refine r_if_eq h d_X11_line_105 (fun h => ?_) (fun h => ?_)
    · refine r_iconst d_X11_line_112 ic_1 ?_
      refine r_lv [(0, .ref v0), (1, .int v1)] (g_allc rfl (g_allc rfl g_alln)) ?_
      exact c_X11_line_113   h
    · refine r_iconst d_X11_line_108 ic_m1 ?_
      refine r_goto d_X11_line_109 ?_
      refine r_lv [(0, .ref v0), (1, .int v1)] (g_allc rfl (g_allc rfl g_alln)) ?_
      exact c_X11_line_113   h
  · refine r_aload d_X11_line_90 rfl ?_
    refine r_invI [] h (fun _ hq => s_X11_fails hq) d_X11_line_91 pl_X11_149 py_X11_fails pi_X11_fails rfl rfl rfl (fun x42 n40 G41 h => ?_)
    exact r_zret h d_X11_line_94
set_option maxRecDepth 100000 in
set_option maxHeartbeats 4000000 in
theorem l_X11_line_51 {E : GE} {F : Nat}   {v0 : Nat} {v1 : Int32}   : ∀ (K : Nat) (v2 : Int32) (n : Nat) (G : GH) (z : Int32 × Nat × GH), fixN ((fun _ _ _ => none) : Int32 → Nat → GH → Option (Int32 × Nat × GH)) (b_X11_line_51 F   v0 v1) K v2 n G = some z → WG E RX11 "line" cX11_line 4 (some .boolean) 5 107 0 0 51 [(0, .ref v0), (1, .int v1), (2, .int v2)] [] n G (g_O E (some (.int z.1), z.2.1, z.2.2)) := by
  intro K
  refine fixN_ind (P := fun (r : Int32 → Nat → GH → Option (Int32 × Nat × GH)) => ∀ (v2 : Int32) (n : Nat) (G : GH) (z : Int32 × Nat × GH), r v2 n G = some z → WG E RX11 "line" cX11_line 4 (some .boolean) 5 107 0 0 51 [(0, .ref v0), (1, .int v1), (2, .int v2)] [] n G (g_O E (some (.int z.1), z.2.1, z.2.2))) ?_ ?_ K
  · intro v2 n G z h
    cases h
  · intro rec51 hrec51 v2 n G z h
    unfold b_X11_line_51 at h
    refine r_iload d_X11_line_51 rfl ?_
    refine r_bipush d_X11_line_52 bp_11 ?_
    refine r_icmp_ge h d_X11_line_54 (fun h => ?_) (fun h => ?_)
    · refine r_lv [(0, .ref v0), (1, .int v1)] (g_allc rfl (g_allc rfl g_alln)) ?_
      exact c_X11_line_70   h
    · refine r_aload d_X11_line_57 rfl ?_
      refine r_getR h d_X11_line_58 pf_X11_33 (fun x43 h => ?_)
      refine r_iload d_X11_line_61 rfl ?_
      refine r_iconst d_X11_line_62 ic_0 ?_
      refine r_iast h d_X11_line_63 (fun G44 h => ?_)
      refine r_iinc d_X11_line_64 rfl (ii_1 _) rfl rfl ?_
      refine r_goto d_X11_line_67 ?_
      refine r_lv [(0, .ref v0), (1, .int v1), (2, .int (v2 + 1))] (g_allc rfl (g_allc rfl (g_allc rfl g_alln))) ?_
      exact hrec51 _ _ _ _ h
set_option maxRecDepth 100000 in
set_option maxHeartbeats 4000000 in
theorem c_X11_line_45 {E : GE} {F : Nat}   {v0 : Nat} {v1 : Int32}  {n : Nat} {G : GH} {z : Int32 × Nat × GH}   (h : k_X11_line_45 F   v0 v1  n G = some z) : WG E RX11 "line" cX11_line 4 (some .boolean) 5 107 0 0 45 [(0, .ref v0), (1, .int v1)] [] n G (g_O E (some (.int z.1), z.2.1, z.2.2)) := by
  unfold k_X11_line_45 at h
  refine r_aload d_X11_line_45 rfl ?_
  refine r_invU [] h (fun _ hq => s_X11_token hq) d_X11_line_46 pl_X11_146 py_X11_token pi_X11_token rfl rfl rfl (fun n4 G5 h => ?_)
  refine r_iconst d_X11_line_49 ic_0 ?_
  refine r_istore d_X11_line_50 rfl rfl ?_
  refine r_lv [(0, .ref v0), (1, .int v1), (2, .int (0 : Int32))] (g_allc rfl (g_allc rfl (g_allc rfl g_alln))) ?_
  exact l_X11_line_51   _ _ _ _ _ h
set_option maxRecDepth 100000 in
set_option maxHeartbeats 4000000 in
theorem c_X11_line_31 {E : GE} {F : Nat}   {v0 : Nat} {s0 : Int32} {n : Nat} {G : GH} {z : Int32 × Nat × GH}   (h : k_X11_line_31 F   v0 s0 n G = some z) : WG E RX11 "line" cX11_line 4 (some .boolean) 5 107 0 0 31 [(0, .ref v0)] [.int s0] n G (g_O E (some (.int z.1), z.2.1, z.2.2)) := by
  unfold k_X11_line_31 at h
  refine r_istore d_X11_line_31 rfl rfl ?_
  refine r_iload d_X11_line_32 rfl ?_
  refine r_if_ne h d_X11_line_33 (fun h => ?_) (fun h => ?_)
  · refine r_lv [(0, .ref v0), (1, .int s0)] (g_allc rfl (g_allc rfl g_alln)) ?_
    exact c_X11_line_45   h
  · refine r_aload d_X11_line_36 rfl ?_
    refine r_iconst d_X11_line_37 ic_4 ?_
    refine r_aload d_X11_line_38 rfl ?_
    refine r_getI h d_X11_line_39 pf_X11_96 (fun x45 h => ?_)
    refine r_invU [_, _] h (fun _ hq => s_X11_isBad hq) d_X11_line_42 pl_X11_139 py_X11_isBad pi_X11_isBad rfl rfl rfl (fun n46 G47 h => ?_)
    refine r_lv [(0, .ref v0), (1, .int s0)] (g_allc rfl (g_allc rfl g_alln)) ?_
    exact c_X11_line_45   h
set_option maxRecDepth 100000 in
set_option maxHeartbeats 4000000 in
theorem s_X11_line {E : GE} {F : Nat}  {v0 : Nat} {n : Nat} {G : GH} {z : Int32 × Nat × GH}  (h : f_X11_line F  v0 n G = some z) : GM E yX11_line cX11_line 4 (some .boolean) 5 107 0 0 [.ref v0] n G (some (.int z.1), z.2.1, z.2.2) := by
  refine GM.of (by decide) (Nat.le_of_ble_eq_true rfl) ?_
  show WG E RX11 "line" cX11_line 4 (some .boolean) 5 107 0 0 0 [(0, .ref v0)] [] n G (g_O E (some (.int z.1), z.2.1, z.2.2))
  unfold f_X11_line at h
  refine r_aload d_X11_line_0 rfl ?_
  refine r_ldc2 d_X11_line_1 cl_X11_178 ?_
  refine r_invP [_] h (fun _ hq => s_X11_isWord hq) d_X11_line_4 pl_X11_159 py_X11_isWord pi_X11_isWord rfl rfl rfl (fun x1 h => ?_)
  refine r_if_ne h d_X11_line_7 (fun h => ?_) (fun h => ?_)
  · refine r_aload d_X11_line_15 rfl ?_
    refine r_getR h d_X11_line_16 pf_X11_24 (fun x2 h => ?_)
    refine r_iconst d_X11_line_19 ic_0 ?_
    refine r_iald h d_X11_line_20 (fun x3 h => ?_)
    refine r_bipush d_X11_line_21 bp_12 ?_
    refine r_icmp_ge h d_X11_line_23 (fun h => ?_) (fun h => ?_)
    · refine r_iconst d_X11_line_30 ic_0 ?_
      refine r_lv [(0, .ref v0)] (g_allc rfl g_alln) ?_
      exact c_X11_line_31   h
    · refine r_iconst d_X11_line_26 ic_1 ?_
      refine r_goto d_X11_line_27 ?_
      refine r_lv [(0, .ref v0)] (g_allc rfl g_alln) ?_
      exact c_X11_line_31   h
  · refine r_aload d_X11_line_10 rfl ?_
    refine r_invI [] h (fun _ hq => s_X11_fails hq) d_X11_line_11 pl_X11_149 py_X11_fails pi_X11_fails rfl rfl rfl (fun x50 n48 G49 h => ?_)
    exact r_zret h d_X11_line_14
/-! X11_read -/
theorem pw_X11_89 {nm : String} : pW RX11 nm 89 11 7 .int := ⟨RX11, TX11, 37, rfl, by decide, rfl, Or.inl ⟨g_in 1152 (by decide +kernel) rfl, Or.inl rfl⟩, by decide +kernel⟩
theorem pf_X11_112 : pF RX11 112 11 13 := ⟨RX11, TX11, 37, rfl, by decide, rfl, Or.inl (g_in 1158 (by decide +kernel) rfl)⟩
theorem pw_X11_193 {nm : String} : pW RX11 nm 193 11 5 .int := ⟨RX11, TX11, 37, rfl, by decide, rfl, Or.inl ⟨g_in 1150 (by decide +kernel) rfl, Or.inl rfl⟩, by decide +kernel⟩
theorem py_X11_line : pY yX11_line cX11_line 4 (some .boolean) 0 := ⟨g_in 1284 (by decide +kernel) rfl, g_in 104 (by decide +kernel) rfl, by decide, by decide, by decide +kernel⟩
theorem pi_X11_line : pI yX11_line 11 := ⟨g_in 1283 (by decide +kernel) rfl, g_in 40 (by decide +kernel) rfl, (RX11, TX11, 37), rfl, rfl⟩
theorem pl_X11_190 : pL RX11 190 yX11_line := Or.inl (g_in 1281 (by decide +kernel) rfl)
theorem d_X11_read_0 : decAL cX11_read 0 0 1 := Or.inr ⟨0, rfl, by decide +kernel, rfl⟩
theorem d_X11_read_1 : dec 1 cX11_read 1 (.iconst 0) 2 := ⟨by decide +kernel, rfl⟩
theorem d_X11_read_2 : dec 3 cX11_read 2 (.putfield 72) 5 := ⟨by decide +kernel, rfl⟩
theorem d_X11_read_5 : decAL cX11_read 5 0 6 := Or.inr ⟨0, rfl, by decide +kernel, rfl⟩
theorem d_X11_read_6 : decAL cX11_read 6 0 7 := Or.inr ⟨0, rfl, by decide +kernel, rfl⟩
theorem d_X11_read_7 : dec 3 cX11_read 7 (.getfield 7) 10 := ⟨by decide +kernel, rfl⟩
theorem d_X11_read_10 : dec 3 cX11_read 10 (.sipush 891) 13 := ⟨by decide +kernel, rfl⟩
theorem d_X11_read_13 : dec 1 cX11_read 13 .iaload 14 := ⟨by decide +kernel, rfl⟩
theorem d_X11_read_14 : dec 3 cX11_read 14 (.putfield 89) 17 := ⟨by decide +kernel, rfl⟩
theorem d_X11_read_17 : decAL cX11_read 17 0 18 := Or.inr ⟨0, rfl, by decide +kernel, rfl⟩
theorem d_X11_read_18 : dec 3 cX11_read 18 (.getfield 7) 21 := ⟨by decide +kernel, rfl⟩
theorem d_X11_read_21 : dec 3 cX11_read 21 (.sipush 891) 24 := ⟨by decide +kernel, rfl⟩
theorem d_X11_read_24 : dec 1 cX11_read 24 (.iconst 0) 25 := ⟨by decide +kernel, rfl⟩
theorem d_X11_read_25 : dec 1 cX11_read 25 .iastore 26 := ⟨by decide +kernel, rfl⟩
theorem d_X11_read_26 : dec 1 cX11_read 26 (.iconst 0) 27 := ⟨by decide +kernel, rfl⟩
theorem d_X11_read_27 : decIS cX11_read 27 1 28 := Or.inr ⟨1, rfl, by decide +kernel, rfl⟩
theorem d_X11_read_28 : decIL cX11_read 28 1 29 := Or.inr ⟨1, rfl, by decide +kernel, rfl⟩
theorem d_X11_read_29 : dec 3 cX11_read 29 (.sipush 891) 32 := ⟨by decide +kernel, rfl⟩
theorem d_X11_read_32 : decB cX11_read 32 (.if_icmp .ge 16) (16) 35 48 := ⟨by decide +kernel, rfl, by decide⟩
theorem d_X11_read_35 : decAL cX11_read 35 0 36 := Or.inr ⟨0, rfl, by decide +kernel, rfl⟩
theorem d_X11_read_36 : dec 3 cX11_read 36 (.getfield 24) 39 := ⟨by decide +kernel, rfl⟩
theorem d_X11_read_39 : decIL cX11_read 39 1 40 := Or.inr ⟨1, rfl, by decide +kernel, rfl⟩
theorem d_X11_read_40 : dec 1 cX11_read 40 (.iconst 0) 41 := ⟨by decide +kernel, rfl⟩
theorem d_X11_read_41 : dec 1 cX11_read 41 .iastore 42 := ⟨by decide +kernel, rfl⟩
theorem d_X11_read_42 : dec 3 cX11_read 42 (.iinc 1 1) 45 := ⟨by decide +kernel, rfl⟩
theorem d_X11_read_45 : decB cX11_read 45 (.goto (-17)) (-17) 48 28 := ⟨by decide +kernel, rfl, by decide⟩
theorem d_X11_read_48 : decAL cX11_read 48 0 49 := Or.inr ⟨0, rfl, by decide +kernel, rfl⟩
theorem d_X11_read_49 : dec 1 cX11_read 49 (.iconst 0) 50 := ⟨by decide +kernel, rfl⟩
theorem d_X11_read_50 : dec 3 cX11_read 50 (.putfield 143) 53 := ⟨by decide +kernel, rfl⟩
theorem d_X11_read_53 : decAL cX11_read 53 0 54 := Or.inr ⟨0, rfl, by decide +kernel, rfl⟩
theorem d_X11_read_54 : dec 1 cX11_read 54 (.iconst 0) 55 := ⟨by decide +kernel, rfl⟩
theorem d_X11_read_55 : dec 3 cX11_read 55 (.putfield 115) 58 := ⟨by decide +kernel, rfl⟩
theorem d_X11_read_58 : decAL cX11_read 58 0 59 := Or.inr ⟨0, rfl, by decide +kernel, rfl⟩
theorem d_X11_read_59 : dec 1 cX11_read 59 (.iconst (-1)) 60 := ⟨by decide +kernel, rfl⟩
theorem d_X11_read_60 : dec 3 cX11_read 60 (.putfield 118) 63 := ⟨by decide +kernel, rfl⟩
theorem d_X11_read_63 : decAL cX11_read 63 0 64 := Or.inr ⟨0, rfl, by decide +kernel, rfl⟩
theorem d_X11_read_64 : dec 1 cX11_read 64 (.iconst 0) 65 := ⟨by decide +kernel, rfl⟩
theorem d_X11_read_65 : dec 3 cX11_read 65 (.putfield 86) 68 := ⟨by decide +kernel, rfl⟩
theorem d_X11_read_68 : decAL cX11_read 68 0 69 := Or.inr ⟨0, rfl, by decide +kernel, rfl⟩
theorem d_X11_read_69 : dec 3 cX11_read 69 (.invokevirtual 146) 72 := ⟨by decide +kernel, rfl⟩
theorem d_X11_read_72 : dec 1 cX11_read 72 (.iconst 1) 73 := ⟨by decide +kernel, rfl⟩
theorem d_X11_read_73 : decIS cX11_read 73 1 74 := Or.inr ⟨1, rfl, by decide +kernel, rfl⟩
theorem d_X11_read_74 : decIL cX11_read 74 1 75 := Or.inr ⟨1, rfl, by decide +kernel, rfl⟩
theorem d_X11_read_75 : decB cX11_read 75 (.ifCond .eq 18) (18) 78 93 := ⟨by decide +kernel, rfl, by decide⟩
theorem d_X11_read_78 : decAL cX11_read 78 0 79 := Or.inr ⟨0, rfl, by decide +kernel, rfl⟩
theorem d_X11_read_79 : dec 3 cX11_read 79 (.getfield 106) 82 := ⟨by decide +kernel, rfl⟩
theorem d_X11_read_82 : decB cX11_read 82 (.ifCond .eq 11) (11) 85 93 := ⟨by decide +kernel, rfl, by decide⟩
theorem d_X11_read_85 : decAL cX11_read 85 0 86 := Or.inr ⟨0, rfl, by decide +kernel, rfl⟩
theorem d_X11_read_86 : dec 3 cX11_read 86 (.invokevirtual 190) 89 := ⟨by decide +kernel, rfl⟩
theorem d_X11_read_89 : decIS cX11_read 89 1 90 := Or.inr ⟨1, rfl, by decide +kernel, rfl⟩
theorem d_X11_read_90 : decB cX11_read 90 (.goto (-16)) (-16) 93 74 := ⟨by decide +kernel, rfl, by decide⟩
theorem d_X11_read_93 : dec 1 cX11_read 93 (.iconst 0) 94 := ⟨by decide +kernel, rfl⟩
theorem d_X11_read_94 : decIS cX11_read 94 2 95 := Or.inr ⟨2, rfl, by decide +kernel, rfl⟩
theorem d_X11_read_95 : decIL cX11_read 95 2 96 := Or.inr ⟨2, rfl, by decide +kernel, rfl⟩
theorem d_X11_read_96 : decAL cX11_read 96 0 97 := Or.inr ⟨0, rfl, by decide +kernel, rfl⟩
theorem d_X11_read_97 : dec 3 cX11_read 97 (.getfield 143) 100 := ⟨by decide +kernel, rfl⟩
theorem d_X11_read_100 : decB cX11_read 100 (.if_icmp .ge 46) (46) 103 146 := ⟨by decide +kernel, rfl, by decide⟩
theorem d_X11_read_103 : decAL cX11_read 103 0 104 := Or.inr ⟨0, rfl, by decide +kernel, rfl⟩
theorem d_X11_read_104 : dec 3 cX11_read 104 (.getfield 30) 107 := ⟨by decide +kernel, rfl⟩
theorem d_X11_read_107 : decIL cX11_read 107 2 108 := Or.inr ⟨2, rfl, by decide +kernel, rfl⟩
theorem d_X11_read_108 : dec 1 cX11_read 108 .iaload 109 := ⟨by decide +kernel, rfl⟩
theorem d_X11_read_109 : dec 2 cX11_read 109 (.bipush 12) 111 := ⟨by decide +kernel, rfl⟩
theorem d_X11_read_111 : decB cX11_read 111 (.if_icmp .ge 29) (29) 114 140 := ⟨by decide +kernel, rfl, by decide⟩
theorem d_X11_read_114 : decAL cX11_read 114 0 115 := Or.inr ⟨0, rfl, by decide +kernel, rfl⟩
theorem d_X11_read_115 : dec 3 cX11_read 115 (.getfield 30) 118 := ⟨by decide +kernel, rfl⟩
theorem d_X11_read_118 : decIL cX11_read 118 2 119 := Or.inr ⟨2, rfl, by decide +kernel, rfl⟩
theorem d_X11_read_119 : dec 1 cX11_read 119 .iaload 120 := ⟨by decide +kernel, rfl⟩
theorem d_X11_read_120 : decAL cX11_read 120 0 121 := Or.inr ⟨0, rfl, by decide +kernel, rfl⟩
theorem d_X11_read_121 : dec 3 cX11_read 121 (.getfield 24) 124 := ⟨by decide +kernel, rfl⟩
theorem d_X11_read_124 : dec 1 cX11_read 124 (.iconst 0) 125 := ⟨by decide +kernel, rfl⟩
theorem d_X11_read_125 : dec 1 cX11_read 125 .iaload 126 := ⟨by decide +kernel, rfl⟩
theorem d_X11_read_126 : decB cX11_read 126 (.if_icmp .lt 14) (14) 129 140 := ⟨by decide +kernel, rfl, by decide⟩
theorem d_X11_read_129 : decAL cX11_read 129 0 130 := Or.inr ⟨0, rfl, by decide +kernel, rfl⟩
theorem d_X11_read_130 : dec 1 cX11_read 130 (.iconst 5) 131 := ⟨by decide +kernel, rfl⟩
theorem d_X11_read_131 : decAL cX11_read 131 0 132 := Or.inr ⟨0, rfl, by decide +kernel, rfl⟩
theorem d_X11_read_132 : dec 3 cX11_read 132 (.getfield 27) 135 := ⟨by decide +kernel, rfl⟩
theorem d_X11_read_135 : decIL cX11_read 135 2 136 := Or.inr ⟨2, rfl, by decide +kernel, rfl⟩
theorem d_X11_read_136 : dec 1 cX11_read 136 .iaload 137 := ⟨by decide +kernel, rfl⟩
theorem d_X11_read_137 : dec 3 cX11_read 137 (.invokevirtual 139) 140 := ⟨by decide +kernel, rfl⟩
theorem d_X11_read_140 : dec 3 cX11_read 140 (.iinc 2 1) 143 := ⟨by decide +kernel, rfl⟩
theorem d_X11_read_143 : decB cX11_read 143 (.goto (-48)) (-48) 146 95 := ⟨by decide +kernel, rfl, by decide⟩
theorem d_X11_read_146 : decAL cX11_read 146 0 147 := Or.inr ⟨0, rfl, by decide +kernel, rfl⟩
theorem d_X11_read_147 : dec 3 cX11_read 147 (.getfield 7) 150 := ⟨by decide +kernel, rfl⟩
theorem d_X11_read_150 : dec 3 cX11_read 150 (.sipush 892) 153 := ⟨by decide +kernel, rfl⟩
theorem d_X11_read_153 : decIL cX11_read 153 1 154 := Or.inr ⟨1, rfl, by decide +kernel, rfl⟩
theorem d_X11_read_154 : decB cX11_read 154 (.ifCond .eq 10) (10) 157 164 := ⟨by decide +kernel, rfl, by decide⟩
theorem d_X11_read_157 : decAL cX11_read 157 0 158 := Or.inr ⟨0, rfl, by decide +kernel, rfl⟩
theorem d_X11_read_158 : dec 3 cX11_read 158 (.getfield 115) 161 := ⟨by decide +kernel, rfl⟩
theorem d_X11_read_161 : decB cX11_read 161 (.goto 4) (4) 164 165 := ⟨by decide +kernel, rfl, by decide⟩
theorem d_X11_read_164 : dec 1 cX11_read 164 (.iconst 1) 165 := ⟨by decide +kernel, rfl⟩
theorem d_X11_read_165 : dec 1 cX11_read 165 .iastore 166 := ⟨by decide +kernel, rfl⟩
theorem d_X11_read_166 : decAL cX11_read 166 0 167 := Or.inr ⟨0, rfl, by decide +kernel, rfl⟩
theorem d_X11_read_167 : dec 3 cX11_read 167 (.getfield 7) 170 := ⟨by decide +kernel, rfl⟩
theorem d_X11_read_170 : dec 3 cX11_read 170 (.sipush 893) 173 := ⟨by decide +kernel, rfl⟩
theorem d_X11_read_173 : decIL cX11_read 173 1 174 := Or.inr ⟨1, rfl, by decide +kernel, rfl⟩
theorem d_X11_read_174 : decB cX11_read 174 (.ifCond .eq 10) (10) 177 184 := ⟨by decide +kernel, rfl, by decide⟩
theorem d_X11_read_177 : decAL cX11_read 177 0 178 := Or.inr ⟨0, rfl, by decide +kernel, rfl⟩
theorem d_X11_read_178 : dec 3 cX11_read 178 (.getfield 118) 181 := ⟨by decide +kernel, rfl⟩
theorem d_X11_read_181 : decB cX11_read 181 (.goto 7) (7) 184 188 := ⟨by decide +kernel, rfl, by decide⟩
theorem d_X11_read_184 : decAL cX11_read 184 0 185 := Or.inr ⟨0, rfl, by decide +kernel, rfl⟩
theorem d_X11_read_185 : dec 3 cX11_read 185 (.getfield 112) 188 := ⟨by decide +kernel, rfl⟩
theorem d_X11_read_188 : dec 1 cX11_read 188 .iastore 189 := ⟨by decide +kernel, rfl⟩
theorem d_X11_read_189 : decAL cX11_read 189 0 190 := Or.inr ⟨0, rfl, by decide +kernel, rfl⟩
theorem d_X11_read_190 : dec 3 cX11_read 190 (.getfield 7) 193 := ⟨by decide +kernel, rfl⟩
theorem d_X11_read_193 : dec 3 cX11_read 193 (.sipush 892) 196 := ⟨by decide +kernel, rfl⟩
theorem d_X11_read_196 : dec 1 cX11_read 196 .iaload 197 := ⟨by decide +kernel, rfl⟩
theorem d_X11_read_197 : decB cX11_read 197 (.ifCond .eq 5) (5) 200 202 := ⟨by decide +kernel, rfl, by decide⟩
theorem d_X11_read_200 : dec 1 cX11_read 200 (.iconst (-1)) 201 := ⟨by decide +kernel, rfl⟩
theorem d_X11_read_201 : dec 1 cX11_read 201 .ireturn 202 := ⟨by decide +kernel, rfl⟩
theorem d_X11_read_202 : dec 1 cX11_read 202 (.iconst 0) 203 := ⟨by decide +kernel, rfl⟩
theorem d_X11_read_203 : decIS cX11_read 203 2 204 := Or.inr ⟨2, rfl, by decide +kernel, rfl⟩
theorem d_X11_read_204 : decIL cX11_read 204 2 205 := Or.inr ⟨2, rfl, by decide +kernel, rfl⟩
theorem d_X11_read_205 : dec 3 cX11_read 205 (.sipush 891) 208 := ⟨by decide +kernel, rfl⟩
theorem d_X11_read_208 : decB cX11_read 208 (.if_icmp .ge 21) (21) 211 229 := ⟨by decide +kernel, rfl, by decide⟩
theorem d_X11_read_211 : decAL cX11_read 211 0 212 := Or.inr ⟨0, rfl, by decide +kernel, rfl⟩
theorem d_X11_read_212 : dec 3 cX11_read 212 (.getfield 7) 215 := ⟨by decide +kernel, rfl⟩
theorem d_X11_read_215 : decIL cX11_read 215 2 216 := Or.inr ⟨2, rfl, by decide +kernel, rfl⟩
theorem d_X11_read_216 : decAL cX11_read 216 0 217 := Or.inr ⟨0, rfl, by decide +kernel, rfl⟩
theorem d_X11_read_217 : dec 3 cX11_read 217 (.getfield 24) 220 := ⟨by decide +kernel, rfl⟩
theorem d_X11_read_220 : decIL cX11_read 220 2 221 := Or.inr ⟨2, rfl, by decide +kernel, rfl⟩
theorem d_X11_read_221 : dec 1 cX11_read 221 .iaload 222 := ⟨by decide +kernel, rfl⟩
theorem d_X11_read_222 : dec 1 cX11_read 222 .iastore 223 := ⟨by decide +kernel, rfl⟩
theorem d_X11_read_223 : dec 3 cX11_read 223 (.iinc 2 1) 226 := ⟨by decide +kernel, rfl⟩
theorem d_X11_read_226 : decB cX11_read 226 (.goto (-22)) (-22) 229 204 := ⟨by decide +kernel, rfl, by decide⟩
theorem d_X11_read_229 : decAL cX11_read 229 0 230 := Or.inr ⟨0, rfl, by decide +kernel, rfl⟩
theorem d_X11_read_230 : dec 1 cX11_read 230 (.iconst 0) 231 := ⟨by decide +kernel, rfl⟩
theorem d_X11_read_231 : dec 3 cX11_read 231 (.putfield 193) 234 := ⟨by decide +kernel, rfl⟩
theorem d_X11_read_234 : decAL cX11_read 234 0 235 := Or.inr ⟨0, rfl, by decide +kernel, rfl⟩
theorem d_X11_read_235 : dec 3 cX11_read 235 (.getfield 7) 238 := ⟨by decide +kernel, rfl⟩
theorem d_X11_read_238 : dec 1 cX11_read 238 (.iconst 0) 239 := ⟨by decide +kernel, rfl⟩
theorem d_X11_read_239 : dec 1 cX11_read 239 .iaload 240 := ⟨by decide +kernel, rfl⟩
theorem d_X11_read_240 : dec 1 cX11_read 240 .ireturn 241 := ⟨by decide +kernel, rfl⟩
def k_X11_read_229 (F : Nat)   (v0 : Nat)  (n : Nat) (G : GH) : Option (Int32 × Nat × GH) :=
  Option.bind (pV G v0 11 5 (.int (0 : Int32))) (fun (G21 : GH) =>
  Option.bind (gR G21 v0 11 1) (fun (x22 : Nat) =>
  Option.bind (aI G21 x22 0 (0 : Int32)) (fun (x23 : Int32) =>
  some (x23, n, G21))))
def b_X11_read_204 (F : Nat)   (v0 : Nat) (rec204 : Int32 → Nat → GH → Option (Int32 × Nat × GH)) : Int32 → Nat → GH → Option (Int32 × Nat × GH) := fun v2 n G =>
  if (891 : Int32) ≤ v2 then
  (k_X11_read_229 F   v0 n G)
  else (Option.bind (gR G v0 11 1) (fun (x24 : Nat) =>
  Option.bind (gR G v0 11 16) (fun (x25 : Nat) =>
  Option.bind (aI G x25 0 v2) (fun (x26 : Int32) =>
  Option.bind (aS G x24 0 v2 x26) (fun (G27 : GH) =>
  rec204 (v2 + 1) n G27)))))
def k_X11_read_188 (F : Nat)   (v0 : Nat) (s0 : Nat) (s1 : Int32) (s2 : Int32) (n : Nat) (G : GH) : Option (Int32 × Nat × GH) :=
  Option.bind (aS G s0 0 s1 s2) (fun (G18 : GH) =>
  Option.bind (gR G18 v0 11 1) (fun (x19 : Nat) =>
  Option.bind (aI G18 x19 0 (892 : Int32)) (fun (x20 : Int32) =>
  if x20 = 0 then
  (fixN (fun _ _ _ => none) (b_X11_read_204 F   v0) F (0 : Int32) n G18)
  else (some ((-1 : Int32), n, G18)))))
def k_X11_read_165 (F : Nat)   (v0 : Nat) (v1 : Int32) (s0 : Nat) (s1 : Int32) (s2 : Int32) (n : Nat) (G : GH) : Option (Int32 × Nat × GH) :=
  Option.bind (aS G s0 0 s1 s2) (fun (G15 : GH) =>
  Option.bind (gR G15 v0 11 1) (fun (x16 : Nat) =>
  if v1 = 0 then
  (Option.bind (gI G15 v0 11 13) (fun (x17 : Int32) =>
  k_X11_read_188 F   v0 x16 (893 : Int32) x17 n G15))
  else (Option.bind (gI G15 v0 11 14) (fun (x28 : Int32) =>
  k_X11_read_188 F   v0 x16 (893 : Int32) x28 n G15))))
def k_X11_read_146 (F : Nat)   (v0 : Nat) (v1 : Int32)  (n : Nat) (G : GH) : Option (Int32 × Nat × GH) :=
  Option.bind (gR G v0 11 1) (fun (x14 : Nat) =>
  if v1 = 0 then
  (k_X11_read_165 F   v0 v1 x14 (892 : Int32) (1 : Int32) n G)
  else (Option.bind (gI G v0 11 15) (fun (x29 : Int32) =>
  k_X11_read_165 F   v0 v1 x14 (892 : Int32) x29 n G)))
def b_X11_read_95 (F : Nat)   (v0 : Nat) (v1 : Int32) (rec95 : Int32 → Nat → GH → Option (Int32 × Nat × GH)) : Int32 → Nat → GH → Option (Int32 × Nat × GH) := fun v2 n G =>
  Option.bind (gI G v0 11 19) (fun (x13 : Int32) =>
  if x13 ≤ v2 then
  (k_X11_read_146 F   v0 v1 n G)
  else (Option.bind (gR G v0 11 18) (fun (x30 : Nat) =>
  Option.bind (aI G x30 0 v2) (fun (x31 : Int32) =>
  if (12 : Int32) ≤ x31 then
  (rec95 (v2 + 1) n G)
  else (Option.bind (gR G v0 11 18) (fun (x32 : Nat) =>
  Option.bind (aI G x32 0 v2) (fun (x33 : Int32) =>
  Option.bind (gR G v0 11 16) (fun (x34 : Nat) =>
  Option.bind (aI G x34 0 (0 : Int32)) (fun (x35 : Int32) =>
  if x33 < x35 then
  (rec95 (v2 + 1) n G)
  else (Option.bind (gR G v0 11 17) (fun (x36 : Nat) =>
  Option.bind (aI G x36 0 v2) (fun (x37 : Int32) =>
  cvU G v0 11 (f_X11_isBad F v0 (5 : Int32) x37 n G) (fun (n38 : Nat) (G39 : GH) =>
  rec95 (v2 + 1) n38 G39)))))))))))))
def k_X11_read_93 (F : Nat)   (v0 : Nat) (v1 : Int32)  (n : Nat) (G : GH) : Option (Int32 × Nat × GH) :=
  fixN (fun _ _ _ => none) (b_X11_read_95 F   v0 v1) F (0 : Int32) n G
def b_X11_read_74 (F : Nat)   (v0 : Nat) (rec74 : Int32 → Nat → GH → Option (Int32 × Nat × GH)) : Int32 → Nat → GH → Option (Int32 × Nat × GH) := fun v1 n G =>
  if v1 = 0 then
  (k_X11_read_93 F   v0 v1 n G)
  else (Option.bind (gI G v0 11 9) (fun (x40 : Int32) =>
  if x40 = 0 then
  (k_X11_read_93 F   v0 v1 n G)
  else (cvI G v0 11 (f_X11_line F v0 n G) (fun (x43 : Int32) (n41 : Nat) (G42 : GH) =>
  rec74 x43 n41 G42))))
def k_X11_read_48 (F : Nat)   (v0 : Nat)  (n : Nat) (G : GH) : Option (Int32 × Nat × GH) :=
  Option.bind (pV G v0 11 19 (.int (0 : Int32))) (fun (G7 : GH) =>
  Option.bind (pV G7 v0 11 15 (.int (0 : Int32))) (fun (G8 : GH) =>
  Option.bind (pV G8 v0 11 14 (.int (-1 : Int32))) (fun (G9 : GH) =>
  Option.bind (pV G9 v0 11 6 (.int (0 : Int32))) (fun (G10 : GH) =>
  cvU G10 v0 11 (f_X11_token F v0 n G10) (fun (n11 : Nat) (G12 : GH) =>
  fixN (fun _ _ _ => none) (b_X11_read_74 F   v0) F (1 : Int32) n11 G12)))))
def b_X11_read_28 (F : Nat)   (v0 : Nat) (rec28 : Int32 → Nat → GH → Option (Int32 × Nat × GH)) : Int32 → Nat → GH → Option (Int32 × Nat × GH) := fun v1 n G =>
  if (891 : Int32) ≤ v1 then
  (k_X11_read_48 F   v0 n G)
  else (Option.bind (gR G v0 11 16) (fun (x44 : Nat) =>
  Option.bind (aS G x44 0 v1 (0 : Int32)) (fun (G45 : GH) =>
  rec28 (v1 + 1) n G45)))
def f_X11_read (F : Nat)  (v0 : Nat) (n : Nat) (G : GH) : Option (Int32 × Nat × GH) :=
  Option.bind (pV G v0 11 0 (.int (0 : Int32))) (fun (G1 : GH) =>
  Option.bind (gR G1 v0 11 1) (fun (x2 : Nat) =>
  Option.bind (aI G1 x2 0 (891 : Int32)) (fun (x3 : Int32) =>
  Option.bind (pV G1 v0 11 7 (.int x3)) (fun (G4 : GH) =>
  Option.bind (gR G4 v0 11 1) (fun (x5 : Nat) =>
  Option.bind (aS G4 x5 0 (891 : Int32) (0 : Int32)) (fun (G6 : GH) =>
  fixN (fun _ _ _ => none) (b_X11_read_28 F   v0) F (0 : Int32) n G6))))))
set_option maxRecDepth 100000 in
set_option maxHeartbeats 4000000 in
theorem c_X11_read_229 {E : GE} {F : Nat}   {v0 : Nat}  {n : Nat} {G : GH} {z : Int32 × Nat × GH}   (h : k_X11_read_229 F   v0  n G = some z) : WG E RX11 "read" cX11_read 3 (some .int) 6 130 0 0 229 [(0, .ref v0)] [] n G (g_O E (some (.int z.1), z.2.1, z.2.2)) := by
  unfold k_X11_read_229 at h
  refine r_aload d_X11_read_229 rfl ?_
  refine r_iconst d_X11_read_230 ic_0 ?_
  refine r_put h d_X11_read_231 pw_X11_193 rfl rfl (fun G21 h => ?_)
  refine r_aload d_X11_read_234 rfl ?_
  refine r_getR h d_X11_read_235 pf_X11_7 (fun x22 h => ?_)
  refine r_iconst d_X11_read_238 ic_0 ?_
  refine r_iald h d_X11_read_239 (fun x23 h => ?_)
  exact r_iret h d_X11_read_240
set_option maxRecDepth 100000 in
set_option maxHeartbeats 4000000 in
theorem l_X11_read_204 {E : GE} {F : Nat}   {v0 : Nat}   : ∀ (K : Nat) (v2 : Int32) (n : Nat) (G : GH) (z : Int32 × Nat × GH), fixN ((fun _ _ _ => none) : Int32 → Nat → GH → Option (Int32 × Nat × GH)) (b_X11_read_204 F   v0) K v2 n G = some z → WG E RX11 "read" cX11_read 3 (some .int) 6 130 0 0 204 [(0, .ref v0), (2, .int v2)] [] n G (g_O E (some (.int z.1), z.2.1, z.2.2)) := by
  intro K
  refine fixN_ind (P := fun (r : Int32 → Nat → GH → Option (Int32 × Nat × GH)) => ∀ (v2 : Int32) (n : Nat) (G : GH) (z : Int32 × Nat × GH), r v2 n G = some z → WG E RX11 "read" cX11_read 3 (some .int) 6 130 0 0 204 [(0, .ref v0), (2, .int v2)] [] n G (g_O E (some (.int z.1), z.2.1, z.2.2))) ?_ ?_ K
  · intro v2 n G z h
    cases h
  · intro rec204 hrec204 v2 n G z h
    unfold b_X11_read_204 at h
    refine r_iload d_X11_read_204 rfl ?_
    refine r_sipush d_X11_read_205 sp_891 ?_
    refine r_icmp_ge h d_X11_read_208 (fun h => ?_) (fun h => ?_)
    · refine r_lv [(0, .ref v0)] (g_allc rfl g_alln) ?_
      exact c_X11_read_229   h
    · refine r_aload d_X11_read_211 rfl ?_
      refine r_getR h d_X11_read_212 pf_X11_7 (fun x24 h => ?_)
      refine r_iload d_X11_read_215 rfl ?_
      refine r_aload d_X11_read_216 rfl ?_
      refine r_getR h d_X11_read_217 pf_X11_24 (fun x25 h => ?_)
      refine r_iload d_X11_read_220 rfl ?_
      refine r_iald h d_X11_read_221 (fun x26 h => ?_)
      refine r_iast h d_X11_read_222 (fun G27 h => ?_)
      refine r_iinc d_X11_read_223 rfl (ii_1 _) rfl rfl ?_
      refine r_goto d_X11_read_226 ?_
      refine r_lv [(0, .ref v0), (2, .int (v2 + 1))] (g_allc rfl (g_allc rfl g_alln)) ?_
      exact hrec204 _ _ _ _ h
set_option maxRecDepth 100000 in
set_option maxHeartbeats 4000000 in
theorem c_X11_read_188 {E : GE} {F : Nat}   {v0 : Nat} {s0 : Nat} {s1 : Int32} {s2 : Int32} {n : Nat} {G : GH} {z : Int32 × Nat × GH}   (h : k_X11_read_188 F   v0 s0 s1 s2 n G = some z) : WG E RX11 "read" cX11_read 3 (some .int) 6 130 0 0 188 [(0, .ref v0)] [.int s2, .int s1, .ref s0] n G (g_O E (some (.int z.1), z.2.1, z.2.2)) := by
  unfold k_X11_read_188 at h
  refine r_iast h d_X11_read_188 (fun G18 h => ?_)
  refine r_aload d_X11_read_189 rfl ?_
  refine r_getR h d_X11_read_190 pf_X11_7 (fun x19 h => ?_)
  refine r_sipush d_X11_read_193 sp_892 ?_
  refine r_iald h d_X11_read_196 (fun x20 h => ?_)
  refine r_if_eq h d_X11_read_197 (fun h => ?_) (fun h => ?_)
  · refine r_iconst d_X11_read_202 ic_0 ?_
    refine r_istore d_X11_read_203 rfl rfl ?_
    refine r_lv [(0, .ref v0), (2, .int (0 : Int32))] (g_allc rfl (g_allc rfl g_alln)) ?_
    exact l_X11_read_204   _ _ _ _ _ h
  · refine r_iconst d_X11_read_200 ic_m1 ?_
    exact r_iret h d_X11_read_201
set_option maxRecDepth 100000 in
set_option maxHeartbeats 4000000 in
theorem c_X11_read_165 {E : GE} {F : Nat}   {v0 : Nat} {v1 : Int32} {s0 : Nat} {s1 : Int32} {s2 : Int32} {n : Nat} {G : GH} {z : Int32 × Nat × GH}   (h : k_X11_read_165 F   v0 v1 s0 s1 s2 n G = some z) : WG E RX11 "read" cX11_read 3 (some .int) 6 130 0 0 165 [(0, .ref v0), (1, .int v1)] [.int s2, .int s1, .ref s0] n G (g_O E (some (.int z.1), z.2.1, z.2.2)) := by
  unfold k_X11_read_165 at h
  refine r_iast h d_X11_read_165 (fun G15 h => ?_)
  refine r_aload d_X11_read_166 rfl ?_
  refine r_getR h d_X11_read_167 pf_X11_7 (fun x16 h => ?_)
  refine r_sipush d_X11_read_170 sp_893 ?_
  refine r_iload d_X11_read_173 rfl ?_
  refine r_if_eq h d_X11_read_174 (fun h => ?_) (fun h => ?_)
  · refine r_aload d_X11_read_184 rfl ?_
    refine r_getI h d_X11_read_185 pf_X11_112 (fun x17 h => ?_)
    refine r_lv [(0, .ref v0)] (g_allc rfl g_alln) ?_
    exact c_X11_read_188   h
  · refine r_aload d_X11_read_177 rfl ?_
    refine r_getI h d_X11_read_178 pf_X11_118 (fun x28 h => ?_)
    refine r_goto d_X11_read_181 ?_
    refine r_lv [(0, .ref v0)] (g_allc rfl g_alln) ?_
    exact c_X11_read_188   h
set_option maxRecDepth 100000 in
set_option maxHeartbeats 4000000 in
theorem c_X11_read_146 {E : GE} {F : Nat}   {v0 : Nat} {v1 : Int32}  {n : Nat} {G : GH} {z : Int32 × Nat × GH}   (h : k_X11_read_146 F   v0 v1  n G = some z) : WG E RX11 "read" cX11_read 3 (some .int) 6 130 0 0 146 [(0, .ref v0), (1, .int v1)] [] n G (g_O E (some (.int z.1), z.2.1, z.2.2)) := by
  unfold k_X11_read_146 at h
  refine r_aload d_X11_read_146 rfl ?_
  refine r_getR h d_X11_read_147 pf_X11_7 (fun x14 h => ?_)
  refine r_sipush d_X11_read_150 sp_892 ?_
  refine r_iload d_X11_read_153 rfl ?_
  refine r_if_eq h d_X11_read_154 (fun h => ?_) (fun h => ?_)
  · refine r_iconst d_X11_read_164 ic_1 ?_
    refine r_lv [(0, .ref v0), (1, .int v1)] (g_allc rfl (g_allc rfl g_alln)) ?_
    exact c_X11_read_165   h
  · refine r_aload d_X11_read_157 rfl ?_
    refine r_getI h d_X11_read_158 pf_X11_115 (fun x29 h => ?_)
    refine r_goto d_X11_read_161 ?_
    refine r_lv [(0, .ref v0), (1, .int v1)] (g_allc rfl (g_allc rfl g_alln)) ?_
    exact c_X11_read_165   h
set_option maxRecDepth 100000 in
set_option maxHeartbeats 4000000 in
theorem l_X11_read_95 {E : GE} {F : Nat}   {v0 : Nat} {v1 : Int32}   : ∀ (K : Nat) (v2 : Int32) (n : Nat) (G : GH) (z : Int32 × Nat × GH), fixN ((fun _ _ _ => none) : Int32 → Nat → GH → Option (Int32 × Nat × GH)) (b_X11_read_95 F   v0 v1) K v2 n G = some z → WG E RX11 "read" cX11_read 3 (some .int) 6 130 0 0 95 [(0, .ref v0), (1, .int v1), (2, .int v2)] [] n G (g_O E (some (.int z.1), z.2.1, z.2.2)) := by
  intro K
  refine fixN_ind (P := fun (r : Int32 → Nat → GH → Option (Int32 × Nat × GH)) => ∀ (v2 : Int32) (n : Nat) (G : GH) (z : Int32 × Nat × GH), r v2 n G = some z → WG E RX11 "read" cX11_read 3 (some .int) 6 130 0 0 95 [(0, .ref v0), (1, .int v1), (2, .int v2)] [] n G (g_O E (some (.int z.1), z.2.1, z.2.2))) ?_ ?_ K
  · intro v2 n G z h
    cases h
  · intro rec95 hrec95 v2 n G z h
    unfold b_X11_read_95 at h
    refine r_iload d_X11_read_95 rfl ?_
    refine r_aload d_X11_read_96 rfl ?_
    refine r_getI h d_X11_read_97 pf_X11_143 (fun x13 h => ?_)
    refine r_icmp_ge h d_X11_read_100 (fun h => ?_) (fun h => ?_)
    · refine r_lv [(0, .ref v0), (1, .int v1)] (g_allc rfl (g_allc rfl g_alln)) ?_
      exact c_X11_read_146   h
    · refine r_aload d_X11_read_103 rfl ?_
      refine r_getR h d_X11_read_104 pf_X11_30 (fun x30 h => ?_)
      refine r_iload d_X11_read_107 rfl ?_
      refine r_iald h d_X11_read_108 (fun x31 h => ?_)
      refine r_bipush d_X11_read_109 bp_12 ?_
      refine r_icmp_ge h d_X11_read_111 (fun h => ?_) (fun h => ?_)
      · refine r_iinc d_X11_read_140 rfl (ii_1 _) rfl rfl ?_
        refine r_goto d_X11_read_143 ?_
        refine r_lv [(0, .ref v0), (1, .int v1), (2, .int (v2 + 1))] (g_allc rfl (g_allc rfl (g_allc rfl g_alln))) ?_
        exact hrec95 _ _ _ _ h
      · refine r_aload d_X11_read_114 rfl ?_
        refine r_getR h d_X11_read_115 pf_X11_30 (fun x32 h => ?_)
        refine r_iload d_X11_read_118 rfl ?_
        refine r_iald h d_X11_read_119 (fun x33 h => ?_)
        refine r_aload d_X11_read_120 rfl ?_
        refine r_getR h d_X11_read_121 pf_X11_24 (fun x34 h => ?_)
        refine r_iconst d_X11_read_124 ic_0 ?_
        refine r_iald h d_X11_read_125 (fun x35 h => ?_)
        refine r_icmp_lt h d_X11_read_126 (fun h => ?_) (fun h => ?_)
        · refine r_iinc d_X11_read_140 rfl (ii_1 _) rfl rfl ?_
          refine r_goto d_X11_read_143 ?_
          refine r_lv [(0, .ref v0), (1, .int v1), (2, .int (v2 + 1))] (g_allc rfl (g_allc rfl (g_allc rfl g_alln))) ?_
          exact hrec95 _ _ _ _ h
        · refine r_aload d_X11_read_129 rfl ?_
          refine r_iconst d_X11_read_130 ic_5 ?_
          refine r_aload d_X11_read_131 rfl ?_
          refine r_getR h d_X11_read_132 pf_X11_27 (fun x36 h => ?_)
          refine r_iload d_X11_read_135 rfl ?_
          refine r_iald h d_X11_read_136 (fun x37 h => ?_)
          refine r_invU [_, _] h (fun _ hq => s_X11_isBad hq) d_X11_read_137 pl_X11_139 py_X11_isBad pi_X11_isBad rfl rfl rfl (fun n38 G39 h => ?_)
          refine r_iinc d_X11_read_140 rfl (ii_1 _) rfl rfl ?_
          refine r_goto d_X11_read_143 ?_
          refine r_lv [(0, .ref v0), (1, .int v1), (2, .int (v2 + 1))] (g_allc rfl (g_allc rfl (g_allc rfl g_alln))) ?_
          exact hrec95 _ _ _ _ h
set_option maxRecDepth 100000 in
set_option maxHeartbeats 4000000 in
theorem c_X11_read_93 {E : GE} {F : Nat}   {v0 : Nat} {v1 : Int32}  {n : Nat} {G : GH} {z : Int32 × Nat × GH}   (h : k_X11_read_93 F   v0 v1  n G = some z) : WG E RX11 "read" cX11_read 3 (some .int) 6 130 0 0 93 [(0, .ref v0), (1, .int v1)] [] n G (g_O E (some (.int z.1), z.2.1, z.2.2)) := by
  unfold k_X11_read_93 at h
  refine r_iconst d_X11_read_93 ic_0 ?_
  refine r_istore d_X11_read_94 rfl rfl ?_
  refine r_lv [(0, .ref v0), (1, .int v1), (2, .int (0 : Int32))] (g_allc rfl (g_allc rfl (g_allc rfl g_alln))) ?_
  exact l_X11_read_95   _ _ _ _ _ h
set_option maxRecDepth 100000 in
set_option maxHeartbeats 4000000 in
theorem l_X11_read_74 {E : GE} {F : Nat}   {v0 : Nat}   : ∀ (K : Nat) (v1 : Int32) (n : Nat) (G : GH) (z : Int32 × Nat × GH), fixN ((fun _ _ _ => none) : Int32 → Nat → GH → Option (Int32 × Nat × GH)) (b_X11_read_74 F   v0) K v1 n G = some z → WG E RX11 "read" cX11_read 3 (some .int) 6 130 0 0 74 [(0, .ref v0), (1, .int v1)] [] n G (g_O E (some (.int z.1), z.2.1, z.2.2)) := by
  intro K
  refine fixN_ind (P := fun (r : Int32 → Nat → GH → Option (Int32 × Nat × GH)) => ∀ (v1 : Int32) (n : Nat) (G : GH) (z : Int32 × Nat × GH), r v1 n G = some z → WG E RX11 "read" cX11_read 3 (some .int) 6 130 0 0 74 [(0, .ref v0), (1, .int v1)] [] n G (g_O E (some (.int z.1), z.2.1, z.2.2))) ?_ ?_ K
  · intro v1 n G z h
    cases h
  · intro rec74 hrec74 v1 n G z h
    unfold b_X11_read_74 at h
    refine r_iload d_X11_read_74 rfl ?_
    refine r_if_eq h d_X11_read_75 (fun h => ?_) (fun h => ?_)
    · refine r_lv [(0, .ref v0), (1, .int v1)] (g_allc rfl (g_allc rfl g_alln)) ?_
      exact c_X11_read_93   h
    · refine r_aload d_X11_read_78 rfl ?_
      refine r_getI h d_X11_read_79 pf_X11_106 (fun x40 h => ?_)
      refine r_if_eq h d_X11_read_82 (fun h => ?_) (fun h => ?_)
      · refine r_lv [(0, .ref v0), (1, .int v1)] (g_allc rfl (g_allc rfl g_alln)) ?_
        exact c_X11_read_93   h
      · refine r_aload d_X11_read_85 rfl ?_
        refine r_invI [] h (fun _ hq => s_X11_line hq) d_X11_read_86 pl_X11_190 py_X11_line pi_X11_line rfl rfl rfl (fun x43 n41 G42 h => ?_)
        refine r_istore d_X11_read_89 rfl rfl ?_
        refine r_goto d_X11_read_90 ?_
        refine r_lv [(0, .ref v0), (1, .int x43)] (g_allc rfl (g_allc rfl g_alln)) ?_
        exact hrec74 _ _ _ _ h
set_option maxRecDepth 100000 in
set_option maxHeartbeats 4000000 in
theorem c_X11_read_48 {E : GE} {F : Nat}   {v0 : Nat}  {n : Nat} {G : GH} {z : Int32 × Nat × GH}   (h : k_X11_read_48 F   v0  n G = some z) : WG E RX11 "read" cX11_read 3 (some .int) 6 130 0 0 48 [(0, .ref v0)] [] n G (g_O E (some (.int z.1), z.2.1, z.2.2)) := by
  unfold k_X11_read_48 at h
  refine r_aload d_X11_read_48 rfl ?_
  refine r_iconst d_X11_read_49 ic_0 ?_
  refine r_put h d_X11_read_50 pw_X11_143 rfl rfl (fun G7 h => ?_)
  refine r_aload d_X11_read_53 rfl ?_
  refine r_iconst d_X11_read_54 ic_0 ?_
  refine r_put h d_X11_read_55 pw_X11_115 rfl rfl (fun G8 h => ?_)
  refine r_aload d_X11_read_58 rfl ?_
  refine r_iconst d_X11_read_59 ic_m1 ?_
  refine r_put h d_X11_read_60 pw_X11_118 rfl rfl (fun G9 h => ?_)
  refine r_aload d_X11_read_63 rfl ?_
  refine r_iconst d_X11_read_64 ic_0 ?_
  refine r_put h d_X11_read_65 pw_X11_86 rfl rfl (fun G10 h => ?_)
  refine r_aload d_X11_read_68 rfl ?_
  refine r_invU [] h (fun _ hq => s_X11_token hq) d_X11_read_69 pl_X11_146 py_X11_token pi_X11_token rfl rfl rfl (fun n11 G12 h => ?_)
  refine r_iconst d_X11_read_72 ic_1 ?_
  refine r_istore d_X11_read_73 rfl rfl ?_
  refine r_lv [(0, .ref v0), (1, .int (1 : Int32))] (g_allc rfl (g_allc rfl g_alln)) ?_
  exact l_X11_read_74   _ _ _ _ _ h
set_option maxRecDepth 100000 in
set_option maxHeartbeats 4000000 in
theorem l_X11_read_28 {E : GE} {F : Nat}   {v0 : Nat}   : ∀ (K : Nat) (v1 : Int32) (n : Nat) (G : GH) (z : Int32 × Nat × GH), fixN ((fun _ _ _ => none) : Int32 → Nat → GH → Option (Int32 × Nat × GH)) (b_X11_read_28 F   v0) K v1 n G = some z → WG E RX11 "read" cX11_read 3 (some .int) 6 130 0 0 28 [(0, .ref v0), (1, .int v1)] [] n G (g_O E (some (.int z.1), z.2.1, z.2.2)) := by
  intro K
  refine fixN_ind (P := fun (r : Int32 → Nat → GH → Option (Int32 × Nat × GH)) => ∀ (v1 : Int32) (n : Nat) (G : GH) (z : Int32 × Nat × GH), r v1 n G = some z → WG E RX11 "read" cX11_read 3 (some .int) 6 130 0 0 28 [(0, .ref v0), (1, .int v1)] [] n G (g_O E (some (.int z.1), z.2.1, z.2.2))) ?_ ?_ K
  · intro v1 n G z h
    cases h
  · intro rec28 hrec28 v1 n G z h
    unfold b_X11_read_28 at h
    refine r_iload d_X11_read_28 rfl ?_
    refine r_sipush d_X11_read_29 sp_891 ?_
    refine r_icmp_ge h d_X11_read_32 (fun h => ?_) (fun h => ?_)
    · refine r_lv [(0, .ref v0)] (g_allc rfl g_alln) ?_
      exact c_X11_read_48   h
    · refine r_aload d_X11_read_35 rfl ?_
      refine r_getR h d_X11_read_36 pf_X11_24 (fun x44 h => ?_)
      refine r_iload d_X11_read_39 rfl ?_
      refine r_iconst d_X11_read_40 ic_0 ?_
      refine r_iast h d_X11_read_41 (fun G45 h => ?_)
      refine r_iinc d_X11_read_42 rfl (ii_1 _) rfl rfl ?_
      refine r_goto d_X11_read_45 ?_
      refine r_lv [(0, .ref v0), (1, .int (v1 + 1))] (g_allc rfl (g_allc rfl g_alln)) ?_
      exact hrec28 _ _ _ _ h
set_option maxRecDepth 100000 in
set_option maxHeartbeats 4000000 in
theorem s_X11_read {E : GE} {F : Nat}  {v0 : Nat} {n : Nat} {G : GH} {z : Int32 × Nat × GH}  (h : f_X11_read F  v0 n G = some z) : GM E yX11_read cX11_read 3 (some .int) 6 130 0 0 [.ref v0] n G (some (.int z.1), z.2.1, z.2.2) := by
  refine GM.of (by decide) (Nat.le_of_ble_eq_true rfl) ?_
  show WG E RX11 "read" cX11_read 3 (some .int) 6 130 0 0 0 [(0, .ref v0)] [] n G (g_O E (some (.int z.1), z.2.1, z.2.2))
  unfold f_X11_read at h
  refine r_aload d_X11_read_0 rfl ?_
  refine r_iconst d_X11_read_1 ic_0 ?_
  refine r_put h d_X11_read_2 pw_X11_72 rfl rfl (fun G1 h => ?_)
  refine r_aload d_X11_read_5 rfl ?_
  refine r_aload d_X11_read_6 rfl ?_
  refine r_getR h d_X11_read_7 pf_X11_7 (fun x2 h => ?_)
  refine r_sipush d_X11_read_10 sp_891 ?_
  refine r_iald h d_X11_read_13 (fun x3 h => ?_)
  refine r_put h d_X11_read_14 pw_X11_89 rfl rfl (fun G4 h => ?_)
  refine r_aload d_X11_read_17 rfl ?_
  refine r_getR h d_X11_read_18 pf_X11_7 (fun x5 h => ?_)
  refine r_sipush d_X11_read_21 sp_891 ?_
  refine r_iconst d_X11_read_24 ic_0 ?_
  refine r_iast h d_X11_read_25 (fun G6 h => ?_)
  refine r_iconst d_X11_read_26 ic_0 ?_
  refine r_istore d_X11_read_27 rfl rfl ?_
  refine r_lv [(0, .ref v0), (1, .int (0 : Int32))] (g_allc rfl (g_allc rfl g_alln)) ?_
  exact l_X11_read_28   _ _ _ _ _ h
/-! X11_fault -/
theorem d_X11_fault_0 : decAL cX11_fault 0 0 1 := Or.inr ⟨0, rfl, by decide +kernel, rfl⟩
theorem d_X11_fault_1 : dec 1 cX11_fault 1 (.iconst 0) 2 := ⟨by decide +kernel, rfl⟩
theorem d_X11_fault_2 : dec 3 cX11_fault 2 (.putfield 72) 5 := ⟨by decide +kernel, rfl⟩
theorem d_X11_fault_5 : decIL cX11_fault 5 1 6 := Or.inr ⟨1, rfl, by decide +kernel, rfl⟩
theorem d_X11_fault_6 : decB cX11_fault 6 (.ifCond .eq 14) (14) 9 20 := ⟨by decide +kernel, rfl, by decide⟩
theorem d_X11_fault_9 : decAL cX11_fault 9 0 10 := Or.inr ⟨0, rfl, by decide +kernel, rfl⟩
theorem d_X11_fault_10 : dec 3 cX11_fault 10 (.getfield 7) 13 := ⟨by decide +kernel, rfl⟩
theorem d_X11_fault_13 : dec 3 cX11_fault 13 (.sipush 893) 16 := ⟨by decide +kernel, rfl⟩
theorem d_X11_fault_16 : dec 1 cX11_fault 16 .iaload 17 := ⟨by decide +kernel, rfl⟩
theorem d_X11_fault_17 : decB cX11_fault 17 (.goto 11) (11) 20 28 := ⟨by decide +kernel, rfl, by decide⟩
theorem d_X11_fault_20 : decAL cX11_fault 20 0 21 := Or.inr ⟨0, rfl, by decide +kernel, rfl⟩
theorem d_X11_fault_21 : dec 3 cX11_fault 21 (.getfield 7) 24 := ⟨by decide +kernel, rfl⟩
theorem d_X11_fault_24 : dec 3 cX11_fault 24 (.sipush 892) 27 := ⟨by decide +kernel, rfl⟩
theorem d_X11_fault_27 : dec 1 cX11_fault 27 .iaload 28 := ⟨by decide +kernel, rfl⟩
theorem d_X11_fault_28 : dec 1 cX11_fault 28 .ireturn 29 := ⟨by decide +kernel, rfl⟩
def f_X11_fault (F : Nat)  (v0 : Nat) (v1 : Int32) (n : Nat) (G : GH) : Option (Int32 × Nat × GH) :=
  Option.bind (pV G v0 11 0 (.int (0 : Int32))) (fun (G1 : GH) =>
  if v1 = 0 then
  (Option.bind (gR G1 v0 11 1) (fun (x2 : Nat) =>
  Option.bind (aI G1 x2 0 (892 : Int32)) (fun (x3 : Int32) =>
  some (x3, n, G1))))
  else (Option.bind (gR G1 v0 11 1) (fun (x4 : Nat) =>
  Option.bind (aI G1 x4 0 (893 : Int32)) (fun (x5 : Int32) =>
  some (x5, n, G1)))))
set_option maxRecDepth 100000 in
set_option maxHeartbeats 4000000 in
theorem s_X11_fault {E : GE} {F : Nat}  {v0 : Nat} {v1 : Int32} {n : Nat} {G : GH} {z : Int32 × Nat × GH}  (h : f_X11_fault F  v0 v1 n G = some z) : GM E yX11_fault cX11_fault 2 (some .int) 0 0 0 0 [.ref v0, .int v1] n G (some (.int z.1), z.2.1, z.2.2) := by
  refine GM.of (by decide) (Nat.le_of_ble_eq_true rfl) ?_
  show WG E RX11 "fault" cX11_fault 2 (some .int) 0 0 0 0 0 [(0, .ref v0), (1, .int v1)] [] n G (g_O E (some (.int z.1), z.2.1, z.2.2))
  unfold f_X11_fault at h
  refine r_aload d_X11_fault_0 rfl ?_
  refine r_iconst d_X11_fault_1 ic_0 ?_
  refine r_put h d_X11_fault_2 pw_X11_72 rfl rfl (fun G1 h => ?_)
  refine r_iload d_X11_fault_5 rfl ?_
  refine r_if_eq h d_X11_fault_6 (fun h => ?_) (fun h => ?_)
  · refine r_aload d_X11_fault_20 rfl ?_
    refine r_getR h d_X11_fault_21 pf_X11_7 (fun x2 h => ?_)
    refine r_sipush d_X11_fault_24 sp_892 ?_
    refine r_iald h d_X11_fault_27 (fun x3 h => ?_)
    exact r_iret h d_X11_fault_28
  · refine r_aload d_X11_fault_9 rfl ?_
    refine r_getR h d_X11_fault_10 pf_X11_7 (fun x4 h => ?_)
    refine r_sipush d_X11_fault_13 sp_893 ?_
    refine r_iald h d_X11_fault_16 (fun x5 h => ?_)
    refine r_goto d_X11_fault_17 ?_
    exact r_iret h d_X11_fault_28
/-! X11_standsFor -/
theorem d_X11_standsFor_0 : decIL cX11_standsFor 0 2 1 := Or.inr ⟨2, rfl, by decide +kernel, rfl⟩
theorem d_X11_standsFor_1 : decIS cX11_standsFor 1 3 2 := Or.inr ⟨3, rfl, by decide +kernel, rfl⟩
theorem d_X11_standsFor_2 : decIL cX11_standsFor 2 3 3 := Or.inr ⟨3, rfl, by decide +kernel, rfl⟩
theorem d_X11_standsFor_3 : decB cX11_standsFor 3 (.ifCond .lt 45) (45) 6 48 := ⟨by decide +kernel, rfl, by decide⟩
theorem d_X11_standsFor_6 : decAL cX11_standsFor 6 0 7 := Or.inr ⟨0, rfl, by decide +kernel, rfl⟩
theorem d_X11_standsFor_7 : dec 3 cX11_standsFor 7 (.getfield 7) 10 := ⟨by decide +kernel, rfl⟩
theorem d_X11_standsFor_10 : dec 3 cX11_standsFor 10 (.sipush 146) 13 := ⟨by decide +kernel, rfl⟩
theorem d_X11_standsFor_13 : dec 2 cX11_standsFor 13 (.bipush 12) 15 := ⟨by decide +kernel, rfl⟩
theorem d_X11_standsFor_15 : decIL cX11_standsFor 15 3 16 := Or.inr ⟨3, rfl, by decide +kernel, rfl⟩
theorem d_X11_standsFor_16 : dec 1 cX11_standsFor 16 .imul 17 := ⟨by decide +kernel, rfl⟩
theorem d_X11_standsFor_17 : dec 1 cX11_standsFor 17 .iadd 18 := ⟨by decide +kernel, rfl⟩
theorem d_X11_standsFor_18 : decIL cX11_standsFor 18 1 19 := Or.inr ⟨1, rfl, by decide +kernel, rfl⟩
theorem d_X11_standsFor_19 : dec 1 cX11_standsFor 19 .iadd 20 := ⟨by decide +kernel, rfl⟩
theorem d_X11_standsFor_20 : dec 1 cX11_standsFor 20 .iaload 21 := ⟨by decide +kernel, rfl⟩
theorem d_X11_standsFor_21 : decB cX11_standsFor 21 (.ifCond .le 21) (21) 24 42 := ⟨by decide +kernel, rfl, by decide⟩
theorem d_X11_standsFor_24 : decAL cX11_standsFor 24 0 25 := Or.inr ⟨0, rfl, by decide +kernel, rfl⟩
theorem d_X11_standsFor_25 : dec 3 cX11_standsFor 25 (.getfield 7) 28 := ⟨by decide +kernel, rfl⟩
theorem d_X11_standsFor_28 : dec 3 cX11_standsFor 28 (.sipush 146) 31 := ⟨by decide +kernel, rfl⟩
theorem d_X11_standsFor_31 : dec 2 cX11_standsFor 31 (.bipush 12) 33 := ⟨by decide +kernel, rfl⟩
theorem d_X11_standsFor_33 : decIL cX11_standsFor 33 3 34 := Or.inr ⟨3, rfl, by decide +kernel, rfl⟩
theorem d_X11_standsFor_34 : dec 1 cX11_standsFor 34 .imul 35 := ⟨by decide +kernel, rfl⟩
theorem d_X11_standsFor_35 : dec 1 cX11_standsFor 35 .iadd 36 := ⟨by decide +kernel, rfl⟩
theorem d_X11_standsFor_36 : decIL cX11_standsFor 36 1 37 := Or.inr ⟨1, rfl, by decide +kernel, rfl⟩
theorem d_X11_standsFor_37 : dec 1 cX11_standsFor 37 .iadd 38 := ⟨by decide +kernel, rfl⟩
theorem d_X11_standsFor_38 : dec 1 cX11_standsFor 38 .iaload 39 := ⟨by decide +kernel, rfl⟩
theorem d_X11_standsFor_39 : dec 1 cX11_standsFor 39 (.iconst 1) 40 := ⟨by decide +kernel, rfl⟩
theorem d_X11_standsFor_40 : dec 1 cX11_standsFor 40 .isub 41 := ⟨by decide +kernel, rfl⟩
theorem d_X11_standsFor_41 : dec 1 cX11_standsFor 41 .ireturn 42 := ⟨by decide +kernel, rfl⟩
theorem d_X11_standsFor_42 : dec 3 cX11_standsFor 42 (.iinc 3 (-1)) 45 := ⟨by decide +kernel, rfl⟩
theorem d_X11_standsFor_45 : decB cX11_standsFor 45 (.goto (-43)) (-43) 48 2 := ⟨by decide +kernel, rfl, by decide⟩
theorem d_X11_standsFor_48 : decIL cX11_standsFor 48 1 49 := Or.inr ⟨1, rfl, by decide +kernel, rfl⟩
theorem d_X11_standsFor_49 : dec 1 cX11_standsFor 49 .ireturn 50 := ⟨by decide +kernel, rfl⟩
def k_X11_standsFor_24 (F : Nat)   (v0 : Nat) (v1 : Int32) (v3 : Int32)  (G : GH) : Option (Int32) :=
  Option.bind (gR G v0 11 1) (fun (x3 : Nat) =>
  Option.bind (aI G x3 0 (((146 : Int32) + ((12 : Int32) * v3)) + v1)) (fun (x4 : Int32) =>
  some (x4 - (1 : Int32))))
def b_X11_standsFor_2 (F : Nat)   (v0 : Nat) (v1 : Int32) (G : GH) (rec2 : Int32 → Option (Int32)) : Int32 → Option (Int32) := fun v3 =>
  if v3 < 0 then
  (some v1)
  else (Option.bind (gR G v0 11 1) (fun (x1 : Nat) =>
  Option.bind (aI G x1 0 (((146 : Int32) + ((12 : Int32) * v3)) + v1)) (fun (x2 : Int32) =>
  if x2 ≤ 0 then
  (rec2 (v3 + (-1)))
  else (k_X11_standsFor_24 F   v0 v1 v3 G))))
def f_X11_standsFor (F : Nat)  (v0 : Nat) (v1 : Int32) (v2 : Int32) (G : GH) : Option (Int32) :=
  fixN (fun _ => none) (b_X11_standsFor_2 F   v0 v1 G) F v2
set_option maxRecDepth 100000 in
set_option maxHeartbeats 4000000 in
theorem c_X11_standsFor_24 {E : GE} {F : Nat}   {v0 : Nat} {v1 : Int32} {v3 : Int32}  {n : Nat} {G : GH} {z : Int32}   (h : k_X11_standsFor_24 F   v0 v1 v3  G = some z) : WG E RX11 "standsFor" cX11_standsFor 4 (some .int) 0 0 0 0 24 [(0, .ref v0), (1, .int v1), (3, .int v3)] [] n G (g_O E (some (.int z), n, G)) := by
  unfold k_X11_standsFor_24 at h
  refine r_aload d_X11_standsFor_24 rfl ?_
  refine r_getR h d_X11_standsFor_25 pf_X11_7 (fun x3 h => ?_)
  refine r_sipush d_X11_standsFor_28 sp_146 ?_
  refine r_bipush d_X11_standsFor_31 bp_12 ?_
  refine r_iload d_X11_standsFor_33 rfl ?_
  refine r_imul d_X11_standsFor_34 ?_
  refine r_iadd d_X11_standsFor_35 ?_
  refine r_iload d_X11_standsFor_36 rfl ?_
  refine r_iadd d_X11_standsFor_37 ?_
  refine r_iald h d_X11_standsFor_38 (fun x4 h => ?_)
  refine r_iconst d_X11_standsFor_39 ic_1 ?_
  refine r_isub d_X11_standsFor_40 ?_
  exact r_pret h d_X11_standsFor_41
set_option maxRecDepth 100000 in
set_option maxHeartbeats 4000000 in
theorem l_X11_standsFor_2 {E : GE} {F : Nat}   {v0 : Nat} {v1 : Int32} {n : Nat} {G : GH}   : ∀ (K : Nat) (v3 : Int32) (z : Int32), fixN ((fun _ => none) : Int32 → Option (Int32)) (b_X11_standsFor_2 F   v0 v1 G) K v3 = some z → WG E RX11 "standsFor" cX11_standsFor 4 (some .int) 0 0 0 0 2 [(0, .ref v0), (1, .int v1), (3, .int v3)] [] n G (g_O E (some (.int z), n, G)) := by
  intro K
  refine fixN_ind (P := fun (r : Int32 → Option (Int32)) => ∀ (v3 : Int32) (z : Int32), r v3 = some z → WG E RX11 "standsFor" cX11_standsFor 4 (some .int) 0 0 0 0 2 [(0, .ref v0), (1, .int v1), (3, .int v3)] [] n G (g_O E (some (.int z), n, G))) ?_ ?_ K
  · intro v3 z h
    cases h
  · intro rec2 hrec2 v3 z h
    unfold b_X11_standsFor_2 at h
    refine r_iload d_X11_standsFor_2 rfl ?_
    refine r_if_lt h d_X11_standsFor_3 (fun h => ?_) (fun h => ?_)
    · refine r_iload d_X11_standsFor_48 rfl ?_
      exact r_pret h d_X11_standsFor_49
    · refine r_aload d_X11_standsFor_6 rfl ?_
      refine r_getR h d_X11_standsFor_7 pf_X11_7 (fun x1 h => ?_)
      refine r_sipush d_X11_standsFor_10 sp_146 ?_
      refine r_bipush d_X11_standsFor_13 bp_12 ?_
      refine r_iload d_X11_standsFor_15 rfl ?_
      refine r_imul d_X11_standsFor_16 ?_
      refine r_iadd d_X11_standsFor_17 ?_
      refine r_iload d_X11_standsFor_18 rfl ?_
      refine r_iadd d_X11_standsFor_19 ?_
      refine r_iald h d_X11_standsFor_20 (fun x2 h => ?_)
      refine r_if_le h d_X11_standsFor_21 (fun h => ?_) (fun h => ?_)
      · refine r_iinc d_X11_standsFor_42 rfl (ii_m1 _) rfl rfl ?_
        refine r_goto d_X11_standsFor_45 ?_
        refine r_lv [(0, .ref v0), (1, .int v1), (3, .int (v3 + (-1)))] (g_allc rfl (g_allc rfl (g_allc rfl g_alln))) ?_
        exact hrec2 _ _ h
      · refine r_lv [(0, .ref v0), (1, .int v1), (3, .int v3)] (g_allc rfl (g_allc rfl (g_allc rfl g_alln))) ?_
        exact c_X11_standsFor_24   h
set_option maxRecDepth 100000 in
set_option maxHeartbeats 4000000 in
theorem s_X11_standsFor {E : GE} {F : Nat}  {v0 : Nat} {v1 : Int32} {v2 : Int32} {n : Nat} {G : GH} {z : Int32}  (h : f_X11_standsFor F  v0 v1 v2 G = some z) : GM E yX11_standsFor cX11_standsFor 4 (some .int) 0 0 0 0 [.ref v0, .int v1, .int v2] n G (some (.int z), n, G) := by
  refine GM.of (by decide) (Nat.le_of_ble_eq_true rfl) ?_
  show WG E RX11 "standsFor" cX11_standsFor 4 (some .int) 0 0 0 0 0 [(0, .ref v0), (1, .int v1), (2, .int v2)] [] n G (g_O E (some (.int z), n, G))
  unfold f_X11_standsFor at h
  refine r_iload d_X11_standsFor_0 rfl ?_
  refine r_istore d_X11_standsFor_1 rfl rfl ?_
  refine r_lv [(0, .ref v0), (1, .int v1), (3, .int v2)] (g_allc rfl (g_allc rfl (g_allc rfl g_alln))) ?_
  exact l_X11_standsFor_2   _ _ _ h
/-! X11_thingOf -/
theorem py_X11_its : pY yX11_its cX11_its 3 (some .int) 2 := ⟨g_in 1355 (by decide +kernel) rfl, g_in 104 (by decide +kernel) rfl, by decide, by decide, by decide +kernel⟩
theorem pi_X11_its : pI yX11_its 11 := ⟨g_in 1354 (by decide +kernel) rfl, g_in 51 (by decide +kernel) rfl, (RX11, TX11, 37), rfl, rfl⟩
theorem pl_X11_196 : pL RX11 196 yX11_its := Or.inl (g_in 1352 (by decide +kernel) rfl)
theorem d_X11_thingOf_0 : dec 1 cX11_thingOf 0 (.iconst 0) 1 := ⟨by decide +kernel, rfl⟩
theorem d_X11_thingOf_1 : decIS cX11_thingOf 1 3 2 := Or.inr ⟨3, rfl, by decide +kernel, rfl⟩
theorem d_X11_thingOf_2 : decIL cX11_thingOf 2 3 3 := Or.inr ⟨3, rfl, by decide +kernel, rfl⟩
theorem d_X11_thingOf_3 : decAL cX11_thingOf 3 0 4 := Or.inr ⟨0, rfl, by decide +kernel, rfl⟩
theorem d_X11_thingOf_4 : dec 3 cX11_thingOf 4 (.getfield 7) 7 := ⟨by decide +kernel, rfl⟩
theorem d_X11_thingOf_7 : dec 3 cX11_thingOf 7 (.sipush 206) 10 := ⟨by decide +kernel, rfl⟩
theorem d_X11_thingOf_10 : dec 1 cX11_thingOf 10 .iaload 11 := ⟨by decide +kernel, rfl⟩
theorem d_X11_thingOf_11 : decB cX11_thingOf 11 (.if_icmp .ge 31) (31) 14 42 := ⟨by decide +kernel, rfl, by decide⟩
theorem d_X11_thingOf_14 : decAL cX11_thingOf 14 0 15 := Or.inr ⟨0, rfl, by decide +kernel, rfl⟩
theorem d_X11_thingOf_15 : decIL cX11_thingOf 15 3 16 := Or.inr ⟨3, rfl, by decide +kernel, rfl⟩
theorem d_X11_thingOf_16 : dec 1 cX11_thingOf 16 (.iconst 0) 17 := ⟨by decide +kernel, rfl⟩
theorem d_X11_thingOf_17 : dec 3 cX11_thingOf 17 (.invokevirtual 196) 20 := ⟨by decide +kernel, rfl⟩
theorem d_X11_thingOf_20 : decIL cX11_thingOf 20 1 21 := Or.inr ⟨1, rfl, by decide +kernel, rfl⟩
theorem d_X11_thingOf_21 : decB cX11_thingOf 21 (.if_icmp .ne 15) (15) 24 36 := ⟨by decide +kernel, rfl, by decide⟩
theorem d_X11_thingOf_24 : decAL cX11_thingOf 24 0 25 := Or.inr ⟨0, rfl, by decide +kernel, rfl⟩
theorem d_X11_thingOf_25 : decIL cX11_thingOf 25 3 26 := Or.inr ⟨3, rfl, by decide +kernel, rfl⟩
theorem d_X11_thingOf_26 : dec 1 cX11_thingOf 26 (.iconst 1) 27 := ⟨by decide +kernel, rfl⟩
theorem d_X11_thingOf_27 : dec 3 cX11_thingOf 27 (.invokevirtual 196) 30 := ⟨by decide +kernel, rfl⟩
theorem d_X11_thingOf_30 : decIL cX11_thingOf 30 2 31 := Or.inr ⟨2, rfl, by decide +kernel, rfl⟩
theorem d_X11_thingOf_31 : decB cX11_thingOf 31 (.if_icmp .ne 5) (5) 34 36 := ⟨by decide +kernel, rfl, by decide⟩
theorem d_X11_thingOf_34 : decIL cX11_thingOf 34 3 35 := Or.inr ⟨3, rfl, by decide +kernel, rfl⟩
theorem d_X11_thingOf_35 : dec 1 cX11_thingOf 35 .ireturn 36 := ⟨by decide +kernel, rfl⟩
theorem d_X11_thingOf_36 : dec 3 cX11_thingOf 36 (.iinc 3 1) 39 := ⟨by decide +kernel, rfl⟩
theorem d_X11_thingOf_39 : decB cX11_thingOf 39 (.goto (-37)) (-37) 42 2 := ⟨by decide +kernel, rfl, by decide⟩
theorem d_X11_thingOf_42 : dec 1 cX11_thingOf 42 (.iconst (-1)) 43 := ⟨by decide +kernel, rfl⟩
theorem d_X11_thingOf_43 : dec 1 cX11_thingOf 43 .ireturn 44 := ⟨by decide +kernel, rfl⟩
def b_X11_thingOf_2 (F : Nat)   (v0 : Nat) (v1 : Int32) (v2 : Int32) (G : GH) (rec2 : Int32 → Option (Int32)) : Int32 → Option (Int32) := fun v3 =>
  Option.bind (gR G v0 11 1) (fun (x1 : Nat) =>
  Option.bind (aI G x1 0 (206 : Int32)) (fun (x2 : Int32) =>
  if x2 ≤ v3 then
  (some (-1 : Int32))
  else (cvP G v0 11 (f_X11_its F v0 v3 (0 : Int32) G) (fun (x3 : Int32) =>
  if x3 = v1 then
  (cvP G v0 11 (f_X11_its F v0 v3 (1 : Int32) G) (fun (x4 : Int32) =>
  if x4 = v2 then
  (some v3)
  else (rec2 (v3 + 1))))
  else (rec2 (v3 + 1))))))
def f_X11_thingOf (F : Nat)  (v0 : Nat) (v1 : Int32) (v2 : Int32) (G : GH) : Option (Int32) :=
  fixN (fun _ => none) (b_X11_thingOf_2 F   v0 v1 v2 G) F (0 : Int32)
set_option maxRecDepth 100000 in
set_option maxHeartbeats 4000000 in
theorem l_X11_thingOf_2 {E : GE} {F : Nat}   {v0 : Nat} {v1 : Int32} {v2 : Int32} {n : Nat} {G : GH}   : ∀ (K : Nat) (v3 : Int32) (z : Int32), fixN ((fun _ => none) : Int32 → Option (Int32)) (b_X11_thingOf_2 F   v0 v1 v2 G) K v3 = some z → WG E RX11 "thingOf" cX11_thingOf 4 (some .int) 1 22 0 0 2 [(0, .ref v0), (1, .int v1), (2, .int v2), (3, .int v3)] [] n G (g_O E (some (.int z), n, G)) := by
  intro K
  refine fixN_ind (P := fun (r : Int32 → Option (Int32)) => ∀ (v3 : Int32) (z : Int32), r v3 = some z → WG E RX11 "thingOf" cX11_thingOf 4 (some .int) 1 22 0 0 2 [(0, .ref v0), (1, .int v1), (2, .int v2), (3, .int v3)] [] n G (g_O E (some (.int z), n, G))) ?_ ?_ K
  · intro v3 z h
    cases h
  · intro rec2 hrec2 v3 z h
    unfold b_X11_thingOf_2 at h
    refine r_iload d_X11_thingOf_2 rfl ?_
    refine r_aload d_X11_thingOf_3 rfl ?_
    refine r_getR h d_X11_thingOf_4 pf_X11_7 (fun x1 h => ?_)
    refine r_sipush d_X11_thingOf_7 sp_206 ?_
    refine r_iald h d_X11_thingOf_10 (fun x2 h => ?_)
    refine r_icmp_ge h d_X11_thingOf_11 (fun h => ?_) (fun h => ?_)
    · refine r_iconst d_X11_thingOf_42 ic_m1 ?_
      exact r_pret h d_X11_thingOf_43
    · refine r_aload d_X11_thingOf_14 rfl ?_
      refine r_iload d_X11_thingOf_15 rfl ?_
      refine r_iconst d_X11_thingOf_16 ic_0 ?_
      refine r_invP [_, _] h (fun _ hq => s_X11_its hq) d_X11_thingOf_17 pl_X11_196 py_X11_its pi_X11_its rfl rfl rfl (fun x3 h => ?_)
      refine r_iload d_X11_thingOf_20 rfl ?_
      refine r_icmp_ne h d_X11_thingOf_21 (fun h => ?_) (fun h => ?_)
      · refine r_iinc d_X11_thingOf_36 rfl (ii_1 _) rfl rfl ?_
        refine r_goto d_X11_thingOf_39 ?_
        refine r_lv [(0, .ref v0), (1, .int v1), (2, .int v2), (3, .int (v3 + 1))] (g_allc rfl (g_allc rfl (g_allc rfl (g_allc rfl g_alln)))) ?_
        exact hrec2 _ _ h
      · refine r_aload d_X11_thingOf_24 rfl ?_
        refine r_iload d_X11_thingOf_25 rfl ?_
        refine r_iconst d_X11_thingOf_26 ic_1 ?_
        refine r_invP [_, _] h (fun _ hq => s_X11_its hq) d_X11_thingOf_27 pl_X11_196 py_X11_its pi_X11_its rfl rfl rfl (fun x4 h => ?_)
        refine r_iload d_X11_thingOf_30 rfl ?_
        refine r_icmp_ne h d_X11_thingOf_31 (fun h => ?_) (fun h => ?_)
        · refine r_iinc d_X11_thingOf_36 rfl (ii_1 _) rfl rfl ?_
          refine r_goto d_X11_thingOf_39 ?_
          refine r_lv [(0, .ref v0), (1, .int v1), (2, .int v2), (3, .int (v3 + 1))] (g_allc rfl (g_allc rfl (g_allc rfl (g_allc rfl g_alln)))) ?_
          exact hrec2 _ _ h
        · refine r_iload d_X11_thingOf_34 rfl ?_
          exact r_pret h d_X11_thingOf_35
set_option maxRecDepth 100000 in
set_option maxHeartbeats 4000000 in
theorem s_X11_thingOf {E : GE} {F : Nat}  {v0 : Nat} {v1 : Int32} {v2 : Int32} {n : Nat} {G : GH} {z : Int32}  (h : f_X11_thingOf F  v0 v1 v2 G = some z) : GM E yX11_thingOf cX11_thingOf 4 (some .int) 1 22 0 0 [.ref v0, .int v1, .int v2] n G (some (.int z), n, G) := by
  refine GM.of (by decide) (Nat.le_of_ble_eq_true rfl) ?_
  show WG E RX11 "thingOf" cX11_thingOf 4 (some .int) 1 22 0 0 0 [(0, .ref v0), (1, .int v1), (2, .int v2)] [] n G (g_O E (some (.int z), n, G))
  unfold f_X11_thingOf at h
  refine r_iconst d_X11_thingOf_0 ic_0 ?_
  refine r_istore d_X11_thingOf_1 rfl rfl ?_
  refine r_lv [(0, .ref v0), (1, .int v1), (2, .int v2), (3, .int (0 : Int32))] (g_allc rfl (g_allc rfl (g_allc rfl (g_allc rfl g_alln)))) ?_
  exact l_X11_thingOf_2   _ _ _ h
/-! X11_isOnWay -/
theorem pf_X11_199 : pF RX11 199 11 26 := ⟨RX11, TX11, 37, rfl, by decide, rfl, Or.inl (g_in 1171 (by decide +kernel) rfl)⟩
theorem pf_X11_36 : pF RX11 36 11 21 := ⟨RX11, TX11, 37, rfl, by decide, rfl, Or.inl (g_in 1166 (by decide +kernel) rfl)⟩
theorem d_X11_isOnWay_0 : dec 1 cX11_isOnWay 0 (.iconst 0) 1 := ⟨by decide +kernel, rfl⟩
theorem d_X11_isOnWay_1 : decIS cX11_isOnWay 1 2 2 := Or.inr ⟨2, rfl, by decide +kernel, rfl⟩
theorem d_X11_isOnWay_2 : decIL cX11_isOnWay 2 2 3 := Or.inr ⟨2, rfl, by decide +kernel, rfl⟩
theorem d_X11_isOnWay_3 : decAL cX11_isOnWay 3 0 4 := Or.inr ⟨0, rfl, by decide +kernel, rfl⟩
theorem d_X11_isOnWay_4 : dec 3 cX11_isOnWay 4 (.getfield 199) 7 := ⟨by decide +kernel, rfl⟩
theorem d_X11_isOnWay_7 : decB cX11_isOnWay 7 (.if_icmp .ge 21) (21) 10 28 := ⟨by decide +kernel, rfl, by decide⟩
theorem d_X11_isOnWay_10 : decAL cX11_isOnWay 10 0 11 := Or.inr ⟨0, rfl, by decide +kernel, rfl⟩
theorem d_X11_isOnWay_11 : dec 3 cX11_isOnWay 11 (.getfield 36) 14 := ⟨by decide +kernel, rfl⟩
theorem d_X11_isOnWay_14 : decIL cX11_isOnWay 14 2 15 := Or.inr ⟨2, rfl, by decide +kernel, rfl⟩
theorem d_X11_isOnWay_15 : dec 1 cX11_isOnWay 15 .iaload 16 := ⟨by decide +kernel, rfl⟩
theorem d_X11_isOnWay_16 : decIL cX11_isOnWay 16 1 17 := Or.inr ⟨1, rfl, by decide +kernel, rfl⟩
theorem d_X11_isOnWay_17 : decB cX11_isOnWay 17 (.if_icmp .ne 5) (5) 20 22 := ⟨by decide +kernel, rfl, by decide⟩
theorem d_X11_isOnWay_20 : dec 1 cX11_isOnWay 20 (.iconst 1) 21 := ⟨by decide +kernel, rfl⟩
theorem d_X11_isOnWay_21 : dec 1 cX11_isOnWay 21 .ireturn 22 := ⟨by decide +kernel, rfl⟩
theorem d_X11_isOnWay_22 : dec 3 cX11_isOnWay 22 (.iinc 2 1) 25 := ⟨by decide +kernel, rfl⟩
theorem d_X11_isOnWay_25 : decB cX11_isOnWay 25 (.goto (-23)) (-23) 28 2 := ⟨by decide +kernel, rfl, by decide⟩
theorem d_X11_isOnWay_28 : dec 1 cX11_isOnWay 28 (.iconst 0) 29 := ⟨by decide +kernel, rfl⟩
theorem d_X11_isOnWay_29 : dec 1 cX11_isOnWay 29 .ireturn 30 := ⟨by decide +kernel, rfl⟩
def b_X11_isOnWay_2 (F : Nat)   (v0 : Nat) (v1 : Int32) (G : GH) (rec2 : Int32 → Option (Int32)) : Int32 → Option (Int32) := fun v2 =>
  Option.bind (gI G v0 11 26) (fun (x1 : Int32) =>
  if x1 ≤ v2 then
  (rP .boolean (0 : Int32))
  else (Option.bind (gR G v0 11 21) (fun (x2 : Nat) =>
  Option.bind (aI G x2 0 v2) (fun (x3 : Int32) =>
  if x3 = v1 then
  (rP .boolean (1 : Int32))
  else (rec2 (v2 + 1))))))
def f_X11_isOnWay (F : Nat)  (v0 : Nat) (v1 : Int32) (G : GH) : Option (Int32) :=
  fixN (fun _ => none) (b_X11_isOnWay_2 F   v0 v1 G) F (0 : Int32)
set_option maxRecDepth 100000 in
set_option maxHeartbeats 4000000 in
theorem l_X11_isOnWay_2 {E : GE} {F : Nat}   {v0 : Nat} {v1 : Int32} {n : Nat} {G : GH}   : ∀ (K : Nat) (v2 : Int32) (z : Int32), fixN ((fun _ => none) : Int32 → Option (Int32)) (b_X11_isOnWay_2 F   v0 v1 G) K v2 = some z → WG E RX11 "isOnWay" cX11_isOnWay 3 (some .boolean) 0 0 0 0 2 [(0, .ref v0), (1, .int v1), (2, .int v2)] [] n G (g_O E (some (.int z), n, G)) := by
  intro K
  refine fixN_ind (P := fun (r : Int32 → Option (Int32)) => ∀ (v2 : Int32) (z : Int32), r v2 = some z → WG E RX11 "isOnWay" cX11_isOnWay 3 (some .boolean) 0 0 0 0 2 [(0, .ref v0), (1, .int v1), (2, .int v2)] [] n G (g_O E (some (.int z), n, G))) ?_ ?_ K
  · intro v2 z h
    cases h
  · intro rec2 hrec2 v2 z h
    unfold b_X11_isOnWay_2 at h
    refine r_iload d_X11_isOnWay_2 rfl ?_
    refine r_aload d_X11_isOnWay_3 rfl ?_
    refine r_getI h d_X11_isOnWay_4 pf_X11_199 (fun x1 h => ?_)
    refine r_icmp_ge h d_X11_isOnWay_7 (fun h => ?_) (fun h => ?_)
    · refine r_iconst d_X11_isOnWay_28 ic_0 ?_
      exact r_pzret h d_X11_isOnWay_29
    · refine r_aload d_X11_isOnWay_10 rfl ?_
      refine r_getR h d_X11_isOnWay_11 pf_X11_36 (fun x2 h => ?_)
      refine r_iload d_X11_isOnWay_14 rfl ?_
      refine r_iald h d_X11_isOnWay_15 (fun x3 h => ?_)
      refine r_iload d_X11_isOnWay_16 rfl ?_
      refine r_icmp_ne h d_X11_isOnWay_17 (fun h => ?_) (fun h => ?_)
      · refine r_iinc d_X11_isOnWay_22 rfl (ii_1 _) rfl rfl ?_
        refine r_goto d_X11_isOnWay_25 ?_
        refine r_lv [(0, .ref v0), (1, .int v1), (2, .int (v2 + 1))] (g_allc rfl (g_allc rfl (g_allc rfl g_alln))) ?_
        exact hrec2 _ _ h
      · refine r_iconst d_X11_isOnWay_20 ic_1 ?_
        exact r_pzret h d_X11_isOnWay_21
set_option maxRecDepth 100000 in
set_option maxHeartbeats 4000000 in
theorem s_X11_isOnWay {E : GE} {F : Nat}  {v0 : Nat} {v1 : Int32} {n : Nat} {G : GH} {z : Int32}  (h : f_X11_isOnWay F  v0 v1 G = some z) : GM E yX11_isOnWay cX11_isOnWay 3 (some .boolean) 0 0 0 0 [.ref v0, .int v1] n G (some (.int z), n, G) := by
  refine GM.of (by decide) (Nat.le_of_ble_eq_true rfl) ?_
  show WG E RX11 "isOnWay" cX11_isOnWay 3 (some .boolean) 0 0 0 0 0 [(0, .ref v0), (1, .int v1)] [] n G (g_O E (some (.int z), n, G))
  unfold f_X11_isOnWay at h
  refine r_iconst d_X11_isOnWay_0 ic_0 ?_
  refine r_istore d_X11_isOnWay_1 rfl rfl ?_
  refine r_lv [(0, .ref v0), (1, .int v1), (2, .int (0 : Int32))] (g_allc rfl (g_allc rfl (g_allc rfl g_alln))) ?_
  exact l_X11_isOnWay_2   _ _ _ h
/-! X11_whyAlso -/
theorem d_X11_whyAlso_0 : decAL cX11_whyAlso 0 0 1 := Or.inr ⟨0, rfl, by decide +kernel, rfl⟩
theorem d_X11_whyAlso_1 : dec 3 cX11_whyAlso 1 (.getfield 7) 4 := ⟨by decide +kernel, rfl⟩
theorem d_X11_whyAlso_4 : dec 3 cX11_whyAlso 4 (.sipush 811) 7 := ⟨by decide +kernel, rfl⟩
theorem d_X11_whyAlso_7 : decAL cX11_whyAlso 7 0 8 := Or.inr ⟨0, rfl, by decide +kernel, rfl⟩
theorem d_X11_whyAlso_8 : dec 3 cX11_whyAlso 8 (.getfield 7) 11 := ⟨by decide +kernel, rfl⟩
theorem d_X11_whyAlso_11 : dec 3 cX11_whyAlso 11 (.sipush 809) 14 := ⟨by decide +kernel, rfl⟩
theorem d_X11_whyAlso_14 : dec 1 cX11_whyAlso 14 .iaload 15 := ⟨by decide +kernel, rfl⟩
theorem d_X11_whyAlso_15 : dec 1 cX11_whyAlso 15 .iadd 16 := ⟨by decide +kernel, rfl⟩
theorem d_X11_whyAlso_16 : decIL cX11_whyAlso 16 1 17 := Or.inr ⟨1, rfl, by decide +kernel, rfl⟩
theorem d_X11_whyAlso_17 : dec 1 cX11_whyAlso 17 .iastore 18 := ⟨by decide +kernel, rfl⟩
theorem d_X11_whyAlso_18 : decAL cX11_whyAlso 18 0 19 := Or.inr ⟨0, rfl, by decide +kernel, rfl⟩
theorem d_X11_whyAlso_19 : dec 3 cX11_whyAlso 19 (.getfield 7) 22 := ⟨by decide +kernel, rfl⟩
theorem d_X11_whyAlso_22 : dec 3 cX11_whyAlso 22 (.sipush 809) 25 := ⟨by decide +kernel, rfl⟩
theorem d_X11_whyAlso_25 : dec 1 cX11_whyAlso 25 .dup2 26 := ⟨by decide +kernel, rfl⟩
theorem d_X11_whyAlso_26 : dec 1 cX11_whyAlso 26 .iaload 27 := ⟨by decide +kernel, rfl⟩
theorem d_X11_whyAlso_27 : dec 1 cX11_whyAlso 27 (.iconst 1) 28 := ⟨by decide +kernel, rfl⟩
theorem d_X11_whyAlso_28 : dec 1 cX11_whyAlso 28 .iadd 29 := ⟨by decide +kernel, rfl⟩
theorem d_X11_whyAlso_29 : dec 1 cX11_whyAlso 29 .iastore 30 := ⟨by decide +kernel, rfl⟩
theorem d_X11_whyAlso_30 : dec 1 cX11_whyAlso 30 .return_ 31 := ⟨by decide +kernel, rfl⟩
def f_X11_whyAlso (F : Nat)  (v0 : Nat) (v1 : Int32) (n : Nat) (G : GH) : Option (Nat × GH) :=
  Option.bind (gR G v0 11 1) (fun (x1 : Nat) =>
  Option.bind (gR G v0 11 1) (fun (x2 : Nat) =>
  Option.bind (aI G x2 0 (809 : Int32)) (fun (x3 : Int32) =>
  Option.bind (aS G x1 0 ((811 : Int32) + x3) v1) (fun (G4 : GH) =>
  Option.bind (gR G4 v0 11 1) (fun (x5 : Nat) =>
  Option.bind (aI G4 x5 0 (809 : Int32)) (fun (x6 : Int32) =>
  Option.bind (aS G4 x5 0 (809 : Int32) (x6 + (1 : Int32))) (fun (G7 : GH) =>
  some (n, G7))))))))
set_option maxRecDepth 100000 in
set_option maxHeartbeats 4000000 in
theorem s_X11_whyAlso {E : GE} {F : Nat}  {v0 : Nat} {v1 : Int32} {n : Nat} {G : GH} {z : Nat × GH}  (h : f_X11_whyAlso F  v0 v1 n G = some z) : GM E yX11_whyAlso cX11_whyAlso 2 none 0 0 0 0 [.ref v0, .int v1] n G (none, z.1, z.2) := by
  refine GM.of (by decide) (Nat.le_of_ble_eq_true rfl) ?_
  show WG E RX11 "whyAlso" cX11_whyAlso 2 none 0 0 0 0 0 [(0, .ref v0), (1, .int v1)] [] n G (g_O E (none, z.1, z.2))
  unfold f_X11_whyAlso at h
  refine r_aload d_X11_whyAlso_0 rfl ?_
  refine r_getR h d_X11_whyAlso_1 pf_X11_7 (fun x1 h => ?_)
  refine r_sipush d_X11_whyAlso_4 sp_811 ?_
  refine r_aload d_X11_whyAlso_7 rfl ?_
  refine r_getR h d_X11_whyAlso_8 pf_X11_7 (fun x2 h => ?_)
  refine r_sipush d_X11_whyAlso_11 sp_809 ?_
  refine r_iald h d_X11_whyAlso_14 (fun x3 h => ?_)
  refine r_iadd d_X11_whyAlso_15 ?_
  refine r_iload d_X11_whyAlso_16 rfl ?_
  refine r_iast h d_X11_whyAlso_17 (fun G4 h => ?_)
  refine r_aload d_X11_whyAlso_18 rfl ?_
  refine r_getR h d_X11_whyAlso_19 pf_X11_7 (fun x5 h => ?_)
  refine r_sipush d_X11_whyAlso_22 sp_809 ?_
  refine r_dup2 d_X11_whyAlso_25 rfl rfl ?_
  refine r_iald h d_X11_whyAlso_26 (fun x6 h => ?_)
  refine r_iconst d_X11_whyAlso_27 ic_1 ?_
  refine r_iadd d_X11_whyAlso_28 ?_
  refine r_iast h d_X11_whyAlso_29 (fun G7 h => ?_)
  exact r_vret h d_X11_whyAlso_30
/-! X11_tellsWhy -/
theorem pf_X11_202 : pF RX11 202 11 29 := ⟨RX11, TX11, 37, rfl, by decide, rfl, Or.inl (g_in 1174 (by decide +kernel) rfl)⟩
theorem py_X11_whyAlso : pY yX11_whyAlso cX11_whyAlso 2 none 1 := ⟨g_in 1411 (by decide +kernel) rfl, g_in 104 (by decide +kernel) rfl, by decide, by decide, by decide +kernel⟩
theorem pi_X11_whyAlso : pI yX11_whyAlso 11 := ⟨g_in 1410 (by decide +kernel) rfl, g_in 63 (by decide +kernel) rfl, (RX11, TX11, 37), rfl, rfl⟩
theorem pl_X11_205 : pL RX11 205 yX11_whyAlso := Or.inl (g_in 1408 (by decide +kernel) rfl)
theorem pf_X11_51 : pF RX11 51 11 27 := ⟨RX11, TX11, 37, rfl, by decide, rfl, Or.inl (g_in 1172 (by decide +kernel) rfl)⟩
theorem d_X11_tellsWhy_0 : decAL cX11_tellsWhy 0 0 1 := Or.inr ⟨0, rfl, by decide +kernel, rfl⟩
theorem d_X11_tellsWhy_1 : dec 3 cX11_tellsWhy 1 (.getfield 7) 4 := ⟨by decide +kernel, rfl⟩
theorem d_X11_tellsWhy_4 : dec 3 cX11_tellsWhy 4 (.sipush 809) 7 := ⟨by decide +kernel, rfl⟩
theorem d_X11_tellsWhy_7 : dec 1 cX11_tellsWhy 7 (.iconst 0) 8 := ⟨by decide +kernel, rfl⟩
theorem d_X11_tellsWhy_8 : dec 1 cX11_tellsWhy 8 .iastore 9 := ⟨by decide +kernel, rfl⟩
theorem d_X11_tellsWhy_9 : decAL cX11_tellsWhy 9 0 10 := Or.inr ⟨0, rfl, by decide +kernel, rfl⟩
theorem d_X11_tellsWhy_10 : dec 3 cX11_tellsWhy 10 (.getfield 7) 13 := ⟨by decide +kernel, rfl⟩
theorem d_X11_tellsWhy_13 : dec 3 cX11_tellsWhy 13 (.sipush 810) 16 := ⟨by decide +kernel, rfl⟩
theorem d_X11_tellsWhy_16 : decIL cX11_tellsWhy 16 1 17 := Or.inr ⟨1, rfl, by decide +kernel, rfl⟩
theorem d_X11_tellsWhy_17 : dec 1 cX11_tellsWhy 17 .iastore 18 := ⟨by decide +kernel, rfl⟩
theorem d_X11_tellsWhy_18 : dec 1 cX11_tellsWhy 18 (.iconst 0) 19 := ⟨by decide +kernel, rfl⟩
theorem d_X11_tellsWhy_19 : decIS cX11_tellsWhy 19 3 20 := Or.inr ⟨3, rfl, by decide +kernel, rfl⟩
theorem d_X11_tellsWhy_20 : decIL cX11_tellsWhy 20 3 21 := Or.inr ⟨3, rfl, by decide +kernel, rfl⟩
theorem d_X11_tellsWhy_21 : decAL cX11_tellsWhy 21 0 22 := Or.inr ⟨0, rfl, by decide +kernel, rfl⟩
theorem d_X11_tellsWhy_22 : dec 3 cX11_tellsWhy 22 (.getfield 202) 25 := ⟨by decide +kernel, rfl⟩
theorem d_X11_tellsWhy_25 : decB cX11_tellsWhy 25 (.if_icmp .ge 24) (24) 28 49 := ⟨by decide +kernel, rfl, by decide⟩
theorem d_X11_tellsWhy_28 : decAL cX11_tellsWhy 28 0 29 := Or.inr ⟨0, rfl, by decide +kernel, rfl⟩
theorem d_X11_tellsWhy_29 : decAL cX11_tellsWhy 29 0 30 := Or.inr ⟨0, rfl, by decide +kernel, rfl⟩
theorem d_X11_tellsWhy_30 : decAL cX11_tellsWhy 30 0 31 := Or.inr ⟨0, rfl, by decide +kernel, rfl⟩
theorem d_X11_tellsWhy_31 : dec 3 cX11_tellsWhy 31 (.getfield 51) 34 := ⟨by decide +kernel, rfl⟩
theorem d_X11_tellsWhy_34 : decIL cX11_tellsWhy 34 3 35 := Or.inr ⟨3, rfl, by decide +kernel, rfl⟩
theorem d_X11_tellsWhy_35 : dec 1 cX11_tellsWhy 35 .iaload 36 := ⟨by decide +kernel, rfl⟩
theorem d_X11_tellsWhy_36 : dec 1 cX11_tellsWhy 36 (.iconst 0) 37 := ⟨by decide +kernel, rfl⟩
theorem d_X11_tellsWhy_37 : dec 3 cX11_tellsWhy 37 (.invokevirtual 196) 40 := ⟨by decide +kernel, rfl⟩
theorem d_X11_tellsWhy_40 : dec 3 cX11_tellsWhy 40 (.invokevirtual 205) 43 := ⟨by decide +kernel, rfl⟩
theorem d_X11_tellsWhy_43 : dec 3 cX11_tellsWhy 43 (.iinc 3 1) 46 := ⟨by decide +kernel, rfl⟩
theorem d_X11_tellsWhy_46 : decB cX11_tellsWhy 46 (.goto (-26)) (-26) 49 20 := ⟨by decide +kernel, rfl, by decide⟩
theorem d_X11_tellsWhy_49 : dec 1 cX11_tellsWhy 49 (.iconst 0) 50 := ⟨by decide +kernel, rfl⟩
theorem d_X11_tellsWhy_50 : decIS cX11_tellsWhy 50 3 51 := Or.inr ⟨3, rfl, by decide +kernel, rfl⟩
theorem d_X11_tellsWhy_51 : decIL cX11_tellsWhy 51 3 52 := Or.inr ⟨3, rfl, by decide +kernel, rfl⟩
theorem d_X11_tellsWhy_52 : decAL cX11_tellsWhy 52 0 53 := Or.inr ⟨0, rfl, by decide +kernel, rfl⟩
theorem d_X11_tellsWhy_53 : dec 3 cX11_tellsWhy 53 (.getfield 199) 56 := ⟨by decide +kernel, rfl⟩
theorem d_X11_tellsWhy_56 : decB cX11_tellsWhy 56 (.if_icmp .ge 19) (19) 59 75 := ⟨by decide +kernel, rfl, by decide⟩
theorem d_X11_tellsWhy_59 : decAL cX11_tellsWhy 59 0 60 := Or.inr ⟨0, rfl, by decide +kernel, rfl⟩
theorem d_X11_tellsWhy_60 : decAL cX11_tellsWhy 60 0 61 := Or.inr ⟨0, rfl, by decide +kernel, rfl⟩
theorem d_X11_tellsWhy_61 : dec 3 cX11_tellsWhy 61 (.getfield 36) 64 := ⟨by decide +kernel, rfl⟩
theorem d_X11_tellsWhy_64 : decIL cX11_tellsWhy 64 3 65 := Or.inr ⟨3, rfl, by decide +kernel, rfl⟩
theorem d_X11_tellsWhy_65 : dec 1 cX11_tellsWhy 65 .iaload 66 := ⟨by decide +kernel, rfl⟩
theorem d_X11_tellsWhy_66 : dec 3 cX11_tellsWhy 66 (.invokevirtual 205) 69 := ⟨by decide +kernel, rfl⟩
theorem d_X11_tellsWhy_69 : dec 3 cX11_tellsWhy 69 (.iinc 3 1) 72 := ⟨by decide +kernel, rfl⟩
theorem d_X11_tellsWhy_72 : decB cX11_tellsWhy 72 (.goto (-21)) (-21) 75 51 := ⟨by decide +kernel, rfl, by decide⟩
theorem d_X11_tellsWhy_75 : decIL cX11_tellsWhy 75 2 76 := Or.inr ⟨2, rfl, by decide +kernel, rfl⟩
theorem d_X11_tellsWhy_76 : dec 1 cX11_tellsWhy 76 (.iconst (-1)) 77 := ⟨by decide +kernel, rfl⟩
theorem d_X11_tellsWhy_77 : decB cX11_tellsWhy 77 (.if_icmp .eq 8) (8) 80 85 := ⟨by decide +kernel, rfl, by decide⟩
theorem d_X11_tellsWhy_80 : decAL cX11_tellsWhy 80 0 81 := Or.inr ⟨0, rfl, by decide +kernel, rfl⟩
theorem d_X11_tellsWhy_81 : decIL cX11_tellsWhy 81 2 82 := Or.inr ⟨2, rfl, by decide +kernel, rfl⟩
theorem d_X11_tellsWhy_82 : dec 3 cX11_tellsWhy 82 (.invokevirtual 205) 85 := ⟨by decide +kernel, rfl⟩
theorem d_X11_tellsWhy_85 : decIL cX11_tellsWhy 85 1 86 := Or.inr ⟨1, rfl, by decide +kernel, rfl⟩
theorem d_X11_tellsWhy_86 : dec 1 cX11_tellsWhy 86 .ireturn 87 := ⟨by decide +kernel, rfl⟩
def k_X11_tellsWhy_75 (F : Nat)   (v0 : Nat) (v1 : Int32) (v2 : Int32)  (n : Nat) (G : GH) : Option (Int32 × Nat × GH) :=
  if v2 = (-1 : Int32) then
  (some (v1, n, G))
  else (cvU G v0 11 (f_X11_whyAlso F v0 v2 n G) (fun (n7 : Nat) (G8 : GH) =>
  some (v1, n7, G8)))
def b_X11_tellsWhy_51 (F : Nat)   (v0 : Nat) (v1 : Int32) (v2 : Int32) (rec51 : Int32 → Nat → GH → Option (Int32 × Nat × GH)) : Int32 → Nat → GH → Option (Int32 × Nat × GH) := fun v3 n G =>
  Option.bind (gI G v0 11 26) (fun (x6 : Int32) =>
  if x6 ≤ v3 then
  (k_X11_tellsWhy_75 F   v0 v1 v2 n G)
  else (Option.bind (gR G v0 11 21) (fun (x9 : Nat) =>
  Option.bind (aI G x9 0 v3) (fun (x10 : Int32) =>
  cvU G v0 11 (f_X11_whyAlso F v0 x10 n G) (fun (n11 : Nat) (G12 : GH) =>
  rec51 (v3 + 1) n11 G12)))))
def k_X11_tellsWhy_49 (F : Nat)   (v0 : Nat) (v1 : Int32) (v2 : Int32)  (n : Nat) (G : GH) : Option (Int32 × Nat × GH) :=
  fixN (fun _ _ _ => none) (b_X11_tellsWhy_51 F   v0 v1 v2) F (0 : Int32) n G
def b_X11_tellsWhy_20 (F : Nat)   (v0 : Nat) (v1 : Int32) (v2 : Int32) (rec20 : Int32 → Nat → GH → Option (Int32 × Nat × GH)) : Int32 → Nat → GH → Option (Int32 × Nat × GH) := fun v3 n G =>
  Option.bind (gI G v0 11 29) (fun (x5 : Int32) =>
  if x5 ≤ v3 then
  (k_X11_tellsWhy_49 F   v0 v1 v2 n G)
  else (Option.bind (gR G v0 11 27) (fun (x13 : Nat) =>
  Option.bind (aI G x13 0 v3) (fun (x14 : Int32) =>
  cvP G v0 11 (f_X11_its F v0 x14 (0 : Int32) G) (fun (x15 : Int32) =>
  cvU G v0 11 (f_X11_whyAlso F v0 x15 n G) (fun (n16 : Nat) (G17 : GH) =>
  rec20 (v3 + 1) n16 G17))))))
def f_X11_tellsWhy (F : Nat)  (v0 : Nat) (v1 : Int32) (v2 : Int32) (n : Nat) (G : GH) : Option (Int32 × Nat × GH) :=
  Option.bind (gR G v0 11 1) (fun (x1 : Nat) =>
  Option.bind (aS G x1 0 (809 : Int32) (0 : Int32)) (fun (G2 : GH) =>
  Option.bind (gR G2 v0 11 1) (fun (x3 : Nat) =>
  Option.bind (aS G2 x3 0 (810 : Int32) v1) (fun (G4 : GH) =>
  fixN (fun _ _ _ => none) (b_X11_tellsWhy_20 F   v0 v1 v2) F (0 : Int32) n G4))))
set_option maxRecDepth 100000 in
set_option maxHeartbeats 4000000 in
theorem c_X11_tellsWhy_75 {E : GE} {F : Nat}   {v0 : Nat} {v1 : Int32} {v2 : Int32}  {n : Nat} {G : GH} {z : Int32 × Nat × GH}   (h : k_X11_tellsWhy_75 F   v0 v1 v2  n G = some z) : WG E RX11 "tellsWhy" cX11_tellsWhy 4 (some .int) 1 22 0 0 75 [(0, .ref v0), (1, .int v1), (2, .int v2)] [] n G (g_O E (some (.int z.1), z.2.1, z.2.2)) := by
  unfold k_X11_tellsWhy_75 at h
  refine r_iload d_X11_tellsWhy_75 rfl ?_
  refine r_iconst d_X11_tellsWhy_76 ic_m1 ?_
  refine r_icmp_eq h d_X11_tellsWhy_77 (fun h => ?_) (fun h => ?_)
  · refine r_iload d_X11_tellsWhy_85 rfl ?_
    exact r_iret h d_X11_tellsWhy_86
  · refine r_aload d_X11_tellsWhy_80 rfl ?_
    refine r_iload d_X11_tellsWhy_81 rfl ?_
    refine r_invU [_] h (fun _ hq => s_X11_whyAlso hq) d_X11_tellsWhy_82 pl_X11_205 py_X11_whyAlso pi_X11_whyAlso rfl rfl rfl (fun n7 G8 h => ?_)
    refine r_iload d_X11_tellsWhy_85 rfl ?_
    exact r_iret h d_X11_tellsWhy_86
set_option maxRecDepth 100000 in
set_option maxHeartbeats 4000000 in
theorem l_X11_tellsWhy_51 {E : GE} {F : Nat}   {v0 : Nat} {v1 : Int32} {v2 : Int32}   : ∀ (K : Nat) (v3 : Int32) (n : Nat) (G : GH) (z : Int32 × Nat × GH), fixN ((fun _ _ _ => none) : Int32 → Nat → GH → Option (Int32 × Nat × GH)) (b_X11_tellsWhy_51 F   v0 v1 v2) K v3 n G = some z → WG E RX11 "tellsWhy" cX11_tellsWhy 4 (some .int) 1 22 0 0 51 [(0, .ref v0), (1, .int v1), (2, .int v2), (3, .int v3)] [] n G (g_O E (some (.int z.1), z.2.1, z.2.2)) := by
  intro K
  refine fixN_ind (P := fun (r : Int32 → Nat → GH → Option (Int32 × Nat × GH)) => ∀ (v3 : Int32) (n : Nat) (G : GH) (z : Int32 × Nat × GH), r v3 n G = some z → WG E RX11 "tellsWhy" cX11_tellsWhy 4 (some .int) 1 22 0 0 51 [(0, .ref v0), (1, .int v1), (2, .int v2), (3, .int v3)] [] n G (g_O E (some (.int z.1), z.2.1, z.2.2))) ?_ ?_ K
  · intro v3 n G z h
    cases h
  · intro rec51 hrec51 v3 n G z h
    unfold b_X11_tellsWhy_51 at h
    refine r_iload d_X11_tellsWhy_51 rfl ?_
    refine r_aload d_X11_tellsWhy_52 rfl ?_
    refine r_getI h d_X11_tellsWhy_53 pf_X11_199 (fun x6 h => ?_)
    refine r_icmp_ge h d_X11_tellsWhy_56 (fun h => ?_) (fun h => ?_)
    · refine r_lv [(0, .ref v0), (1, .int v1), (2, .int v2)] (g_allc rfl (g_allc rfl (g_allc rfl g_alln))) ?_
      exact c_X11_tellsWhy_75   h
    · refine r_aload d_X11_tellsWhy_59 rfl ?_
      refine r_aload d_X11_tellsWhy_60 rfl ?_
      refine r_getR h d_X11_tellsWhy_61 pf_X11_36 (fun x9 h => ?_)
      refine r_iload d_X11_tellsWhy_64 rfl ?_
      refine r_iald h d_X11_tellsWhy_65 (fun x10 h => ?_)
      refine r_invU [_] h (fun _ hq => s_X11_whyAlso hq) d_X11_tellsWhy_66 pl_X11_205 py_X11_whyAlso pi_X11_whyAlso rfl rfl rfl (fun n11 G12 h => ?_)
      refine r_iinc d_X11_tellsWhy_69 rfl (ii_1 _) rfl rfl ?_
      refine r_goto d_X11_tellsWhy_72 ?_
      refine r_lv [(0, .ref v0), (1, .int v1), (2, .int v2), (3, .int (v3 + 1))] (g_allc rfl (g_allc rfl (g_allc rfl (g_allc rfl g_alln)))) ?_
      exact hrec51 _ _ _ _ h
set_option maxRecDepth 100000 in
set_option maxHeartbeats 4000000 in
theorem c_X11_tellsWhy_49 {E : GE} {F : Nat}   {v0 : Nat} {v1 : Int32} {v2 : Int32}  {n : Nat} {G : GH} {z : Int32 × Nat × GH}   (h : k_X11_tellsWhy_49 F   v0 v1 v2  n G = some z) : WG E RX11 "tellsWhy" cX11_tellsWhy 4 (some .int) 1 22 0 0 49 [(0, .ref v0), (1, .int v1), (2, .int v2)] [] n G (g_O E (some (.int z.1), z.2.1, z.2.2)) := by
  unfold k_X11_tellsWhy_49 at h
  refine r_iconst d_X11_tellsWhy_49 ic_0 ?_
  refine r_istore d_X11_tellsWhy_50 rfl rfl ?_
  refine r_lv [(0, .ref v0), (1, .int v1), (2, .int v2), (3, .int (0 : Int32))] (g_allc rfl (g_allc rfl (g_allc rfl (g_allc rfl g_alln)))) ?_
  exact l_X11_tellsWhy_51   _ _ _ _ _ h
set_option maxRecDepth 100000 in
set_option maxHeartbeats 4000000 in
theorem l_X11_tellsWhy_20 {E : GE} {F : Nat}   {v0 : Nat} {v1 : Int32} {v2 : Int32}   : ∀ (K : Nat) (v3 : Int32) (n : Nat) (G : GH) (z : Int32 × Nat × GH), fixN ((fun _ _ _ => none) : Int32 → Nat → GH → Option (Int32 × Nat × GH)) (b_X11_tellsWhy_20 F   v0 v1 v2) K v3 n G = some z → WG E RX11 "tellsWhy" cX11_tellsWhy 4 (some .int) 1 22 0 0 20 [(0, .ref v0), (1, .int v1), (2, .int v2), (3, .int v3)] [] n G (g_O E (some (.int z.1), z.2.1, z.2.2)) := by
  intro K
  refine fixN_ind (P := fun (r : Int32 → Nat → GH → Option (Int32 × Nat × GH)) => ∀ (v3 : Int32) (n : Nat) (G : GH) (z : Int32 × Nat × GH), r v3 n G = some z → WG E RX11 "tellsWhy" cX11_tellsWhy 4 (some .int) 1 22 0 0 20 [(0, .ref v0), (1, .int v1), (2, .int v2), (3, .int v3)] [] n G (g_O E (some (.int z.1), z.2.1, z.2.2))) ?_ ?_ K
  · intro v3 n G z h
    cases h
  · intro rec20 hrec20 v3 n G z h
    unfold b_X11_tellsWhy_20 at h
    refine r_iload d_X11_tellsWhy_20 rfl ?_
    refine r_aload d_X11_tellsWhy_21 rfl ?_
    refine r_getI h d_X11_tellsWhy_22 pf_X11_202 (fun x5 h => ?_)
    refine r_icmp_ge h d_X11_tellsWhy_25 (fun h => ?_) (fun h => ?_)
    · refine r_lv [(0, .ref v0), (1, .int v1), (2, .int v2)] (g_allc rfl (g_allc rfl (g_allc rfl g_alln))) ?_
      exact c_X11_tellsWhy_49   h
    · refine r_aload d_X11_tellsWhy_28 rfl ?_
      refine r_aload d_X11_tellsWhy_29 rfl ?_
      refine r_aload d_X11_tellsWhy_30 rfl ?_
      refine r_getR h d_X11_tellsWhy_31 pf_X11_51 (fun x13 h => ?_)
      refine r_iload d_X11_tellsWhy_34 rfl ?_
      refine r_iald h d_X11_tellsWhy_35 (fun x14 h => ?_)
      refine r_iconst d_X11_tellsWhy_36 ic_0 ?_
      refine r_invP [_, _] h (fun _ hq => s_X11_its hq) d_X11_tellsWhy_37 pl_X11_196 py_X11_its pi_X11_its rfl rfl rfl (fun x15 h => ?_)
      refine r_invU [_] h (fun _ hq => s_X11_whyAlso hq) d_X11_tellsWhy_40 pl_X11_205 py_X11_whyAlso pi_X11_whyAlso rfl rfl rfl (fun n16 G17 h => ?_)
      refine r_iinc d_X11_tellsWhy_43 rfl (ii_1 _) rfl rfl ?_
      refine r_goto d_X11_tellsWhy_46 ?_
      refine r_lv [(0, .ref v0), (1, .int v1), (2, .int v2), (3, .int (v3 + 1))] (g_allc rfl (g_allc rfl (g_allc rfl (g_allc rfl g_alln)))) ?_
      exact hrec20 _ _ _ _ h
set_option maxRecDepth 100000 in
set_option maxHeartbeats 4000000 in
theorem s_X11_tellsWhy {E : GE} {F : Nat}  {v0 : Nat} {v1 : Int32} {v2 : Int32} {n : Nat} {G : GH} {z : Int32 × Nat × GH}  (h : f_X11_tellsWhy F  v0 v1 v2 n G = some z) : GM E yX11_tellsWhy cX11_tellsWhy 4 (some .int) 1 22 0 0 [.ref v0, .int v1, .int v2] n G (some (.int z.1), z.2.1, z.2.2) := by
  refine GM.of (by decide) (Nat.le_of_ble_eq_true rfl) ?_
  show WG E RX11 "tellsWhy" cX11_tellsWhy 4 (some .int) 1 22 0 0 0 [(0, .ref v0), (1, .int v1), (2, .int v2)] [] n G (g_O E (some (.int z.1), z.2.1, z.2.2))
  unfold f_X11_tellsWhy at h
  refine r_aload d_X11_tellsWhy_0 rfl ?_
  refine r_getR h d_X11_tellsWhy_1 pf_X11_7 (fun x1 h => ?_)
  refine r_sipush d_X11_tellsWhy_4 sp_809 ?_
  refine r_iconst d_X11_tellsWhy_7 ic_0 ?_
  refine r_iast h d_X11_tellsWhy_8 (fun G2 h => ?_)
  refine r_aload d_X11_tellsWhy_9 rfl ?_
  refine r_getR h d_X11_tellsWhy_10 pf_X11_7 (fun x3 h => ?_)
  refine r_sipush d_X11_tellsWhy_13 sp_810 ?_
  refine r_iload d_X11_tellsWhy_16 rfl ?_
  refine r_iast h d_X11_tellsWhy_17 (fun G4 h => ?_)
  refine r_iconst d_X11_tellsWhy_18 ic_0 ?_
  refine r_istore d_X11_tellsWhy_19 rfl rfl ?_
  refine r_lv [(0, .ref v0), (1, .int v1), (2, .int v2), (3, .int (0 : Int32))] (g_allc rfl (g_allc rfl (g_allc rfl (g_allc rfl g_alln)))) ?_
  exact l_X11_tellsWhy_20   _ _ _ _ _ h
/-! X11_opens -/
theorem py_X11_standsFor : pY yX11_standsFor cX11_standsFor 4 (some .int) 2 := ⟨g_in 1395 (by decide +kernel) rfl, g_in 104 (by decide +kernel) rfl, by decide, by decide, by decide +kernel⟩
theorem pi_X11_standsFor : pI yX11_standsFor 11 := ⟨g_in 1394 (by decide +kernel) rfl, g_in 59 (by decide +kernel) rfl, (RX11, TX11, 37), rfl, rfl⟩
theorem pl_X11_209 : pL RX11 209 yX11_standsFor := Or.inl (g_in 1392 (by decide +kernel) rfl)
theorem py_X11_thingOf : pY yX11_thingOf cX11_thingOf 4 (some .int) 2 := ⟨g_in 1399 (by decide +kernel) rfl, g_in 104 (by decide +kernel) rfl, by decide, by decide, by decide +kernel⟩
theorem pi_X11_thingOf : pI yX11_thingOf 11 := ⟨g_in 1398 (by decide +kernel) rfl, g_in 60 (by decide +kernel) rfl, (RX11, TX11, 37), rfl, rfl⟩
theorem pl_X11_212 : pL RX11 212 yX11_thingOf := Or.inl (g_in 1396 (by decide +kernel) rfl)
theorem py_X11_isOnWay : pY yX11_isOnWay cX11_isOnWay 3 (some .boolean) 1 := ⟨g_in 1403 (by decide +kernel) rfl, g_in 104 (by decide +kernel) rfl, by decide, by decide, by decide +kernel⟩
theorem pi_X11_isOnWay : pI yX11_isOnWay 11 := ⟨g_in 1402 (by decide +kernel) rfl, g_in 61 (by decide +kernel) rfl, (RX11, TX11, 37), rfl, rfl⟩
theorem pl_X11_215 : pL RX11 215 yX11_isOnWay := Or.inl (g_in 1400 (by decide +kernel) rfl)
theorem pf_X11_39 : pF RX11 39 11 22 := ⟨RX11, TX11, 37, rfl, by decide, rfl, Or.inl (g_in 1167 (by decide +kernel) rfl)⟩
theorem pf_X11_42 : pF RX11 42 11 23 := ⟨RX11, TX11, 37, rfl, by decide, rfl, Or.inl (g_in 1168 (by decide +kernel) rfl)⟩
theorem pf_X11_45 : pF RX11 45 11 24 := ⟨RX11, TX11, 37, rfl, by decide, rfl, Or.inl (g_in 1169 (by decide +kernel) rfl)⟩
theorem pw_X11_199 {nm : String} : pW RX11 nm 199 11 26 .int := ⟨RX11, TX11, 37, rfl, by decide, rfl, Or.inl ⟨g_in 1171 (by decide +kernel) rfl, Or.inl rfl⟩, by decide +kernel⟩
theorem pf_X11_48 : pF RX11 48 11 25 := ⟨RX11, TX11, 37, rfl, by decide, rfl, Or.inl (g_in 1170 (by decide +kernel) rfl)⟩
theorem py_X11_tellsWhy : pY yX11_tellsWhy cX11_tellsWhy 4 (some .int) 2 := ⟨g_in 1407 (by decide +kernel) rfl, g_in 104 (by decide +kernel) rfl, by decide, by decide, by decide +kernel⟩
theorem pi_X11_tellsWhy : pI yX11_tellsWhy 11 := ⟨g_in 1406 (by decide +kernel) rfl, g_in 62 (by decide +kernel) rfl, (RX11, TX11, 37), rfl, rfl⟩
theorem pl_X11_218 : pL RX11 218 yX11_tellsWhy := Or.inl (g_in 1404 (by decide +kernel) rfl)
theorem d_X11_opens_0 : decAL cX11_opens 0 0 1 := Or.inr ⟨0, rfl, by decide +kernel, rfl⟩
theorem d_X11_opens_1 : decIL cX11_opens 1 1 2 := Or.inr ⟨1, rfl, by decide +kernel, rfl⟩
theorem d_X11_opens_2 : decIL cX11_opens 2 2 3 := Or.inr ⟨2, rfl, by decide +kernel, rfl⟩
theorem d_X11_opens_3 : dec 3 cX11_opens 3 (.invokevirtual 209) 6 := ⟨by decide +kernel, rfl⟩
theorem d_X11_opens_6 : decIS cX11_opens 6 3 7 := Or.inr ⟨3, rfl, by decide +kernel, rfl⟩
theorem d_X11_opens_7 : decAL cX11_opens 7 0 8 := Or.inr ⟨0, rfl, by decide +kernel, rfl⟩
theorem d_X11_opens_8 : decIL cX11_opens 8 3 9 := Or.inr ⟨3, rfl, by decide +kernel, rfl⟩
theorem d_X11_opens_9 : dec 2 cX11_opens 9 (.bipush 8) 11 := ⟨by decide +kernel, rfl⟩
theorem d_X11_opens_11 : dec 3 cX11_opens 11 (.invokevirtual 76) 14 := ⟨by decide +kernel, rfl⟩
theorem d_X11_opens_14 : decB cX11_opens 14 (.ifCond .ne 7) (7) 17 21 := ⟨by decide +kernel, rfl, by decide⟩
theorem d_X11_opens_17 : dec 1 cX11_opens 17 (.iconst 0) 18 := ⟨by decide +kernel, rfl⟩
theorem d_X11_opens_18 : decB cX11_opens 18 (.goto 4) (4) 21 22 := ⟨by decide +kernel, rfl, by decide⟩
theorem d_X11_opens_21 : decIL cX11_opens 21 2 22 := Or.inr ⟨2, rfl, by decide +kernel, rfl⟩
theorem d_X11_opens_22 : decIS cX11_opens 22 4 24 := Or.inl ⟨by decide +kernel, rfl⟩
theorem d_X11_opens_24 : decAL cX11_opens 24 0 25 := Or.inr ⟨0, rfl, by decide +kernel, rfl⟩
theorem d_X11_opens_25 : decIL cX11_opens 25 3 26 := Or.inr ⟨3, rfl, by decide +kernel, rfl⟩
theorem d_X11_opens_26 : dec 2 cX11_opens 26 (.bipush 8) 28 := ⟨by decide +kernel, rfl⟩
theorem d_X11_opens_28 : dec 3 cX11_opens 28 (.invokevirtual 76) 31 := ⟨by decide +kernel, rfl⟩
theorem d_X11_opens_31 : dec 1 cX11_opens 31 (.iconst 2) 32 := ⟨by decide +kernel, rfl⟩
theorem d_X11_opens_32 : decB cX11_opens 32 (.if_icmp .ne 7) (7) 35 39 := ⟨by decide +kernel, rfl, by decide⟩
theorem d_X11_opens_35 : dec 1 cX11_opens 35 (.iconst (-1)) 36 := ⟨by decide +kernel, rfl⟩
theorem d_X11_opens_36 : decB cX11_opens 36 (.goto 10) (10) 39 46 := ⟨by decide +kernel, rfl, by decide⟩
theorem d_X11_opens_39 : decAL cX11_opens 39 0 40 := Or.inr ⟨0, rfl, by decide +kernel, rfl⟩
theorem d_X11_opens_40 : decIL cX11_opens 40 3 41 := Or.inr ⟨3, rfl, by decide +kernel, rfl⟩
theorem d_X11_opens_41 : decIL cX11_opens 41 4 43 := Or.inl ⟨by decide +kernel, rfl⟩
theorem d_X11_opens_43 : dec 3 cX11_opens 43 (.invokevirtual 212) 46 := ⟨by decide +kernel, rfl⟩
theorem d_X11_opens_46 : decIS cX11_opens 46 5 48 := Or.inl ⟨by decide +kernel, rfl⟩
theorem d_X11_opens_48 : decIL cX11_opens 48 5 50 := Or.inl ⟨by decide +kernel, rfl⟩
theorem d_X11_opens_50 : dec 1 cX11_opens 50 (.iconst (-1)) 51 := ⟨by decide +kernel, rfl⟩
theorem d_X11_opens_51 : decB cX11_opens 51 (.if_icmp .eq 6) (6) 54 57 := ⟨by decide +kernel, rfl, by decide⟩
theorem d_X11_opens_54 : decIL cX11_opens 54 5 56 := Or.inl ⟨by decide +kernel, rfl⟩
theorem d_X11_opens_56 : dec 1 cX11_opens 56 .ireturn 57 := ⟨by decide +kernel, rfl⟩
theorem d_X11_opens_57 : decAL cX11_opens 57 0 58 := Or.inr ⟨0, rfl, by decide +kernel, rfl⟩
theorem d_X11_opens_58 : decIL cX11_opens 58 3 59 := Or.inr ⟨3, rfl, by decide +kernel, rfl⟩
theorem d_X11_opens_59 : dec 3 cX11_opens 59 (.invokevirtual 215) 62 := ⟨by decide +kernel, rfl⟩
theorem d_X11_opens_62 : decB cX11_opens 62 (.ifCond .eq 11) (11) 65 73 := ⟨by decide +kernel, rfl, by decide⟩
theorem d_X11_opens_65 : decAL cX11_opens 65 0 66 := Or.inr ⟨0, rfl, by decide +kernel, rfl⟩
theorem d_X11_opens_66 : dec 2 cX11_opens 66 (.bipush (-2)) 68 := ⟨by decide +kernel, rfl⟩
theorem d_X11_opens_68 : decIL cX11_opens 68 3 69 := Or.inr ⟨3, rfl, by decide +kernel, rfl⟩
theorem d_X11_opens_69 : dec 3 cX11_opens 69 (.invokevirtual 218) 72 := ⟨by decide +kernel, rfl⟩
theorem d_X11_opens_72 : dec 1 cX11_opens 72 .ireturn 73 := ⟨by decide +kernel, rfl⟩
theorem d_X11_opens_73 : decAL cX11_opens 73 0 74 := Or.inr ⟨0, rfl, by decide +kernel, rfl⟩
theorem d_X11_opens_74 : dec 3 cX11_opens 74 (.getfield 7) 77 := ⟨by decide +kernel, rfl⟩
theorem d_X11_opens_77 : dec 3 cX11_opens 77 (.sipush 206) 80 := ⟨by decide +kernel, rfl⟩
theorem d_X11_opens_80 : dec 1 cX11_opens 80 .iaload 81 := ⟨by decide +kernel, rfl⟩
theorem d_X11_opens_81 : dec 2 cX11_opens 81 (.bipush 60) 83 := ⟨by decide +kernel, rfl⟩
theorem d_X11_opens_83 : decB cX11_opens 83 (.if_icmp .ne 11) (11) 86 94 := ⟨by decide +kernel, rfl, by decide⟩
theorem d_X11_opens_86 : decAL cX11_opens 86 0 87 := Or.inr ⟨0, rfl, by decide +kernel, rfl⟩
theorem d_X11_opens_87 : dec 2 cX11_opens 87 (.bipush (-4)) 89 := ⟨by decide +kernel, rfl⟩
theorem d_X11_opens_89 : decIL cX11_opens 89 3 90 := Or.inr ⟨3, rfl, by decide +kernel, rfl⟩
theorem d_X11_opens_90 : dec 3 cX11_opens 90 (.invokevirtual 218) 93 := ⟨by decide +kernel, rfl⟩
theorem d_X11_opens_93 : dec 1 cX11_opens 93 .ireturn 94 := ⟨by decide +kernel, rfl⟩
theorem d_X11_opens_94 : decAL cX11_opens 94 0 95 := Or.inr ⟨0, rfl, by decide +kernel, rfl⟩
theorem d_X11_opens_95 : dec 3 cX11_opens 95 (.getfield 7) 98 := ⟨by decide +kernel, rfl⟩
theorem d_X11_opens_98 : dec 3 cX11_opens 98 (.sipush 133) 101 := ⟨by decide +kernel, rfl⟩
theorem d_X11_opens_101 : decIL cX11_opens 101 3 102 := Or.inr ⟨3, rfl, by decide +kernel, rfl⟩
theorem d_X11_opens_102 : dec 1 cX11_opens 102 .iadd 103 := ⟨by decide +kernel, rfl⟩
theorem d_X11_opens_103 : dec 1 cX11_opens 103 .dup2 104 := ⟨by decide +kernel, rfl⟩
theorem d_X11_opens_104 : dec 1 cX11_opens 104 .iaload 105 := ⟨by decide +kernel, rfl⟩
theorem d_X11_opens_105 : dec 1 cX11_opens 105 (.iconst 1) 106 := ⟨by decide +kernel, rfl⟩
theorem d_X11_opens_106 : dec 1 cX11_opens 106 .iadd 107 := ⟨by decide +kernel, rfl⟩
theorem d_X11_opens_107 : dec 1 cX11_opens 107 .iastore 108 := ⟨by decide +kernel, rfl⟩
theorem d_X11_opens_108 : decAL cX11_opens 108 0 109 := Or.inr ⟨0, rfl, by decide +kernel, rfl⟩
theorem d_X11_opens_109 : dec 3 cX11_opens 109 (.getfield 36) 112 := ⟨by decide +kernel, rfl⟩
theorem d_X11_opens_112 : decAL cX11_opens 112 0 113 := Or.inr ⟨0, rfl, by decide +kernel, rfl⟩
theorem d_X11_opens_113 : dec 3 cX11_opens 113 (.getfield 199) 116 := ⟨by decide +kernel, rfl⟩
theorem d_X11_opens_116 : decIL cX11_opens 116 3 117 := Or.inr ⟨3, rfl, by decide +kernel, rfl⟩
theorem d_X11_opens_117 : dec 1 cX11_opens 117 .iastore 118 := ⟨by decide +kernel, rfl⟩
theorem d_X11_opens_118 : decAL cX11_opens 118 0 119 := Or.inr ⟨0, rfl, by decide +kernel, rfl⟩
theorem d_X11_opens_119 : dec 3 cX11_opens 119 (.getfield 39) 122 := ⟨by decide +kernel, rfl⟩
theorem d_X11_opens_122 : decAL cX11_opens 122 0 123 := Or.inr ⟨0, rfl, by decide +kernel, rfl⟩
theorem d_X11_opens_123 : dec 3 cX11_opens 123 (.getfield 199) 126 := ⟨by decide +kernel, rfl⟩
theorem d_X11_opens_126 : decIL cX11_opens 126 4 128 := Or.inl ⟨by decide +kernel, rfl⟩
theorem d_X11_opens_128 : dec 1 cX11_opens 128 .iastore 129 := ⟨by decide +kernel, rfl⟩
theorem d_X11_opens_129 : decAL cX11_opens 129 0 130 := Or.inr ⟨0, rfl, by decide +kernel, rfl⟩
theorem d_X11_opens_130 : dec 3 cX11_opens 130 (.getfield 42) 133 := ⟨by decide +kernel, rfl⟩
theorem d_X11_opens_133 : decAL cX11_opens 133 0 134 := Or.inr ⟨0, rfl, by decide +kernel, rfl⟩
theorem d_X11_opens_134 : dec 3 cX11_opens 134 (.getfield 199) 137 := ⟨by decide +kernel, rfl⟩
theorem d_X11_opens_137 : dec 1 cX11_opens 137 (.iconst 0) 138 := ⟨by decide +kernel, rfl⟩
theorem d_X11_opens_138 : dec 1 cX11_opens 138 .iastore 139 := ⟨by decide +kernel, rfl⟩
theorem d_X11_opens_139 : decAL cX11_opens 139 0 140 := Or.inr ⟨0, rfl, by decide +kernel, rfl⟩
theorem d_X11_opens_140 : dec 3 cX11_opens 140 (.getfield 45) 143 := ⟨by decide +kernel, rfl⟩
theorem d_X11_opens_143 : decAL cX11_opens 143 0 144 := Or.inr ⟨0, rfl, by decide +kernel, rfl⟩
theorem d_X11_opens_144 : dec 3 cX11_opens 144 (.getfield 199) 147 := ⟨by decide +kernel, rfl⟩
theorem d_X11_opens_147 : decAL cX11_opens 147 0 148 := Or.inr ⟨0, rfl, by decide +kernel, rfl⟩
theorem d_X11_opens_148 : dec 3 cX11_opens 148 (.getfield 7) 151 := ⟨by decide +kernel, rfl⟩
theorem d_X11_opens_151 : dec 3 cX11_opens 151 (.sipush 133) 154 := ⟨by decide +kernel, rfl⟩
theorem d_X11_opens_154 : decIL cX11_opens 154 3 155 := Or.inr ⟨3, rfl, by decide +kernel, rfl⟩
theorem d_X11_opens_155 : dec 1 cX11_opens 155 .iadd 156 := ⟨by decide +kernel, rfl⟩
theorem d_X11_opens_156 : dec 1 cX11_opens 156 .iaload 157 := ⟨by decide +kernel, rfl⟩
theorem d_X11_opens_157 : dec 1 cX11_opens 157 .iastore 158 := ⟨by decide +kernel, rfl⟩
theorem d_X11_opens_158 : dec 1 cX11_opens 158 (.iconst 0) 159 := ⟨by decide +kernel, rfl⟩
theorem d_X11_opens_159 : decIS cX11_opens 159 6 161 := Or.inl ⟨by decide +kernel, rfl⟩
theorem d_X11_opens_161 : decIL cX11_opens 161 6 163 := Or.inl ⟨by decide +kernel, rfl⟩
theorem d_X11_opens_163 : dec 1 cX11_opens 163 (.iconst 4) 164 := ⟨by decide +kernel, rfl⟩
theorem d_X11_opens_164 : decB cX11_opens 164 (.if_icmp .ge 24) (24) 167 188 := ⟨by decide +kernel, rfl, by decide⟩
theorem d_X11_opens_167 : decAL cX11_opens 167 0 168 := Or.inr ⟨0, rfl, by decide +kernel, rfl⟩
theorem d_X11_opens_168 : dec 3 cX11_opens 168 (.getfield 48) 171 := ⟨by decide +kernel, rfl⟩
theorem d_X11_opens_171 : dec 1 cX11_opens 171 (.iconst 4) 172 := ⟨by decide +kernel, rfl⟩
theorem d_X11_opens_172 : decAL cX11_opens 172 0 173 := Or.inr ⟨0, rfl, by decide +kernel, rfl⟩
theorem d_X11_opens_173 : dec 3 cX11_opens 173 (.getfield 199) 176 := ⟨by decide +kernel, rfl⟩
theorem d_X11_opens_176 : dec 1 cX11_opens 176 .imul 177 := ⟨by decide +kernel, rfl⟩
theorem d_X11_opens_177 : decIL cX11_opens 177 6 179 := Or.inl ⟨by decide +kernel, rfl⟩
theorem d_X11_opens_179 : dec 1 cX11_opens 179 .iadd 180 := ⟨by decide +kernel, rfl⟩
theorem d_X11_opens_180 : dec 1 cX11_opens 180 (.iconst 0) 181 := ⟨by decide +kernel, rfl⟩
theorem d_X11_opens_181 : dec 1 cX11_opens 181 .iastore 182 := ⟨by decide +kernel, rfl⟩
theorem d_X11_opens_182 : dec 3 cX11_opens 182 (.iinc 6 1) 185 := ⟨by decide +kernel, rfl⟩
theorem d_X11_opens_185 : decB cX11_opens 185 (.goto (-24)) (-24) 188 161 := ⟨by decide +kernel, rfl, by decide⟩
theorem d_X11_opens_188 : decAL cX11_opens 188 0 189 := Or.inr ⟨0, rfl, by decide +kernel, rfl⟩
theorem d_X11_opens_189 : dec 1 cX11_opens 189 .dup 190 := ⟨by decide +kernel, rfl⟩
theorem d_X11_opens_190 : dec 3 cX11_opens 190 (.getfield 199) 193 := ⟨by decide +kernel, rfl⟩
theorem d_X11_opens_193 : dec 1 cX11_opens 193 (.iconst 1) 194 := ⟨by decide +kernel, rfl⟩
theorem d_X11_opens_194 : dec 1 cX11_opens 194 .iadd 195 := ⟨by decide +kernel, rfl⟩
theorem d_X11_opens_195 : dec 3 cX11_opens 195 (.putfield 199) 198 := ⟨by decide +kernel, rfl⟩
theorem d_X11_opens_198 : dec 2 cX11_opens 198 (.bipush (-9)) 200 := ⟨by decide +kernel, rfl⟩
theorem d_X11_opens_200 : dec 1 cX11_opens 200 .ireturn 201 := ⟨by decide +kernel, rfl⟩
def k_X11_opens_188 (F : Nat)   (v0 : Nat)  (n : Nat) (G : GH) : Option (Int32 × Nat × GH) :=
  Option.bind (gI G v0 11 26) (fun (x25 : Int32) =>
  Option.bind (pV G v0 11 26 (.int (x25 + (1 : Int32)))) (fun (G26 : GH) =>
  some ((-9 : Int32), n, G26)))
def b_X11_opens_161 (F : Nat)   (v0 : Nat) (rec161 : Int32 → Nat → GH → Option (Int32 × Nat × GH)) : Int32 → Nat → GH → Option (Int32 × Nat × GH) := fun v6 n G =>
  if (4 : Int32) ≤ v6 then
  (k_X11_opens_188 F   v0 n G)
  else (Option.bind (gR G v0 11 25) (fun (x27 : Nat) =>
  Option.bind (gI G v0 11 26) (fun (x28 : Int32) =>
  Option.bind (aS G x27 0 (((4 : Int32) * x28) + v6) (0 : Int32)) (fun (G29 : GH) =>
  rec161 (v6 + 1) n G29))))
def k_X11_opens_46 (F : Nat)   (v0 : Nat) (v3 : Int32) (v4 : Int32) (s0 : Int32) (n : Nat) (G : GH) : Option (Int32 × Nat × GH) :=
  if s0 = (-1 : Int32) then
  (cvP G v0 11 (f_X11_isOnWay F v0 v3 G) (fun (x5 : Int32) =>
  if x5 = 0 then
  (Option.bind (gR G v0 11 1) (fun (x6 : Nat) =>
  Option.bind (aI G x6 0 (206 : Int32)) (fun (x7 : Int32) =>
  if x7 = (60 : Int32) then
  (cvI G v0 11 (f_X11_tellsWhy F v0 (-4 : Int32) v3 n G) (fun (x32 : Int32) (n30 : Nat) (G31 : GH) =>
  some (x32, n30, G31)))
  else (Option.bind (gR G v0 11 1) (fun (x8 : Nat) =>
  Option.bind (aI G x8 0 ((133 : Int32) + v3)) (fun (x9 : Int32) =>
  Option.bind (aS G x8 0 ((133 : Int32) + v3) (x9 + (1 : Int32))) (fun (G10 : GH) =>
  Option.bind (gR G10 v0 11 21) (fun (x11 : Nat) =>
  Option.bind (gI G10 v0 11 26) (fun (x12 : Int32) =>
  Option.bind (aS G10 x11 0 x12 v3) (fun (G13 : GH) =>
  Option.bind (gR G13 v0 11 22) (fun (x14 : Nat) =>
  Option.bind (gI G13 v0 11 26) (fun (x15 : Int32) =>
  Option.bind (aS G13 x14 0 x15 v4) (fun (G16 : GH) =>
  Option.bind (gR G16 v0 11 23) (fun (x17 : Nat) =>
  Option.bind (gI G16 v0 11 26) (fun (x18 : Int32) =>
  Option.bind (aS G16 x17 0 x18 (0 : Int32)) (fun (G19 : GH) =>
  Option.bind (gR G19 v0 11 24) (fun (x20 : Nat) =>
  Option.bind (gI G19 v0 11 26) (fun (x21 : Int32) =>
  Option.bind (gR G19 v0 11 1) (fun (x22 : Nat) =>
  Option.bind (aI G19 x22 0 ((133 : Int32) + v3)) (fun (x23 : Int32) =>
  Option.bind (aS G19 x20 0 x21 x23) (fun (G24 : GH) =>
  fixN (fun _ _ _ => none) (b_X11_opens_161 F   v0) F (0 : Int32) n G24)))))))))))))))))))))
  else (cvI G v0 11 (f_X11_tellsWhy F v0 (-2 : Int32) v3 n G) (fun (x35 : Int32) (n33 : Nat) (G34 : GH) =>
  some (x35, n33, G34)))))
  else (some (s0, n, G))
def k_X11_opens_22 (F : Nat)   (v0 : Nat) (v3 : Int32) (s0 : Int32) (n : Nat) (G : GH) : Option (Int32 × Nat × GH) :=
  cvP G v0 11 (f_X11_of F v0 v3 (8 : Int32) G) (fun (x3 : Int32) =>
  if x3 = (2 : Int32) then
  (k_X11_opens_46 F   v0 v3 s0 (-1 : Int32) n G)
  else (cvP G v0 11 (f_X11_thingOf F v0 v3 s0 G) (fun (x4 : Int32) =>
  k_X11_opens_46 F   v0 v3 s0 x4 n G)))
def f_X11_opens (F : Nat)  (v0 : Nat) (v1 : Int32) (v2 : Int32) (n : Nat) (G : GH) : Option (Int32 × Nat × GH) :=
  cvP G v0 11 (f_X11_standsFor F v0 v1 v2 G) (fun (x1 : Int32) =>
  cvP G v0 11 (f_X11_of F v0 x1 (8 : Int32) G) (fun (x2 : Int32) =>
  if x2 = 0 then
  (k_X11_opens_22 F   v0 x1 (0 : Int32) n G)
  else (k_X11_opens_22 F   v0 x1 v2 n G)))
set_option maxRecDepth 100000 in
set_option maxHeartbeats 4000000 in
theorem c_X11_opens_188 {E : GE} {F : Nat}   {v0 : Nat}  {n : Nat} {G : GH} {z : Int32 × Nat × GH}   (h : k_X11_opens_188 F   v0  n G = some z) : WG E RX11 "opens" cX11_opens 7 (some .int) 2 45 0 0 188 [(0, .ref v0)] [] n G (g_O E (some (.int z.1), z.2.1, z.2.2)) := by
  unfold k_X11_opens_188 at h
  refine r_aload d_X11_opens_188 rfl ?_
  refine r_dup d_X11_opens_189 rfl ?_
  refine r_getI h d_X11_opens_190 pf_X11_199 (fun x25 h => ?_)
  refine r_iconst d_X11_opens_193 ic_1 ?_
  refine r_iadd d_X11_opens_194 ?_
  refine r_put h d_X11_opens_195 pw_X11_199 rfl rfl (fun G26 h => ?_)
  refine r_bipush d_X11_opens_198 bp_m9 ?_
  exact r_iret h d_X11_opens_200
set_option maxRecDepth 100000 in
set_option maxHeartbeats 4000000 in
theorem l_X11_opens_161 {E : GE} {F : Nat}   {v0 : Nat}   : ∀ (K : Nat) (v6 : Int32) (n : Nat) (G : GH) (z : Int32 × Nat × GH), fixN ((fun _ _ _ => none) : Int32 → Nat → GH → Option (Int32 × Nat × GH)) (b_X11_opens_161 F   v0) K v6 n G = some z → WG E RX11 "opens" cX11_opens 7 (some .int) 2 45 0 0 161 [(0, .ref v0), (6, .int v6)] [] n G (g_O E (some (.int z.1), z.2.1, z.2.2)) := by
  intro K
  refine fixN_ind (P := fun (r : Int32 → Nat → GH → Option (Int32 × Nat × GH)) => ∀ (v6 : Int32) (n : Nat) (G : GH) (z : Int32 × Nat × GH), r v6 n G = some z → WG E RX11 "opens" cX11_opens 7 (some .int) 2 45 0 0 161 [(0, .ref v0), (6, .int v6)] [] n G (g_O E (some (.int z.1), z.2.1, z.2.2))) ?_ ?_ K
  · intro v6 n G z h
    cases h
  · intro rec161 hrec161 v6 n G z h
    unfold b_X11_opens_161 at h
    refine r_iload d_X11_opens_161 rfl ?_
    refine r_iconst d_X11_opens_163 ic_4 ?_
    refine r_icmp_ge h d_X11_opens_164 (fun h => ?_) (fun h => ?_)
    · refine r_lv [(0, .ref v0)] (g_allc rfl g_alln) ?_
      exact c_X11_opens_188   h
    · refine r_aload d_X11_opens_167 rfl ?_
      refine r_getR h d_X11_opens_168 pf_X11_48 (fun x27 h => ?_)
      refine r_iconst d_X11_opens_171 ic_4 ?_
      refine r_aload d_X11_opens_172 rfl ?_
      refine r_getI h d_X11_opens_173 pf_X11_199 (fun x28 h => ?_)
      refine r_imul d_X11_opens_176 ?_
      refine r_iload d_X11_opens_177 rfl ?_
      refine r_iadd d_X11_opens_179 ?_
      refine r_iconst d_X11_opens_180 ic_0 ?_
      refine r_iast h d_X11_opens_181 (fun G29 h => ?_)
      refine r_iinc d_X11_opens_182 rfl (ii_1 _) rfl rfl ?_
      refine r_goto d_X11_opens_185 ?_
      refine r_lv [(0, .ref v0), (6, .int (v6 + 1))] (g_allc rfl (g_allc rfl g_alln)) ?_
      exact hrec161 _ _ _ _ h
set_option maxRecDepth 100000 in
set_option maxHeartbeats 4000000 in
theorem c_X11_opens_46 {E : GE} {F : Nat}   {v0 : Nat} {v3 : Int32} {v4 : Int32} {s0 : Int32} {n : Nat} {G : GH} {z : Int32 × Nat × GH}   (h : k_X11_opens_46 F   v0 v3 v4 s0 n G = some z) : WG E RX11 "opens" cX11_opens 7 (some .int) 2 45 0 0 46 [(0, .ref v0), (3, .int v3), (4, .int v4)] [.int s0] n G (g_O E (some (.int z.1), z.2.1, z.2.2)) := by
  unfold k_X11_opens_46 at h
  refine r_istore d_X11_opens_46 rfl rfl ?_
  refine r_iload d_X11_opens_48 rfl ?_
  refine r_iconst d_X11_opens_50 ic_m1 ?_
  refine r_icmp_eq h d_X11_opens_51 (fun h => ?_) (fun h => ?_)
  · refine r_aload d_X11_opens_57 rfl ?_
    refine r_iload d_X11_opens_58 rfl ?_
    refine r_invP [_] h (fun _ hq => s_X11_isOnWay hq) d_X11_opens_59 pl_X11_215 py_X11_isOnWay pi_X11_isOnWay rfl rfl rfl (fun x5 h => ?_)
    refine r_if_eq h d_X11_opens_62 (fun h => ?_) (fun h => ?_)
    · refine r_aload d_X11_opens_73 rfl ?_
      refine r_getR h d_X11_opens_74 pf_X11_7 (fun x6 h => ?_)
      refine r_sipush d_X11_opens_77 sp_206 ?_
      refine r_iald h d_X11_opens_80 (fun x7 h => ?_)
      refine r_bipush d_X11_opens_81 bp_60 ?_
      refine r_icmp_ne h d_X11_opens_83 (fun h => ?_) (fun h => ?_)
      · refine r_aload d_X11_opens_94 rfl ?_
        refine r_getR h d_X11_opens_95 pf_X11_7 (fun x8 h => ?_)
        refine r_sipush d_X11_opens_98 sp_133 ?_
        refine r_iload d_X11_opens_101 rfl ?_
        refine r_iadd d_X11_opens_102 ?_
        refine r_dup2 d_X11_opens_103 rfl rfl ?_
        refine r_iald h d_X11_opens_104 (fun x9 h => ?_)
        refine r_iconst d_X11_opens_105 ic_1 ?_
        refine r_iadd d_X11_opens_106 ?_
        refine r_iast h d_X11_opens_107 (fun G10 h => ?_)
        refine r_aload d_X11_opens_108 rfl ?_
        refine r_getR h d_X11_opens_109 pf_X11_36 (fun x11 h => ?_)
        refine r_aload d_X11_opens_112 rfl ?_
        refine r_getI h d_X11_opens_113 pf_X11_199 (fun x12 h => ?_)
        refine r_iload d_X11_opens_116 rfl ?_
        refine r_iast h d_X11_opens_117 (fun G13 h => ?_)
        refine r_aload d_X11_opens_118 rfl ?_
        refine r_getR h d_X11_opens_119 pf_X11_39 (fun x14 h => ?_)
        refine r_aload d_X11_opens_122 rfl ?_
        refine r_getI h d_X11_opens_123 pf_X11_199 (fun x15 h => ?_)
        refine r_iload d_X11_opens_126 rfl ?_
        refine r_iast h d_X11_opens_128 (fun G16 h => ?_)
        refine r_aload d_X11_opens_129 rfl ?_
        refine r_getR h d_X11_opens_130 pf_X11_42 (fun x17 h => ?_)
        refine r_aload d_X11_opens_133 rfl ?_
        refine r_getI h d_X11_opens_134 pf_X11_199 (fun x18 h => ?_)
        refine r_iconst d_X11_opens_137 ic_0 ?_
        refine r_iast h d_X11_opens_138 (fun G19 h => ?_)
        refine r_aload d_X11_opens_139 rfl ?_
        refine r_getR h d_X11_opens_140 pf_X11_45 (fun x20 h => ?_)
        refine r_aload d_X11_opens_143 rfl ?_
        refine r_getI h d_X11_opens_144 pf_X11_199 (fun x21 h => ?_)
        refine r_aload d_X11_opens_147 rfl ?_
        refine r_getR h d_X11_opens_148 pf_X11_7 (fun x22 h => ?_)
        refine r_sipush d_X11_opens_151 sp_133 ?_
        refine r_iload d_X11_opens_154 rfl ?_
        refine r_iadd d_X11_opens_155 ?_
        refine r_iald h d_X11_opens_156 (fun x23 h => ?_)
        refine r_iast h d_X11_opens_157 (fun G24 h => ?_)
        refine r_iconst d_X11_opens_158 ic_0 ?_
        refine r_istore d_X11_opens_159 rfl rfl ?_
        refine r_lv [(0, .ref v0), (6, .int (0 : Int32))] (g_allc rfl (g_allc rfl g_alln)) ?_
        exact l_X11_opens_161   _ _ _ _ _ h
      · refine r_aload d_X11_opens_86 rfl ?_
        refine r_bipush d_X11_opens_87 bp_m4 ?_
        refine r_iload d_X11_opens_89 rfl ?_
        refine r_invI [_, _] h (fun _ hq => s_X11_tellsWhy hq) d_X11_opens_90 pl_X11_218 py_X11_tellsWhy pi_X11_tellsWhy rfl rfl rfl (fun x32 n30 G31 h => ?_)
        exact r_iret h d_X11_opens_93
    · refine r_aload d_X11_opens_65 rfl ?_
      refine r_bipush d_X11_opens_66 bp_m2 ?_
      refine r_iload d_X11_opens_68 rfl ?_
      refine r_invI [_, _] h (fun _ hq => s_X11_tellsWhy hq) d_X11_opens_69 pl_X11_218 py_X11_tellsWhy pi_X11_tellsWhy rfl rfl rfl (fun x35 n33 G34 h => ?_)
      exact r_iret h d_X11_opens_72
  · refine r_iload d_X11_opens_54 rfl ?_
    exact r_iret h d_X11_opens_56
set_option maxRecDepth 100000 in
set_option maxHeartbeats 4000000 in
theorem c_X11_opens_22 {E : GE} {F : Nat}   {v0 : Nat} {v3 : Int32} {s0 : Int32} {n : Nat} {G : GH} {z : Int32 × Nat × GH}   (h : k_X11_opens_22 F   v0 v3 s0 n G = some z) : WG E RX11 "opens" cX11_opens 7 (some .int) 2 45 0 0 22 [(0, .ref v0), (3, .int v3)] [.int s0] n G (g_O E (some (.int z.1), z.2.1, z.2.2)) := by
  unfold k_X11_opens_22 at h
  refine r_istore d_X11_opens_22 rfl rfl ?_
  refine r_aload d_X11_opens_24 rfl ?_
  refine r_iload d_X11_opens_25 rfl ?_
  refine r_bipush d_X11_opens_26 bp_8 ?_
  refine r_invP [_, _] h (fun _ hq => s_X11_of hq) d_X11_opens_28 pl_X11_76 py_X11_of pi_X11_of rfl rfl rfl (fun x3 h => ?_)
  refine r_iconst d_X11_opens_31 ic_2 ?_
  refine r_icmp_ne h d_X11_opens_32 (fun h => ?_) (fun h => ?_)
  · refine r_aload d_X11_opens_39 rfl ?_
    refine r_iload d_X11_opens_40 rfl ?_
    refine r_iload d_X11_opens_41 rfl ?_
    refine r_invP [_, _] h (fun _ hq => s_X11_thingOf hq) d_X11_opens_43 pl_X11_212 py_X11_thingOf pi_X11_thingOf rfl rfl rfl (fun x4 h => ?_)
    refine r_lv [(0, .ref v0), (3, .int v3), (4, .int s0)] (g_allc rfl (g_allc rfl (g_allc rfl g_alln))) ?_
    exact c_X11_opens_46   h
  · refine r_iconst d_X11_opens_35 ic_m1 ?_
    refine r_goto d_X11_opens_36 ?_
    refine r_lv [(0, .ref v0), (3, .int v3), (4, .int s0)] (g_allc rfl (g_allc rfl (g_allc rfl g_alln))) ?_
    exact c_X11_opens_46   h
set_option maxRecDepth 100000 in
set_option maxHeartbeats 4000000 in
theorem s_X11_opens {E : GE} {F : Nat}  {v0 : Nat} {v1 : Int32} {v2 : Int32} {n : Nat} {G : GH} {z : Int32 × Nat × GH}  (h : f_X11_opens F  v0 v1 v2 n G = some z) : GM E yX11_opens cX11_opens 7 (some .int) 2 45 0 0 [.ref v0, .int v1, .int v2] n G (some (.int z.1), z.2.1, z.2.2) := by
  refine GM.of (by decide) (Nat.le_of_ble_eq_true rfl) ?_
  show WG E RX11 "opens" cX11_opens 7 (some .int) 2 45 0 0 0 [(0, .ref v0), (1, .int v1), (2, .int v2)] [] n G (g_O E (some (.int z.1), z.2.1, z.2.2))
  unfold f_X11_opens at h
  refine r_aload d_X11_opens_0 rfl ?_
  refine r_iload d_X11_opens_1 rfl ?_
  refine r_iload d_X11_opens_2 rfl ?_
  refine r_invP [_, _] h (fun _ hq => s_X11_standsFor hq) d_X11_opens_3 pl_X11_209 py_X11_standsFor pi_X11_standsFor rfl rfl rfl (fun x1 h => ?_)
  refine r_istore d_X11_opens_6 rfl rfl ?_
  refine r_aload d_X11_opens_7 rfl ?_
  refine r_iload d_X11_opens_8 rfl ?_
  refine r_bipush d_X11_opens_9 bp_8 ?_
  refine r_invP [_, _] h (fun _ hq => s_X11_of hq) d_X11_opens_11 pl_X11_76 py_X11_of pi_X11_of rfl rfl rfl (fun x2 h => ?_)
  refine r_if_ne h d_X11_opens_14 (fun h => ?_) (fun h => ?_)
  · refine r_iload d_X11_opens_21 rfl ?_
    refine r_lv [(0, .ref v0), (3, .int x1)] (g_allc rfl (g_allc rfl g_alln)) ?_
    exact c_X11_opens_22   h
  · refine r_iconst d_X11_opens_17 ic_0 ?_
    refine r_goto d_X11_opens_18 ?_
    refine r_lv [(0, .ref v0), (3, .int x1)] (g_allc rfl (g_allc rfl g_alln)) ?_
    exact c_X11_opens_22   h
/-! X11_makes -/
theorem py_X11_itIs : pY yX11_itIs cX11_itIs 4 none 3 := ⟨g_in 1371 (by decide +kernel) rfl, g_in 104 (by decide +kernel) rfl, by decide, by decide, by decide +kernel⟩
theorem pi_X11_itIs : pI yX11_itIs 11 := ⟨g_in 1370 (by decide +kernel) rfl, g_in 55 (by decide +kernel) rfl, (RX11, TX11, 37), rfl, rfl⟩
theorem pl_X11_221 : pL RX11 221 yX11_itIs := Or.inl (g_in 1368 (by decide +kernel) rfl)
theorem d_X11_makes_0 : decAL cX11_makes 0 0 1 := Or.inr ⟨0, rfl, by decide +kernel, rfl⟩
theorem d_X11_makes_1 : dec 3 cX11_makes 1 (.getfield 199) 4 := ⟨by decide +kernel, rfl⟩
theorem d_X11_makes_4 : dec 1 cX11_makes 4 (.iconst 1) 5 := ⟨by decide +kernel, rfl⟩
theorem d_X11_makes_5 : dec 1 cX11_makes 5 .isub 6 := ⟨by decide +kernel, rfl⟩
theorem d_X11_makes_6 : decIS cX11_makes 6 1 7 := Or.inr ⟨1, rfl, by decide +kernel, rfl⟩
theorem d_X11_makes_7 : decAL cX11_makes 7 0 8 := Or.inr ⟨0, rfl, by decide +kernel, rfl⟩
theorem d_X11_makes_8 : dec 3 cX11_makes 8 (.getfield 36) 11 := ⟨by decide +kernel, rfl⟩
theorem d_X11_makes_11 : decIL cX11_makes 11 1 12 := Or.inr ⟨1, rfl, by decide +kernel, rfl⟩
theorem d_X11_makes_12 : dec 1 cX11_makes 12 .iaload 13 := ⟨by decide +kernel, rfl⟩
theorem d_X11_makes_13 : decIS cX11_makes 13 2 14 := Or.inr ⟨2, rfl, by decide +kernel, rfl⟩
theorem d_X11_makes_14 : decAL cX11_makes 14 0 15 := Or.inr ⟨0, rfl, by decide +kernel, rfl⟩
theorem d_X11_makes_15 : decIL cX11_makes 15 2 16 := Or.inr ⟨2, rfl, by decide +kernel, rfl⟩
theorem d_X11_makes_16 : dec 2 cX11_makes 16 (.bipush 9) 18 := ⟨by decide +kernel, rfl⟩
theorem d_X11_makes_18 : dec 3 cX11_makes 18 (.invokevirtual 76) 21 := ⟨by decide +kernel, rfl⟩
theorem d_X11_makes_21 : decB cX11_makes 21 (.ifCond .le 27) (27) 24 48 := ⟨by decide +kernel, rfl, by decide⟩
theorem d_X11_makes_24 : decAL cX11_makes 24 0 25 := Or.inr ⟨0, rfl, by decide +kernel, rfl⟩
theorem d_X11_makes_25 : dec 3 cX11_makes 25 (.getfield 45) 28 := ⟨by decide +kernel, rfl⟩
theorem d_X11_makes_28 : decIL cX11_makes 28 1 29 := Or.inr ⟨1, rfl, by decide +kernel, rfl⟩
theorem d_X11_makes_29 : dec 1 cX11_makes 29 .iaload 30 := ⟨by decide +kernel, rfl⟩
theorem d_X11_makes_30 : decAL cX11_makes 30 0 31 := Or.inr ⟨0, rfl, by decide +kernel, rfl⟩
theorem d_X11_makes_31 : decIL cX11_makes 31 2 32 := Or.inr ⟨2, rfl, by decide +kernel, rfl⟩
theorem d_X11_makes_32 : dec 2 cX11_makes 32 (.bipush 9) 34 := ⟨by decide +kernel, rfl⟩
theorem d_X11_makes_34 : dec 3 cX11_makes 34 (.invokevirtual 76) 37 := ⟨by decide +kernel, rfl⟩
theorem d_X11_makes_37 : decB cX11_makes 37 (.if_icmp .ne 11) (11) 40 48 := ⟨by decide +kernel, rfl, by decide⟩
theorem d_X11_makes_40 : decAL cX11_makes 40 0 41 := Or.inr ⟨0, rfl, by decide +kernel, rfl⟩
theorem d_X11_makes_41 : dec 2 cX11_makes 41 (.bipush (-3)) 43 := ⟨by decide +kernel, rfl⟩
theorem d_X11_makes_43 : dec 1 cX11_makes 43 (.iconst (-1)) 44 := ⟨by decide +kernel, rfl⟩
theorem d_X11_makes_44 : dec 3 cX11_makes 44 (.invokevirtual 218) 47 := ⟨by decide +kernel, rfl⟩
theorem d_X11_makes_47 : dec 1 cX11_makes 47 .ireturn 48 := ⟨by decide +kernel, rfl⟩
theorem d_X11_makes_48 : decAL cX11_makes 48 0 49 := Or.inr ⟨0, rfl, by decide +kernel, rfl⟩
theorem d_X11_makes_49 : dec 3 cX11_makes 49 (.getfield 7) 52 := ⟨by decide +kernel, rfl⟩
theorem d_X11_makes_52 : dec 3 cX11_makes 52 (.sipush 206) 55 := ⟨by decide +kernel, rfl⟩
theorem d_X11_makes_55 : dec 1 cX11_makes 55 .iaload 56 := ⟨by decide +kernel, rfl⟩
theorem d_X11_makes_56 : dec 2 cX11_makes 56 (.bipush 60) 58 := ⟨by decide +kernel, rfl⟩
theorem d_X11_makes_58 : decB cX11_makes 58 (.if_icmp .ne 11) (11) 61 69 := ⟨by decide +kernel, rfl, by decide⟩
theorem d_X11_makes_61 : decAL cX11_makes 61 0 62 := Or.inr ⟨0, rfl, by decide +kernel, rfl⟩
theorem d_X11_makes_62 : dec 2 cX11_makes 62 (.bipush (-4)) 64 := ⟨by decide +kernel, rfl⟩
theorem d_X11_makes_64 : dec 1 cX11_makes 64 (.iconst (-1)) 65 := ⟨by decide +kernel, rfl⟩
theorem d_X11_makes_65 : dec 3 cX11_makes 65 (.invokevirtual 218) 68 := ⟨by decide +kernel, rfl⟩
theorem d_X11_makes_68 : dec 1 cX11_makes 68 .ireturn 69 := ⟨by decide +kernel, rfl⟩
theorem d_X11_makes_69 : decAL cX11_makes 69 0 70 := Or.inr ⟨0, rfl, by decide +kernel, rfl⟩
theorem d_X11_makes_70 : dec 3 cX11_makes 70 (.getfield 7) 73 := ⟨by decide +kernel, rfl⟩
theorem d_X11_makes_73 : dec 3 cX11_makes 73 (.sipush 206) 76 := ⟨by decide +kernel, rfl⟩
theorem d_X11_makes_76 : dec 1 cX11_makes 76 .iaload 77 := ⟨by decide +kernel, rfl⟩
theorem d_X11_makes_77 : decIS cX11_makes 77 3 78 := Or.inr ⟨3, rfl, by decide +kernel, rfl⟩
theorem d_X11_makes_78 : decAL cX11_makes 78 0 79 := Or.inr ⟨0, rfl, by decide +kernel, rfl⟩
theorem d_X11_makes_79 : dec 3 cX11_makes 79 (.getfield 7) 82 := ⟨by decide +kernel, rfl⟩
theorem d_X11_makes_82 : dec 3 cX11_makes 82 (.sipush 206) 85 := ⟨by decide +kernel, rfl⟩
theorem d_X11_makes_85 : dec 1 cX11_makes 85 .dup2 86 := ⟨by decide +kernel, rfl⟩
theorem d_X11_makes_86 : dec 1 cX11_makes 86 .iaload 87 := ⟨by decide +kernel, rfl⟩
theorem d_X11_makes_87 : dec 1 cX11_makes 87 (.iconst 1) 88 := ⟨by decide +kernel, rfl⟩
theorem d_X11_makes_88 : dec 1 cX11_makes 88 .iadd 89 := ⟨by decide +kernel, rfl⟩
theorem d_X11_makes_89 : dec 1 cX11_makes 89 .iastore 90 := ⟨by decide +kernel, rfl⟩
theorem d_X11_makes_90 : decAL cX11_makes 90 0 91 := Or.inr ⟨0, rfl, by decide +kernel, rfl⟩
theorem d_X11_makes_91 : decIL cX11_makes 91 3 92 := Or.inr ⟨3, rfl, by decide +kernel, rfl⟩
theorem d_X11_makes_92 : dec 1 cX11_makes 92 (.iconst 0) 93 := ⟨by decide +kernel, rfl⟩
theorem d_X11_makes_93 : decIL cX11_makes 93 2 94 := Or.inr ⟨2, rfl, by decide +kernel, rfl⟩
theorem d_X11_makes_94 : dec 3 cX11_makes 94 (.invokevirtual 221) 97 := ⟨by decide +kernel, rfl⟩
theorem d_X11_makes_97 : decAL cX11_makes 97 0 98 := Or.inr ⟨0, rfl, by decide +kernel, rfl⟩
theorem d_X11_makes_98 : decIL cX11_makes 98 3 99 := Or.inr ⟨3, rfl, by decide +kernel, rfl⟩
theorem d_X11_makes_99 : dec 1 cX11_makes 99 (.iconst 1) 100 := ⟨by decide +kernel, rfl⟩
theorem d_X11_makes_100 : decAL cX11_makes 100 0 101 := Or.inr ⟨0, rfl, by decide +kernel, rfl⟩
theorem d_X11_makes_101 : dec 3 cX11_makes 101 (.getfield 39) 104 := ⟨by decide +kernel, rfl⟩
theorem d_X11_makes_104 : decIL cX11_makes 104 1 105 := Or.inr ⟨1, rfl, by decide +kernel, rfl⟩
theorem d_X11_makes_105 : dec 1 cX11_makes 105 .iaload 106 := ⟨by decide +kernel, rfl⟩
theorem d_X11_makes_106 : dec 3 cX11_makes 106 (.invokevirtual 221) 109 := ⟨by decide +kernel, rfl⟩
theorem d_X11_makes_109 : decAL cX11_makes 109 0 110 := Or.inr ⟨0, rfl, by decide +kernel, rfl⟩
theorem d_X11_makes_110 : decIL cX11_makes 110 3 111 := Or.inr ⟨3, rfl, by decide +kernel, rfl⟩
theorem d_X11_makes_111 : dec 1 cX11_makes 111 (.iconst 2) 112 := ⟨by decide +kernel, rfl⟩
theorem d_X11_makes_112 : dec 1 cX11_makes 112 (.iconst 0) 113 := ⟨by decide +kernel, rfl⟩
theorem d_X11_makes_113 : dec 3 cX11_makes 113 (.invokevirtual 221) 116 := ⟨by decide +kernel, rfl⟩
theorem d_X11_makes_116 : decAL cX11_makes 116 0 117 := Or.inr ⟨0, rfl, by decide +kernel, rfl⟩
theorem d_X11_makes_117 : decIL cX11_makes 117 3 118 := Or.inr ⟨3, rfl, by decide +kernel, rfl⟩
theorem d_X11_makes_118 : dec 1 cX11_makes 118 (.iconst 3) 119 := ⟨by decide +kernel, rfl⟩
theorem d_X11_makes_119 : dec 1 cX11_makes 119 (.iconst 0) 120 := ⟨by decide +kernel, rfl⟩
theorem d_X11_makes_120 : dec 3 cX11_makes 120 (.invokevirtual 221) 123 := ⟨by decide +kernel, rfl⟩
theorem d_X11_makes_123 : dec 1 cX11_makes 123 (.iconst 0) 124 := ⟨by decide +kernel, rfl⟩
theorem d_X11_makes_124 : decIS cX11_makes 124 4 126 := Or.inl ⟨by decide +kernel, rfl⟩
theorem d_X11_makes_126 : decIL cX11_makes 126 4 128 := Or.inl ⟨by decide +kernel, rfl⟩
theorem d_X11_makes_128 : dec 1 cX11_makes 128 (.iconst 4) 129 := ⟨by decide +kernel, rfl⟩
theorem d_X11_makes_129 : decB cX11_makes 129 (.if_icmp .ge 29) (29) 132 158 := ⟨by decide +kernel, rfl, by decide⟩
theorem d_X11_makes_132 : decAL cX11_makes 132 0 133 := Or.inr ⟨0, rfl, by decide +kernel, rfl⟩
theorem d_X11_makes_133 : decIL cX11_makes 133 3 134 := Or.inr ⟨3, rfl, by decide +kernel, rfl⟩
theorem d_X11_makes_134 : dec 1 cX11_makes 134 (.iconst 4) 135 := ⟨by decide +kernel, rfl⟩
theorem d_X11_makes_135 : decIL cX11_makes 135 4 137 := Or.inl ⟨by decide +kernel, rfl⟩
theorem d_X11_makes_137 : dec 1 cX11_makes 137 .iadd 138 := ⟨by decide +kernel, rfl⟩
theorem d_X11_makes_138 : decAL cX11_makes 138 0 139 := Or.inr ⟨0, rfl, by decide +kernel, rfl⟩
theorem d_X11_makes_139 : dec 3 cX11_makes 139 (.getfield 48) 142 := ⟨by decide +kernel, rfl⟩
theorem d_X11_makes_142 : dec 1 cX11_makes 142 (.iconst 4) 143 := ⟨by decide +kernel, rfl⟩
theorem d_X11_makes_143 : decIL cX11_makes 143 1 144 := Or.inr ⟨1, rfl, by decide +kernel, rfl⟩
theorem d_X11_makes_144 : dec 1 cX11_makes 144 .imul 145 := ⟨by decide +kernel, rfl⟩
theorem d_X11_makes_145 : decIL cX11_makes 145 4 147 := Or.inl ⟨by decide +kernel, rfl⟩
theorem d_X11_makes_147 : dec 1 cX11_makes 147 .iadd 148 := ⟨by decide +kernel, rfl⟩
theorem d_X11_makes_148 : dec 1 cX11_makes 148 .iaload 149 := ⟨by decide +kernel, rfl⟩
theorem d_X11_makes_149 : dec 3 cX11_makes 149 (.invokevirtual 221) 152 := ⟨by decide +kernel, rfl⟩
theorem d_X11_makes_152 : dec 3 cX11_makes 152 (.iinc 4 1) 155 := ⟨by decide +kernel, rfl⟩
theorem d_X11_makes_155 : decB cX11_makes 155 (.goto (-29)) (-29) 158 126 := ⟨by decide +kernel, rfl, by decide⟩
theorem d_X11_makes_158 : decAL cX11_makes 158 0 159 := Or.inr ⟨0, rfl, by decide +kernel, rfl⟩
theorem d_X11_makes_159 : dec 1 cX11_makes 159 .dup 160 := ⟨by decide +kernel, rfl⟩
theorem d_X11_makes_160 : dec 3 cX11_makes 160 (.getfield 199) 163 := ⟨by decide +kernel, rfl⟩
theorem d_X11_makes_163 : dec 1 cX11_makes 163 (.iconst 1) 164 := ⟨by decide +kernel, rfl⟩
theorem d_X11_makes_164 : dec 1 cX11_makes 164 .isub 165 := ⟨by decide +kernel, rfl⟩
theorem d_X11_makes_165 : dec 3 cX11_makes 165 (.putfield 199) 168 := ⟨by decide +kernel, rfl⟩
theorem d_X11_makes_168 : decIL cX11_makes 168 3 169 := Or.inr ⟨3, rfl, by decide +kernel, rfl⟩
theorem d_X11_makes_169 : dec 1 cX11_makes 169 .ireturn 170 := ⟨by decide +kernel, rfl⟩
def k_X11_makes_158 (F : Nat)   (v0 : Nat) (v3 : Int32)  (n : Nat) (G : GH) : Option (Int32 × Nat × GH) :=
  Option.bind (gI G v0 11 26) (fun (x23 : Int32) =>
  Option.bind (pV G v0 11 26 (.int (x23 - (1 : Int32)))) (fun (G24 : GH) =>
  some (v3, n, G24)))
def b_X11_makes_126 (F : Nat)   (v0 : Nat) (v1 : Int32) (v3 : Int32) (rec126 : Int32 → Nat → GH → Option (Int32 × Nat × GH)) : Int32 → Nat → GH → Option (Int32 × Nat × GH) := fun v4 n G =>
  if (4 : Int32) ≤ v4 then
  (k_X11_makes_158 F   v0 v3 n G)
  else (Option.bind (gR G v0 11 25) (fun (x25 : Nat) =>
  Option.bind (aI G x25 0 (((4 : Int32) * v1) + v4)) (fun (x26 : Int32) =>
  cvU G v0 11 (f_X11_itIs F v0 v3 ((4 : Int32) + v4) x26 n G) (fun (n27 : Nat) (G28 : GH) =>
  rec126 (v4 + 1) n27 G28))))
def k_X11_makes_48 (F : Nat)   (v0 : Nat) (v1 : Int32) (v2 : Int32)  (n : Nat) (G : GH) : Option (Int32 × Nat × GH) :=
  Option.bind (gR G v0 11 1) (fun (x6 : Nat) =>
  Option.bind (aI G x6 0 (206 : Int32)) (fun (x7 : Int32) =>
  if x7 = (60 : Int32) then
  (cvI G v0 11 (f_X11_tellsWhy F v0 (-4 : Int32) (-1 : Int32) n G) (fun (x31 : Int32) (n29 : Nat) (G30 : GH) =>
  some (x31, n29, G30)))
  else (Option.bind (gR G v0 11 1) (fun (x8 : Nat) =>
  Option.bind (aI G x8 0 (206 : Int32)) (fun (x9 : Int32) =>
  Option.bind (gR G v0 11 1) (fun (x10 : Nat) =>
  Option.bind (aI G x10 0 (206 : Int32)) (fun (x11 : Int32) =>
  Option.bind (aS G x10 0 (206 : Int32) (x11 + (1 : Int32))) (fun (G12 : GH) =>
  cvU G12 v0 11 (f_X11_itIs F v0 x9 (0 : Int32) v2 n G12) (fun (n13 : Nat) (G14 : GH) =>
  Option.bind (gR G14 v0 11 22) (fun (x15 : Nat) =>
  Option.bind (aI G14 x15 0 v1) (fun (x16 : Int32) =>
  cvU G14 v0 11 (f_X11_itIs F v0 x9 (1 : Int32) x16 n13 G14) (fun (n17 : Nat) (G18 : GH) =>
  cvU G18 v0 11 (f_X11_itIs F v0 x9 (2 : Int32) (0 : Int32) n17 G18) (fun (n19 : Nat) (G20 : GH) =>
  cvU G20 v0 11 (f_X11_itIs F v0 x9 (3 : Int32) (0 : Int32) n19 G20) (fun (n21 : Nat) (G22 : GH) =>
  fixN (fun _ _ _ => none) (b_X11_makes_126 F   v0 v1 x9) F (0 : Int32) n21 G22))))))))))))))
def f_X11_makes (F : Nat)  (v0 : Nat) (n : Nat) (G : GH) : Option (Int32 × Nat × GH) :=
  Option.bind (gI G v0 11 26) (fun (x1 : Int32) =>
  gnm (x1 - (1 : Int32)) (fun (y2 : Int32) =>
  Option.bind (gR G v0 11 21) (fun (x3 : Nat) =>
  Option.bind (aI G x3 0 y2) (fun (x4 : Int32) =>
  cvP G v0 11 (f_X11_of F v0 x4 (9 : Int32) G) (fun (x5 : Int32) =>
  if x5 ≤ 0 then
  (k_X11_makes_48 F   v0 y2 x4 n G)
  else (Option.bind (gR G v0 11 24) (fun (x32 : Nat) =>
  Option.bind (aI G x32 0 y2) (fun (x33 : Int32) =>
  cvP G v0 11 (f_X11_of F v0 x4 (9 : Int32) G) (fun (x34 : Int32) =>
  if x33 = x34 then
  (cvI G v0 11 (f_X11_tellsWhy F v0 (-3 : Int32) (-1 : Int32) n G) (fun (x37 : Int32) (n35 : Nat) (G36 : GH) =>
  some (x37, n35, G36)))
  else (k_X11_makes_48 F   v0 y2 x4 n G))))))))))
set_option maxRecDepth 100000 in
set_option maxHeartbeats 4000000 in
theorem c_X11_makes_158 {E : GE} {F : Nat}   {v0 : Nat} {v3 : Int32}  {n : Nat} {G : GH} {z : Int32 × Nat × GH}   (h : k_X11_makes_158 F   v0 v3  n G = some z) : WG E RX11 "makes" cX11_makes 5 (some .int) 2 45 0 0 158 [(0, .ref v0), (3, .int v3)] [] n G (g_O E (some (.int z.1), z.2.1, z.2.2)) := by
  unfold k_X11_makes_158 at h
  refine r_aload d_X11_makes_158 rfl ?_
  refine r_dup d_X11_makes_159 rfl ?_
  refine r_getI h d_X11_makes_160 pf_X11_199 (fun x23 h => ?_)
  refine r_iconst d_X11_makes_163 ic_1 ?_
  refine r_isub d_X11_makes_164 ?_
  refine r_put h d_X11_makes_165 pw_X11_199 rfl rfl (fun G24 h => ?_)
  refine r_iload d_X11_makes_168 rfl ?_
  exact r_iret h d_X11_makes_169
set_option maxRecDepth 100000 in
set_option maxHeartbeats 4000000 in
theorem l_X11_makes_126 {E : GE} {F : Nat}   {v0 : Nat} {v1 : Int32} {v3 : Int32}   : ∀ (K : Nat) (v4 : Int32) (n : Nat) (G : GH) (z : Int32 × Nat × GH), fixN ((fun _ _ _ => none) : Int32 → Nat → GH → Option (Int32 × Nat × GH)) (b_X11_makes_126 F   v0 v1 v3) K v4 n G = some z → WG E RX11 "makes" cX11_makes 5 (some .int) 2 45 0 0 126 [(0, .ref v0), (1, .int v1), (3, .int v3), (4, .int v4)] [] n G (g_O E (some (.int z.1), z.2.1, z.2.2)) := by
  intro K
  refine fixN_ind (P := fun (r : Int32 → Nat → GH → Option (Int32 × Nat × GH)) => ∀ (v4 : Int32) (n : Nat) (G : GH) (z : Int32 × Nat × GH), r v4 n G = some z → WG E RX11 "makes" cX11_makes 5 (some .int) 2 45 0 0 126 [(0, .ref v0), (1, .int v1), (3, .int v3), (4, .int v4)] [] n G (g_O E (some (.int z.1), z.2.1, z.2.2))) ?_ ?_ K
  · intro v4 n G z h
    cases h
  · intro rec126 hrec126 v4 n G z h
    unfold b_X11_makes_126 at h
    refine r_iload d_X11_makes_126 rfl ?_
    refine r_iconst d_X11_makes_128 ic_4 ?_
    refine r_icmp_ge h d_X11_makes_129 (fun h => ?_) (fun h => ?_)
    · refine r_lv [(0, .ref v0), (3, .int v3)] (g_allc rfl (g_allc rfl g_alln)) ?_
      exact c_X11_makes_158   h
    · refine r_aload d_X11_makes_132 rfl ?_
      refine r_iload d_X11_makes_133 rfl ?_
      refine r_iconst d_X11_makes_134 ic_4 ?_
      refine r_iload d_X11_makes_135 rfl ?_
      refine r_iadd d_X11_makes_137 ?_
      refine r_aload d_X11_makes_138 rfl ?_
      refine r_getR h d_X11_makes_139 pf_X11_48 (fun x25 h => ?_)
      refine r_iconst d_X11_makes_142 ic_4 ?_
      refine r_iload d_X11_makes_143 rfl ?_
      refine r_imul d_X11_makes_144 ?_
      refine r_iload d_X11_makes_145 rfl ?_
      refine r_iadd d_X11_makes_147 ?_
      refine r_iald h d_X11_makes_148 (fun x26 h => ?_)
      refine r_invU [_, _, _] h (fun _ hq => s_X11_itIs hq) d_X11_makes_149 pl_X11_221 py_X11_itIs pi_X11_itIs rfl rfl rfl (fun n27 G28 h => ?_)
      refine r_iinc d_X11_makes_152 rfl (ii_1 _) rfl rfl ?_
      refine r_goto d_X11_makes_155 ?_
      refine r_lv [(0, .ref v0), (1, .int v1), (3, .int v3), (4, .int (v4 + 1))] (g_allc rfl (g_allc rfl (g_allc rfl (g_allc rfl g_alln)))) ?_
      exact hrec126 _ _ _ _ h
set_option maxRecDepth 100000 in
set_option maxHeartbeats 4000000 in
theorem c_X11_makes_48 {E : GE} {F : Nat}   {v0 : Nat} {v1 : Int32} {v2 : Int32}  {n : Nat} {G : GH} {z : Int32 × Nat × GH}   (h : k_X11_makes_48 F   v0 v1 v2  n G = some z) : WG E RX11 "makes" cX11_makes 5 (some .int) 2 45 0 0 48 [(0, .ref v0), (1, .int v1), (2, .int v2)] [] n G (g_O E (some (.int z.1), z.2.1, z.2.2)) := by
  unfold k_X11_makes_48 at h
  refine r_aload d_X11_makes_48 rfl ?_
  refine r_getR h d_X11_makes_49 pf_X11_7 (fun x6 h => ?_)
  refine r_sipush d_X11_makes_52 sp_206 ?_
  refine r_iald h d_X11_makes_55 (fun x7 h => ?_)
  refine r_bipush d_X11_makes_56 bp_60 ?_
  refine r_icmp_ne h d_X11_makes_58 (fun h => ?_) (fun h => ?_)
  · refine r_aload d_X11_makes_69 rfl ?_
    refine r_getR h d_X11_makes_70 pf_X11_7 (fun x8 h => ?_)
    refine r_sipush d_X11_makes_73 sp_206 ?_
    refine r_iald h d_X11_makes_76 (fun x9 h => ?_)
    refine r_istore d_X11_makes_77 rfl rfl ?_
    refine r_aload d_X11_makes_78 rfl ?_
    refine r_getR h d_X11_makes_79 pf_X11_7 (fun x10 h => ?_)
    refine r_sipush d_X11_makes_82 sp_206 ?_
    refine r_dup2 d_X11_makes_85 rfl rfl ?_
    refine r_iald h d_X11_makes_86 (fun x11 h => ?_)
    refine r_iconst d_X11_makes_87 ic_1 ?_
    refine r_iadd d_X11_makes_88 ?_
    refine r_iast h d_X11_makes_89 (fun G12 h => ?_)
    refine r_aload d_X11_makes_90 rfl ?_
    refine r_iload d_X11_makes_91 rfl ?_
    refine r_iconst d_X11_makes_92 ic_0 ?_
    refine r_iload d_X11_makes_93 rfl ?_
    refine r_invU [_, _, _] h (fun _ hq => s_X11_itIs hq) d_X11_makes_94 pl_X11_221 py_X11_itIs pi_X11_itIs rfl rfl rfl (fun n13 G14 h => ?_)
    refine r_aload d_X11_makes_97 rfl ?_
    refine r_iload d_X11_makes_98 rfl ?_
    refine r_iconst d_X11_makes_99 ic_1 ?_
    refine r_aload d_X11_makes_100 rfl ?_
    refine r_getR h d_X11_makes_101 pf_X11_39 (fun x15 h => ?_)
    refine r_iload d_X11_makes_104 rfl ?_
    refine r_iald h d_X11_makes_105 (fun x16 h => ?_)
    refine r_invU [_, _, _] h (fun _ hq => s_X11_itIs hq) d_X11_makes_106 pl_X11_221 py_X11_itIs pi_X11_itIs rfl rfl rfl (fun n17 G18 h => ?_)
    refine r_aload d_X11_makes_109 rfl ?_
    refine r_iload d_X11_makes_110 rfl ?_
    refine r_iconst d_X11_makes_111 ic_2 ?_
    refine r_iconst d_X11_makes_112 ic_0 ?_
    refine r_invU [_, _, _] h (fun _ hq => s_X11_itIs hq) d_X11_makes_113 pl_X11_221 py_X11_itIs pi_X11_itIs rfl rfl rfl (fun n19 G20 h => ?_)
    refine r_aload d_X11_makes_116 rfl ?_
    refine r_iload d_X11_makes_117 rfl ?_
    refine r_iconst d_X11_makes_118 ic_3 ?_
    refine r_iconst d_X11_makes_119 ic_0 ?_
    refine r_invU [_, _, _] h (fun _ hq => s_X11_itIs hq) d_X11_makes_120 pl_X11_221 py_X11_itIs pi_X11_itIs rfl rfl rfl (fun n21 G22 h => ?_)
    refine r_iconst d_X11_makes_123 ic_0 ?_
    refine r_istore d_X11_makes_124 rfl rfl ?_
    refine r_lv [(0, .ref v0), (1, .int v1), (3, .int x9), (4, .int (0 : Int32))] (g_allc rfl (g_allc rfl (g_allc rfl (g_allc rfl g_alln)))) ?_
    exact l_X11_makes_126   _ _ _ _ _ h
  · refine r_aload d_X11_makes_61 rfl ?_
    refine r_bipush d_X11_makes_62 bp_m4 ?_
    refine r_iconst d_X11_makes_64 ic_m1 ?_
    refine r_invI [_, _] h (fun _ hq => s_X11_tellsWhy hq) d_X11_makes_65 pl_X11_218 py_X11_tellsWhy pi_X11_tellsWhy rfl rfl rfl (fun x31 n29 G30 h => ?_)
    exact r_iret h d_X11_makes_68
set_option maxRecDepth 100000 in
set_option maxHeartbeats 4000000 in
theorem s_X11_makes {E : GE} {F : Nat}  {v0 : Nat} {n : Nat} {G : GH} {z : Int32 × Nat × GH}  (h : f_X11_makes F  v0 n G = some z) : GM E yX11_makes cX11_makes 5 (some .int) 2 45 0 0 [.ref v0] n G (some (.int z.1), z.2.1, z.2.2) := by
  refine GM.of (by decide) (Nat.le_of_ble_eq_true rfl) ?_
  show WG E RX11 "makes" cX11_makes 5 (some .int) 2 45 0 0 0 [(0, .ref v0)] [] n G (g_O E (some (.int z.1), z.2.1, z.2.2))
  unfold f_X11_makes at h
  refine r_aload d_X11_makes_0 rfl ?_
  refine r_getI h d_X11_makes_1 pf_X11_199 (fun x1 h => ?_)
  refine r_iconst d_X11_makes_4 ic_1 ?_
  refine r_isub d_X11_makes_5 ?_
  refine r_nmI h (fun y2 _ h => ?_)
  refine r_istore d_X11_makes_6 rfl rfl ?_
  refine r_aload d_X11_makes_7 rfl ?_
  refine r_getR h d_X11_makes_8 pf_X11_36 (fun x3 h => ?_)
  refine r_iload d_X11_makes_11 rfl ?_
  refine r_iald h d_X11_makes_12 (fun x4 h => ?_)
  refine r_istore d_X11_makes_13 rfl rfl ?_
  refine r_aload d_X11_makes_14 rfl ?_
  refine r_iload d_X11_makes_15 rfl ?_
  refine r_bipush d_X11_makes_16 bp_9 ?_
  refine r_invP [_, _] h (fun _ hq => s_X11_of hq) d_X11_makes_18 pl_X11_76 py_X11_of pi_X11_of rfl rfl rfl (fun x5 h => ?_)
  refine r_if_le h d_X11_makes_21 (fun h => ?_) (fun h => ?_)
  · refine r_lv [(0, .ref v0), (1, .int y2), (2, .int x4)] (g_allc rfl (g_allc rfl (g_allc rfl g_alln))) ?_
    exact c_X11_makes_48   h
  · refine r_aload d_X11_makes_24 rfl ?_
    refine r_getR h d_X11_makes_25 pf_X11_45 (fun x32 h => ?_)
    refine r_iload d_X11_makes_28 rfl ?_
    refine r_iald h d_X11_makes_29 (fun x33 h => ?_)
    refine r_aload d_X11_makes_30 rfl ?_
    refine r_iload d_X11_makes_31 rfl ?_
    refine r_bipush d_X11_makes_32 bp_9 ?_
    refine r_invP [_, _] h (fun _ hq => s_X11_of hq) d_X11_makes_34 pl_X11_76 py_X11_of pi_X11_of rfl rfl rfl (fun x34 h => ?_)
    refine r_icmp_ne h d_X11_makes_37 (fun h => ?_) (fun h => ?_)
    · refine r_lv [(0, .ref v0), (1, .int y2), (2, .int x4)] (g_allc rfl (g_allc rfl (g_allc rfl g_alln))) ?_
      exact c_X11_makes_48   h
    · refine r_aload d_X11_makes_40 rfl ?_
      refine r_bipush d_X11_makes_41 bp_m3 ?_
      refine r_iconst d_X11_makes_43 ic_m1 ?_
      refine r_invI [_, _] h (fun _ hq => s_X11_tellsWhy hq) d_X11_makes_44 pl_X11_218 py_X11_tellsWhy pi_X11_tellsWhy rfl rfl rfl (fun x37 n35 G36 h => ?_)
      exact r_iret h d_X11_makes_47
/-! X11_asks -/
theorem py_X11_opens : pY yX11_opens cX11_opens 7 (some .int) 2 := ⟨g_in 1391 (by decide +kernel) rfl, g_in 104 (by decide +kernel) rfl, by decide, by decide, by decide +kernel⟩
theorem pi_X11_opens : pI yX11_opens 11 := ⟨g_in 1390 (by decide +kernel) rfl, g_in 58 (by decide +kernel) rfl, (RX11, TX11, 37), rfl, rfl⟩
theorem pl_X11_225 : pL RX11 225 yX11_opens := Or.inl (g_in 1388 (by decide +kernel) rfl)
theorem py_X11_makes : pY yX11_makes cX11_makes 5 (some .int) 0 := ⟨g_in 1419 (by decide +kernel) rfl, g_in 104 (by decide +kernel) rfl, by decide, by decide, by decide +kernel⟩
theorem pi_X11_makes : pI yX11_makes 11 := ⟨g_in 1418 (by decide +kernel) rfl, g_in 65 (by decide +kernel) rfl, (RX11, TX11, 37), rfl, rfl⟩
theorem pl_X11_232 : pL RX11 232 yX11_makes := Or.inl (g_in 1416 (by decide +kernel) rfl)
theorem py_X11_isLazy : pY yX11_isLazy cX11_isLazy 3 (some .boolean) 2 := ⟨g_in 1415 (by decide +kernel) rfl, g_in 104 (by decide +kernel) rfl, by decide, by decide, by decide +kernel⟩
theorem pi_X11_isLazy : pI yX11_isLazy 11 := ⟨g_in 1414 (by decide +kernel) rfl, g_in 64 (by decide +kernel) rfl, (RX11, TX11, 37), rfl, rfl⟩
theorem pl_X11_228 : pL RX11 228 yX11_isLazy := Or.inl (g_in 1412 (by decide +kernel) rfl)
theorem d_X11_asks_0 : decAL cX11_asks 0 0 1 := Or.inr ⟨0, rfl, by decide +kernel, rfl⟩
theorem d_X11_asks_1 : dec 1 cX11_asks 1 (.iconst 0) 2 := ⟨by decide +kernel, rfl⟩
theorem d_X11_asks_2 : dec 3 cX11_asks 2 (.putfield 199) 5 := ⟨by decide +kernel, rfl⟩
theorem d_X11_asks_5 : decAL cX11_asks 5 0 6 := Or.inr ⟨0, rfl, by decide +kernel, rfl⟩
theorem d_X11_asks_6 : decIL cX11_asks 6 1 7 := Or.inr ⟨1, rfl, by decide +kernel, rfl⟩
theorem d_X11_asks_7 : decIL cX11_asks 7 2 8 := Or.inr ⟨2, rfl, by decide +kernel, rfl⟩
theorem d_X11_asks_8 : dec 3 cX11_asks 8 (.invokevirtual 225) 11 := ⟨by decide +kernel, rfl⟩
theorem d_X11_asks_11 : decIS cX11_asks 11 3 12 := Or.inr ⟨3, rfl, by decide +kernel, rfl⟩
theorem d_X11_asks_12 : decAL cX11_asks 12 0 13 := Or.inr ⟨0, rfl, by decide +kernel, rfl⟩
theorem d_X11_asks_13 : dec 3 cX11_asks 13 (.getfield 199) 16 := ⟨by decide +kernel, rfl⟩
theorem d_X11_asks_16 : decB cX11_asks 16 (.ifCond .le 177) (177) 19 193 := ⟨by decide +kernel, rfl, by decide⟩
theorem d_X11_asks_19 : decIL cX11_asks 19 3 20 := Or.inr ⟨3, rfl, by decide +kernel, rfl⟩
theorem d_X11_asks_20 : dec 2 cX11_asks 20 (.bipush (-9)) 22 := ⟨by decide +kernel, rfl⟩
theorem d_X11_asks_22 : decB cX11_asks 22 (.if_icmp .eq 7) (7) 25 29 := ⟨by decide +kernel, rfl, by decide⟩
theorem d_X11_asks_25 : decIL cX11_asks 25 3 26 := Or.inr ⟨3, rfl, by decide +kernel, rfl⟩
theorem d_X11_asks_26 : decB cX11_asks 26 (.ifCond .lt 167) (167) 29 193 := ⟨by decide +kernel, rfl, by decide⟩
theorem d_X11_asks_29 : decAL cX11_asks 29 0 30 := Or.inr ⟨0, rfl, by decide +kernel, rfl⟩
theorem d_X11_asks_30 : dec 3 cX11_asks 30 (.getfield 199) 33 := ⟨by decide +kernel, rfl⟩
theorem d_X11_asks_33 : dec 1 cX11_asks 33 (.iconst 1) 34 := ⟨by decide +kernel, rfl⟩
theorem d_X11_asks_34 : dec 1 cX11_asks 34 .isub 35 := ⟨by decide +kernel, rfl⟩
theorem d_X11_asks_35 : decIS cX11_asks 35 4 37 := Or.inl ⟨by decide +kernel, rfl⟩
theorem d_X11_asks_37 : decIL cX11_asks 37 3 38 := Or.inr ⟨3, rfl, by decide +kernel, rfl⟩
theorem d_X11_asks_38 : decB cX11_asks 38 (.ifCond .lt 34) (34) 41 72 := ⟨by decide +kernel, rfl, by decide⟩
theorem d_X11_asks_41 : decAL cX11_asks 41 0 42 := Or.inr ⟨0, rfl, by decide +kernel, rfl⟩
theorem d_X11_asks_42 : dec 3 cX11_asks 42 (.getfield 48) 45 := ⟨by decide +kernel, rfl⟩
theorem d_X11_asks_45 : dec 1 cX11_asks 45 (.iconst 4) 46 := ⟨by decide +kernel, rfl⟩
theorem d_X11_asks_46 : decIL cX11_asks 46 4 48 := Or.inl ⟨by decide +kernel, rfl⟩
theorem d_X11_asks_48 : dec 1 cX11_asks 48 .imul 49 := ⟨by decide +kernel, rfl⟩
theorem d_X11_asks_49 : decAL cX11_asks 49 0 50 := Or.inr ⟨0, rfl, by decide +kernel, rfl⟩
theorem d_X11_asks_50 : dec 3 cX11_asks 50 (.getfield 42) 53 := ⟨by decide +kernel, rfl⟩
theorem d_X11_asks_53 : decIL cX11_asks 53 4 55 := Or.inl ⟨by decide +kernel, rfl⟩
theorem d_X11_asks_55 : dec 1 cX11_asks 55 .iaload 56 := ⟨by decide +kernel, rfl⟩
theorem d_X11_asks_56 : dec 1 cX11_asks 56 .iadd 57 := ⟨by decide +kernel, rfl⟩
theorem d_X11_asks_57 : decIL cX11_asks 57 3 58 := Or.inr ⟨3, rfl, by decide +kernel, rfl⟩
theorem d_X11_asks_58 : dec 1 cX11_asks 58 (.iconst 1) 59 := ⟨by decide +kernel, rfl⟩
theorem d_X11_asks_59 : dec 1 cX11_asks 59 .iadd 60 := ⟨by decide +kernel, rfl⟩
theorem d_X11_asks_60 : dec 1 cX11_asks 60 .iastore 61 := ⟨by decide +kernel, rfl⟩
theorem d_X11_asks_61 : decAL cX11_asks 61 0 62 := Or.inr ⟨0, rfl, by decide +kernel, rfl⟩
theorem d_X11_asks_62 : dec 3 cX11_asks 62 (.getfield 42) 65 := ⟨by decide +kernel, rfl⟩
theorem d_X11_asks_65 : decIL cX11_asks 65 4 67 := Or.inl ⟨by decide +kernel, rfl⟩
theorem d_X11_asks_67 : dec 1 cX11_asks 67 .dup2 68 := ⟨by decide +kernel, rfl⟩
theorem d_X11_asks_68 : dec 1 cX11_asks 68 .iaload 69 := ⟨by decide +kernel, rfl⟩
theorem d_X11_asks_69 : dec 1 cX11_asks 69 (.iconst 1) 70 := ⟨by decide +kernel, rfl⟩
theorem d_X11_asks_70 : dec 1 cX11_asks 70 .iadd 71 := ⟨by decide +kernel, rfl⟩
theorem d_X11_asks_71 : dec 1 cX11_asks 71 .iastore 72 := ⟨by decide +kernel, rfl⟩
theorem d_X11_asks_72 : decAL cX11_asks 72 0 73 := Or.inr ⟨0, rfl, by decide +kernel, rfl⟩
theorem d_X11_asks_73 : dec 3 cX11_asks 73 (.getfield 42) 76 := ⟨by decide +kernel, rfl⟩
theorem d_X11_asks_76 : decIL cX11_asks 76 4 78 := Or.inl ⟨by decide +kernel, rfl⟩
theorem d_X11_asks_78 : dec 1 cX11_asks 78 .iaload 79 := ⟨by decide +kernel, rfl⟩
theorem d_X11_asks_79 : decAL cX11_asks 79 0 80 := Or.inr ⟨0, rfl, by decide +kernel, rfl⟩
theorem d_X11_asks_80 : decAL cX11_asks 80 0 81 := Or.inr ⟨0, rfl, by decide +kernel, rfl⟩
theorem d_X11_asks_81 : dec 3 cX11_asks 81 (.getfield 36) 84 := ⟨by decide +kernel, rfl⟩
theorem d_X11_asks_84 : decIL cX11_asks 84 4 86 := Or.inl ⟨by decide +kernel, rfl⟩
theorem d_X11_asks_86 : dec 1 cX11_asks 86 .iaload 87 := ⟨by decide +kernel, rfl⟩
theorem d_X11_asks_87 : dec 1 cX11_asks 87 (.iconst 2) 88 := ⟨by decide +kernel, rfl⟩
theorem d_X11_asks_88 : dec 3 cX11_asks 88 (.invokevirtual 76) 91 := ⟨by decide +kernel, rfl⟩
theorem d_X11_asks_91 : decB cX11_asks 91 (.if_icmp .ge 38) (38) 94 129 := ⟨by decide +kernel, rfl, by decide⟩
theorem d_X11_asks_94 : decAL cX11_asks 94 0 95 := Or.inr ⟨0, rfl, by decide +kernel, rfl⟩
theorem d_X11_asks_95 : decAL cX11_asks 95 0 96 := Or.inr ⟨0, rfl, by decide +kernel, rfl⟩
theorem d_X11_asks_96 : dec 3 cX11_asks 96 (.getfield 36) 99 := ⟨by decide +kernel, rfl⟩
theorem d_X11_asks_99 : decIL cX11_asks 99 4 101 := Or.inl ⟨by decide +kernel, rfl⟩
theorem d_X11_asks_101 : dec 1 cX11_asks 101 .iaload 102 := ⟨by decide +kernel, rfl⟩
theorem d_X11_asks_102 : decAL cX11_asks 102 0 103 := Or.inr ⟨0, rfl, by decide +kernel, rfl⟩
theorem d_X11_asks_103 : dec 3 cX11_asks 103 (.getfield 42) 106 := ⟨by decide +kernel, rfl⟩
theorem d_X11_asks_106 : decIL cX11_asks 106 4 108 := Or.inl ⟨by decide +kernel, rfl⟩
theorem d_X11_asks_108 : dec 1 cX11_asks 108 .iaload 109 := ⟨by decide +kernel, rfl⟩
theorem d_X11_asks_109 : dec 3 cX11_asks 109 (.invokevirtual 228) 112 := ⟨by decide +kernel, rfl⟩
theorem d_X11_asks_112 : decB cX11_asks 112 (.ifCond .eq 17) (17) 115 129 := ⟨by decide +kernel, rfl, by decide⟩
theorem d_X11_asks_115 : decAL cX11_asks 115 0 116 := Or.inr ⟨0, rfl, by decide +kernel, rfl⟩
theorem d_X11_asks_116 : dec 3 cX11_asks 116 (.getfield 42) 119 := ⟨by decide +kernel, rfl⟩
theorem d_X11_asks_119 : decIL cX11_asks 119 4 121 := Or.inl ⟨by decide +kernel, rfl⟩
theorem d_X11_asks_121 : dec 1 cX11_asks 121 .dup2 122 := ⟨by decide +kernel, rfl⟩
theorem d_X11_asks_122 : dec 1 cX11_asks 122 .iaload 123 := ⟨by decide +kernel, rfl⟩
theorem d_X11_asks_123 : dec 1 cX11_asks 123 (.iconst 1) 124 := ⟨by decide +kernel, rfl⟩
theorem d_X11_asks_124 : dec 1 cX11_asks 124 .iadd 125 := ⟨by decide +kernel, rfl⟩
theorem d_X11_asks_125 : dec 1 cX11_asks 125 .iastore 126 := ⟨by decide +kernel, rfl⟩
theorem d_X11_asks_126 : decB cX11_asks 126 (.goto (-54)) (-54) 129 72 := ⟨by decide +kernel, rfl, by decide⟩
theorem d_X11_asks_129 : decAL cX11_asks 129 0 130 := Or.inr ⟨0, rfl, by decide +kernel, rfl⟩
theorem d_X11_asks_130 : dec 3 cX11_asks 130 (.getfield 42) 133 := ⟨by decide +kernel, rfl⟩
theorem d_X11_asks_133 : decIL cX11_asks 133 4 135 := Or.inl ⟨by decide +kernel, rfl⟩
theorem d_X11_asks_135 : dec 1 cX11_asks 135 .iaload 136 := ⟨by decide +kernel, rfl⟩
theorem d_X11_asks_136 : decAL cX11_asks 136 0 137 := Or.inr ⟨0, rfl, by decide +kernel, rfl⟩
theorem d_X11_asks_137 : decAL cX11_asks 137 0 138 := Or.inr ⟨0, rfl, by decide +kernel, rfl⟩
theorem d_X11_asks_138 : dec 3 cX11_asks 138 (.getfield 36) 141 := ⟨by decide +kernel, rfl⟩
theorem d_X11_asks_141 : decIL cX11_asks 141 4 143 := Or.inl ⟨by decide +kernel, rfl⟩
theorem d_X11_asks_143 : dec 1 cX11_asks 143 .iaload 144 := ⟨by decide +kernel, rfl⟩
theorem d_X11_asks_144 : dec 1 cX11_asks 144 (.iconst 2) 145 := ⟨by decide +kernel, rfl⟩
theorem d_X11_asks_145 : dec 3 cX11_asks 145 (.invokevirtual 76) 148 := ⟨by decide +kernel, rfl⟩
theorem d_X11_asks_148 : decB cX11_asks 148 (.if_icmp .ge 37) (37) 151 185 := ⟨by decide +kernel, rfl, by decide⟩
theorem d_X11_asks_151 : decAL cX11_asks 151 0 152 := Or.inr ⟨0, rfl, by decide +kernel, rfl⟩
theorem d_X11_asks_152 : decAL cX11_asks 152 0 153 := Or.inr ⟨0, rfl, by decide +kernel, rfl⟩
theorem d_X11_asks_153 : decAL cX11_asks 153 0 154 := Or.inr ⟨0, rfl, by decide +kernel, rfl⟩
theorem d_X11_asks_154 : dec 3 cX11_asks 154 (.getfield 36) 157 := ⟨by decide +kernel, rfl⟩
theorem d_X11_asks_157 : decIL cX11_asks 157 4 159 := Or.inl ⟨by decide +kernel, rfl⟩
theorem d_X11_asks_159 : dec 1 cX11_asks 159 .iaload 160 := ⟨by decide +kernel, rfl⟩
theorem d_X11_asks_160 : dec 1 cX11_asks 160 (.iconst 3) 161 := ⟨by decide +kernel, rfl⟩
theorem d_X11_asks_161 : decAL cX11_asks 161 0 162 := Or.inr ⟨0, rfl, by decide +kernel, rfl⟩
theorem d_X11_asks_162 : dec 3 cX11_asks 162 (.getfield 42) 165 := ⟨by decide +kernel, rfl⟩
theorem d_X11_asks_165 : decIL cX11_asks 165 4 167 := Or.inl ⟨by decide +kernel, rfl⟩
theorem d_X11_asks_167 : dec 1 cX11_asks 167 .iaload 168 := ⟨by decide +kernel, rfl⟩
theorem d_X11_asks_168 : dec 1 cX11_asks 168 .iadd 169 := ⟨by decide +kernel, rfl⟩
theorem d_X11_asks_169 : dec 3 cX11_asks 169 (.invokevirtual 76) 172 := ⟨by decide +kernel, rfl⟩
theorem d_X11_asks_172 : decAL cX11_asks 172 0 173 := Or.inr ⟨0, rfl, by decide +kernel, rfl⟩
theorem d_X11_asks_173 : dec 3 cX11_asks 173 (.getfield 39) 176 := ⟨by decide +kernel, rfl⟩
theorem d_X11_asks_176 : decIL cX11_asks 176 4 178 := Or.inl ⟨by decide +kernel, rfl⟩
theorem d_X11_asks_178 : dec 1 cX11_asks 178 .iaload 179 := ⟨by decide +kernel, rfl⟩
theorem d_X11_asks_179 : dec 3 cX11_asks 179 (.invokevirtual 225) 182 := ⟨by decide +kernel, rfl⟩
theorem d_X11_asks_182 : decB cX11_asks 182 (.goto 7) (7) 185 189 := ⟨by decide +kernel, rfl, by decide⟩
theorem d_X11_asks_185 : decAL cX11_asks 185 0 186 := Or.inr ⟨0, rfl, by decide +kernel, rfl⟩
theorem d_X11_asks_186 : dec 3 cX11_asks 186 (.invokevirtual 232) 189 := ⟨by decide +kernel, rfl⟩
theorem d_X11_asks_189 : decIS cX11_asks 189 3 190 := Or.inr ⟨3, rfl, by decide +kernel, rfl⟩
theorem d_X11_asks_190 : decB cX11_asks 190 (.goto (-178)) (-178) 193 12 := ⟨by decide +kernel, rfl, by decide⟩
theorem d_X11_asks_193 : decIL cX11_asks 193 3 194 := Or.inr ⟨3, rfl, by decide +kernel, rfl⟩
theorem d_X11_asks_194 : dec 1 cX11_asks 194 .ireturn 195 := ⟨by decide +kernel, rfl⟩
def k_X11_asks_129 (F : Nat)  (rec12 : Int32 → Nat → GH → Option (Int32 × Nat × GH)) (v0 : Nat) (v4 : Int32)  (n : Nat) (G : GH) : Option (Int32 × Nat × GH) :=
  Option.bind (gR G v0 11 23) (fun (x13 : Nat) =>
  Option.bind (aI G x13 0 v4) (fun (x14 : Int32) =>
  Option.bind (gR G v0 11 21) (fun (x15 : Nat) =>
  Option.bind (aI G x15 0 v4) (fun (x16 : Int32) =>
  cvP G v0 11 (f_X11_of F v0 x16 (2 : Int32) G) (fun (x17 : Int32) =>
  if x17 ≤ x14 then
  (cvI G v0 11 (f_X11_makes F v0 n G) (fun (x20 : Int32) (n18 : Nat) (G19 : GH) =>
  rec12 x20 n18 G19))
  else (Option.bind (gR G v0 11 21) (fun (x21 : Nat) =>
  Option.bind (aI G x21 0 v4) (fun (x22 : Int32) =>
  Option.bind (gR G v0 11 23) (fun (x23 : Nat) =>
  Option.bind (aI G x23 0 v4) (fun (x24 : Int32) =>
  cvP G v0 11 (f_X11_of F v0 x22 ((3 : Int32) + x24) G) (fun (x25 : Int32) =>
  Option.bind (gR G v0 11 22) (fun (x26 : Nat) =>
  Option.bind (aI G x26 0 v4) (fun (x27 : Int32) =>
  cvI G v0 11 (f_X11_opens F v0 x25 x27 n G) (fun (x30 : Int32) (n28 : Nat) (G29 : GH) =>
  rec12 x30 n28 G29))))))))))))))
def b_X11_asks_72 (F : Nat)  (rec12 : Int32 → Nat → GH → Option (Int32 × Nat × GH)) (v0 : Nat) (v4 : Int32) (rec72 : Nat → GH → Option (Int32 × Nat × GH)) : Nat → GH → Option (Int32 × Nat × GH) := fun  n G =>
  Option.bind (gR G v0 11 23) (fun (x8 : Nat) =>
  Option.bind (aI G x8 0 v4) (fun (x9 : Int32) =>
  Option.bind (gR G v0 11 21) (fun (x10 : Nat) =>
  Option.bind (aI G x10 0 v4) (fun (x11 : Int32) =>
  cvP G v0 11 (f_X11_of F v0 x11 (2 : Int32) G) (fun (x12 : Int32) =>
  if x12 ≤ x9 then
  (k_X11_asks_129 F  rec12 v0 v4 n G)
  else (Option.bind (gR G v0 11 21) (fun (x31 : Nat) =>
  Option.bind (aI G x31 0 v4) (fun (x32 : Int32) =>
  Option.bind (gR G v0 11 23) (fun (x33 : Nat) =>
  Option.bind (aI G x33 0 v4) (fun (x34 : Int32) =>
  cvP G v0 11 (f_X11_isLazy F v0 x32 x34 G) (fun (x35 : Int32) =>
  if x35 = 0 then
  (k_X11_asks_129 F  rec12 v0 v4 n G)
  else (Option.bind (gR G v0 11 23) (fun (x36 : Nat) =>
  Option.bind (aI G x36 0 v4) (fun (x37 : Int32) =>
  Option.bind (aS G x36 0 v4 (x37 + (1 : Int32))) (fun (G38 : GH) =>
  rec72 n G38)))))))))))))))
def k_X11_asks_29 (F : Nat)  (rec12 : Int32 → Nat → GH → Option (Int32 × Nat × GH)) (v0 : Nat) (v3 : Int32)  (n : Nat) (G : GH) : Option (Int32 × Nat × GH) :=
  Option.bind (gI G v0 11 26) (fun (x6 : Int32) =>
  gnm (x6 - (1 : Int32)) (fun (y7 : Int32) =>
  if v3 < 0 then
  (fixN (fun _ _ => none) (b_X11_asks_72 F  rec12 v0 y7) F n G)
  else (Option.bind (gR G v0 11 25) (fun (x39 : Nat) =>
  Option.bind (gR G v0 11 23) (fun (x40 : Nat) =>
  Option.bind (aI G x40 0 y7) (fun (x41 : Int32) =>
  Option.bind (aS G x39 0 (((4 : Int32) * y7) + x41) (v3 + (1 : Int32))) (fun (G42 : GH) =>
  Option.bind (gR G42 v0 11 23) (fun (x43 : Nat) =>
  Option.bind (aI G42 x43 0 y7) (fun (x44 : Int32) =>
  Option.bind (aS G42 x43 0 y7 (x44 + (1 : Int32))) (fun (G45 : GH) =>
  fixN (fun _ _ => none) (b_X11_asks_72 F  rec12 v0 y7) F n G45))))))))))
def b_X11_asks_12 (F : Nat)   (v0 : Nat) (rec12 : Int32 → Nat → GH → Option (Int32 × Nat × GH)) : Int32 → Nat → GH → Option (Int32 × Nat × GH) := fun v3 n G =>
  Option.bind (gI G v0 11 26) (fun (x5 : Int32) =>
  if x5 ≤ 0 then
  (some (v3, n, G))
  else (if v3 = (-9 : Int32) then
  (k_X11_asks_29 F  rec12 v0 v3 n G)
  else (if v3 < 0 then
  (some (v3, n, G))
  else (k_X11_asks_29 F  rec12 v0 v3 n G))))
def f_X11_asks (F : Nat)  (v0 : Nat) (v1 : Int32) (v2 : Int32) (n : Nat) (G : GH) : Option (Int32 × Nat × GH) :=
  Option.bind (pV G v0 11 26 (.int (0 : Int32))) (fun (G1 : GH) =>
  cvI G1 v0 11 (f_X11_opens F v0 v1 v2 n G1) (fun (x4 : Int32) (n2 : Nat) (G3 : GH) =>
  fixN (fun _ _ _ => none) (b_X11_asks_12 F   v0) F x4 n2 G3))
set_option maxRecDepth 100000 in
set_option maxHeartbeats 4000000 in
theorem c_X11_asks_129 {E : GE} {F : Nat}  {rec12 : Int32 → Nat → GH → Option (Int32 × Nat × GH)} {v0 : Nat} {v4 : Int32}  {n : Nat} {G : GH} {z : Int32 × Nat × GH}  (hrec12 : ∀ (w3 : Int32) (n : Nat) (G : GH) (z : Int32 × Nat × GH), rec12 w3 n G = some z → WG E RX11 "asks" cX11_asks 5 (some .int) 3 71 0 0 12 [(0, .ref v0), (3, .int w3)] [] n G (g_O E (some (.int z.1), z.2.1, z.2.2))) (h : k_X11_asks_129 F  rec12 v0 v4  n G = some z) : WG E RX11 "asks" cX11_asks 5 (some .int) 3 71 0 0 129 [(0, .ref v0), (4, .int v4)] [] n G (g_O E (some (.int z.1), z.2.1, z.2.2)) := by
  unfold k_X11_asks_129 at h
  refine r_aload d_X11_asks_129 rfl ?_
  refine r_getR h d_X11_asks_130 pf_X11_42 (fun x13 h => ?_)
  refine r_iload d_X11_asks_133 rfl ?_
  refine r_iald h d_X11_asks_135 (fun x14 h => ?_)
  refine r_aload d_X11_asks_136 rfl ?_
  refine r_aload d_X11_asks_137 rfl ?_
  refine r_getR h d_X11_asks_138 pf_X11_36 (fun x15 h => ?_)
  refine r_iload d_X11_asks_141 rfl ?_
  refine r_iald h d_X11_asks_143 (fun x16 h => ?_)
  refine r_iconst d_X11_asks_144 ic_2 ?_
  refine r_invP [_, _] h (fun _ hq => s_X11_of hq) d_X11_asks_145 pl_X11_76 py_X11_of pi_X11_of rfl rfl rfl (fun x17 h => ?_)
  refine r_icmp_ge h d_X11_asks_148 (fun h => ?_) (fun h => ?_)
  · refine r_aload d_X11_asks_185 rfl ?_
    refine r_invI [] h (fun _ hq => s_X11_makes hq) d_X11_asks_186 pl_X11_232 py_X11_makes pi_X11_makes rfl rfl rfl (fun x20 n18 G19 h => ?_)
    refine r_istore d_X11_asks_189 rfl rfl ?_
    refine r_goto d_X11_asks_190 ?_
    refine r_lv [(0, .ref v0), (3, .int x20)] (g_allc rfl (g_allc rfl g_alln)) ?_
    exact hrec12 _ _ _ _ h
  · refine r_aload d_X11_asks_151 rfl ?_
    refine r_aload d_X11_asks_152 rfl ?_
    refine r_aload d_X11_asks_153 rfl ?_
    refine r_getR h d_X11_asks_154 pf_X11_36 (fun x21 h => ?_)
    refine r_iload d_X11_asks_157 rfl ?_
    refine r_iald h d_X11_asks_159 (fun x22 h => ?_)
    refine r_iconst d_X11_asks_160 ic_3 ?_
    refine r_aload d_X11_asks_161 rfl ?_
    refine r_getR h d_X11_asks_162 pf_X11_42 (fun x23 h => ?_)
    refine r_iload d_X11_asks_165 rfl ?_
    refine r_iald h d_X11_asks_167 (fun x24 h => ?_)
    refine r_iadd d_X11_asks_168 ?_
    refine r_invP [_, _] h (fun _ hq => s_X11_of hq) d_X11_asks_169 pl_X11_76 py_X11_of pi_X11_of rfl rfl rfl (fun x25 h => ?_)
    refine r_aload d_X11_asks_172 rfl ?_
    refine r_getR h d_X11_asks_173 pf_X11_39 (fun x26 h => ?_)
    refine r_iload d_X11_asks_176 rfl ?_
    refine r_iald h d_X11_asks_178 (fun x27 h => ?_)
    refine r_invI [_, _] h (fun _ hq => s_X11_opens hq) d_X11_asks_179 pl_X11_225 py_X11_opens pi_X11_opens rfl rfl rfl (fun x30 n28 G29 h => ?_)
    refine r_goto d_X11_asks_182 ?_
    refine r_istore d_X11_asks_189 rfl rfl ?_
    refine r_goto d_X11_asks_190 ?_
    refine r_lv [(0, .ref v0), (3, .int x30)] (g_allc rfl (g_allc rfl g_alln)) ?_
    exact hrec12 _ _ _ _ h
set_option maxRecDepth 100000 in
set_option maxHeartbeats 4000000 in
theorem l_X11_asks_72 {E : GE} {F : Nat}  {rec12 : Int32 → Nat → GH → Option (Int32 × Nat × GH)} {v0 : Nat} {v4 : Int32}  (hrec12 : ∀ (w3 : Int32) (n : Nat) (G : GH) (z : Int32 × Nat × GH), rec12 w3 n G = some z → WG E RX11 "asks" cX11_asks 5 (some .int) 3 71 0 0 12 [(0, .ref v0), (3, .int w3)] [] n G (g_O E (some (.int z.1), z.2.1, z.2.2))) : ∀ (K : Nat)  (n : Nat) (G : GH) (z : Int32 × Nat × GH), fixN ((fun _ _ => none) : Nat → GH → Option (Int32 × Nat × GH)) (b_X11_asks_72 F  rec12 v0 v4) K  n G = some z → WG E RX11 "asks" cX11_asks 5 (some .int) 3 71 0 0 72 [(0, .ref v0), (4, .int v4)] [] n G (g_O E (some (.int z.1), z.2.1, z.2.2)) := by
  intro K
  refine fixN_ind (P := fun (r : Nat → GH → Option (Int32 × Nat × GH)) => ∀  (n : Nat) (G : GH) (z : Int32 × Nat × GH), r  n G = some z → WG E RX11 "asks" cX11_asks 5 (some .int) 3 71 0 0 72 [(0, .ref v0), (4, .int v4)] [] n G (g_O E (some (.int z.1), z.2.1, z.2.2))) ?_ ?_ K
  · intro  n G z h
    cases h
  · intro rec72 hrec72  n G z h
    unfold b_X11_asks_72 at h
    refine r_aload d_X11_asks_72 rfl ?_
    refine r_getR h d_X11_asks_73 pf_X11_42 (fun x8 h => ?_)
    refine r_iload d_X11_asks_76 rfl ?_
    refine r_iald h d_X11_asks_78 (fun x9 h => ?_)
    refine r_aload d_X11_asks_79 rfl ?_
    refine r_aload d_X11_asks_80 rfl ?_
    refine r_getR h d_X11_asks_81 pf_X11_36 (fun x10 h => ?_)
    refine r_iload d_X11_asks_84 rfl ?_
    refine r_iald h d_X11_asks_86 (fun x11 h => ?_)
    refine r_iconst d_X11_asks_87 ic_2 ?_
    refine r_invP [_, _] h (fun _ hq => s_X11_of hq) d_X11_asks_88 pl_X11_76 py_X11_of pi_X11_of rfl rfl rfl (fun x12 h => ?_)
    refine r_icmp_ge h d_X11_asks_91 (fun h => ?_) (fun h => ?_)
    · refine r_lv [(0, .ref v0), (4, .int v4)] (g_allc rfl (g_allc rfl g_alln)) ?_
      exact c_X11_asks_129  hrec12 h
    · refine r_aload d_X11_asks_94 rfl ?_
      refine r_aload d_X11_asks_95 rfl ?_
      refine r_getR h d_X11_asks_96 pf_X11_36 (fun x31 h => ?_)
      refine r_iload d_X11_asks_99 rfl ?_
      refine r_iald h d_X11_asks_101 (fun x32 h => ?_)
      refine r_aload d_X11_asks_102 rfl ?_
      refine r_getR h d_X11_asks_103 pf_X11_42 (fun x33 h => ?_)
      refine r_iload d_X11_asks_106 rfl ?_
      refine r_iald h d_X11_asks_108 (fun x34 h => ?_)
      refine r_invP [_, _] h (fun _ hq => s_X11_isLazy hq) d_X11_asks_109 pl_X11_228 py_X11_isLazy pi_X11_isLazy rfl rfl rfl (fun x35 h => ?_)
      refine r_if_eq h d_X11_asks_112 (fun h => ?_) (fun h => ?_)
      · refine r_lv [(0, .ref v0), (4, .int v4)] (g_allc rfl (g_allc rfl g_alln)) ?_
        exact c_X11_asks_129  hrec12 h
      · refine r_aload d_X11_asks_115 rfl ?_
        refine r_getR h d_X11_asks_116 pf_X11_42 (fun x36 h => ?_)
        refine r_iload d_X11_asks_119 rfl ?_
        refine r_dup2 d_X11_asks_121 rfl rfl ?_
        refine r_iald h d_X11_asks_122 (fun x37 h => ?_)
        refine r_iconst d_X11_asks_123 ic_1 ?_
        refine r_iadd d_X11_asks_124 ?_
        refine r_iast h d_X11_asks_125 (fun G38 h => ?_)
        refine r_goto d_X11_asks_126 ?_
        refine r_lv [(0, .ref v0), (4, .int v4)] (g_allc rfl (g_allc rfl g_alln)) ?_
        exact hrec72 _ _ _ h
set_option maxRecDepth 100000 in
set_option maxHeartbeats 4000000 in
theorem c_X11_asks_29 {E : GE} {F : Nat}  {rec12 : Int32 → Nat → GH → Option (Int32 × Nat × GH)} {v0 : Nat} {v3 : Int32}  {n : Nat} {G : GH} {z : Int32 × Nat × GH}  (hrec12 : ∀ (w3 : Int32) (n : Nat) (G : GH) (z : Int32 × Nat × GH), rec12 w3 n G = some z → WG E RX11 "asks" cX11_asks 5 (some .int) 3 71 0 0 12 [(0, .ref v0), (3, .int w3)] [] n G (g_O E (some (.int z.1), z.2.1, z.2.2))) (h : k_X11_asks_29 F  rec12 v0 v3  n G = some z) : WG E RX11 "asks" cX11_asks 5 (some .int) 3 71 0 0 29 [(0, .ref v0), (3, .int v3)] [] n G (g_O E (some (.int z.1), z.2.1, z.2.2)) := by
  unfold k_X11_asks_29 at h
  refine r_aload d_X11_asks_29 rfl ?_
  refine r_getI h d_X11_asks_30 pf_X11_199 (fun x6 h => ?_)
  refine r_iconst d_X11_asks_33 ic_1 ?_
  refine r_isub d_X11_asks_34 ?_
  refine r_nmI h (fun y7 _ h => ?_)
  refine r_istore d_X11_asks_35 rfl rfl ?_
  refine r_iload d_X11_asks_37 rfl ?_
  refine r_if_lt h d_X11_asks_38 (fun h => ?_) (fun h => ?_)
  · refine r_lv [(0, .ref v0), (4, .int y7)] (g_allc rfl (g_allc rfl g_alln)) ?_
    exact l_X11_asks_72  hrec12 _ _ _ _ h
  · refine r_aload d_X11_asks_41 rfl ?_
    refine r_getR h d_X11_asks_42 pf_X11_48 (fun x39 h => ?_)
    refine r_iconst d_X11_asks_45 ic_4 ?_
    refine r_iload d_X11_asks_46 rfl ?_
    refine r_imul d_X11_asks_48 ?_
    refine r_aload d_X11_asks_49 rfl ?_
    refine r_getR h d_X11_asks_50 pf_X11_42 (fun x40 h => ?_)
    refine r_iload d_X11_asks_53 rfl ?_
    refine r_iald h d_X11_asks_55 (fun x41 h => ?_)
    refine r_iadd d_X11_asks_56 ?_
    refine r_iload d_X11_asks_57 rfl ?_
    refine r_iconst d_X11_asks_58 ic_1 ?_
    refine r_iadd d_X11_asks_59 ?_
    refine r_iast h d_X11_asks_60 (fun G42 h => ?_)
    refine r_aload d_X11_asks_61 rfl ?_
    refine r_getR h d_X11_asks_62 pf_X11_42 (fun x43 h => ?_)
    refine r_iload d_X11_asks_65 rfl ?_
    refine r_dup2 d_X11_asks_67 rfl rfl ?_
    refine r_iald h d_X11_asks_68 (fun x44 h => ?_)
    refine r_iconst d_X11_asks_69 ic_1 ?_
    refine r_iadd d_X11_asks_70 ?_
    refine r_iast h d_X11_asks_71 (fun G45 h => ?_)
    refine r_lv [(0, .ref v0), (4, .int y7)] (g_allc rfl (g_allc rfl g_alln)) ?_
    exact l_X11_asks_72  hrec12 _ _ _ _ h
set_option maxRecDepth 100000 in
set_option maxHeartbeats 4000000 in
theorem l_X11_asks_12 {E : GE} {F : Nat}   {v0 : Nat}   : ∀ (K : Nat) (v3 : Int32) (n : Nat) (G : GH) (z : Int32 × Nat × GH), fixN ((fun _ _ _ => none) : Int32 → Nat → GH → Option (Int32 × Nat × GH)) (b_X11_asks_12 F   v0) K v3 n G = some z → WG E RX11 "asks" cX11_asks 5 (some .int) 3 71 0 0 12 [(0, .ref v0), (3, .int v3)] [] n G (g_O E (some (.int z.1), z.2.1, z.2.2)) := by
  intro K
  refine fixN_ind (P := fun (r : Int32 → Nat → GH → Option (Int32 × Nat × GH)) => ∀ (v3 : Int32) (n : Nat) (G : GH) (z : Int32 × Nat × GH), r v3 n G = some z → WG E RX11 "asks" cX11_asks 5 (some .int) 3 71 0 0 12 [(0, .ref v0), (3, .int v3)] [] n G (g_O E (some (.int z.1), z.2.1, z.2.2))) ?_ ?_ K
  · intro v3 n G z h
    cases h
  · intro rec12 hrec12 v3 n G z h
    unfold b_X11_asks_12 at h
    refine r_aload d_X11_asks_12 rfl ?_
    refine r_getI h d_X11_asks_13 pf_X11_199 (fun x5 h => ?_)
    refine r_if_le h d_X11_asks_16 (fun h => ?_) (fun h => ?_)
    · refine r_iload d_X11_asks_193 rfl ?_
      exact r_iret h d_X11_asks_194
    · refine r_iload d_X11_asks_19 rfl ?_
      refine r_bipush d_X11_asks_20 bp_m9 ?_
      refine r_icmp_eq h d_X11_asks_22 (fun h => ?_) (fun h => ?_)
      · refine r_lv [(0, .ref v0), (3, .int v3)] (g_allc rfl (g_allc rfl g_alln)) ?_
        exact c_X11_asks_29  hrec12 h
      · refine r_iload d_X11_asks_25 rfl ?_
        refine r_if_lt h d_X11_asks_26 (fun h => ?_) (fun h => ?_)
        · refine r_iload d_X11_asks_193 rfl ?_
          exact r_iret h d_X11_asks_194
        · refine r_lv [(0, .ref v0), (3, .int v3)] (g_allc rfl (g_allc rfl g_alln)) ?_
          exact c_X11_asks_29  hrec12 h
set_option maxRecDepth 100000 in
set_option maxHeartbeats 4000000 in
theorem s_X11_asks {E : GE} {F : Nat}  {v0 : Nat} {v1 : Int32} {v2 : Int32} {n : Nat} {G : GH} {z : Int32 × Nat × GH}  (h : f_X11_asks F  v0 v1 v2 n G = some z) : GM E yX11_asks cX11_asks 5 (some .int) 3 71 0 0 [.ref v0, .int v1, .int v2] n G (some (.int z.1), z.2.1, z.2.2) := by
  refine GM.of (by decide) (Nat.le_of_ble_eq_true rfl) ?_
  show WG E RX11 "asks" cX11_asks 5 (some .int) 3 71 0 0 0 [(0, .ref v0), (1, .int v1), (2, .int v2)] [] n G (g_O E (some (.int z.1), z.2.1, z.2.2))
  unfold f_X11_asks at h
  refine r_aload d_X11_asks_0 rfl ?_
  refine r_iconst d_X11_asks_1 ic_0 ?_
  refine r_put h d_X11_asks_2 pw_X11_199 rfl rfl (fun G1 h => ?_)
  refine r_aload d_X11_asks_5 rfl ?_
  refine r_iload d_X11_asks_6 rfl ?_
  refine r_iload d_X11_asks_7 rfl ?_
  refine r_invI [_, _] h (fun _ hq => s_X11_opens hq) d_X11_asks_8 pl_X11_225 py_X11_opens pi_X11_opens rfl rfl rfl (fun x4 n2 G3 h => ?_)
  refine r_istore d_X11_asks_11 rfl rfl ?_
  refine r_lv [(0, .ref v0), (3, .int x4)] (g_allc rfl (g_allc rfl g_alln)) ?_
  exact l_X11_asks_12   _ _ _ _ _ h
/-! X11_isReckoned -/
theorem d_X11_isReckoned_0 : dec 1 cX11_isReckoned 0 (.iconst 0) 1 := ⟨by decide +kernel, rfl⟩
theorem d_X11_isReckoned_1 : decIS cX11_isReckoned 1 2 2 := Or.inr ⟨2, rfl, by decide +kernel, rfl⟩
theorem d_X11_isReckoned_2 : decIL cX11_isReckoned 2 2 3 := Or.inr ⟨2, rfl, by decide +kernel, rfl⟩
theorem d_X11_isReckoned_3 : decAL cX11_isReckoned 3 0 4 := Or.inr ⟨0, rfl, by decide +kernel, rfl⟩
theorem d_X11_isReckoned_4 : dec 3 cX11_isReckoned 4 (.getfield 202) 7 := ⟨by decide +kernel, rfl⟩
theorem d_X11_isReckoned_7 : decB cX11_isReckoned 7 (.if_icmp .ge 21) (21) 10 28 := ⟨by decide +kernel, rfl, by decide⟩
theorem d_X11_isReckoned_10 : decAL cX11_isReckoned 10 0 11 := Or.inr ⟨0, rfl, by decide +kernel, rfl⟩
theorem d_X11_isReckoned_11 : dec 3 cX11_isReckoned 11 (.getfield 51) 14 := ⟨by decide +kernel, rfl⟩
theorem d_X11_isReckoned_14 : decIL cX11_isReckoned 14 2 15 := Or.inr ⟨2, rfl, by decide +kernel, rfl⟩
theorem d_X11_isReckoned_15 : dec 1 cX11_isReckoned 15 .iaload 16 := ⟨by decide +kernel, rfl⟩
theorem d_X11_isReckoned_16 : decIL cX11_isReckoned 16 1 17 := Or.inr ⟨1, rfl, by decide +kernel, rfl⟩
theorem d_X11_isReckoned_17 : decB cX11_isReckoned 17 (.if_icmp .ne 5) (5) 20 22 := ⟨by decide +kernel, rfl, by decide⟩
theorem d_X11_isReckoned_20 : dec 1 cX11_isReckoned 20 (.iconst 1) 21 := ⟨by decide +kernel, rfl⟩
theorem d_X11_isReckoned_21 : dec 1 cX11_isReckoned 21 .ireturn 22 := ⟨by decide +kernel, rfl⟩
theorem d_X11_isReckoned_22 : dec 3 cX11_isReckoned 22 (.iinc 2 1) 25 := ⟨by decide +kernel, rfl⟩
theorem d_X11_isReckoned_25 : decB cX11_isReckoned 25 (.goto (-23)) (-23) 28 2 := ⟨by decide +kernel, rfl, by decide⟩
theorem d_X11_isReckoned_28 : dec 1 cX11_isReckoned 28 (.iconst 0) 29 := ⟨by decide +kernel, rfl⟩
theorem d_X11_isReckoned_29 : dec 1 cX11_isReckoned 29 .ireturn 30 := ⟨by decide +kernel, rfl⟩
def b_X11_isReckoned_2 (F : Nat)   (v0 : Nat) (v1 : Int32) (G : GH) (rec2 : Int32 → Option (Int32)) : Int32 → Option (Int32) := fun v2 =>
  Option.bind (gI G v0 11 29) (fun (x1 : Int32) =>
  if x1 ≤ v2 then
  (rP .boolean (0 : Int32))
  else (Option.bind (gR G v0 11 27) (fun (x2 : Nat) =>
  Option.bind (aI G x2 0 v2) (fun (x3 : Int32) =>
  if x3 = v1 then
  (rP .boolean (1 : Int32))
  else (rec2 (v2 + 1))))))
def f_X11_isReckoned (F : Nat)  (v0 : Nat) (v1 : Int32) (G : GH) : Option (Int32) :=
  fixN (fun _ => none) (b_X11_isReckoned_2 F   v0 v1 G) F (0 : Int32)
set_option maxRecDepth 100000 in
set_option maxHeartbeats 4000000 in
theorem l_X11_isReckoned_2 {E : GE} {F : Nat}   {v0 : Nat} {v1 : Int32} {n : Nat} {G : GH}   : ∀ (K : Nat) (v2 : Int32) (z : Int32), fixN ((fun _ => none) : Int32 → Option (Int32)) (b_X11_isReckoned_2 F   v0 v1 G) K v2 = some z → WG E RX11 "isReckoned" cX11_isReckoned 3 (some .boolean) 0 0 0 0 2 [(0, .ref v0), (1, .int v1), (2, .int v2)] [] n G (g_O E (some (.int z), n, G)) := by
  intro K
  refine fixN_ind (P := fun (r : Int32 → Option (Int32)) => ∀ (v2 : Int32) (z : Int32), r v2 = some z → WG E RX11 "isReckoned" cX11_isReckoned 3 (some .boolean) 0 0 0 0 2 [(0, .ref v0), (1, .int v1), (2, .int v2)] [] n G (g_O E (some (.int z), n, G))) ?_ ?_ K
  · intro v2 z h
    cases h
  · intro rec2 hrec2 v2 z h
    unfold b_X11_isReckoned_2 at h
    refine r_iload d_X11_isReckoned_2 rfl ?_
    refine r_aload d_X11_isReckoned_3 rfl ?_
    refine r_getI h d_X11_isReckoned_4 pf_X11_202 (fun x1 h => ?_)
    refine r_icmp_ge h d_X11_isReckoned_7 (fun h => ?_) (fun h => ?_)
    · refine r_iconst d_X11_isReckoned_28 ic_0 ?_
      exact r_pzret h d_X11_isReckoned_29
    · refine r_aload d_X11_isReckoned_10 rfl ?_
      refine r_getR h d_X11_isReckoned_11 pf_X11_51 (fun x2 h => ?_)
      refine r_iload d_X11_isReckoned_14 rfl ?_
      refine r_iald h d_X11_isReckoned_15 (fun x3 h => ?_)
      refine r_iload d_X11_isReckoned_16 rfl ?_
      refine r_icmp_ne h d_X11_isReckoned_17 (fun h => ?_) (fun h => ?_)
      · refine r_iinc d_X11_isReckoned_22 rfl (ii_1 _) rfl rfl ?_
        refine r_goto d_X11_isReckoned_25 ?_
        refine r_lv [(0, .ref v0), (1, .int v1), (2, .int (v2 + 1))] (g_allc rfl (g_allc rfl (g_allc rfl g_alln))) ?_
        exact hrec2 _ _ h
      · refine r_iconst d_X11_isReckoned_20 ic_1 ?_
        exact r_pzret h d_X11_isReckoned_21
set_option maxRecDepth 100000 in
set_option maxHeartbeats 4000000 in
theorem s_X11_isReckoned {E : GE} {F : Nat}  {v0 : Nat} {v1 : Int32} {n : Nat} {G : GH} {z : Int32}  (h : f_X11_isReckoned F  v0 v1 G = some z) : GM E yX11_isReckoned cX11_isReckoned 3 (some .boolean) 0 0 0 0 [.ref v0, .int v1] n G (some (.int z), n, G) := by
  refine GM.of (by decide) (Nat.le_of_ble_eq_true rfl) ?_
  show WG E RX11 "isReckoned" cX11_isReckoned 3 (some .boolean) 0 0 0 0 0 [(0, .ref v0), (1, .int v1)] [] n G (g_O E (some (.int z), n, G))
  unfold f_X11_isReckoned at h
  refine r_iconst d_X11_isReckoned_0 ic_0 ?_
  refine r_istore d_X11_isReckoned_1 rfl rfl ?_
  refine r_lv [(0, .ref v0), (1, .int v1), (2, .int (0 : Int32))] (g_allc rfl (g_allc rfl (g_allc rfl g_alln))) ?_
  exact l_X11_isReckoned_2   _ _ _ h
/-! X11_valueOf -/
theorem d_X11_valueOf_0 : decAL cX11_valueOf 0 0 1 := Or.inr ⟨0, rfl, by decide +kernel, rfl⟩
theorem d_X11_valueOf_1 : decIL cX11_valueOf 1 1 2 := Or.inr ⟨1, rfl, by decide +kernel, rfl⟩
theorem d_X11_valueOf_2 : dec 1 cX11_valueOf 2 (.iconst 0) 3 := ⟨by decide +kernel, rfl⟩
theorem d_X11_valueOf_3 : dec 3 cX11_valueOf 3 (.invokevirtual 196) 6 := ⟨by decide +kernel, rfl⟩
theorem d_X11_valueOf_6 : decIS cX11_valueOf 6 2 7 := Or.inr ⟨2, rfl, by decide +kernel, rfl⟩
theorem d_X11_valueOf_7 : decAL cX11_valueOf 7 0 8 := Or.inr ⟨0, rfl, by decide +kernel, rfl⟩
theorem d_X11_valueOf_8 : decIL cX11_valueOf 8 2 9 := Or.inr ⟨2, rfl, by decide +kernel, rfl⟩
theorem d_X11_valueOf_9 : dec 1 cX11_valueOf 9 (.iconst 0) 10 := ⟨by decide +kernel, rfl⟩
theorem d_X11_valueOf_10 : dec 3 cX11_valueOf 10 (.invokevirtual 76) 13 := ⟨by decide +kernel, rfl⟩
theorem d_X11_valueOf_13 : decIS cX11_valueOf 13 3 14 := Or.inr ⟨3, rfl, by decide +kernel, rfl⟩
theorem d_X11_valueOf_14 : decAL cX11_valueOf 14 0 15 := Or.inr ⟨0, rfl, by decide +kernel, rfl⟩
theorem d_X11_valueOf_15 : decIL cX11_valueOf 15 2 16 := Or.inr ⟨2, rfl, by decide +kernel, rfl⟩
theorem d_X11_valueOf_16 : dec 1 cX11_valueOf 16 (.iconst 1) 17 := ⟨by decide +kernel, rfl⟩
theorem d_X11_valueOf_17 : dec 3 cX11_valueOf 17 (.invokevirtual 76) 20 := ⟨by decide +kernel, rfl⟩
theorem d_X11_valueOf_20 : decIS cX11_valueOf 20 4 22 := Or.inl ⟨by decide +kernel, rfl⟩
theorem d_X11_valueOf_22 : dec 1 cX11_valueOf 22 (.iconst 0) 23 := ⟨by decide +kernel, rfl⟩
theorem d_X11_valueOf_23 : decIS cX11_valueOf 23 5 25 := Or.inl ⟨by decide +kernel, rfl⟩
theorem d_X11_valueOf_25 : decIL cX11_valueOf 25 5 27 := Or.inl ⟨by decide +kernel, rfl⟩
theorem d_X11_valueOf_27 : decAL cX11_valueOf 27 0 28 := Or.inr ⟨0, rfl, by decide +kernel, rfl⟩
theorem d_X11_valueOf_28 : decIL cX11_valueOf 28 2 29 := Or.inr ⟨2, rfl, by decide +kernel, rfl⟩
theorem d_X11_valueOf_29 : dec 1 cX11_valueOf 29 (.iconst 2) 30 := ⟨by decide +kernel, rfl⟩
theorem d_X11_valueOf_30 : dec 3 cX11_valueOf 30 (.invokevirtual 76) 33 := ⟨by decide +kernel, rfl⟩
theorem d_X11_valueOf_33 : decB cX11_valueOf 33 (.if_icmp .ge 108) (108) 36 141 := ⟨by decide +kernel, rfl, by decide⟩
theorem d_X11_valueOf_36 : decIL cX11_valueOf 36 3 37 := Or.inr ⟨3, rfl, by decide +kernel, rfl⟩
theorem d_X11_valueOf_37 : decB cX11_valueOf 37 (.ifCond .eq 104) (104) 40 141 := ⟨by decide +kernel, rfl, by decide⟩
theorem d_X11_valueOf_40 : decAL cX11_valueOf 40 0 41 := Or.inr ⟨0, rfl, by decide +kernel, rfl⟩
theorem d_X11_valueOf_41 : decAL cX11_valueOf 41 0 42 := Or.inr ⟨0, rfl, by decide +kernel, rfl⟩
theorem d_X11_valueOf_42 : decIL cX11_valueOf 42 1 43 := Or.inr ⟨1, rfl, by decide +kernel, rfl⟩
theorem d_X11_valueOf_43 : dec 1 cX11_valueOf 43 (.iconst 4) 44 := ⟨by decide +kernel, rfl⟩
theorem d_X11_valueOf_44 : decIL cX11_valueOf 44 5 46 := Or.inl ⟨by decide +kernel, rfl⟩
theorem d_X11_valueOf_46 : dec 1 cX11_valueOf 46 .iadd 47 := ⟨by decide +kernel, rfl⟩
theorem d_X11_valueOf_47 : dec 3 cX11_valueOf 47 (.invokevirtual 196) 50 := ⟨by decide +kernel, rfl⟩
theorem d_X11_valueOf_50 : dec 1 cX11_valueOf 50 (.iconst 1) 51 := ⟨by decide +kernel, rfl⟩
theorem d_X11_valueOf_51 : dec 1 cX11_valueOf 51 .isub 52 := ⟨by decide +kernel, rfl⟩
theorem d_X11_valueOf_52 : dec 1 cX11_valueOf 52 (.iconst 3) 53 := ⟨by decide +kernel, rfl⟩
theorem d_X11_valueOf_53 : dec 3 cX11_valueOf 53 (.invokevirtual 196) 56 := ⟨by decide +kernel, rfl⟩
theorem d_X11_valueOf_56 : decIS cX11_valueOf 56 6 58 := Or.inl ⟨by decide +kernel, rfl⟩
theorem d_X11_valueOf_58 : decIL cX11_valueOf 58 3 59 := Or.inr ⟨3, rfl, by decide +kernel, rfl⟩
theorem d_X11_valueOf_59 : dec 1 cX11_valueOf 59 (.iconst 1) 60 := ⟨by decide +kernel, rfl⟩
theorem d_X11_valueOf_60 : decB cX11_valueOf 60 (.if_icmp .ne 11) (11) 63 71 := ⟨by decide +kernel, rfl, by decide⟩
theorem d_X11_valueOf_63 : decIL cX11_valueOf 63 4 65 := Or.inl ⟨by decide +kernel, rfl⟩
theorem d_X11_valueOf_65 : decIL cX11_valueOf 65 6 67 := Or.inl ⟨by decide +kernel, rfl⟩
theorem d_X11_valueOf_67 : dec 1 cX11_valueOf 67 .iadd 68 := ⟨by decide +kernel, rfl⟩
theorem d_X11_valueOf_68 : decB cX11_valueOf 68 (.goto 65) (65) 71 133 := ⟨by decide +kernel, rfl, by decide⟩
theorem d_X11_valueOf_71 : decIL cX11_valueOf 71 3 72 := Or.inr ⟨3, rfl, by decide +kernel, rfl⟩
theorem d_X11_valueOf_72 : dec 1 cX11_valueOf 72 (.iconst 2) 73 := ⟨by decide +kernel, rfl⟩
theorem d_X11_valueOf_73 : decB cX11_valueOf 73 (.if_icmp .ne 11) (11) 76 84 := ⟨by decide +kernel, rfl, by decide⟩
theorem d_X11_valueOf_76 : decIL cX11_valueOf 76 4 78 := Or.inl ⟨by decide +kernel, rfl⟩
theorem d_X11_valueOf_78 : decIL cX11_valueOf 78 6 80 := Or.inl ⟨by decide +kernel, rfl⟩
theorem d_X11_valueOf_80 : dec 1 cX11_valueOf 80 .imul 81 := ⟨by decide +kernel, rfl⟩
theorem d_X11_valueOf_81 : decB cX11_valueOf 81 (.goto 52) (52) 84 133 := ⟨by decide +kernel, rfl, by decide⟩
theorem d_X11_valueOf_84 : decIL cX11_valueOf 84 3 85 := Or.inr ⟨3, rfl, by decide +kernel, rfl⟩
theorem d_X11_valueOf_85 : dec 1 cX11_valueOf 85 (.iconst 3) 86 := ⟨by decide +kernel, rfl⟩
theorem d_X11_valueOf_86 : decB cX11_valueOf 86 (.if_icmp .ne 20) (20) 89 106 := ⟨by decide +kernel, rfl, by decide⟩
theorem d_X11_valueOf_89 : decIL cX11_valueOf 89 6 91 := Or.inl ⟨by decide +kernel, rfl⟩
theorem d_X11_valueOf_91 : decIL cX11_valueOf 91 4 93 := Or.inl ⟨by decide +kernel, rfl⟩
theorem d_X11_valueOf_93 : decB cX11_valueOf 93 (.if_icmp .le 8) (8) 96 101 := ⟨by decide +kernel, rfl, by decide⟩
theorem d_X11_valueOf_96 : decIL cX11_valueOf 96 6 98 := Or.inl ⟨by decide +kernel, rfl⟩
theorem d_X11_valueOf_98 : decB cX11_valueOf 98 (.goto 35) (35) 101 133 := ⟨by decide +kernel, rfl, by decide⟩
theorem d_X11_valueOf_101 : decIL cX11_valueOf 101 4 103 := Or.inl ⟨by decide +kernel, rfl⟩
theorem d_X11_valueOf_103 : decB cX11_valueOf 103 (.goto 30) (30) 106 133 := ⟨by decide +kernel, rfl, by decide⟩
theorem d_X11_valueOf_106 : decIL cX11_valueOf 106 3 107 := Or.inr ⟨3, rfl, by decide +kernel, rfl⟩
theorem d_X11_valueOf_107 : dec 1 cX11_valueOf 107 (.iconst 4) 108 := ⟨by decide +kernel, rfl⟩
theorem d_X11_valueOf_108 : decB cX11_valueOf 108 (.if_icmp .ne 20) (20) 111 128 := ⟨by decide +kernel, rfl, by decide⟩
theorem d_X11_valueOf_111 : decIL cX11_valueOf 111 6 113 := Or.inl ⟨by decide +kernel, rfl⟩
theorem d_X11_valueOf_113 : decIL cX11_valueOf 113 4 115 := Or.inl ⟨by decide +kernel, rfl⟩
theorem d_X11_valueOf_115 : decB cX11_valueOf 115 (.if_icmp .ge 8) (8) 118 123 := ⟨by decide +kernel, rfl, by decide⟩
theorem d_X11_valueOf_118 : decIL cX11_valueOf 118 6 120 := Or.inl ⟨by decide +kernel, rfl⟩
theorem d_X11_valueOf_120 : decB cX11_valueOf 120 (.goto 13) (13) 123 133 := ⟨by decide +kernel, rfl, by decide⟩
theorem d_X11_valueOf_123 : decIL cX11_valueOf 123 4 125 := Or.inl ⟨by decide +kernel, rfl⟩
theorem d_X11_valueOf_125 : decB cX11_valueOf 125 (.goto 8) (8) 128 133 := ⟨by decide +kernel, rfl, by decide⟩
theorem d_X11_valueOf_128 : decIL cX11_valueOf 128 4 130 := Or.inl ⟨by decide +kernel, rfl⟩
theorem d_X11_valueOf_130 : decIL cX11_valueOf 130 6 132 := Or.inl ⟨by decide +kernel, rfl⟩
theorem d_X11_valueOf_132 : dec 1 cX11_valueOf 132 .isub 133 := ⟨by decide +kernel, rfl⟩
theorem d_X11_valueOf_133 : decIS cX11_valueOf 133 4 135 := Or.inl ⟨by decide +kernel, rfl⟩
theorem d_X11_valueOf_135 : dec 3 cX11_valueOf 135 (.iinc 5 1) 138 := ⟨by decide +kernel, rfl⟩
theorem d_X11_valueOf_138 : decB cX11_valueOf 138 (.goto (-113)) (-113) 141 25 := ⟨by decide +kernel, rfl, by decide⟩
theorem d_X11_valueOf_141 : decIL cX11_valueOf 141 4 143 := Or.inl ⟨by decide +kernel, rfl⟩
theorem d_X11_valueOf_143 : dec 1 cX11_valueOf 143 .ireturn 144 := ⟨by decide +kernel, rfl⟩
def b_X11_valueOf_25 (F : Nat)   (v0 : Nat) (v1 : Int32) (v2 : Int32) (v3 : Int32) (G : GH) (rec25 : Int32 → Int32 → Option (Int32)) : Int32 → Int32 → Option (Int32) := fun v4 v5 =>
  cvP G v0 11 (f_X11_of F v0 v2 (2 : Int32) G) (fun (x4 : Int32) =>
  if x4 ≤ v5 then
  (some v4)
  else (if v3 = 0 then
  (some v4)
  else (cvP G v0 11 (f_X11_its F v0 v1 ((4 : Int32) + v5) G) (fun (x5 : Int32) =>
  cvP G v0 11 (f_X11_its F v0 (x5 - (1 : Int32)) (3 : Int32) G) (fun (x6 : Int32) =>
  if v3 = (1 : Int32) then
  (gnm (v4 + x6) (fun (y9 : Int32) =>
  rec25 y9 (v5 + 1)))
  else (if v3 = (2 : Int32) then
  (gnm (v4 * x6) (fun (y8 : Int32) =>
  rec25 y8 (v5 + 1)))
  else (if v3 = (3 : Int32) then
  (if x6 ≤ v4 then
  (rec25 v4 (v5 + 1))
  else (rec25 x6 (v5 + 1)))
  else (if v3 = (4 : Int32) then
  (if v4 ≤ x6 then
  (rec25 v4 (v5 + 1))
  else (rec25 x6 (v5 + 1)))
  else (gnm (v4 - x6) (fun (y7 : Int32) =>
  rec25 y7 (v5 + 1)))))))))))
def f_X11_valueOf (F : Nat)  (v0 : Nat) (v1 : Int32) (G : GH) : Option (Int32) :=
  cvP G v0 11 (f_X11_its F v0 v1 (0 : Int32) G) (fun (x1 : Int32) =>
  cvP G v0 11 (f_X11_of F v0 x1 (0 : Int32) G) (fun (x2 : Int32) =>
  cvP G v0 11 (f_X11_of F v0 x1 (1 : Int32) G) (fun (x3 : Int32) =>
  fixN (fun _ _ => none) (b_X11_valueOf_25 F   v0 v1 x1 x2 G) F x3 (0 : Int32))))
set_option maxRecDepth 100000 in
set_option maxHeartbeats 4000000 in
theorem l_X11_valueOf_25 {E : GE} {F : Nat}   {v0 : Nat} {v1 : Int32} {v2 : Int32} {v3 : Int32} {n : Nat} {G : GH}   : ∀ (K : Nat) (v4 : Int32) (v5 : Int32) (z : Int32), fixN ((fun _ _ => none) : Int32 → Int32 → Option (Int32)) (b_X11_valueOf_25 F   v0 v1 v2 v3 G) K v4 v5 = some z → WG E RX11 "valueOf" cX11_valueOf 7 (some .int) 1 22 0 0 25 [(0, .ref v0), (1, .int v1), (2, .int v2), (3, .int v3), (4, .int v4), (5, .int v5)] [] n G (g_O E (some (.int z), n, G)) := by
  intro K
  refine fixN_ind (P := fun (r : Int32 → Int32 → Option (Int32)) => ∀ (v4 : Int32) (v5 : Int32) (z : Int32), r v4 v5 = some z → WG E RX11 "valueOf" cX11_valueOf 7 (some .int) 1 22 0 0 25 [(0, .ref v0), (1, .int v1), (2, .int v2), (3, .int v3), (4, .int v4), (5, .int v5)] [] n G (g_O E (some (.int z), n, G))) ?_ ?_ K
  · intro v4 v5 z h
    cases h
  · intro rec25 hrec25 v4 v5 z h
    unfold b_X11_valueOf_25 at h
    refine r_iload d_X11_valueOf_25 rfl ?_
    refine r_aload d_X11_valueOf_27 rfl ?_
    refine r_iload d_X11_valueOf_28 rfl ?_
    refine r_iconst d_X11_valueOf_29 ic_2 ?_
    refine r_invP [_, _] h (fun _ hq => s_X11_of hq) d_X11_valueOf_30 pl_X11_76 py_X11_of pi_X11_of rfl rfl rfl (fun x4 h => ?_)
    refine r_icmp_ge h d_X11_valueOf_33 (fun h => ?_) (fun h => ?_)
    · refine r_iload d_X11_valueOf_141 rfl ?_
      exact r_pret h d_X11_valueOf_143
    · refine r_iload d_X11_valueOf_36 rfl ?_
      refine r_if_eq h d_X11_valueOf_37 (fun h => ?_) (fun h => ?_)
      · refine r_iload d_X11_valueOf_141 rfl ?_
        exact r_pret h d_X11_valueOf_143
      · refine r_aload d_X11_valueOf_40 rfl ?_
        refine r_aload d_X11_valueOf_41 rfl ?_
        refine r_iload d_X11_valueOf_42 rfl ?_
        refine r_iconst d_X11_valueOf_43 ic_4 ?_
        refine r_iload d_X11_valueOf_44 rfl ?_
        refine r_iadd d_X11_valueOf_46 ?_
        refine r_invP [_, _] h (fun _ hq => s_X11_its hq) d_X11_valueOf_47 pl_X11_196 py_X11_its pi_X11_its rfl rfl rfl (fun x5 h => ?_)
        refine r_iconst d_X11_valueOf_50 ic_1 ?_
        refine r_isub d_X11_valueOf_51 ?_
        refine r_iconst d_X11_valueOf_52 ic_3 ?_
        refine r_invP [_, _] h (fun _ hq => s_X11_its hq) d_X11_valueOf_53 pl_X11_196 py_X11_its pi_X11_its rfl rfl rfl (fun x6 h => ?_)
        refine r_istore d_X11_valueOf_56 rfl rfl ?_
        refine r_iload d_X11_valueOf_58 rfl ?_
        refine r_iconst d_X11_valueOf_59 ic_1 ?_
        refine r_icmp_ne h d_X11_valueOf_60 (fun h => ?_) (fun h => ?_)
        · refine r_iload d_X11_valueOf_71 rfl ?_
          refine r_iconst d_X11_valueOf_72 ic_2 ?_
          refine r_icmp_ne h d_X11_valueOf_73 (fun h => ?_) (fun h => ?_)
          · refine r_iload d_X11_valueOf_84 rfl ?_
            refine r_iconst d_X11_valueOf_85 ic_3 ?_
            refine r_icmp_ne h d_X11_valueOf_86 (fun h => ?_) (fun h => ?_)
            · refine r_iload d_X11_valueOf_106 rfl ?_
              refine r_iconst d_X11_valueOf_107 ic_4 ?_
              refine r_icmp_ne h d_X11_valueOf_108 (fun h => ?_) (fun h => ?_)
              · refine r_iload d_X11_valueOf_128 rfl ?_
                refine r_iload d_X11_valueOf_130 rfl ?_
                refine r_isub d_X11_valueOf_132 ?_
                refine r_nmI h (fun y7 _ h => ?_)
                refine r_istore d_X11_valueOf_133 rfl rfl ?_
                refine r_iinc d_X11_valueOf_135 rfl (ii_1 _) rfl rfl ?_
                refine r_goto d_X11_valueOf_138 ?_
                refine r_lv [(0, .ref v0), (1, .int v1), (2, .int v2), (3, .int v3), (4, .int y7), (5, .int (v5 + 1))] (g_allc rfl (g_allc rfl (g_allc rfl (g_allc rfl (g_allc rfl (g_allc rfl g_alln)))))) ?_
                exact hrec25 _ _ _ h
              · refine r_iload d_X11_valueOf_111 rfl ?_
                refine r_iload d_X11_valueOf_113 rfl ?_
                refine r_icmp_ge h d_X11_valueOf_115 (fun h => ?_) (fun h => ?_)
                · refine r_iload d_X11_valueOf_123 rfl ?_
                  refine r_goto d_X11_valueOf_125 ?_
                  refine r_istore d_X11_valueOf_133 rfl rfl ?_
                  refine r_iinc d_X11_valueOf_135 rfl (ii_1 _) rfl rfl ?_
                  refine r_goto d_X11_valueOf_138 ?_
                  refine r_lv [(0, .ref v0), (1, .int v1), (2, .int v2), (3, .int v3), (4, .int v4), (5, .int (v5 + 1))] (g_allc rfl (g_allc rfl (g_allc rfl (g_allc rfl (g_allc rfl (g_allc rfl g_alln)))))) ?_
                  exact hrec25 _ _ _ h
                · refine r_iload d_X11_valueOf_118 rfl ?_
                  refine r_goto d_X11_valueOf_120 ?_
                  refine r_istore d_X11_valueOf_133 rfl rfl ?_
                  refine r_iinc d_X11_valueOf_135 rfl (ii_1 _) rfl rfl ?_
                  refine r_goto d_X11_valueOf_138 ?_
                  refine r_lv [(0, .ref v0), (1, .int v1), (2, .int v2), (3, .int v3), (4, .int x6), (5, .int (v5 + 1))] (g_allc rfl (g_allc rfl (g_allc rfl (g_allc rfl (g_allc rfl (g_allc rfl g_alln)))))) ?_
                  exact hrec25 _ _ _ h
            · refine r_iload d_X11_valueOf_89 rfl ?_
              refine r_iload d_X11_valueOf_91 rfl ?_
              refine r_icmp_le h d_X11_valueOf_93 (fun h => ?_) (fun h => ?_)
              · refine r_iload d_X11_valueOf_101 rfl ?_
                refine r_goto d_X11_valueOf_103 ?_
                refine r_istore d_X11_valueOf_133 rfl rfl ?_
                refine r_iinc d_X11_valueOf_135 rfl (ii_1 _) rfl rfl ?_
                refine r_goto d_X11_valueOf_138 ?_
                refine r_lv [(0, .ref v0), (1, .int v1), (2, .int v2), (3, .int v3), (4, .int v4), (5, .int (v5 + 1))] (g_allc rfl (g_allc rfl (g_allc rfl (g_allc rfl (g_allc rfl (g_allc rfl g_alln)))))) ?_
                exact hrec25 _ _ _ h
              · refine r_iload d_X11_valueOf_96 rfl ?_
                refine r_goto d_X11_valueOf_98 ?_
                refine r_istore d_X11_valueOf_133 rfl rfl ?_
                refine r_iinc d_X11_valueOf_135 rfl (ii_1 _) rfl rfl ?_
                refine r_goto d_X11_valueOf_138 ?_
                refine r_lv [(0, .ref v0), (1, .int v1), (2, .int v2), (3, .int v3), (4, .int x6), (5, .int (v5 + 1))] (g_allc rfl (g_allc rfl (g_allc rfl (g_allc rfl (g_allc rfl (g_allc rfl g_alln)))))) ?_
                exact hrec25 _ _ _ h
          · refine r_iload d_X11_valueOf_76 rfl ?_
            refine r_iload d_X11_valueOf_78 rfl ?_
            refine r_imul d_X11_valueOf_80 ?_
            refine r_goto d_X11_valueOf_81 ?_
            refine r_nmI h (fun y8 _ h => ?_)
            refine r_istore d_X11_valueOf_133 rfl rfl ?_
            refine r_iinc d_X11_valueOf_135 rfl (ii_1 _) rfl rfl ?_
            refine r_goto d_X11_valueOf_138 ?_
            refine r_lv [(0, .ref v0), (1, .int v1), (2, .int v2), (3, .int v3), (4, .int y8), (5, .int (v5 + 1))] (g_allc rfl (g_allc rfl (g_allc rfl (g_allc rfl (g_allc rfl (g_allc rfl g_alln)))))) ?_
            exact hrec25 _ _ _ h
        · refine r_iload d_X11_valueOf_63 rfl ?_
          refine r_iload d_X11_valueOf_65 rfl ?_
          refine r_iadd d_X11_valueOf_67 ?_
          refine r_goto d_X11_valueOf_68 ?_
          refine r_nmI h (fun y9 _ h => ?_)
          refine r_istore d_X11_valueOf_133 rfl rfl ?_
          refine r_iinc d_X11_valueOf_135 rfl (ii_1 _) rfl rfl ?_
          refine r_goto d_X11_valueOf_138 ?_
          refine r_lv [(0, .ref v0), (1, .int v1), (2, .int v2), (3, .int v3), (4, .int y9), (5, .int (v5 + 1))] (g_allc rfl (g_allc rfl (g_allc rfl (g_allc rfl (g_allc rfl (g_allc rfl g_alln)))))) ?_
          exact hrec25 _ _ _ h
set_option maxRecDepth 100000 in
set_option maxHeartbeats 4000000 in
theorem s_X11_valueOf {E : GE} {F : Nat}  {v0 : Nat} {v1 : Int32} {n : Nat} {G : GH} {z : Int32}  (h : f_X11_valueOf F  v0 v1 G = some z) : GM E yX11_valueOf cX11_valueOf 7 (some .int) 1 22 0 0 [.ref v0, .int v1] n G (some (.int z), n, G) := by
  refine GM.of (by decide) (Nat.le_of_ble_eq_true rfl) ?_
  show WG E RX11 "valueOf" cX11_valueOf 7 (some .int) 1 22 0 0 0 [(0, .ref v0), (1, .int v1)] [] n G (g_O E (some (.int z), n, G))
  unfold f_X11_valueOf at h
  refine r_aload d_X11_valueOf_0 rfl ?_
  refine r_iload d_X11_valueOf_1 rfl ?_
  refine r_iconst d_X11_valueOf_2 ic_0 ?_
  refine r_invP [_, _] h (fun _ hq => s_X11_its hq) d_X11_valueOf_3 pl_X11_196 py_X11_its pi_X11_its rfl rfl rfl (fun x1 h => ?_)
  refine r_istore d_X11_valueOf_6 rfl rfl ?_
  refine r_aload d_X11_valueOf_7 rfl ?_
  refine r_iload d_X11_valueOf_8 rfl ?_
  refine r_iconst d_X11_valueOf_9 ic_0 ?_
  refine r_invP [_, _] h (fun _ hq => s_X11_of hq) d_X11_valueOf_10 pl_X11_76 py_X11_of pi_X11_of rfl rfl rfl (fun x2 h => ?_)
  refine r_istore d_X11_valueOf_13 rfl rfl ?_
  refine r_aload d_X11_valueOf_14 rfl ?_
  refine r_iload d_X11_valueOf_15 rfl ?_
  refine r_iconst d_X11_valueOf_16 ic_1 ?_
  refine r_invP [_, _] h (fun _ hq => s_X11_of hq) d_X11_valueOf_17 pl_X11_76 py_X11_of pi_X11_of rfl rfl rfl (fun x3 h => ?_)
  refine r_istore d_X11_valueOf_20 rfl rfl ?_
  refine r_iconst d_X11_valueOf_22 ic_0 ?_
  refine r_istore d_X11_valueOf_23 rfl rfl ?_
  refine r_lv [(0, .ref v0), (1, .int v1), (2, .int x1), (3, .int x2), (4, .int x3), (5, .int (0 : Int32))] (g_allc rfl (g_allc rfl (g_allc rfl (g_allc rfl (g_allc rfl (g_allc rfl g_alln)))))) ?_
  exact l_X11_valueOf_25   _ _ _ _ h
/-! X11_sumBegins -/
theorem pf_X11_54 : pF RX11 54 11 28 := ⟨RX11, TX11, 37, rfl, by decide, rfl, Or.inl (g_in 1173 (by decide +kernel) rfl)⟩
theorem pw_X11_202 {nm : String} : pW RX11 nm 202 11 29 .int := ⟨RX11, TX11, 37, rfl, by decide, rfl, Or.inl ⟨g_in 1174 (by decide +kernel) rfl, Or.inl rfl⟩, by decide +kernel⟩
theorem d_X11_sumBegins_0 : decAL cX11_sumBegins 0 0 1 := Or.inr ⟨0, rfl, by decide +kernel, rfl⟩
theorem d_X11_sumBegins_1 : dec 3 cX11_sumBegins 1 (.getfield 51) 4 := ⟨by decide +kernel, rfl⟩
theorem d_X11_sumBegins_4 : decAL cX11_sumBegins 4 0 5 := Or.inr ⟨0, rfl, by decide +kernel, rfl⟩
theorem d_X11_sumBegins_5 : dec 3 cX11_sumBegins 5 (.getfield 202) 8 := ⟨by decide +kernel, rfl⟩
theorem d_X11_sumBegins_8 : decIL cX11_sumBegins 8 1 9 := Or.inr ⟨1, rfl, by decide +kernel, rfl⟩
theorem d_X11_sumBegins_9 : dec 1 cX11_sumBegins 9 .iastore 10 := ⟨by decide +kernel, rfl⟩
theorem d_X11_sumBegins_10 : decAL cX11_sumBegins 10 0 11 := Or.inr ⟨0, rfl, by decide +kernel, rfl⟩
theorem d_X11_sumBegins_11 : dec 3 cX11_sumBegins 11 (.getfield 54) 14 := ⟨by decide +kernel, rfl⟩
theorem d_X11_sumBegins_14 : decAL cX11_sumBegins 14 0 15 := Or.inr ⟨0, rfl, by decide +kernel, rfl⟩
theorem d_X11_sumBegins_15 : dec 3 cX11_sumBegins 15 (.getfield 202) 18 := ⟨by decide +kernel, rfl⟩
theorem d_X11_sumBegins_18 : dec 1 cX11_sumBegins 18 (.iconst 0) 19 := ⟨by decide +kernel, rfl⟩
theorem d_X11_sumBegins_19 : dec 1 cX11_sumBegins 19 .iastore 20 := ⟨by decide +kernel, rfl⟩
theorem d_X11_sumBegins_20 : decAL cX11_sumBegins 20 0 21 := Or.inr ⟨0, rfl, by decide +kernel, rfl⟩
theorem d_X11_sumBegins_21 : dec 1 cX11_sumBegins 21 .dup 22 := ⟨by decide +kernel, rfl⟩
theorem d_X11_sumBegins_22 : dec 3 cX11_sumBegins 22 (.getfield 202) 25 := ⟨by decide +kernel, rfl⟩
theorem d_X11_sumBegins_25 : dec 1 cX11_sumBegins 25 (.iconst 1) 26 := ⟨by decide +kernel, rfl⟩
theorem d_X11_sumBegins_26 : dec 1 cX11_sumBegins 26 .iadd 27 := ⟨by decide +kernel, rfl⟩
theorem d_X11_sumBegins_27 : dec 3 cX11_sumBegins 27 (.putfield 202) 30 := ⟨by decide +kernel, rfl⟩
theorem d_X11_sumBegins_30 : dec 1 cX11_sumBegins 30 .return_ 31 := ⟨by decide +kernel, rfl⟩
def f_X11_sumBegins (F : Nat)  (v0 : Nat) (v1 : Int32) (n : Nat) (G : GH) : Option (Nat × GH) :=
  Option.bind (gR G v0 11 27) (fun (x1 : Nat) =>
  Option.bind (gI G v0 11 29) (fun (x2 : Int32) =>
  Option.bind (aS G x1 0 x2 v1) (fun (G3 : GH) =>
  Option.bind (gR G3 v0 11 28) (fun (x4 : Nat) =>
  Option.bind (gI G3 v0 11 29) (fun (x5 : Int32) =>
  Option.bind (aS G3 x4 0 x5 (0 : Int32)) (fun (G6 : GH) =>
  Option.bind (gI G6 v0 11 29) (fun (x7 : Int32) =>
  Option.bind (pV G6 v0 11 29 (.int (x7 + (1 : Int32)))) (fun (G8 : GH) =>
  some (n, G8)))))))))
set_option maxRecDepth 100000 in
set_option maxHeartbeats 4000000 in
theorem s_X11_sumBegins {E : GE} {F : Nat}  {v0 : Nat} {v1 : Int32} {n : Nat} {G : GH} {z : Nat × GH}  (h : f_X11_sumBegins F  v0 v1 n G = some z) : GM E yX11_sumBegins cX11_sumBegins 2 none 0 0 0 0 [.ref v0, .int v1] n G (none, z.1, z.2) := by
  refine GM.of (by decide) (Nat.le_of_ble_eq_true rfl) ?_
  show WG E RX11 "sumBegins" cX11_sumBegins 2 none 0 0 0 0 0 [(0, .ref v0), (1, .int v1)] [] n G (g_O E (none, z.1, z.2))
  unfold f_X11_sumBegins at h
  refine r_aload d_X11_sumBegins_0 rfl ?_
  refine r_getR h d_X11_sumBegins_1 pf_X11_51 (fun x1 h => ?_)
  refine r_aload d_X11_sumBegins_4 rfl ?_
  refine r_getI h d_X11_sumBegins_5 pf_X11_202 (fun x2 h => ?_)
  refine r_iload d_X11_sumBegins_8 rfl ?_
  refine r_iast h d_X11_sumBegins_9 (fun G3 h => ?_)
  refine r_aload d_X11_sumBegins_10 rfl ?_
  refine r_getR h d_X11_sumBegins_11 pf_X11_54 (fun x4 h => ?_)
  refine r_aload d_X11_sumBegins_14 rfl ?_
  refine r_getI h d_X11_sumBegins_15 pf_X11_202 (fun x5 h => ?_)
  refine r_iconst d_X11_sumBegins_18 ic_0 ?_
  refine r_iast h d_X11_sumBegins_19 (fun G6 h => ?_)
  refine r_aload d_X11_sumBegins_20 rfl ?_
  refine r_dup d_X11_sumBegins_21 rfl ?_
  refine r_getI h d_X11_sumBegins_22 pf_X11_202 (fun x7 h => ?_)
  refine r_iconst d_X11_sumBegins_25 ic_1 ?_
  refine r_iadd d_X11_sumBegins_26 ?_
  refine r_put h d_X11_sumBegins_27 pw_X11_202 rfl rfl (fun G8 h => ?_)
  exact r_vret h d_X11_sumBegins_30
/-! X11_sumGoesOn -/
theorem py_X11_valueOf : pY yX11_valueOf cX11_valueOf 7 (some .int) 1 := ⟨g_in 1443 (by decide +kernel) rfl, g_in 104 (by decide +kernel) rfl, by decide, by decide, by decide +kernel⟩
theorem pi_X11_valueOf : pI yX11_valueOf 11 := ⟨g_in 1442 (by decide +kernel) rfl, g_in 70 (by decide +kernel) rfl, (RX11, TX11, 37), rfl, rfl⟩
theorem pl_X11_235 : pL RX11 235 yX11_valueOf := Or.inl (g_in 1440 (by decide +kernel) rfl)
theorem py_X11_isReckoned : pY yX11_isReckoned cX11_isReckoned 3 (some .boolean) 1 := ⟨g_in 1447 (by decide +kernel) rfl, g_in 104 (by decide +kernel) rfl, by decide, by decide, by decide +kernel⟩
theorem pi_X11_isReckoned : pI yX11_isReckoned 11 := ⟨g_in 1446 (by decide +kernel) rfl, g_in 71 (by decide +kernel) rfl, (RX11, TX11, 37), rfl, rfl⟩
theorem pl_X11_242 : pL RX11 242 yX11_isReckoned := Or.inl (g_in 1444 (by decide +kernel) rfl)
theorem py_X11_sumBegins : pY yX11_sumBegins cX11_sumBegins 2 none 1 := ⟨g_in 1435 (by decide +kernel) rfl, g_in 104 (by decide +kernel) rfl, by decide, by decide, by decide +kernel⟩
theorem pi_X11_sumBegins : pI yX11_sumBegins 11 := ⟨g_in 1434 (by decide +kernel) rfl, g_in 68 (by decide +kernel) rfl, (RX11, TX11, 37), rfl, rfl⟩
theorem pl_X11_245 : pL RX11 245 yX11_sumBegins := Or.inl (g_in 1432 (by decide +kernel) rfl)
theorem py_X11_asks : pY yX11_asks cX11_asks 5 (some .int) 2 := ⟨g_in 1387 (by decide +kernel) rfl, g_in 104 (by decide +kernel) rfl, by decide, by decide, by decide +kernel⟩
theorem pi_X11_asks : pI yX11_asks 11 := ⟨g_in 1386 (by decide +kernel) rfl, g_in 57 (by decide +kernel) rfl, (RX11, TX11, 37), rfl, rfl⟩
theorem pl_X11_239 : pL RX11 239 yX11_asks := Or.inl (g_in 1384 (by decide +kernel) rfl)
theorem d_X11_sumGoesOn_0 : decAL cX11_sumGoesOn 0 0 1 := Or.inr ⟨0, rfl, by decide +kernel, rfl⟩
theorem d_X11_sumGoesOn_1 : dec 3 cX11_sumGoesOn 1 (.getfield 202) 4 := ⟨by decide +kernel, rfl⟩
theorem d_X11_sumGoesOn_4 : dec 1 cX11_sumGoesOn 4 (.iconst 1) 5 := ⟨by decide +kernel, rfl⟩
theorem d_X11_sumGoesOn_5 : dec 1 cX11_sumGoesOn 5 .isub 6 := ⟨by decide +kernel, rfl⟩
theorem d_X11_sumGoesOn_6 : decIS cX11_sumGoesOn 6 1 7 := Or.inr ⟨1, rfl, by decide +kernel, rfl⟩
theorem d_X11_sumGoesOn_7 : decAL cX11_sumGoesOn 7 0 8 := Or.inr ⟨0, rfl, by decide +kernel, rfl⟩
theorem d_X11_sumGoesOn_8 : dec 3 cX11_sumGoesOn 8 (.getfield 51) 11 := ⟨by decide +kernel, rfl⟩
theorem d_X11_sumGoesOn_11 : decIL cX11_sumGoesOn 11 1 12 := Or.inr ⟨1, rfl, by decide +kernel, rfl⟩
theorem d_X11_sumGoesOn_12 : dec 1 cX11_sumGoesOn 12 .iaload 13 := ⟨by decide +kernel, rfl⟩
theorem d_X11_sumGoesOn_13 : decIS cX11_sumGoesOn 13 2 14 := Or.inr ⟨2, rfl, by decide +kernel, rfl⟩
theorem d_X11_sumGoesOn_14 : decAL cX11_sumGoesOn 14 0 15 := Or.inr ⟨0, rfl, by decide +kernel, rfl⟩
theorem d_X11_sumGoesOn_15 : decIL cX11_sumGoesOn 15 2 16 := Or.inr ⟨2, rfl, by decide +kernel, rfl⟩
theorem d_X11_sumGoesOn_16 : dec 1 cX11_sumGoesOn 16 (.iconst 0) 17 := ⟨by decide +kernel, rfl⟩
theorem d_X11_sumGoesOn_17 : dec 3 cX11_sumGoesOn 17 (.invokevirtual 196) 20 := ⟨by decide +kernel, rfl⟩
theorem d_X11_sumGoesOn_20 : decIS cX11_sumGoesOn 20 3 21 := Or.inr ⟨3, rfl, by decide +kernel, rfl⟩
theorem d_X11_sumGoesOn_21 : decAL cX11_sumGoesOn 21 0 22 := Or.inr ⟨0, rfl, by decide +kernel, rfl⟩
theorem d_X11_sumGoesOn_22 : decIL cX11_sumGoesOn 22 3 23 := Or.inr ⟨3, rfl, by decide +kernel, rfl⟩
theorem d_X11_sumGoesOn_23 : dec 1 cX11_sumGoesOn 23 (.iconst 0) 24 := ⟨by decide +kernel, rfl⟩
theorem d_X11_sumGoesOn_24 : dec 3 cX11_sumGoesOn 24 (.invokevirtual 76) 27 := ⟨by decide +kernel, rfl⟩
theorem d_X11_sumGoesOn_27 : decB cX11_sumGoesOn 27 (.ifCond .eq 18) (18) 30 45 := ⟨by decide +kernel, rfl, by decide⟩
theorem d_X11_sumGoesOn_30 : decAL cX11_sumGoesOn 30 0 31 := Or.inr ⟨0, rfl, by decide +kernel, rfl⟩
theorem d_X11_sumGoesOn_31 : dec 3 cX11_sumGoesOn 31 (.getfield 54) 34 := ⟨by decide +kernel, rfl⟩
theorem d_X11_sumGoesOn_34 : decIL cX11_sumGoesOn 34 1 35 := Or.inr ⟨1, rfl, by decide +kernel, rfl⟩
theorem d_X11_sumGoesOn_35 : dec 1 cX11_sumGoesOn 35 .iaload 36 := ⟨by decide +kernel, rfl⟩
theorem d_X11_sumGoesOn_36 : decAL cX11_sumGoesOn 36 0 37 := Or.inr ⟨0, rfl, by decide +kernel, rfl⟩
theorem d_X11_sumGoesOn_37 : decIL cX11_sumGoesOn 37 3 38 := Or.inr ⟨3, rfl, by decide +kernel, rfl⟩
theorem d_X11_sumGoesOn_38 : dec 1 cX11_sumGoesOn 38 (.iconst 2) 39 := ⟨by decide +kernel, rfl⟩
theorem d_X11_sumGoesOn_39 : dec 3 cX11_sumGoesOn 39 (.invokevirtual 76) 42 := ⟨by decide +kernel, rfl⟩
theorem d_X11_sumGoesOn_42 : decB cX11_sumGoesOn 42 (.if_icmp .ne 33) (33) 45 75 := ⟨by decide +kernel, rfl, by decide⟩
theorem d_X11_sumGoesOn_45 : decAL cX11_sumGoesOn 45 0 46 := Or.inr ⟨0, rfl, by decide +kernel, rfl⟩
theorem d_X11_sumGoesOn_46 : decIL cX11_sumGoesOn 46 2 47 := Or.inr ⟨2, rfl, by decide +kernel, rfl⟩
theorem d_X11_sumGoesOn_47 : dec 1 cX11_sumGoesOn 47 (.iconst 3) 48 := ⟨by decide +kernel, rfl⟩
theorem d_X11_sumGoesOn_48 : decAL cX11_sumGoesOn 48 0 49 := Or.inr ⟨0, rfl, by decide +kernel, rfl⟩
theorem d_X11_sumGoesOn_49 : decIL cX11_sumGoesOn 49 2 50 := Or.inr ⟨2, rfl, by decide +kernel, rfl⟩
theorem d_X11_sumGoesOn_50 : dec 3 cX11_sumGoesOn 50 (.invokevirtual 235) 53 := ⟨by decide +kernel, rfl⟩
theorem d_X11_sumGoesOn_53 : dec 3 cX11_sumGoesOn 53 (.invokevirtual 221) 56 := ⟨by decide +kernel, rfl⟩
theorem d_X11_sumGoesOn_56 : decAL cX11_sumGoesOn 56 0 57 := Or.inr ⟨0, rfl, by decide +kernel, rfl⟩
theorem d_X11_sumGoesOn_57 : decIL cX11_sumGoesOn 57 2 58 := Or.inr ⟨2, rfl, by decide +kernel, rfl⟩
theorem d_X11_sumGoesOn_58 : dec 1 cX11_sumGoesOn 58 (.iconst 2) 59 := ⟨by decide +kernel, rfl⟩
theorem d_X11_sumGoesOn_59 : dec 1 cX11_sumGoesOn 59 (.iconst 1) 60 := ⟨by decide +kernel, rfl⟩
theorem d_X11_sumGoesOn_60 : dec 3 cX11_sumGoesOn 60 (.invokevirtual 221) 63 := ⟨by decide +kernel, rfl⟩
theorem d_X11_sumGoesOn_63 : decAL cX11_sumGoesOn 63 0 64 := Or.inr ⟨0, rfl, by decide +kernel, rfl⟩
theorem d_X11_sumGoesOn_64 : dec 1 cX11_sumGoesOn 64 .dup 65 := ⟨by decide +kernel, rfl⟩
theorem d_X11_sumGoesOn_65 : dec 3 cX11_sumGoesOn 65 (.getfield 202) 68 := ⟨by decide +kernel, rfl⟩
theorem d_X11_sumGoesOn_68 : dec 1 cX11_sumGoesOn 68 (.iconst 1) 69 := ⟨by decide +kernel, rfl⟩
theorem d_X11_sumGoesOn_69 : dec 1 cX11_sumGoesOn 69 .isub 70 := ⟨by decide +kernel, rfl⟩
theorem d_X11_sumGoesOn_70 : dec 3 cX11_sumGoesOn 70 (.putfield 202) 73 := ⟨by decide +kernel, rfl⟩
theorem d_X11_sumGoesOn_73 : dec 1 cX11_sumGoesOn 73 (.iconst 1) 74 := ⟨by decide +kernel, rfl⟩
theorem d_X11_sumGoesOn_74 : dec 1 cX11_sumGoesOn 74 .ireturn 75 := ⟨by decide +kernel, rfl⟩
theorem d_X11_sumGoesOn_75 : decAL cX11_sumGoesOn 75 0 76 := Or.inr ⟨0, rfl, by decide +kernel, rfl⟩
theorem d_X11_sumGoesOn_76 : dec 3 cX11_sumGoesOn 76 (.getfield 54) 79 := ⟨by decide +kernel, rfl⟩
theorem d_X11_sumGoesOn_79 : decIL cX11_sumGoesOn 79 1 80 := Or.inr ⟨1, rfl, by decide +kernel, rfl⟩
theorem d_X11_sumGoesOn_80 : dec 1 cX11_sumGoesOn 80 .iaload 81 := ⟨by decide +kernel, rfl⟩
theorem d_X11_sumGoesOn_81 : decIS cX11_sumGoesOn 81 4 83 := Or.inl ⟨by decide +kernel, rfl⟩
theorem d_X11_sumGoesOn_83 : decAL cX11_sumGoesOn 83 0 84 := Or.inr ⟨0, rfl, by decide +kernel, rfl⟩
theorem d_X11_sumGoesOn_84 : decIL cX11_sumGoesOn 84 2 85 := Or.inr ⟨2, rfl, by decide +kernel, rfl⟩
theorem d_X11_sumGoesOn_85 : dec 1 cX11_sumGoesOn 85 (.iconst 4) 86 := ⟨by decide +kernel, rfl⟩
theorem d_X11_sumGoesOn_86 : decIL cX11_sumGoesOn 86 4 88 := Or.inl ⟨by decide +kernel, rfl⟩
theorem d_X11_sumGoesOn_88 : dec 1 cX11_sumGoesOn 88 .iadd 89 := ⟨by decide +kernel, rfl⟩
theorem d_X11_sumGoesOn_89 : dec 3 cX11_sumGoesOn 89 (.invokevirtual 196) 92 := ⟨by decide +kernel, rfl⟩
theorem d_X11_sumGoesOn_92 : decB cX11_sumGoesOn 92 (.ifCond .ne 45) (45) 95 137 := ⟨by decide +kernel, rfl, by decide⟩
theorem d_X11_sumGoesOn_95 : decAL cX11_sumGoesOn 95 0 96 := Or.inr ⟨0, rfl, by decide +kernel, rfl⟩
theorem d_X11_sumGoesOn_96 : decAL cX11_sumGoesOn 96 0 97 := Or.inr ⟨0, rfl, by decide +kernel, rfl⟩
theorem d_X11_sumGoesOn_97 : decIL cX11_sumGoesOn 97 3 98 := Or.inr ⟨3, rfl, by decide +kernel, rfl⟩
theorem d_X11_sumGoesOn_98 : dec 1 cX11_sumGoesOn 98 (.iconst 3) 99 := ⟨by decide +kernel, rfl⟩
theorem d_X11_sumGoesOn_99 : decIL cX11_sumGoesOn 99 4 101 := Or.inl ⟨by decide +kernel, rfl⟩
theorem d_X11_sumGoesOn_101 : dec 1 cX11_sumGoesOn 101 .iadd 102 := ⟨by decide +kernel, rfl⟩
theorem d_X11_sumGoesOn_102 : dec 3 cX11_sumGoesOn 102 (.invokevirtual 76) 105 := ⟨by decide +kernel, rfl⟩
theorem d_X11_sumGoesOn_105 : decAL cX11_sumGoesOn 105 0 106 := Or.inr ⟨0, rfl, by decide +kernel, rfl⟩
theorem d_X11_sumGoesOn_106 : decIL cX11_sumGoesOn 106 2 107 := Or.inr ⟨2, rfl, by decide +kernel, rfl⟩
theorem d_X11_sumGoesOn_107 : dec 1 cX11_sumGoesOn 107 (.iconst 1) 108 := ⟨by decide +kernel, rfl⟩
theorem d_X11_sumGoesOn_108 : dec 3 cX11_sumGoesOn 108 (.invokevirtual 196) 111 := ⟨by decide +kernel, rfl⟩
theorem d_X11_sumGoesOn_111 : dec 3 cX11_sumGoesOn 111 (.invokevirtual 239) 114 := ⟨by decide +kernel, rfl⟩
theorem d_X11_sumGoesOn_114 : decIS cX11_sumGoesOn 114 5 116 := Or.inl ⟨by decide +kernel, rfl⟩
theorem d_X11_sumGoesOn_116 : decIL cX11_sumGoesOn 116 5 118 := Or.inl ⟨by decide +kernel, rfl⟩
theorem d_X11_sumGoesOn_118 : decB cX11_sumGoesOn 118 (.ifCond .ge 6) (6) 121 124 := ⟨by decide +kernel, rfl, by decide⟩
theorem d_X11_sumGoesOn_121 : decIL cX11_sumGoesOn 121 5 123 := Or.inl ⟨by decide +kernel, rfl⟩
theorem d_X11_sumGoesOn_123 : dec 1 cX11_sumGoesOn 123 .ireturn 124 := ⟨by decide +kernel, rfl⟩
theorem d_X11_sumGoesOn_124 : decAL cX11_sumGoesOn 124 0 125 := Or.inr ⟨0, rfl, by decide +kernel, rfl⟩
theorem d_X11_sumGoesOn_125 : decIL cX11_sumGoesOn 125 2 126 := Or.inr ⟨2, rfl, by decide +kernel, rfl⟩
theorem d_X11_sumGoesOn_126 : dec 1 cX11_sumGoesOn 126 (.iconst 4) 127 := ⟨by decide +kernel, rfl⟩
theorem d_X11_sumGoesOn_127 : decIL cX11_sumGoesOn 127 4 129 := Or.inl ⟨by decide +kernel, rfl⟩
theorem d_X11_sumGoesOn_129 : dec 1 cX11_sumGoesOn 129 .iadd 130 := ⟨by decide +kernel, rfl⟩
theorem d_X11_sumGoesOn_130 : decIL cX11_sumGoesOn 130 5 132 := Or.inl ⟨by decide +kernel, rfl⟩
theorem d_X11_sumGoesOn_132 : dec 1 cX11_sumGoesOn 132 (.iconst 1) 133 := ⟨by decide +kernel, rfl⟩
theorem d_X11_sumGoesOn_133 : dec 1 cX11_sumGoesOn 133 .iadd 134 := ⟨by decide +kernel, rfl⟩
theorem d_X11_sumGoesOn_134 : dec 3 cX11_sumGoesOn 134 (.invokevirtual 221) 137 := ⟨by decide +kernel, rfl⟩
theorem d_X11_sumGoesOn_137 : decAL cX11_sumGoesOn 137 0 138 := Or.inr ⟨0, rfl, by decide +kernel, rfl⟩
theorem d_X11_sumGoesOn_138 : decIL cX11_sumGoesOn 138 2 139 := Or.inr ⟨2, rfl, by decide +kernel, rfl⟩
theorem d_X11_sumGoesOn_139 : dec 1 cX11_sumGoesOn 139 (.iconst 4) 140 := ⟨by decide +kernel, rfl⟩
theorem d_X11_sumGoesOn_140 : decIL cX11_sumGoesOn 140 4 142 := Or.inl ⟨by decide +kernel, rfl⟩
theorem d_X11_sumGoesOn_142 : dec 1 cX11_sumGoesOn 142 .iadd 143 := ⟨by decide +kernel, rfl⟩
theorem d_X11_sumGoesOn_143 : dec 3 cX11_sumGoesOn 143 (.invokevirtual 196) 146 := ⟨by decide +kernel, rfl⟩
theorem d_X11_sumGoesOn_146 : dec 1 cX11_sumGoesOn 146 (.iconst 1) 147 := ⟨by decide +kernel, rfl⟩
theorem d_X11_sumGoesOn_147 : dec 1 cX11_sumGoesOn 147 .isub 148 := ⟨by decide +kernel, rfl⟩
theorem d_X11_sumGoesOn_148 : decIS cX11_sumGoesOn 148 5 150 := Or.inl ⟨by decide +kernel, rfl⟩
theorem d_X11_sumGoesOn_150 : decAL cX11_sumGoesOn 150 0 151 := Or.inr ⟨0, rfl, by decide +kernel, rfl⟩
theorem d_X11_sumGoesOn_151 : decIL cX11_sumGoesOn 151 5 153 := Or.inl ⟨by decide +kernel, rfl⟩
theorem d_X11_sumGoesOn_153 : dec 1 cX11_sumGoesOn 153 (.iconst 2) 154 := ⟨by decide +kernel, rfl⟩
theorem d_X11_sumGoesOn_154 : dec 3 cX11_sumGoesOn 154 (.invokevirtual 196) 157 := ⟨by decide +kernel, rfl⟩
theorem d_X11_sumGoesOn_157 : dec 1 cX11_sumGoesOn 157 (.iconst 1) 158 := ⟨by decide +kernel, rfl⟩
theorem d_X11_sumGoesOn_158 : decB cX11_sumGoesOn 158 (.if_icmp .ne 15) (15) 161 173 := ⟨by decide +kernel, rfl, by decide⟩
theorem d_X11_sumGoesOn_161 : decAL cX11_sumGoesOn 161 0 162 := Or.inr ⟨0, rfl, by decide +kernel, rfl⟩
theorem d_X11_sumGoesOn_162 : dec 3 cX11_sumGoesOn 162 (.getfield 54) 165 := ⟨by decide +kernel, rfl⟩
theorem d_X11_sumGoesOn_165 : decIL cX11_sumGoesOn 165 1 166 := Or.inr ⟨1, rfl, by decide +kernel, rfl⟩
theorem d_X11_sumGoesOn_166 : dec 1 cX11_sumGoesOn 166 .dup2 167 := ⟨by decide +kernel, rfl⟩
theorem d_X11_sumGoesOn_167 : dec 1 cX11_sumGoesOn 167 .iaload 168 := ⟨by decide +kernel, rfl⟩
theorem d_X11_sumGoesOn_168 : dec 1 cX11_sumGoesOn 168 (.iconst 1) 169 := ⟨by decide +kernel, rfl⟩
theorem d_X11_sumGoesOn_169 : dec 1 cX11_sumGoesOn 169 .iadd 170 := ⟨by decide +kernel, rfl⟩
theorem d_X11_sumGoesOn_170 : dec 1 cX11_sumGoesOn 170 .iastore 171 := ⟨by decide +kernel, rfl⟩
theorem d_X11_sumGoesOn_171 : dec 1 cX11_sumGoesOn 171 (.iconst 1) 172 := ⟨by decide +kernel, rfl⟩
theorem d_X11_sumGoesOn_172 : dec 1 cX11_sumGoesOn 172 .ireturn 173 := ⟨by decide +kernel, rfl⟩
theorem d_X11_sumGoesOn_173 : decAL cX11_sumGoesOn 173 0 174 := Or.inr ⟨0, rfl, by decide +kernel, rfl⟩
theorem d_X11_sumGoesOn_174 : decIL cX11_sumGoesOn 174 5 176 := Or.inl ⟨by decide +kernel, rfl⟩
theorem d_X11_sumGoesOn_176 : dec 3 cX11_sumGoesOn 176 (.invokevirtual 242) 179 := ⟨by decide +kernel, rfl⟩
theorem d_X11_sumGoesOn_179 : decB cX11_sumGoesOn 179 (.ifCond .eq 22) (22) 182 201 := ⟨by decide +kernel, rfl, by decide⟩
theorem d_X11_sumGoesOn_182 : decAL cX11_sumGoesOn 182 0 183 := Or.inr ⟨0, rfl, by decide +kernel, rfl⟩
theorem d_X11_sumGoesOn_183 : dec 1 cX11_sumGoesOn 183 (.iconst 0) 184 := ⟨by decide +kernel, rfl⟩
theorem d_X11_sumGoesOn_184 : dec 3 cX11_sumGoesOn 184 (.putfield 199) 187 := ⟨by decide +kernel, rfl⟩
theorem d_X11_sumGoesOn_187 : decAL cX11_sumGoesOn 187 0 188 := Or.inr ⟨0, rfl, by decide +kernel, rfl⟩
theorem d_X11_sumGoesOn_188 : dec 2 cX11_sumGoesOn 188 (.bipush (-2)) 190 := ⟨by decide +kernel, rfl⟩
theorem d_X11_sumGoesOn_190 : decAL cX11_sumGoesOn 190 0 191 := Or.inr ⟨0, rfl, by decide +kernel, rfl⟩
theorem d_X11_sumGoesOn_191 : decIL cX11_sumGoesOn 191 5 193 := Or.inl ⟨by decide +kernel, rfl⟩
theorem d_X11_sumGoesOn_193 : dec 1 cX11_sumGoesOn 193 (.iconst 0) 194 := ⟨by decide +kernel, rfl⟩
theorem d_X11_sumGoesOn_194 : dec 3 cX11_sumGoesOn 194 (.invokevirtual 196) 197 := ⟨by decide +kernel, rfl⟩
theorem d_X11_sumGoesOn_197 : dec 3 cX11_sumGoesOn 197 (.invokevirtual 218) 200 := ⟨by decide +kernel, rfl⟩
theorem d_X11_sumGoesOn_200 : dec 1 cX11_sumGoesOn 200 .ireturn 201 := ⟨by decide +kernel, rfl⟩
theorem d_X11_sumGoesOn_201 : decAL cX11_sumGoesOn 201 0 202 := Or.inr ⟨0, rfl, by decide +kernel, rfl⟩
theorem d_X11_sumGoesOn_202 : decIL cX11_sumGoesOn 202 5 204 := Or.inl ⟨by decide +kernel, rfl⟩
theorem d_X11_sumGoesOn_204 : dec 3 cX11_sumGoesOn 204 (.invokevirtual 245) 207 := ⟨by decide +kernel, rfl⟩
theorem d_X11_sumGoesOn_207 : dec 1 cX11_sumGoesOn 207 (.iconst 1) 208 := ⟨by decide +kernel, rfl⟩
theorem d_X11_sumGoesOn_208 : dec 1 cX11_sumGoesOn 208 .ireturn 209 := ⟨by decide +kernel, rfl⟩
def k_X11_sumGoesOn_45 (F : Nat)   (v0 : Nat) (v2 : Int32)  (n : Nat) (G : GH) : Option (Int32 × Nat × GH) :=
  cvP G v0 11 (f_X11_valueOf F v0 v2 G) (fun (x7 : Int32) =>
  cvU G v0 11 (f_X11_itIs F v0 v2 (3 : Int32) x7 n G) (fun (n8 : Nat) (G9 : GH) =>
  cvU G9 v0 11 (f_X11_itIs F v0 v2 (2 : Int32) (1 : Int32) n8 G9) (fun (n10 : Nat) (G11 : GH) =>
  Option.bind (gI G11 v0 11 29) (fun (x12 : Int32) =>
  Option.bind (pV G11 v0 11 29 (.int (x12 - (1 : Int32)))) (fun (G13 : GH) =>
  some ((1 : Int32), n10, G13))))))
def k_X11_sumGoesOn_137 (F : Nat)   (v0 : Nat) (v1 : Int32) (v2 : Int32) (v4 : Int32)  (n : Nat) (G : GH) : Option (Int32 × Nat × GH) :=
  cvP G v0 11 (f_X11_its F v0 v2 ((4 : Int32) + v4) G) (fun (x20 : Int32) =>
  gnm (x20 - (1 : Int32)) (fun (y21 : Int32) =>
  cvP G v0 11 (f_X11_its F v0 y21 (2 : Int32) G) (fun (x22 : Int32) =>
  if x22 = (1 : Int32) then
  (Option.bind (gR G v0 11 28) (fun (x31 : Nat) =>
  Option.bind (aI G x31 0 v1) (fun (x32 : Int32) =>
  Option.bind (aS G x31 0 v1 (x32 + (1 : Int32))) (fun (G33 : GH) =>
  some ((1 : Int32), n, G33)))))
  else (cvP G v0 11 (f_X11_isReckoned F v0 y21 G) (fun (x23 : Int32) =>
  if x23 = 0 then
  (cvU G v0 11 (f_X11_sumBegins F v0 y21 n G) (fun (n24 : Nat) (G25 : GH) =>
  some ((1 : Int32), n24, G25)))
  else (Option.bind (pV G v0 11 26 (.int (0 : Int32))) (fun (G26 : GH) =>
  cvP G26 v0 11 (f_X11_its F v0 y21 (0 : Int32) G26) (fun (x27 : Int32) =>
  cvI G26 v0 11 (f_X11_tellsWhy F v0 (-2 : Int32) x27 n G26) (fun (x30 : Int32) (n28 : Nat) (G29 : GH) =>
  some (x30, n28, G29))))))))))
def f_X11_sumGoesOn (F : Nat)  (v0 : Nat) (n : Nat) (G : GH) : Option (Int32 × Nat × GH) :=
  Option.bind (gI G v0 11 29) (fun (x1 : Int32) =>
  gnm (x1 - (1 : Int32)) (fun (y2 : Int32) =>
  Option.bind (gR G v0 11 27) (fun (x3 : Nat) =>
  Option.bind (aI G x3 0 y2) (fun (x4 : Int32) =>
  cvP G v0 11 (f_X11_its F v0 x4 (0 : Int32) G) (fun (x5 : Int32) =>
  cvP G v0 11 (f_X11_of F v0 x5 (0 : Int32) G) (fun (x6 : Int32) =>
  if x6 = 0 then
  (k_X11_sumGoesOn_45 F   v0 x4 n G)
  else (Option.bind (gR G v0 11 28) (fun (x14 : Nat) =>
  Option.bind (aI G x14 0 y2) (fun (x15 : Int32) =>
  cvP G v0 11 (f_X11_of F v0 x5 (2 : Int32) G) (fun (x16 : Int32) =>
  if x15 = x16 then
  (k_X11_sumGoesOn_45 F   v0 x4 n G)
  else (Option.bind (gR G v0 11 28) (fun (x17 : Nat) =>
  Option.bind (aI G x17 0 y2) (fun (x18 : Int32) =>
  cvP G v0 11 (f_X11_its F v0 x4 ((4 : Int32) + x18) G) (fun (x19 : Int32) =>
  if x19 = 0 then
  (cvP G v0 11 (f_X11_of F v0 x5 ((3 : Int32) + x18) G) (fun (x34 : Int32) =>
  cvP G v0 11 (f_X11_its F v0 x4 (1 : Int32) G) (fun (x35 : Int32) =>
  cvI G v0 11 (f_X11_asks F v0 x34 x35 n G) (fun (x38 : Int32) (n36 : Nat) (G37 : GH) =>
  if 0 ≤ x38 then
  (cvU G37 v0 11 (f_X11_itIs F v0 x4 ((4 : Int32) + x18) (x38 + (1 : Int32)) n36 G37) (fun (n39 : Nat) (G40 : GH) =>
  k_X11_sumGoesOn_137 F   v0 y2 x4 x18 n39 G40))
  else (some (x38, n36, G37))))))
  else (k_X11_sumGoesOn_137 F   v0 y2 x4 x18 n G)))))))))))))))
set_option maxRecDepth 100000 in
set_option maxHeartbeats 4000000 in
theorem c_X11_sumGoesOn_45 {E : GE} {F : Nat}   {v0 : Nat} {v2 : Int32}  {n : Nat} {G : GH} {z : Int32 × Nat × GH}   (h : k_X11_sumGoesOn_45 F   v0 v2  n G = some z) : WG E RX11 "sumGoesOn" cX11_sumGoesOn 6 (some .int) 4 95 0 0 45 [(0, .ref v0), (2, .int v2)] [] n G (g_O E (some (.int z.1), z.2.1, z.2.2)) := by
  unfold k_X11_sumGoesOn_45 at h
  refine r_aload d_X11_sumGoesOn_45 rfl ?_
  refine r_iload d_X11_sumGoesOn_46 rfl ?_
  refine r_iconst d_X11_sumGoesOn_47 ic_3 ?_
  refine r_aload d_X11_sumGoesOn_48 rfl ?_
  refine r_iload d_X11_sumGoesOn_49 rfl ?_
  refine r_invP [_] h (fun _ hq => s_X11_valueOf hq) d_X11_sumGoesOn_50 pl_X11_235 py_X11_valueOf pi_X11_valueOf rfl rfl rfl (fun x7 h => ?_)
  refine r_invU [_, _, _] h (fun _ hq => s_X11_itIs hq) d_X11_sumGoesOn_53 pl_X11_221 py_X11_itIs pi_X11_itIs rfl rfl rfl (fun n8 G9 h => ?_)
  refine r_aload d_X11_sumGoesOn_56 rfl ?_
  refine r_iload d_X11_sumGoesOn_57 rfl ?_
  refine r_iconst d_X11_sumGoesOn_58 ic_2 ?_
  refine r_iconst d_X11_sumGoesOn_59 ic_1 ?_
  refine r_invU [_, _, _] h (fun _ hq => s_X11_itIs hq) d_X11_sumGoesOn_60 pl_X11_221 py_X11_itIs pi_X11_itIs rfl rfl rfl (fun n10 G11 h => ?_)
  refine r_aload d_X11_sumGoesOn_63 rfl ?_
  refine r_dup d_X11_sumGoesOn_64 rfl ?_
  refine r_getI h d_X11_sumGoesOn_65 pf_X11_202 (fun x12 h => ?_)
  refine r_iconst d_X11_sumGoesOn_68 ic_1 ?_
  refine r_isub d_X11_sumGoesOn_69 ?_
  refine r_put h d_X11_sumGoesOn_70 pw_X11_202 rfl rfl (fun G13 h => ?_)
  refine r_iconst d_X11_sumGoesOn_73 ic_1 ?_
  exact r_iret h d_X11_sumGoesOn_74
set_option maxRecDepth 100000 in
set_option maxHeartbeats 4000000 in
theorem c_X11_sumGoesOn_137 {E : GE} {F : Nat}   {v0 : Nat} {v1 : Int32} {v2 : Int32} {v4 : Int32}  {n : Nat} {G : GH} {z : Int32 × Nat × GH}   (h : k_X11_sumGoesOn_137 F   v0 v1 v2 v4  n G = some z) : WG E RX11 "sumGoesOn" cX11_sumGoesOn 6 (some .int) 4 95 0 0 137 [(0, .ref v0), (1, .int v1), (2, .int v2), (4, .int v4)] [] n G (g_O E (some (.int z.1), z.2.1, z.2.2)) := by
  unfold k_X11_sumGoesOn_137 at h
  refine r_aload d_X11_sumGoesOn_137 rfl ?_
  refine r_iload d_X11_sumGoesOn_138 rfl ?_
  refine r_iconst d_X11_sumGoesOn_139 ic_4 ?_
  refine r_iload d_X11_sumGoesOn_140 rfl ?_
  refine r_iadd d_X11_sumGoesOn_142 ?_
  refine r_invP [_, _] h (fun _ hq => s_X11_its hq) d_X11_sumGoesOn_143 pl_X11_196 py_X11_its pi_X11_its rfl rfl rfl (fun x20 h => ?_)
  refine r_iconst d_X11_sumGoesOn_146 ic_1 ?_
  refine r_isub d_X11_sumGoesOn_147 ?_
  refine r_nmI h (fun y21 _ h => ?_)
  refine r_istore d_X11_sumGoesOn_148 rfl rfl ?_
  refine r_aload d_X11_sumGoesOn_150 rfl ?_
  refine r_iload d_X11_sumGoesOn_151 rfl ?_
  refine r_iconst d_X11_sumGoesOn_153 ic_2 ?_
  refine r_invP [_, _] h (fun _ hq => s_X11_its hq) d_X11_sumGoesOn_154 pl_X11_196 py_X11_its pi_X11_its rfl rfl rfl (fun x22 h => ?_)
  refine r_iconst d_X11_sumGoesOn_157 ic_1 ?_
  refine r_icmp_ne h d_X11_sumGoesOn_158 (fun h => ?_) (fun h => ?_)
  · refine r_aload d_X11_sumGoesOn_173 rfl ?_
    refine r_iload d_X11_sumGoesOn_174 rfl ?_
    refine r_invP [_] h (fun _ hq => s_X11_isReckoned hq) d_X11_sumGoesOn_176 pl_X11_242 py_X11_isReckoned pi_X11_isReckoned rfl rfl rfl (fun x23 h => ?_)
    refine r_if_eq h d_X11_sumGoesOn_179 (fun h => ?_) (fun h => ?_)
    · refine r_aload d_X11_sumGoesOn_201 rfl ?_
      refine r_iload d_X11_sumGoesOn_202 rfl ?_
      refine r_invU [_] h (fun _ hq => s_X11_sumBegins hq) d_X11_sumGoesOn_204 pl_X11_245 py_X11_sumBegins pi_X11_sumBegins rfl rfl rfl (fun n24 G25 h => ?_)
      refine r_iconst d_X11_sumGoesOn_207 ic_1 ?_
      exact r_iret h d_X11_sumGoesOn_208
    · refine r_aload d_X11_sumGoesOn_182 rfl ?_
      refine r_iconst d_X11_sumGoesOn_183 ic_0 ?_
      refine r_put h d_X11_sumGoesOn_184 pw_X11_199 rfl rfl (fun G26 h => ?_)
      refine r_aload d_X11_sumGoesOn_187 rfl ?_
      refine r_bipush d_X11_sumGoesOn_188 bp_m2 ?_
      refine r_aload d_X11_sumGoesOn_190 rfl ?_
      refine r_iload d_X11_sumGoesOn_191 rfl ?_
      refine r_iconst d_X11_sumGoesOn_193 ic_0 ?_
      refine r_invP [_, _] h (fun _ hq => s_X11_its hq) d_X11_sumGoesOn_194 pl_X11_196 py_X11_its pi_X11_its rfl rfl rfl (fun x27 h => ?_)
      refine r_invI [_, _] h (fun _ hq => s_X11_tellsWhy hq) d_X11_sumGoesOn_197 pl_X11_218 py_X11_tellsWhy pi_X11_tellsWhy rfl rfl rfl (fun x30 n28 G29 h => ?_)
      exact r_iret h d_X11_sumGoesOn_200
  · refine r_aload d_X11_sumGoesOn_161 rfl ?_
    refine r_getR h d_X11_sumGoesOn_162 pf_X11_54 (fun x31 h => ?_)
    refine r_iload d_X11_sumGoesOn_165 rfl ?_
    refine r_dup2 d_X11_sumGoesOn_166 rfl rfl ?_
    refine r_iald h d_X11_sumGoesOn_167 (fun x32 h => ?_)
    refine r_iconst d_X11_sumGoesOn_168 ic_1 ?_
    refine r_iadd d_X11_sumGoesOn_169 ?_
    refine r_iast h d_X11_sumGoesOn_170 (fun G33 h => ?_)
    refine r_iconst d_X11_sumGoesOn_171 ic_1 ?_
    exact r_iret h d_X11_sumGoesOn_172
set_option maxRecDepth 100000 in
set_option maxHeartbeats 4000000 in
theorem s_X11_sumGoesOn {E : GE} {F : Nat}  {v0 : Nat} {n : Nat} {G : GH} {z : Int32 × Nat × GH}  (h : f_X11_sumGoesOn F  v0 n G = some z) : GM E yX11_sumGoesOn cX11_sumGoesOn 6 (some .int) 4 95 0 0 [.ref v0] n G (some (.int z.1), z.2.1, z.2.2) := by
  refine GM.of (by decide) (Nat.le_of_ble_eq_true rfl) ?_
  show WG E RX11 "sumGoesOn" cX11_sumGoesOn 6 (some .int) 4 95 0 0 0 [(0, .ref v0)] [] n G (g_O E (some (.int z.1), z.2.1, z.2.2))
  unfold f_X11_sumGoesOn at h
  refine r_aload d_X11_sumGoesOn_0 rfl ?_
  refine r_getI h d_X11_sumGoesOn_1 pf_X11_202 (fun x1 h => ?_)
  refine r_iconst d_X11_sumGoesOn_4 ic_1 ?_
  refine r_isub d_X11_sumGoesOn_5 ?_
  refine r_nmI h (fun y2 _ h => ?_)
  refine r_istore d_X11_sumGoesOn_6 rfl rfl ?_
  refine r_aload d_X11_sumGoesOn_7 rfl ?_
  refine r_getR h d_X11_sumGoesOn_8 pf_X11_51 (fun x3 h => ?_)
  refine r_iload d_X11_sumGoesOn_11 rfl ?_
  refine r_iald h d_X11_sumGoesOn_12 (fun x4 h => ?_)
  refine r_istore d_X11_sumGoesOn_13 rfl rfl ?_
  refine r_aload d_X11_sumGoesOn_14 rfl ?_
  refine r_iload d_X11_sumGoesOn_15 rfl ?_
  refine r_iconst d_X11_sumGoesOn_16 ic_0 ?_
  refine r_invP [_, _] h (fun _ hq => s_X11_its hq) d_X11_sumGoesOn_17 pl_X11_196 py_X11_its pi_X11_its rfl rfl rfl (fun x5 h => ?_)
  refine r_istore d_X11_sumGoesOn_20 rfl rfl ?_
  refine r_aload d_X11_sumGoesOn_21 rfl ?_
  refine r_iload d_X11_sumGoesOn_22 rfl ?_
  refine r_iconst d_X11_sumGoesOn_23 ic_0 ?_
  refine r_invP [_, _] h (fun _ hq => s_X11_of hq) d_X11_sumGoesOn_24 pl_X11_76 py_X11_of pi_X11_of rfl rfl rfl (fun x6 h => ?_)
  refine r_if_eq h d_X11_sumGoesOn_27 (fun h => ?_) (fun h => ?_)
  · refine r_lv [(0, .ref v0), (2, .int x4)] (g_allc rfl (g_allc rfl g_alln)) ?_
    exact c_X11_sumGoesOn_45   h
  · refine r_aload d_X11_sumGoesOn_30 rfl ?_
    refine r_getR h d_X11_sumGoesOn_31 pf_X11_54 (fun x14 h => ?_)
    refine r_iload d_X11_sumGoesOn_34 rfl ?_
    refine r_iald h d_X11_sumGoesOn_35 (fun x15 h => ?_)
    refine r_aload d_X11_sumGoesOn_36 rfl ?_
    refine r_iload d_X11_sumGoesOn_37 rfl ?_
    refine r_iconst d_X11_sumGoesOn_38 ic_2 ?_
    refine r_invP [_, _] h (fun _ hq => s_X11_of hq) d_X11_sumGoesOn_39 pl_X11_76 py_X11_of pi_X11_of rfl rfl rfl (fun x16 h => ?_)
    refine r_icmp_ne h d_X11_sumGoesOn_42 (fun h => ?_) (fun h => ?_)
    · refine r_aload d_X11_sumGoesOn_75 rfl ?_
      refine r_getR h d_X11_sumGoesOn_76 pf_X11_54 (fun x17 h => ?_)
      refine r_iload d_X11_sumGoesOn_79 rfl ?_
      refine r_iald h d_X11_sumGoesOn_80 (fun x18 h => ?_)
      refine r_istore d_X11_sumGoesOn_81 rfl rfl ?_
      refine r_aload d_X11_sumGoesOn_83 rfl ?_
      refine r_iload d_X11_sumGoesOn_84 rfl ?_
      refine r_iconst d_X11_sumGoesOn_85 ic_4 ?_
      refine r_iload d_X11_sumGoesOn_86 rfl ?_
      refine r_iadd d_X11_sumGoesOn_88 ?_
      refine r_invP [_, _] h (fun _ hq => s_X11_its hq) d_X11_sumGoesOn_89 pl_X11_196 py_X11_its pi_X11_its rfl rfl rfl (fun x19 h => ?_)
      refine r_if_ne h d_X11_sumGoesOn_92 (fun h => ?_) (fun h => ?_)
      · refine r_lv [(0, .ref v0), (1, .int y2), (2, .int x4), (4, .int x18)] (g_allc rfl (g_allc rfl (g_allc rfl (g_allc rfl g_alln)))) ?_
        exact c_X11_sumGoesOn_137   h
      · refine r_aload d_X11_sumGoesOn_95 rfl ?_
        refine r_aload d_X11_sumGoesOn_96 rfl ?_
        refine r_iload d_X11_sumGoesOn_97 rfl ?_
        refine r_iconst d_X11_sumGoesOn_98 ic_3 ?_
        refine r_iload d_X11_sumGoesOn_99 rfl ?_
        refine r_iadd d_X11_sumGoesOn_101 ?_
        refine r_invP [_, _] h (fun _ hq => s_X11_of hq) d_X11_sumGoesOn_102 pl_X11_76 py_X11_of pi_X11_of rfl rfl rfl (fun x34 h => ?_)
        refine r_aload d_X11_sumGoesOn_105 rfl ?_
        refine r_iload d_X11_sumGoesOn_106 rfl ?_
        refine r_iconst d_X11_sumGoesOn_107 ic_1 ?_
        refine r_invP [_, _] h (fun _ hq => s_X11_its hq) d_X11_sumGoesOn_108 pl_X11_196 py_X11_its pi_X11_its rfl rfl rfl (fun x35 h => ?_)
        refine r_invI [_, _] h (fun _ hq => s_X11_asks hq) d_X11_sumGoesOn_111 pl_X11_239 py_X11_asks pi_X11_asks rfl rfl rfl (fun x38 n36 G37 h => ?_)
        refine r_istore d_X11_sumGoesOn_114 rfl rfl ?_
        refine r_iload d_X11_sumGoesOn_116 rfl ?_
        refine r_if_ge h d_X11_sumGoesOn_118 (fun h => ?_) (fun h => ?_)
        · refine r_aload d_X11_sumGoesOn_124 rfl ?_
          refine r_iload d_X11_sumGoesOn_125 rfl ?_
          refine r_iconst d_X11_sumGoesOn_126 ic_4 ?_
          refine r_iload d_X11_sumGoesOn_127 rfl ?_
          refine r_iadd d_X11_sumGoesOn_129 ?_
          refine r_iload d_X11_sumGoesOn_130 rfl ?_
          refine r_iconst d_X11_sumGoesOn_132 ic_1 ?_
          refine r_iadd d_X11_sumGoesOn_133 ?_
          refine r_invU [_, _, _] h (fun _ hq => s_X11_itIs hq) d_X11_sumGoesOn_134 pl_X11_221 py_X11_itIs pi_X11_itIs rfl rfl rfl (fun n39 G40 h => ?_)
          refine r_lv [(0, .ref v0), (1, .int y2), (2, .int x4), (4, .int x18)] (g_allc rfl (g_allc rfl (g_allc rfl (g_allc rfl g_alln)))) ?_
          exact c_X11_sumGoesOn_137   h
        · refine r_iload d_X11_sumGoesOn_121 rfl ?_
          exact r_iret h d_X11_sumGoesOn_123
    · refine r_lv [(0, .ref v0), (2, .int x4)] (g_allc rfl (g_allc rfl g_alln)) ?_
      exact c_X11_sumGoesOn_45   h
/-! X11_reckons -/
theorem py_X11_sumGoesOn : pY yX11_sumGoesOn cX11_sumGoesOn 6 (some .int) 0 := ⟨g_in 1439 (by decide +kernel) rfl, g_in 104 (by decide +kernel) rfl, by decide, by decide, by decide +kernel⟩
theorem pi_X11_sumGoesOn : pI yX11_sumGoesOn 11 := ⟨g_in 1438 (by decide +kernel) rfl, g_in 69 (by decide +kernel) rfl, (RX11, TX11, 37), rfl, rfl⟩
theorem pl_X11_248 : pL RX11 248 yX11_sumGoesOn := Or.inl (g_in 1436 (by decide +kernel) rfl)
theorem d_X11_reckons_0 : decAL cX11_reckons 0 0 1 := Or.inr ⟨0, rfl, by decide +kernel, rfl⟩
theorem d_X11_reckons_1 : dec 1 cX11_reckons 1 (.iconst 0) 2 := ⟨by decide +kernel, rfl⟩
theorem d_X11_reckons_2 : dec 3 cX11_reckons 2 (.putfield 202) 5 := ⟨by decide +kernel, rfl⟩
theorem d_X11_reckons_5 : decAL cX11_reckons 5 0 6 := Or.inr ⟨0, rfl, by decide +kernel, rfl⟩
theorem d_X11_reckons_6 : decIL cX11_reckons 6 1 7 := Or.inr ⟨1, rfl, by decide +kernel, rfl⟩
theorem d_X11_reckons_7 : dec 1 cX11_reckons 7 (.iconst 2) 8 := ⟨by decide +kernel, rfl⟩
theorem d_X11_reckons_8 : dec 3 cX11_reckons 8 (.invokevirtual 196) 11 := ⟨by decide +kernel, rfl⟩
theorem d_X11_reckons_11 : decB cX11_reckons 11 (.ifCond .ne 8) (8) 14 19 := ⟨by decide +kernel, rfl, by decide⟩
theorem d_X11_reckons_14 : decAL cX11_reckons 14 0 15 := Or.inr ⟨0, rfl, by decide +kernel, rfl⟩
theorem d_X11_reckons_15 : decIL cX11_reckons 15 1 16 := Or.inr ⟨1, rfl, by decide +kernel, rfl⟩
theorem d_X11_reckons_16 : dec 3 cX11_reckons 16 (.invokevirtual 245) 19 := ⟨by decide +kernel, rfl⟩
theorem d_X11_reckons_19 : dec 1 cX11_reckons 19 (.iconst 1) 20 := ⟨by decide +kernel, rfl⟩
theorem d_X11_reckons_20 : decIS cX11_reckons 20 2 21 := Or.inr ⟨2, rfl, by decide +kernel, rfl⟩
theorem d_X11_reckons_21 : decIL cX11_reckons 21 2 22 := Or.inr ⟨2, rfl, by decide +kernel, rfl⟩
theorem d_X11_reckons_22 : dec 1 cX11_reckons 22 (.iconst 1) 23 := ⟨by decide +kernel, rfl⟩
theorem d_X11_reckons_23 : decB cX11_reckons 23 (.if_icmp .ne 18) (18) 26 41 := ⟨by decide +kernel, rfl, by decide⟩
theorem d_X11_reckons_26 : decAL cX11_reckons 26 0 27 := Or.inr ⟨0, rfl, by decide +kernel, rfl⟩
theorem d_X11_reckons_27 : dec 3 cX11_reckons 27 (.getfield 202) 30 := ⟨by decide +kernel, rfl⟩
theorem d_X11_reckons_30 : decB cX11_reckons 30 (.ifCond .le 11) (11) 33 41 := ⟨by decide +kernel, rfl, by decide⟩
theorem d_X11_reckons_33 : decAL cX11_reckons 33 0 34 := Or.inr ⟨0, rfl, by decide +kernel, rfl⟩
theorem d_X11_reckons_34 : dec 3 cX11_reckons 34 (.invokevirtual 248) 37 := ⟨by decide +kernel, rfl⟩
theorem d_X11_reckons_37 : decIS cX11_reckons 37 2 38 := Or.inr ⟨2, rfl, by decide +kernel, rfl⟩
theorem d_X11_reckons_38 : decB cX11_reckons 38 (.goto (-17)) (-17) 41 21 := ⟨by decide +kernel, rfl, by decide⟩
theorem d_X11_reckons_41 : decAL cX11_reckons 41 0 42 := Or.inr ⟨0, rfl, by decide +kernel, rfl⟩
theorem d_X11_reckons_42 : dec 1 cX11_reckons 42 (.iconst 0) 43 := ⟨by decide +kernel, rfl⟩
theorem d_X11_reckons_43 : dec 3 cX11_reckons 43 (.putfield 202) 46 := ⟨by decide +kernel, rfl⟩
theorem d_X11_reckons_46 : decIL cX11_reckons 46 2 47 := Or.inr ⟨2, rfl, by decide +kernel, rfl⟩
theorem d_X11_reckons_47 : dec 1 cX11_reckons 47 .ireturn 48 := ⟨by decide +kernel, rfl⟩
def k_X11_reckons_41 (F : Nat)   (v0 : Nat) (v2 : Int32)  (n : Nat) (G : GH) : Option (Int32 × Nat × GH) :=
  Option.bind (pV G v0 11 29 (.int (0 : Int32))) (fun (G3 : GH) =>
  some (v2, n, G3))
def b_X11_reckons_21 (F : Nat)   (v0 : Nat) (rec21 : Int32 → Nat → GH → Option (Int32 × Nat × GH)) : Int32 → Nat → GH → Option (Int32 × Nat × GH) := fun v2 n G =>
  if v2 = (1 : Int32) then
  (Option.bind (gI G v0 11 29) (fun (x4 : Int32) =>
  if x4 ≤ 0 then
  (k_X11_reckons_41 F   v0 v2 n G)
  else (cvI G v0 11 (f_X11_sumGoesOn F v0 n G) (fun (x7 : Int32) (n5 : Nat) (G6 : GH) =>
  rec21 x7 n5 G6))))
  else (k_X11_reckons_41 F   v0 v2 n G)
def k_X11_reckons_19 (F : Nat)   (v0 : Nat)  (n : Nat) (G : GH) : Option (Int32 × Nat × GH) :=
  fixN (fun _ _ _ => none) (b_X11_reckons_21 F   v0) F (1 : Int32) n G
def f_X11_reckons (F : Nat)  (v0 : Nat) (v1 : Int32) (n : Nat) (G : GH) : Option (Int32 × Nat × GH) :=
  Option.bind (pV G v0 11 29 (.int (0 : Int32))) (fun (G1 : GH) =>
  cvP G1 v0 11 (f_X11_its F v0 v1 (2 : Int32) G1) (fun (x2 : Int32) =>
  if x2 = 0 then
  (cvU G1 v0 11 (f_X11_sumBegins F v0 v1 n G1) (fun (n8 : Nat) (G9 : GH) =>
  k_X11_reckons_19 F   v0 n8 G9))
  else (k_X11_reckons_19 F   v0 n G1)))
set_option maxRecDepth 100000 in
set_option maxHeartbeats 4000000 in
theorem c_X11_reckons_41 {E : GE} {F : Nat}   {v0 : Nat} {v2 : Int32}  {n : Nat} {G : GH} {z : Int32 × Nat × GH}   (h : k_X11_reckons_41 F   v0 v2  n G = some z) : WG E RX11 "reckons" cX11_reckons 3 (some .int) 5 120 0 0 41 [(0, .ref v0), (2, .int v2)] [] n G (g_O E (some (.int z.1), z.2.1, z.2.2)) := by
  unfold k_X11_reckons_41 at h
  refine r_aload d_X11_reckons_41 rfl ?_
  refine r_iconst d_X11_reckons_42 ic_0 ?_
  refine r_put h d_X11_reckons_43 pw_X11_202 rfl rfl (fun G3 h => ?_)
  refine r_iload d_X11_reckons_46 rfl ?_
  exact r_iret h d_X11_reckons_47
set_option maxRecDepth 100000 in
set_option maxHeartbeats 4000000 in
theorem l_X11_reckons_21 {E : GE} {F : Nat}   {v0 : Nat}   : ∀ (K : Nat) (v2 : Int32) (n : Nat) (G : GH) (z : Int32 × Nat × GH), fixN ((fun _ _ _ => none) : Int32 → Nat → GH → Option (Int32 × Nat × GH)) (b_X11_reckons_21 F   v0) K v2 n G = some z → WG E RX11 "reckons" cX11_reckons 3 (some .int) 5 120 0 0 21 [(0, .ref v0), (2, .int v2)] [] n G (g_O E (some (.int z.1), z.2.1, z.2.2)) := by
  intro K
  refine fixN_ind (P := fun (r : Int32 → Nat → GH → Option (Int32 × Nat × GH)) => ∀ (v2 : Int32) (n : Nat) (G : GH) (z : Int32 × Nat × GH), r v2 n G = some z → WG E RX11 "reckons" cX11_reckons 3 (some .int) 5 120 0 0 21 [(0, .ref v0), (2, .int v2)] [] n G (g_O E (some (.int z.1), z.2.1, z.2.2))) ?_ ?_ K
  · intro v2 n G z h
    cases h
  · intro rec21 hrec21 v2 n G z h
    unfold b_X11_reckons_21 at h
    refine r_iload d_X11_reckons_21 rfl ?_
    refine r_iconst d_X11_reckons_22 ic_1 ?_
    refine r_icmp_ne h d_X11_reckons_23 (fun h => ?_) (fun h => ?_)
    · refine r_lv [(0, .ref v0), (2, .int v2)] (g_allc rfl (g_allc rfl g_alln)) ?_
      exact c_X11_reckons_41   h
    · refine r_aload d_X11_reckons_26 rfl ?_
      refine r_getI h d_X11_reckons_27 pf_X11_202 (fun x4 h => ?_)
      refine r_if_le h d_X11_reckons_30 (fun h => ?_) (fun h => ?_)
      · refine r_lv [(0, .ref v0), (2, .int v2)] (g_allc rfl (g_allc rfl g_alln)) ?_
        exact c_X11_reckons_41   h
      · refine r_aload d_X11_reckons_33 rfl ?_
        refine r_invI [] h (fun _ hq => s_X11_sumGoesOn hq) d_X11_reckons_34 pl_X11_248 py_X11_sumGoesOn pi_X11_sumGoesOn rfl rfl rfl (fun x7 n5 G6 h => ?_)
        refine r_istore d_X11_reckons_37 rfl rfl ?_
        refine r_goto d_X11_reckons_38 ?_
        refine r_lv [(0, .ref v0), (2, .int x7)] (g_allc rfl (g_allc rfl g_alln)) ?_
        exact hrec21 _ _ _ _ h
set_option maxRecDepth 100000 in
set_option maxHeartbeats 4000000 in
theorem c_X11_reckons_19 {E : GE} {F : Nat}   {v0 : Nat}  {n : Nat} {G : GH} {z : Int32 × Nat × GH}   (h : k_X11_reckons_19 F   v0  n G = some z) : WG E RX11 "reckons" cX11_reckons 3 (some .int) 5 120 0 0 19 [(0, .ref v0)] [] n G (g_O E (some (.int z.1), z.2.1, z.2.2)) := by
  unfold k_X11_reckons_19 at h
  refine r_iconst d_X11_reckons_19 ic_1 ?_
  refine r_istore d_X11_reckons_20 rfl rfl ?_
  refine r_lv [(0, .ref v0), (2, .int (1 : Int32))] (g_allc rfl (g_allc rfl g_alln)) ?_
  exact l_X11_reckons_21   _ _ _ _ _ h
set_option maxRecDepth 100000 in
set_option maxHeartbeats 4000000 in
theorem s_X11_reckons {E : GE} {F : Nat}  {v0 : Nat} {v1 : Int32} {n : Nat} {G : GH} {z : Int32 × Nat × GH}  (h : f_X11_reckons F  v0 v1 n G = some z) : GM E yX11_reckons cX11_reckons 3 (some .int) 5 120 0 0 [.ref v0, .int v1] n G (some (.int z.1), z.2.1, z.2.2) := by
  refine GM.of (by decide) (Nat.le_of_ble_eq_true rfl) ?_
  show WG E RX11 "reckons" cX11_reckons 3 (some .int) 5 120 0 0 0 [(0, .ref v0), (1, .int v1)] [] n G (g_O E (some (.int z.1), z.2.1, z.2.2))
  unfold f_X11_reckons at h
  refine r_aload d_X11_reckons_0 rfl ?_
  refine r_iconst d_X11_reckons_1 ic_0 ?_
  refine r_put h d_X11_reckons_2 pw_X11_202 rfl rfl (fun G1 h => ?_)
  refine r_aload d_X11_reckons_5 rfl ?_
  refine r_iload d_X11_reckons_6 rfl ?_
  refine r_iconst d_X11_reckons_7 ic_2 ?_
  refine r_invP [_, _] h (fun _ hq => s_X11_its hq) d_X11_reckons_8 pl_X11_196 py_X11_its pi_X11_its rfl rfl rfl (fun x2 h => ?_)
  refine r_if_ne h d_X11_reckons_11 (fun h => ?_) (fun h => ?_)
  · refine r_lv [(0, .ref v0)] (g_allc rfl g_alln) ?_
    exact c_X11_reckons_19   h
  · refine r_aload d_X11_reckons_14 rfl ?_
    refine r_iload d_X11_reckons_15 rfl ?_
    refine r_invU [_] h (fun _ hq => s_X11_sumBegins hq) d_X11_reckons_16 pl_X11_245 py_X11_sumBegins pi_X11_sumBegins rfl rfl rfl (fun n8 G9 h => ?_)
    refine r_lv [(0, .ref v0)] (g_allc rfl g_alln) ?_
    exact c_X11_reckons_19   h
