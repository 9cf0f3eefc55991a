theorem sp_133 : (Int16.ofInt (133)).toInt32 = (133 : Int32) := by decide
theorem sp_145 : (Int16.ofInt (145)).toInt32 = (145 : Int32) := by decide
theorem sp_146 : (Int16.ofInt (146)).toInt32 = (146 : Int32) := by decide
theorem sp_206 : (Int16.ofInt (206)).toInt32 = (206 : Int32) := by decide
theorem sp_207 : (Int16.ofInt (207)).toInt32 = (207 : Int32) := by decide
theorem sp_240 : (Int16.ofInt (240)).toInt32 = (240 : Int32) := by decide
theorem sp_2400 : (Int16.ofInt (2400)).toInt32 = (2400 : Int32) := by decide
theorem sp_255 : (Int16.ofInt (255)).toInt32 = (255 : Int32) := by decide
theorem sp_300 : (Int16.ofInt (300)).toInt32 = (300 : Int32) := by decide
theorem sp_4470 : (Int16.ofInt (4470)).toInt32 = (4470 : Int32) := by decide
theorem sp_600 : (Int16.ofInt (600)).toInt32 = (600 : Int32) := by decide
theorem sp_6237 : (Int16.ofInt (6237)).toInt32 = (6237 : Int32) := by decide
theorem sp_687 : (Int16.ofInt (687)).toInt32 = (687 : Int32) := by decide
theorem sp_688 : (Int16.ofInt (688)).toInt32 = (688 : Int32) := by decide
theorem sp_7128 : (Int16.ofInt (7128)).toInt32 = (7128 : Int32) := by decide
theorem sp_748 : (Int16.ofInt (748)).toInt32 = (748 : Int32) := by decide
theorem sp_749 : (Int16.ofInt (749)).toInt32 = (749 : Int32) := by decide
theorem sp_809 : (Int16.ofInt (809)).toInt32 = (809 : Int32) := by decide
theorem sp_810 : (Int16.ofInt (810)).toInt32 = (810 : Int32) := by decide
theorem sp_811 : (Int16.ofInt (811)).toInt32 = (811 : Int32) := by decide
theorem sp_891 : (Int16.ofInt (891)).toInt32 = (891 : Int32) := by decide
theorem sp_892 : (Int16.ofInt (892)).toInt32 = (892 : Int32) := by decide
theorem sp_893 : (Int16.ofInt (893)).toInt32 = (893 : Int32) := by decide
theorem sp_894 : (Int16.ofInt (894)).toInt32 = (894 : Int32) := by decide
theorem lc_0 : Int64.ofNat ((0 : Fin 2) : Nat) = (0 : Int64) := by decide
theorem lc_1 : Int64.ofNat ((1 : Fin 2) : Nat) = (1 : Int64) := by decide
theorem ii_1 (x : Int32) : x + Int32.ofInt 1 = x + 1 := rfl
theorem ii_3 (x : Int32) : x + Int32.ofInt 3 = x + 3 := rfl
theorem ii_m1 (x : Int32) : x + Int32.ofInt (-1) = x + (-1) := rfl
theorem g_alln {lv : List (Nat × Value)} : g_all [] lv := trivial
theorem g_allc {q : Nat × Value} {r lv : List (Nat × Value)} (h1 : g_lk lv q.1 = some q.2) (h2 : g_all r lv) : g_all (q :: r) lv := ⟨h1, h2⟩
theorem g_swPn {X : Type} {P : Nat → Prop} {z : X} : g_swP P z [] [] := trivial
theorem g_swPc {X : Type} {P : Nat → Prop} {z : X} {a : Option X} {r : List (Option X)} {t : Nat} {ts : List Nat} (h1 : a = some z → P t) (h2 : g_swP P z r ts) : g_swP P z (a :: r) (t :: ts) := ⟨h1, h2⟩
