theorem pp0 {i : Nat} {loc : List pV} (hi : i = 0) : ∀ j : Nat, i = j + 1 → isL (loc.getD j (vX 2)) = false := fun j h => by omega
theorem pp {i c : Nat} {loc : List pV} (hi : i = c + 1) (h : isL (loc.getD c (vX 2)) = false) : ∀ j : Nat, i = j + 1 → isL (loc.getD j (vX 2)) = false := fun j hj => by
  have e : j = c := by omega
  rw [e]; exact h
theorem kc_m2000 : w32 (-2000) = (-2000) := by decide +kernel
theorem kc_m1000 : w32 (-1000) = (-1000) := by decide +kernel
theorem kc_m999 : w32 (-999) = (-999) := by decide +kernel
theorem kc_m99 : w32 (-99) = (-99) := by decide +kernel
theorem kc_m9 : w32 (-9) = (-9) := by decide +kernel
theorem kc_m6 : w32 (-6) = (-6) := by decide +kernel
theorem kc_m4 : w32 (-4) = (-4) := by decide +kernel
theorem kc_m3 : w32 (-3) = (-3) := by decide +kernel
theorem kc_m2 : w32 (-2) = (-2) := by decide +kernel
theorem kc_m1 : w32 (-1) = (-1) := by decide +kernel
theorem kc_0 : w32 (0) = (0) := by decide +kernel
theorem kc_1 : w32 (1) = (1) := by decide +kernel
theorem kc_2 : w32 (2) = (2) := by decide +kernel
theorem kc_3 : w32 (3) = (3) := by decide +kernel
theorem kc_4 : w32 (4) = (4) := by decide +kernel
theorem kc_5 : w32 (5) = (5) := by decide +kernel
theorem kc_6 : w32 (6) = (6) := by decide +kernel
theorem kc_7 : w32 (7) = (7) := by decide +kernel
theorem kc_8 : w32 (8) = (8) := by decide +kernel
theorem kc_9 : w32 (9) = (9) := by decide +kernel
theorem kc_10 : w32 (10) = (10) := by decide +kernel
theorem kc_11 : w32 (11) = (11) := by decide +kernel
theorem kc_16 : w32 (16) = (16) := by decide +kernel
theorem kc_18 : w32 (18) = (18) := by decide +kernel
theorem kc_19 : w32 (19) = (19) := by decide +kernel
theorem kc_20 : w32 (20) = (20) := by decide +kernel
theorem kc_33 : w32 (33) = (33) := by decide +kernel
theorem kc_43 : w32 (43) = (43) := by decide +kernel
theorem kc_45 : w32 (45) = (45) := by decide +kernel
theorem kc_48 : w32 (48) = (48) := by decide +kernel
theorem kc_50 : w32 (50) = (50) := by decide +kernel
theorem kc_57 : w32 (57) = (57) := by decide +kernel
theorem kc_59 : w32 (59) = (59) := by decide +kernel
theorem kc_60 : w32 (60) = (60) := by decide +kernel
theorem kc_63 : w32 (63) = (63) := by decide +kernel
theorem kc_81 : w32 (81) = (81) := by decide +kernel
theorem kc_96 : w32 (96) = (96) := by decide +kernel
theorem kc_99 : w32 (99) = (99) := by decide +kernel
theorem kc_100 : w32 (100) = (100) := by decide +kernel
theorem kc_108 : w32 (108) = (108) := by decide +kernel
theorem kc_110 : w32 (110) = (110) := by decide +kernel
theorem kc_112 : w32 (112) = (112) := by decide +kernel
theorem kc_115 : w32 (115) = (115) := by decide +kernel
theorem kc_117 : w32 (117) = (117) := by decide +kernel
theorem kc_120 : w32 (120) = (120) := by decide +kernel
theorem kc_200 : w32 (200) = (200) := by decide +kernel
theorem kc_201 : w32 (201) = (201) := by decide +kernel
theorem kc_255 : w32 (255) = (255) := by decide +kernel
theorem kc_264 : w32 (264) = (264) := by decide +kernel
theorem kc_729 : w32 (729) = (729) := by decide +kernel
theorem kc_999 : w32 (999) = (999) := by decide +kernel
theorem kc_1000 : w32 (1000) = (1000) := by decide +kernel
theorem kc_12345 : w32 (12345) = (12345) := by decide +kernel
theorem kb_m99 : (Int8.ofInt (-99)).toInt32 = Int32.ofInt (-99) := by decide +kernel
theorem kb_m9 : (Int8.ofInt (-9)).toInt32 = Int32.ofInt (-9) := by decide +kernel
theorem kb_m6 : (Int8.ofInt (-6)).toInt32 = Int32.ofInt (-6) := by decide +kernel
theorem kb_m4 : (Int8.ofInt (-4)).toInt32 = Int32.ofInt (-4) := by decide +kernel
theorem kb_m3 : (Int8.ofInt (-3)).toInt32 = Int32.ofInt (-3) := by decide +kernel
theorem kb_m2 : (Int8.ofInt (-2)).toInt32 = Int32.ofInt (-2) := by decide +kernel
theorem kb_6 : (Int8.ofInt (6)).toInt32 = Int32.ofInt (6) := by decide +kernel
theorem kb_7 : (Int8.ofInt (7)).toInt32 = Int32.ofInt (7) := by decide +kernel
theorem kb_8 : (Int8.ofInt (8)).toInt32 = Int32.ofInt (8) := by decide +kernel
theorem kb_9 : (Int8.ofInt (9)).toInt32 = Int32.ofInt (9) := by decide +kernel
theorem kb_10 : (Int8.ofInt (10)).toInt32 = Int32.ofInt (10) := by decide +kernel
theorem kb_11 : (Int8.ofInt (11)).toInt32 = Int32.ofInt (11) := by decide +kernel
theorem kb_16 : (Int8.ofInt (16)).toInt32 = Int32.ofInt (16) := by decide +kernel
theorem kb_18 : (Int8.ofInt (18)).toInt32 = Int32.ofInt (18) := by decide +kernel
theorem kb_19 : (Int8.ofInt (19)).toInt32 = Int32.ofInt (19) := by decide +kernel
theorem kb_20 : (Int8.ofInt (20)).toInt32 = Int32.ofInt (20) := by decide +kernel
theorem kb_33 : (Int8.ofInt (33)).toInt32 = Int32.ofInt (33) := by decide +kernel
theorem kb_43 : (Int8.ofInt (43)).toInt32 = Int32.ofInt (43) := by decide +kernel
theorem kb_45 : (Int8.ofInt (45)).toInt32 = Int32.ofInt (45) := by decide +kernel
theorem kb_48 : (Int8.ofInt (48)).toInt32 = Int32.ofInt (48) := by decide +kernel
theorem kb_50 : (Int8.ofInt (50)).toInt32 = Int32.ofInt (50) := by decide +kernel
theorem kb_57 : (Int8.ofInt (57)).toInt32 = Int32.ofInt (57) := by decide +kernel
theorem kb_59 : (Int8.ofInt (59)).toInt32 = Int32.ofInt (59) := by decide +kernel
theorem kb_60 : (Int8.ofInt (60)).toInt32 = Int32.ofInt (60) := by decide +kernel
theorem kb_63 : (Int8.ofInt (63)).toInt32 = Int32.ofInt (63) := by decide +kernel
theorem kb_81 : (Int8.ofInt (81)).toInt32 = Int32.ofInt (81) := by decide +kernel
theorem kb_96 : (Int8.ofInt (96)).toInt32 = Int32.ofInt (96) := by decide +kernel
theorem kb_99 : (Int8.ofInt (99)).toInt32 = Int32.ofInt (99) := by decide +kernel
theorem kb_100 : (Int8.ofInt (100)).toInt32 = Int32.ofInt (100) := by decide +kernel
theorem kb_108 : (Int8.ofInt (108)).toInt32 = Int32.ofInt (108) := by decide +kernel
theorem kb_110 : (Int8.ofInt (110)).toInt32 = Int32.ofInt (110) := by decide +kernel
theorem kb_112 : (Int8.ofInt (112)).toInt32 = Int32.ofInt (112) := by decide +kernel
theorem kb_115 : (Int8.ofInt (115)).toInt32 = Int32.ofInt (115) := by decide +kernel
theorem kb_117 : (Int8.ofInt (117)).toInt32 = Int32.ofInt (117) := by decide +kernel
theorem kb_120 : (Int8.ofInt (120)).toInt32 = Int32.ofInt (120) := by decide +kernel
theorem ks_m2000 : (Int16.ofInt (-2000)).toInt32 = Int32.ofInt (-2000) := by decide +kernel
theorem ks_m1000 : (Int16.ofInt (-1000)).toInt32 = Int32.ofInt (-1000) := by decide +kernel
theorem ks_m999 : (Int16.ofInt (-999)).toInt32 = Int32.ofInt (-999) := by decide +kernel
theorem ks_200 : (Int16.ofInt (200)).toInt32 = Int32.ofInt (200) := by decide +kernel
theorem ks_255 : (Int16.ofInt (255)).toInt32 = Int32.ofInt (255) := by decide +kernel
theorem ks_264 : (Int16.ofInt (264)).toInt32 = Int32.ofInt (264) := by decide +kernel
theorem ks_729 : (Int16.ofInt (729)).toInt32 = Int32.ofInt (729) := by decide +kernel
theorem ks_999 : (Int16.ofInt (999)).toInt32 = Int32.ofInt (999) := by decide +kernel
theorem ks_1000 : (Int16.ofInt (1000)).toInt32 = Int32.ofInt (1000) := by decide +kernel
theorem ks_12345 : (Int16.ofInt (12345)).toInt32 = Int32.ofInt (12345) := by decide +kernel
