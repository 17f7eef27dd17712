/-! FACTS that the walks name: printed by wip/p39/gen/gen3.py -/
theorem sh1 : shp 1 = (9, 8) := by decide +kernel
theorem le1 : 1 ≤ NN := by decide +kernel
theorem sh2 : shp 2 = (9, 4) := by decide +kernel
theorem le2 : 2 ≤ NN := by decide +kernel
theorem sh3 : shp 3 = (1, 70) := by decide +kernel
theorem le3 : 3 ≤ NN := by decide +kernel
theorem sh4 : shp 4 = (1, 70) := by decide +kernel
theorem le4 : 4 ≤ NN := by decide +kernel
theorem sh5 : shp 5 = (1, 7) := by decide +kernel
theorem le5 : 5 ≤ NN := by decide +kernel
theorem sh6 : shp 6 = (9, 3) := by decide +kernel
theorem le6 : 6 ≤ NN := by decide +kernel
theorem sh7 : shp 7 = (3, 121) := by decide +kernel
theorem le7 : 7 ≤ NN := by decide +kernel
theorem sh8 : shp 8 = (1, 121) := by decide +kernel
theorem le8 : 8 ≤ NN := by decide +kernel
theorem sh9 : shp 9 = (1, 121) := by decide +kernel
theorem le9 : 9 ≤ NN := by decide +kernel
theorem sh10 : shp 10 = (1, 6) := by decide +kernel
theorem le10 : 10 ≤ NN := by decide +kernel
theorem sh11 : shp 11 = (9, 1) := by decide +kernel
theorem le11 : 11 ≤ NN := by decide +kernel
theorem sh12 : shp 12 = (1, 40) := by decide +kernel
theorem le12 : 12 ≤ NN := by decide +kernel
theorem sh13 : shp 13 = (1, 40) := by decide +kernel
theorem le13 : 13 ≤ NN := by decide +kernel
theorem sh14 : shp 14 = (1, 40) := by decide +kernel
theorem le14 : 14 ≤ NN := by decide +kernel
theorem sh15 : shp 15 = (1, 40) := by decide +kernel
theorem le15 : 15 ≤ NN := by decide +kernel
theorem sh16 : shp 16 = (9, 6) := by decide +kernel
theorem le16 : 16 ≤ NN := by decide +kernel
theorem sh17 : shp 17 = (3, 120) := by decide +kernel
theorem le17 : 17 ≤ NN := by decide +kernel
theorem sh18 : shp 18 = (9, 3) := by decide +kernel
theorem le18 : 18 ≤ NN := by decide +kernel
theorem sh19 : shp 19 = (3, 121) := by decide +kernel
theorem le19 : 19 ≤ NN := by decide +kernel
theorem sh20 : shp 20 = (1, 121) := by decide +kernel
theorem le20 : 20 ≤ NN := by decide +kernel
theorem sh21 : shp 21 = (1, 121) := by decide +kernel
theorem le21 : 21 ≤ NN := by decide +kernel
theorem sh22 : shp 22 = (1, 6) := by decide +kernel
theorem le22 : 22 ≤ NN := by decide +kernel
theorem sh23 : shp 23 = (9, 2) := by decide +kernel
theorem le23 : 23 ≤ NN := by decide +kernel
theorem sh24 : shp 24 = (1, 7) := by decide +kernel
theorem le24 : 24 ≤ NN := by decide +kernel
theorem sh25 : shp 25 = (1, 7) := by decide +kernel
theorem le25 : 25 ≤ NN := by decide +kernel
theorem sh26 : shp 26 = (1, 7) := by decide +kernel
theorem le26 : 26 ≤ NN := by decide +kernel
theorem sh27 : shp 27 = (1, 7) := by decide +kernel
theorem le27 : 27 ≤ NN := by decide +kernel
theorem sh28 : shp 28 = (9, 2) := by decide +kernel
theorem le28 : 28 ≤ NN := by decide +kernel
theorem sh29 : shp 29 = (1, 7) := by decide +kernel
theorem le29 : 29 ≤ NN := by decide +kernel
theorem sh30 : shp 30 = (1, 7) := by decide +kernel
theorem le30 : 30 ≤ NN := by decide +kernel
theorem sh31 : shp 31 = (1, 7) := by decide +kernel
theorem le31 : 31 ≤ NN := by decide +kernel
theorem sh32 : shp 32 = (1, 7) := by decide +kernel
theorem le32 : 32 ≤ NN := by decide +kernel
theorem sh33 : shp 33 = (9, 7) := by decide +kernel
theorem le33 : 33 ≤ NN := by decide +kernel
theorem sh34 : shp 34 = (6, 10) := by decide +kernel
theorem le34 : 34 ≤ NN := by decide +kernel
theorem sh35 : shp 35 = (8, 10) := by decide +kernel
theorem le35 : 35 ≤ NN := by decide +kernel
theorem sh36 : shp 36 = (1, 8) := by decide +kernel
theorem le36 : 36 ≤ NN := by decide +kernel
theorem sh37 : shp 37 = (1, 8) := by decide +kernel
theorem le37 : 37 ≤ NN := by decide +kernel
theorem sh38 : shp 38 = (1, 8) := by decide +kernel
theorem le38 : 38 ≤ NN := by decide +kernel
theorem sh39 : shp 39 = (1, 8) := by decide +kernel
theorem le39 : 39 ≤ NN := by decide +kernel
theorem sh40 : shp 40 = (1, 8) := by decide +kernel
theorem le40 : 40 ≤ NN := by decide +kernel
theorem sh41 : shp 41 = (1, 8) := by decide +kernel
theorem le41 : 41 ≤ NN := by decide +kernel
theorem sh42 : shp 42 = (1, 8) := by decide +kernel
theorem le42 : 42 ≤ NN := by decide +kernel
theorem sh43 : shp 43 = (1, 8) := by decide +kernel
theorem le43 : 43 ≤ NN := by decide +kernel
theorem sh44 : shp 44 = (1, 8) := by decide +kernel
theorem le44 : 44 ≤ NN := by decide +kernel
theorem sh45 : shp 45 = (1, 8) := by decide +kernel
theorem le45 : 45 ≤ NN := by decide +kernel
theorem sh46 : shp 46 = (1, 128) := by decide +kernel
theorem le46 : 46 ≤ NN := by decide +kernel
theorem sh47 : shp 47 = (1, 7) := by decide +kernel
theorem le47 : 47 ≤ NN := by decide +kernel
theorem sh48 : shp 48 = (1, 7) := by decide +kernel
theorem le48 : 48 ≤ NN := by decide +kernel
theorem sh49 : shp 49 = (1, 7) := by decide +kernel
theorem le49 : 49 ≤ NN := by decide +kernel
theorem sh50 : shp 50 = (9, 2) := by decide +kernel
theorem le50 : 50 ≤ NN := by decide +kernel
theorem sh51 : shp 51 = (1, 7) := by decide +kernel
theorem le51 : 51 ≤ NN := by decide +kernel
theorem sh52 : shp 52 = (1, 7) := by decide +kernel
theorem le52 : 52 ≤ NN := by decide +kernel
theorem sh53 : shp 53 = (1, 7) := by decide +kernel
theorem le53 : 53 ≤ NN := by decide +kernel
theorem sh54 : shp 54 = (1, 7) := by decide +kernel
theorem le54 : 54 ≤ NN := by decide +kernel
theorem sh55 : shp 55 = (9, 2) := by decide +kernel
theorem le55 : 55 ≤ NN := by decide +kernel
theorem sh56 : shp 56 = (1, 7) := by decide +kernel
theorem le56 : 56 ≤ NN := by decide +kernel
theorem sh57 : shp 57 = (1, 7) := by decide +kernel
theorem le57 : 57 ≤ NN := by decide +kernel
theorem sh58 : shp 58 = (1, 7) := by decide +kernel
theorem le58 : 58 ≤ NN := by decide +kernel
theorem sh59 : shp 59 = (1, 7) := by decide +kernel
theorem le59 : 59 ≤ NN := by decide +kernel
theorem sh60 : shp 60 = (9, 2) := by decide +kernel
theorem le60 : 60 ≤ NN := by decide +kernel
theorem sh61 : shp 61 = (1, 7) := by decide +kernel
theorem le61 : 61 ≤ NN := by decide +kernel
theorem sh62 : shp 62 = (1, 7) := by decide +kernel
theorem le62 : 62 ≤ NN := by decide +kernel
theorem sh63 : shp 63 = (1, 7) := by decide +kernel
theorem le63 : 63 ≤ NN := by decide +kernel
theorem sh64 : shp 64 = (1, 7) := by decide +kernel
theorem le64 : 64 ≤ NN := by decide +kernel
theorem sh65 : shp 65 = (9, 2) := by decide +kernel
theorem le65 : 65 ≤ NN := by decide +kernel
theorem sh66 : shp 66 = (1, 7) := by decide +kernel
theorem le66 : 66 ≤ NN := by decide +kernel
theorem sh67 : shp 67 = (1, 7) := by decide +kernel
theorem le67 : 67 ≤ NN := by decide +kernel
theorem sh68 : shp 68 = (1, 7) := by decide +kernel
theorem le68 : 68 ≤ NN := by decide +kernel
theorem sh69 : shp 69 = (1, 7) := by decide +kernel
theorem le69 : 69 ≤ NN := by decide +kernel
theorem sh70 : shp 70 = (9, 2) := by decide +kernel
theorem le70 : 70 ≤ NN := by decide +kernel
theorem sh71 : shp 71 = (1, 7) := by decide +kernel
theorem le71 : 71 ≤ NN := by decide +kernel
theorem sh72 : shp 72 = (1, 7) := by decide +kernel
theorem le72 : 72 ≤ NN := by decide +kernel
theorem sh73 : shp 73 = (1, 7) := by decide +kernel
theorem le73 : 73 ≤ NN := by decide +kernel
theorem sh74 : shp 74 = (1, 7) := by decide +kernel
theorem le74 : 74 ≤ NN := by decide +kernel
theorem sh75 : shp 75 = (9, 2) := by decide +kernel
theorem le75 : 75 ≤ NN := by decide +kernel
theorem sh76 : shp 76 = (1, 7) := by decide +kernel
theorem le76 : 76 ≤ NN := by decide +kernel
theorem sh77 : shp 77 = (1, 7) := by decide +kernel
theorem le77 : 77 ≤ NN := by decide +kernel
theorem sh78 : shp 78 = (1, 7) := by decide +kernel
theorem le78 : 78 ≤ NN := by decide +kernel
theorem sh79 : shp 79 = (1, 7) := by decide +kernel
theorem le79 : 79 ≤ NN := by decide +kernel
theorem sh80 : shp 80 = (9, 2) := by decide +kernel
theorem le80 : 80 ≤ NN := by decide +kernel
theorem sh81 : shp 81 = (1, 7) := by decide +kernel
theorem le81 : 81 ≤ NN := by decide +kernel
theorem sh82 : shp 82 = (1, 7) := by decide +kernel
theorem le82 : 82 ≤ NN := by decide +kernel
theorem sh83 : shp 83 = (1, 7) := by decide +kernel
theorem le83 : 83 ≤ NN := by decide +kernel
theorem sh84 : shp 84 = (1, 7) := by decide +kernel
theorem le84 : 84 ≤ NN := by decide +kernel
theorem sh85 : shp 85 = (9, 2) := by decide +kernel
theorem le85 : 85 ≤ NN := by decide +kernel
theorem sh86 : shp 86 = (1, 7) := by decide +kernel
theorem le86 : 86 ≤ NN := by decide +kernel
theorem sh87 : shp 87 = (1, 7) := by decide +kernel
theorem le87 : 87 ≤ NN := by decide +kernel
theorem sh88 : shp 88 = (1, 7) := by decide +kernel
theorem le88 : 88 ≤ NN := by decide +kernel
theorem sh89 : shp 89 = (1, 7) := by decide +kernel
theorem le89 : 89 ≤ NN := by decide +kernel
theorem sh90 : shp 90 = (9, 2) := by decide +kernel
theorem le90 : 90 ≤ NN := by decide +kernel
theorem sh91 : shp 91 = (1, 7) := by decide +kernel
theorem le91 : 91 ≤ NN := by decide +kernel
theorem sh92 : shp 92 = (1, 7) := by decide +kernel
theorem le92 : 92 ≤ NN := by decide +kernel
theorem sh93 : shp 93 = (1, 7) := by decide +kernel
theorem le93 : 93 ≤ NN := by decide +kernel
theorem sh94 : shp 94 = (1, 7) := by decide +kernel
theorem le94 : 94 ≤ NN := by decide +kernel
theorem sh95 : shp 95 = (9, 2) := by decide +kernel
theorem le95 : 95 ≤ NN := by decide +kernel
theorem sh96 : shp 96 = (1, 7) := by decide +kernel
theorem le96 : 96 ≤ NN := by decide +kernel
theorem sh97 : shp 97 = (1, 7) := by decide +kernel
theorem le97 : 97 ≤ NN := by decide +kernel
theorem sh98 : shp 98 = (1, 7) := by decide +kernel
theorem le98 : 98 ≤ NN := by decide +kernel
theorem sh99 : shp 99 = (1, 7) := by decide +kernel
theorem le99 : 99 ≤ NN := by decide +kernel
theorem sh100 : shp 100 = (9, 0) := by decide +kernel
theorem le100 : 100 ≤ NN := by decide +kernel
theorem sh101 : shp 101 = (1, 50) := by decide +kernel
theorem le101 : 101 ≤ NN := by decide +kernel
theorem sh102 : shp 102 = (1, 24) := by decide +kernel
theorem le102 : 102 ≤ NN := by decide +kernel
theorem sh103 : shp 103 = (9, 5) := by decide +kernel
theorem le103 : 103 ≤ NN := by decide +kernel
theorem sh104 : shp 104 = (1, 6) := by decide +kernel
theorem le104 : 104 ≤ NN := by decide +kernel
theorem sh105 : shp 105 = (1, 6) := by decide +kernel
theorem le105 : 105 ≤ NN := by decide +kernel
theorem sh106 : shp 106 = (7, 6) := by decide +kernel
theorem le106 : 106 ≤ NN := by decide +kernel
theorem sh107 : shp 107 = (5, 60) := by decide +kernel
theorem le107 : 107 ≤ NN := by decide +kernel
theorem sh108 : shp 108 = (5, 60) := by decide +kernel
theorem le108 : 108 ≤ NN := by decide +kernel
theorem sh109 : shp 109 = (5, 60) := by decide +kernel
theorem le109 : 109 ≤ NN := by decide +kernel
theorem sh110 : shp 110 = (5, 60) := by decide +kernel
theorem le110 : 110 ≤ NN := by decide +kernel
theorem sh111 : shp 111 = (5, 60) := by decide +kernel
theorem le111 : 111 ≤ NN := by decide +kernel
theorem sh112 : shp 112 = (5, 60) := by decide +kernel
theorem le112 : 112 ≤ NN := by decide +kernel
theorem shr_2_1 {t : Nat} (h : shp t = (9, 2)) : shp (t + 1) = (1, 7) := (by decide +kernel : ∀ t, t ≤ NN → shp t = (9, 2) → shp (t + 1) = (1, 7)) t (shp_le h (by decide)) h
theorem shr_2_2 {t : Nat} (h : shp t = (9, 2)) : shp (t + 2) = (1, 7) := (by decide +kernel : ∀ t, t ≤ NN → shp t = (9, 2) → shp (t + 2) = (1, 7)) t (shp_le h (by decide)) h
theorem shr_2_3 {t : Nat} (h : shp t = (9, 2)) : shp (t + 3) = (1, 7) := (by decide +kernel : ∀ t, t ≤ NN → shp t = (9, 2) → shp (t + 3) = (1, 7)) t (shp_le h (by decide)) h
theorem shr_2_4 {t : Nat} (h : shp t = (9, 2)) : shp (t + 4) = (1, 7) := (by decide +kernel : ∀ t, t ≤ NN → shp t = (9, 2) → shp (t + 4) = (1, 7)) t (shp_le h (by decide)) h
theorem shr_3_1 {t : Nat} (h : shp t = (9, 3)) : shp (t + 1) = (3, 121) := (by decide +kernel : ∀ t, t ≤ NN → shp t = (9, 3) → shp (t + 1) = (3, 121)) t (shp_le h (by decide)) h
theorem shr_3_2 {t : Nat} (h : shp t = (9, 3)) : shp (t + 2) = (1, 121) := (by decide +kernel : ∀ t, t ≤ NN → shp t = (9, 3) → shp (t + 2) = (1, 121)) t (shp_le h (by decide)) h
theorem shr_3_3 {t : Nat} (h : shp t = (9, 3)) : shp (t + 3) = (1, 121) := (by decide +kernel : ∀ t, t ≤ NN → shp t = (9, 3) → shp (t + 3) = (1, 121)) t (shp_le h (by decide)) h
theorem shr_3_4 {t : Nat} (h : shp t = (9, 3)) : shp (t + 4) = (1, 6) := (by decide +kernel : ∀ t, t ≤ NN → shp t = (9, 3) → shp (t + 4) = (1, 6)) t (shp_le h (by decide)) h
theorem ar34 : ∀ j, j < 10 → aref 34 j = some (50 + 5 * j) ∧ 50 + 5 * j ≠ 0 := fun j h => ⟨by show (if j < 10 then _ else _) = _; rw [if_pos h], by omega⟩
theorem shar34 {j : Nat} (h : j < 10) : shp (50 + 5 * j) = (9, 2) := (by decide +kernel : ∀ j, j < 10 → shp (50 + 5 * j) = (9, 2)) j h
theorem ar35 : ∀ j, j < 10 → aref 35 j = some (36 + 1 * j) ∧ 36 + 1 * j ≠ 0 := fun j h => ⟨by show (if j < 10 then _ else _) = _; rw [if_pos h], by omega⟩
theorem shar35 {j : Nat} (h : j < 10) : shp (36 + 1 * j) = (1, 8) := (by decide +kernel : ∀ j, j < 10 → shp (36 + 1 * j) = (1, 8)) j h
theorem ar106 : ∀ j, j < 6 → aref 106 j = some (107 + 1 * j) ∧ 107 + 1 * j ≠ 0 := fun j h => ⟨by show (if j < 6 then _ else _) = _; rw [if_pos h], by omega⟩
theorem shar106 {j : Nat} (h : j < 6) : shp (107 + 1 * j) = (5, 60) := (by decide +kernel : ∀ j, j < 6 → shp (107 + 1 * j) = (5, 60)) j h
theorem shp_any {r k : Nat} (h : (shp r).1 = k) : shp r = (k, (shp r).2) := by rw [← h]
theorem fd_X8_10 : FD 8 0 RX8 10 (.object "OpenOrTake$Party") true := ⟨RX8, TX8, rfl, inX8, tyX8_ok, nmX8, by decide, wm_2_44, rfl, rfl⟩
theorem fd_X8_19 : FD 8 1 RX8 19 (.object "OpenOrTake$Changes") true := ⟨RX8, TX8, rfl, inX8, tyX8_ok, nmX8, by decide, wm_2_45, rfl, rfl⟩
theorem fd_X8_26 : FD 8 2 RX8 26 (.object "OpenOrTake$Tape") true := ⟨RX8, TX8, rfl, inX8, tyX8_ok, nmX8, by decide, wm_2_46, rfl, rfl⟩
theorem fd_X8_33 : FD 8 3 RX8 33 (.object "OpenOrTake$Evening") true := ⟨RX8, TX8, rfl, inX8, tyX8_ok, nmX8, by decide, wm_2_47, rfl, rfl⟩
theorem fd_X8_37 : FD 8 4 RX8 37 (.object "OpenOrTake$Evening") true := ⟨RX8, TX8, rfl, inX8, tyX8_ok, nmX8, by decide, wm_2_48, rfl, rfl⟩
theorem fd_X8_45 : FD 8 5 RX8 45 (.object "OpenOrTake$Thought") true := ⟨RX8, TX8, rfl, inX8, tyX8_ok, nmX8, by decide, wm_2_49, rfl, rfl⟩
theorem fd_X8_52 : FD 8 6 RX8 52 (.object "OpenOrTake$Bodies") true := ⟨RX8, TX8, rfl, inX8, tyX8_ok, nmX8, by decide, wm_2_50, rfl, rfl⟩
theorem fd_X8_59 : FD 8 7 RX8 59 (.object "OpenOrTake$Shelves") true := ⟨RX8, TX8, rfl, inX8, tyX8_ok, nmX8, by decide, wm_2_51, rfl, rfl⟩
theorem fd_X8_63 : FD 8 8 RX8 63 .int false := ⟨RX8, TX8, rfl, inX8, tyX8_ok, nmX8, by decide, wm_2_52, rfl, rfl⟩
theorem fd_X4_9 : FD 4 0 RX4 9 .int false := ⟨RX4, TX4, rfl, inX4, tyX4_ok, nmX4, by decide, wm_1_58, rfl, rfl⟩
theorem fd_X4_15 : FD 4 1 RX4 15 (.array .int) true := ⟨RX4, TX4, rfl, inX4, tyX4_ok, nmX4, by decide, wm_1_62, rfl, rfl⟩
theorem fd_X4_19 : FD 4 2 RX4 19 (.array .int) true := ⟨RX4, TX4, rfl, inX4, tyX4_ok, nmX4, by decide, wm_1_64, rfl, rfl⟩
theorem fd_X4_22 : FD 4 3 RX4 22 (.array .int) true := ⟨RX4, TX4, rfl, inX4, tyX4_ok, nmX4, by decide, wm_1_65, rfl, rfl⟩
theorem fd_X4_25 : FD 4 4 RX4 25 .int false := ⟨RX4, TX4, rfl, inX4, tyX4_ok, nmX4, by decide, wm_1_68, rfl, rfl⟩
theorem fd_X4_28 : FD 4 5 RX4 28 .int false := ⟨RX4, TX4, rfl, inX4, tyX4_ok, nmX4, by decide, wm_1_71, rfl, rfl⟩
theorem fd_X4_34 : FD 4 6 RX4 34 (.object "OpenOrTake$Law") false := ⟨RX4, TX4, rfl, inX4, tyX4_ok, nmX4, by decide, wm_1_74, rfl, rfl⟩
theorem fd_X3_11 : FD 3 0 RX3 11 (.array .char) true := ⟨RX3, TX3, rfl, inX3, tyX3_ok, nmX3, by decide, wm_1_34, rfl, rfl⟩
theorem fd_X3_15 : FD 3 1 RX3 15 (.array .int) true := ⟨RX3, TX3, rfl, inX3, tyX3_ok, nmX3, by decide, wm_1_35, rfl, rfl⟩
theorem fd_X3_19 : FD 3 2 RX3 19 .int false := ⟨RX3, TX3, rfl, inX3, tyX3_ok, nmX3, by decide, wm_1_36, rfl, rfl⟩
theorem fd_X3_23 : FD 3 3 RX3 23 .int false := ⟨RX3, TX3, rfl, inX3, tyX3_ok, nmX3, by decide, wm_1_37, rfl, rfl⟩
theorem fd_X3_26 : FD 3 4 RX3 26 (.array .int) true := ⟨RX3, TX3, rfl, inX3, tyX3_ok, nmX3, by decide, wm_1_38, rfl, rfl⟩
theorem fd_X3_29 : FD 3 5 RX3 29 (.array .int) true := ⟨RX3, TX3, rfl, inX3, tyX3_ok, nmX3, by decide, wm_1_39, rfl, rfl⟩
theorem fd_X1_9 : FD 1 0 RX1 9 (.array .int) true := ⟨RX1, TX1, rfl, inX1, tyX1_ok, nmX1, by decide, wm_1_98, rfl, rfl⟩
theorem fd_X1_13 : FD 1 1 RX1 13 (.array .int) true := ⟨RX1, TX1, rfl, inX1, tyX1_ok, nmX1, by decide, wm_1_99, rfl, rfl⟩
theorem fd_X1_16 : FD 1 2 RX1 16 (.array .int) true := ⟨RX1, TX1, rfl, inX1, tyX1_ok, nmX1, by decide, wm_1_100, rfl, rfl⟩
theorem fd_X1_19 : FD 1 3 RX1 19 (.array .int) true := ⟨RX1, TX1, rfl, inX1, tyX1_ok, nmX1, by decide, wm_1_101, rfl, rfl⟩
theorem fd_X1_22 : FD 1 4 RX1 22 .int false := ⟨RX1, TX1, rfl, inX1, tyX1_ok, nmX1, by decide, wm_1_102, rfl, rfl⟩
theorem fd_X1_26 : FD 1 5 RX1 26 .int false := ⟨RX1, TX1, rfl, inX1, tyX1_ok, nmX1, by decide, wm_1_104, rfl, rfl⟩
theorem fd_X6_9 : FD 6 0 RX6 9 (.array .char) true := ⟨RX6, TX6, rfl, inX6, tyX6_ok, nmX6, by decide, wm_1_126, rfl, rfl⟩
theorem fd_X6_15 : FD 6 1 RX6 15 .int false := ⟨RX6, TX6, rfl, inX6, tyX6_ok, nmX6, by decide, wm_1_127, rfl, rfl⟩
theorem fd_X6_19 : FD 6 2 RX6 19 .int false := ⟨RX6, TX6, rfl, inX6, tyX6_ok, nmX6, by decide, wm_1_129, rfl, rfl⟩
theorem fd_X6_22 : FD 6 3 RX6 22 .int false := ⟨RX6, TX6, rfl, inX6, tyX6_ok, nmX6, by decide, wm_1_130, rfl, rfl⟩
theorem fd_X6_28 : FD 6 4 RX6 28 (.object "OpenOrTake$Law") false := ⟨RX6, TX6, rfl, inX6, tyX6_ok, nmX6, by decide, wm_1_131, rfl, rfl⟩
theorem fd_X2_9 : FD 2 0 RX2 9 (.array .int) true := ⟨RX2, TX2, rfl, inX2, tyX2_ok, nmX2, by decide, wm_1_150, rfl, rfl⟩
theorem fd_X2_15 : FD 2 1 RX2 15 (.array .int) true := ⟨RX2, TX2, rfl, inX2, tyX2_ok, nmX2, by decide, wm_1_153, rfl, rfl⟩
theorem fd_X2_18 : FD 2 2 RX2 18 (.array .int) true := ⟨RX2, TX2, rfl, inX2, tyX2_ok, nmX2, by decide, wm_1_156, rfl, rfl⟩
theorem fd_X2_21 : FD 2 3 RX2 21 (.array .int) true := ⟨RX2, TX2, rfl, inX2, tyX2_ok, nmX2, by decide, wm_1_157, rfl, rfl⟩
theorem fd_X2_24 : FD 2 4 RX2 24 .int false := ⟨RX2, TX2, rfl, inX2, tyX2_ok, nmX2, by decide, wm_1_160, rfl, rfl⟩
theorem fd_X2_28 : FD 2 5 RX2 28 .int false := ⟨RX2, TX2, rfl, inX2, tyX2_ok, nmX2, by decide, wm_1_163, rfl, rfl⟩
theorem fd_X2_31 : FD 2 6 RX2 31 .int false := ⟨RX2, TX2, rfl, inX2, tyX2_ok, nmX2, by decide, wm_1_164, rfl, rfl⟩
theorem fd_X2_34 : FD 2 7 RX2 34 .boolean false := ⟨RX2, TX2, rfl, inX2, tyX2_ok, nmX2, by decide, wm_1_165, rfl, rfl⟩
theorem fd_X2_38 : FD 2 8 RX2 38 .int false := ⟨RX2, TX2, rfl, inX2, tyX2_ok, nmX2, by decide, wm_1_167, rfl, rfl⟩
theorem fd_X2_41 : FD 2 9 RX2 41 .int false := ⟨RX2, TX2, rfl, inX2, tyX2_ok, nmX2, by decide, wm_1_169, rfl, rfl⟩
theorem fd_X2_44 : FD 2 10 RX2 44 .int false := ⟨RX2, TX2, rfl, inX2, tyX2_ok, nmX2, by decide, wm_1_171, rfl, rfl⟩
theorem fd_X7_13 : FD 7 1 RX7 13 (.array (.object "OpenOrTake$Evening")) true := ⟨RX7, TX7, rfl, inX7, tyX7_ok, nmX7, by decide, wm_1_209, rfl, rfl⟩
theorem fd_X7_19 : FD 7 2 RX7 19 (.array (.array .int)) true := ⟨RX7, TX7, rfl, inX7, tyX7_ok, nmX7, by decide, wm_1_210, rfl, rfl⟩
theorem fd_X7_22 : FD 7 3 RX7 22 (.array .int) true := ⟨RX7, TX7, rfl, inX7, tyX7_ok, nmX7, by decide, wm_1_211, rfl, rfl⟩
theorem fd_X7_26 : FD 7 4 RX7 26 (.array .int) true := ⟨RX7, TX7, rfl, inX7, tyX7_ok, nmX7, by decide, wm_1_212, rfl, rfl⟩
theorem fd_X7_29 : FD 7 5 RX7 29 (.array .int) true := ⟨RX7, TX7, rfl, inX7, tyX7_ok, nmX7, by decide, wm_1_213, rfl, rfl⟩
theorem fd_X7_32 : FD 7 6 RX7 32 (.array .int) true := ⟨RX7, TX7, rfl, inX7, tyX7_ok, nmX7, by decide, wm_1_214, rfl, rfl⟩
theorem fd_X7_35 : FD 7 7 RX7 35 (.array .long) false := ⟨RX7, TX7, rfl, inX7, tyX7_ok, nmX7, by decide, wm_1_216, rfl, rfl⟩
theorem fd_X7_39 : FD 7 8 RX7 39 .int false := ⟨RX7, TX7, rfl, inX7, tyX7_ok, nmX7, by decide, wm_1_217, rfl, rfl⟩
theorem fd_X7_43 : FD 7 0 RX7 43 (.object "OpenOrTake$Party") true := ⟨RX7, TX7, rfl, inX7, tyX7_ok, nmX7, by decide, wm_1_208, rfl, rfl⟩
theorem fd_X0_11 : FD 0 0 RX0 11 (.array .int) true := ⟨RX0, TX0, rfl, inX0, tyX0_ok, nmX0, by decide, wm_2_3, rfl, rfl⟩
theorem fd_X0_15 : FD 0 1 RX0 15 .int false := ⟨RX0, TX0, rfl, inX0, tyX0_ok, nmX0, by decide, wm_2_4, rfl, rfl⟩
theorem fd_X0_19 : FD 0 2 RX0 19 (.array .int) true := ⟨RX0, TX0, rfl, inX0, tyX0_ok, nmX0, by decide, wm_2_6, rfl, rfl⟩
theorem fd_X0_22 : FD 0 3 RX0 22 .int false := ⟨RX0, TX0, rfl, inX0, tyX0_ok, nmX0, by decide, wm_2_7, rfl, rfl⟩
theorem fd_X0_25 : FD 0 4 RX0 25 .int false := ⟨RX0, TX0, rfl, inX0, tyX0_ok, nmX0, by decide, wm_2_9, rfl, rfl⟩
theorem fd_X5_11 : FD 5 0 RX5 11 (.array .int) true := ⟨RX5, TX5, rfl, inX5, tyX5_ok, nmX5, by decide, wm_2_30, rfl, rfl⟩
theorem fd_X5_15 : FD 5 1 RX5 15 (.array .int) true := ⟨RX5, TX5, rfl, inX5, tyX5_ok, nmX5, by decide, wm_2_32, rfl, rfl⟩
theorem fd_X5_20 : FD 5 2 RX5 20 (.array (.array .long)) true := ⟨RX5, TX5, rfl, inX5, tyX5_ok, nmX5, by decide, wm_2_34, rfl, rfl⟩
theorem fd_X8_71 : FD 4 0 RX8 71 .int false := ⟨RX4, TX4, rfl, inX4, tyX4_ok, nmX4, by decide, wm_1_60, rfl, rfl⟩
theorem fd_X8_323 : FD 4 3 RX8 323 (.array .int) true := ⟨RX4, TX4, rfl, inX4, tyX4_ok, nmX4, by decide, wm_1_67, rfl, rfl⟩
theorem fd_X8_110 : FD 2 0 RX8 110 (.array .int) true := ⟨RX2, TX2, rfl, inX2, tyX2_ok, nmX2, by decide, wm_1_151, rfl, rfl⟩
theorem fd_X8_114 : FD 2 1 RX8 114 (.array .int) true := ⟨RX2, TX2, rfl, inX2, tyX2_ok, nmX2, by decide, wm_1_155, rfl, rfl⟩
theorem fd_X8_117 : FD 2 3 RX8 117 (.array .int) true := ⟨RX2, TX2, rfl, inX2, tyX2_ok, nmX2, by decide, wm_1_158, rfl, rfl⟩
theorem fd_X8_120 : FD 2 4 RX8 120 .int false := ⟨RX2, TX2, rfl, inX2, tyX2_ok, nmX2, by decide, wm_1_162, rfl, rfl⟩
theorem fd_X8_133 : FD 6 1 RX8 133 .int false := ⟨RX6, TX6, rfl, inX6, tyX6_ok, nmX6, by decide, wm_1_128, rfl, rfl⟩
theorem fd_X8_247 : FD 1 4 RX8 247 .int false := ⟨RX1, TX1, rfl, inX1, tyX1_ok, nmX1, by decide, wm_1_103, rfl, rfl⟩
theorem fd_X8_317 : FD 0 1 RX8 317 .int false := ⟨RX0, TX0, rfl, inX0, tyX0_ok, nmX0, by decide, wm_2_5, rfl, rfl⟩
theorem fd_X8_320 : FD 0 3 RX8 320 .int false := ⟨RX0, TX0, rfl, inX0, tyX0_ok, nmX0, by decide, wm_2_8, rfl, rfl⟩
theorem fd_X2_57 : FD 4 0 RX2 57 .int false := ⟨RX4, TX4, rfl, inX4, tyX4_ok, nmX4, by decide, wm_1_61, rfl, rfl⟩
theorem fd_X2_71 : FD 4 4 RX2 71 .int false := ⟨RX4, TX4, rfl, inX4, tyX4_ok, nmX4, by decide, wm_1_69, rfl, rfl⟩
theorem fd_X8_140 : FD 4 6 RX8 140 (.object "OpenOrTake$Law") false := ⟨RX4, TX4, rfl, inX4, tyX4_ok, nmX4, by decide, wm_1_75, rfl, rfl⟩
theorem fd_X8_183 : FD 2 10 RX8 183 .int false := ⟨RX2, TX2, rfl, inX2, tyX2_ok, nmX2, by decide, wm_1_173, rfl, rfl⟩
theorem fd_X7_52 : FD 4 0 RX7 52 .int false := ⟨RX4, TX4, rfl, inX4, tyX4_ok, nmX4, by decide, wm_1_59, rfl, rfl⟩
theorem fd_X2_86 : FD 4 3 RX2 86 (.array .int) true := ⟨RX4, TX4, rfl, inX4, tyX4_ok, nmX4, by decide, wm_1_66, rfl, rfl⟩
theorem fd_X2_119 : FD 4 6 RX2 119 (.object "OpenOrTake$Law") false := ⟨RX4, TX4, rfl, inX4, tyX4_ok, nmX4, by decide, wm_1_76, rfl, rfl⟩
theorem fd_X2_129 : FD 4 5 RX2 129 .int false := ⟨RX4, TX4, rfl, inX4, tyX4_ok, nmX4, by decide, wm_1_73, rfl, rfl⟩
theorem fd_X8_226 : FD 5 2 RX8 226 (.array (.array .long)) true := ⟨RX5, TX5, rfl, inX5, tyX5_ok, nmX5, by decide, wm_2_35, rfl, rfl⟩
theorem fd_X8_281 : FD 5 0 RX8 281 (.array .int) true := ⟨RX5, TX5, rfl, inX5, tyX5_ok, nmX5, by decide, wm_2_31, rfl, rfl⟩
theorem fd_X8_230 : FD 5 1 RX8 230 (.array .int) true := ⟨RX5, TX5, rfl, inX5, tyX5_ok, nmX5, by decide, wm_2_33, rfl, rfl⟩
theorem fd_X7_73 : FD 2 1 RX7 73 (.array .int) true := ⟨RX2, TX2, rfl, inX2, tyX2_ok, nmX2, by decide, wm_1_154, rfl, rfl⟩
theorem fd_X7_171 : FD 2 0 RX7 171 (.array .int) true := ⟨RX2, TX2, rfl, inX2, tyX2_ok, nmX2, by decide, wm_1_152, rfl, rfl⟩
theorem fd_X7_141 : FD 4 1 RX7 141 (.array .int) true := ⟨RX4, TX4, rfl, inX4, tyX4_ok, nmX4, by decide, wm_1_63, rfl, rfl⟩
theorem fd_X7_148 : FD 2 3 RX7 148 (.array .int) true := ⟨RX2, TX2, rfl, inX2, tyX2_ok, nmX2, by decide, wm_1_159, rfl, rfl⟩
theorem fd_X8_199 : FD 4 4 RX8 199 .int false := ⟨RX4, TX4, rfl, inX4, tyX4_ok, nmX4, by decide, wm_1_70, rfl, rfl⟩
theorem fd_X7_82 : FD 2 10 RX7 82 .int false := ⟨RX2, TX2, rfl, inX2, tyX2_ok, nmX2, by decide, wm_1_172, rfl, rfl⟩
theorem fd_X7_96 : FD 2 4 RX7 96 .int false := ⟨RX2, TX2, rfl, inX2, tyX2_ok, nmX2, by decide, wm_1_161, rfl, rfl⟩
theorem fd_X8_223 : FD 7 6 RX8 223 (.array .int) true := ⟨RX7, TX7, rfl, inX7, tyX7_ok, nmX7, by decide, wm_1_215, rfl, rfl⟩
theorem fd_X8_166 : FD 4 5 RX8 166 .int false := ⟨RX4, TX4, rfl, inX4, tyX4_ok, nmX4, by decide, wm_1_72, rfl, rfl⟩
theorem fd_X8_169 : FD 2 7 RX8 169 .boolean false := ⟨RX2, TX2, rfl, inX2, tyX2_ok, nmX2, by decide, wm_1_166, rfl, rfl⟩
theorem fd_X8_186 : FD 2 8 RX8 186 .int false := ⟨RX2, TX2, rfl, inX2, tyX2_ok, nmX2, by decide, wm_1_168, rfl, rfl⟩
theorem fd_X8_189 : FD 2 9 RX8 189 .int false := ⟨RX2, TX2, rfl, inX2, tyX2_ok, nmX2, by decide, wm_1_170, rfl, rfl⟩
theorem mw_X0_init : MW yX0_init cX0_init 1 (none) 0 := ⟨wm_2_1, wm_1_9, by decide +kernel, by decide +kernel, by decide +kernel⟩
theorem mw_X1_init : MW yX1_init cX1_init 1 (none) 0 := ⟨wm_1_96, wm_1_5, by decide +kernel, by decide +kernel, by decide +kernel⟩
theorem mw_X1_note : MW yX1_note cX1_note 5 (none) 4 := ⟨wm_3_202, wm_1_5, by decide +kernel, by decide +kernel, by decide +kernel⟩
theorem mw_X1_forgetOldest : MW yX1_forgetOldest cX1_forgetOldest 1 (none) 0 := ⟨wm_3_206, wm_1_5, by decide +kernel, by decide +kernel, by decide +kernel⟩
theorem mw_X2_init : MW yX2_init cX2_init 1 (none) 0 := ⟨wm_1_147, wm_1_7, by decide +kernel, by decide +kernel, by decide +kernel⟩
theorem mw_X2_hasBegun : MW yX2_hasBegun cX2_hasBegun 1 ((some .boolean)) 0 := ⟨wm_2_181, wm_1_7, by decide +kernel, by decide +kernel, by decide +kernel⟩
theorem mw_X2_hasEnded : MW yX2_hasEnded cX2_hasEnded 2 ((some .boolean)) 1 := ⟨wm_2_177, wm_1_7, by decide +kernel, by decide +kernel, by decide +kernel⟩
theorem mw_X2_wrapAll : MW yX2_wrapAll cX2_wrapAll 1 (none) 0 := ⟨wm_2_197, wm_1_7, by decide +kernel, by decide +kernel, by decide +kernel⟩
theorem mw_X2_become : MW yX2_become cX2_become 2 (none) 1 := ⟨wm_3_6, wm_1_7, by decide +kernel, by decide +kernel, by decide +kernel⟩
theorem mw_X2_beginBy : MW yX2_beginBy cX2_beginBy 2 (none) 1 := ⟨wm_2_213, wm_1_7, by decide +kernel, by decide +kernel, by decide +kernel⟩
theorem mw_X2_changePlaces : MW yX2_changePlaces cX2_changePlaces 4 (none) 2 := ⟨wm_3_226, wm_1_7, by decide +kernel, by decide +kernel, by decide +kernel⟩
theorem mw_X2_whoseTurn : MW yX2_whoseTurn cX2_whoseTurn 2 ((some .int)) 1 := ⟨wm_2_101, wm_1_7, by decide +kernel, by decide +kernel, by decide +kernel⟩
theorem mw_X2_isSafe : MW yX2_isSafe cX2_isSafe 3 ((some .boolean)) 2 := ⟨wm_2_152, wm_1_7, by decide +kernel, by decide +kernel, by decide +kernel⟩
theorem mw_X2_countSafe : MW yX2_countSafe cX2_countSafe 4 ((some .int)) 1 := ⟨wm_3_160, wm_1_7, by decide +kernel, by decide +kernel, by decide +kernel⟩
theorem mw_X2_mayRob : MW yX2_mayRob cX2_mayRob 3 ((some .boolean)) 2 := ⟨wm_2_148, wm_1_7, by decide +kernel, by decide +kernel, by decide +kernel⟩
theorem mw_X2_unwrap : MW yX2_unwrap cX2_unwrap 3 ((some .int)) 1 := ⟨wm_2_109, wm_1_7, by decide +kernel, by decide +kernel, by decide +kernel⟩
theorem mw_X2_rob : MW yX2_rob cX2_rob 4 ((some .int)) 2 := ⟨wm_2_169, wm_1_7, by decide +kernel, by decide +kernel, by decide +kernel⟩
theorem mw_X2_give : MW yX2_give cX2_give 3 (none) 2 := ⟨wm_2_113, wm_1_7, by decide +kernel, by decide +kernel, by decide +kernel⟩
theorem mw_X2_playTill : MW yX2_playTill cX2_playTill 7 ((some .int)) 2 := ⟨wm_2_121, wm_1_7, by decide +kernel, by decide +kernel, by decide +kernel⟩
theorem mw_X2_guess : MW yX2_guess cX2_guess 6 ((some .int)) 2 := ⟨wm_2_130, wm_1_7, by decide +kernel, by decide +kernel, by decide +kernel⟩
theorem mw_X2_ofMostWorth : MW yX2_ofMostWorth cX2_ofMostWorth 6 ((some .int)) 2 := ⟨wm_2_164, wm_1_7, by decide +kernel, by decide +kernel, by decide +kernel⟩
theorem mw_X2_fromWhomItLikesLeast : MW yX2_fromWhomItLikesLeast cX2_fromWhomItLikesLeast 8 ((some .int)) 2 := ⟨wm_2_160, wm_1_7, by decide +kernel, by decide +kernel, by decide +kernel⟩
theorem mw_X2_byTheLaw : MW yX2_byTheLaw cX2_byTheLaw 9 ((some .int)) 2 := ⟨wm_2_126, wm_1_7, by decide +kernel, by decide +kernel, by decide +kernel⟩
theorem mw_X2_closeByLaw : MW yX2_closeByLaw cX2_closeByLaw 2 (none) 1 := ⟨wm_2_222, wm_1_7, by decide +kernel, by decide +kernel, by decide +kernel⟩
theorem mw_X2_chooseOnceMore : MW yX2_chooseOnceMore cX2_chooseOnceMore 7 (none) 1 := ⟨wm_2_185, wm_1_7, by decide +kernel, by decide +kernel, by decide +kernel⟩
theorem mw_X2_exchange : MW yX2_exchange cX2_exchange 5 (none) 3 := ⟨wm_2_189, wm_1_7, by decide +kernel, by decide +kernel, by decide +kernel⟩
theorem mw_X2_worths : MW yX2_worths cX2_worths 4 ((some .int)) 1 := ⟨wm_2_228, wm_1_7, by decide +kernel, by decide +kernel, by decide +kernel⟩
theorem mw_X3_init : MW yX3_init cX3_init 1 (none) 0 := ⟨wm_1_32, wm_1_3, by decide +kernel, by decide +kernel, by decide +kernel⟩
theorem mw_X3_clear : MW yX3_clear cX3_clear 1 (none) 0 := ⟨wm_4_12, wm_1_3, by decide +kernel, by decide +kernel, by decide +kernel⟩
theorem mw_X3_write : MW yX3_write cX3_write 3 (none) 2 := ⟨wm_4_55, wm_1_3, by decide +kernel, by decide +kernel, by decide +kernel⟩
theorem mw_X3_writeIf : MW yX3_writeIf cX3_writeIf 1 (none) 0 := ⟨wm_4_74, wm_1_3, by decide +kernel, by decide +kernel, by decide +kernel⟩
theorem mw_X3_writeEndOfLine : MW yX3_writeEndOfLine cX3_writeEndOfLine 1 (none) 0 := ⟨wm_4_79, wm_1_3, by decide +kernel, by decide +kernel, by decide +kernel⟩
theorem mw_X3_nameOf : MW yX3_nameOf cX3_nameOf 1 ((some .int)) 1 := ⟨wm_4_58, wm_1_3, by decide +kernel, by decide +kernel, by decide +kernel⟩
theorem mw_X3_number : MW yX3_number cX3_number 10 ((some .int)) 6 := ⟨wm_2_138, wm_1_3, by decide +kernel, by decide +kernel, by decide +kernel⟩
theorem mw_X3_joined : MW yX3_joined cX3_joined 3 ((some .int)) 3 := ⟨wm_2_144, wm_1_3, by decide +kernel, by decide +kernel, by decide +kernel⟩
theorem mw_X4_init : MW yX4_init cX4_init 1 (none) 0 := ⟨wm_1_26, wm_1_2, by decide +kernel, by decide +kernel, by decide +kernel⟩
theorem mw_X4_isOne : MW yX4_isOne cX4_isOne 2 ((some .boolean)) 1 := ⟨wm_2_87, wm_1_2, by decide +kernel, by decide +kernel, by decide +kernel⟩
theorem mw_X4_isPair : MW yX4_isPair cX4_isPair 2 ((some .boolean)) 1 := ⟨wm_2_83, wm_1_2, by decide +kernel, by decide +kernel, by decide +kernel⟩
theorem mw_X4_worthFor : MW yX4_worthFor cX4_worthFor 4 ((some .int)) 2 := ⟨wm_2_134, wm_1_2, by decide +kernel, by decide +kernel, by decide +kernel⟩
theorem mw_X4_likeFor : MW yX4_likeFor cX4_likeFor 4 ((some .int)) 2 := ⟨wm_2_156, wm_1_2, by decide +kernel, by decide +kernel, by decide +kernel⟩
theorem mw_X4_knows : MW yX4_knows cX4_knows 3 ((some .boolean)) 2 := ⟨wm_2_79, wm_1_2, by decide +kernel, by decide +kernel, by decide +kernel⟩
theorem mw_X4_allows : MW yX4_allows cX4_allows 2 ((some .boolean)) 2 := ⟨wm_3_198, wm_1_2, by decide +kernel, by decide +kernel, by decide +kernel⟩
theorem mw_X4_value : MW yX4_value cX4_value 3 ((some .int)) 2 := ⟨wm_2_91, wm_1_2, by decide +kernel, by decide +kernel, by decide +kernel⟩
theorem mw_X4_become : MW yX4_become cX4_become 4 (none) 3 := ⟨wm_3_211, wm_1_2, by decide +kernel, by decide +kernel, by decide +kernel⟩
theorem mw_X5_init : MW yX5_init cX5_init 1 (none) 0 := ⟨wm_2_25, wm_1_10, by decide +kernel, by decide +kernel, by decide +kernel⟩
theorem mw_X5_isShelf : MW yX5_isShelf cX5_isShelf 2 ((some .boolean)) 1 := ⟨wm_3_99, wm_1_10, by decide +kernel, by decide +kernel, by decide +kernel⟩
theorem mw_X5_isEmpty : MW yX5_isEmpty cX5_isEmpty 2 ((some .boolean)) 1 := ⟨wm_3_103, wm_1_10, by decide +kernel, by decide +kernel, by decide +kernel⟩
theorem mw_X5_isRow : MW yX5_isRow cX5_isRow 2 ((some .boolean)) 1 := ⟨wm_3_149, wm_1_10, by decide +kernel, by decide +kernel, by decide +kernel⟩
theorem mw_X5_holdRow : MW yX5_holdRow cX5_holdRow 4 (none) 3 := ⟨wm_3_134, wm_1_10, by decide +kernel, by decide +kernel, by decide +kernel⟩
theorem mw_X5_refusalOfBytes : MW yX5_refusalOfBytes cX5_refusalOfBytes 2 ((some .int)) 1 := ⟨wm_3_95, wm_1_10, by decide +kernel, by decide +kernel, by decide +kernel⟩
theorem mw_X5_refusalOfElement : MW yX5_refusalOfElement cX5_refusalOfElement 3 ((some .int)) 2 := ⟨wm_3_145, wm_1_10, by decide +kernel, by decide +kernel, by decide +kernel⟩
theorem mw_X5_lowestBits : MW yX5_lowestBits cX5_lowestBits 3 ((some .long)) 2 := ⟨wm_3_152, wm_1_10, by decide +kernel, by decide +kernel, by decide +kernel⟩
theorem mw_X6_init : MW yX6_init cX6_init 1 (none) 0 := ⟨wm_1_122, wm_1_6, by decide +kernel, by decide +kernel, by decide +kernel⟩
theorem mw_X6_append : MW yX6_append cX6_append 2 ((some .boolean)) 1 := ⟨wm_4_0, wm_1_6, by decide +kernel, by decide +kernel, by decide +kernel⟩
theorem mw_X6_read : MW yX6_read cX6_read 2 ((some .int)) 0 := ⟨wm_4_8, wm_1_6, by decide +kernel, by decide +kernel, by decide +kernel⟩
theorem mw_X6_draftFor : MW yX6_draftFor cX6_draftFor 3 ((some (.object "OpenOrTake$Law"))) 1 := ⟨wm_4_83, wm_1_6, by decide +kernel, by decide +kernel, by decide +kernel⟩
theorem mw_X6_ahead : MW yX6_ahead cX6_ahead 1 ((some .int)) 0 := ⟨wm_4_44, wm_1_6, by decide +kernel, by decide +kernel, by decide +kernel⟩
theorem mw_X6_comes : MW yX6_comes cX6_comes 3 ((some .boolean)) 1 := ⟨wm_4_70, wm_1_6, by decide +kernel, by decide +kernel, by decide +kernel⟩
theorem mw_X6_fail : MW yX6_fail cX6_fail 1 (none) 0 := ⟨wm_4_62, wm_1_6, by decide +kernel, by decide +kernel, by decide +kernel⟩
theorem mw_X6_write : MW yX6_write cX6_write 2 (none) 1 := ⟨wm_4_66, wm_1_6, by decide +kernel, by decide +kernel, by decide +kernel⟩
theorem mw_X6_line : MW yX6_line cX6_line 1 (none) 0 := ⟨wm_4_16, wm_1_6, by decide +kernel, by decide +kernel, by decide +kernel⟩
theorem mw_X6_either : MW yX6_either cX6_either 3 (none) 1 := ⟨wm_4_20, wm_1_6, by decide +kernel, by decide +kernel, by decide +kernel⟩
theorem mw_X6_both : MW yX6_both cX6_both 3 (none) 1 := ⟨wm_4_24, wm_1_6, by decide +kernel, by decide +kernel, by decide +kernel⟩
theorem mw_X6_compared : MW yX6_compared cX6_compared 3 (none) 1 := ⟨wm_4_28, wm_1_6, by decide +kernel, by decide +kernel, by decide +kernel⟩
theorem mw_X6_sum : MW yX6_sum cX6_sum 4 (none) 1 := ⟨wm_4_32, wm_1_6, by decide +kernel, by decide +kernel, by decide +kernel⟩
theorem mw_X6_product : MW yX6_product cX6_product 4 (none) 1 := ⟨wm_4_36, wm_1_6, by decide +kernel, by decide +kernel, by decide +kernel⟩
theorem mw_X6_operand : MW yX6_operand cX6_operand 3 (none) 1 := ⟨wm_4_40, wm_1_6, by decide +kernel, by decide +kernel, by decide +kernel⟩
theorem mw_X6_number : MW yX6_number cX6_number 3 (none) 0 := ⟨wm_4_51, wm_1_6, by decide +kernel, by decide +kernel, by decide +kernel⟩
theorem mw_X6_isDigit : MW yX6_isDigit cX6_isDigit 1 ((some .boolean)) 1 := ⟨wm_4_47, wm_1_6, by decide +kernel, by decide +kernel, by decide +kernel⟩
theorem mw_X7_init : MW yX7_init cX7_init 3 (none) 1 := ⟨wm_1_201, wm_1_8, by decide +kernel, by decide +kernel, by decide +kernel⟩
theorem mw_X7_eveningBy : MW yX7_eveningBy cX7_eveningBy 3 ((some (.object "OpenOrTake$Evening"))) 1 := ⟨wm_2_209, wm_1_8, by decide +kernel, by decide +kernel, by decide +kernel⟩
theorem mw_X7_eachForItself : MW yX7_eachForItself cX7_eachForItself 3 ((some .int)) 2 := ⟨wm_2_236, wm_1_8, by decide +kernel, by decide +kernel, by decide +kernel⟩
theorem mw_X7_lookAhead : MW yX7_lookAhead cX7_lookAhead 6 (none) 1 := ⟨wm_3_0, wm_1_8, by decide +kernel, by decide +kernel, by decide +kernel⟩
theorem mw_X7_worthAtEnd : MW yX7_worthAtEnd cX7_worthAtEnd 3 ((some .int)) 2 := ⟨wm_3_17, wm_1_8, by decide +kernel, by decide +kernel, by decide +kernel⟩
theorem mw_X7_comeTo : MW yX7_comeTo cX7_comeTo 2 (none) 1 := ⟨wm_3_11, wm_1_8, by decide +kernel, by decide +kernel, by decide +kernel⟩
theorem mw_X7_bestParting : MW yX7_bestParting cX7_bestParting 5 ((some .int)) 1 := ⟨wm_3_26, wm_1_8, by decide +kernel, by decide +kernel, by decide +kernel⟩
theorem mw_X7_fillMostBehind : MW yX7_fillMostBehind cX7_fillMostBehind 6 (none) 0 := ⟨wm_3_30, wm_1_8, by decide +kernel, by decide +kernel, by decide +kernel⟩
theorem mw_X7_worthWithAllBehind : MW yX7_worthWithAllBehind cX7_worthWithAllBehind 4 ((some .int)) 3 := ⟨wm_3_40, wm_1_8, by decide +kernel, by decide +kernel, by decide +kernel⟩
theorem mw_X7_firstBest : MW yX7_firstBest cX7_firstBest 4 ((some .int)) 2 := ⟨wm_3_45, wm_1_8, by decide +kernel, by decide +kernel, by decide +kernel⟩
theorem mw_X7_pairsWhoWouldChange : MW yX7_pairsWhoWouldChange cX7_pairsWhoWouldChange 6 ((some .int)) 1 := ⟨wm_3_53, wm_1_8, by decide +kernel, by decide +kernel, by decide +kernel⟩
theorem mw_X7_envies : MW yX7_envies cX7_envies 4 ((some .boolean)) 3 := ⟨wm_3_58, wm_1_8, by decide +kernel, by decide +kernel, by decide +kernel⟩
theorem mw_X7_leastFace : MW yX7_leastFace cX7_leastFace 5 ((some .int)) 2 := ⟨wm_3_66, wm_1_8, by decide +kernel, by decide +kernel, by decide +kernel⟩
theorem mw_X7_lessen : MW yX7_lessen cX7_lessen 4 (none) 2 := ⟨wm_3_70, wm_1_8, by decide +kernel, by decide +kernel, by decide +kernel⟩
theorem mw_X7_drawNumbers : MW yX7_drawNumbers cX7_drawNumbers 9 (none) 3 := ⟨wm_3_78, wm_1_8, by decide +kernel, by decide +kernel, by decide +kernel⟩
theorem mw_X7_unlike : MW yX7_unlike cX7_unlike 4 ((some .int)) 0 := ⟨wm_3_84, wm_1_8, by decide +kernel, by decide +kernel, by decide +kernel⟩
theorem mw_X7_hear : MW yX7_hear cX7_hear 3 (none) 2 := ⟨wm_3_107, wm_1_8, by decide +kernel, by decide +kernel, by decide +kernel⟩
theorem mw_X7_firstUnlikeTold : MW yX7_firstUnlikeTold cX7_firstUnlikeTold 3 ((some .int)) 1 := ⟨wm_3_111, wm_1_8, by decide +kernel, by decide +kernel, by decide +kernel⟩
theorem mw_X7_lotsAsTold : MW yX7_lotsAsTold cX7_lotsAsTold 1 ((some .int)) 0 := ⟨wm_3_119, wm_1_8, by decide +kernel, by decide +kernel, by decide +kernel⟩
theorem mw_X7_lotsBehind : MW yX7_lotsBehind cX7_lotsBehind 7 ((some .int)) 2 := ⟨wm_3_124, wm_1_8, by decide +kernel, by decide +kernel, by decide +kernel⟩
theorem mw_X8_init : MW yX8_init cX8_init 1 (none) 0 := ⟨wm_1_18, wm_1_1, by decide +kernel, by decide +kernel, by decide +kernel⟩
theorem mw_X8_person : MW yX8_person cX8_person 2 ((some .int)) 1 := ⟨wm_3_183, wm_1_1, by decide +kernel, by decide +kernel, by decide +kernel⟩
theorem mw_X8_mend : MW yX8_mend cX8_mend 5 ((some .int)) 3 := ⟨wm_3_195, wm_1_1, by decide +kernel, by decide +kernel, by decide +kernel⟩
theorem mw_X8_of : MW yX8_of cX8_of 3 ((some .int)) 2 := ⟨wm_2_75, wm_1_1, by decide +kernel, by decide +kernel, by decide +kernel⟩
theorem mw_X8_swap : MW yX8_swap cX8_swap 2 ((some .int)) 1 := ⟨wm_3_221, wm_1_1, by decide +kernel, by decide +kernel, by decide +kernel⟩
theorem mw_X8_feed : MW yX8_feed cX8_feed 2 ((some .int)) 1 := ⟨wm_3_236, wm_1_1, by decide +kernel, by decide +kernel, by decide +kernel⟩
theorem mw_X8_law : MW yX8_law cX8_law 2 ((some .int)) 0 := ⟨wm_4_4, wm_1_1, by decide +kernel, by decide +kernel, by decide +kernel⟩
theorem mw_X8_turn : MW yX8_turn cX8_turn 1 ((some .int)) 0 := ⟨wm_2_97, wm_1_1, by decide +kernel, by decide +kernel, by decide +kernel⟩
theorem mw_X8_open : MW yX8_open cX8_open 2 ((some .int)) 0 := ⟨wm_2_105, wm_1_1, by decide +kernel, by decide +kernel, by decide +kernel⟩
theorem mw_X8_goOn : MW yX8_goOn cX8_goOn 1 ((some .int)) 0 := ⟨wm_2_117, wm_1_1, by decide +kernel, by decide +kernel, by decide +kernel⟩
theorem mw_X8_again : MW yX8_again cX8_again 1 ((some .int)) 0 := ⟨wm_2_173, wm_1_1, by decide +kernel, by decide +kernel, by decide +kernel⟩
theorem mw_X8_anew : MW yX8_anew cX8_anew 1 ((some .int)) 0 := ⟨wm_2_193, wm_1_1, by decide +kernel, by decide +kernel, by decide +kernel⟩
theorem mw_X8_led : MW yX8_led cX8_led 2 ((some .int)) 1 := ⟨wm_2_201, wm_1_1, by decide +kernel, by decide +kernel, by decide +kernel⟩
theorem mw_X8_evening : MW yX8_evening cX8_evening 5 ((some .int)) 2 := ⟨wm_2_205, wm_1_1, by decide +kernel, by decide +kernel, by decide +kernel⟩
theorem mw_X8_exact : MW yX8_exact cX8_exact 2 ((some .int)) 1 := ⟨wm_2_232, wm_1_1, by decide +kernel, by decide +kernel, by decide +kernel⟩
theorem mw_X8_best : MW yX8_best cX8_best 2 ((some .int)) 1 := ⟨wm_3_22, wm_1_1, by decide +kernel, by decide +kernel, by decide +kernel⟩
theorem mw_X8_pairs : MW yX8_pairs cX8_pairs 1 ((some .int)) 0 := ⟨wm_3_49, wm_1_1, by decide +kernel, by decide +kernel, by decide +kernel⟩
theorem mw_X8_face : MW yX8_face cX8_face 2 ((some .int)) 1 := ⟨wm_3_62, wm_1_1, by decide +kernel, by decide +kernel, by decide +kernel⟩
theorem mw_X8_numbers : MW yX8_numbers cX8_numbers 4 ((some .int)) 3 := ⟨wm_3_74, wm_1_1, by decide +kernel, by decide +kernel, by decide +kernel⟩
theorem mw_X8_judge : MW yX8_judge cX8_judge 3 ((some .int)) 1 := ⟨wm_3_91, wm_1_1, by decide +kernel, by decide +kernel, by decide +kernel⟩
theorem mw_X8_lots : MW yX8_lots cX8_lots 3 ((some .int)) 1 := ⟨wm_3_115, wm_1_1, by decide +kernel, by decide +kernel, by decide +kernel⟩
theorem mw_X8_row : MW yX8_row cX8_row 4 ((some .int)) 3 := ⟨wm_3_129, wm_1_1, by decide +kernel, by decide +kernel, by decide +kernel⟩
theorem mw_X8_put : MW yX8_put cX8_put 6 ((some .int)) 3 := ⟨wm_3_141, wm_1_1, by decide +kernel, by decide +kernel, by decide +kernel⟩
theorem mw_X8_count : MW yX8_count cX8_count 2 ((some .int)) 1 := ⟨wm_3_156, wm_1_1, by decide +kernel, by decide +kernel, by decide +kernel⟩
theorem mw_X8_welcome : MW yX8_welcome cX8_welcome 3 ((some .int)) 1 := ⟨wm_3_188, wm_1_1, by decide +kernel, by decide +kernel, by decide +kernel⟩
theorem mw_J6_bitCount_0f7a4 : MW yJ6_bitCount_0f7a4 cJ6_bitCount_0f7a4 1 ((some .int)) 1 := ⟨wm_3_33, wm_1_13, by decide +kernel, by decide +kernel, by decide +kernel⟩
theorem mw_J7_fill_d0a16 : MW yJ7_fill_d0a16 cJ7_fill_d0a16 5 (none) 2 := ⟨wm_3_137, wm_1_4, by decide +kernel, by decide +kernel, by decide +kernel⟩
theorem mw_J7_fill_53178 : MW yJ7_fill_53178 cJ7_fill_53178 4 (none) 2 := ⟨wm_1_57, wm_1_4, by decide +kernel, by decide +kernel, by decide +kernel⟩
theorem mw_L_tell : MW yL_tell cL_tell 4 ((some .boolean)) 3 := ⟨wm_3_232, wm_1_0, by decide +kernel, by decide +kernel, by decide +kernel⟩
theorem mw_L_cell : MW yL_cell cL_cell 2 ((some .int)) 2 := ⟨wm_3_166, wm_1_0, by decide +kernel, by decide +kernel, by decide +kernel⟩
theorem mw_L_people : MW yL_people cL_people 1 ((some .int)) 1 := ⟨wm_3_163, wm_1_0, by decide +kernel, by decide +kernel, by decide +kernel⟩
theorem mw_L_way : MW yL_way cL_way 2 ((some .int)) 2 := ⟨wm_3_179, wm_1_0, by decide +kernel, by decide +kernel, by decide +kernel⟩
theorem mw_L_most : MW yL_most cL_most 1 ((some .int)) 1 := ⟨wm_3_170, wm_1_0, by decide +kernel, by decide +kernel, by decide +kernel⟩
theorem mw_L_again : MW yL_again cL_again 1 ((some .int)) 1 := ⟨wm_3_173, wm_1_0, by decide +kernel, by decide +kernel, by decide +kernel⟩
theorem mw_L_worth : MW yL_worth cL_worth 3 ((some .int)) 3 := ⟨wm_3_191, wm_1_0, by decide +kernel, by decide +kernel, by decide +kernel⟩
theorem mw_L_like : MW yL_like cL_like 3 ((some .int)) 3 := ⟨wm_3_214, wm_1_0, by decide +kernel, by decide +kernel, by decide +kernel⟩
theorem mw_L_hasLaw : MW yL_hasLaw cL_hasLaw 1 ((some .boolean)) 1 := ⟨wm_3_229, wm_1_0, by decide +kernel, by decide +kernel, by decide +kernel⟩
theorem mw_L_lot : MW yL_lot cL_lot 6 ((some (.array .int))) 1 := ⟨wm_3_217, wm_1_0, by decide +kernel, by decide +kernel, by decide +kernel⟩
theorem mw_L_built : MW yL_built cL_built 6 ((some .boolean)) 2 := ⟨wm_3_176, wm_1_0, by decide +kernel, by decide +kernel, by decide +kernel⟩
theorem wc_L_16 : Cond.constant RL 16 (iI (16777215)) ∈ WA := by
  have h := wm_3_167
  rw [show ((16777215) : Int32) = iI (16777215) from by decide +kernel] at h
  exact h
theorem wc_J6_265 : Cond.constant RJ6 265 (iI (1431655765)) ∈ WA := by
  have h := wm_3_34
  rw [show ((1431655765) : Int32) = iI (1431655765) from by decide +kernel] at h
  exact h
theorem wc_J6_266 : Cond.constant RJ6 266 (iI (858993459)) ∈ WA := by
  have h := wm_3_35
  rw [show ((858993459) : Int32) = iI (858993459) from by decide +kernel] at h
  exact h
theorem wc_J6_267 : Cond.constant RJ6 267 (iI (252645135)) ∈ WA := by
  have h := wm_3_36
  rw [show ((252645135) : Int32) = iI (252645135) from by decide +kernel] at h
  exact h
theorem wc_X7_157 : Cond.constant RX7 157 (iI (1103515245)) ∈ WA := by
  have h := wm_3_80
  rw [show ((1103515245) : Int32) = iI (1103515245) from by decide +kernel] at h
  exact h
theorem wx_math : Cond.initialized "java/lang/Math" ∈ WA := wm_1_12
theorem wx_sys : Cond.initialized "java/lang/System" ∈ WA := wm_1_11
theorem wx_mmax_1 : Cond.static Lib.Math.max.name ∈ WA := wA (tm_2 _ (List.mem_of_getElem? (i := 140) rfl)) rfl
theorem wx_mmax_2 : Cond.code Lib.Math.max.name Lib.Math.max.code 2 (some .int) ∈ WA := wA (tm_2 _ (List.mem_of_getElem? (i := 141) rfl)) rfl
theorem wx_mmin_1 : Cond.static Lib.Math.min.name ∈ WA := wA (tm_3 _ (List.mem_of_getElem? (i := 86) rfl)) rfl
theorem wx_mmin_2 : Cond.code Lib.Math.min.name Lib.Math.min.code 2 (some .int) ∈ WA := wA (tm_3 _ (List.mem_of_getElem? (i := 87) rfl)) rfl
theorem wx_ac_1 : Cond.native arraycopyName ∈ WA := wm_2_216
theorem wx_ac_2 : Cond.static arraycopyName ∈ WA := wm_2_215
theorem wm_2_139 : Cond.methodLink RX3 36 Lib.Math.max.name ∈ WA := wA (tm_2 _ (List.mem_of_getElem? (i := 139) rfl)) rfl
theorem wm_3_41 : Cond.methodLink RX7 128 Lib.Math.max.name ∈ WA := wA (tm_3 _ (List.mem_of_getElem? (i := 41) rfl)) rfl
theorem wm_3_85 : Cond.methodLink RX7 158 Lib.Math.min.name ∈ WA := wA (tm_3 _ (List.mem_of_getElem? (i := 85) rfl)) rfl
theorem wm_4_85 : Cond.methodLink RL 169 Lib.Math.min.name ∈ WA := wA (tm_4 _ (List.mem_of_getElem? (i := 85) rfl)) rfl
theorem wm_4_84 : Cond.methodLink RL 174 Lib.Math.max.name ∈ WA := wA (tm_4 _ (List.mem_of_getElem? (i := 84) rfl)) rfl
def FU : Nat := 1000000
def CM (p : Program) (s : State) (m : MethodId) (args : Array Value) (meth : Method) (c : Code) (cc : ByteArray) (nL : Nat) (own : String) (cx : CX) (ret : Option FieldType) : Prop := Kx p s m args c cc nL own cx ∧ meth.sig.returnType = ret ∧ meth.locks = false
abbrev TI (p : Program) (l : Launch) (e : Env) (R : Room) (s : State) (m : MethodId) (args : Array Value) (below : List Frame) (meth : Method) (c : Code) (nL : Nat) (cx : CX) (wn : Nat) (pc : Nat) (lv : List (Nat × Value)) (st : List Value) (μ : Mm) (F : Option (Int32 × Mm)) : Prop := T p l e R s m args below meth c nL cx wn Lay 0 0 (fun (r : Int32) μ1 => MQ below (QcM cx wn Lay (cvI r) μ1) args s 0 0 (fun q => cx.2.2.1 < q)) pc lv st μ F
abbrev TGI (p : Program) (l : Launch) (e : Env) (R : Room) (s : State) (m : MethodId) (args : Array Value) (below : List Frame) (meth : Method) (c : Code) (nL : Nat) (cx : CX) (n k sl n2 mc ms : Nat) (pc : Nat) (lv : List (Nat × Value)) (st : List Value) (μ : Mm) (F : Option (Int32 × Mm)) : Prop := T p l e R s m args below meth c nL cx n Lay k sl (fun (r : Int32) μ1 => MQ below (QcM cx n2 Lay (cvI r) μ1) args s mc ms (fun q => cx.2.2.1 < q)) pc lv st μ F
abbrev TL (p : Program) (l : Launch) (e : Env) (R : Room) (s : State) (m : MethodId) (args : Array Value) (below : List Frame) (meth : Method) (c : Code) (nL : Nat) (cx : CX) (wn : Nat) (pc : Nat) (lv : List (Nat × Value)) (st : List Value) (μ : Mm) (F : Option (Int64 × Mm)) : Prop := T p l e R s m args below meth c nL cx wn Lay 0 0 (fun (r : Int64) μ1 => MQ below (QcM cx wn Lay (cvL r) μ1) args s 0 0 (fun q => cx.2.2.1 < q)) pc lv st μ F
abbrev TGL (p : Program) (l : Launch) (e : Env) (R : Room) (s : State) (m : MethodId) (args : Array Value) (below : List Frame) (meth : Method) (c : Code) (nL : Nat) (cx : CX) (n k sl n2 mc ms : Nat) (pc : Nat) (lv : List (Nat × Value)) (st : List Value) (μ : Mm) (F : Option (Int64 × Mm)) : Prop := T p l e R s m args below meth c nL cx n Lay k sl (fun (r : Int64) μ1 => MQ below (QcM cx n2 Lay (cvL r) μ1) args s mc ms (fun q => cx.2.2.1 < q)) pc lv st μ F
abbrev TV (p : Program) (l : Launch) (e : Env) (R : Room) (s : State) (m : MethodId) (args : Array Value) (below : List Frame) (meth : Method) (c : Code) (nL : Nat) (cx : CX) (wn : Nat) (pc : Nat) (lv : List (Nat × Value)) (st : List Value) (μ : Mm) (F : Option (Unit × Mm)) : Prop := T p l e R s m args below meth c nL cx wn Lay 0 0 (fun (r : Unit) μ1 => MQ below (QcM cx wn Lay (cvV r) μ1) args s 0 0 (fun q => cx.2.2.1 < q)) pc lv st μ F
abbrev TGV (p : Program) (l : Launch) (e : Env) (R : Room) (s : State) (m : MethodId) (args : Array Value) (below : List Frame) (meth : Method) (c : Code) (nL : Nat) (cx : CX) (n k sl n2 mc ms : Nat) (pc : Nat) (lv : List (Nat × Value)) (st : List Value) (μ : Mm) (F : Option (Unit × Mm)) : Prop := T p l e R s m args below meth c nL cx n Lay k sl (fun (r : Unit) μ1 => MQ below (QcM cx n2 Lay (cvV r) μ1) args s mc ms (fun q => cx.2.2.1 < q)) pc lv st μ F
abbrev TR (p : Program) (l : Launch) (e : Env) (R : Room) (s : State) (m : MethodId) (args : Array Value) (below : List Frame) (meth : Method) (c : Code) (nL : Nat) (cx : CX) (wn : Nat) (pc : Nat) (lv : List (Nat × Value)) (st : List Value) (μ : Mm) (F : Option (Nat × Mm)) : Prop := T p l e R s m args below meth c nL cx wn Lay 0 0 (fun (r : Nat) μ1 => MQ below (QcM cx wn Lay (cvR cx.2.2.1 r) μ1) args s 0 0 (fun q => cx.2.2.1 < q)) pc lv st μ F
abbrev TGR (p : Program) (l : Launch) (e : Env) (R : Room) (s : State) (m : MethodId) (args : Array Value) (below : List Frame) (meth : Method) (c : Code) (nL : Nat) (cx : CX) (n k sl n2 mc ms : Nat) (pc : Nat) (lv : List (Nat × Value)) (st : List Value) (μ : Mm) (F : Option (Nat × Mm)) : Prop := T p l e R s m args below meth c nL cx n Lay k sl (fun (r : Nat) μ1 => MQ below (QcM cx n2 Lay (cvR cx.2.2.1 r) μ1) args s mc ms (fun q => cx.2.2.1 < q)) pc lv st μ F
theorem sh113 : shp 113 = (10, 0) := by decide +kernel
theorem sh114 : shp 114 = (10, 0) := by decide +kernel
