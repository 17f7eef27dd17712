/-! FACTS that the walks name: printed by wip/whole/gen/gen3.py -/
theorem sh1 : shp 1 = (9, 8) := by decide +kernel
theorem le1 : 1 ≤ NN := by decide +kernel
theorem sh2 : shp 2 = (9, 4) := by decide +kernel
theorem le2 : 2 ≤ NN := by decide +kernel
theorem sh3 : shp 3 = (1, 70) := by decide +kernel
theorem le3 : 3 ≤ NN := by decide +kernel
theorem sh4 : shp 4 = (1, 70) := by decide +kernel
theorem le4 : 4 ≤ NN := by decide +kernel
theorem sh5 : shp 5 = (1, 7) := by decide +kernel
theorem le5 : 5 ≤ NN := by decide +kernel
theorem sh6 : shp 6 = (9, 3) := by decide +kernel
theorem le6 : 6 ≤ NN := by decide +kernel
theorem sh7 : shp 7 = (3, 121) := by decide +kernel
theorem le7 : 7 ≤ NN := by decide +kernel
theorem sh8 : shp 8 = (1, 121) := by decide +kernel
theorem le8 : 8 ≤ NN := by decide +kernel
theorem sh9 : shp 9 = (1, 121) := by decide +kernel
theorem le9 : 9 ≤ NN := by decide +kernel
theorem sh10 : shp 10 = (1, 6) := by decide +kernel
theorem le10 : 10 ≤ NN := by decide +kernel
theorem sh11 : shp 11 = (9, 1) := by decide +kernel
theorem le11 : 11 ≤ NN := by decide +kernel
theorem sh12 : shp 12 = (1, 40) := by decide +kernel
theorem le12 : 12 ≤ NN := by decide +kernel
theorem sh13 : shp 13 = (1, 40) := by decide +kernel
theorem le13 : 13 ≤ NN := by decide +kernel
theorem sh14 : shp 14 = (1, 40) := by decide +kernel
theorem le14 : 14 ≤ NN := by decide +kernel
theorem sh15 : shp 15 = (1, 40) := by decide +kernel
theorem le15 : 15 ≤ NN := by decide +kernel
theorem sh16 : shp 16 = (9, 6) := by decide +kernel
theorem le16 : 16 ≤ NN := by decide +kernel
theorem sh17 : shp 17 = (3, 120) := by decide +kernel
theorem le17 : 17 ≤ NN := by decide +kernel
theorem sh18 : shp 18 = (9, 3) := by decide +kernel
theorem le18 : 18 ≤ NN := by decide +kernel
theorem sh19 : shp 19 = (3, 121) := by decide +kernel
theorem le19 : 19 ≤ NN := by decide +kernel
theorem sh20 : shp 20 = (1, 121) := by decide +kernel
theorem le20 : 20 ≤ NN := by decide +kernel
theorem sh21 : shp 21 = (1, 121) := by decide +kernel
theorem le21 : 21 ≤ NN := by decide +kernel
theorem sh22 : shp 22 = (1, 6) := by decide +kernel
theorem le22 : 22 ≤ NN := by decide +kernel
theorem sh23 : shp 23 = (9, 2) := by decide +kernel
theorem le23 : 23 ≤ NN := by decide +kernel
theorem sh24 : shp 24 = (1, 7) := by decide +kernel
theorem le24 : 24 ≤ NN := by decide +kernel
theorem sh25 : shp 25 = (1, 7) := by decide +kernel
theorem le25 : 25 ≤ NN := by decide +kernel
theorem sh26 : shp 26 = (1, 7) := by decide +kernel
theorem le26 : 26 ≤ NN := by decide +kernel
theorem sh27 : shp 27 = (1, 7) := by decide +kernel
theorem le27 : 27 ≤ NN := by decide +kernel
theorem sh28 : shp 28 = (9, 2) := by decide +kernel
theorem le28 : 28 ≤ NN := by decide +kernel
theorem sh29 : shp 29 = (1, 7) := by decide +kernel
theorem le29 : 29 ≤ NN := by decide +kernel
theorem sh30 : shp 30 = (1, 7) := by decide +kernel
theorem le30 : 30 ≤ NN := by decide +kernel
theorem sh31 : shp 31 = (1, 7) := by decide +kernel
theorem le31 : 31 ≤ NN := by decide +kernel
theorem sh32 : shp 32 = (1, 7) := by decide +kernel
theorem le32 : 32 ≤ NN := by decide +kernel
theorem sh33 : shp 33 = (9, 7) := by decide +kernel
theorem le33 : 33 ≤ NN := by decide +kernel
theorem sh34 : shp 34 = (6, 10) := by decide +kernel
theorem le34 : 34 ≤ NN := by decide +kernel
theorem sh35 : shp 35 = (8, 10) := by decide +kernel
theorem le35 : 35 ≤ NN := by decide +kernel
theorem sh36 : shp 36 = (1, 8) := by decide +kernel
theorem le36 : 36 ≤ NN := by decide +kernel
theorem sh37 : shp 37 = (1, 8) := by decide +kernel
theorem le37 : 37 ≤ NN := by decide +kernel
theorem sh38 : shp 38 = (1, 8) := by decide +kernel
theorem le38 : 38 ≤ NN := by decide +kernel
theorem sh39 : shp 39 = (1, 8) := by decide +kernel
theorem le39 : 39 ≤ NN := by decide +kernel
theorem sh40 : shp 40 = (1, 8) := by decide +kernel
theorem le40 : 40 ≤ NN := by decide +kernel
theorem sh41 : shp 41 = (1, 8) := by decide +kernel
theorem le41 : 41 ≤ NN := by decide +kernel
theorem sh42 : shp 42 = (1, 8) := by decide +kernel
theorem le42 : 42 ≤ NN := by decide +kernel
theorem sh43 : shp 43 = (1, 8) := by decide +kernel
theorem le43 : 43 ≤ NN := by decide +kernel
theorem sh44 : shp 44 = (1, 8) := by decide +kernel
theorem le44 : 44 ≤ NN := by decide +kernel
theorem sh45 : shp 45 = (1, 8) := by decide +kernel
theorem le45 : 45 ≤ NN := by decide +kernel
theorem sh46 : shp 46 = (1, 128) := by decide +kernel
theorem le46 : 46 ≤ NN := by decide +kernel
theorem sh47 : shp 47 = (1, 7) := by decide +kernel
theorem le47 : 47 ≤ NN := by decide +kernel
theorem sh48 : shp 48 = (1, 7) := by decide +kernel
theorem le48 : 48 ≤ NN := by decide +kernel
theorem sh49 : shp 49 = (1, 7) := by decide +kernel
theorem le49 : 49 ≤ NN := by decide +kernel
theorem sh50 : shp 50 = (9, 2) := by decide +kernel
theorem le50 : 50 ≤ NN := by decide +kernel
theorem sh51 : shp 51 = (1, 7) := by decide +kernel
theorem le51 : 51 ≤ NN := by decide +kernel
theorem sh52 : shp 52 = (1, 7) := by decide +kernel
theorem le52 : 52 ≤ NN := by decide +kernel
theorem sh53 : shp 53 = (1, 7) := by decide +kernel
theorem le53 : 53 ≤ NN := by decide +kernel
theorem sh54 : shp 54 = (1, 7) := by decide +kernel
theorem le54 : 54 ≤ NN := by decide +kernel
theorem sh55 : shp 55 = (9, 2) := by decide +kernel
theorem le55 : 55 ≤ NN := by decide +kernel
theorem sh56 : shp 56 = (1, 7) := by decide +kernel
theorem le56 : 56 ≤ NN := by decide +kernel
theorem sh57 : shp 57 = (1, 7) := by decide +kernel
theorem le57 : 57 ≤ NN := by decide +kernel
theorem sh58 : shp 58 = (1, 7) := by decide +kernel
theorem le58 : 58 ≤ NN := by decide +kernel
theorem sh59 : shp 59 = (1, 7) := by decide +kernel
theorem le59 : 59 ≤ NN := by decide +kernel
theorem sh60 : shp 60 = (9, 2) := by decide +kernel
theorem le60 : 60 ≤ NN := by decide +kernel
theorem sh61 : shp 61 = (1, 7) := by decide +kernel
theorem le61 : 61 ≤ NN := by decide +kernel
theorem sh62 : shp 62 = (1, 7) := by decide +kernel
theorem le62 : 62 ≤ NN := by decide +kernel
theorem sh63 : shp 63 = (1, 7) := by decide +kernel
theorem le63 : 63 ≤ NN := by decide +kernel
theorem sh64 : shp 64 = (1, 7) := by decide +kernel
theorem le64 : 64 ≤ NN := by decide +kernel
theorem sh65 : shp 65 = (9, 2) := by decide +kernel
theorem le65 : 65 ≤ NN := by decide +kernel
theorem sh66 : shp 66 = (1, 7) := by decide +kernel
theorem le66 : 66 ≤ NN := by decide +kernel
theorem sh67 : shp 67 = (1, 7) := by decide +kernel
theorem le67 : 67 ≤ NN := by decide +kernel
theorem sh68 : shp 68 = (1, 7) := by decide +kernel
theorem le68 : 68 ≤ NN := by decide +kernel
theorem sh69 : shp 69 = (1, 7) := by decide +kernel
theorem le69 : 69 ≤ NN := by decide +kernel
theorem sh70 : shp 70 = (9, 2) := by decide +kernel
theorem le70 : 70 ≤ NN := by decide +kernel
theorem sh71 : shp 71 = (1, 7) := by decide +kernel
theorem le71 : 71 ≤ NN := by decide +kernel
theorem sh72 : shp 72 = (1, 7) := by decide +kernel
theorem le72 : 72 ≤ NN := by decide +kernel
theorem sh73 : shp 73 = (1, 7) := by decide +kernel
theorem le73 : 73 ≤ NN := by decide +kernel
theorem sh74 : shp 74 = (1, 7) := by decide +kernel
theorem le74 : 74 ≤ NN := by decide +kernel
theorem sh75 : shp 75 = (9, 2) := by decide +kernel
theorem le75 : 75 ≤ NN := by decide +kernel
theorem sh76 : shp 76 = (1, 7) := by decide +kernel
theorem le76 : 76 ≤ NN := by decide +kernel
theorem sh77 : shp 77 = (1, 7) := by decide +kernel
theorem le77 : 77 ≤ NN := by decide +kernel
theorem sh78 : shp 78 = (1, 7) := by decide +kernel
theorem le78 : 78 ≤ NN := by decide +kernel
theorem sh79 : shp 79 = (1, 7) := by decide +kernel
theorem le79 : 79 ≤ NN := by decide +kernel
theorem sh80 : shp 80 = (9, 2) := by decide +kernel
theorem le80 : 80 ≤ NN := by decide +kernel
theorem sh81 : shp 81 = (1, 7) := by decide +kernel
theorem le81 : 81 ≤ NN := by decide +kernel
theorem sh82 : shp 82 = (1, 7) := by decide +kernel
theorem le82 : 82 ≤ NN := by decide +kernel
theorem sh83 : shp 83 = (1, 7) := by decide +kernel
theorem le83 : 83 ≤ NN := by decide +kernel
theorem sh84 : shp 84 = (1, 7) := by decide +kernel
theorem le84 : 84 ≤ NN := by decide +kernel
theorem sh85 : shp 85 = (9, 2) := by decide +kernel
theorem le85 : 85 ≤ NN := by decide +kernel
theorem sh86 : shp 86 = (1, 7) := by decide +kernel
theorem le86 : 86 ≤ NN := by decide +kernel
theorem sh87 : shp 87 = (1, 7) := by decide +kernel
theorem le87 : 87 ≤ NN := by decide +kernel
theorem sh88 : shp 88 = (1, 7) := by decide +kernel
theorem le88 : 88 ≤ NN := by decide +kernel
theorem sh89 : shp 89 = (1, 7) := by decide +kernel
theorem le89 : 89 ≤ NN := by decide +kernel
theorem sh90 : shp 90 = (9, 2) := by decide +kernel
theorem le90 : 90 ≤ NN := by decide +kernel
theorem sh91 : shp 91 = (1, 7) := by decide +kernel
theorem le91 : 91 ≤ NN := by decide +kernel
theorem sh92 : shp 92 = (1, 7) := by decide +kernel
theorem le92 : 92 ≤ NN := by decide +kernel
theorem sh93 : shp 93 = (1, 7) := by decide +kernel
theorem le93 : 93 ≤ NN := by decide +kernel
theorem sh94 : shp 94 = (1, 7) := by decide +kernel
theorem le94 : 94 ≤ NN := by decide +kernel
theorem sh95 : shp 95 = (9, 2) := by decide +kernel
theorem le95 : 95 ≤ NN := by decide +kernel
theorem sh96 : shp 96 = (1, 7) := by decide +kernel
theorem le96 : 96 ≤ NN := by decide +kernel
theorem sh97 : shp 97 = (1, 7) := by decide +kernel
theorem le97 : 97 ≤ NN := by decide +kernel
theorem sh98 : shp 98 = (1, 7) := by decide +kernel
theorem le98 : 98 ≤ NN := by decide +kernel
theorem sh99 : shp 99 = (1, 7) := by decide +kernel
theorem le99 : 99 ≤ NN := by decide +kernel
theorem sh100 : shp 100 = (9, 0) := by decide +kernel
theorem le100 : 100 ≤ NN := by decide +kernel
theorem sh101 : shp 101 = (1, 50) := by decide +kernel
theorem le101 : 101 ≤ NN := by decide +kernel
theorem sh102 : shp 102 = (1, 24) := by decide +kernel
theorem le102 : 102 ≤ NN := by decide +kernel
theorem sh103 : shp 103 = (9, 5) := by decide +kernel
theorem le103 : 103 ≤ NN := by decide +kernel
theorem sh104 : shp 104 = (1, 6) := by decide +kernel
theorem le104 : 104 ≤ NN := by decide +kernel
theorem sh105 : shp 105 = (1, 6) := by decide +kernel
theorem le105 : 105 ≤ NN := by decide +kernel
theorem sh106 : shp 106 = (7, 6) := by decide +kernel
theorem le106 : 106 ≤ NN := by decide +kernel
theorem sh107 : shp 107 = (5, 60) := by decide +kernel
theorem le107 : 107 ≤ NN := by decide +kernel
theorem sh108 : shp 108 = (5, 60) := by decide +kernel
theorem le108 : 108 ≤ NN := by decide +kernel
theorem sh109 : shp 109 = (5, 60) := by decide +kernel
theorem le109 : 109 ≤ NN := by decide +kernel
theorem sh110 : shp 110 = (5, 60) := by decide +kernel
theorem le110 : 110 ≤ NN := by decide +kernel
theorem sh111 : shp 111 = (5, 60) := by decide +kernel
theorem le111 : 111 ≤ NN := by decide +kernel
theorem sh112 : shp 112 = (5, 60) := by decide +kernel
theorem le112 : 112 ≤ NN := by decide +kernel
theorem sh113 : shp 113 = (9, 9) := by decide +kernel
theorem le113 : 113 ≤ NN := by decide +kernel
theorem sh114 : shp 114 = (1, 49) := by decide +kernel
theorem le114 : 114 ≤ NN := by decide +kernel
theorem sh115 : shp 115 = (1, 49) := by decide +kernel
theorem le115 : 115 ≤ NN := by decide +kernel
theorem sh116 : shp 116 = (1, 7) := by decide +kernel
theorem le116 : 116 ≤ NN := by decide +kernel
theorem sh117 : shp 117 = (1, 7) := by decide +kernel
theorem le117 : 117 ≤ NN := by decide +kernel
theorem sh118 : shp 118 = (1, 14) := by decide +kernel
theorem le118 : 118 ≤ NN := by decide +kernel
theorem sh119 : shp 119 = (1, 14) := by decide +kernel
theorem le119 : 119 ≤ NN := by decide +kernel
theorem sh120 : shp 120 = (1, 2) := by decide +kernel
theorem le120 : 120 ≤ NN := by decide +kernel
theorem sh121 : shp 121 = (1, 2) := by decide +kernel
theorem le121 : 121 ≤ NN := by decide +kernel
theorem sh122 : shp 122 = (1, 2) := by decide +kernel
theorem le122 : 122 ≤ NN := by decide +kernel
theorem sh123 : shp 123 = (1, 2) := by decide +kernel
theorem le123 : 123 ≤ NN := by decide +kernel
theorem sh124 : shp 124 = (1, 2) := by decide +kernel
theorem le124 : 124 ≤ NN := by decide +kernel
theorem sh125 : shp 125 = (1, 40) := by decide +kernel
theorem le125 : 125 ≤ NN := by decide +kernel
theorem sh126 : shp 126 = (1, 40) := by decide +kernel
theorem le126 : 126 ≤ NN := by decide +kernel
theorem sh127 : shp 127 = (1, 40) := by decide +kernel
theorem le127 : 127 ≤ NN := by decide +kernel
theorem sh128 : shp 128 = (1, 40) := by decide +kernel
theorem le128 : 128 ≤ NN := by decide +kernel
theorem sh129 : shp 129 = (2, 120) := by decide +kernel
theorem le129 : 129 ≤ NN := by decide +kernel
theorem sh130 : shp 130 = (2, 260) := by decide +kernel
theorem le130 : 130 ≤ NN := by decide +kernel
theorem sh131 : shp 131 = (1, 260) := by decide +kernel
theorem le131 : 131 ≤ NN := by decide +kernel
theorem sh132 : shp 132 = (1, 2) := by decide +kernel
theorem le132 : 132 ≤ NN := by decide +kernel
theorem sh133 : shp 133 = (4, 122) := by decide +kernel
theorem le133 : 133 ≤ NN := by decide +kernel
theorem sh134 : shp 134 = (4, 122) := by decide +kernel
theorem le134 : 134 ≤ NN := by decide +kernel
theorem sh135 : shp 135 = (1, 6) := by decide +kernel
theorem le135 : 135 ≤ NN := by decide +kernel
theorem sh136 : shp 136 = (1, 130) := by decide +kernel
theorem le136 : 136 ≤ NN := by decide +kernel
theorem sh137 : shp 137 = (1, 36) := by decide +kernel
theorem le137 : 137 ≤ NN := by decide +kernel
theorem sh138 : shp 138 = (1, 36) := by decide +kernel
theorem le138 : 138 ≤ NN := by decide +kernel
theorem sh139 : shp 139 = (1, 60) := by decide +kernel
theorem le139 : 139 ≤ NN := by decide +kernel
theorem sh140 : shp 140 = (1, 39) := by decide +kernel
theorem le140 : 140 ≤ NN := by decide +kernel
theorem sh141 : shp 141 = (1, 13) := by decide +kernel
theorem le141 : 141 ≤ NN := by decide +kernel
theorem sh142 : shp 142 = (1, 7) := by decide +kernel
theorem le142 : 142 ≤ NN := by decide +kernel
theorem sh143 : shp 143 = (1, 7) := by decide +kernel
theorem le143 : 143 ≤ NN := by decide +kernel
theorem sh144 : shp 144 = (1, 7) := by decide +kernel
theorem le144 : 144 ≤ NN := by decide +kernel
theorem sh145 : shp 145 = (1, 7) := by decide +kernel
theorem le145 : 145 ≤ NN := by decide +kernel
theorem sh146 : shp 146 = (1, 7) := by decide +kernel
theorem le146 : 146 ≤ NN := by decide +kernel
theorem sh147 : shp 147 = (1, 7) := by decide +kernel
theorem le147 : 147 ≤ NN := by decide +kernel
theorem sh148 : shp 148 = (1, 7) := by decide +kernel
theorem le148 : 148 ≤ NN := by decide +kernel
theorem sh149 : shp 149 = (1, 7) := by decide +kernel
theorem le149 : 149 ≤ NN := by decide +kernel
theorem sh150 : shp 150 = (1, 10) := by decide +kernel
theorem le150 : 150 ≤ NN := by decide +kernel
theorem sh151 : shp 151 = (1, 50) := by decide +kernel
theorem le151 : 151 ≤ NN := by decide +kernel
theorem sh152 : shp 152 = (1, 24) := by decide +kernel
theorem le152 : 152 ≤ NN := by decide +kernel
theorem sh153 : shp 153 = (1, 6) := by decide +kernel
theorem le153 : 153 ≤ NN := by decide +kernel
theorem sh154 : shp 154 = (1, 6) := by decide +kernel
theorem le154 : 154 ≤ NN := by decide +kernel
theorem sh155 : shp 155 = (5, 360) := by decide +kernel
theorem le155 : 155 ≤ NN := by decide +kernel
theorem sh156 : shp 156 = (5, 60) := by decide +kernel
theorem le156 : 156 ≤ NN := by decide +kernel
theorem shr_2_1 {t : Nat} (h : shp t = (9, 2)) : shp (t + 1) = (1, 7) := (by decide +kernel : ∀ t, t ≤ NN → shp t = (9, 2) → shp (t + 1) = (1, 7)) t (shp_le h (by decide)) h
theorem shr_2_2 {t : Nat} (h : shp t = (9, 2)) : shp (t + 2) = (1, 7) := (by decide +kernel : ∀ t, t ≤ NN → shp t = (9, 2) → shp (t + 2) = (1, 7)) t (shp_le h (by decide)) h
theorem shr_2_3 {t : Nat} (h : shp t = (9, 2)) : shp (t + 3) = (1, 7) := (by decide +kernel : ∀ t, t ≤ NN → shp t = (9, 2) → shp (t + 3) = (1, 7)) t (shp_le h (by decide)) h
theorem shr_2_4 {t : Nat} (h : shp t = (9, 2)) : shp (t + 4) = (1, 7) := (by decide +kernel : ∀ t, t ≤ NN → shp t = (9, 2) → shp (t + 4) = (1, 7)) t (shp_le h (by decide)) h
theorem shr_3_1 {t : Nat} (h : shp t = (9, 3)) : shp (t + 1) = (3, 121) := (by decide +kernel : ∀ t, t ≤ NN → shp t = (9, 3) → shp (t + 1) = (3, 121)) t (shp_le h (by decide)) h
theorem shr_3_2 {t : Nat} (h : shp t = (9, 3)) : shp (t + 2) = (1, 121) := (by decide +kernel : ∀ t, t ≤ NN → shp t = (9, 3) → shp (t + 2) = (1, 121)) t (shp_le h (by decide)) h
theorem shr_3_3 {t : Nat} (h : shp t = (9, 3)) : shp (t + 3) = (1, 121) := (by decide +kernel : ∀ t, t ≤ NN → shp t = (9, 3) → shp (t + 3) = (1, 121)) t (shp_le h (by decide)) h
theorem shr_3_4 {t : Nat} (h : shp t = (9, 3)) : shp (t + 4) = (1, 6) := (by decide +kernel : ∀ t, t ≤ NN → shp t = (9, 3) → shp (t + 4) = (1, 6)) t (shp_le h (by decide)) h
theorem ar34 : ∀ j, j < 10 → aref 34 j = some (50 + 5 * j) ∧ 50 + 5 * j ≠ 0 := fun j h => ⟨by show (if j < 10 then _ else _) = _; rw [if_pos h], by omega⟩
theorem shar34 {j : Nat} (h : j < 10) : shp (50 + 5 * j) = (9, 2) := (by decide +kernel : ∀ j, j < 10 → shp (50 + 5 * j) = (9, 2)) j h
theorem ar35 : ∀ j, j < 10 → aref 35 j = some (36 + 1 * j) ∧ 36 + 1 * j ≠ 0 := fun j h => ⟨by show (if j < 10 then _ else _) = _; rw [if_pos h], by omega⟩
theorem shar35 {j : Nat} (h : j < 10) : shp (36 + 1 * j) = (1, 8) := (by decide +kernel : ∀ j, j < 10 → shp (36 + 1 * j) = (1, 8)) j h
theorem ar106 : ∀ j, j < 6 → aref 106 j = some (107 + 1 * j) ∧ 107 + 1 * j ≠ 0 := fun j h => ⟨by show (if j < 6 then _ else _) = _; rw [if_pos h], by omega⟩
theorem shar106 {j : Nat} (h : j < 6) : shp (107 + 1 * j) = (5, 60) := (by decide +kernel : ∀ j, j < 6 → shp (107 + 1 * j) = (5, 60)) j h
theorem shp_any {r k : Nat} (h : (shp r).1 = k) : shp r = (k, (shp r).2) := by rw [← h]
theorem fd_X8_10 : FD 8 0 RX8 10 (.object "OpenOrTake$Party") true := ⟨RX8, TX8, rfl, inX8, tyX8_ok, nmX8, by decide, wm_2_46, rfl, rfl⟩
theorem fd_X8_19 : FD 8 1 RX8 19 (.object "OpenOrTake$Changes") true := ⟨RX8, TX8, rfl, inX8, tyX8_ok, nmX8, by decide, wm_2_47, rfl, rfl⟩
theorem fd_X8_26 : FD 8 2 RX8 26 (.object "OpenOrTake$Tape") true := ⟨RX8, TX8, rfl, inX8, tyX8_ok, nmX8, by decide, wm_2_48, rfl, rfl⟩
theorem fd_X8_33 : FD 8 3 RX8 33 (.object "OpenOrTake$Evening") true := ⟨RX8, TX8, rfl, inX8, tyX8_ok, nmX8, by decide, wm_2_49, rfl, rfl⟩
theorem fd_X8_37 : FD 8 4 RX8 37 (.object "OpenOrTake$Evening") true := ⟨RX8, TX8, rfl, inX8, tyX8_ok, nmX8, by decide, wm_2_50, rfl, rfl⟩
theorem fd_X8_45 : FD 8 5 RX8 45 (.object "OpenOrTake$Thought") true := ⟨RX8, TX8, rfl, inX8, tyX8_ok, nmX8, by decide, wm_2_51, rfl, rfl⟩
theorem fd_X8_52 : FD 8 6 RX8 52 (.object "OpenOrTake$Bodies") true := ⟨RX8, TX8, rfl, inX8, tyX8_ok, nmX8, by decide, wm_2_52, rfl, rfl⟩
theorem fd_X8_59 : FD 8 7 RX8 59 (.object "OpenOrTake$Shelves") true := ⟨RX8, TX8, rfl, inX8, tyX8_ok, nmX8, by decide, wm_2_53, rfl, rfl⟩
theorem fd_X8_63 : FD 8 8 RX8 63 .int false := ⟨RX8, TX8, rfl, inX8, tyX8_ok, nmX8, by decide, wm_2_54, rfl, rfl⟩
theorem fd_X4_9 : FD 4 0 RX4 9 .int false := ⟨RX4, TX4, rfl, inX4, tyX4_ok, nmX4, by decide, wm_1_59, rfl, rfl⟩
theorem fd_X4_15 : FD 4 1 RX4 15 (.array .int) true := ⟨RX4, TX4, rfl, inX4, tyX4_ok, nmX4, by decide, wm_1_63, rfl, rfl⟩
theorem fd_X4_19 : FD 4 2 RX4 19 (.array .int) true := ⟨RX4, TX4, rfl, inX4, tyX4_ok, nmX4, by decide, wm_1_65, rfl, rfl⟩
theorem fd_X4_22 : FD 4 3 RX4 22 (.array .int) true := ⟨RX4, TX4, rfl, inX4, tyX4_ok, nmX4, by decide, wm_1_66, rfl, rfl⟩
theorem fd_X4_25 : FD 4 4 RX4 25 .int false := ⟨RX4, TX4, rfl, inX4, tyX4_ok, nmX4, by decide, wm_1_69, rfl, rfl⟩
theorem fd_X4_28 : FD 4 5 RX4 28 .int false := ⟨RX4, TX4, rfl, inX4, tyX4_ok, nmX4, by decide, wm_1_72, rfl, rfl⟩
theorem fd_X4_34 : FD 4 6 RX4 34 (.object "OpenOrTake$Law") false := ⟨RX4, TX4, rfl, inX4, tyX4_ok, nmX4, by decide, wm_1_75, rfl, rfl⟩
theorem fd_X3_11 : FD 3 0 RX3 11 (.array .char) true := ⟨RX3, TX3, rfl, inX3, tyX3_ok, nmX3, by decide, wm_1_35, rfl, rfl⟩
theorem fd_X3_15 : FD 3 1 RX3 15 (.array .int) true := ⟨RX3, TX3, rfl, inX3, tyX3_ok, nmX3, by decide, wm_1_36, rfl, rfl⟩
theorem fd_X3_19 : FD 3 2 RX3 19 .int false := ⟨RX3, TX3, rfl, inX3, tyX3_ok, nmX3, by decide, wm_1_37, rfl, rfl⟩
theorem fd_X3_23 : FD 3 3 RX3 23 .int false := ⟨RX3, TX3, rfl, inX3, tyX3_ok, nmX3, by decide, wm_1_38, rfl, rfl⟩
theorem fd_X3_26 : FD 3 4 RX3 26 (.array .int) true := ⟨RX3, TX3, rfl, inX3, tyX3_ok, nmX3, by decide, wm_1_39, rfl, rfl⟩
theorem fd_X3_29 : FD 3 5 RX3 29 (.array .int) true := ⟨RX3, TX3, rfl, inX3, tyX3_ok, nmX3, by decide, wm_1_40, rfl, rfl⟩
theorem fd_X1_9 : FD 1 0 RX1 9 (.array .int) true := ⟨RX1, TX1, rfl, inX1, tyX1_ok, nmX1, by decide, wm_1_99, rfl, rfl⟩
theorem fd_X1_13 : FD 1 1 RX1 13 (.array .int) true := ⟨RX1, TX1, rfl, inX1, tyX1_ok, nmX1, by decide, wm_1_100, rfl, rfl⟩
theorem fd_X1_16 : FD 1 2 RX1 16 (.array .int) true := ⟨RX1, TX1, rfl, inX1, tyX1_ok, nmX1, by decide, wm_1_101, rfl, rfl⟩
theorem fd_X1_19 : FD 1 3 RX1 19 (.array .int) true := ⟨RX1, TX1, rfl, inX1, tyX1_ok, nmX1, by decide, wm_1_102, rfl, rfl⟩
theorem fd_X1_22 : FD 1 4 RX1 22 .int false := ⟨RX1, TX1, rfl, inX1, tyX1_ok, nmX1, by decide, wm_1_103, rfl, rfl⟩
theorem fd_X1_26 : FD 1 5 RX1 26 .int false := ⟨RX1, TX1, rfl, inX1, tyX1_ok, nmX1, by decide, wm_1_105, rfl, rfl⟩
theorem fd_X6_9 : FD 6 0 RX6 9 (.array .char) true := ⟨RX6, TX6, rfl, inX6, tyX6_ok, nmX6, by decide, wm_1_128, rfl, rfl⟩
theorem fd_X6_15 : FD 6 1 RX6 15 .int false := ⟨RX6, TX6, rfl, inX6, tyX6_ok, nmX6, by decide, wm_1_129, rfl, rfl⟩
theorem fd_X6_19 : FD 6 2 RX6 19 .int false := ⟨RX6, TX6, rfl, inX6, tyX6_ok, nmX6, by decide, wm_1_131, rfl, rfl⟩
theorem fd_X6_22 : FD 6 3 RX6 22 .int false := ⟨RX6, TX6, rfl, inX6, tyX6_ok, nmX6, by decide, wm_1_132, rfl, rfl⟩
theorem fd_X6_28 : FD 6 4 RX6 28 (.object "OpenOrTake$Law") false := ⟨RX6, TX6, rfl, inX6, tyX6_ok, nmX6, by decide, wm_1_133, rfl, rfl⟩
theorem fd_X2_9 : FD 2 0 RX2 9 (.array .int) true := ⟨RX2, TX2, rfl, inX2, tyX2_ok, nmX2, by decide, wm_1_152, rfl, rfl⟩
theorem fd_X2_15 : FD 2 1 RX2 15 (.array .int) true := ⟨RX2, TX2, rfl, inX2, tyX2_ok, nmX2, by decide, wm_1_155, rfl, rfl⟩
theorem fd_X2_18 : FD 2 2 RX2 18 (.array .int) true := ⟨RX2, TX2, rfl, inX2, tyX2_ok, nmX2, by decide, wm_1_158, rfl, rfl⟩
theorem fd_X2_21 : FD 2 3 RX2 21 (.array .int) true := ⟨RX2, TX2, rfl, inX2, tyX2_ok, nmX2, by decide, wm_1_159, rfl, rfl⟩
theorem fd_X2_24 : FD 2 4 RX2 24 .int false := ⟨RX2, TX2, rfl, inX2, tyX2_ok, nmX2, by decide, wm_1_162, rfl, rfl⟩
theorem fd_X2_28 : FD 2 5 RX2 28 .int false := ⟨RX2, TX2, rfl, inX2, tyX2_ok, nmX2, by decide, wm_1_165, rfl, rfl⟩
theorem fd_X2_31 : FD 2 6 RX2 31 .int false := ⟨RX2, TX2, rfl, inX2, tyX2_ok, nmX2, by decide, wm_1_166, rfl, rfl⟩
theorem fd_X2_34 : FD 2 7 RX2 34 .boolean false := ⟨RX2, TX2, rfl, inX2, tyX2_ok, nmX2, by decide, wm_1_167, rfl, rfl⟩
theorem fd_X2_38 : FD 2 8 RX2 38 .int false := ⟨RX2, TX2, rfl, inX2, tyX2_ok, nmX2, by decide, wm_1_169, rfl, rfl⟩
theorem fd_X2_41 : FD 2 9 RX2 41 .int false := ⟨RX2, TX2, rfl, inX2, tyX2_ok, nmX2, by decide, wm_1_171, rfl, rfl⟩
theorem fd_X2_44 : FD 2 10 RX2 44 .int false := ⟨RX2, TX2, rfl, inX2, tyX2_ok, nmX2, by decide, wm_1_173, rfl, rfl⟩
theorem fd_X7_13 : FD 7 1 RX7 13 (.array (.object "OpenOrTake$Evening")) true := ⟨RX7, TX7, rfl, inX7, tyX7_ok, nmX7, by decide, wm_1_211, rfl, rfl⟩
theorem fd_X7_19 : FD 7 2 RX7 19 (.array (.array .int)) true := ⟨RX7, TX7, rfl, inX7, tyX7_ok, nmX7, by decide, wm_1_212, rfl, rfl⟩
theorem fd_X7_22 : FD 7 3 RX7 22 (.array .int) true := ⟨RX7, TX7, rfl, inX7, tyX7_ok, nmX7, by decide, wm_1_213, rfl, rfl⟩
theorem fd_X7_26 : FD 7 4 RX7 26 (.array .int) true := ⟨RX7, TX7, rfl, inX7, tyX7_ok, nmX7, by decide, wm_1_214, rfl, rfl⟩
theorem fd_X7_29 : FD 7 5 RX7 29 (.array .int) true := ⟨RX7, TX7, rfl, inX7, tyX7_ok, nmX7, by decide, wm_1_215, rfl, rfl⟩
theorem fd_X7_32 : FD 7 6 RX7 32 (.array .int) true := ⟨RX7, TX7, rfl, inX7, tyX7_ok, nmX7, by decide, wm_1_216, rfl, rfl⟩
theorem fd_X7_35 : FD 7 7 RX7 35 (.array .long) false := ⟨RX7, TX7, rfl, inX7, tyX7_ok, nmX7, by decide, wm_1_218, rfl, rfl⟩
theorem fd_X7_39 : FD 7 8 RX7 39 .int false := ⟨RX7, TX7, rfl, inX7, tyX7_ok, nmX7, by decide, wm_1_219, rfl, rfl⟩
theorem fd_X7_43 : FD 7 0 RX7 43 (.object "OpenOrTake$Party") true := ⟨RX7, TX7, rfl, inX7, tyX7_ok, nmX7, by decide, wm_1_210, rfl, rfl⟩
theorem fd_X0_11 : FD 0 0 RX0 11 (.array .int) true := ⟨RX0, TX0, rfl, inX0, tyX0_ok, nmX0, by decide, wm_2_5, rfl, rfl⟩
theorem fd_X0_15 : FD 0 1 RX0 15 .int false := ⟨RX0, TX0, rfl, inX0, tyX0_ok, nmX0, by decide, wm_2_6, rfl, rfl⟩
theorem fd_X0_19 : FD 0 2 RX0 19 (.array .int) true := ⟨RX0, TX0, rfl, inX0, tyX0_ok, nmX0, by decide, wm_2_8, rfl, rfl⟩
theorem fd_X0_22 : FD 0 3 RX0 22 .int false := ⟨RX0, TX0, rfl, inX0, tyX0_ok, nmX0, by decide, wm_2_9, rfl, rfl⟩
theorem fd_X0_25 : FD 0 4 RX0 25 .int false := ⟨RX0, TX0, rfl, inX0, tyX0_ok, nmX0, by decide, wm_2_11, rfl, rfl⟩
theorem fd_X5_11 : FD 5 0 RX5 11 (.array .int) true := ⟨RX5, TX5, rfl, inX5, tyX5_ok, nmX5, by decide, wm_2_32, rfl, rfl⟩
theorem fd_X5_15 : FD 5 1 RX5 15 (.array .int) true := ⟨RX5, TX5, rfl, inX5, tyX5_ok, nmX5, by decide, wm_2_34, rfl, rfl⟩
theorem fd_X5_20 : FD 5 2 RX5 20 (.array (.array .long)) true := ⟨RX5, TX5, rfl, inX5, tyX5_ok, nmX5, by decide, wm_2_36, rfl, rfl⟩
theorem fd_X9_7 : FD 9 2 RX9 7 (.array .int) true := ⟨RX9, TX9, rfl, inX9, tyX9_ok, nmX9, by decide, wm_4_188, rfl, rfl⟩
theorem fd_X9_13 : FD 9 3 RX9 13 (.array .int) true := ⟨RX9, TX9, rfl, inX9, tyX9_ok, nmX9, by decide, wm_4_189, rfl, rfl⟩
theorem fd_X9_16 : FD 9 4 RX9 16 (.array .int) true := ⟨RX9, TX9, rfl, inX9, tyX9_ok, nmX9, by decide, wm_4_190, rfl, rfl⟩
theorem fd_X9_19 : FD 9 5 RX9 19 .int false := ⟨RX9, TX9, rfl, inX9, tyX9_ok, nmX9, by decide, wm_4_191, rfl, rfl⟩
theorem fd_X9_23 : FD 9 7 RX9 23 (.array .int) true := ⟨RX9, TX9, rfl, inX9, tyX9_ok, nmX9, by decide, wm_4_193, rfl, rfl⟩
theorem fd_X9_26 : FD 9 8 RX9 26 (.array .int) true := ⟨RX9, TX9, rfl, inX9, tyX9_ok, nmX9, by decide, wm_4_194, rfl, rfl⟩
theorem fd_X9_29 : FD 9 9 RX9 29 (.array .int) true := ⟨RX9, TX9, rfl, inX9, tyX9_ok, nmX9, by decide, wm_4_195, rfl, rfl⟩
theorem fd_X9_32 : FD 9 10 RX9 32 (.array .int) true := ⟨RX9, TX9, rfl, inX9, tyX9_ok, nmX9, by decide, wm_4_196, rfl, rfl⟩
theorem fd_X9_35 : FD 9 11 RX9 35 (.array .int) true := ⟨RX9, TX9, rfl, inX9, tyX9_ok, nmX9, by decide, wm_4_197, rfl, rfl⟩
theorem fd_X9_38 : FD 9 12 RX9 38 (.array .int) true := ⟨RX9, TX9, rfl, inX9, tyX9_ok, nmX9, by decide, wm_4_198, rfl, rfl⟩
theorem fd_X9_41 : FD 9 13 RX9 41 (.array .int) true := ⟨RX9, TX9, rfl, inX9, tyX9_ok, nmX9, by decide, wm_4_199, rfl, rfl⟩
theorem fd_X9_44 : FD 9 14 RX9 44 (.array .int) true := ⟨RX9, TX9, rfl, inX9, tyX9_ok, nmX9, by decide, wm_4_200, rfl, rfl⟩
theorem fd_X9_47 : FD 9 17 RX9 47 .int false := ⟨RX9, TX9, rfl, inX9, tyX9_ok, nmX9, by decide, wm_4_203, rfl, rfl⟩
theorem fd_X9_50 : FD 9 22 RX9 50 (.array .int) true := ⟨RX9, TX9, rfl, inX9, tyX9_ok, nmX9, by decide, wm_4_208, rfl, rfl⟩
theorem fd_X9_53 : FD 9 23 RX9 53 (.array .int) true := ⟨RX9, TX9, rfl, inX9, tyX9_ok, nmX9, by decide, wm_4_209, rfl, rfl⟩
theorem fd_X9_56 : FD 9 24 RX9 56 (.array .int) true := ⟨RX9, TX9, rfl, inX9, tyX9_ok, nmX9, by decide, wm_4_210, rfl, rfl⟩
theorem fd_X9_59 : FD 9 25 RX9 59 (.array .int) true := ⟨RX9, TX9, rfl, inX9, tyX9_ok, nmX9, by decide, wm_4_211, rfl, rfl⟩
theorem fd_X9_62 : FD 9 26 RX9 62 (.array .byte) true := ⟨RX9, TX9, rfl, inX9, tyX9_ok, nmX9, by decide, wm_4_212, rfl, rfl⟩
theorem fd_X9_66 : FD 9 32 RX9 66 (.array .byte) true := ⟨RX9, TX9, rfl, inX9, tyX9_ok, nmX9, by decide, wm_4_218, rfl, rfl⟩
theorem fd_X9_69 : FD 9 33 RX9 69 (.array .int) true := ⟨RX9, TX9, rfl, inX9, tyX9_ok, nmX9, by decide, wm_4_219, rfl, rfl⟩
theorem fd_X9_72 : FD 9 34 RX9 72 (.array .int) true := ⟨RX9, TX9, rfl, inX9, tyX9_ok, nmX9, by decide, wm_4_220, rfl, rfl⟩
theorem fd_X9_75 : FD 9 35 RX9 75 (.array .short) true := ⟨RX9, TX9, rfl, inX9, tyX9_ok, nmX9, by decide, wm_4_221, rfl, rfl⟩
theorem fd_X9_79 : FD 9 36 RX9 79 (.array .short) true := ⟨RX9, TX9, rfl, inX9, tyX9_ok, nmX9, by decide, wm_4_222, rfl, rfl⟩
theorem fd_X9_82 : FD 9 37 RX9 82 (.array .int) true := ⟨RX9, TX9, rfl, inX9, tyX9_ok, nmX9, by decide, wm_4_223, rfl, rfl⟩
theorem fd_X9_85 : FD 9 38 RX9 85 (.array .int) true := ⟨RX9, TX9, rfl, inX9, tyX9_ok, nmX9, by decide, wm_4_224, rfl, rfl⟩
theorem fd_X9_88 : FD 9 40 RX9 88 (.array .int) true := ⟨RX9, TX9, rfl, inX9, tyX9_ok, nmX9, by decide, wm_4_226, rfl, rfl⟩
theorem fd_X9_91 : FD 9 41 RX9 91 (.array .int) true := ⟨RX9, TX9, rfl, inX9, tyX9_ok, nmX9, by decide, wm_4_227, rfl, rfl⟩
theorem fd_X9_94 : FD 9 42 RX9 94 (.array .int) true := ⟨RX9, TX9, rfl, inX9, tyX9_ok, nmX9, by decide, wm_4_228, rfl, rfl⟩
theorem fd_X9_97 : FD 9 43 RX9 97 (.array .int) true := ⟨RX9, TX9, rfl, inX9, tyX9_ok, nmX9, by decide, wm_4_229, rfl, rfl⟩
theorem fd_X9_100 : FD 9 44 RX9 100 (.array .int) true := ⟨RX9, TX9, rfl, inX9, tyX9_ok, nmX9, by decide, wm_4_230, rfl, rfl⟩
theorem fd_X9_103 : FD 9 45 RX9 103 (.array .int) true := ⟨RX9, TX9, rfl, inX9, tyX9_ok, nmX9, by decide, wm_4_231, rfl, rfl⟩
theorem fd_X9_106 : FD 9 46 RX9 106 (.array .int) true := ⟨RX9, TX9, rfl, inX9, tyX9_ok, nmX9, by decide, wm_4_232, rfl, rfl⟩
theorem fd_X9_109 : FD 9 48 RX9 109 (.array .int) true := ⟨RX9, TX9, rfl, inX9, tyX9_ok, nmX9, by decide, wm_4_234, rfl, rfl⟩
theorem fd_X9_112 : FD 9 49 RX9 112 (.array .int) true := ⟨RX9, TX9, rfl, inX9, tyX9_ok, nmX9, by decide, wm_4_235, rfl, rfl⟩
theorem fd_X9_115 : FD 9 50 RX9 115 (.array .int) true := ⟨RX9, TX9, rfl, inX9, tyX9_ok, nmX9, by decide, wm_4_236, rfl, rfl⟩
theorem fd_X9_118 : FD 9 51 RX9 118 .int false := ⟨RX9, TX9, rfl, inX9, tyX9_ok, nmX9, by decide, wm_4_237, rfl, rfl⟩
theorem fd_X9_121 : FD 9 52 RX9 121 (.array .int) true := ⟨RX9, TX9, rfl, inX9, tyX9_ok, nmX9, by decide, wm_4_238, rfl, rfl⟩
theorem fd_X9_124 : FD 9 53 RX9 124 (.array .int) true := ⟨RX9, TX9, rfl, inX9, tyX9_ok, nmX9, by decide, wm_4_239, rfl, rfl⟩
theorem fd_X9_127 : FD 9 54 RX9 127 (.array .int) true := ⟨RX9, TX9, rfl, inX9, tyX9_ok, nmX9, by decide, wm_5_0, rfl, rfl⟩
theorem fd_X9_130 : FD 9 55 RX9 130 (.array .int) true := ⟨RX9, TX9, rfl, inX9, tyX9_ok, nmX9, by decide, wm_5_1, rfl, rfl⟩
theorem fd_X9_133 : FD 9 57 RX9 133 (.array .int) true := ⟨RX9, TX9, rfl, inX9, tyX9_ok, nmX9, by decide, wm_5_3, rfl, rfl⟩
theorem fd_X9_136 : FD 9 59 RX9 136 (.array .int) true := ⟨RX9, TX9, rfl, inX9, tyX9_ok, nmX9, by decide, wm_5_5, rfl, rfl⟩
theorem fd_X9_139 : FD 9 60 RX9 139 (.array .int) true := ⟨RX9, TX9, rfl, inX9, tyX9_ok, nmX9, by decide, wm_5_6, rfl, rfl⟩
theorem fd_X9_142 : FD 9 61 RX9 142 (.array .int) true := ⟨RX9, TX9, rfl, inX9, tyX9_ok, nmX9, by decide, wm_5_7, rfl, rfl⟩
theorem fd_X9_145 : FD 9 62 RX9 145 (.array .long) true := ⟨RX9, TX9, rfl, inX9, tyX9_ok, nmX9, by decide, wm_5_8, rfl, rfl⟩
theorem fd_X9_149 : FD 9 63 RX9 149 (.array .long) true := ⟨RX9, TX9, rfl, inX9, tyX9_ok, nmX9, by decide, wm_5_9, rfl, rfl⟩
theorem fd_X8_71 : FD 4 0 RX8 71 .int false := ⟨RX4, TX4, rfl, inX4, tyX4_ok, nmX4, by decide, wm_1_61, rfl, rfl⟩
theorem fd_X8_323 : FD 4 3 RX8 323 (.array .int) true := ⟨RX4, TX4, rfl, inX4, tyX4_ok, nmX4, by decide, wm_1_68, rfl, rfl⟩
theorem fd_X8_110 : FD 2 0 RX8 110 (.array .int) true := ⟨RX2, TX2, rfl, inX2, tyX2_ok, nmX2, by decide, wm_1_153, rfl, rfl⟩
theorem fd_X9_166 : FD 9 15 RX9 166 .int false := ⟨RX9, TX9, rfl, inX9, tyX9_ok, nmX9, by decide, wm_4_201, rfl, rfl⟩
theorem fd_X9_155 : FD 9 1 RX9 155 .int false := ⟨RX9, TX9, rfl, inX9, tyX9_ok, nmX9, by decide, wm_4_187, rfl, rfl⟩
theorem fd_X8_226 : FD 5 2 RX8 226 (.array (.array .long)) true := ⟨RX5, TX5, rfl, inX5, tyX5_ok, nmX5, by decide, wm_2_37, rfl, rfl⟩
theorem fd_X9_184 : FD 9 21 RX9 184 .int false := ⟨RX9, TX9, rfl, inX9, tyX9_ok, nmX9, by decide, wm_4_207, rfl, rfl⟩
theorem fd_X9_187 : FD 9 20 RX9 187 .int false := ⟨RX9, TX9, rfl, inX9, tyX9_ok, nmX9, by decide, wm_4_206, rfl, rfl⟩
theorem fd_X9_177 : FD 9 6 RX9 177 .int false := ⟨RX9, TX9, rfl, inX9, tyX9_ok, nmX9, by decide, wm_4_192, rfl, rfl⟩
theorem fd_X8_114 : FD 2 1 RX8 114 (.array .int) true := ⟨RX2, TX2, rfl, inX2, tyX2_ok, nmX2, by decide, wm_1_157, rfl, rfl⟩
theorem fd_X8_117 : FD 2 3 RX8 117 (.array .int) true := ⟨RX2, TX2, rfl, inX2, tyX2_ok, nmX2, by decide, wm_1_160, rfl, rfl⟩
theorem fd_X8_120 : FD 2 4 RX8 120 .int false := ⟨RX2, TX2, rfl, inX2, tyX2_ok, nmX2, by decide, wm_1_164, rfl, rfl⟩
theorem fd_X8_133 : FD 6 1 RX8 133 .int false := ⟨RX6, TX6, rfl, inX6, tyX6_ok, nmX6, by decide, wm_1_130, rfl, rfl⟩
theorem fd_X9_217 : FD 9 27 RX9 217 .int false := ⟨RX9, TX9, rfl, inX9, tyX9_ok, nmX9, by decide, wm_4_213, rfl, rfl⟩
theorem fd_X8_140 : FD 4 6 RX8 140 (.object "OpenOrTake$Law") false := ⟨RX4, TX4, rfl, inX4, tyX4_ok, nmX4, by decide, wm_1_76, rfl, rfl⟩
theorem fd_X9_282 : FD 9 39 RX9 282 .boolean false := ⟨RX9, TX9, rfl, inX9, tyX9_ok, nmX9, by decide, wm_4_225, rfl, rfl⟩
theorem fd_X9_220 : FD 9 28 RX9 220 .int false := ⟨RX9, TX9, rfl, inX9, tyX9_ok, nmX9, by decide, wm_4_214, rfl, rfl⟩
theorem fd_X9_223 : FD 9 29 RX9 223 .int false := ⟨RX9, TX9, rfl, inX9, tyX9_ok, nmX9, by decide, wm_4_215, rfl, rfl⟩
theorem fd_X9_229 : FD 9 30 RX9 229 .int false := ⟨RX9, TX9, rfl, inX9, tyX9_ok, nmX9, by decide, wm_4_216, rfl, rfl⟩
theorem fd_X9_226 : FD 9 31 RX9 226 .int false := ⟨RX9, TX9, rfl, inX9, tyX9_ok, nmX9, by decide, wm_4_217, rfl, rfl⟩
theorem fd_X2_57 : FD 4 0 RX2 57 .int false := ⟨RX4, TX4, rfl, inX4, tyX4_ok, nmX4, by decide, wm_1_62, rfl, rfl⟩
theorem fd_X9_314 : FD 9 18 RX9 314 .int false := ⟨RX9, TX9, rfl, inX9, tyX9_ok, nmX9, by decide, wm_4_204, rfl, rfl⟩
theorem fd_X9_317 : FD 9 19 RX9 317 .int false := ⟨RX9, TX9, rfl, inX9, tyX9_ok, nmX9, by decide, wm_4_205, rfl, rfl⟩
theorem fd_X2_71 : FD 4 4 RX2 71 .int false := ⟨RX4, TX4, rfl, inX4, tyX4_ok, nmX4, by decide, wm_1_70, rfl, rfl⟩
theorem fd_X2_86 : FD 4 3 RX2 86 (.array .int) true := ⟨RX4, TX4, rfl, inX4, tyX4_ok, nmX4, by decide, wm_1_67, rfl, rfl⟩
theorem fd_X2_119 : FD 4 6 RX2 119 (.object "OpenOrTake$Law") false := ⟨RX4, TX4, rfl, inX4, tyX4_ok, nmX4, by decide, wm_1_77, rfl, rfl⟩
theorem fd_X8_166 : FD 4 5 RX8 166 .int false := ⟨RX4, TX4, rfl, inX4, tyX4_ok, nmX4, by decide, wm_1_73, rfl, rfl⟩
theorem fd_X8_169 : FD 2 7 RX8 169 .boolean false := ⟨RX2, TX2, rfl, inX2, tyX2_ok, nmX2, by decide, wm_1_168, rfl, rfl⟩
theorem fd_X9_326 : FD 9 16 RX9 326 .int false := ⟨RX9, TX9, rfl, inX9, tyX9_ok, nmX9, by decide, wm_4_202, rfl, rfl⟩
theorem fd_X8_183 : FD 2 10 RX8 183 .int false := ⟨RX2, TX2, rfl, inX2, tyX2_ok, nmX2, by decide, wm_1_175, rfl, rfl⟩
theorem fd_X8_186 : FD 2 8 RX8 186 .int false := ⟨RX2, TX2, rfl, inX2, tyX2_ok, nmX2, by decide, wm_1_170, rfl, rfl⟩
theorem fd_X8_189 : FD 2 9 RX8 189 .int false := ⟨RX2, TX2, rfl, inX2, tyX2_ok, nmX2, by decide, wm_1_172, rfl, rfl⟩
theorem fd_X7_52 : FD 4 0 RX7 52 .int false := ⟨RX4, TX4, rfl, inX4, tyX4_ok, nmX4, by decide, wm_1_60, rfl, rfl⟩
theorem fd_X2_129 : FD 4 5 RX2 129 .int false := ⟨RX4, TX4, rfl, inX4, tyX4_ok, nmX4, by decide, wm_1_74, rfl, rfl⟩
theorem fd_X8_199 : FD 4 4 RX8 199 .int false := ⟨RX4, TX4, rfl, inX4, tyX4_ok, nmX4, by decide, wm_1_71, rfl, rfl⟩
theorem fd_X7_73 : FD 2 1 RX7 73 (.array .int) true := ⟨RX2, TX2, rfl, inX2, tyX2_ok, nmX2, by decide, wm_1_156, rfl, rfl⟩
theorem fd_X7_82 : FD 2 10 RX7 82 .int false := ⟨RX2, TX2, rfl, inX2, tyX2_ok, nmX2, by decide, wm_1_174, rfl, rfl⟩
theorem fd_X7_96 : FD 2 4 RX7 96 .int false := ⟨RX2, TX2, rfl, inX2, tyX2_ok, nmX2, by decide, wm_1_163, rfl, rfl⟩
theorem fd_X9_352 : FD 9 47 RX9 352 .int false := ⟨RX9, TX9, rfl, inX9, tyX9_ok, nmX9, by decide, wm_4_233, rfl, rfl⟩
theorem fd_X7_141 : FD 4 1 RX7 141 (.array .int) true := ⟨RX4, TX4, rfl, inX4, tyX4_ok, nmX4, by decide, wm_1_64, rfl, rfl⟩
theorem fd_X7_148 : FD 2 3 RX7 148 (.array .int) true := ⟨RX2, TX2, rfl, inX2, tyX2_ok, nmX2, by decide, wm_1_161, rfl, rfl⟩
theorem fd_X8_223 : FD 7 6 RX8 223 (.array .int) true := ⟨RX7, TX7, rfl, inX7, tyX7_ok, nmX7, by decide, wm_1_217, rfl, rfl⟩
theorem fd_X8_230 : FD 5 1 RX8 230 (.array .int) true := ⟨RX5, TX5, rfl, inX5, tyX5_ok, nmX5, by decide, wm_2_35, rfl, rfl⟩
theorem fd_X7_171 : FD 2 0 RX7 171 (.array .int) true := ⟨RX2, TX2, rfl, inX2, tyX2_ok, nmX2, by decide, wm_1_154, rfl, rfl⟩
theorem fd_X8_247 : FD 1 4 RX8 247 .int false := ⟨RX1, TX1, rfl, inX1, tyX1_ok, nmX1, by decide, wm_1_104, rfl, rfl⟩
theorem fd_X8_253 : FD 1 5 RX8 253 .int false := ⟨RX1, TX1, rfl, inX1, tyX1_ok, nmX1, by decide, wm_1_106, rfl, rfl⟩
theorem fd_X9_374 : FD 9 56 RX9 374 .int false := ⟨RX9, TX9, rfl, inX9, tyX9_ok, nmX9, by decide, wm_5_2, rfl, rfl⟩
theorem fd_X9_377 : FD 9 58 RX9 377 .int false := ⟨RX9, TX9, rfl, inX9, tyX9_ok, nmX9, by decide, wm_5_4, rfl, rfl⟩
theorem fd_X8_281 : FD 5 0 RX8 281 (.array .int) true := ⟨RX5, TX5, rfl, inX5, tyX5_ok, nmX5, by decide, wm_2_33, rfl, rfl⟩
theorem fd_X8_317 : FD 0 1 RX8 317 .int false := ⟨RX0, TX0, rfl, inX0, tyX0_ok, nmX0, by decide, wm_2_7, rfl, rfl⟩
theorem fd_X8_320 : FD 0 3 RX8 320 .int false := ⟨RX0, TX0, rfl, inX0, tyX0_ok, nmX0, by decide, wm_2_10, rfl, rfl⟩
theorem mw_X0_init : MW yX0_init cX0_init 1 (none) 0 := ⟨wm_2_3, wm_1_9, by decide +kernel, by decide +kernel, by decide +kernel⟩
theorem mw_X0_add : MW yX0_add cX0_add 2 ((some .int)) 1 := ⟨wm_4_73, wm_1_9, by decide +kernel, by decide +kernel, by decide +kernel⟩
theorem mw_X0_isThere : MW yX0_isThere cX0_isThere 2 ((some .boolean)) 1 := ⟨wm_4_85, wm_1_9, by decide +kernel, by decide +kernel, by decide +kernel⟩
theorem mw_X0_kindOf : MW yX0_kindOf cX0_kindOf 2 ((some .int)) 1 := ⟨wm_4_93, wm_1_9, by decide +kernel, by decide +kernel, by decide +kernel⟩
theorem mw_X0_isUnder : MW yX0_isUnder cX0_isUnder 4 ((some .boolean)) 2 := ⟨wm_4_172, wm_1_9, by decide +kernel, by decide +kernel, by decide +kernel⟩
theorem mw_X0_traced : MW yX0_traced cX0_traced 2 ((some .int)) 1 := ⟨wm_4_121, wm_1_9, by decide +kernel, by decide +kernel, by decide +kernel⟩
theorem mw_X0_perform : MW yX0_perform cX0_perform 4 ((some .int)) 3 := ⟨wm_4_81, wm_1_9, by decide +kernel, by decide +kernel, by decide +kernel⟩
theorem mw_X0_own : MW yX0_own cX0_own 4 ((some .int)) 3 := ⟨wm_4_89, wm_1_9, by decide +kernel, by decide +kernel, by decide +kernel⟩
theorem mw_X0_above : MW yX0_above cX0_above 5 ((some .int)) 4 := ⟨wm_4_111, wm_1_9, by decide +kernel, by decide +kernel, by decide +kernel⟩
theorem mw_X0_from : MW yX0_from cX0_from 7 ((some .int)) 4 := ⟨wm_4_97, wm_1_9, by decide +kernel, by decide +kernel, by decide +kernel⟩
theorem mw_X0_note : MW yX0_note cX0_note 2 (none) 1 := ⟨wm_4_107, wm_1_9, by decide +kernel, by decide +kernel, by decide +kernel⟩
theorem mw_X0_run : MW yX0_run cX0_run 4 ((some .int)) 3 := ⟨wm_4_103, wm_1_9, by decide +kernel, by decide +kernel, by decide +kernel⟩
theorem mw_X1_init : MW yX1_init cX1_init 1 (none) 0 := ⟨wm_1_97, wm_1_5, by decide +kernel, by decide +kernel, by decide +kernel⟩
theorem mw_X1_note : MW yX1_note cX1_note 5 (none) 4 := ⟨wm_2_142, wm_1_5, by decide +kernel, by decide +kernel, by decide +kernel⟩
theorem mw_X1_forgetOldest : MW yX1_forgetOldest cX1_forgetOldest 1 (none) 0 := ⟨wm_2_146, wm_1_5, by decide +kernel, by decide +kernel, by decide +kernel⟩
theorem mw_X1_stepBack : MW yX1_stepBack cX1_stepBack 2 (none) 1 := ⟨wm_4_56, wm_1_5, by decide +kernel, by decide +kernel, by decide +kernel⟩
theorem mw_X1_stepOn : MW yX1_stepOn cX1_stepOn 2 (none) 1 := ⟨wm_4_65, wm_1_5, by decide +kernel, by decide +kernel, by decide +kernel⟩
theorem mw_X2_init : MW yX2_init cX2_init 1 (none) 0 := ⟨wm_1_149, wm_1_7, by decide +kernel, by decide +kernel, by decide +kernel⟩
theorem mw_X2_hasBegun : MW yX2_hasBegun cX2_hasBegun 1 ((some .boolean)) 0 := ⟨wm_2_81, wm_1_7, by decide +kernel, by decide +kernel, by decide +kernel⟩
theorem mw_X2_hasEnded : MW yX2_hasEnded cX2_hasEnded 2 ((some .boolean)) 1 := ⟨wm_3_108, wm_1_7, by decide +kernel, by decide +kernel, by decide +kernel⟩
theorem mw_X2_wrapAll : MW yX2_wrapAll cX2_wrapAll 1 (none) 0 := ⟨wm_3_125, wm_1_7, by decide +kernel, by decide +kernel, by decide +kernel⟩
theorem mw_X2_become : MW yX2_become cX2_become 2 (none) 1 := ⟨wm_3_172, wm_1_7, by decide +kernel, by decide +kernel, by decide +kernel⟩
theorem mw_X2_beginBy : MW yX2_beginBy cX2_beginBy 2 (none) 1 := ⟨wm_3_141, wm_1_7, by decide +kernel, by decide +kernel, by decide +kernel⟩
theorem mw_X2_changePlaces : MW yX2_changePlaces cX2_changePlaces 4 (none) 2 := ⟨wm_2_167, wm_1_7, by decide +kernel, by decide +kernel, by decide +kernel⟩
theorem mw_X2_whoseTurn : MW yX2_whoseTurn cX2_whoseTurn 2 ((some .int)) 1 := ⟨wm_3_26, wm_1_7, by decide +kernel, by decide +kernel, by decide +kernel⟩
theorem mw_X2_isSafe : MW yX2_isSafe cX2_isSafe 3 ((some .boolean)) 2 := ⟨wm_3_50, wm_1_7, by decide +kernel, by decide +kernel, by decide +kernel⟩
theorem mw_X2_countSafe : MW yX2_countSafe cX2_countSafe 4 ((some .int)) 1 := ⟨wm_4_180, wm_1_7, by decide +kernel, by decide +kernel, by decide +kernel⟩
theorem mw_X2_mayRob : MW yX2_mayRob cX2_mayRob 3 ((some .boolean)) 2 := ⟨wm_3_46, wm_1_7, by decide +kernel, by decide +kernel, by decide +kernel⟩
theorem mw_X2_unwrap : MW yX2_unwrap cX2_unwrap 3 ((some .int)) 1 := ⟨wm_3_34, wm_1_7, by decide +kernel, by decide +kernel, by decide +kernel⟩
theorem mw_X2_rob : MW yX2_rob cX2_rob 4 ((some .int)) 2 := ⟨wm_3_54, wm_1_7, by decide +kernel, by decide +kernel, by decide +kernel⟩
theorem mw_X2_give : MW yX2_give cX2_give 3 (none) 2 := ⟨wm_3_38, wm_1_7, by decide +kernel, by decide +kernel, by decide +kernel⟩
theorem mw_X2_playTill : MW yX2_playTill cX2_playTill 7 ((some .int)) 2 := ⟨wm_3_62, wm_1_7, by decide +kernel, by decide +kernel, by decide +kernel⟩
theorem mw_X2_guess : MW yX2_guess cX2_guess 6 ((some .int)) 2 := ⟨wm_3_71, wm_1_7, by decide +kernel, by decide +kernel, by decide +kernel⟩
theorem mw_X2_ofMostWorth : MW yX2_ofMostWorth cX2_ofMostWorth 6 ((some .int)) 2 := ⟨wm_3_98, wm_1_7, by decide +kernel, by decide +kernel, by decide +kernel⟩
theorem mw_X2_fromWhomItLikesLeast : MW yX2_fromWhomItLikesLeast cX2_fromWhomItLikesLeast 8 ((some .int)) 2 := ⟨wm_3_94, wm_1_7, by decide +kernel, by decide +kernel, by decide +kernel⟩
theorem mw_X2_byTheLaw : MW yX2_byTheLaw cX2_byTheLaw 9 ((some .int)) 2 := ⟨wm_3_67, wm_1_7, by decide +kernel, by decide +kernel, by decide +kernel⟩
theorem mw_X2_closeByLaw : MW yX2_closeByLaw cX2_closeByLaw 2 (none) 1 := ⟨wm_3_148, wm_1_7, by decide +kernel, by decide +kernel, by decide +kernel⟩
theorem mw_X2_chooseOnceMore : MW yX2_chooseOnceMore cX2_chooseOnceMore 7 (none) 1 := ⟨wm_3_113, wm_1_7, by decide +kernel, by decide +kernel, by decide +kernel⟩
theorem mw_X2_exchange : MW yX2_exchange cX2_exchange 5 (none) 3 := ⟨wm_3_117, wm_1_7, by decide +kernel, by decide +kernel, by decide +kernel⟩
theorem mw_X2_worths : MW yX2_worths cX2_worths 4 ((some .int)) 1 := ⟨wm_3_154, wm_1_7, by decide +kernel, by decide +kernel, by decide +kernel⟩
theorem mw_X3_init : MW yX3_init cX3_init 1 (none) 0 := ⟨wm_1_33, wm_1_3, by decide +kernel, by decide +kernel, by decide +kernel⟩
theorem mw_X3_clear : MW yX3_clear cX3_clear 1 (none) 0 := ⟨wm_2_187, wm_1_3, by decide +kernel, by decide +kernel, by decide +kernel⟩
theorem mw_X3_write : MW yX3_write cX3_write 3 (none) 2 := ⟨wm_2_230, wm_1_3, by decide +kernel, by decide +kernel, by decide +kernel⟩
theorem mw_X3_writeIf : MW yX3_writeIf cX3_writeIf 1 (none) 0 := ⟨wm_3_9, wm_1_3, by decide +kernel, by decide +kernel, by decide +kernel⟩
theorem mw_X3_writeEndOfLine : MW yX3_writeEndOfLine cX3_writeEndOfLine 1 (none) 0 := ⟨wm_3_14, wm_1_3, by decide +kernel, by decide +kernel, by decide +kernel⟩
theorem mw_X3_nameOf : MW yX3_nameOf cX3_nameOf 1 ((some .int)) 1 := ⟨wm_2_233, wm_1_3, by decide +kernel, by decide +kernel, by decide +kernel⟩
theorem mw_X3_number : MW yX3_number cX3_number 10 ((some .int)) 6 := ⟨wm_3_79, wm_1_3, by decide +kernel, by decide +kernel, by decide +kernel⟩
theorem mw_X3_joined : MW yX3_joined cX3_joined 3 ((some .int)) 3 := ⟨wm_3_85, wm_1_3, by decide +kernel, by decide +kernel, by decide +kernel⟩
theorem mw_X4_init : MW yX4_init cX4_init 1 (none) 0 := ⟨wm_1_27, wm_1_2, by decide +kernel, by decide +kernel, by decide +kernel⟩
theorem mw_X4_isOne : MW yX4_isOne cX4_isOne 2 ((some .boolean)) 1 := ⟨wm_2_130, wm_1_2, by decide +kernel, by decide +kernel, by decide +kernel⟩
theorem mw_X4_isPair : MW yX4_isPair cX4_isPair 2 ((some .boolean)) 1 := ⟨wm_2_126, wm_1_2, by decide +kernel, by decide +kernel, by decide +kernel⟩
theorem mw_X4_worthFor : MW yX4_worthFor cX4_worthFor 4 ((some .int)) 2 := ⟨wm_3_75, wm_1_2, by decide +kernel, by decide +kernel, by decide +kernel⟩
theorem mw_X4_likeFor : MW yX4_likeFor cX4_likeFor 4 ((some .int)) 2 := ⟨wm_3_90, wm_1_2, by decide +kernel, by decide +kernel, by decide +kernel⟩
theorem mw_X4_knows : MW yX4_knows cX4_knows 3 ((some .boolean)) 2 := ⟨wm_2_122, wm_1_2, by decide +kernel, by decide +kernel, by decide +kernel⟩
theorem mw_X4_allows : MW yX4_allows cX4_allows 2 ((some .boolean)) 2 := ⟨wm_2_133, wm_1_2, by decide +kernel, by decide +kernel, by decide +kernel⟩
theorem mw_X4_value : MW yX4_value cX4_value 3 ((some .int)) 2 := ⟨wm_2_137, wm_1_2, by decide +kernel, by decide +kernel, by decide +kernel⟩
theorem mw_X4_become : MW yX4_become cX4_become 4 (none) 3 := ⟨wm_2_153, wm_1_2, by decide +kernel, by decide +kernel, by decide +kernel⟩
theorem mw_X5_init : MW yX5_init cX5_init 1 (none) 0 := ⟨wm_2_27, wm_1_10, by decide +kernel, by decide +kernel, by decide +kernel⟩
theorem mw_X5_isShelf : MW yX5_isShelf cX5_isShelf 2 ((some .boolean)) 1 := ⟨wm_2_93, wm_1_10, by decide +kernel, by decide +kernel, by decide +kernel⟩
theorem mw_X5_isEmpty : MW yX5_isEmpty cX5_isEmpty 2 ((some .boolean)) 1 := ⟨wm_2_102, wm_1_10, by decide +kernel, by decide +kernel, by decide +kernel⟩
theorem mw_X5_isRow : MW yX5_isRow cX5_isRow 2 ((some .boolean)) 1 := ⟨wm_2_114, wm_1_10, by decide +kernel, by decide +kernel, by decide +kernel⟩
theorem mw_X5_holdBody : MW yX5_holdBody cX5_holdBody 3 (none) 2 := ⟨wm_4_130, wm_1_10, by decide +kernel, by decide +kernel, by decide +kernel⟩
theorem mw_X5_holdRow : MW yX5_holdRow cX5_holdRow 4 (none) 3 := ⟨wm_4_138, wm_1_10, by decide +kernel, by decide +kernel, by decide +kernel⟩
theorem mw_X5_refusalOfBytes : MW yX5_refusalOfBytes cX5_refusalOfBytes 2 ((some .int)) 1 := ⟨wm_2_97, wm_1_10, by decide +kernel, by decide +kernel, by decide +kernel⟩
theorem mw_X5_refusalOfElement : MW yX5_refusalOfElement cX5_refusalOfElement 3 ((some .int)) 2 := ⟨wm_2_110, wm_1_10, by decide +kernel, by decide +kernel, by decide +kernel⟩
theorem mw_X5_reaches : MW yX5_reaches cX5_reaches 4 ((some .boolean)) 3 := ⟨wm_4_163, wm_1_10, by decide +kernel, by decide +kernel, by decide +kernel⟩
theorem mw_X5_lowestBits : MW yX5_lowestBits cX5_lowestBits 3 ((some .long)) 2 := ⟨wm_4_148, wm_1_10, by decide +kernel, by decide +kernel, by decide +kernel⟩
theorem mw_X6_init : MW yX6_init cX6_init 1 (none) 0 := ⟨wm_1_124, wm_1_6, by decide +kernel, by decide +kernel, by decide +kernel⟩
theorem mw_X6_append : MW yX6_append cX6_append 2 ((some .boolean)) 1 := ⟨wm_2_175, wm_1_6, by decide +kernel, by decide +kernel, by decide +kernel⟩
theorem mw_X6_read : MW yX6_read cX6_read 2 ((some .int)) 0 := ⟨wm_2_183, wm_1_6, by decide +kernel, by decide +kernel, by decide +kernel⟩
theorem mw_X6_draftFor : MW yX6_draftFor cX6_draftFor 3 ((some (.object "OpenOrTake$Law"))) 1 := ⟨wm_3_18, wm_1_6, by decide +kernel, by decide +kernel, by decide +kernel⟩
theorem mw_X6_ahead : MW yX6_ahead cX6_ahead 1 ((some .int)) 0 := ⟨wm_2_219, wm_1_6, by decide +kernel, by decide +kernel, by decide +kernel⟩
theorem mw_X6_comes : MW yX6_comes cX6_comes 3 ((some .boolean)) 1 := ⟨wm_3_5, wm_1_6, by decide +kernel, by decide +kernel, by decide +kernel⟩
theorem mw_X6_fail : MW yX6_fail cX6_fail 1 (none) 0 := ⟨wm_2_237, wm_1_6, by decide +kernel, by decide +kernel, by decide +kernel⟩
theorem mw_X6_write : MW yX6_write cX6_write 2 (none) 1 := ⟨wm_3_1, wm_1_6, by decide +kernel, by decide +kernel, by decide +kernel⟩
theorem mw_X6_line : MW yX6_line cX6_line 1 (none) 0 := ⟨wm_2_191, wm_1_6, by decide +kernel, by decide +kernel, by decide +kernel⟩
theorem mw_X6_either : MW yX6_either cX6_either 3 (none) 1 := ⟨wm_2_195, wm_1_6, by decide +kernel, by decide +kernel, by decide +kernel⟩
theorem mw_X6_both : MW yX6_both cX6_both 3 (none) 1 := ⟨wm_2_199, wm_1_6, by decide +kernel, by decide +kernel, by decide +kernel⟩
theorem mw_X6_compared : MW yX6_compared cX6_compared 3 (none) 1 := ⟨wm_2_203, wm_1_6, by decide +kernel, by decide +kernel, by decide +kernel⟩
theorem mw_X6_sum : MW yX6_sum cX6_sum 4 (none) 1 := ⟨wm_2_207, wm_1_6, by decide +kernel, by decide +kernel, by decide +kernel⟩
theorem mw_X6_product : MW yX6_product cX6_product 4 (none) 1 := ⟨wm_2_211, wm_1_6, by decide +kernel, by decide +kernel, by decide +kernel⟩
theorem mw_X6_operand : MW yX6_operand cX6_operand 3 (none) 1 := ⟨wm_2_215, wm_1_6, by decide +kernel, by decide +kernel, by decide +kernel⟩
theorem mw_X6_number : MW yX6_number cX6_number 3 (none) 0 := ⟨wm_2_226, wm_1_6, by decide +kernel, by decide +kernel, by decide +kernel⟩
theorem mw_X6_isDigit : MW yX6_isDigit cX6_isDigit 1 ((some .boolean)) 1 := ⟨wm_2_222, wm_1_6, by decide +kernel, by decide +kernel, by decide +kernel⟩
theorem mw_X7_init : MW yX7_init cX7_init 3 (none) 1 := ⟨wm_1_203, wm_1_8, by decide +kernel, by decide +kernel, by decide +kernel⟩
theorem mw_X7_eveningBy : MW yX7_eveningBy cX7_eveningBy 3 ((some (.object "OpenOrTake$Evening"))) 1 := ⟨wm_3_137, wm_1_8, by decide +kernel, by decide +kernel, by decide +kernel⟩
theorem mw_X7_eachForItself : MW yX7_eachForItself cX7_eachForItself 3 ((some .int)) 2 := ⟨wm_3_162, wm_1_8, by decide +kernel, by decide +kernel, by decide +kernel⟩
theorem mw_X7_lookAhead : MW yX7_lookAhead cX7_lookAhead 6 (none) 1 := ⟨wm_3_166, wm_1_8, by decide +kernel, by decide +kernel, by decide +kernel⟩
theorem mw_X7_worthAtEnd : MW yX7_worthAtEnd cX7_worthAtEnd 3 ((some .int)) 2 := ⟨wm_3_183, wm_1_8, by decide +kernel, by decide +kernel, by decide +kernel⟩
theorem mw_X7_comeTo : MW yX7_comeTo cX7_comeTo 2 (none) 1 := ⟨wm_3_177, wm_1_8, by decide +kernel, by decide +kernel, by decide +kernel⟩
theorem mw_X7_bestParting : MW yX7_bestParting cX7_bestParting 5 ((some .int)) 1 := ⟨wm_3_192, wm_1_8, by decide +kernel, by decide +kernel, by decide +kernel⟩
theorem mw_X7_fillMostBehind : MW yX7_fillMostBehind cX7_fillMostBehind 6 (none) 0 := ⟨wm_3_196, wm_1_8, by decide +kernel, by decide +kernel, by decide +kernel⟩
theorem mw_X7_worthWithAllBehind : MW yX7_worthWithAllBehind cX7_worthWithAllBehind 4 ((some .int)) 3 := ⟨wm_3_206, wm_1_8, by decide +kernel, by decide +kernel, by decide +kernel⟩
theorem mw_X7_firstBest : MW yX7_firstBest cX7_firstBest 4 ((some .int)) 2 := ⟨wm_3_211, wm_1_8, by decide +kernel, by decide +kernel, by decide +kernel⟩
theorem mw_X7_pairsWhoWouldChange : MW yX7_pairsWhoWouldChange cX7_pairsWhoWouldChange 6 ((some .int)) 1 := ⟨wm_3_219, wm_1_8, by decide +kernel, by decide +kernel, by decide +kernel⟩
theorem mw_X7_envies : MW yX7_envies cX7_envies 4 ((some .boolean)) 3 := ⟨wm_3_224, wm_1_8, by decide +kernel, by decide +kernel, by decide +kernel⟩
theorem mw_X7_leastFace : MW yX7_leastFace cX7_leastFace 5 ((some .int)) 2 := ⟨wm_3_232, wm_1_8, by decide +kernel, by decide +kernel, by decide +kernel⟩
theorem mw_X7_lessen : MW yX7_lessen cX7_lessen 4 (none) 2 := ⟨wm_3_236, wm_1_8, by decide +kernel, by decide +kernel, by decide +kernel⟩
theorem mw_X7_drawNumbers : MW yX7_drawNumbers cX7_drawNumbers 9 (none) 3 := ⟨wm_4_4, wm_1_8, by decide +kernel, by decide +kernel, by decide +kernel⟩
theorem mw_X7_unlike : MW yX7_unlike cX7_unlike 4 ((some .int)) 0 := ⟨wm_4_10, wm_1_8, by decide +kernel, by decide +kernel, by decide +kernel⟩
theorem mw_X7_hear : MW yX7_hear cX7_hear 3 (none) 2 := ⟨wm_4_21, wm_1_8, by decide +kernel, by decide +kernel, by decide +kernel⟩
theorem mw_X7_firstUnlikeTold : MW yX7_firstUnlikeTold cX7_firstUnlikeTold 3 ((some .int)) 1 := ⟨wm_4_25, wm_1_8, by decide +kernel, by decide +kernel, by decide +kernel⟩
theorem mw_X7_lotsAsTold : MW yX7_lotsAsTold cX7_lotsAsTold 1 ((some .int)) 0 := ⟨wm_4_33, wm_1_8, by decide +kernel, by decide +kernel, by decide +kernel⟩
theorem mw_X7_lotsBehind : MW yX7_lotsBehind cX7_lotsBehind 7 ((some .int)) 2 := ⟨wm_4_38, wm_1_8, by decide +kernel, by decide +kernel, by decide +kernel⟩
theorem mw_X8_init : MW yX8_init cX8_init 1 (none) 0 := ⟨wm_1_19, wm_1_1, by decide +kernel, by decide +kernel, by decide +kernel⟩
theorem mw_X8_person : MW yX8_person cX8_person 2 ((some .int)) 1 := ⟨wm_2_77, wm_1_1, by decide +kernel, by decide +kernel, by decide +kernel⟩
theorem mw_X8_people : MW yX8_people cX8_people 6 ((some .int)) 3 := ⟨wm_2_89, wm_1_1, by decide +kernel, by decide +kernel, by decide +kernel⟩
theorem mw_X8_mend : MW yX8_mend cX8_mend 5 ((some .int)) 3 := ⟨wm_2_118, wm_1_1, by decide +kernel, by decide +kernel, by decide +kernel⟩
theorem mw_X8_of : MW yX8_of cX8_of 3 ((some .int)) 2 := ⟨wm_2_157, wm_1_1, by decide +kernel, by decide +kernel, by decide +kernel⟩
theorem mw_X8_swap : MW yX8_swap cX8_swap 2 ((some .int)) 1 := ⟨wm_2_162, wm_1_1, by decide +kernel, by decide +kernel, by decide +kernel⟩
theorem mw_X8_feed : MW yX8_feed cX8_feed 2 ((some .int)) 1 := ⟨wm_2_171, wm_1_1, by decide +kernel, by decide +kernel, by decide +kernel⟩
theorem mw_X8_law : MW yX8_law cX8_law 2 ((some .int)) 0 := ⟨wm_2_179, wm_1_1, by decide +kernel, by decide +kernel, by decide +kernel⟩
theorem mw_X8_turn : MW yX8_turn cX8_turn 1 ((some .int)) 0 := ⟨wm_3_22, wm_1_1, by decide +kernel, by decide +kernel, by decide +kernel⟩
theorem mw_X8_open : MW yX8_open cX8_open 2 ((some .int)) 0 := ⟨wm_3_30, wm_1_1, by decide +kernel, by decide +kernel, by decide +kernel⟩
theorem mw_X8_take : MW yX8_take cX8_take 3 ((some .int)) 1 := ⟨wm_3_42, wm_1_1, by decide +kernel, by decide +kernel, by decide +kernel⟩
theorem mw_X8_goOn : MW yX8_goOn cX8_goOn 1 ((some .int)) 0 := ⟨wm_3_58, wm_1_1, by decide +kernel, by decide +kernel, by decide +kernel⟩
theorem mw_X8_again : MW yX8_again cX8_again 1 ((some .int)) 0 := ⟨wm_3_104, wm_1_1, by decide +kernel, by decide +kernel, by decide +kernel⟩
theorem mw_X8_anew : MW yX8_anew cX8_anew 1 ((some .int)) 0 := ⟨wm_3_121, wm_1_1, by decide +kernel, by decide +kernel, by decide +kernel⟩
theorem mw_X8_led : MW yX8_led cX8_led 2 ((some .int)) 1 := ⟨wm_3_129, wm_1_1, by decide +kernel, by decide +kernel, by decide +kernel⟩
theorem mw_X8_evening : MW yX8_evening cX8_evening 5 ((some .int)) 2 := ⟨wm_3_133, wm_1_1, by decide +kernel, by decide +kernel, by decide +kernel⟩
theorem mw_X8_exact : MW yX8_exact cX8_exact 2 ((some .int)) 1 := ⟨wm_3_158, wm_1_1, by decide +kernel, by decide +kernel, by decide +kernel⟩
theorem mw_X8_best : MW yX8_best cX8_best 2 ((some .int)) 1 := ⟨wm_3_188, wm_1_1, by decide +kernel, by decide +kernel, by decide +kernel⟩
theorem mw_X8_pairs : MW yX8_pairs cX8_pairs 1 ((some .int)) 0 := ⟨wm_3_215, wm_1_1, by decide +kernel, by decide +kernel, by decide +kernel⟩
theorem mw_X8_face : MW yX8_face cX8_face 2 ((some .int)) 1 := ⟨wm_3_228, wm_1_1, by decide +kernel, by decide +kernel, by decide +kernel⟩
theorem mw_X8_numbers : MW yX8_numbers cX8_numbers 4 ((some .int)) 3 := ⟨wm_4_0, wm_1_1, by decide +kernel, by decide +kernel, by decide +kernel⟩
theorem mw_X8_judge : MW yX8_judge cX8_judge 3 ((some .int)) 1 := ⟨wm_4_17, wm_1_1, by decide +kernel, by decide +kernel, by decide +kernel⟩
theorem mw_X8_lots : MW yX8_lots cX8_lots 3 ((some .int)) 1 := ⟨wm_4_29, wm_1_1, by decide +kernel, by decide +kernel, by decide +kernel⟩
theorem mw_X8_image : MW yX8_image cX8_image 1 ((some .int)) 0 := ⟨wm_4_43, wm_1_1, by decide +kernel, by decide +kernel, by decide +kernel⟩
theorem mw_X8_back : MW yX8_back cX8_back 1 ((some .int)) 0 := ⟨wm_4_48, wm_1_1, by decide +kernel, by decide +kernel, by decide +kernel⟩
theorem mw_X8_undo : MW yX8_undo cX8_undo 1 ((some .int)) 0 := ⟨wm_4_52, wm_1_1, by decide +kernel, by decide +kernel, by decide +kernel⟩
theorem mw_X8_redo : MW yX8_redo cX8_redo 1 ((some .int)) 0 := ⟨wm_4_61, wm_1_1, by decide +kernel, by decide +kernel, by decide +kernel⟩
theorem mw_X8_body : MW yX8_body cX8_body 2 ((some .int)) 1 := ⟨wm_4_69, wm_1_1, by decide +kernel, by decide +kernel, by decide +kernel⟩
theorem mw_X8_act : MW yX8_act cX8_act 4 ((some .int)) 3 := ⟨wm_4_77, wm_1_1, by decide +kernel, by decide +kernel, by decide +kernel⟩
theorem mw_X8_trace : MW yX8_trace cX8_trace 2 ((some .int)) 1 := ⟨wm_4_117, wm_1_1, by decide +kernel, by decide +kernel, by decide +kernel⟩
theorem mw_X8_keep : MW yX8_keep cX8_keep 3 ((some .int)) 2 := ⟨wm_4_125, wm_1_1, by decide +kernel, by decide +kernel, by decide +kernel⟩
theorem mw_X8_row : MW yX8_row cX8_row 4 ((some .int)) 3 := ⟨wm_4_134, wm_1_1, by decide +kernel, by decide +kernel, by decide +kernel⟩
theorem mw_X8_put : MW yX8_put cX8_put 6 ((some .int)) 3 := ⟨wm_4_145, wm_1_1, by decide +kernel, by decide +kernel, by decide +kernel⟩
theorem mw_X8_element : MW yX8_element cX8_element 3 ((some .long)) 2 := ⟨wm_4_152, wm_1_1, by decide +kernel, by decide +kernel, by decide +kernel⟩
theorem mw_X8_shift : MW yX8_shift cX8_shift 6 ((some .int)) 5 := ⟨wm_4_157, wm_1_1, by decide +kernel, by decide +kernel, by decide +kernel⟩
theorem mw_X8_taken : MW yX8_taken cX8_taken 4 ((some .int)) 2 := ⟨wm_4_168, wm_1_1, by decide +kernel, by decide +kernel, by decide +kernel⟩
theorem mw_X8_count : MW yX8_count cX8_count 2 ((some .int)) 1 := ⟨wm_4_176, wm_1_1, by decide +kernel, by decide +kernel, by decide +kernel⟩
theorem mw_X8_welcome : MW yX8_welcome cX8_welcome 3 ((some .int)) 1 := ⟨wm_2_85, wm_1_1, by decide +kernel, by decide +kernel, by decide +kernel⟩
theorem mw_X8_welcomeFrom : MW yX8_welcomeFrom cX8_welcomeFrom 4 ((some .boolean)) 2 := ⟨wm_2_106, wm_1_1, by decide +kernel, by decide +kernel, by decide +kernel⟩
theorem mw_X9_init : MW yX9_init cX9_init 1 (none) 0 := ⟨wm_4_185, wm_1_11, by decide +kernel, by decide +kernel, by decide +kernel⟩
theorem mw_X9_in : MW yX9_in cX9_in 3 ((some .boolean)) 3 := ⟨wm_5_147, wm_1_11, by decide +kernel, by decide +kernel, by decide +kernel⟩
theorem mw_X9_isPerson : MW yX9_isPerson cX9_isPerson 2 ((some .boolean)) 1 := ⟨wm_5_186, wm_1_11, by decide +kernel, by decide +kernel, by decide +kernel⟩
theorem mw_X9_beginAt : MW yX9_beginAt cX9_beginAt 3 (none) 1 := ⟨wm_5_155, wm_1_11, by decide +kernel, by decide +kernel, by decide +kernel⟩
theorem mw_X9_addPerson : MW yX9_addPerson cX9_addPerson 2 ((some .int)) 1 := ⟨wm_5_151, wm_1_11, by decide +kernel, by decide +kernel, by decide +kernel⟩
theorem mw_X9_person : MW yX9_person cX9_person 2 ((some .int)) 1 := ⟨wm_5_144, wm_1_11, by decide +kernel, by decide +kernel, by decide +kernel⟩
theorem mw_X9_people : MW yX9_people cX9_people 8 ((some .int)) 3 := ⟨wm_5_159, wm_1_11, by decide +kernel, by decide +kernel, by decide +kernel⟩
theorem mw_X9_valueAt : MW yX9_valueAt cX9_valueAt 3 ((some .int)) 2 := ⟨wm_5_197, wm_1_11, by decide +kernel, by decide +kernel, by decide +kernel⟩
theorem mw_X9_lays : MW yX9_lays cX9_lays 4 (none) 3 := ⟨wm_5_170, wm_1_11, by decide +kernel, by decide +kernel, by decide +kernel⟩
theorem mw_X9_changes : MW yX9_changes cX9_changes 6 ((some .int)) 3 := ⟨wm_5_193, wm_1_11, by decide +kernel, by decide +kernel, by decide +kernel⟩
theorem mw_X9_undo : MW yX9_undo cX9_undo 1 ((some .int)) 0 := ⟨wm_5_166, wm_1_11, by decide +kernel, by decide +kernel, by decide +kernel⟩
theorem mw_X9_redo : MW yX9_redo cX9_redo 1 ((some .int)) 0 := ⟨wm_5_174, wm_1_11, by decide +kernel, by decide +kernel, by decide +kernel⟩
theorem mw_X9_areBoth : MW yX9_areBoth cX9_areBoth 2 ((some .boolean)) 1 := ⟨wm_5_182, wm_1_11, by decide +kernel, by decide +kernel, by decide +kernel⟩
theorem mw_X9_place : MW yX9_place cX9_place 1 ((some .int)) 1 := ⟨wm_5_189, wm_1_11, by decide +kernel, by decide +kernel, by decide +kernel⟩
theorem mw_X9_mend : MW yX9_mend cX9_mend 4 ((some .int)) 3 := ⟨wm_5_178, wm_1_11, by decide +kernel, by decide +kernel, by decide +kernel⟩
theorem mw_X9_hasIn : MW yX9_hasIn cX9_hasIn 4 ((some .int)) 2 := ⟨wm_5_205, wm_1_11, by decide +kernel, by decide +kernel, by decide +kernel⟩
theorem mw_X9_bit : MW yX9_bit cX9_bit 2 ((some .int)) 2 := ⟨wm_5_208, wm_1_11, by decide +kernel, by decide +kernel, by decide +kernel⟩
theorem mw_X9_of : MW yX9_of cX9_of 3 ((some .int)) 2 := ⟨wm_5_201, wm_1_11, by decide +kernel, by decide +kernel, by decide +kernel⟩
theorem mw_X9_swapLot : MW yX9_swapLot cX9_swapLot 4 (none) 2 := ⟨wm_5_216, wm_1_11, by decide +kernel, by decide +kernel, by decide +kernel⟩
theorem mw_X9_swap : MW yX9_swap cX9_swap 2 ((some .int)) 1 := ⟨wm_5_212, wm_1_11, by decide +kernel, by decide +kernel, by decide +kernel⟩
theorem mw_X9_feed : MW yX9_feed cX9_feed 2 ((some .int)) 1 := ⟨wm_5_220, wm_1_11, by decide +kernel, by decide +kernel, by decide +kernel⟩
theorem mw_X9_look : MW yX9_look cX9_look 1 ((some .int)) 0 := ⟨wm_6_20, wm_1_11, by decide +kernel, by decide +kernel, by decide +kernel⟩
theorem mw_X9_faulty : MW yX9_faulty cX9_faulty 1 (none) 0 := ⟨wm_6_35, wm_1_11, by decide +kernel, by decide +kernel, by decide +kernel⟩
theorem mw_X9_addStep : MW yX9_addStep cX9_addStep 3 (none) 2 := ⟨wm_6_27, wm_1_11, by decide +kernel, by decide +kernel, by decide +kernel⟩
theorem mw_X9_nameOf : MW yX9_nameOf cX9_nameOf 1 ((some .int)) 1 := ⟨wm_6_23, wm_1_11, by decide +kernel, by decide +kernel, by decide +kernel⟩
theorem mw_X9_opens : MW yX9_opens cX9_opens 1 ((some .boolean)) 0 := ⟨wm_6_31, wm_1_11, by decide +kernel, by decide +kernel, by decide +kernel⟩
theorem mw_X9_figure : MW yX9_figure cX9_figure 3 (none) 0 := ⟨wm_6_39, wm_1_11, by decide +kernel, by decide +kernel, by decide +kernel⟩
theorem mw_X9_operand : MW yX9_operand cX9_operand 2 (none) 0 := ⟨wm_6_16, wm_1_11, by decide +kernel, by decide +kernel, by decide +kernel⟩
theorem mw_X9_product : MW yX9_product cX9_product 2 (none) 0 := ⟨wm_6_12, wm_1_11, by decide +kernel, by decide +kernel, by decide +kernel⟩
theorem mw_X9_sum : MW yX9_sum cX9_sum 2 (none) 0 := ⟨wm_6_8, wm_1_11, by decide +kernel, by decide +kernel, by decide +kernel⟩
theorem mw_X9_compared : MW yX9_compared cX9_compared 2 (none) 0 := ⟨wm_6_4, wm_1_11, by decide +kernel, by decide +kernel, by decide +kernel⟩
theorem mw_X9_both : MW yX9_both cX9_both 1 (none) 0 := ⟨wm_6_0, wm_1_11, by decide +kernel, by decide +kernel, by decide +kernel⟩
theorem mw_X9_either : MW yX9_either cX9_either 1 (none) 0 := ⟨wm_5_236, wm_1_11, by decide +kernel, by decide +kernel, by decide +kernel⟩
theorem mw_X9_line : MW yX9_line cX9_line 2 (none) 0 := ⟨wm_5_232, wm_1_11, by decide +kernel, by decide +kernel, by decide +kernel⟩
theorem mw_X9_readText : MW yX9_readText cX9_readText 3 ((some .int)) 1 := ⟨wm_5_228, wm_1_11, by decide +kernel, by decide +kernel, by decide +kernel⟩
theorem mw_X9_twoOf : MW yX9_twoOf cX9_twoOf 3 ((some .int)) 3 := ⟨wm_6_105, wm_1_11, by decide +kernel, by decide +kernel, by decide +kernel⟩
theorem mw_X9_worked : MW yX9_worked cX9_worked 7 ((some .int)) 3 := ⟨wm_6_102, wm_1_11, by decide +kernel, by decide +kernel, by decide +kernel⟩
theorem mw_X9_gives : MW yX9_gives cX9_gives 4 ((some .int)) 1 := ⟨wm_6_98, wm_1_11, by decide +kernel, by decide +kernel, by decide +kernel⟩
theorem mw_X9_law : MW yX9_law cX9_law 2 ((some .int)) 0 := ⟨wm_5_224, wm_1_11, by decide +kernel, by decide +kernel, by decide +kernel⟩
theorem mw_X9_bitsOf : MW yX9_bitsOf cX9_bitsOf 3 ((some .int)) 1 := ⟨wm_6_94, wm_1_11, by decide +kernel, by decide +kernel, by decide +kernel⟩
theorem mw_X9_guessOf : MW yX9_guessOf cX9_guessOf 5 ((some .int)) 2 := ⟨wm_6_91, wm_1_11, by decide +kernel, by decide +kernel, by decide +kernel⟩
theorem mw_X9_mayTake : MW yX9_mayTake cX9_mayTake 3 ((some .boolean)) 2 := ⟨wm_6_67, wm_1_11, by decide +kernel, by decide +kernel, by decide +kernel⟩
theorem mw_X9_lowestWrapped : MW yX9_lowestWrapped cX9_lowestWrapped 3 ((some .int)) 1 := ⟨wm_6_55, wm_1_11, by decide +kernel, by decide +kernel, by decide +kernel⟩
theorem mw_X9_opensAt : MW yX9_opensAt cX9_opensAt 3 ((some .int)) 1 := ⟨wm_6_51, wm_1_11, by decide +kernel, by decide +kernel, by decide +kernel⟩
theorem mw_X9_takesAt : MW yX9_takesAt cX9_takesAt 4 ((some .int)) 2 := ⟨wm_6_71, wm_1_11, by decide +kernel, by decide +kernel, by decide +kernel⟩
theorem mw_X9_lawsNumber : MW yX9_lawsNumber cX9_lawsNumber 6 ((some .int)) 3 := ⟨wm_6_87, wm_1_11, by decide +kernel, by decide +kernel, by decide +kernel⟩
theorem mw_X9_choice : MW yX9_choice cX9_choice 7 ((some .int)) 1 := ⟨wm_6_83, wm_1_11, by decide +kernel, by decide +kernel, by decide +kernel⟩
theorem mw_X9_goTurn : MW yX9_goTurn cX9_goTurn 3 ((some .int)) 1 := ⟨wm_6_79, wm_1_11, by decide +kernel, by decide +kernel, by decide +kernel⟩
theorem mw_X9_againChoice : MW yX9_againChoice cX9_againChoice 6 ((some .int)) 1 := ⟨wm_6_113, wm_1_11, by decide +kernel, by decide +kernel, by decide +kernel⟩
theorem mw_X9_changeAt : MW yX9_changeAt cX9_changeAt 5 (none) 2 := ⟨wm_6_117, wm_1_11, by decide +kernel, by decide +kernel, by decide +kernel⟩
theorem mw_X9_lead : MW yX9_lead cX9_lead 3 (none) 2 := ⟨wm_6_59, wm_1_11, by decide +kernel, by decide +kernel, by decide +kernel⟩
theorem mw_X9_turn : MW yX9_turn cX9_turn 1 ((some .int)) 0 := ⟨wm_6_43, wm_1_11, by decide +kernel, by decide +kernel, by decide +kernel⟩
theorem mw_X9_open : MW yX9_open cX9_open 3 ((some .int)) 0 := ⟨wm_6_47, wm_1_11, by decide +kernel, by decide +kernel, by decide +kernel⟩
theorem mw_X9_take : MW yX9_take cX9_take 4 ((some .int)) 1 := ⟨wm_6_63, wm_1_11, by decide +kernel, by decide +kernel, by decide +kernel⟩
theorem mw_X9_goOn : MW yX9_goOn cX9_goOn 3 ((some .int)) 0 := ⟨wm_6_75, wm_1_11, by decide +kernel, by decide +kernel, by decide +kernel⟩
theorem mw_X9_again : MW yX9_again cX9_again 2 ((some .int)) 0 := ⟨wm_6_109, wm_1_11, by decide +kernel, by decide +kernel, by decide +kernel⟩
theorem mw_X9_anew : MW yX9_anew cX9_anew 1 ((some .int)) 0 := ⟨wm_6_121, wm_1_11, by decide +kernel, by decide +kernel, by decide +kernel⟩
theorem mw_X9_led : MW yX9_led cX9_led 2 ((some .int)) 1 := ⟨wm_6_125, wm_1_11, by decide +kernel, by decide +kernel, by decide +kernel⟩
theorem mw_X9_goEvening : MW yX9_goEvening cX9_goEvening 2 (none) 0 := ⟨wm_6_133, wm_1_11, by decide +kernel, by decide +kernel, by decide +kernel⟩
theorem mw_X9_evening : MW yX9_evening cX9_evening 5 ((some .int)) 2 := ⟨wm_6_129, wm_1_11, by decide +kernel, by decide +kernel, by decide +kernel⟩
theorem mw_X9_keepAt : MW yX9_keepAt cX9_keepAt 3 (none) 1 := ⟨wm_6_145, wm_1_11, by decide +kernel, by decide +kernel, by decide +kernel⟩
theorem mw_X9_layAt : MW yX9_layAt cX9_layAt 3 (none) 1 := ⟨wm_6_153, wm_1_11, by decide +kernel, by decide +kernel, by decide +kernel⟩
theorem mw_X9_endWorth : MW yX9_endWorth cX9_endWorth 4 ((some .int)) 2 := ⟨wm_6_157, wm_1_11, by decide +kernel, by decide +kernel, by decide +kernel⟩
theorem mw_X9_takeEnd : MW yX9_takeEnd cX9_takeEnd 3 (none) 1 := ⟨wm_6_149, wm_1_11, by decide +kernel, by decide +kernel, by decide +kernel⟩
theorem mw_X9_goExact : MW yX9_goExact cX9_goExact 4 (none) 1 := ⟨wm_6_141, wm_1_11, by decide +kernel, by decide +kernel, by decide +kernel⟩
theorem mw_X9_exact : MW yX9_exact cX9_exact 3 ((some .int)) 1 := ⟨wm_6_137, wm_1_11, by decide +kernel, by decide +kernel, by decide +kernel⟩
theorem mw_X9_goParts : MW yX9_goParts cX9_goParts 5 (none) 3 := ⟨wm_6_165, wm_1_11, by decide +kernel, by decide +kernel, by decide +kernel⟩
theorem mw_X9_best : MW yX9_best cX9_best 2 ((some .int)) 1 := ⟨wm_6_161, wm_1_11, by decide +kernel, by decide +kernel, by decide +kernel⟩
theorem mw_X9_pairs : MW yX9_pairs cX9_pairs 6 ((some .int)) 0 := ⟨wm_6_169, wm_1_11, by decide +kernel, by decide +kernel, by decide +kernel⟩
theorem mw_X9_face : MW yX9_face cX9_face 5 ((some .int)) 1 := ⟨wm_6_173, wm_1_11, by decide +kernel, by decide +kernel, by decide +kernel⟩
theorem mw_X9_keepLot : MW yX9_keepLot cX9_keepLot 2 (none) 0 := ⟨wm_6_181, wm_1_11, by decide +kernel, by decide +kernel, by decide +kernel⟩
theorem mw_X9_layLot : MW yX9_layLot cX9_layLot 2 (none) 0 := ⟨wm_6_185, wm_1_11, by decide +kernel, by decide +kernel, by decide +kernel⟩
theorem mw_X9_numbers : MW yX9_numbers cX9_numbers 8 ((some .int)) 3 := ⟨wm_6_177, wm_1_11, by decide +kernel, by decide +kernel, by decide +kernel⟩
theorem mw_X9_rowFault : MW yX9_rowFault cX9_rowFault 2 ((some .int)) 1 := ⟨wm_6_194, wm_1_11, by decide +kernel, by decide +kernel, by decide +kernel⟩
theorem mw_X9_wrongIn : MW yX9_wrongIn cX9_wrongIn 3 ((some .int)) 1 := ⟨wm_6_198, wm_1_11, by decide +kernel, by decide +kernel, by decide +kernel⟩
theorem mw_X9_judge : MW yX9_judge cX9_judge 2 ((some .int)) 1 := ⟨wm_6_190, wm_1_11, by decide +kernel, by decide +kernel, by decide +kernel⟩
theorem mw_X9_goLots : MW yX9_goLots cX9_goLots 6 ((some .int)) 3 := ⟨wm_6_206, wm_1_11, by decide +kernel, by decide +kernel, by decide +kernel⟩
theorem mw_X9_lots : MW yX9_lots cX9_lots 3 ((some .int)) 1 := ⟨wm_6_202, wm_1_11, by decide +kernel, by decide +kernel, by decide +kernel⟩
theorem mw_X9_image : MW yX9_image cX9_image 2 ((some .int)) 0 := ⟨wm_6_210, wm_1_11, by decide +kernel, by decide +kernel, by decide +kernel⟩
theorem mw_X9_back : MW yX9_back cX9_back 2 ((some .int)) 0 := ⟨wm_6_214, wm_1_11, by decide +kernel, by decide +kernel, by decide +kernel⟩
theorem mw_X9_safeMany : MW yX9_safeMany cX9_safeMany 3 ((some .int)) 0 := ⟨wm_7_49, wm_1_11, by decide +kernel, by decide +kernel, by decide +kernel⟩
theorem mw_X9_isBody : MW yX9_isBody cX9_isBody 2 ((some .boolean)) 1 := ⟨wm_6_230, wm_1_11, by decide +kernel, by decide +kernel, by decide +kernel⟩
theorem mw_X9_ran : MW yX9_ran cX9_ran 2 (none) 1 := ⟨wm_7_1, wm_1_11, by decide +kernel, by decide +kernel, by decide +kernel⟩
theorem mw_X9_trace : MW yX9_trace cX9_trace 2 ((some .int)) 1 := ⟨wm_6_218, wm_1_11, by decide +kernel, by decide +kernel, by decide +kernel⟩
theorem mw_X9_body : MW yX9_body cX9_body 2 ((some .int)) 1 := ⟨wm_6_222, wm_1_11, by decide +kernel, by decide +kernel, by decide +kernel⟩
theorem mw_X9_isUnder : MW yX9_isUnder cX9_isUnder 2 ((some .boolean)) 2 := ⟨wm_6_237, wm_1_11, by decide +kernel, by decide +kernel, by decide +kernel⟩
theorem mw_X9_plainOpens : MW yX9_plainOpens cX9_plainOpens 3 ((some .int)) 2 := ⟨wm_7_5, wm_1_11, by decide +kernel, by decide +kernel, by decide +kernel⟩
theorem mw_X9_knownOpens : MW yX9_knownOpens cX9_knownOpens 3 ((some .int)) 2 := ⟨wm_7_9, wm_1_11, by decide +kernel, by decide +kernel, by decide +kernel⟩
theorem mw_X9_opening : MW yX9_opening cX9_opening 3 ((some .int)) 2 := ⟨wm_6_234, wm_1_11, by decide +kernel, by decide +kernel, by decide +kernel⟩
theorem mw_X9_plainTakes : MW yX9_plainTakes cX9_plainTakes 3 ((some .int)) 2 := ⟨wm_7_21, wm_1_11, by decide +kernel, by decide +kernel, by decide +kernel⟩
theorem mw_X9_openTakes : MW yX9_openTakes cX9_openTakes 3 ((some .int)) 2 := ⟨wm_7_17, wm_1_11, by decide +kernel, by decide +kernel, by decide +kernel⟩
theorem mw_X9_taking : MW yX9_taking cX9_taking 4 ((some .int)) 2 := ⟨wm_7_13, wm_1_11, by decide +kernel, by decide +kernel, by decide +kernel⟩
theorem mw_X9_plainLooks : MW yX9_plainLooks cX9_plainLooks 3 ((some .int)) 2 := ⟨wm_7_33, wm_1_11, by decide +kernel, by decide +kernel, by decide +kernel⟩
theorem mw_X9_hotLooks : MW yX9_hotLooks cX9_hotLooks 3 ((some .int)) 2 := ⟨wm_7_29, wm_1_11, by decide +kernel, by decide +kernel, by decide +kernel⟩
theorem mw_X9_looking : MW yX9_looking cX9_looking 4 ((some .int)) 2 := ⟨wm_7_25, wm_1_11, by decide +kernel, by decide +kernel, by decide +kernel⟩
theorem mw_X9_plainKeeps : MW yX9_plainKeeps cX9_plainKeeps 4 ((some .int)) 2 := ⟨wm_7_41, wm_1_11, by decide +kernel, by decide +kernel, by decide +kernel⟩
theorem mw_X9_keeping : MW yX9_keeping cX9_keeping 3 ((some .int)) 2 := ⟨wm_7_37, wm_1_11, by decide +kernel, by decide +kernel, by decide +kernel⟩
theorem mw_X9_act : MW yX9_act cX9_act 4 ((some .int)) 3 := ⟨wm_6_226, wm_1_11, by decide +kernel, by decide +kernel, by decide +kernel⟩
theorem mw_X9_count : MW yX9_count cX9_count 2 ((some .int)) 1 := ⟨wm_7_45, wm_1_11, by decide +kernel, by decide +kernel, by decide +kernel⟩
theorem mw_X9_isShelf : MW yX9_isShelf cX9_isShelf 1 ((some .boolean)) 1 := ⟨wm_5_162, wm_1_11, by decide +kernel, by decide +kernel, by decide +kernel⟩
theorem mw_X9_keep : MW yX9_keep cX9_keep 3 ((some .int)) 2 := ⟨wm_7_53, wm_1_11, by decide +kernel, by decide +kernel, by decide +kernel⟩
theorem mw_X9_row : MW yX9_row cX9_row 5 ((some .int)) 3 := ⟨wm_7_57, wm_1_11, by decide +kernel, by decide +kernel, by decide +kernel⟩
theorem mw_X9_whyNoPlace : MW yX9_whyNoPlace cX9_whyNoPlace 3 ((some .int)) 2 := ⟨wm_7_65, wm_1_11, by decide +kernel, by decide +kernel, by decide +kernel⟩
theorem mw_X9_put : MW yX9_put cX9_put 7 ((some .int)) 3 := ⟨wm_7_61, wm_1_11, by decide +kernel, by decide +kernel, by decide +kernel⟩
theorem mw_X9_element : MW yX9_element cX9_element 3 ((some .long)) 2 := ⟨wm_7_69, wm_1_11, by decide +kernel, by decide +kernel, by decide +kernel⟩
theorem mw_X9_shift : MW yX9_shift cX9_shift 7 ((some .int)) 5 := ⟨wm_7_74, wm_1_11, by decide +kernel, by decide +kernel, by decide +kernel⟩
theorem mw_X9_taken : MW yX9_taken cX9_taken 3 ((some .int)) 2 := ⟨wm_7_78, wm_1_11, by decide +kernel, by decide +kernel, by decide +kernel⟩
theorem mw_J6_bitCount_0f7a4 : MW yJ6_bitCount_0f7a4 cJ6_bitCount_0f7a4 1 ((some .int)) 1 := ⟨wm_3_199, wm_1_14, by decide +kernel, by decide +kernel, by decide +kernel⟩
theorem mw_J7_fill_d0a16 : MW yJ7_fill_d0a16 cJ7_fill_d0a16 5 (none) 2 := ⟨wm_4_141, wm_1_4, by decide +kernel, by decide +kernel, by decide +kernel⟩
theorem mw_J7_fill_53178 : MW yJ7_fill_53178 cJ7_fill_53178 4 (none) 2 := ⟨wm_1_58, wm_1_4, by decide +kernel, by decide +kernel, by decide +kernel⟩
theorem wc_L_141 : Cond.constantLong RL 141 (iL (4294967295)) ∈ WA := by
  have h := wm_7_79
  rw [show ((4294967295) : Int64) = iL (4294967295) from by decide +kernel] at h
  exact h
theorem wc_J6_265 : Cond.constant RJ6 265 (iI (1431655765)) ∈ WA := by
  have h := wm_3_200
  rw [show ((1431655765) : Int32) = iI (1431655765) from by decide +kernel] at h
  exact h
theorem wc_J6_266 : Cond.constant RJ6 266 (iI (858993459)) ∈ WA := by
  have h := wm_3_201
  rw [show ((858993459) : Int32) = iI (858993459) from by decide +kernel] at h
  exact h
theorem wc_J6_267 : Cond.constant RJ6 267 (iI (252645135)) ∈ WA := by
  have h := wm_3_202
  rw [show ((252645135) : Int32) = iI (252645135) from by decide +kernel] at h
  exact h
theorem wc_X7_157 : Cond.constant RX7 157 (iI (1103515245)) ∈ WA := by
  have h := wm_4_6
  rw [show ((1103515245) : Int32) = iI (1103515245) from by decide +kernel] at h
  exact h
theorem wc_X9_364 : Cond.constant RX9 364 (iI (1103515245)) ∈ WA := by
  have h := wm_6_186
  rw [show ((1103515245) : Int32) = iI (1103515245) from by decide +kernel] at h
  exact h
theorem wc_X8_290 : Cond.constantLong RX8 290 (iL (-9223372036854775808)) ∈ WA := by
  have h := wm_4_153
  rw [show ((-9223372036854775808) : Int64) = iL (-9223372036854775808) from by decide +kernel] at h
  exact h
theorem wc_X9_430 : Cond.constantLong RX9 430 (iL (-9223372036854775808)) ∈ WA := by
  have h := wm_7_70
  rw [show ((-9223372036854775808) : Int64) = iL (-9223372036854775808) from by decide +kernel] at h
  exact h
theorem wx_math : Cond.initialized "java/lang/Math" ∈ WA := wm_1_13
theorem wx_sys : Cond.initialized "java/lang/System" ∈ WA := wm_1_12
theorem wx_mmax_1 : Cond.static Lib.Math.max.name ∈ WA := wA (tm_3 _ (List.mem_of_getElem? (i := 81) rfl)) rfl
theorem wx_mmax_2 : Cond.code Lib.Math.max.name Lib.Math.max.code 2 (some .int) ∈ WA := wA (tm_3 _ (List.mem_of_getElem? (i := 82) rfl)) rfl
theorem wx_mmin_1 : Cond.static Lib.Math.min.name ∈ WA := wA (tm_4 _ (List.mem_of_getElem? (i := 12) rfl)) rfl
theorem wx_mmin_2 : Cond.code Lib.Math.min.name Lib.Math.min.code 2 (some .int) ∈ WA := wA (tm_4 _ (List.mem_of_getElem? (i := 13) rfl)) rfl
theorem wx_ac_1 : Cond.native arraycopyName ∈ WA := wm_2_149
theorem wx_ac_2 : Cond.static arraycopyName ∈ WA := wm_2_148
theorem wm_3_80 : Cond.methodLink RX3 36 Lib.Math.max.name ∈ WA := wA (tm_3 _ (List.mem_of_getElem? (i := 80) rfl)) rfl
theorem wm_3_207 : Cond.methodLink RX7 128 Lib.Math.max.name ∈ WA := wA (tm_3 _ (List.mem_of_getElem? (i := 207) rfl)) rfl
theorem wm_4_11 : Cond.methodLink RX7 158 Lib.Math.min.name ∈ WA := wA (tm_4 _ (List.mem_of_getElem? (i := 11) rfl)) rfl
def FU : Nat := 1000000
def CM (p : Program) (s : State) (m : MethodId) (args : Array Value) (meth : Method) (c : Code) (cc : ByteArray) (nL : Nat) (own : String) (cx : CX) (ret : Option FieldType) : Prop := Kx p s m args c cc nL own cx ∧ meth.sig.returnType = ret ∧ meth.locks = false
abbrev TI (p : Program) (l : Launch) (e : Env) (R : Room) (s : State) (m : MethodId) (args : Array Value) (below : List Frame) (meth : Method) (c : Code) (nL : Nat) (cx : CX) (pc : Nat) (lv : List (Nat × Value)) (st : List Value) (μ : Mm) (F : Option (Int32 × Mm)) : Prop := T p l e R s m args below meth c nL cx NN Lay 0 0 (fun (r : Int32) μ1 => MQ below (QcM cx NN Lay (cvI r) μ1) args s 0 0 (fun q => cx.2.2.1 < q)) pc lv st μ F
abbrev TL (p : Program) (l : Launch) (e : Env) (R : Room) (s : State) (m : MethodId) (args : Array Value) (below : List Frame) (meth : Method) (c : Code) (nL : Nat) (cx : CX) (pc : Nat) (lv : List (Nat × Value)) (st : List Value) (μ : Mm) (F : Option (Int64 × Mm)) : Prop := T p l e R s m args below meth c nL cx NN Lay 0 0 (fun (r : Int64) μ1 => MQ below (QcM cx NN Lay (cvL r) μ1) args s 0 0 (fun q => cx.2.2.1 < q)) pc lv st μ F
abbrev TV (p : Program) (l : Launch) (e : Env) (R : Room) (s : State) (m : MethodId) (args : Array Value) (below : List Frame) (meth : Method) (c : Code) (nL : Nat) (cx : CX) (pc : Nat) (lv : List (Nat × Value)) (st : List Value) (μ : Mm) (F : Option (Unit × Mm)) : Prop := T p l e R s m args below meth c nL cx NN Lay 0 0 (fun (r : Unit) μ1 => MQ below (QcM cx NN Lay (cvV r) μ1) args s 0 0 (fun q => cx.2.2.1 < q)) pc lv st μ F
abbrev TR (p : Program) (l : Launch) (e : Env) (R : Room) (s : State) (m : MethodId) (args : Array Value) (below : List Frame) (meth : Method) (c : Code) (nL : Nat) (cx : CX) (pc : Nat) (lv : List (Nat × Value)) (st : List Value) (μ : Mm) (F : Option (Nat × Mm)) : Prop := T p l e R s m args below meth c nL cx NN Lay 0 0 (fun (r : Nat) μ1 => MQ below (QcM cx NN Lay (cvR cx.2.2.1 r) μ1) args s 0 0 (fun q => cx.2.2.1 < q)) pc lv st μ F
