/-! IMAGE AND BACK OF BOTH -/
theorem st_ne {m : Mm} {b a j i : Nat} {v : Int32} (h : a ≠ b) : gI (pI m b i v) a j = gI m a j := by rw [gI_pI, if_neg (fun q => h q.1)]
theorem st_ni {m : Mm} {b j i : Nat} {v : Int32} (h : j ≠ i) : gI (pI m b i v) b j = gI m b j := by rw [gI_pI, if_neg (fun q => h q.2)]
theorem st_at {m : Mm} {b i : Nat} {v : Int32} : gI (pI m b i v) b i = v := by rw [gI_pI, if_pos ⟨rfl, rfl⟩]
theorem image_loop {P : Pa} : ∀ c k f (μ : Mm), gI μ 113 1 = kI (pN P) → pN P ≤ 7 → k + c = pN P → c < f → ∃ μ1, F_X9_image_10 f (kI k) μ = F_X9_image_10 (f - c) (kI (pN P)) μ1 ∧ (∀ i, k ≤ i → i < pN P → gI μ1 147 i = gI μ 117 i ∧ gI μ1 148 i = gI μ 118 i ∧ gI μ1 149 i = gI μ 119 i) ∧ (∀ i, i < k → gI μ1 147 i = gI μ 147 i ∧ gI μ1 148 i = gI μ 148 i ∧ gI μ1 149 i = gI μ 149 i) ∧ FrC (fun a _ => 147 ≤ a ∧ a ≤ 149) μ μ1 := by
  intro c
  induction c with
  | zero =>
    intro k f μ en hn hk hf
    have : k = pN P := by omega
    subst this
    exact ⟨μ, rfl, fun i h1 h2 => absurd h2 (by omega), fun i _ => ⟨rfl, rfl, rfl⟩, FrC.refl⟩
  | succ c ih =>
    intro k f μ en hn hk hf
    obtain ⟨f, rfl⟩ : ∃ g, f = g + 1 := ⟨f - 1, by omega⟩
    have fr : FrC (fun a _ => 147 ≤ a ∧ a ≤ 149) μ (pI (pI (pI μ 147 k (gI μ 117 k)) 148 k (gI μ 118 k)) 149 k (gI μ 119 k)) := ((FrC.put (C := fun a _ => 147 ≤ a ∧ a ≤ 149) FrC.refl (by omega)).put (by omega)).put (by omega)
    obtain ⟨μ1, i1, i2, i3, i4⟩ := ih (k + 1) f _ (by rw [fr.1 113 1 (by omega)]; exact en) hn (by omega) (by omega)
    refine ⟨μ1, ?_, fun i h1 h2 => ?_, fun i h => ?_, fr.trans i4⟩
    · rw [show f + 1 - (c + 1) = f - c by omega, ← i1, F_X9_image_10, if_neg (by rw [en, kI_le (by omega) (by omega)]; omega)]
      simp (disch := omega) only [iI_lit, rd_kI, wrI_kI, nm_eq, kI_add, st_ne]
    · by_cases z : i = k
      · obtain ⟨g1, g2, g3⟩ := i3 i (by omega)
        rw [g1, g2, g3, z]
        refine ⟨?_, ?_, ?_⟩ <;> simp [gI_pI]
      · obtain ⟨g1, g2, g3⟩ := i2 i (by omega) h2
        rw [g1, g2, g3, fr.1 117 i (by omega), fr.1 118 i (by omega), fr.1 119 i (by omega)]
        exact ⟨rfl, rfl, rfl⟩
    · obtain ⟨g1, g2, g3⟩ := i3 i (by omega)
      have z : ¬ i = k := by omega
      rw [g1, g2, g3]
      refine ⟨?_, ?_, ?_⟩ <;> simp [gI_pI, z]
theorem g_image : Good F_X8_image F_X9_image := by
  intro μ hI
  obtain ⟨P, lot, e, hR, hD⟩ := hI.split
  have hn := hR.1.n7
  have hw := hD.2.2.2.1
  obtain ⟨_, m2, a1, a2, a3, a4⟩ := become_eq (μ := μ) (t := 28) (u := 23) sh28 (by omega) hD.1 hw.1
  have f2 : FrC (fun a j => 28 ≤ a ∧ a ≤ 32) μ m2 := a4.c.mono (fun a j q => by unfold SA at q; omega)
  have f3 : FrC (fun a j => (28 ≤ a ∧ a ≤ 32) ∨ (a = 1 ∧ j = 8)) μ (pI m2 1 8 (kI (pN P))) := (f2.mono fun a j q => Or.inl q).trans (FrC.put (C := fun a j => (28 ≤ a ∧ a ≤ 32) ∨ (a = 1 ∧ j = 8)) FrC.refl (by omega))
  have f4 : FrC (fun a j => (28 ≤ a ∧ a ≤ 32) ∨ (a = 1 ∧ j = 8) ∨ (a = 113 ∧ j = 51)) μ (pI (pI m2 1 8 (kI (pN P))) 113 51 (kI (pN P))) := (f3.mono fun a j q => by omega).trans (FrC.put (C := fun a j => (28 ≤ a ∧ a ≤ 32) ∨ (a = 1 ∧ j = 8) ∨ (a = 113 ∧ j = 51)) FrC.refl (by omega))
  have en3 : gI (pI m2 1 8 (kI (pN P))) 113 1 = kI (pN P) := by rw [f3.1 113 1 (by omega)]; exact hR.2.1.n
  have en4 : gI (pI (pI m2 1 8 (kI (pN P))) 113 51 (kI (pN P))) 113 1 = kI (pN P) := by rw [f4.1 113 1 (by omega)]; exact hR.2.1.n
  obtain ⟨m5, i1, i2, -, i4⟩ := image_loop (P := P) (pN P) 0 FU _ en4 hn (by omega) (by unfold FU; omega)
  obtain ⟨f, hf⟩ : ∃ f, FU - pN P = f + 1 := ⟨FU - pN P - 1, by unfold FU; omega⟩
  rw [hf] at i1
  have f5 : FrC (fun a j => (28 ≤ a ∧ a ≤ 32) ∨ (a = 1 ∧ j = 8) ∨ (a = 113 ∧ j = 51) ∨ (147 ≤ a ∧ a ≤ 149)) μ m5 := (f4.mono fun a j q => by omega).trans (i4.mono fun a j q => by omega)
  have r1 := hD.2.2.2.2.2.1.fr hn f5 (fun a j q => by omega)
  obtain ⟨g0, g1, g2, g3, g4, g5, g6, g7, g8⟩ := r1
  have l1 := hD.led.fr f5 (fun a j q => by omega)
  have e16 : gI m5 113 16 = kI (eA e) := by rw [f5.1 113 16 (by omega)]; exact hD.2.2.2.2.2.2.2.1
  have e51 : gI m5 113 51 = kI (pN P) := by rw [i4.1 113 51 (by omega)]; simp [gI_pI]
  have e18 : gI m5 1 8 = kI (pN P) := by rw [i4.1 1 8 (by omega)]; simp [gI_pI]
  have en5 : gI m5 113 1 = kI (pN P) := by rw [f5.1 113 1 (by omega)]; exact hR.2.1.n
  generalize hm6 : pI (pI (pI (pI (pI (pI (pI (pI (pI (pI m5 150 0 (gI m5 120 0)) 150 1 (gI m5 121 0)) 150 2 (gI m5 122 0)) 150 3 (gI m5 123 0)) 150 4 (gI m5 124 0)) 150 5 (gI m5 113 15)) 150 6 (gI m5 113 16)) 150 7 (gI m5 113 17)) 150 8 (gI m5 113 18)) 150 9 (gI m5 113 19) = m6
  have f6 : FrC (fun a j => a = 150) m5 m6 := by
    rw [← hm6]
    exact (((((((((FrC.put (C := fun a j => a = 150) FrC.refl rfl).put rfl).put rfl).put rfl).put rfl).put rfl).put rfl).put rfl).put rfl).put rfl
  have v : gI m6 150 0 = gI m5 120 0 ∧ gI m6 150 1 = gI m5 121 0 ∧ gI m6 150 2 = gI m5 122 0 ∧ gI m6 150 3 = gI m5 123 0 ∧ gI m6 150 5 = gI m5 113 15 ∧ gI m6 150 6 = gI m5 113 16 ∧ gI m6 150 7 = gI m5 113 17 ∧ gI m6 150 8 = gI m5 113 18 ∧ gI m6 150 9 = gI m5 113 19 := by
    rw [← hm6]
    refine ⟨?_, ?_, ?_, ?_, ?_, ?_, ?_, ?_, ?_⟩ <;> simp (disch := omega) only [st_at, st_ni, st_ne]
  obtain ⟨v0, v1, v2, v3, v5, v6, v7, v8, v9⟩ := v
  have fall : FrC (fun a j => CImg a j) μ m6 := (f5.mono fun a j q => by unfold CImg; omega).trans (f6.mono fun a j q => by unfold CImg; omega)
  have arr : ∀ k, k < pN P → gI m6 147 k = kI (lot k) ∧ gI m6 148 k = kO (eO e k) ∧ gI m6 149 k = kI (eT e k) := fun k hk => by
    obtain ⟨q1, q2, q3⟩ := i2 k (by omega) hk
    rw [f6.1 147 k (by omega), f6.1 148 k (by omega), f6.1 149 k (by omega), q1, q2, q3]
    have r1 := hD.2.2.2.2.2.1
    have w1 := r1.2.2.2.2.2.2.2.2 k hk
    have w2 := r1.2.1 k hk
    have w3 := r1.2.2.1 k hk
    rw [show 7 * 0 + k = k by omega] at w2 w3
    rw [f4.1 117 k (by omega), f4.1 118 k (by omega), f4.1 119 k (by omega)]
    exact ⟨w1, w2, w3⟩
  have img : IImg m6 := by
    refine Or.inr ⟨pN P, lot, e, hn, ?_, ?_, ?_, ?_, hD.2.2.2.2.1, fun P' hP' hn' => ?_, arr, ?_, ?_, ?_, ?_, ?_, ?_, ?_⟩
    · rw [f6.1 1 8 (by omega)]; exact e18
    · rw [f6.1 113 51 (by omega)]; exact e51
    · exact ((a2.frC (FrC.put (C := fun a j => a = 1 ∧ j = 8) FrC.refl (by omega)) (fun a j q => by omega)).frC ((FrC.put (C := fun a j => a = 113 ∧ j = 51) (v := kI (pN P)) FrC.refl (by omega)).mono (C' := fun a j => a = 113) (fun a j q => q.1)) (fun a j q => by omega)).frC i4 (fun a j q => by omega) |>.frC f6 (fun a j q => by omega)
    · refine ⟨fun j hj => ?_, hD.2.1.2⟩
      rw [f6.1 29 j (by omega), i4.1 29 j (by omega), gI_pI, if_neg (by omega), gI_pI, if_neg (by omega)]
      exact (a3 j hj).trans (hD.2.1.1 j hj)
    · have h1 : LotOk (pN P) P' lot := ⟨by omega, hD.2.2.1.2.1, fun i hi => by rw [hn']; exact hD.2.2.1.2.2 i hi⟩
      have h2 : WfE (pN P) P' lot e := by
        have := hw
        unfold WfE at this ⊢
        rw [hn']
        exact this
      have h3 : cu P' lot e = cu P lot e := by unfold cu; rw [hn']
      exact ⟨h1, h2, by rw [v1, h3]; exact g4⟩
    · rw [v0]; exact g3
    · rw [v2]; exact g5
    · rw [v3]; exact g6
    · rw [v5]; exact l1.1
    · rw [v6]; exact e16
    · rw [v9]; exact l1.2.1
    · rw [v7, v8]; exact l1.2.2
  have hO := hR.oth
  have rest : Rest m6 P := ⟨hR.1.frC fall (fun a j q => by unfold CImg at q; unfold CPc; omega), hR.2.1.fr fall (fun a j q z => by unfold CImg at q; unfold CP at z; omega), hO.1.fr fall (fun a j q z => by unfold CImg at q; unfold CChg at z; omega), hO.2.1.fr fall (fun a j q z => by unfold CImg at q; unfold CTape at z; omega), hO.2.2.1.fr fall, img, hO.2.2.2.2.1.fr fall (fun a j q z => by unfold CImg at q; unfold CBod at z; omega), hO.2.2.2.2.2.fr fall (fun a j q z => by unfold CImg at q; unfold CShe at z; omega)⟩
  refine ⟨kI (pN P), pI m2 1 8 (kI (pN P)), m6, ?_, ?_, Inv.join rest (hD.fr hn fall (fun a j q z => by unfold CImg at q; unfold CDeed at z; omega))⟩
  · unfold F_X8_image
    rw [bnd_eq a1, nm_eq, f2.1 2 0 (by omega), hR.1.n, f3.1 2 0 (by omega), hR.1.n]
  · unfold F_X9_image
    rw [nm_eq, en3, iI_lit, i1, F_X9_image_10, if_pos (by rw [en5, kI_le (by omega) (by omega)]; omega)]
    simp (disch := omega) only [iI_lit, rd_kI, wrI_kI, st_ne, en5]
    rw [hm6]
theorem back_loop {P : Pa} : ∀ c k f (μ : Mm), gI μ 113 1 = kI (pN P) → pN P ≤ 7 → k + c = pN P → c < f → ∃ μ1, F_X9_back_16 f (kI k) μ = F_X9_back_16 (f - c) (kI (pN P)) μ1 ∧ (∀ i, k ≤ i → i < pN P → gI μ1 117 i = gI μ 147 i ∧ gI μ1 118 i = gI μ 148 i ∧ gI μ1 119 i = gI μ 149 i) ∧ (∀ i, i < k → gI μ1 117 i = gI μ 117 i ∧ gI μ1 118 i = gI μ 118 i ∧ gI μ1 119 i = gI μ 119 i) ∧ FrC (fun a j => 117 ≤ a ∧ a ≤ 119 ∧ j < 7) μ μ1 := by
  intro c
  induction c with
  | zero =>
    intro k f μ en hn hk hf
    have : k = pN P := by omega
    subst this
    exact ⟨μ, rfl, fun i h1 h2 => absurd h2 (by omega), fun i _ => ⟨rfl, rfl, rfl⟩, FrC.refl⟩
  | succ c ih =>
    intro k f μ en hn hk hf
    obtain ⟨f, rfl⟩ : ∃ g, f = g + 1 := ⟨f - 1, by omega⟩
    have fr : FrC (fun a j => 117 ≤ a ∧ a ≤ 119 ∧ j < 7) μ (pI (pI (pI μ 117 k (gI μ 147 k)) 118 k (gI μ 148 k)) 119 k (gI μ 149 k)) := ((FrC.put (C := fun a j => 117 ≤ a ∧ a ≤ 119 ∧ j < 7) FrC.refl (by omega)).put (by omega)).put (by omega)
    obtain ⟨μ1, i1, i2, i3, i4⟩ := ih (k + 1) f _ (by rw [fr.1 113 1 (by omega)]; exact en) hn (by omega) (by omega)
    refine ⟨μ1, ?_, fun i h1 h2 => ?_, fun i h => ?_, fr.trans i4⟩
    · rw [show f + 1 - (c + 1) = f - c by omega, ← i1, F_X9_back_16, if_neg (by rw [en, kI_le (by omega) (by omega)]; omega)]
      simp (disch := omega) only [iI_lit, rd_kI, wrI_kI, nm_eq, kI_add, st_ne]
    · by_cases z : i = k
      · obtain ⟨g1, g2, g3⟩ := i3 i (by omega)
        rw [g1, g2, g3, z]
        refine ⟨?_, ?_, ?_⟩ <;> simp [gI_pI]
      · obtain ⟨g1, g2, g3⟩ := i2 i (by omega) h2
        rw [g1, g2, g3, fr.1 147 i (by omega), fr.1 148 i (by omega), fr.1 149 i (by omega)]
        exact ⟨rfl, rfl, rfl⟩
    · obtain ⟨g1, g2, g3⟩ := i3 i (by omega)
      have z : ¬ i = k := by omega
      rw [g1, g2, g3]
      refine ⟨?_, ?_, ?_⟩ <;> simp [gI_pI, z]
theorem g_back : Good F_X8_back F_X9_back := by
  intro μ hI
  obtain ⟨P, lot, e, hR, hD⟩ := hI.split
  have hn := hR.1.n7
  have en := hR.2.1.n
  have refuse : gI μ 1 8 ≠ kI (pN P) → gI μ 113 51 ≠ kI (pN P) → ∃ v μ1 μ2, F_X8_back μ = some (v, μ1) ∧ F_X9_back μ1 = some (v, μ2) ∧ Inv μ2 := fun h1 h2 => by
    refine Good.bad (v := iI (-5)) hI ?_ ?_
    · unfold F_X8_back
      rw [hR.1.n, if_neg h1]
    · unfold F_X9_back
      rw [en, if_neg h2]
  rcases hR.oth.2.2.2.1 with ⟨h1, h2⟩ | ⟨nk, lotk, ek, k1, k2, k3, k4⟩
  · refine refuse (by rw [h1]; exact fun q => (neg1_kI (by omega)).mp q) (by rw [h2]; exact fun q => (neg1_kI (by omega)).mp q)
  · by_cases hk : nk = pN P
    · subst hk
      obtain ⟨a1, a2, a3, a4, a5, a6, a7, a8, a9, a10, a11, a12⟩ := k4
      obtain ⟨w1, w2, w3⟩ := a4 P hR.1.ok rfl
      obtain ⟨_, m2, b1, b2, b3, b4⟩ := become_eq (μ := μ) (t := 23) (u := 28) sh23 (by omega) a1 w2.1
      have f2 : FrC (fun a j => 23 ≤ a ∧ a ≤ 27) μ m2 := b4.c.mono (fun a j q => by unfold SA at q; omega)
      have en2 : gI m2 113 1 = kI (pN P) := by rw [f2.1 113 1 (by omega)]; exact en
      obtain ⟨m5, i1, i2, -, i4⟩ := back_loop (P := P) (pN P) 0 FU m2 en2 hn (by omega) (by unfold FU; omega)
      obtain ⟨f, hf⟩ : ∃ f, FU - pN P = f + 1 := ⟨FU - pN P - 1, by unfold FU; omega⟩
      rw [hf] at i1
      have f5 : FrC (fun a j => (23 ≤ a ∧ a ≤ 27) ∨ (117 ≤ a ∧ a ≤ 119 ∧ j < 7)) μ m5 := (f2.mono fun a j q => Or.inl q).trans (i4.mono fun a j q => Or.inr q)
      have en5 : gI m5 113 1 = kI (pN P) := by rw [f5.1 113 1 (by omega)]; exact en
      generalize hm6 : pI (pI (pI (pI (pI (pI (pI (pI (pI (pI m5 120 0 (gI m5 150 0)) 121 0 (gI m5 150 1)) 122 0 (gI m5 150 2)) 123 0 (gI m5 150 3)) 124 0 (gI m5 150 4)) 113 15 (gI m5 150 5)) 113 16 (gI m5 150 6)) 113 17 (gI m5 150 7)) 113 18 (gI m5 150 8)) 113 19 (gI m5 150 9) = m6
      have f6 : FrC (fun a j => (120 ≤ a ∧ a ≤ 124 ∧ j = 0) ∨ (a = 113 ∧ 15 ≤ j ∧ j ≤ 19)) m5 m6 := by
        rw [← hm6]
        exact (((((((((FrC.put (C := fun a j => (120 ≤ a ∧ a ≤ 124 ∧ j = 0) ∨ (a = 113 ∧ 15 ≤ j ∧ j ≤ 19)) FrC.refl (by omega)).put (by omega)).put (by omega)).put (by omega)).put (by omega)).put (by omega)).put (by omega)).put (by omega)).put (by omega)).put (by omega)
      have v : gI m6 120 0 = gI m5 150 0 ∧ gI m6 121 0 = gI m5 150 1 ∧ gI m6 122 0 = gI m5 150 2 ∧ gI m6 123 0 = gI m5 150 3 ∧ gI m6 113 15 = gI m5 150 5 ∧ gI m6 113 16 = gI m5 150 6 ∧ gI m6 113 17 = gI m5 150 7 ∧ gI m6 113 18 = gI m5 150 8 ∧ gI m6 113 19 = gI m5 150 9 := by
        rw [← hm6]
        refine ⟨?_, ?_, ?_, ?_, ?_, ?_, ?_, ?_, ?_⟩ <;> simp (disch := omega) only [st_at, st_ni, st_ne]
      have o150 : ∀ j, gI m5 150 j = gI μ 150 j := fun j => f5.1 150 j (by omega)
      simp only [o150] at v
      obtain ⟨v0, v1, v2, v3, v5, v6, v7, v8, v9⟩ := v
      have hRR : RR m6 0 P lotk ek := by
        refine ⟨by omega, fun k hk => ?_, fun k hk => ?_, ?_, ?_, ?_, ?_, fun z => absurd z (by omega), fun j hj => ?_⟩
        · rw [show 7 * 0 + k = k by omega, f6.1 118 k (by omega), (i2 k (by omega) hk).2.1, f2.1 148 k (by omega)]; exact (a5 k hk).2.1
        · rw [show 7 * 0 + k = k by omega, f6.1 119 k (by omega), (i2 k (by omega) hk).2.2, f2.1 149 k (by omega)]; exact (a5 k hk).2.2
        · rw [v0]; exact a6
        · rw [v1]; exact w3
        · rw [v2]; exact a7
        · rw [v3]; exact a8
        · rw [f6.1 117 j (by omega), (i2 j (by omega) hj).1, f2.1 147 j (by omega)]; exact (a5 j hj).1
      have hLed : Led m6 ek := ⟨by rw [v5]; exact a9, by rw [v9]; exact a11, by rw [v7, v8]; exact a12⟩
      have f36 : FrC (fun a j => (117 ≤ a ∧ a ≤ 119 ∧ j < 7) ∨ (120 ≤ a ∧ a ≤ 124 ∧ j = 0) ∨ (a = 113 ∧ 15 ≤ j ∧ j ≤ 19)) m2 m6 := (i4.mono fun a j q => Or.inl q).trans (f6.mono fun a j q => Or.inr q)
      have hD2 : IDeed m6 P lotk ek := IDeed.step2 b2 ⟨fun j hj => by rw [b3 j hj]; exact a2.1 j hj, a2.2⟩ hRR hLed (f36.mono fun a j q => by unfold CX9; omega) (by rw [v6]; exact a10) w1 w2 a3
      have fall : FrC CD μ m6 := (f2.mono fun a j q => by unfold CD; omega).trans (f36.mono fun a j q => by unfold CD; omega)
      refine ⟨kI (pN P), m2, m6, ?_, ?_, Inv.join (hR.fr fall (fun _ _ q => q)) hD2⟩
      · unfold F_X8_back
        rw [hR.1.n, k2, if_pos rfl, bnd_eq b1, f2.1 2 0 (by omega), hR.1.n]
      · unfold F_X9_back
        rw [en2, f2.1 113 51 (by omega), k3, if_pos rfl, iI_lit, i1, F_X9_back_16, if_pos (by rw [en5, kI_le (by omega) (by omega)]; omega)]
        simp (disch := omega) only [iI_lit, rd_kI, wrI_kI, nm_eq, st_ni, st_ne, en5]
        rw [hm6]
    · exact refuse (by rw [k2, ne_eq, kI_eq (by omega) (by omega)]; exact hk) (by rw [k3, ne_eq, kI_eq (by omega) (by omega)]; exact hk)
