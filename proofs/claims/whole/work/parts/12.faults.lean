/-! no faults -/
section
variable {k s l c hX sk ss sl sc : Nat → Int32} {post : Int32 → Prop}
theorem ft_div {i : Nat} (hi : i < 768) : nI i / 64 = nI (i / 64) := pk_div (a := i) (d := 64) (by omega) (by omega) (by decide)
theorem xp_ef (hK : rl_K k s) (hc : cn_c (fun q => decide (¬ s q = 0)) 768 ≤ 20) (h : post 0) : wpX_entryFaults__kinds_slots post (k, s, l, c, hX, sk, ss, sl, sc) := by
  unfold wpX_entryFaults__kinds_slots
  refine xp_all ?_
  refine br_t (nI_le (b := 20) hc (by decide)) ?_
  refine lc_to (fun n i => wX_entryFaults__kinds_slots_17 post k s l c hX sk ss sl sc n 0 (nI i)) 0 768 (by omega) (fun n => ?_) (fun n i _ hi ih => ?_)
  · exact br_t (Int32.le_refl _) h
  · refine br_f (nI_ge (b := 768) hi (by decide)) ⟨vp_in_nI hi (by decide), ?_⟩
    rw [na_cl (by omega)]
    refine nm_e (br_c (fun _ => nm_r (nI_1 i) ih) (fun z => ?_))
    obtain ⟨t, t0, t1, a1, a2, a3⟩ := hK.2.2 i hi z
    have K60 : wX_entryFaults__kinds_slots_60 post (wX_entryFaults__kinds_slots_17 post k s l c hX sk ss sl sc n) 0 (nI i) 1 k s l c hX sk ss sl sc := by
      refine br_f (by decide) ⟨by decide, ?_⟩
      rw [ft_div hi]
      refine xp_dir_t ⟨i / 64, by omega, rfl, a3⟩ ?_
      exact br_f (by decide) (nm_r (nI_1 i) ih)
    rw [a1]
    rcases hK.2.1 t t1 with e | e | e
    · exact (a2 e).elim
    · refine xp_file_t ⟨t, t1, rfl, e⟩ ?_
      exact br_f (by decide) K60
    · refine xp_file_f (fun ⟨y, y1, y2, y3⟩ => ?_) ?_
      · rw [← na_eq (by omega) (by omega) y2, e] at y3; exact absurd y3 (by decide)
      · refine br_t rfl ?_
        refine xp_dir_t ⟨t, t1, rfl, e⟩ ?_
        exact br_f (by decide) K60
theorem xp_tf {par : Nat → Nat} (hK : rl_K k s) (hT : rl_T k s par) (h : post 0) : wpX_treeFaults__kinds_slots post (k, s, l, c, hX, sk, ss, sl, sc) := by
  unfold wpX_treeFaults__kinds_slots
  refine xp_dir_t ⟨0, by omega, rfl, hK.1⟩ ?_
  refine br_f (by decide) ?_
  refine lc_to (fun n i => wX_treeFaults__kinds_slots_16 post k s l c hX sk ss sl sc n 0 (nI i)) 1 12 (by omega) (fun n => ?_) (fun n i i0 hi ih => ?_)
  · exact br_t (Int32.le_refl _) h
  · refine br_f (nI_ge (b := 12) hi (by decide)) ?_
    by_cases e : k i = 2
    · obtain ⟨q, a1, a2, a3, a4⟩ := hT.2.2.1 i i0 hi e
      refine xp_dir_t ⟨i, hi, rfl, e⟩ ?_
      refine br_f (by decide) ?_
      refine xp_for (fun z => (na_nz (by omega) i0 z).elim) (fun _ => ?_)
      rw [cn_one (i := q) a1 (decide_eq_true a2) (fun j hj hp => a4 j hj (of_decide_eq_true hp))]
      refine br_t rfl ?_
      obtain ⟨j0, b1, b2⟩ := pk_least (fun j => it_i par j i = 0) (hT.2.2.2 i hi e)
      have b3 := it_11 hT.1 hT.2.1 hi (hT.2.2.2 i hi e)
      have b4 : j0 ≤ 11 := Nat.le_of_not_lt fun z => b2 11 z b3
      refine xp_below_t (a := 0) hK hT hi e (by omega) (by omega) b1 b2 ?_
      exact br_f (by decide) (nm_r (nI_1 i) ih)
    · refine xp_dir_f (fun ⟨y, y1, y2, y3⟩ => ?_) ?_
      · rw [← na_eq (by omega) (by omega) y2] at y3; exact e y3
      · exact br_t rfl (nm_r (nI_1 i) ih)
theorem xp_cf {kY zY cY : Nat → Int32} {L : Nat → Nat} (hL : rl_L k l c kY zY cY L) (h : post 0) : wpX_cellFaults__kinds_lengths_cells post (k, s, l, c, hX, sk, ss, sl, sc) := by
  unfold wpX_cellFaults__kinds_lengths_cells
  refine lc_to (fun n i => wX_cellFaults__kinds_lengths_cells_5 post k s l c hX sk ss sl sc n 0 (nI i)) 0 12 (by omega) (fun n => ?_) (fun n i _ hi ih => ?_)
  · exact br_t (Int32.le_refl _) h
  · obtain ⟨b1, b2, b3, b4, _⟩ := hL i hi
    refine br_f (nI_ge (b := 12) hi (by decide)) ?_
    have A : ∀ n0 : Nat, L i ≤ n0 → n0 ≤ 48 → wX_cellFaults__kinds_lengths_cells_27 post (wX_cellFaults__kinds_lengths_cells_5 post k s l c hX sk ss sl sc n) 0 (nI i) (nI n0) k s l c hX sk ss sl sc := fun n0 h0 h48 => by
      unfold wX_cellFaults__kinds_lengths_cells_27
      rw [na_cl (by omega), b1]
      refine ⟨vp_in_nI hi (by decide), br_f (nI_pos (by omega)) ⟨vp_in_nI hi (by decide), br_t (nI_le h0 (by omega)) ?_⟩⟩
      refine lc_to (fun n1 j => wX_cellFaults__kinds_lengths_cells_51 post (wX_cellFaults__kinds_lengths_cells_5 post k s l c hX sk ss sl sc n) (nI i) k s l c hX sk ss sl sc n1 0 (nI j)) 0 48 (by omega) (fun n1 => ?_) (fun n1 j _ hj ih1 => ?_)
      · exact br_t (Int32.le_refl _) (nm_r (nI_1 i) ih)
      · have e0 : nI i * 48 + nI j = nI (i * 48 + j) := na_ma i 48 j
        refine br_f (nI_ge (b := 48) hj (by decide)) ?_
        rw [e0, na_cl (n := i * 48 + j) (by omega), na_cl (by omega), b1]
        refine ⟨vp_in_nI hi (by decide), br_c (fun _ => nm_r (nI_1 j) ih1) (fun z => ⟨vp_in_nI (by omega) (by decide), br_t (b4 j ?_ hj) (nm_r (nI_1 j) ih1)⟩)⟩
        exact Nat.le_of_not_lt fun w => z (nI_lt w (by omega))
    by_cases e : k i = 1
    · refine xp_file_t ⟨i, hi, rfl, e⟩ ?_
      exact br_f (by decide) (A 48 b2 (Nat.le_refl 48))
    · refine xp_file_f (fun ⟨y, y1, y2, y3⟩ => ?_) ?_
      · rw [← na_eq (by omega) (by omega) y2] at y3; exact e y3
      · exact br_t rfl (A 0 (by have := b3 e; omega) (by omega))
theorem xs_ef (hK : rl_K sk ss) (hc : cn_c (fun q => decide (¬ ss q = 0)) 768 ≤ 20) (h : post 0) : wpX_entryFaults__savedKinds_savedSlots post (k, s, l, c, hX, sk, ss, sl, sc) := by
  unfold wpX_entryFaults__savedKinds_savedSlots
  refine xs_all ?_
  refine br_t (nI_le (b := 20) hc (by decide)) ?_
  refine lc_to (fun n i => wX_entryFaults__savedKinds_savedSlots_17 post k s l c hX sk ss sl sc n 0 (nI i)) 0 768 (by omega) (fun n => ?_) (fun n i _ hi ih => ?_)
  · exact br_t (Int32.le_refl _) h
  · refine br_f (nI_ge (b := 768) hi (by decide)) ⟨vp_in_nI hi (by decide), ?_⟩
    rw [na_cl (by omega)]
    refine nm_e (br_c (fun _ => nm_r (nI_1 i) ih) (fun z => ?_))
    obtain ⟨t, t0, t1, a1, a2, a3⟩ := hK.2.2 i hi z
    have K60 : wX_entryFaults__savedKinds_savedSlots_60 post (wX_entryFaults__savedKinds_savedSlots_17 post k s l c hX sk ss sl sc n) 0 (nI i) 1 k s l c hX sk ss sl sc := by
      refine br_f (by decide) ⟨by decide, ?_⟩
      rw [ft_div hi]
      refine xs_dir_t ⟨i / 64, by omega, rfl, a3⟩ ?_
      exact br_f (by decide) (nm_r (nI_1 i) ih)
    rw [a1]
    rcases hK.2.1 t t1 with e | e | e
    · exact (a2 e).elim
    · refine xs_file_t ⟨t, t1, rfl, e⟩ ?_
      exact br_f (by decide) K60
    · refine xs_file_f (fun ⟨y, y1, y2, y3⟩ => ?_) ?_
      · rw [← na_eq (by omega) (by omega) y2, e] at y3; exact absurd y3 (by decide)
      · refine br_t rfl ?_
        refine xs_dir_t ⟨t, t1, rfl, e⟩ ?_
        exact br_f (by decide) K60
theorem xs_tf {par : Nat → Nat} (hK : rl_K sk ss) (hT : rl_T sk ss par) (h : post 0) : wpX_treeFaults__savedKinds_savedSlots post (k, s, l, c, hX, sk, ss, sl, sc) := by
  unfold wpX_treeFaults__savedKinds_savedSlots
  refine xs_dir_t ⟨0, by omega, rfl, hK.1⟩ ?_
  refine br_f (by decide) ?_
  refine lc_to (fun n i => wX_treeFaults__savedKinds_savedSlots_16 post k s l c hX sk ss sl sc n 0 (nI i)) 1 12 (by omega) (fun n => ?_) (fun n i i0 hi ih => ?_)
  · exact br_t (Int32.le_refl _) h
  · refine br_f (nI_ge (b := 12) hi (by decide)) ?_
    by_cases e : sk i = 2
    · obtain ⟨q, a1, a2, a3, a4⟩ := hT.2.2.1 i i0 hi e
      refine xs_dir_t ⟨i, hi, rfl, e⟩ ?_
      refine br_f (by decide) ?_
      refine xs_for (fun z => (na_nz (by omega) i0 z).elim) (fun _ => ?_)
      rw [cn_one (i := q) a1 (decide_eq_true a2) (fun j hj hp => a4 j hj (of_decide_eq_true hp))]
      refine br_t rfl ?_
      obtain ⟨j0, b1, b2⟩ := pk_least (fun j => it_i par j i = 0) (hT.2.2.2 i hi e)
      have b3 := it_11 hT.1 hT.2.1 hi (hT.2.2.2 i hi e)
      have b4 : j0 ≤ 11 := Nat.le_of_not_lt fun z => b2 11 z b3
      refine xs_below_t (a := 0) hK hT hi e (by omega) (by omega) b1 b2 ?_
      exact br_f (by decide) (nm_r (nI_1 i) ih)
    · refine xs_dir_f (fun ⟨y, y1, y2, y3⟩ => ?_) ?_
      · rw [← na_eq (by omega) (by omega) y2] at y3; exact e y3
      · exact br_t rfl (nm_r (nI_1 i) ih)
theorem xs_cf {kY zY cY : Nat → Int32} {L : Nat → Nat} (hL : rl_L sk sl sc kY zY cY L) (h : post 0) : wpX_cellFaults__savedKinds_savedLengths_savedCells post (k, s, l, c, hX, sk, ss, sl, sc) := by
  unfold wpX_cellFaults__savedKinds_savedLengths_savedCells
  refine lc_to (fun n i => wX_cellFaults__savedKinds_savedLengths_savedCells_5 post k s l c hX sk ss sl sc n 0 (nI i)) 0 12 (by omega) (fun n => ?_) (fun n i _ hi ih => ?_)
  · exact br_t (Int32.le_refl _) h
  · obtain ⟨b1, b2, b3, b4, _⟩ := hL i hi
    refine br_f (nI_ge (b := 12) hi (by decide)) ?_
    have A : ∀ n0 : Nat, L i ≤ n0 → n0 ≤ 48 → wX_cellFaults__savedKinds_savedLengths_savedCells_27 post (wX_cellFaults__savedKinds_savedLengths_savedCells_5 post k s l c hX sk ss sl sc n) 0 (nI i) (nI n0) k s l c hX sk ss sl sc := fun n0 h0 h48 => by
      unfold wX_cellFaults__savedKinds_savedLengths_savedCells_27
      rw [na_cl (by omega), b1]
      refine ⟨vp_in_nI hi (by decide), br_f (nI_pos (by omega)) ⟨vp_in_nI hi (by decide), br_t (nI_le h0 (by omega)) ?_⟩⟩
      refine lc_to (fun n1 j => wX_cellFaults__savedKinds_savedLengths_savedCells_51 post (wX_cellFaults__savedKinds_savedLengths_savedCells_5 post k s l c hX sk ss sl sc n) (nI i) k s l c hX sk ss sl sc n1 0 (nI j)) 0 48 (by omega) (fun n1 => ?_) (fun n1 j _ hj ih1 => ?_)
      · exact br_t (Int32.le_refl _) (nm_r (nI_1 i) ih)
      · have e0 : nI i * 48 + nI j = nI (i * 48 + j) := na_ma i 48 j
        refine br_f (nI_ge (b := 48) hj (by decide)) ?_
        rw [e0, na_cl (n := i * 48 + j) (by omega), na_cl (by omega), b1]
        refine ⟨vp_in_nI hi (by decide), br_c (fun _ => nm_r (nI_1 j) ih1) (fun z => ⟨vp_in_nI (by omega) (by decide), br_t (b4 j ?_ hj) (nm_r (nI_1 j) ih1)⟩)⟩
        exact Nat.le_of_not_lt fun w => z (nI_lt w (by omega))
    by_cases e : sk i = 1
    · refine xs_file_t ⟨i, hi, rfl, e⟩ ?_
      exact br_f (by decide) (A 48 b2 (Nat.le_refl 48))
    · refine xs_file_f (fun ⟨y, y1, y2, y3⟩ => ?_) ?_
      · rw [← na_eq (by omega) (by omega) y2] at y3; exact e y3
      · exact br_t rfl (A 0 (by have := b3 e; omega) (by omega))
theorem xp_hf {hY : Nat → Int32} (hH : rl_H k hX hY) (h : post 0) : wpX_handleFaults post (k, s, l, c, hX, sk, ss, sl, sc) := by
  unfold wpX_handleFaults
  refine lc_to (fun n i => wX_handleFaults_4 post k s l c hX sk ss sl sc n 0 (nI i)) 0 4 (by omega) (fun n => ?_) (fun n i _ hi ih => ?_)
  · exact br_t (Int32.le_refl _) h
  · refine br_f (nI_ge (b := 4) hi (by decide)) ⟨vp_in_nI hi (by decide), ?_⟩
    rw [na_cl (by omega)]
    rcases hH i hi with ⟨e, _⟩ | ⟨t, t0, t1, a1, a2, a3⟩
    · exact br_t e (nm_r (nI_1 i) ih)
    · rw [a2]
      refine br_f (na_nz (by omega) t0) ⟨vp_in_nI hi (by decide), ?_⟩
      refine xp_file_t ⟨t, t1, rfl, a1⟩ ?_
      exact br_f (by decide) (nm_r (nI_1 i) ih)
theorem xp_uf (k0 : k 0 = 2) (s0 : sk 0 = 2) (hU : rl_U k s hX) (hW : rl_W sk ss) (h : post 0) : wpX_unusedFaults post (k, s, l, c, hX, sk, ss, sl, sc) := by
  unfold wpX_unusedFaults
  refine lc_to (fun n i => wX_unusedFaults_4 post k s l c hX sk ss sl sc n 0 (nI i)) 0 12 (by omega) (fun n => ?_) (fun n i _ hi ih => ?_)
  · exact br_t (Int32.le_refl _) h
  · refine br_f (nI_ge (b := 12) hi (by decide)) ?_
    have A : wX_unusedFaults_43 post (wX_unusedFaults_4 post k s l c hX sk ss sl sc n) 0 (nI i) k s l c hX sk ss sl sc := by
      unfold wX_unusedFaults_43
      by_cases e : sk i = 1
      · refine xs_file_t ⟨i, hi, rfl, e⟩ ?_
        refine br_f (by decide) ?_
        refine xs_for (fun z => (na_nz (by omega) (us_x0 s0 e) z).elim) (fun _ => ?_)
        obtain ⟨q, q1, q2⟩ := hW i hi e
        have hle := cn_le (fun q => decide (ss q = nI i)) 768
        exact br_f (na_nz (by omega) (cn_pos (p := fun q => decide (ss q = nI i)) (decide_eq_true q2) q1)) (nm_r (nI_1 i) ih)
      · refine xs_file_f (fun ⟨y, y1, y2, y3⟩ => ?_) ?_
        · rw [← na_eq (by omega) (by omega) y2] at y3; exact e y3
        · exact br_t rfl (nm_r (nI_1 i) ih)
    by_cases e : k i = 1
    · refine xp_file_t ⟨i, hi, rfl, e⟩ ?_
      refine br_f (by decide) ?_
      refine xp_for (fun z => (na_nz (by omega) (us_x0 k0 e) z).elim) (fun _ => ?_)
      refine br_c (fun z => ?_) (fun _ => A)
      have nz := ef_z z
      rcases hU i hi e with ⟨q, q1, q2⟩ | ⟨j, j1, j2⟩
      · exact (nz q q1 q2).elim
      · refine xp_op_t j1 j2 ?_
        exact br_f (by decide) A
    · refine xp_file_f (fun ⟨y, y1, y2, y3⟩ => ?_) ?_
      · rw [← na_eq (by omega) (by omega) y2] at y3; exact e y3
      · exact br_t rfl A
end
theorem i_vc_faults {k : Nat} {u : SX} {v : SY} (I : i_Rel k u v) (hk : k + 5 ≤ 2560) : wpX_faults (fun r => wpY_faults (fun r' => r' = r ∧ i_Rel (k + 5) u v) v) u := by
  obtain ⟨k, s, l, c, hX, sk, ss, sl, sc⟩ := u
  obtain ⟨kY, zY, cY, en, hd, nm, th, hY⟩ := v
  obtain ⟨m, P, par, L, ⟨g1, g2, g3, g4, g5, g6⟩, U⟩ := nw_G I.1
  obtain ⟨⟨⟨m', P', f1, f2⟩, f3, ⟨par', f4⟩, ⟨L', f5⟩⟩, W⟩ := I.2
  unfold wpX_faults
  refine xp_ef g3 (by rw [ct_all g2]; exact g2.1) ?_
  refine xp_tf g3 g4 ?_
  refine xp_cf g5 ?_
  refine nm_r (e' := 0) rfl ?_
  refine xs_ef f3 (by rw [ct_all f2]; exact f2.1) ?_
  refine xs_tf f3 f4 ?_
  refine xs_cf f5 ?_
  refine nm_r (e' := 0) rfl ?_
  refine xp_hf g6 ?_
  refine xp_uf g3.1 f3.1 U W ?_
  unfold wpY_faults
  exact ⟨rfl, I⟩
