/-! the class's own writes -/
section
variable {k s l c hX sk ss sl sc : Nat → Int32} {post : SX → Prop}
theorem xp_setlen {t n0 : Nat} (ht : t < 12) (hn : n0 ≤ 48) (h : post (k, s, upd l t (nI n0), zf_c c (t * 48 + n0) (t * 48 + 48), hX, sk, ss, sl, sc)) : wpX_setLength post (k, s, l, c, hX, sk, ss, sl, sc) (nI t) (nI n0) := by
  refine lc_to2 (fun n i => wX_setLength_2 post (nI t) (nI n0) n (nI i) k s l (zf_c c (t * 48 + n0) (t * 48 + i)) hX sk ss sl sc) n0 48 hn (fun A => ?_) (fun n => ?_) (fun n i h0 hi ih => ?_)
  · rw [zf_e] at A; exact A
  · exact br_t (Int32.le_refl _) ⟨vp_in_nI ht (by decide), nm_r (by rw [na_cl (by omega)]) h⟩
  · have e0 : nI t * 48 + nI i = nI (t * 48 + i) := na_ma t 48 i
    refine br_f (nI_ge (b := 48) hi (by decide)) ?_
    rw [e0, na_cl (by omega)]
    exact ⟨vp_in_nI (by omega) (by decide), nm_r (zf_u c (by omega)) (nm_r (nI_1 i) ih)⟩
theorem xp_drop_t {t : Nat} (t0 : 0 < t) (ht : t < 12) (ns : ∀ q, q < 768 → s q ≠ nI t) (nh : ∀ i, i < 4 → hX i ≠ nI t) (h : post (upd k t 0, s, upd l t 0, zf_c c (t * 48) (t * 48 + 48), hX, sk, ss, sl, sc)) : wpX_dropIfUnused post (k, s, l, c, hX, sk, ss, sl, sc) (nI t) := by
  unfold wpX_dropIfUnused
  refine xp_for (fun z => (na_nz (by omega) t0 z).elim) (fun _ => ?_)
  rw [cn_zero (fun q hq => decide_eq_false (ns q hq))]
  refine br_f (by decide) ?_
  refine xp_op_f nh ?_
  refine br_t rfl ?_
  refine xp_setlen (n0 := 0) ht (by omega) ?_
  exact ⟨vp_in_nI ht (by decide), nm_r (by rw [na_cl (by omega)]) h⟩
theorem xp_drop_f {t : Nat} (t0 : 0 < t) (ht : t < 12) (hu : (∃ q, q < 768 ∧ s q = nI t) ∨ ∃ i, i < 4 ∧ hX i = nI t) (h : post (k, s, l, c, hX, sk, ss, sl, sc)) : wpX_dropIfUnused post (k, s, l, c, hX, sk, ss, sl, sc) (nI t) := by
  unfold wpX_dropIfUnused
  refine xp_for (fun z => (na_nz (by omega) t0 z).elim) (fun _ => ?_)
  have hle := cn_le (fun q => decide (s q = nI t)) 768
  rcases hu with ⟨q, hq, e⟩ | ⟨i, hi, e⟩
  · exact br_t (nI_lt (a := 0) (cn_pos (p := fun q => decide (s q = nI t)) (decide_eq_true e) hq) (by omega)) h
  · refine br_c (fun _ => h) (fun _ => ?_)
    refine xp_op_t hi e ?_
    exact br_f (by decide) h
theorem xc_kinds (h : post (k, s, l, c, hX, cp_c k sk 12, ss, sl, sc)) : wpX_copy__kinds_savedKinds post (k, s, l, c, hX, sk, ss, sl, sc) 12 := by
  refine lc_to2 (fun n i => wX_copy__kinds_savedKinds_2 post 12 n (nI i) k s l c hX (cp_c k sk i) ss sl sc) 0 12 (by omega) (fun A => ?_) (fun n => ?_) (fun n i h0 hi ih => ?_)
  · rw [cp_0] at A; exact A
  · exact br_t (Int32.le_refl _) h
  · refine br_f (nI_ge (b := 12) hi (by decide)) ?_
    rw [na_cl (by omega)]
    exact ⟨vp_in_nI hi (by decide), vp_in_nI hi (by decide), nm_r (cp_u k sk i) (nm_r (nI_1 i) ih)⟩
theorem xc_savedKinds (h : post (cp_c sk k 12, s, l, c, hX, sk, ss, sl, sc)) : wpX_copy__savedKinds_kinds post (k, s, l, c, hX, sk, ss, sl, sc) 12 := by
  refine lc_to2 (fun n i => wX_copy__savedKinds_kinds_2 post 12 n (nI i) (cp_c sk k i) s l c hX sk ss sl sc) 0 12 (by omega) (fun A => ?_) (fun n => ?_) (fun n i h0 hi ih => ?_)
  · rw [cp_0] at A; exact A
  · exact br_t (Int32.le_refl _) h
  · refine br_f (nI_ge (b := 12) hi (by decide)) ?_
    rw [na_cl (by omega)]
    exact ⟨vp_in_nI hi (by decide), vp_in_nI hi (by decide), nm_r (cp_u sk k i) (nm_r (nI_1 i) ih)⟩
theorem xc_slots (h : post (k, s, l, c, hX, sk, cp_c s ss 768, sl, sc)) : wpX_copy__slots_savedSlots post (k, s, l, c, hX, sk, ss, sl, sc) 768 := by
  refine lc_to2 (fun n i => wX_copy__slots_savedSlots_2 post 768 n (nI i) k s l c hX sk (cp_c s ss i) sl sc) 0 768 (by omega) (fun A => ?_) (fun n => ?_) (fun n i h0 hi ih => ?_)
  · rw [cp_0] at A; exact A
  · exact br_t (Int32.le_refl _) h
  · refine br_f (nI_ge (b := 768) hi (by decide)) ?_
    rw [na_cl (by omega)]
    exact ⟨vp_in_nI hi (by decide), vp_in_nI hi (by decide), nm_r (cp_u s ss i) (nm_r (nI_1 i) ih)⟩
theorem xc_savedSlots (h : post (k, cp_c ss s 768, l, c, hX, sk, ss, sl, sc)) : wpX_copy__savedSlots_slots post (k, s, l, c, hX, sk, ss, sl, sc) 768 := by
  refine lc_to2 (fun n i => wX_copy__savedSlots_slots_2 post 768 n (nI i) k (cp_c ss s i) l c hX sk ss sl sc) 0 768 (by omega) (fun A => ?_) (fun n => ?_) (fun n i h0 hi ih => ?_)
  · rw [cp_0] at A; exact A
  · exact br_t (Int32.le_refl _) h
  · refine br_f (nI_ge (b := 768) hi (by decide)) ?_
    rw [na_cl (by omega)]
    exact ⟨vp_in_nI hi (by decide), vp_in_nI hi (by decide), nm_r (cp_u ss s i) (nm_r (nI_1 i) ih)⟩
theorem xc_lengths (h : post (k, s, l, c, hX, sk, ss, cp_c l sl 12, sc)) : wpX_copy__lengths_savedLengths post (k, s, l, c, hX, sk, ss, sl, sc) 12 := by
  refine lc_to2 (fun n i => wX_copy__lengths_savedLengths_2 post 12 n (nI i) k s l c hX sk ss (cp_c l sl i) sc) 0 12 (by omega) (fun A => ?_) (fun n => ?_) (fun n i h0 hi ih => ?_)
  · rw [cp_0] at A; exact A
  · exact br_t (Int32.le_refl _) h
  · refine br_f (nI_ge (b := 12) hi (by decide)) ?_
    rw [na_cl (by omega)]
    exact ⟨vp_in_nI hi (by decide), vp_in_nI hi (by decide), nm_r (cp_u l sl i) (nm_r (nI_1 i) ih)⟩
theorem xc_savedLengths (h : post (k, s, cp_c sl l 12, c, hX, sk, ss, sl, sc)) : wpX_copy__savedLengths_lengths post (k, s, l, c, hX, sk, ss, sl, sc) 12 := by
  refine lc_to2 (fun n i => wX_copy__savedLengths_lengths_2 post 12 n (nI i) k s (cp_c sl l i) c hX sk ss sl sc) 0 12 (by omega) (fun A => ?_) (fun n => ?_) (fun n i h0 hi ih => ?_)
  · rw [cp_0] at A; exact A
  · exact br_t (Int32.le_refl _) h
  · refine br_f (nI_ge (b := 12) hi (by decide)) ?_
    rw [na_cl (by omega)]
    exact ⟨vp_in_nI hi (by decide), vp_in_nI hi (by decide), nm_r (cp_u sl l i) (nm_r (nI_1 i) ih)⟩
theorem xc_cells (h : post (k, s, l, c, hX, sk, ss, sl, cp_c c sc 576)) : wpX_copy__cells_savedCells post (k, s, l, c, hX, sk, ss, sl, sc) 576 := by
  refine lc_to2 (fun n i => wX_copy__cells_savedCells_2 post 576 n (nI i) k s l c hX sk ss sl (cp_c c sc i)) 0 576 (by omega) (fun A => ?_) (fun n => ?_) (fun n i h0 hi ih => ?_)
  · rw [cp_0] at A; exact A
  · exact br_t (Int32.le_refl _) h
  · refine br_f (nI_ge (b := 576) hi (by decide)) ?_
    rw [na_cl (by omega)]
    exact ⟨vp_in_nI hi (by decide), vp_in_nI hi (by decide), nm_r (cp_u c sc i) (nm_r (nI_1 i) ih)⟩
theorem xc_savedCells (h : post (k, s, l, cp_c sc c 576, hX, sk, ss, sl, sc)) : wpX_copy__savedCells_cells post (k, s, l, c, hX, sk, ss, sl, sc) 576 := by
  refine lc_to2 (fun n i => wX_copy__savedCells_cells_2 post 576 n (nI i) k s l (cp_c sc c i) hX sk ss sl sc) 0 576 (by omega) (fun A => ?_) (fun n => ?_) (fun n i h0 hi ih => ?_)
  · rw [cp_0] at A; exact A
  · exact br_t (Int32.le_refl _) h
  · refine br_f (nI_ge (b := 576) hi (by decide)) ?_
    rw [na_cl (by omega)]
    exact ⟨vp_in_nI hi (by decide), vp_in_nI hi (by decide), nm_r (cp_u sc c i) (nm_r (nI_1 i) ih)⟩
theorem xp_leave {t : Nat} (ht : t < 12) (h : post (k, s, l, c, hX, upd sk t 0, ss, upd sl t 0, zf_c sc (t * 48) (t * 48 + 48))) : wpX_leaveOutOfSaved post (k, s, l, c, hX, sk, ss, sl, sc) (nI t) := by
  unfold wpX_leaveOutOfSaved
  refine ⟨vp_in_nI ht (by decide), nm_r (e' := upd sk t 0) (by rw [na_cl (by omega)]) ⟨vp_in_nI ht (by decide), nm_r (e' := upd sl t 0) (by rw [na_cl (by omega)]) ?_⟩⟩
  refine lc_to2 (fun n i => wX_leaveOutOfSaved_16 post (nI t) n (nI i) k s l c hX (upd sk t 0) ss (upd sl t 0) (zf_c sc (t * 48) (t * 48 + i))) 0 48 (by omega) (fun A => ?_) (fun n => ?_) (fun n i h0 hi ih => ?_)
  · rw [Nat.add_zero, zf_e] at A; exact A
  · exact br_t (Int32.le_refl _) h
  · have e0 : nI t * 48 + nI i = nI (t * 48 + i) := na_ma t 48 i
    refine br_f (nI_ge (b := 48) hi (by decide)) ?_
    rw [e0, na_cl (by omega)]
    exact ⟨vp_in_nI (by omega) (by decide), nm_r (zf_u sc (by omega)) (nm_r (nI_1 i) ih)⟩
/-- what saving leaves behind -/
def sv_x (k s l c sk sl sc : Nat → Int32) (t : Nat) : Prop :=
  (k t = 1 ∧ (∀ q, q < 768 → s q ≠ nI t) ∧ sk t = 0 ∧ sl t = 0 ∧ ∀ i, i < 48 → sc (t * 48 + i) = 0) ∨
  ((k t = 1 → ∃ q, q < 768 ∧ s q = nI t) ∧ sk t = k t ∧ sl t = l t ∧ ∀ i, i < 48 → sc (t * 48 + i) = c (t * 48 + i))
theorem xp_save (k0 : k 0 = 2) (h : ∀ sk' sl' sc', (∀ t, t < 12 → sv_x k s l c sk' sl' sc' t) → post (k, s, l, c, hX, sk', cp_c s ss 768, sl', sc')) : wpX_save post (k, s, l, c, hX, sk, ss, sl, sc) := by
  unfold wpX_save
  refine xc_kinds ?_
  refine xc_slots ?_
  refine xc_lengths ?_
  refine xc_cells ?_
  refine loop_0 (σ := (Nat → Int32) × (Nat → Int32) × (Nat → Int32)) (fun n i w => wX_save_56 post n (nI i) k s l c hX w.1 (cp_c s ss 768) w.2.1 w.2.2)
    (fun i w => (∀ t, t < 12 → t < i → sv_x k s l c w.1 w.2.1 w.2.2 t) ∧ ∀ t, t < 12 → i ≤ t → w.1 t = k t ∧ w.2.1 t = l t ∧ ∀ j, j < 48 → w.2.2 (t * 48 + j) = c (t * 48 + j)) 12 (cp_c k sk 12, cp_c l sl 12, cp_c c sc 576) ?_ ?_ ?_
  · refine ⟨fun t _ h => by omega, fun t ht _ => ⟨cp_in ht, cp_in ht, fun j hj => cp_in (by omega)⟩⟩
  · rintro n ⟨sk', sl', sc'⟩ ⟨I1, _⟩
    exact br_t (Int32.le_refl _) (h sk' sl' sc' (fun t ht => I1 t ht ht))
  · rintro n i ⟨sk', sl', sc'⟩ hi ⟨I1, I2⟩ ih
    dsimp only at I1 I2 ih ⊢
    obtain ⟨a1, a2, a3⟩ := I2 i hi (Nat.le_refl i)
    refine br_f (nI_ge (b := 12) hi (by decide)) ?_
    have keep : (k i = 1 → ∃ q, q < 768 ∧ s q = nI i) → wX_save_56 post n (nI i + 1) k s l c hX sk' (cp_c s ss 768) sl' sc' := fun z => by
      rw [nI_1]
      refine ih (sk', sl', sc') ⟨fun t ht h => ?_, fun t ht h => I2 t ht (by omega)⟩
      by_cases e : t = i
      · subst e; exact Or.inr ⟨z, a1, a2, a3⟩
      · exact I1 t ht (by omega)
    by_cases kf : k i = 1
    · have i0 : 0 < i := by
        rcases Nat.eq_zero_or_pos i with z | z
        · rw [z, k0] at kf; exact absurd kf (by decide)
        · exact z
      refine xp_file_t ⟨i, hi, rfl, kf⟩ ?_
      refine br_f (by decide) ?_
      refine xp_for (fun z => (na_nz (by omega) i0 z).elim) (fun _ => ?_)
      refine br_c (fun z => ?_) (fun z => nm_e (keep (fun _ => ef_n z)))
      have nz := ef_z z
      refine xp_leave hi ?_
      refine nm_r (nI_1 i) ?_
      refine ih (upd sk' i 0, upd sl' i 0, zf_c sc' (i * 48) (i * 48 + 48)) ⟨fun t ht h => ?_, fun t ht h => ?_⟩
      · by_cases e : t = i
        · subst e; exact Or.inl ⟨kf, nz, pk_us, pk_us, fun j hj => zf_in (by omega) (by omega)⟩
        · rcases I1 t ht (by omega) with ⟨b1, b2, b3, b4, b5⟩ | ⟨b1, b2, b3, b4⟩
          · exact Or.inl ⟨b1, b2, (pk_un e).trans b3, (pk_un e).trans b4, fun j hj => (zf_out (by omega)).trans (b5 j hj)⟩
          · exact Or.inr ⟨b1, (pk_un e).trans b2, (pk_un e).trans b3, fun j hj => (zf_out (by omega)).trans (b4 j hj)⟩
      · obtain ⟨b1, b2, b3⟩ := I2 t ht (by omega)
        exact ⟨(pk_un (by omega)).trans b1, (pk_un (by omega)).trans b2, fun j hj => (zf_out (by omega)).trans (b3 j hj)⟩
    · refine xp_file_f (fun ⟨t, h1, h2, h3⟩ => ?_) ?_
      · rw [na_eq (by omega) (by omega) h2] at kf; exact kf h3
      · exact br_t rfl (nm_e (keep (fun z => (kf z).elim)))
theorem xp_back (h : post (cp_c sk k 12, cp_c ss s 768, cp_c sl l 12, cp_c sc c 576, zf_c hX 0 4, sk, ss, sl, sc)) : wpX_goBackToSaved post (k, s, l, c, hX, sk, ss, sl, sc) := by
  unfold wpX_goBackToSaved
  refine xc_savedKinds ?_
  refine xc_savedSlots ?_
  refine xc_savedLengths ?_
  refine xc_savedCells ?_
  refine lc_to2 (fun n i => wX_goBackToSaved_56 post n (nI i) (cp_c sk k 12) (cp_c ss s 768) (cp_c sl l 12) (cp_c sc c 576) (zf_c hX 0 i) sk ss sl sc) 0 4 (by omega) (fun A => ?_) (fun n => ?_) (fun n i h0 hi ih => ?_)
  · rw [zf_e] at A; exact A
  · exact br_t (Int32.le_refl _) h
  · refine br_f (nI_ge (b := 4) hi (by decide)) ?_
    rw [na_cl (by omega)]
    exact ⟨vp_in_nI hi (by decide), nm_r (zf_u hX (by omega)) (nm_r (nI_1 i) ih)⟩
end
