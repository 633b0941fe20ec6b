/-! parents, the next name, sums and cells -/
section
variable {k s : Nat → Int32} {m : Nat} {P par : Nat → Nat} {kY zY cY en hd nm th hY : Nat → Int32} {post : Int32 → Prop}
theorem yp_under_in {x : Nat} {w over x4 : Int32} {J : Int32 → Int32 → Prop} (hm : m ≤ 20) (hn : en 0 = nI m) (H1 : ∀ e, e < m → th e = nI x → hd e = w) (H2 : (∃ e, e < m ∧ th e = nI x) ∨ w = nI x) (h : J w (x4 + 1)) : ∃ n, wY_isUnder_23 post J over (nI x) x4 kY zY cY en hd nm th hY n (nI x) 0 := by
  refine loop_0 (fun n i y => wY_isUnder_23 post J over (nI x) x4 kY zY cY en hd nm th hY n y (nI i)) (fun i y => (y = nI x ∧ ∀ e, e < i → th e ≠ nI x) ∨ y = w) m (nI x) (Or.inl ⟨rfl, fun e h => by omega⟩) ?_ ?_
  · intro n y I
    have e : y = w := by
      rcases I with ⟨e, hz⟩ | e
      · rcases H2 with ⟨j, hj, e2⟩ | e2
        · exact (hz j hj e2).elim
        · exact e.trans e2.symm
      · exact e
    subst e
    exact br_t (by rw [hn]; exact Int32.le_refl _) (nm_e h)
  · intro n i y hi I ih
    refine br_f (by rw [hn]; exact nI_ge hi (by omega)) ⟨vp_in_nI (by omega) (by decide), br_c (fun z => ⟨vp_in_nI (by omega) (by decide), nm_r (e' := w) ?_ (nm_r (nI_1 i) (ih w (Or.inr rfl)))⟩) (fun z => nm_r (nI_1 i) (ih y ?_))⟩
    · rw [na_cl (by omega)] at z ⊢
      exact H1 i hi z
    · rw [na_cl (by omega)] at z
      rcases I with ⟨e, hz⟩ | e
      · refine Or.inl ⟨e, fun j hj => ?_⟩
        by_cases e2 : j = i
        · rw [e2]; exact z
        · exact hz j (by omega)
      · exact Or.inr e
theorem pr_hold (hE : rl_E s hd nm th m P) (hT : rl_T k s par) {x : Nat} (hx : x < 12) (h2 : k x = 2) : (∀ e, e < m → th e = nI x → hd e = nI (par x)) ∧ ((∃ e, e < m ∧ th e = nI x) ∨ nI (par x) = nI x) := by
  obtain ⟨E1, E2, E3, E4⟩ := hE
  by_cases x0 : x = 0
  · subst x0
    refine ⟨fun e he z => ?_, Or.inr (by rw [hT.1])⟩
    obtain ⟨a1, a2, a3, a4, a5⟩ := E2 e he
    exact (a2 (by rw [← a5, z]; exact nI_0)).elim
  · obtain ⟨q, b1, b2, b3, b4⟩ := hT.2.2.1 x (by omega) hx h2
    refine ⟨fun e he z => ?_, Or.inl ?_⟩
    · obtain ⟨a1, a2, a3, a4, a5⟩ := E2 e he
      rw [a3, b4 _ a1 (by rw [← a5, z]), b3]
    · obtain ⟨e, he, e1⟩ := E4 q b1 (by rw [b2]; exact na_nz (by omega) (by omega))
      exact ⟨e, he, by rw [(E2 e he).2.2.2.2, e1, b2]⟩
theorem yp_under_t {d a j0 : Nat} (hE : rl_E s hd nm th m P) (hn : en 0 = nI m) (hK : rl_K k s) (hT : rl_T k s par) (hd12 : d < 12) (h2 : k d = 2) (ha : a < 12) (hj : j0 ≤ 12) (e : it_i par j0 d = a) (hmn : ∀ j, j < j0 → it_i par j d ≠ a) (h : post 1) : wpY_isUnder post (kY, zY, cY, en, hd, nm, th, hY) (nI d) (nI a) := by
  unfold wpY_isUnder
  refine lc_to (fun n i => wY_isUnder_5 post (nI a) kY zY cY en hd nm th hY n (nI (it_i par i d)) (nI i)) 0 j0 (by omega) (fun n => ?_) (fun n i _ hi ih => ?_)
  · have X : wY_isUnder_69 post (nI a) (nI (it_i par j0 d)) kY zY cY en hd nm th hY := br_t (by rw [e]) h
    exact br_c (fun _ => X) (fun _ => br_t (by rw [e]) X)
  · have hdi := tr_dir hK hT hd12 h2 i
    have hp := pr_hold hE hT hdi.1 hdi.2
    refine br_f (nI_ge (b := 12) (by omega) (by decide)) (br_f (na_ne (by omega) (by omega) (hmn i hi)) ?_)
    refine yp_under_in hE.1 hn hp.1 hp.2 ?_
    rw [nI_1, ← it_s par]; exact ih
theorem yp_under_f {d a : Nat} (hE : rl_E s hd nm th m P) (hn : en 0 = nI m) (hK : rl_K k s) (hT : rl_T k s par) (hd12 : d < 12) (h2 : k d = 2) (ha : a < 12) (hmn : ∀ j, j ≤ 12 → it_i par j d ≠ a) (h : post 0) : wpY_isUnder post (kY, zY, cY, en, hd, nm, th, hY) (nI d) (nI a) := by
  unfold wpY_isUnder
  refine lc_to (fun n i => wY_isUnder_5 post (nI a) kY zY cY en hd nm th hY n (nI (it_i par i d)) (nI i)) 0 12 (by omega) (fun n => ?_) (fun n i _ hi ih => ?_)
  · have hdi := tr_dir hK hT hd12 h2 12
    exact br_t (Int32.le_refl _) (br_f (na_ne (by omega) (by omega) (hmn 12 (by omega))) h)
  · have hdi := tr_dir hK hT hd12 h2 i
    have hp := pr_hold hE hT hdi.1 hdi.2
    refine br_f (nI_ge (b := 12) (by omega) (by decide)) (br_f (na_ne (by omega) (by omega) (hmn i (by omega))) ?_)
    refine yp_under_in hE.1 hn hp.1 hp.2 ?_
    rw [nI_1, ← it_s par]; exact ih
/-- the least name behind 'after', as the entries tell it -/
def nx_I (hd nm : Nat → Int32) (d after : Int32) (i : Nat) (r : Int32) : Prop :=
  (r = -4 ∧ ∀ e, e < i → hd e = d → nm e ≤ after) ∨ (∃ e, e < i ∧ hd e = d ∧ ¬ nm e ≤ after ∧ r = nm e ∧ ∀ e', e' < i → hd e' = d → ¬ nm e' ≤ after → nm e ≤ nm e')
theorem yp_next {d : Nat} {after : Int32} (hm : m ≤ 20) (hn : en 0 = nI m) (hd12 : d < 12) (h2 : kY d = 2) (hp : ∀ e, e < m → ¬ nm e < 0) (h : ∀ r, nx_I hd nm (nI d) after m r → post r) : wpY_next post (kY, zY, cY, en, hd, nm, th, hY) (nI d) after := by
  unfold wpY_next
  refine yp_dir_t ⟨d, hd12, rfl, h2⟩ ?_
  refine br_f (by decide) ?_
  refine loop_0 (fun n i y => wY_next_16 post (nI d) after kY zY cY en hd nm th hY n y (nI i)) (fun i y => nx_I hd nm (nI d) after i y) m (-4) (Or.inl ⟨rfl, fun e h => by omega⟩) ?_ ?_
  · exact fun n y I => br_t (by rw [hn]; exact Int32.le_refl _) (h y I)
  · intro n i y hi I ih
    have vi : vp_in (nI i) 40 := vp_in_nI (by omega) (by decide)
    have keep : (hd i = nI d → ¬ nm i ≤ after → ∃ e, e < i ∧ hd e = nI d ∧ ¬ nm e ≤ after ∧ y = nm e ∧ nm e ≤ nm i) → nx_I hd nm (nI d) after (i + 1) y := fun z => by
      rcases I with ⟨e, hz⟩ | ⟨e, a1, a2, a3, a4, a5⟩
      · refine Or.inl ⟨e, fun j hj j1 => ?_⟩
        by_cases e2 : j = i
        · subst e2
          by_cases c : nm j ≤ after
          · exact c
          · obtain ⟨e', b1, b2, b3, _⟩ := z j1 c
            exact (b3 (hz e' b1 b2)).elim
        · exact hz j (by omega) j1
      · refine Or.inr ⟨e, by omega, a2, a3, a4, fun j hj j1 j2 => ?_⟩
        by_cases e2 : j = i
        · subst e2
          obtain ⟨e', b1, b2, b3, b4, b5⟩ := z j1 j2
          rw [← a4, b4]; exact b5
        · exact a5 j (by omega) j1 j2
    have take : hd i = nI d → ¬ nm i ≤ after → (∀ e, e < i → hd e = nI d → ¬ nm e ≤ after → nm i ≤ nm e) → nx_I hd nm (nI d) after (i + 1) (nm i) := fun z1 z2 z3 => by
      refine Or.inr ⟨i, by omega, z1, z2, rfl, fun j hj j1 j2 => ?_⟩
      by_cases e2 : j = i
      · rw [e2]; exact Int32.le_refl _
      · exact z3 j (by omega) j1 j2
    refine br_f (by rw [hn]; exact nI_ge hi (by omega)) ⟨vi, ?_⟩
    rw [na_cl (by omega)]
    refine br_c (fun z1 => ⟨vi, br_c (fun z2 => nm_r (nI_1 i) (ih y (keep (fun _ z => (z z2).elim)))) (fun z2 => br_c (fun z3 => ⟨vi, nm_e (nm_r (nI_1 i) (ih (nm i) (take z1 z2 (fun e he e1 e2 => ?_))))⟩) (fun z3 => ⟨vi, br_c (fun z4 => nm_r (nI_1 i) (ih y (keep (fun _ _ => ?_)))) (fun z4 => ⟨vi, nm_e (nm_r (nI_1 i) (ih (nm i) (take z1 z2 (fun e he e1 e2 => ?_))))⟩)⟩))⟩) (fun z1 => nm_r (nI_1 i) (ih y (keep (fun z => (z1 z).elim))))
    · rcases I with ⟨_, hz⟩ | ⟨e', a1, a2, a3, a4, a5⟩
      · exact (e2 (hz e he e1)).elim
      · rw [a4] at z3; exact (hp e' (by omega) z3).elim
    · rcases I with ⟨e, hz⟩ | ⟨e', a1, a2, a3, a4, a5⟩
      · rw [e] at z3; exact (z3 (by decide)).elim
      · exact ⟨e', a1, a2, a3, a4, by rw [← a4]; exact z4⟩
    · rcases I with ⟨_, hz⟩ | ⟨e', a1, a2, a3, a4, a5⟩
      · exact (e2 (hz e he e1)).elim
      · have := a5 e he e1 e2
        rw [← a4] at this
        rw [Int32.le_iff_toInt_le] at this z4 ⊢
        omega
theorem yp_next_f {v after : Int32} (hv : ¬ is_k kY 2 v) (h : post (-1)) : wpY_next post (kY, zY, cY, en, hd, nm, th, hY) v after := by
  unfold wpY_next
  refine yp_dir_f hv ?_
  exact br_t rfl h
/-! cells -/
theorem yp_cell_f {o : Nat} {v w : Int32} (ho : o < 2) (hv : ¬ ∃ t, t < 12 ∧ v = nI t ∧ kY (12 * o + t) = 1) (h : post 0) : wpY_cellOf post (kY, zY, cY, en, hd, nm, th, hY) (nI o) v w := by
  unfold wpY_cellOf
  refine yp_is_f ho hv ?_
  exact br_t rfl h
theorem yp_cell_t {o t L i : Nat} (ho : o < 2) (ht : t < 12) (hk : kY (12 * o + t) = 1) (hz : zY (12 * o + t) = nI L) (hL : L ≤ 48) (hi : i < L) (h : post (cY (576 * o + (t * 48 + i)))) : wpY_cellOf post (kY, zY, cY, en, hd, nm, th, hY) (nI o) (nI t) (nI i) := by
  unfold wpY_cellOf
  refine yp_is_t ho ht hk ?_
  have e0 : (12 : Int32) * nI o + nI t = nI (12 * o + t) := na_ma 12 o t
  have e1 : (48 : Int32) * nI (12 * o + t) + nI i = nI (576 * o + (t * 48 + i)) := (na_ma 48 (12 * o + t) i).trans (congrArg nI (by omega))
  refine br_f (by decide) (br_f (nI_pos (by omega)) ?_)
  rw [e0, e1, na_cl (by omega), na_cl (by omega), hz]
  exact ⟨vp_in_nI (by omega) (by decide), br_t (nI_lt hi (by omega)) ⟨vp_in_nI (by omega) (by decide), h⟩⟩
theorem yp_cell_z {o t L : Nat} {w : Int32} (ho : o < 2) (ht : t < 12) (hk : kY (12 * o + t) = 1) (hz : zY (12 * o + t) = nI L) (hL : L ≤ 48) (hi : ¬ ∃ i, i < L ∧ w = nI i) (h : post 0) : wpY_cellOf post (kY, zY, cY, en, hd, nm, th, hY) (nI o) (nI t) w := by
  unfold wpY_cellOf
  refine yp_is_t ho ht hk ?_
  have e0 : (12 : Int32) * nI o + nI t = nI (12 * o + t) := na_ma 12 o t
  refine br_f (by decide) ?_
  rcases na_ng (by omega) hi with e | ⟨e1, e2⟩
  · exact br_t e h
  · refine br_f e1 ?_
    rw [e0, na_cl (by omega), hz]
    exact ⟨vp_in_nI (by omega) (by decide), br_f (fun z => by rw [Int32.lt_iff_toInt_lt] at z; rw [Int32.le_iff_toInt_le] at e2; omega) h⟩
theorem yp_sum {v : Int32} {g : Nat → Int32} (hg : ∀ i, i < 48 → ∀ p : Int32 → Prop, p (g i) → wpY_cellOf p (kY, zY, cY, en, hd, nm, th, hY) 0 v (nI i)) (h : post (sm_c g 48)) : wpY_sum post (kY, zY, cY, en, hd, nm, th, hY) v := by
  unfold wpY_sum
  refine lc_to (fun n i => wY_sum_4 post v kY zY cY en hd nm th hY n (sm_c g i) (nI i)) 0 48 (by omega) (fun n => ?_) (fun n i _ hi ih => ?_)
  · exact br_t (Int32.le_refl _) h
  · refine br_f (nI_ge (b := 48) hi (by decide)) ?_
    refine hg i hi _ ?_
    refine nm_r (e' := sm_c g (i + 1)) (by rw [nI_1]; rfl) (nm_r (nI_1 i) ih)
end
theorem xp_slot {d x : Nat} {post : Int32 → Prop} (h : post (nI (d * 64 + x))) : wpX_slotOf post (nI d) (nI x) := by
  unfold wpX_slotOf
  have e0 : nI d * 64 + nI x = nI (d * 64 + x) := na_ma d 64 x
  rw [e0]; exact h
section
variable {k s l c hX sk ss sl sc : Nat → Int32} {post : Int32 → Prop}
theorem xp_next_t {d x : Nat} {after : Int32} (hd : d < 12) (h2 : k d = 2) (hx : x < 64) (ha : ¬ nI x ≤ after) (hs : s (d * 64 + x) ≠ 0) (hu : ∀ y, y < x → nI y ≤ after ∨ s (d * 64 + y) = 0) (h : post (nI x)) : wpX_next post (k, s, l, c, hX, sk, ss, sl, sc) (nI d) after := by
  unfold wpX_next
  refine xp_dir_t ⟨d, hd, rfl, h2⟩ ?_
  refine br_f (by decide) ?_
  refine lc_to (fun n i => wX_next_15 post (nI d) after k s l c hX sk ss sl sc n (nI i)) 0 x (by omega) (fun n => ?_) (fun n i _ hi ih => ?_)
  · refine br_f (nI_ge (b := 64) hx (by decide)) (br_f ha ?_)
    refine xp_slot ?_
    rw [na_cl (by omega)]
    exact ⟨vp_in_nI (by omega) (by decide), br_f hs h⟩
  · refine br_f (nI_ge (b := 64) (by omega) (by decide)) (br_c (fun _ => nm_r (nI_1 i) ih) (fun z => ?_))
    refine xp_slot ?_
    rw [na_cl (by omega)]
    refine ⟨vp_in_nI (by omega) (by decide), br_t ?_ (nm_r (nI_1 i) ih)⟩
    rcases hu i hi with e | e
    · exact (z e).elim
    · exact e
theorem xp_next_n {d : Nat} {after : Int32} (hd : d < 12) (h2 : k d = 2) (hu : ∀ y, y < 64 → nI y ≤ after ∨ s (d * 64 + y) = 0) (h : post (-4)) : wpX_next post (k, s, l, c, hX, sk, ss, sl, sc) (nI d) after := by
  unfold wpX_next
  refine xp_dir_t ⟨d, hd, rfl, h2⟩ ?_
  refine br_f (by decide) ?_
  refine lc_to (fun n i => wX_next_15 post (nI d) after k s l c hX sk ss sl sc n (nI i)) 0 64 (by omega) (fun n => ?_) (fun n i _ hi ih => ?_)
  · exact br_t (Int32.le_refl _) h
  · refine br_f (nI_ge (b := 64) (by omega) (by decide)) (br_c (fun _ => nm_r (nI_1 i) ih) (fun z => ?_))
    refine xp_slot ?_
    rw [na_cl (by omega)]
    refine ⟨vp_in_nI (by omega) (by decide), br_t ?_ (nm_r (nI_1 i) ih)⟩
    rcases hu i hi with e | e
    · exact (z e).elim
    · exact e
theorem xp_next_f {v after : Int32} (hv : ¬ is_k k 2 v) (h : post (-1)) : wpX_next post (k, s, l, c, hX, sk, ss, sl, sc) v after := by
  unfold wpX_next
  refine xp_dir_f hv ?_
  exact br_t rfl h
theorem xp_sum_t {t L : Nat} (ht : t < 12) (hk : k t = 1) (hl : l t = nI L) (hL : L ≤ 48) (h : post (sm_c (fun i => c (t * 48 + i)) L)) : wpX_sum post (k, s, l, c, hX, sk, ss, sl, sc) (nI t) := by
  unfold wpX_sum
  refine xp_file_t ⟨t, ht, rfl, hk⟩ ?_
  refine br_f (by decide) ?_
  refine lc_to (fun n i => wX_sum_17 post (nI t) k s l c hX sk ss sl sc n (sm_c (fun i => c (t * 48 + i)) i) (nI i)) 0 L (by omega) (fun n => ?_) (fun n i _ hi ih => ?_)
  · exact ⟨vp_in_nI ht (by decide), br_t (by rw [na_cl (by omega), hl]; exact Int32.le_refl _) h⟩
  · have e0 : nI t * 48 + nI i = nI (t * 48 + i) := na_ma t 48 i
    refine ⟨vp_in_nI ht (by decide), br_f (by rw [na_cl (by omega), hl]; exact nI_ge hi (by omega)) ?_⟩
    rw [e0, na_cl (by omega)]
    refine ⟨vp_in_nI (by omega) (by decide), nm_r (e' := sm_c (fun i => c (t * 48 + i)) (i + 1)) (by rw [nI_1]; rfl) (nm_r (nI_1 i) ih)⟩
theorem xp_cell_t {t L i : Nat} (ht : t < 12) (hl : l t = nI L) (hL : L ≤ 48) (hi : i < L) (h : post (c (t * 48 + i))) : wpX_cellAt__lengths_cells post (k, s, l, c, hX, sk, ss, sl, sc) (nI t) (nI i) := by
  unfold wpX_cellAt__lengths_cells
  refine xp_num_t ht ?_
  have e0 : nI t * 48 + nI i = nI (t * 48 + i) := na_ma t 48 i
  refine br_f (by decide) (br_f (nI_pos (by omega)) ?_)
  rw [e0, na_cl (by omega), na_cl (by omega), hl]
  exact ⟨vp_in_nI ht (by decide), br_t (nI_lt hi (by omega)) ⟨vp_in_nI (by omega) (by decide), h⟩⟩
theorem xp_cell_z {t L : Nat} {w : Int32} (ht : t < 12) (hl : l t = nI L) (hL : L ≤ 48) (hi : ¬ ∃ i, i < L ∧ w = nI i) (h : post 0) : wpX_cellAt__lengths_cells post (k, s, l, c, hX, sk, ss, sl, sc) (nI t) w := by
  unfold wpX_cellAt__lengths_cells
  refine xp_num_t ht ?_
  refine br_f (by decide) ?_
  rcases na_ng (by omega) hi with e | ⟨e1, e2⟩
  · exact br_t e h
  · refine br_f e1 ?_
    rw [na_cl (by omega), hl]
    exact ⟨vp_in_nI ht (by decide), br_f (fun z => by rw [Int32.lt_iff_toInt_lt] at z; rw [Int32.le_iff_toInt_le] at e2; omega) h⟩
theorem xp_cell_f {v w : Int32} (hv : ¬ ∃ t, t < 12 ∧ v = nI t) (h : post 0) : wpX_cellAt__lengths_cells post (k, s, l, c, hX, sk, ss, sl, sc) v w := by
  unfold wpX_cellAt__lengths_cells
  refine xp_num_f hv ?_
  exact br_t rfl h
theorem xp_at_f {v w : Int32} (hv : ¬ (is_k k 2 v ∧ is_n w)) (h : post (-1)) : wpX_thingAt__kinds_slots post (k, s, l, c, hX, sk, ss, sl, sc) v w := by
  unfold wpX_thingAt__kinds_slots
  refine xp_place_f hv ?_
  exact br_t rfl h
theorem xp_at_t {d x : Nat} (hd : d < 12) (h2 : k d = 2) (hx : x < 64) (h0 : s (d * 64 + x) = 0 → post (-4)) (h1 : s (d * 64 + x) ≠ 0 → post (s (d * 64 + x))) : wpX_thingAt__kinds_slots post (k, s, l, c, hX, sk, ss, sl, sc) (nI d) (nI x) := by
  unfold wpX_thingAt__kinds_slots
  refine xp_place_t hd h2 hx ?_
  refine br_f (by decide) ?_
  refine xp_slot ?_
  rw [na_cl (by omega)]
  exact ⟨vp_in_nI (by omega) (by decide), nm_e (br_c h0 h1)⟩
theorem xs_cell_t {t L i : Nat} (ht : t < 12) (hl : sl t = nI L) (hL : L ≤ 48) (hi : i < L) (h : post (sc (t * 48 + i))) : wpX_cellAt__savedLengths_savedCells post (k, s, l, c, hX, sk, ss, sl, sc) (nI t) (nI i) := by
  unfold wpX_cellAt__savedLengths_savedCells
  refine xp_num_t ht ?_
  have e0 : nI t * 48 + nI i = nI (t * 48 + i) := na_ma t 48 i
  refine br_f (by decide) (br_f (nI_pos (by omega)) ?_)
  rw [e0, na_cl (by omega), na_cl (by omega), hl]
  exact ⟨vp_in_nI ht (by decide), br_t (nI_lt hi (by omega)) ⟨vp_in_nI (by omega) (by decide), h⟩⟩
theorem xs_cell_z {t L : Nat} {w : Int32} (ht : t < 12) (hl : sl t = nI L) (hL : L ≤ 48) (hi : ¬ ∃ i, i < L ∧ w = nI i) (h : post 0) : wpX_cellAt__savedLengths_savedCells post (k, s, l, c, hX, sk, ss, sl, sc) (nI t) w := by
  unfold wpX_cellAt__savedLengths_savedCells
  refine xp_num_t ht ?_
  refine br_f (by decide) ?_
  rcases na_ng (by omega) hi with e | ⟨e1, e2⟩
  · exact br_t e h
  · refine br_f e1 ?_
    rw [na_cl (by omega), hl]
    exact ⟨vp_in_nI ht (by decide), br_f (fun z => by rw [Int32.lt_iff_toInt_lt] at z; rw [Int32.le_iff_toInt_le] at e2; omega) h⟩
theorem xs_cell_f {v w : Int32} (hv : ¬ ∃ t, t < 12 ∧ v = nI t) (h : post 0) : wpX_cellAt__savedLengths_savedCells post (k, s, l, c, hX, sk, ss, sl, sc) v w := by
  unfold wpX_cellAt__savedLengths_savedCells
  refine xp_num_f hv ?_
  exact br_t rfl h
theorem xs_at_f {v w : Int32} (hv : ¬ (is_k sk 2 v ∧ is_n w)) (h : post (-1)) : wpX_thingAt__savedKinds_savedSlots post (k, s, l, c, hX, sk, ss, sl, sc) v w := by
  unfold wpX_thingAt__savedKinds_savedSlots
  refine xs_place_f hv ?_
  exact br_t rfl h
theorem xs_at_t {d x : Nat} (hd : d < 12) (h2 : sk d = 2) (hx : x < 64) (h0 : ss (d * 64 + x) = 0 → post (-4)) (h1 : ss (d * 64 + x) ≠ 0 → post (ss (d * 64 + x))) : wpX_thingAt__savedKinds_savedSlots post (k, s, l, c, hX, sk, ss, sl, sc) (nI d) (nI x) := by
  unfold wpX_thingAt__savedKinds_savedSlots
  refine xs_place_t hd h2 hx ?_
  refine br_f (by decide) ?_
  refine xp_slot ?_
  rw [na_cl (by omega)]
  exact ⟨vp_in_nI (by omega) (by decide), nm_e (br_c h0 h1)⟩
end
