/-! the class's questions about its state, each with a general post -/
def is_k (k : Nat → Int32) (a v : Int32) : Prop := ∃ t, t < 12 ∧ v = nI t ∧ k t = a
def is_n (v : Int32) : Prop := ∃ x, x < 64 ∧ v = nI x
theorem na_ng {v : Int32} {n : Nat} (hn : n < 1000000) (h : ¬ ∃ t, t < n ∧ v = nI t) : v < 0 ∨ (¬ v < 0 ∧ nI n ≤ v) := by
  rcases pk_ix v (n := n) (by omega) with e | e | e
  · exact Or.inl e
  · by_cases z : v < 0
    · exact Or.inl z
    · exact Or.inr ⟨z, e⟩
  · exact (h e).elim
theorem na_ok (v : Int32) {t n : Nat} (hn : n < 1000000) (h : t < n) (e : v = nI t) : ¬ v < 0 ∧ ¬ nI n ≤ v := by
  subst e
  exact ⟨nI_pos (by omega), nI_ge h (by omega)⟩
section
variable {k s l c hX sk ss sl sc : Nat → Int32} {post : Int32 → Prop}
theorem xp_num_t {t : Nat} (ht : t < 12) (h : post 1) : wpX_isNumber post (nI t) :=
  br_f (nI_pos (by omega)) (br_f (nI_ge (b := 12) ht (by decide)) h)
theorem xp_num_f {v : Int32} (hv : ¬ ∃ t, t < 12 ∧ v = nI t) (h : post 0) : wpX_isNumber post v := by
  rcases na_ng (by decide) hv with e | ⟨e1, e2⟩
  · exact br_t e h
  · exact br_f e1 (br_t e2 h)
theorem xp_hd_t {t : Nat} (ht : t < 4) (h : post 1) : wpX_isHandle post (nI t) :=
  br_f (nI_pos (by omega)) (br_f (nI_ge (b := 4) ht (by decide)) h)
theorem xp_hd_f {v : Int32} (hv : ¬ ∃ t, t < 4 ∧ v = nI t) (h : post 0) : wpX_isHandle post v := by
  rcases na_ng (by decide) hv with e | ⟨e1, e2⟩
  · exact br_t e h
  · exact br_f e1 (br_t e2 h)
theorem xp_dir_t {v : Int32} (hv : is_k k 2 v) (h : post 1) : wpX_isDirectory__kinds post (k, s, l, c, hX, sk, ss, sl, sc) v := by
  obtain ⟨t, ht, rfl, e⟩ := hv
  unfold wpX_isDirectory__kinds
  refine xp_num_t ht ?_
  exact br_f (by decide) ⟨vp_in_nI ht (by decide), br_t (by rw [nI_clamp (by omega)]; exact e) h⟩
theorem xp_dir_f {v : Int32} (hv : ¬ is_k k 2 v) (h : post 0) : wpX_isDirectory__kinds post (k, s, l, c, hX, sk, ss, sl, sc) v := by
  unfold wpX_isDirectory__kinds
  by_cases z : ∃ t, t < 12 ∧ v = nI t
  · obtain ⟨t, ht, rfl⟩ := z
    refine xp_num_t ht ?_
    exact br_f (by decide) ⟨vp_in_nI ht (by decide), br_f (by rw [nI_clamp (by omega)]; exact fun e => hv ⟨t, ht, rfl, e⟩) h⟩
  · refine xp_num_f z ?_
    exact br_t rfl h
theorem xp_file_t {v : Int32} (hv : is_k k 1 v) (h : post 1) : wpX_isFile__kinds post (k, s, l, c, hX, sk, ss, sl, sc) v := by
  obtain ⟨t, ht, rfl, e⟩ := hv
  unfold wpX_isFile__kinds
  refine xp_num_t ht ?_
  exact br_f (by decide) ⟨vp_in_nI ht (by decide), br_t (by rw [nI_clamp (by omega)]; exact e) h⟩
theorem xp_file_f {v : Int32} (hv : ¬ is_k k 1 v) (h : post 0) : wpX_isFile__kinds post (k, s, l, c, hX, sk, ss, sl, sc) v := by
  unfold wpX_isFile__kinds
  by_cases z : ∃ t, t < 12 ∧ v = nI t
  · obtain ⟨t, ht, rfl⟩ := z
    refine xp_num_t ht ?_
    exact br_f (by decide) ⟨vp_in_nI ht (by decide), br_f (by rw [nI_clamp (by omega)]; exact fun e => hv ⟨t, ht, rfl, e⟩) h⟩
  · refine xp_num_f z ?_
    exact br_t rfl h
theorem xp_place_t {d x : Nat} (hd : d < 12) (h2 : k d = 2) (hx : x < 64) (h : post 1) : wpX_isPlace__kinds post (k, s, l, c, hX, sk, ss, sl, sc) (nI d) (nI x) := by
  unfold wpX_isPlace__kinds
  refine xp_dir_t ⟨d, hd, rfl, h2⟩ ?_
  exact br_f (by decide) (br_f (nI_pos (by omega)) (br_f (nI_ge (b := 64) hx (by decide)) h))
theorem xp_place_f {v w : Int32} (hv : ¬ (is_k k 2 v ∧ is_n w)) (h : post 0) : wpX_isPlace__kinds post (k, s, l, c, hX, sk, ss, sl, sc) v w := by
  unfold wpX_isPlace__kinds
  by_cases z : is_k k 2 v
  · refine xp_dir_t z ?_
    refine br_f (by decide) ?_
    rcases na_ng (n := 64) (by decide) (fun e => hv ⟨z, e⟩) with e | ⟨e1, e2⟩
    · exact br_t e h
    · exact br_f e1 (br_t e2 h)
  · refine xp_dir_f z ?_
    exact br_t rfl h
theorem xp_all (h : post (nI (cn_c (fun q => decide (¬ s q = 0)) 768))) : wpX_allEntries__slots post (k, s, l, c, hX, sk, ss, sl, sc) := by
  refine lc_to (fun n i => wX_allEntries__slots_4 post k s l c hX sk ss sl sc n (nI (cn_c (fun q => decide (¬ s q = 0)) i)) (nI i)) 0 768 (by omega) (fun n => ?_) (fun n i _ hi ih => ?_)
  · exact br_t (Int32.le_refl _) h
  · refine br_f (nI_ge (b := 768) hi (by decide)) ⟨vp_in_nI hi (by decide), br_c (fun z => ?_) (fun z => ?_)⟩
    · rw [nI_clamp (by omega)] at z
      refine nm_r (nI_1 i) ?_
      rw [cn_f (by simp [z])] at ih; exact ih
    · rw [nI_clamp (by omega)] at z
      refine nm_r (cn_t (p := fun q => decide (¬ s q = 0)) (decide_eq_true z)) (nm_r (nI_1 i) ih)
theorem xp_for {v : Int32} (h0 : v = 0 → post 0) (h : v ≠ 0 → post (nI (cn_c (fun q => decide (s q = v)) 768))) : wpX_entriesFor__slots post (k, s, l, c, hX, sk, ss, sl, sc) v := by
  unfold wpX_entriesFor__slots
  refine br_c h0 (fun hv => ?_)
  refine lc_to (fun n i => wX_entriesFor__slots_10 post v k s l c hX sk ss sl sc n (nI (cn_c (fun q => decide (s q = v)) i)) (nI i)) 0 768 (by omega) (fun n => ?_) (fun n i _ hi ih => ?_)
  · exact br_t (Int32.le_refl _) (h hv)
  · refine br_f (nI_ge (b := 768) hi (by decide)) ⟨vp_in_nI hi (by decide), br_c (fun z => ?_) (fun z => ?_)⟩
    · rw [nI_clamp (by omega)] at z
      refine nm_r (cn_t (p := fun q => decide (s q = v)) (decide_eq_true z)) (nm_r (nI_1 i) ih)
    · rw [nI_clamp (by omega)] at z
      refine nm_r (nI_1 i) ?_
      rw [cn_f (by simp [z])] at ih; exact ih
theorem xp_par {t q : Nat} (hq : q < 768) (e : s q = nI t) (hu : ∀ r, r < q → s r ≠ nI t) (h : post (nI (q / 64))) : wpX_parentOf__slots post (k, s, l, c, hX, sk, ss, sl, sc) (nI t) := by
  refine lc_to (fun n i => wX_parentOf__slots_2 post (nI t) k s l c hX sk ss sl sc n (nI i)) 0 q (by omega) (fun n => ?_) (fun n i _ hi ih => ?_)
  · refine br_f (nI_ge (b := 768) hq (by decide)) ⟨vp_in_nI hq (by decide), br_t (by rw [nI_clamp (by omega)]; exact e) ⟨by decide, ?_⟩⟩
    have := pk_div (a := q) (d := 64) (by omega) (by omega) (by decide)
    rw [show (nI 64 : Int32) = 64 from rfl] at this
    rw [this]; exact h
  · refine br_f (nI_ge (b := 768) (by omega) (by decide)) ⟨vp_in_nI (by omega) (by decide), br_f (by rw [nI_clamp (by omega)]; exact hu i hi) (nm_r (nI_1 i) ih)⟩
/-- is at or below: the parents' row comes to a -/
theorem xp_below_t {par : Nat → Nat} {d a j0 : Nat} (hK : rl_K k s) (hT : rl_T k s par) (hd : d < 12) (h2 : k d = 2) (ha : a < 12) (hj : j0 < 12) (e : it_i par j0 d = a) (hm : ∀ j, j < j0 → it_i par j d ≠ a) (h : post 1) : wpX_isOrLiesBelow__slots post (k, s, l, c, hX, sk, ss, sl, sc) (nI d) (nI a) := by
  refine lc_to (fun n i => wX_isOrLiesBelow__slots_5 post (nI a) k s l c hX sk ss sl sc n (nI (it_i par i d)) (nI i)) 0 j0 (by omega) (fun n => ?_) (fun n i _ hi ih => ?_)
  · refine br_f (nI_ge (b := 12) hj (by decide)) (br_t (by rw [e]) h)
  · have hdi := tr_dir hK hT hd h2 i
    have nz : it_i par i d ≠ 0 := fun z => hm i hi (z.trans ((it_stay hT.1 (Nat.le_of_lt hi) z).symm.trans e))
    obtain ⟨q, a1, a2, a3, a4⟩ := hT.2.2.1 _ (by omega) hdi.1 hdi.2
    refine br_f (nI_ge (b := 12) (by omega) (by decide)) (br_f (na_ne (by omega) (by omega) (hm i hi)) (br_f (na_nz (by omega) (by omega)) ?_))
    refine xp_par a1 a2 (fun r hr z => ?_) ?_
    · have := a4 r (by omega) z; omega
    · refine nm_r (nI_1 i) ?_
      rw [it_s, a3] at ih; exact ih
theorem xp_below_f {par : Nat → Nat} {d a : Nat} (hK : rl_K k s) (hT : rl_T k s par) (hd : d < 12) (h2 : k d = 2) (ha : a < 12) (hm : ∀ j, j < 12 → it_i par j d ≠ a) (h : post 0) : wpX_isOrLiesBelow__slots post (k, s, l, c, hX, sk, ss, sl, sc) (nI d) (nI a) := by
  refine lc_to (fun n i => wX_isOrLiesBelow__slots_5 post (nI a) k s l c hX sk ss sl sc n (nI (it_i par i d)) (nI i)) 0 12 (by omega) (fun n => ?_) (fun n i _ hi ih => ?_)
  · exact br_t (Int32.le_refl _) h
  · have hdi := tr_dir hK hT hd h2 i
    refine br_f (nI_ge (b := 12) (by omega) (by decide)) (br_f (na_ne (by omega) (by omega) (hm i hi)) (br_c (fun _ => h) (fun nz => ?_)))
    have nz' : it_i par i d ≠ 0 := fun z => nz (by rw [z]; rfl)
    obtain ⟨q, a1, a2, a3, a4⟩ := hT.2.2.1 _ (by omega) hdi.1 hdi.2
    refine xp_par a1 a2 (fun r hr z => ?_) ?_
    · have := a4 r (by omega) z; omega
    · refine nm_r (nI_1 i) ?_
      rw [it_s, a3] at ih; exact ih
theorem xs_dir_t {v : Int32} (hv : is_k sk 2 v) (h : post 1) : wpX_isDirectory__savedKinds post (k, s, l, c, hX, sk, ss, sl, sc) v := by
  obtain ⟨t, ht, rfl, e⟩ := hv
  unfold wpX_isDirectory__savedKinds
  refine xp_num_t ht ?_
  exact br_f (by decide) ⟨vp_in_nI ht (by decide), br_t (by rw [nI_clamp (by omega)]; exact e) h⟩
theorem xs_dir_f {v : Int32} (hv : ¬ is_k sk 2 v) (h : post 0) : wpX_isDirectory__savedKinds post (k, s, l, c, hX, sk, ss, sl, sc) v := by
  unfold wpX_isDirectory__savedKinds
  by_cases z : ∃ t, t < 12 ∧ v = nI t
  · obtain ⟨t, ht, rfl⟩ := z
    refine xp_num_t ht ?_
    exact br_f (by decide) ⟨vp_in_nI ht (by decide), br_f (by rw [nI_clamp (by omega)]; exact fun e => hv ⟨t, ht, rfl, e⟩) h⟩
  · refine xp_num_f z ?_
    exact br_t rfl h
theorem xs_file_t {v : Int32} (hv : is_k sk 1 v) (h : post 1) : wpX_isFile__savedKinds post (k, s, l, c, hX, sk, ss, sl, sc) v := by
  obtain ⟨t, ht, rfl, e⟩ := hv
  unfold wpX_isFile__savedKinds
  refine xp_num_t ht ?_
  exact br_f (by decide) ⟨vp_in_nI ht (by decide), br_t (by rw [nI_clamp (by omega)]; exact e) h⟩
theorem xs_file_f {v : Int32} (hv : ¬ is_k sk 1 v) (h : post 0) : wpX_isFile__savedKinds post (k, s, l, c, hX, sk, ss, sl, sc) v := by
  unfold wpX_isFile__savedKinds
  by_cases z : ∃ t, t < 12 ∧ v = nI t
  · obtain ⟨t, ht, rfl⟩ := z
    refine xp_num_t ht ?_
    exact br_f (by decide) ⟨vp_in_nI ht (by decide), br_f (by rw [nI_clamp (by omega)]; exact fun e => hv ⟨t, ht, rfl, e⟩) h⟩
  · refine xp_num_f z ?_
    exact br_t rfl h
theorem xs_place_t {d x : Nat} (hd : d < 12) (h2 : sk d = 2) (hx : x < 64) (h : post 1) : wpX_isPlace__savedKinds post (k, s, l, c, hX, sk, ss, sl, sc) (nI d) (nI x) := by
  unfold wpX_isPlace__savedKinds
  refine xs_dir_t ⟨d, hd, rfl, h2⟩ ?_
  exact br_f (by decide) (br_f (nI_pos (by omega)) (br_f (nI_ge (b := 64) hx (by decide)) h))
theorem xs_place_f {v w : Int32} (hv : ¬ (is_k sk 2 v ∧ is_n w)) (h : post 0) : wpX_isPlace__savedKinds post (k, s, l, c, hX, sk, ss, sl, sc) v w := by
  unfold wpX_isPlace__savedKinds
  by_cases z : is_k sk 2 v
  · refine xs_dir_t z ?_
    refine br_f (by decide) ?_
    rcases na_ng (n := 64) (by decide) (fun e => hv ⟨z, e⟩) with e | ⟨e1, e2⟩
    · exact br_t e h
    · exact br_f e1 (br_t e2 h)
  · refine xs_dir_f z ?_
    exact br_t rfl h
theorem xs_all (h : post (nI (cn_c (fun q => decide (¬ ss q = 0)) 768))) : wpX_allEntries__savedSlots post (k, s, l, c, hX, sk, ss, sl, sc) := by
  refine lc_to (fun n i => wX_allEntries__savedSlots_4 post k s l c hX sk ss sl sc n (nI (cn_c (fun q => decide (¬ ss q = 0)) i)) (nI i)) 0 768 (by omega) (fun n => ?_) (fun n i _ hi ih => ?_)
  · exact br_t (Int32.le_refl _) h
  · refine br_f (nI_ge (b := 768) hi (by decide)) ⟨vp_in_nI hi (by decide), br_c (fun z => ?_) (fun z => ?_)⟩
    · rw [nI_clamp (by omega)] at z
      refine nm_r (nI_1 i) ?_
      rw [cn_f (by simp [z])] at ih; exact ih
    · rw [nI_clamp (by omega)] at z
      refine nm_r (cn_t (p := fun q => decide (¬ ss q = 0)) (decide_eq_true z)) (nm_r (nI_1 i) ih)
theorem xs_for {v : Int32} (h0 : v = 0 → post 0) (h : v ≠ 0 → post (nI (cn_c (fun q => decide (ss q = v)) 768))) : wpX_entriesFor__savedSlots post (k, s, l, c, hX, sk, ss, sl, sc) v := by
  unfold wpX_entriesFor__savedSlots
  refine br_c h0 (fun hv => ?_)
  refine lc_to (fun n i => wX_entriesFor__savedSlots_10 post v k s l c hX sk ss sl sc n (nI (cn_c (fun q => decide (ss q = v)) i)) (nI i)) 0 768 (by omega) (fun n => ?_) (fun n i _ hi ih => ?_)
  · exact br_t (Int32.le_refl _) (h hv)
  · refine br_f (nI_ge (b := 768) hi (by decide)) ⟨vp_in_nI hi (by decide), br_c (fun z => ?_) (fun z => ?_)⟩
    · rw [nI_clamp (by omega)] at z
      refine nm_r (cn_t (p := fun q => decide (ss q = v)) (decide_eq_true z)) (nm_r (nI_1 i) ih)
    · rw [nI_clamp (by omega)] at z
      refine nm_r (nI_1 i) ?_
      rw [cn_f (by simp [z])] at ih; exact ih
theorem xs_par {t q : Nat} (hq : q < 768) (e : ss q = nI t) (hu : ∀ r, r < q → ss r ≠ nI t) (h : post (nI (q / 64))) : wpX_parentOf__savedSlots post (k, s, l, c, hX, sk, ss, sl, sc) (nI t) := by
  refine lc_to (fun n i => wX_parentOf__savedSlots_2 post (nI t) k s l c hX sk ss sl sc n (nI i)) 0 q (by omega) (fun n => ?_) (fun n i _ hi ih => ?_)
  · refine br_f (nI_ge (b := 768) hq (by decide)) ⟨vp_in_nI hq (by decide), br_t (by rw [nI_clamp (by omega)]; exact e) ⟨by decide, ?_⟩⟩
    have := pk_div (a := q) (d := 64) (by omega) (by omega) (by decide)
    rw [show (nI 64 : Int32) = 64 from rfl] at this
    rw [this]; exact h
  · refine br_f (nI_ge (b := 768) (by omega) (by decide)) ⟨vp_in_nI (by omega) (by decide), br_f (by rw [nI_clamp (by omega)]; exact hu i hi) (nm_r (nI_1 i) ih)⟩
/-- is at or below: the parents' row comes to a -/
theorem xs_below_t {par : Nat → Nat} {d a j0 : Nat} (hK : rl_K sk ss) (hT : rl_T sk ss par) (hd : d < 12) (h2 : sk d = 2) (ha : a < 12) (hj : j0 < 12) (e : it_i par j0 d = a) (hm : ∀ j, j < j0 → it_i par j d ≠ a) (h : post 1) : wpX_isOrLiesBelow__savedSlots post (k, s, l, c, hX, sk, ss, sl, sc) (nI d) (nI a) := by
  refine lc_to (fun n i => wX_isOrLiesBelow__savedSlots_5 post (nI a) k s l c hX sk ss sl sc n (nI (it_i par i d)) (nI i)) 0 j0 (by omega) (fun n => ?_) (fun n i _ hi ih => ?_)
  · refine br_f (nI_ge (b := 12) hj (by decide)) (br_t (by rw [e]) h)
  · have hdi := tr_dir hK hT hd h2 i
    have nz : it_i par i d ≠ 0 := fun z => hm i hi (z.trans ((it_stay hT.1 (Nat.le_of_lt hi) z).symm.trans e))
    obtain ⟨q, a1, a2, a3, a4⟩ := hT.2.2.1 _ (by omega) hdi.1 hdi.2
    refine br_f (nI_ge (b := 12) (by omega) (by decide)) (br_f (na_ne (by omega) (by omega) (hm i hi)) (br_f (na_nz (by omega) (by omega)) ?_))
    refine xs_par a1 a2 (fun r hr z => ?_) ?_
    · have := a4 r (by omega) z; omega
    · refine nm_r (nI_1 i) ?_
      rw [it_s, a3] at ih; exact ih
theorem xs_below_f {par : Nat → Nat} {d a : Nat} (hK : rl_K sk ss) (hT : rl_T sk ss par) (hd : d < 12) (h2 : sk d = 2) (ha : a < 12) (hm : ∀ j, j < 12 → it_i par j d ≠ a) (h : post 0) : wpX_isOrLiesBelow__savedSlots post (k, s, l, c, hX, sk, ss, sl, sc) (nI d) (nI a) := by
  refine lc_to (fun n i => wX_isOrLiesBelow__savedSlots_5 post (nI a) k s l c hX sk ss sl sc n (nI (it_i par i d)) (nI i)) 0 12 (by omega) (fun n => ?_) (fun n i _ hi ih => ?_)
  · exact br_t (Int32.le_refl _) h
  · have hdi := tr_dir hK hT hd h2 i
    refine br_f (nI_ge (b := 12) (by omega) (by decide)) (br_f (na_ne (by omega) (by omega) (hm i hi)) (br_c (fun _ => h) (fun nz => ?_)))
    have nz' : it_i par i d ≠ 0 := fun z => nz (by rw [z]; rfl)
    obtain ⟨q, a1, a2, a3, a4⟩ := hT.2.2.1 _ (by omega) hdi.1 hdi.2
    refine xs_par a1 a2 (fun r hr z => ?_) ?_
    · have := a4 r (by omega) z; omega
    · refine nm_r (nI_1 i) ?_
      rw [it_s, a3] at ih; exact ih
theorem xp_in {d : Nat} (hd : d < 12) (h : post (nI (cn_c (fun q => decide (¬ s (d * 64 + q) = 0)) 64))) : wpX_entriesIn post (k, s, l, c, hX, sk, ss, sl, sc) (nI d) := by
  refine lc_to (fun n i => wX_entriesIn_4 post (nI d) k s l c hX sk ss sl sc n (nI (cn_c (fun q => decide (¬ s (d * 64 + q) = 0)) i)) (nI i)) 0 64 (by omega) (fun n => ?_) (fun n i _ hi ih => ?_)
  · exact br_t (Int32.le_refl _) h
  · refine br_f (nI_ge (b := 64) hi (by decide)) ?_
    have e : nI d * 64 + nI i = nI (d * 64 + i) := by rw [show (64 : Int32) = nI 64 from rfl, pk_mul, nI_add]
    unfold wpX_slotOf
    rw [e]
    refine ⟨vp_in_nI (by omega) (by decide), br_c (fun z => ?_) (fun z => ?_)⟩
    · rw [nI_clamp (by omega)] at z
      refine nm_r (nI_1 i) ?_
      rw [cn_f (by simp [z])] at ih; exact ih
    · rw [nI_clamp (by omega)] at z
      refine nm_r (cn_t (p := fun q => decide (¬ s (d * 64 + q) = 0)) (decide_eq_true z)) (nm_r (nI_1 i) ih)
theorem xp_free {t : Nat} (ht : t < 12) (e : k t = 0) (hu : ∀ r, r < t → k r ≠ 0) (h : post (nI t)) : wpX_leastFreeNumber post (k, s, l, c, hX, sk, ss, sl, sc) := by
  refine lc_to (fun n i => wX_leastFreeNumber_2 post k s l c hX sk ss sl sc n (nI i)) 0 t (by omega) (fun n => ?_) (fun n i _ hi ih => ?_)
  · exact br_f (nI_ge (b := 12) ht (by decide)) ⟨vp_in_nI ht (by decide), br_t (by rw [nI_clamp (by omega)]; exact e) h⟩
  · exact br_f (nI_ge (b := 12) (by omega) (by decide)) ⟨vp_in_nI (by omega) (by decide), br_f (by rw [nI_clamp (by omega)]; exact hu i hi) (nm_r (nI_1 i) ih)⟩
theorem xp_nofree (hu : ∀ r, r < 12 → k r ≠ 0) (h : post 12) : wpX_leastFreeNumber post (k, s, l, c, hX, sk, ss, sl, sc) := by
  refine lc_to (fun n i => wX_leastFreeNumber_2 post k s l c hX sk ss sl sc n (nI i)) 0 12 (by omega) (fun n => ?_) (fun n i _ hi ih => ?_)
  · exact br_t (Int32.le_refl _) h
  · exact br_f (nI_ge (b := 12) (by omega) (by decide)) ⟨vp_in_nI (by omega) (by decide), br_f (by rw [nI_clamp (by omega)]; exact hu i hi) (nm_r (nI_1 i) ih)⟩
theorem xp_there (h : post (nI (cn_c (fun q => decide (¬ k q = 0)) 12))) : wpX_thingsThere post (k, s, l, c, hX, sk, ss, sl, sc) := by
  refine lc_to (fun n i => wX_thingsThere_4 post k s l c hX sk ss sl sc n (nI (cn_c (fun q => decide (¬ k q = 0)) i)) (nI i)) 0 12 (by omega) (fun n => ?_) (fun n i _ hi ih => ?_)
  · exact br_t (Int32.le_refl _) h
  · refine br_f (nI_ge (b := 12) hi (by decide)) ⟨vp_in_nI hi (by decide), br_c (fun z => ?_) (fun z => ?_)⟩
    · rw [nI_clamp (by omega)] at z
      refine nm_r (nI_1 i) ?_
      rw [cn_f (by simp [z])] at ih; exact ih
    · rw [nI_clamp (by omega)] at z
      refine nm_r (cn_t (p := fun q => decide (¬ k q = 0)) (decide_eq_true z)) (nm_r (nI_1 i) ih)
theorem xp_op_t {v : Int32} {i0 : Nat} (hi : i0 < 4) (e : hX i0 = v) (h : post 1) : wpX_isOpen post (k, s, l, c, hX, sk, ss, sl, sc) v := by
  obtain ⟨t, ⟨ht, e⟩, hu⟩ := pk_least (fun i => i < 4 ∧ hX i = v) ⟨i0, hi, e⟩
  refine lc_to (fun n i => wX_isOpen_2 post v k s l c hX sk ss sl sc n (nI i)) 0 t (by omega) (fun n => ?_) (fun n i _ hi ih => ?_)
  · exact br_f (nI_ge (b := 4) ht (by decide)) ⟨vp_in_nI ht (by decide), br_t (by rw [nI_clamp (by omega)]; exact e) h⟩
  · exact br_f (nI_ge (b := 4) (by omega) (by decide)) ⟨vp_in_nI (by omega) (by decide), br_f (by rw [nI_clamp (by omega)]; exact fun z => hu i hi ⟨by omega, z⟩) (nm_r (nI_1 i) ih)⟩
theorem xp_op_f {v : Int32} (hu : ∀ i, i < 4 → hX i ≠ v) (h : post 0) : wpX_isOpen post (k, s, l, c, hX, sk, ss, sl, sc) v := by
  refine lc_to (fun n i => wX_isOpen_2 post v k s l c hX sk ss sl sc n (nI i)) 0 4 (by omega) (fun n => ?_) (fun n i _ hi ih => ?_)
  · exact br_t (Int32.le_refl _) h
  · exact br_f (nI_ge (b := 4) (by omega) (by decide)) ⟨vp_in_nI (by omega) (by decide), br_f (by rw [nI_clamp (by omega)]; exact hu i hi) (nm_r (nI_1 i) ih)⟩
end
