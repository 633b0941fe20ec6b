/-! the reference's questions and small writes, each with a general post -/
theorem na_cl {n : Nat} (h : n < 1000000) : (nI n).toNatClampNeg = n := nI_clamp (by omega)
theorem na_ma (a b c : Nat) : nI a * nI b + nI c = nI (a * b + c) := by rw [pk_mul, nI_add]
section
variable {kY zY cY en hd nm th hY : Nat → Int32} {post : Int32 → Prop} {postS : SY → Prop} {postR : Int32 → SY → Prop}
theorem yp_is_t {o t : Nat} {a : Int32} (ho : o < 2) (ht : t < 12) (e : kY (12 * o + t) = a) (h : post 1) : wpY_is post (kY, zY, cY, en, hd, nm, th, hY) (nI o) (nI t) a := by
  have e0 : (12 : Int32) * nI o + nI t = nI (12 * o + t) := na_ma 12 o t
  refine br_f (nI_pos (by omega)) (br_f (nI_nlt (a := 11) (b := t) (by omega) (by decide)) ?_)
  rw [e0, na_cl (by omega)]
  exact ⟨vp_in_nI (by omega) (by decide), br_t e h⟩
theorem yp_is_f {o : Nat} {v a : Int32} (ho : o < 2) (hv : ¬ ∃ t, t < 12 ∧ v = nI t ∧ kY (12 * o + t) = a) (h : post 0) : wpY_is post (kY, zY, cY, en, hd, nm, th, hY) (nI o) v a := by
  by_cases z : ∃ t, t < 12 ∧ v = nI t
  · obtain ⟨t, ht, rfl⟩ := z
    have e0 : (12 : Int32) * nI o + nI t = nI (12 * o + t) := na_ma 12 o t
    refine br_f (nI_pos (by omega)) (br_f (nI_nlt (a := 11) (b := t) (by omega) (by decide)) ?_)
    rw [e0, na_cl (by omega)]
    exact ⟨vp_in_nI (by omega) (by decide), br_f (fun e => hv ⟨t, ht, rfl, e⟩) h⟩
  · rcases na_ng (by decide) z with e | ⟨e1, e2⟩
    · exact br_t e h
    · refine br_f e1 (br_t ?_ h)
      obtain ⟨j, hj, rfl⟩ := nI_of e1
      rw [nI_leI (by decide) hj] at e2
      exact nI_lt (a := 11) (by omega) hj
theorem yp_dir_t {v : Int32} (hv : is_k kY 2 v) (h : post 1) : wpY_isDir post (kY, zY, cY, en, hd, nm, th, hY) v := by
  obtain ⟨t, ht, rfl, e⟩ := hv
  unfold wpY_isDir
  exact yp_is_t (o := 0) (by omega) ht (by rw [show 12 * 0 + t = t by omega]; exact e) ⟨rfl, h⟩
theorem yp_dir_f {v : Int32} (hv : ¬ is_k kY 2 v) (h : post 0) : wpY_isDir post (kY, zY, cY, en, hd, nm, th, hY) v := by
  unfold wpY_isDir
  refine yp_is_f (o := 0) (by omega) (fun ⟨t, h1, h2, h3⟩ => hv ⟨t, h1, h2, ?_⟩) ⟨rfl, h⟩
  rw [show 12 * 0 + t = t by omega] at h3; exact h3
theorem yp_file_t {v : Int32} (hv : is_k kY 1 v) (h : post 1) : wpY_isFile post (kY, zY, cY, en, hd, nm, th, hY) v := by
  obtain ⟨t, ht, rfl, e⟩ := hv
  unfold wpY_isFile
  exact yp_is_t (o := 0) (by omega) ht (by rw [show 12 * 0 + t = t by omega]; exact e) ⟨rfl, h⟩
theorem yp_file_f {v : Int32} (hv : ¬ is_k kY 1 v) (h : post 0) : wpY_isFile post (kY, zY, cY, en, hd, nm, th, hY) v := by
  unfold wpY_isFile
  refine yp_is_f (o := 0) (by omega) (fun ⟨t, h1, h2, h3⟩ => hv ⟨t, h1, h2, ?_⟩) ⟨rfl, h⟩
  rw [show 12 * 0 + t = t by omega] at h3; exact h3
theorem yp_name_t {x : Nat} (hx : x < 64) (h : post 0) : wpY_badName post (kY, zY, cY, en, hd, nm, th, hY) (nI x) :=
  br_f (nI_pos (by omega)) (br_t (nI_le (b := 63) (by omega) (by decide)) h)
theorem yp_name_f {v : Int32} (hv : ¬ is_n v) (h : post 1) : wpY_badName post (kY, zY, cY, en, hd, nm, th, hY) v := by
  rcases na_ng (n := 64) (by decide) hv with e | ⟨e1, e2⟩
  · exact br_t e h
  · refine br_f e1 (br_f ?_ h)
    obtain ⟨j, hj, rfl⟩ := nI_of e1
    rw [nI_leI (by decide) hj] at e2
    exact nI_ge (a := 63) (by omega) hj
theorem yp_place_t {d x : Nat} (hd12 : d < 12) (h2 : kY d = 2) (hx : x < 64) (h : post 0) : wpY_badPlace post (kY, zY, cY, en, hd, nm, th, hY) (nI d) (nI x) := by
  unfold wpY_badPlace
  refine yp_dir_t ⟨d, hd12, rfl, h2⟩ ?_
  refine br_f (by decide) ?_
  refine yp_name_t hx ?_
  exact br_t rfl h
theorem yp_place_f {v w : Int32} (hv : ¬ (is_k kY 2 v ∧ is_n w)) (h : post 1) : wpY_badPlace post (kY, zY, cY, en, hd, nm, th, hY) v w := by
  unfold wpY_badPlace
  by_cases z : is_k kY 2 v
  · refine yp_dir_t z ?_
    refine br_f (by decide) ?_
    refine yp_name_f (fun e => hv ⟨z, e⟩) ?_
    exact br_f (by decide) h
  · refine yp_dir_f z ?_
    exact br_t rfl h
theorem yp_entry_t {o m e d x : Nat} (ho : o < 2) (hm : m ≤ 20) (hn : en o = nI m) (he : e < m) (h1 : hd (20 * o + e) = nI d) (h2 : nm (20 * o + e) = nI x) (hu : ∀ i, i < e → ¬ (hd (20 * o + i) = nI d ∧ nm (20 * o + i) = nI x)) (h : post (nI (20 * o + e))) : wpY_entry post (kY, zY, cY, en, hd, nm, th, hY) (nI o) (nI d) (nI x) := by
  unfold wpY_entry
  have e0 : (20 : Int32) * nI o = nI (20 * o) := pk_mul 20 o
  have hc : (20 : Int32) * nI o + en (nI o).toNatClampNeg = nI (20 * o + m) := by rw [e0, na_cl (by omega), hn, nI_add]
  refine nm_r e0 ?_
  refine lc_to (fun n i => wY_entry_6 post (nI o) (nI d) (nI x) kY zY cY en hd nm th hY n (nI (20 * o + i))) 0 e (by omega) (fun n => ?_) (fun n i _ hi ih => ?_)
  · refine ⟨vp_in_nI ho (by decide), br_f (by rw [hc]; exact nI_ge (by omega) (by omega)) ⟨vp_in_nI (by omega) (by decide), br_t (by rw [na_cl (by omega)]; exact h1) ⟨vp_in_nI (by omega) (by decide), br_t (by rw [na_cl (by omega)]; exact h2) h⟩⟩⟩
  · refine ⟨vp_in_nI ho (by decide), br_f (by rw [hc]; exact nI_ge (by omega) (by omega)) ⟨vp_in_nI (by omega) (by decide), br_c (fun z => ⟨vp_in_nI (by omega) (by decide), br_f (fun w => ?_) (nm_r (nI_1 (20 * o + i)) ih)⟩) (fun _ => nm_r (nI_1 (20 * o + i)) ih)⟩⟩
    rw [na_cl (by omega)] at z w
    exact hu i hi ⟨z, w⟩
theorem yp_entry_f {o m d x : Nat} (ho : o < 2) (hm : m ≤ 20) (hn : en o = nI m) (hu : ∀ i, i < m → ¬ (hd (20 * o + i) = nI d ∧ nm (20 * o + i) = nI x)) (h : post (-1)) : wpY_entry post (kY, zY, cY, en, hd, nm, th, hY) (nI o) (nI d) (nI x) := by
  unfold wpY_entry
  have e0 : (20 : Int32) * nI o = nI (20 * o) := pk_mul 20 o
  have hc : (20 : Int32) * nI o + en (nI o).toNatClampNeg = nI (20 * o + m) := by rw [e0, na_cl (by omega), hn, nI_add]
  refine nm_r e0 ?_
  refine lc_to (fun n i => wY_entry_6 post (nI o) (nI d) (nI x) kY zY cY en hd nm th hY n (nI (20 * o + i))) 0 m (by omega) (fun n => ?_) (fun n i _ hi ih => ?_)
  · exact ⟨vp_in_nI ho (by decide), br_t (by rw [hc]; exact Int32.le_refl _) h⟩
  · refine ⟨vp_in_nI ho (by decide), br_f (by rw [hc]; exact nI_ge (by omega) (by omega)) ⟨vp_in_nI (by omega) (by decide), br_c (fun z => ⟨vp_in_nI (by omega) (by decide), br_f (fun w => ?_) (nm_r (nI_1 (20 * o + i)) ih)⟩) (fun _ => nm_r (nI_1 (20 * o + i)) ih)⟩⟩
    rw [na_cl (by omega)] at z w
    exact hu i hi ⟨z, w⟩
theorem yp_links {m : Nat} {v : Int32} (hm : m ≤ 20) (hn : en 0 = nI m) (h : post (nI (cn_c (fun e => decide (th e = v)) m))) : wpY_linksOf post (kY, zY, cY, en, hd, nm, th, hY) v := by
  refine lc_to (fun n i => wY_linksOf_4 post v kY zY cY en hd nm th hY n (nI (cn_c (fun e => decide (th e = v)) i)) (nI i)) 0 m (by omega) (fun n => ?_) (fun n i _ hi ih => ?_)
  · exact br_t (by rw [hn]; exact Int32.le_refl _) h
  · refine br_f (by rw [hn]; exact nI_ge hi (by omega)) ⟨vp_in_nI (by omega) (by decide), br_c (fun z => ?_) (fun z => ?_)⟩
    · rw [na_cl (by omega)] at z
      refine nm_r (cn_t (p := fun e => decide (th e = v)) (decide_eq_true z)) (nm_r (nI_1 i) ih)
    · rw [na_cl (by omega)] at z
      refine nm_r (nI_1 i) ?_
      rw [cn_f (by simp [z])] at ih; exact ih
theorem yp_cnt_t {m d : Nat} (hm : m ≤ 20) (hn : en 0 = nI m) (hd12 : d < 12) (h2 : kY d = 2) (h : post (nI (cn_c (fun e => decide (hd e = nI d)) m))) : wpY_count post (kY, zY, cY, en, hd, nm, th, hY) (nI d) := by
  unfold wpY_count
  refine yp_dir_t ⟨d, hd12, rfl, h2⟩ ?_
  refine br_f (by decide) ?_
  refine lc_to (fun n i => wY_count_14 post (nI d) kY zY cY en hd nm th hY n (nI (cn_c (fun e => decide (hd e = nI d)) i)) (nI i)) 0 m (by omega) (fun n => ?_) (fun n i _ hi ih => ?_)
  · exact br_t (by rw [hn]; exact Int32.le_refl _) h
  · refine br_f (by rw [hn]; exact nI_ge hi (by omega)) ⟨vp_in_nI (by omega) (by decide), br_c (fun z => ?_) (fun z => ?_)⟩
    · rw [na_cl (by omega)] at z
      refine nm_r (cn_t (p := fun e => decide (hd e = nI d)) (decide_eq_true z)) (nm_r (nI_1 i) ih)
    · rw [na_cl (by omega)] at z
      refine nm_r (nI_1 i) ?_
      rw [cn_f (by simp [z])] at ih; exact ih
theorem yp_cnt_f {v : Int32} (hv : ¬ is_k kY 2 v) (h : post (-1)) : wpY_count post (kY, zY, cY, en, hd, nm, th, hY) v := by
  unfold wpY_count
  refine yp_dir_f hv ?_
  exact br_t rfl h
theorem yp_op_t {v : Int32} {i0 : Nat} (hi : i0 < 4) (e : hY i0 = v) (h : post 1) : wpY_isOpen post (kY, zY, cY, en, hd, nm, th, hY) v := by
  obtain ⟨t, ⟨ht, e⟩, hu⟩ := pk_least (fun i => i < 4 ∧ hY i = v) ⟨i0, hi, e⟩
  refine lc_to (fun n i => wY_isOpen_2 post v kY zY cY en hd nm th hY n (nI i)) 0 t (by omega) (fun n => ?_) (fun n i _ hi ih => ?_)
  · exact br_f (nI_ge (b := 4) ht (by decide)) ⟨vp_in_nI ht (by decide), br_t (by rw [na_cl (by omega)]; exact e) h⟩
  · exact br_f (nI_ge (b := 4) (by omega) (by decide)) ⟨vp_in_nI (by omega) (by decide), br_f (by rw [na_cl (by omega)]; exact fun z => hu i hi ⟨by omega, z⟩) (nm_r (nI_1 i) ih)⟩
theorem yp_op_f {v : Int32} (hu : ∀ i, i < 4 → hY i ≠ v) (h : post 0) : wpY_isOpen post (kY, zY, cY, en, hd, nm, th, hY) v := by
  refine lc_to (fun n i => wY_isOpen_2 post v kY zY cY en hd nm th hY n (nI i)) 0 4 (by omega) (fun n => ?_) (fun n i _ hi ih => ?_)
  · exact br_t (Int32.le_refl _) h
  · exact br_f (nI_ge (b := 4) (by omega) (by decide)) ⟨vp_in_nI (by omega) (by decide), br_f (by rw [na_cl (by omega)]; exact hu i hi) (nm_r (nI_1 i) ih)⟩
theorem yp_things (h : post (nI (cn_c (fun q => decide (¬ kY q = 0)) 12))) : wpY_countThings post (kY, zY, cY, en, hd, nm, th, hY) := by
  refine lc_to (fun n i => wY_countThings_4 post kY zY cY en hd nm th hY n (nI (cn_c (fun q => decide (¬ kY q = 0)) i)) (nI i)) 0 12 (by omega) (fun n => ?_) (fun n i _ hi ih => ?_)
  · exact br_t (Int32.le_refl _) h
  · refine br_f (nI_ge (b := 12) hi (by decide)) ⟨vp_in_nI (by omega) (by decide), br_c (fun z => ?_) (fun z => ?_)⟩
    · rw [na_cl (by omega)] at z
      refine nm_r (nI_1 i) ?_
      rw [cn_f (by simp [z])] at ih; exact ih
    · rw [na_cl (by omega)] at z
      refine nm_r (cn_t (p := fun q => decide (¬ kY q = 0)) (decide_eq_true z)) (nm_r (nI_1 i) ih)
theorem yp_add {m : Nat} {a b t : Int32} (hm : m < 40) (hn : en 0 = nI m) (h : postS (kY, zY, cY, upd en 0 (nI (m + 1)), upd hd m a, upd nm m b, upd th m t, hY)) : wpY_add postS (kY, zY, cY, en, hd, nm, th, hY) a b t := by
  unfold wpY_add
  refine nm_r hn ?_
  refine ⟨vp_in_nI hm (by decide), nm_r (by rw [na_cl (by omega)]) ⟨vp_in_nI hm (by decide), nm_r (by rw [na_cl (by omega)]) ⟨vp_in_nI hm (by decide), nm_r (by rw [na_cl (by omega)]) (nm_r (by rw [hn, nI_1]) h)⟩⟩⟩
theorem yp_take {m e : Nat} (hm : m < 40) (he : e < 40) (hn : en 0 = nI (m + 1)) (h : postS (kY, zY, cY, upd en 0 (nI m), upd hd e (hd m), upd nm e (nm m), upd th e (th m), hY)) : wpY_take postS (kY, zY, cY, en, hd, nm, th, hY) (nI e) := by
  unfold wpY_take
  refine nm_r (e' := upd en 0 (nI m)) (by rw [hn, nI_pred]) (nm_r (e' := nI m) pk_us ?_)
  refine ⟨vp_in_nI hm (by decide), vp_in_nI he (by decide), nm_r (by rw [na_cl (by omega), na_cl (by omega)]) ⟨vp_in_nI hm (by decide), vp_in_nI he (by decide), nm_r (by rw [na_cl (by omega), na_cl (by omega)]) ⟨vp_in_nI hm (by decide), vp_in_nI he (by decide), nm_r (by rw [na_cl (by omega), na_cl (by omega)]) h⟩⟩⟩
/-- nothing holds t: it goes -/
theorem yp_settle_t {m t : Nat} (hm : m ≤ 20) (hn : en 0 = nI m) (ht : t < 12) (h1 : ∀ e, e < m → th e ≠ nI t) (h2 : ∀ i, i < 4 → hY i ≠ nI t) (h : postR 1 (upd kY t 0, zY, cY, en, hd, nm, th, hY)) : wpY_settle postR (kY, zY, cY, en, hd, nm, th, hY) (nI t) := by
  unfold wpY_settle
  refine yp_links hm hn ?_
  rw [cn_zero (fun e he => decide_eq_false (h1 e he))]
  refine br_t rfl ?_
  refine yp_op_f h2 ?_
  refine br_t rfl ?_
  exact br_f (by decide) ⟨vp_in_nI (by omega) (by decide), nm_r (by rw [na_cl (by omega)]) ⟨rfl, h⟩⟩
theorem yp_settle_f {m t : Nat} (hm : m ≤ 20) (hn : en 0 = nI m) (ht : t < 12) (hu : (∃ e, e < m ∧ th e = nI t) ∨ ∃ i, i < 4 ∧ hY i = nI t) (h : postR 0 (kY, zY, cY, en, hd, nm, th, hY)) : wpY_settle postR (kY, zY, cY, en, hd, nm, th, hY) (nI t) := by
  unfold wpY_settle
  refine yp_links hm hn ?_
  have hz : wY_settle_20 postR (nI t) kY zY cY en hd nm th hY := br_t rfl ⟨rfl, h⟩
  refine br_c (fun z => ?_) (fun _ => hz)
  rcases hu with ⟨e, he, e1⟩ | ⟨i, hi, e1⟩
  · have := cn_le (fun e => decide (th e = nI t)) m
    have z0 := na_z (by omega) z
    exact (of_decide_eq_false (cn_all z0 e he) e1).elim
  · refine yp_op_t hi e1 ?_
    exact br_f (by decide) hz
end
