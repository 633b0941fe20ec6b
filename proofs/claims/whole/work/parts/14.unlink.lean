/-! unlink, removeDir, handles -/
section
variable {k s l c hX sk ss sl sc kY zY cY en hd nm th hY : Nat → Int32} {m : Nat} {P par L : Nat → Nat} {postR : Int32 → SY → Prop}
theorem yu_keep (G : rl_G k s l c hX kY zY cY en hd nm th hY (m + 1) P par L) {d x e t : Nat} (d1 : d < 12) (x1 : x < 64) (kd : k d = 2) (he : e < m + 1) (hP : P e = d * 64 + x) (t0 : 0 < t) (t1 : t < 12) (hs : s (d * 64 + x) = nI t) (kt : k t = 1)
    (hu : (∃ q, q < 768 ∧ upd s (d * 64 + x) 0 q = nI t) ∨ ∃ i, i < 4 ∧ hX i = nI t)
    (h : postR (nI (cn_c (fun q => decide (upd s (d * 64 + x) 0 q = nI t)) 768)) (kY, zY, cY, upd en 0 (nI m), upd hd e (hd m), upd nm e (nm m), upd th e (th m), hY)) : wpY_unlink postR (kY, zY, cY, en, hd, nm, th, hY) (nI d) (nI x) := by
  obtain ⟨P', G1⟩ := nw_clear G t1 kt he (by rw [hP]; exact hs)
  rw [hP] at G1
  obtain ⟨g1, g2, g3, g4, g5, g6⟩ := G
  have hm := g2.1
  have n0 := na_nz (a := t) (by omega) t0
  have ey := (g5 t t1).2.2.2.2.1.trans kt
  unfold wpY_unlink
  refine yp_place_t d1 ((g5 d d1).2.2.2.2.1.trans kd) x1 ?_
  refine br_t rfl ?_
  refine y0_t g1 g2 d1 x1 he hP ?_
  refine br_t (nI_pos' (by omega)) ⟨vp_in_nI (by omega) (by decide), nm_r (e' := nI t) ?_ ⟨vp_in_nI (by omega) (by decide), br_f ?_ ?_⟩⟩
  · rw [na_cl (by omega), (g2.2.1 e he).2.2.2.2, hP, hs]
  · rw [na_cl (by omega), ey]; decide
  · refine yp_take (m := m) (by omega) (by omega) g1 ?_
    refine st_f G1 t0 t1 hu ?_
    refine yp_links G1.2.1.1 G1.1 ?_
    rw [← ct_th G1.2.1 n0]
    exact h
theorem yu_drop (G : rl_G k s l c hX kY zY cY en hd nm th hY (m + 1) P par L) {d x e t : Nat} (d1 : d < 12) (x1 : x < 64) (kd : k d = 2) (he : e < m + 1) (hP : P e = d * 64 + x) (t0 : 0 < t) (t1 : t < 12) (hs : s (d * 64 + x) = nI t) (kt : k t = 1)
    (ns : ∀ q, q < 768 → upd s (d * 64 + x) 0 q ≠ nI t) (nh : ∀ i, i < 4 → hX i ≠ nI t)
    (h : postR (nI (cn_c (fun q => decide (upd s (d * 64 + x) 0 q = nI t)) 768)) (upd kY t 0, zY, cY, upd en 0 (nI m), upd hd e (hd m), upd nm e (nm m), upd th e (th m), hY)) : wpY_unlink postR (kY, zY, cY, en, hd, nm, th, hY) (nI d) (nI x) := by
  obtain ⟨P', G1⟩ := nw_clear G t1 kt he (by rw [hP]; exact hs)
  rw [hP] at G1
  obtain ⟨g1, g2, g3, g4, g5, g6⟩ := G
  have hm := g2.1
  have n0 := na_nz (a := t) (by omega) t0
  have ey := (g5 t t1).2.2.2.2.1.trans kt
  unfold wpY_unlink
  refine yp_place_t d1 ((g5 d d1).2.2.2.2.1.trans kd) x1 ?_
  refine br_t rfl ?_
  refine y0_t g1 g2 d1 x1 he hP ?_
  refine br_t (nI_pos' (by omega)) ⟨vp_in_nI (by omega) (by decide), nm_r (e' := nI t) ?_ ⟨vp_in_nI (by omega) (by decide), br_f ?_ ?_⟩⟩
  · rw [na_cl (by omega), (g2.2.1 e he).2.2.2.2, hP, hs]
  · rw [na_cl (by omega), ey]; decide
  · refine yp_take (m := m) (by omega) (by omega) g1 ?_
    refine st_t G1 t0 t1 ns nh ?_
    refine yp_links G1.2.1.1 G1.1 ?_
    rw [← ct_th G1.2.1 n0]
    exact h
theorem yr_t (G : rl_G k s l c hX kY zY cY en hd nm th hY (m + 1) P par L) {d x e t : Nat} (d1 : d < 12) (x1 : x < 64) (kd : k d = 2) (he : e < m + 1) (hP : P e = d * 64 + x) (t0 : 0 < t) (t1 : t < 12) (hs : s (d * 64 + x) = nI t) (kt : k t = 2)
    (hz : ∀ x, x < 64 → s (t * 64 + x) = 0)
    (h : postR 0 (upd kY t 0, zY, cY, upd en 0 (nI m), upd hd e (hd m), upd nm e (nm m), upd th e (th m), hY)) : wpY_removeDir postR (kY, zY, cY, en, hd, nm, th, hY) (nI d) (nI x) := by
  obtain ⟨g1, g2, g3, g4, g5, g6⟩ := G
  have hm := g2.1
  have ey := (g5 t t1).2.2.2.2.1.trans kt
  unfold wpY_removeDir
  refine yp_place_t d1 ((g5 d d1).2.2.2.2.1.trans kd) x1 ?_
  refine br_t rfl ?_
  refine y0_t g1 g2 d1 x1 he hP ?_
  refine br_t (nI_pos' (by omega)) ⟨vp_in_nI (by omega) (by decide), nm_r (e' := nI t) ?_ ⟨vp_in_nI (by omega) (by decide), br_t ?_ ?_⟩⟩
  · rw [na_cl (by omega), (g2.2.1 e he).2.2.2.2, hP, hs]
  · rw [na_cl (by omega), ey]
  · refine yp_cnt_t hm g1 t1 ey ?_
    rw [← ct_dir g2 t1, cn_zero (fun q hq => decide_eq_false (fun w => w (hz q hq)))]
    refine br_t (by decide) ?_
    refine yp_take (m := m) (by omega) (by omega) g1 ?_
    exact ⟨vp_in_nI (by omega) (by decide), nm_r (by rw [na_cl (by omega)]) h⟩
/-- the only slot of a directory, emptied -/
theorem dr_one (hT : rl_T k s par) {q t : Nat} (hq : q < 768) (t0 : 0 < t) (t1 : t < 12) (kt : k t = 2) (hs : s q = nI t) : ∀ r, r < 768 → upd s q 0 r ≠ nI t := fun r hr z => by
  obtain ⟨q0, a1, a2, a3, a4⟩ := hT.2.2.1 t t0 t1 kt
  by_cases e : r = q
  · rw [e, pk_us] at z; exact na_nz (by omega) t0 z.symm
  · rw [pk_un e] at z
    exact e ((a4 r hr z).trans (a4 q hq hs).symm)
theorem dr_h (hH : rl_H k hX hY) {t : Nat} (t0 : 0 < t) (t1 : t < 12) (kt : k t ≠ 1) : ∀ i, i < 4 → hX i ≠ nI t := fun i hi z => by
  rcases hH i hi with ⟨a1, a2⟩ | ⟨t', b0, b1, b2, b3, b4⟩
  · rw [a1] at z; exact na_nz (by omega) t0 z.symm
  · rw [b3] at z
    rw [na_eq (by omega) (by omega) z] at b2; exact kt b2
end
theorem i_vc_unlink {k : Nat} {u : SX} {v : SY} (I : i_Rel k u v) (hk : k + 5 ≤ 2560) (v1 : Int32) (v2 : Int32) : wpX_unlink (fun r u' => wpY_unlink (fun r' v' => r' = r ∧ i_Rel (k + 5) u' v') v v1 v2) u v1 v2 := by
  obtain ⟨k, s, l, c, hX, sk, ss, sl, sc⟩ := u
  obtain ⟨kY, zY, cY, en, hd, nm, th, hY⟩ := v
  obtain ⟨m, P, par, L, G, U⟩ := nw_G I.1
  obtain ⟨g1, g2, g3, g4, g5, g6⟩ := id G
  unfold wpX_unlink
  by_cases hp : is_k k 2 v1 ∧ is_n v2
  · obtain ⟨⟨d, d1, rfl, h2⟩, x, x1, rfl⟩ := hp
    have ey := (g5 d d1).2.2.2.2.1.trans h2
    refine xp_place_t d1 h2 x1 ?_
    refine br_f (by decide) ?_
    refine xp_slot ?_
    refine ⟨vp_in_nI (by omega) (by decide), ?_⟩
    rw [na_cl (by omega)]
    by_cases z : s (d * 64 + x) = 0
    · refine nm_e (br_t z ?_)
      unfold wpY_unlink
      refine yp_place_t d1 ey x1 ?_
      refine br_t rfl ?_
      refine y0_f g1 g2 d1 x1 z ?_
      exact br_f (by decide) ⟨rfl, I⟩
    · obtain ⟨e, e1, e2⟩ := g2.2.2.2 (d * 64 + x) (by omega) z
      obtain ⟨t, t0, t1, hs, kt⟩ := sl_t g3 d1 x1 z
      have hm := g2.1
      refine nm_r hs (br_f (na_nz (by omega) t0) ?_)
      rcases kt with kt | kt
      · refine xp_dir_f (ik_n t1 (by rw [kt]; decide)) ?_
        refine br_t rfl ⟨vp_in_nI (by omega) (by decide), nm_e ?_⟩
        obtain ⟨m', rfl⟩ : ∃ m', m = m' + 1 := ⟨m - 1, by omega⟩
        obtain ⟨P', G1⟩ := nw_clear G t1 kt e1 (by rw [e2]; exact hs)
        rw [e2] at G1
        by_cases hu : (∃ q, q < 768 ∧ upd s (d * 64 + x) 0 q = nI t) ∨ ∃ i, i < 4 ∧ hX i = nI t
        · refine xp_drop_f t0 t1 hu ?_
          refine xp_for (fun w => (na_nz (by omega) t0 w).elim) (fun _ => ?_)
          refine yu_keep G d1 x1 h2 e1 e2 t0 t1 hs kt hu ⟨rfl, ?_⟩
          exact ⟨nw_N G1 (nw_clearU U t1 hs hu), vk_e I.2 (by omega)⟩
        · have ns : ∀ q, q < 768 → upd s (d * 64 + x) 0 q ≠ nI t := fun q hq w => hu (Or.inl ⟨q, hq, w⟩)
          have nh : ∀ i, i < 4 → hX i ≠ nI t := fun i hi w => hu (Or.inr ⟨i, hi, w⟩)
          refine xp_drop_t t0 t1 ns nh ?_
          refine xp_for (fun w => (na_nz (by omega) t0 w).elim) (fun _ => ?_)
          refine yu_drop G d1 x1 h2 e1 e2 t0 t1 hs kt ns nh ⟨rfl, ?_⟩
          obtain ⟨L', G2⟩ := nw_drop G1 t1 kt ns nh
          exact ⟨nw_N G2 (nw_goneU U t1 hs), vk_e (vk_k I.2 t1) (by omega)⟩
      · refine xp_dir_t ⟨t, t1, rfl, kt⟩ ?_
        refine br_f (by decide) ?_
        unfold wpY_unlink
        refine yp_place_t d1 ey x1 ?_
        refine br_t rfl ?_
        refine y0_t g1 g2 d1 x1 e1 e2 ?_
        refine br_t (nI_pos' (by omega)) ⟨vp_in_nI (by omega) (by decide), nm_r (e' := nI t) ?_ ⟨vp_in_nI (by omega) (by decide), br_t ?_ ⟨rfl, I⟩⟩⟩
        · rw [na_cl (by omega), (g2.2.1 e e1).2.2.2.2, e2, hs]
        · rw [na_cl (by omega)]; exact (g5 t t1).2.2.2.2.1.trans kt
  · refine xp_place_f hp ?_
    refine br_t rfl ?_
    unfold wpY_unlink
    refine yp_place_f (fun w => hp ⟨(ik_y g5).mp w.1, w.2⟩) ?_
    exact br_f (by decide) ⟨rfl, I⟩
theorem i_vc_removeDir {k : Nat} {u : SX} {v : SY} (I : i_Rel k u v) (hk : k + 5 ≤ 2560) (v1 : Int32) (v2 : Int32) : wpX_removeDir (fun r u' => wpY_removeDir (fun r' v' => r' = r ∧ i_Rel (k + 5) u' v') v v1 v2) u v1 v2 := by
  obtain ⟨k, s, l, c, hX, sk, ss, sl, sc⟩ := u
  obtain ⟨kY, zY, cY, en, hd, nm, th, hY⟩ := v
  obtain ⟨m, P, par, L, G, U⟩ := nw_G I.1
  obtain ⟨g1, g2, g3, g4, g5, g6⟩ := id G
  unfold wpX_removeDir
  by_cases hp : is_k k 2 v1 ∧ is_n v2
  · obtain ⟨⟨d, d1, rfl, h2⟩, x, x1, rfl⟩ := hp
    have ey := (g5 d d1).2.2.2.2.1.trans h2
    refine xp_place_t d1 h2 x1 ?_
    refine br_f (by decide) ?_
    refine xp_slot ?_
    refine ⟨vp_in_nI (by omega) (by decide), ?_⟩
    rw [na_cl (by omega)]
    by_cases z : s (d * 64 + x) = 0
    · refine nm_e (br_t z ?_)
      unfold wpY_removeDir
      refine yp_place_t d1 ey x1 ?_
      refine br_t rfl ?_
      refine y0_f g1 g2 d1 x1 z ?_
      exact br_f (by decide) ⟨rfl, I⟩
    · obtain ⟨e, e1, e2⟩ := g2.2.2.2 (d * 64 + x) (by omega) z
      obtain ⟨t, t0, t1, hs, kt⟩ := sl_t g3 d1 x1 z
      have hm := g2.1
      have et : th e = nI t := by rw [(g2.2.1 e e1).2.2.2.2, e2, hs]
      refine nm_r hs (br_f (na_nz (by omega) t0) ?_)
      rcases kt with kt | kt
      · refine xp_file_t ⟨t, t1, rfl, kt⟩ ?_
        refine br_f (by decide) ?_
        unfold wpY_removeDir
        refine yp_place_t d1 ey x1 ?_
        refine br_t rfl ?_
        refine y0_t g1 g2 d1 x1 e1 e2 ?_
        refine br_t (nI_pos' (by omega)) ⟨vp_in_nI (by omega) (by decide), nm_r (e' := nI t) (by rw [na_cl (by omega)]; exact et) ⟨vp_in_nI (by omega) (by decide), br_f ?_ ⟨rfl, I⟩⟩⟩
        rw [na_cl (by omega), (g5 t t1).2.2.2.2.1, kt]; decide
      · have kyt := (g5 t t1).2.2.2.2.1.trans kt
        refine xp_file_f (ik_n t1 (by rw [kt]; decide)) ?_
        refine br_t rfl ?_
        refine xp_in t1 ?_
        have hle := cn_le (fun q => decide (¬ s (t * 64 + q) = 0)) 64
        by_cases hc : cn_c (fun q => decide (¬ s (t * 64 + q) = 0)) 64 = 0
        · have hz : ∀ x, x < 64 → s (t * 64 + x) = 0 := fun x hx => Decidable.byContradiction fun w => of_decide_eq_false (cn_all hc x hx) w
          rw [hc]
          refine br_t (by decide) ⟨vp_in_nI (by omega) (by decide), nm_e ?_⟩
          refine xp_drop_t t0 t1 (dr_one g4 (by omega) t0 t1 kt hs) (dr_h g6 t0 t1 (by rw [kt]; decide)) ?_
          obtain ⟨m', rfl⟩ : ∃ m', m = m' + 1 := ⟨m - 1, by omega⟩
          obtain ⟨P', L', G1⟩ := nw_rmdir G t0 t1 kt e1 (by rw [e2]; exact hs) hz
          rw [e2] at G1
          refine yr_t G d1 x1 h2 e1 e2 t0 t1 hs kt hz ⟨rfl, ?_⟩
          exact ⟨nw_N G1 (nw_goneU U t1 hs), vk_e (vk_k I.2 t1) (by omega)⟩
        · have hc' : ¬ nI (cn_c (fun q => decide (¬ s (t * 64 + q) = 0)) 64) ≤ 0 := nI_nle (by omega) (by omega)
          refine br_f hc' ?_
          unfold wpY_removeDir
          refine yp_place_t d1 ey x1 ?_
          refine br_t rfl ?_
          refine y0_t g1 g2 d1 x1 e1 e2 ?_
          refine br_t (nI_pos' (by omega)) ⟨vp_in_nI (by omega) (by decide), nm_r (e' := nI t) (by rw [na_cl (by omega)]; exact et) ⟨vp_in_nI (by omega) (by decide), br_t (by rw [na_cl (by omega)]; exact kyt) ?_⟩⟩
          refine yp_cnt_t hm g1 t1 kyt ?_
          rw [← ct_dir g2 t1]
          exact br_f hc' ⟨rfl, I⟩
  · refine xp_place_f hp ?_
    refine br_t rfl ?_
    unfold wpY_removeDir
    refine yp_place_f (fun w => hp ⟨(ik_y g5).mp w.1, w.2⟩) ?_
    exact br_f (by decide) ⟨rfl, I⟩
theorem hv_3 {v : Int32} (h : ¬ ∃ t, t < 4 ∧ v = nI t) : v < 0 ∨ (¬ v < 0 ∧ 3 < v ∧ ¬ v ≤ 3) := by
  rcases na_ng (by decide) h with e | ⟨e1, e2⟩
  · exact Or.inl e
  · obtain ⟨j, hj, rfl⟩ := nI_of e1
    rw [nI_leI (by decide) hj] at e2
    exact Or.inr ⟨e1, nI_lt (a := 3) (by omega) hj, nI_ge (a := 3) (by omega) hj⟩
theorem i_vc_open {k : Nat} {u : SX} {v : SY} (I : i_Rel k u v) (hk : k + 5 ≤ 2560) (v1 : Int32) (v2 : Int32) : wpX_open (fun r u' => wpY_open (fun r' v' => r' = r ∧ i_Rel (k + 5) u' v') v v1 v2) u v1 v2 := by
  obtain ⟨k, s, l, c, hX, sk, ss, sl, sc⟩ := u
  obtain ⟨kY, zY, cY, en, hd, nm, th, hY⟩ := v
  obtain ⟨m, P, par, L, G, U⟩ := nw_G I.1
  obtain ⟨g1, g2, g3, g4, g5, g6⟩ := id G
  unfold wpX_open
  by_cases hp : ∃ t, t < 4 ∧ v1 = nI t
  · obtain ⟨i, hi, rfl⟩ := hp
    have vi : vp_in (nI i) 4 := vp_in_nI hi (by decide)
    have q1 : ¬ nI i < 0 := nI_pos (by omega)
    have q2 : ¬ 3 < nI i := nI_nlt (a := 3) (by omega) (by decide)
    refine xp_hd_t hi ?_
    refine br_f (by decide) ?_
    by_cases hf : is_k k 1 v2
    · refine xp_file_t hf ?_
      have hf' := (ik_y g5).mpr hf
      obtain ⟨t, t1, rfl, kt⟩ := hf
      have t0 := us_x0 g3.1 kt
      refine br_f (by decide) ⟨vi, ?_⟩
      rw [na_cl (by omega)]
      rcases g6 i hi with ⟨a1, a2⟩ | ⟨y, y0, y1, a1, a2, a3⟩
      · refine br_t a1 ⟨vi, nm_e ?_⟩
        unfold wpY_open
        refine br_f q1 (br_f q2 ?_)
        refine yp_file_t hf' ?_
        refine br_f (by decide) ⟨vi, ?_⟩
        rw [na_cl (by omega)]
        refine br_t (by rw [a2]; decide) ⟨vi, nm_e ⟨rfl, ?_⟩⟩
        exact ⟨nw_N (nw_hold G t0 t1 kt) (nw_holdU U g3.1 a1), I.2⟩
      · refine br_f (by rw [a2]; exact na_nz (by omega) y0) ?_
        unfold wpY_open
        refine br_f q1 (br_f q2 ?_)
        refine yp_file_t hf' ?_
        refine br_f (by decide) ⟨vi, ?_⟩
        rw [na_cl (by omega)]
        exact br_f (by rw [a3]; exact nI_pos (by omega)) ⟨rfl, I⟩
    · refine xp_file_f hf ?_
      refine br_t rfl ?_
      unfold wpY_open
      refine br_f q1 (br_f q2 ?_)
      refine yp_file_f (fun w => hf ((ik_y g5).mp w)) ?_
      exact br_t rfl ⟨rfl, I⟩
  · refine xp_hd_f hp ?_
    refine br_t rfl ?_
    unfold wpY_open
    rcases hv_3 hp with e | ⟨e1, e2, _⟩
    · exact br_t e ⟨rfl, I⟩
    · exact br_f e1 (br_t e2 ⟨rfl, I⟩)
theorem i_vc_close {k : Nat} {u : SX} {v : SY} (I : i_Rel k u v) (hk : k + 5 ≤ 2560) (v1 : Int32) : wpX_close (fun r u' => wpY_close (fun r' v' => r' = r ∧ i_Rel (k + 5) u' v') v v1) u v1 := by
  obtain ⟨k, s, l, c, hX, sk, ss, sl, sc⟩ := u
  obtain ⟨kY, zY, cY, en, hd, nm, th, hY⟩ := v
  obtain ⟨m, P, par, L, G, U⟩ := nw_G I.1
  obtain ⟨g1, g2, g3, g4, g5, g6⟩ := id G
  unfold wpX_close
  by_cases hp : ∃ t, t < 4 ∧ v1 = nI t
  · obtain ⟨i, hi, rfl⟩ := hp
    have vi : vp_in (nI i) 4 := vp_in_nI hi (by decide)
    have q1 : ¬ nI i < 0 := nI_pos (by omega)
    have q2 : nI i ≤ 3 := nI_le (b := 3) (by omega) (by decide)
    refine xp_hd_t hi ?_
    refine br_f (by decide) ⟨vi, ?_⟩
    rw [na_cl (by omega)]
    rcases g6 i hi with ⟨a1, a2⟩ | ⟨t, t0, t1, a1, a2, a3⟩
    · refine nm_e (br_t a1 ?_)
      unfold wpY_close
      refine br_f q1 (br_t q2 ⟨vi, ?_⟩)
      rw [na_cl (by omega)]
      exact br_f (by rw [a2]; decide) ⟨rfl, I⟩
    · refine nm_r a2 (br_f (na_nz (by omega) t0) ⟨vi, nm_e ?_⟩)
      have G1 := nw_let G (i := i)
      by_cases hu : (∃ q, q < 768 ∧ s q = nI t) ∨ ∃ h, h < 4 ∧ upd hX i 0 h = nI t
      · refine xp_drop_f t0 t1 hu ?_
        refine ⟨vp_in_nI t1 (by decide), br_f (by rw [na_cl (by omega), a1]; decide) ?_⟩
        unfold wpY_close
        refine br_f q1 (br_t q2 ⟨vi, ?_⟩)
        rw [na_cl (by omega)]
        refine br_t (by rw [a3]; exact nI_pos' (by omega)) ⟨vi, nm_r a3 ⟨vi, nm_e ?_⟩⟩
        refine st_f G1 t0 t1 hu ?_
        refine br_t rfl ⟨rfl, ?_⟩
        exact ⟨nw_N G1 (nw_letU U t1 a2 hu), I.2⟩
      · have ns : ∀ q, q < 768 → s q ≠ nI t := fun q hq w => hu (Or.inl ⟨q, hq, w⟩)
        have nh : ∀ h, h < 4 → upd hX i 0 h ≠ nI t := fun h hh w => hu (Or.inr ⟨h, hh, w⟩)
        refine xp_drop_t t0 t1 ns nh ?_
        refine ⟨vp_in_nI t1 (by decide), br_t (by rw [na_cl (by omega)]; exact pk_us) ?_⟩
        unfold wpY_close
        refine br_f q1 (br_t q2 ⟨vi, ?_⟩)
        rw [na_cl (by omega)]
        refine br_t (by rw [a3]; exact nI_pos' (by omega)) ⟨vi, nm_r a3 ⟨vi, nm_e ?_⟩⟩
        refine st_t G1 t0 t1 ns nh ?_
        refine br_f (by decide) ⟨rfl, ?_⟩
        obtain ⟨L', G2⟩ := nw_drop G1 t1 a1 ns nh
        exact ⟨nw_N G2 (nw_letgoneU U t1 a2), vk_k I.2 t1⟩
  · refine xp_hd_f hp ?_
    refine br_t rfl ?_
    unfold wpY_close
    rcases hv_3 hp with e | ⟨e1, _, e2⟩
    · exact br_t e ⟨rfl, I⟩
    · exact br_f e1 (br_f e2 ⟨rfl, I⟩)
