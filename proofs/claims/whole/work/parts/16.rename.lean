/-! rename -/
section
variable {k s l c hX sk ss sl sc kY zY cY en hd nm th hY : Nat → Int32} {m : Nat} {P par L : Nat → Nat} {post : Int32 → Prop} {postR : Int32 → SY → Prop}
theorem rn_all (hK : rl_K k s) (hT : rl_T k s par) {d t : Nat} (d1 : d < 12) (kd : k d = 2) (t0 : 0 < t) (h : ∀ j, j < 12 → it_i par j d ≠ t) : ∀ j, it_i par j d ≠ t := fun j => by
  by_cases e : j < 12
  · exact h j e
  · have z := it_stay hT.1 (a := 11) (b := j) (by omega) (it_11 hT.1 hT.2.1 d1 (hT.2.2.2 d d1 kd))
    rw [z]; omega
theorem xr_30 (hK : rl_K k s) (hT : rl_T k s par) {t d : Nat} {w : Int32} (t1 : t < 12) (kt : k t = 1 ∨ k t = 2) (d1 : d < 12) (kd : k d = 2) (nl : k t = 2 → ∀ j, it_i par j d ≠ t)
    (h1 : k t = 1 → wX_renameRefusal_30 post w 0 k s l c hX sk ss sl sc) (h2 : k t = 2 → wX_renameRefusal_30 post w 1 k s l c hX sk ss sl sc) : wpX_renameRefusal post (k, s, l, c, hX, sk, ss, sl, sc) (nI t) (nI d) w := by
  unfold wpX_renameRefusal
  rcases kt with kt | kt
  · refine xp_dir_f (ik_n t1 (by rw [kt]; decide)) ?_
    exact br_t rfl (h1 kt)
  · refine xp_dir_t ⟨t, t1, rfl, kt⟩ ?_
    refine br_f (by decide) ?_
    refine xp_below_f hK hT d1 kd t1 (fun j _ => nl kt j) ?_
    exact br_t rfl (h2 kt)
theorem xr_loop (hK : rl_K k s) (hT : rl_T k s par) {t d j0 : Nat} {w : Int32} (t1 : t < 12) (kt : k t = 2) (d1 : d < 12) (kd : k d = 2) (hj : j0 < 12) (e : it_i par j0 d = t) (hm : ∀ j, j < j0 → it_i par j d ≠ t) (h : post (-8)) : wpX_renameRefusal post (k, s, l, c, hX, sk, ss, sl, sc) (nI t) (nI d) w := by
  unfold wpX_renameRefusal
  refine xp_dir_t ⟨t, t1, rfl, kt⟩ ?_
  refine br_f (by decide) ?_
  refine xp_below_t hK hT d1 kd t1 hj e hm ?_
  exact br_f (by decide) h
theorem yn_none (G : rl_G k s l c hX kY zY cY en hd nm th hY m P par L) {d x d2 x2 e t : Nat} (d1 : d < 12) (x1 : x < 64) (kd : k d = 2) (e1 : d2 < 12) (y1 : x2 < 64) (kd2 : k d2 = 2) (he : e < m) (hP : P e = d * 64 + x) (hs : s (d * 64 + x) = nI t) (hr : s (d2 * 64 + x2) = 0)
    (h : wY_rename_73 postR (nI d) (nI x) (nI d2) (nI x2) (nI t) (-1) (-1) kY zY cY en hd nm th hY) : wpY_rename postR (kY, zY, cY, en, hd, nm, th, hY) (nI d) (nI x) (nI d2) (nI x2) := by
  obtain ⟨g1, g2, g3, g4, g5, g6⟩ := G
  have hm := g2.1
  unfold wpY_rename
  refine yp_place_t d1 ((g5 d d1).2.2.2.2.1.trans kd) x1 ?_
  refine br_t rfl ?_
  refine yp_place_t e1 ((g5 d2 e1).2.2.2.2.1.trans kd2) y1 ?_
  refine br_t rfl ?_
  refine y0_t g1 g2 d1 x1 he hP ?_
  refine br_t (nI_pos' (by omega)) ⟨vp_in_nI (by omega) (by decide), nm_r (e' := nI t) (by rw [na_cl (by omega), (g2.2.1 e he).2.2.2.2, hP, hs]) ?_⟩
  refine y0_f g1 g2 e1 y1 hr ?_
  exact br_f (by decide) h
theorem yn_some (G : rl_G k s l c hX kY zY cY en hd nm th hY m P par L) {d x d2 x2 e t e2 t2 : Nat} (d1 : d < 12) (x1 : x < 64) (kd : k d = 2) (e1 : d2 < 12) (y1 : x2 < 64) (kd2 : k d2 = 2) (he : e < m) (hP : P e = d * 64 + x) (hs : s (d * 64 + x) = nI t) (he2 : e2 < m) (hP2 : P e2 = d2 * 64 + x2) (hr : s (d2 * 64 + x2) = nI t2)
    (h : wY_rename_73 postR (nI d) (nI x) (nI d2) (nI x2) (nI t) (nI e2) (nI t2) kY zY cY en hd nm th hY) : wpY_rename postR (kY, zY, cY, en, hd, nm, th, hY) (nI d) (nI x) (nI d2) (nI x2) := by
  obtain ⟨g1, g2, g3, g4, g5, g6⟩ := G
  have hm := g2.1
  unfold wpY_rename
  refine yp_place_t d1 ((g5 d d1).2.2.2.2.1.trans kd) x1 ?_
  refine br_t rfl ?_
  refine yp_place_t e1 ((g5 d2 e1).2.2.2.2.1.trans kd2) y1 ?_
  refine br_t rfl ?_
  refine y0_t g1 g2 d1 x1 he hP ?_
  refine br_t (nI_pos' (by omega)) ⟨vp_in_nI (by omega) (by decide), nm_r (e' := nI t) (by rw [na_cl (by omega), (g2.2.1 e he).2.2.2.2, hP, hs]) ?_⟩
  refine y0_t g1 g2 e1 y1 he2 hP2 ?_
  refine br_t (nI_pos' (by omega)) ⟨vp_in_nI (by omega) (by decide), ?_⟩
  rw [na_cl (by omega), (g2.2.1 e2 he2).2.2.2.2, hP2, hr]; exact h
theorem yn_120 (G : rl_G k s l c hX kY zY cY en hd nm th hY m P par L) {d x d2 x2 t : Nat} {x7 z0 : Int32} (e1 : d2 < 12) (kd2 : k d2 = 2) (t1 : t < 12) (kt : k t = 1 ∨ k t = 2) (ne : ¬ z0 = nI t) (nl : k t = 2 → ∀ j, it_i par j d2 ≠ t)
    (h1 : k t = 1 → wY_rename_120 postR (nI d) (nI x) (nI d2) (nI x2) (nI t) x7 z0 0 kY zY cY en hd nm th hY) (h2 : k t = 2 → wY_rename_120 postR (nI d) (nI x) (nI d2) (nI x2) (nI t) x7 z0 1 kY zY cY en hd nm th hY) : wY_rename_73 postR (nI d) (nI x) (nI d2) (nI x2) (nI t) x7 z0 kY zY cY en hd nm th hY := by
  obtain ⟨g1, g2, g3, g4, g5, g6⟩ := G
  have ey := (g5 t t1).2.2.2.2.1
  unfold wY_rename_73
  refine br_f ne ⟨vp_in_nI (by omega) (by decide), ?_⟩
  rw [na_cl (by omega), ey]
  rcases kt with kt | kt
  · exact br_f (by rw [kt]; decide) (br_t rfl (h1 kt))
  · refine br_t kt (br_f (by decide) ?_)
    refine yp_under_f g2 g1 g3 g4 e1 kd2 t1 (fun j _ => nl kt j) ?_
    exact br_t rfl (h2 kt)
theorem yn_loop (G : rl_G k s l c hX kY zY cY en hd nm th hY m P par L) {d x d2 x2 t j0 : Nat} {x7 z0 : Int32} (e1 : d2 < 12) (kd2 : k d2 = 2) (t1 : t < 12) (kt : k t = 2) (ne : ¬ z0 = nI t) (hj : j0 < 12) (e : it_i par j0 d2 = t) (hm : ∀ j, j < j0 → it_i par j d2 ≠ t)
    (h : postR (-8) (kY, zY, cY, en, hd, nm, th, hY)) : wY_rename_73 postR (nI d) (nI x) (nI d2) (nI x2) (nI t) x7 z0 kY zY cY en hd nm th hY := by
  obtain ⟨g1, g2, g3, g4, g5, g6⟩ := G
  have ey := (g5 t t1).2.2.2.2.1
  unfold wY_rename_73
  refine br_f ne ⟨vp_in_nI (by omega) (by decide), ?_⟩
  rw [na_cl (by omega), ey]
  refine br_t kt (br_f (by decide) ?_)
  refine yp_under_t g2 g1 g3 g4 e1 kd2 t1 (by omega) e hm ?_
  exact br_f (by decide) h
theorem yn_204 (G : rl_G k s l c hX kY zY cY en hd nm th hY m P par L) (U : rl_U k s hX) (V : rl_V sk ss sl sc kY zY cY en hd nm th) {d x d2 x2 t : Nat} {x7 a : Int32} (d1 : d < 12) (x1 : x < 64) (e1 : d2 < 12) (y1 : x2 < 64) (kd2 : k d2 = 2) (t0 : 0 < t) (t1 : t < 12) (kt : k t = 1 ∨ k t = 2) (hs : s (d * 64 + x) = nI t) (hr : s (d2 * 64 + x2) = 0) (nl : k t = 2 → ∀ j, it_i par j d2 ≠ t)
    (ha : (0 ≤ x7 ∧ a = 1) ∨ (¬ 0 ≤ x7 ∧ a = 0))
    (h : ∀ en' hd' nm' th', rl_N k (upd (upd s (d * 64 + x) 0) (d2 * 64 + x2) (nI t)) l c hX kY zY cY en' hd' nm' th' hY → rl_V sk ss sl sc kY zY cY en' hd' nm' th' → postR a (kY, zY, cY, en', hd', nm', th', hY)) : wY_rename_204 postR (nI d) (nI x) (nI d2) (nI x2) (nI t) x7 kY zY cY en hd nm th hY := by
  obtain ⟨g1, g2, g3, g4, g5, g6⟩ := id G
  have hm := g2.1
  obtain ⟨e, he, hP⟩ := g2.2.2.2 (d * 64 + x) (by omega) (by rw [hs]; exact na_nz (by omega) t0)
  obtain ⟨m', rfl⟩ : ∃ m', m = m' + 1 := ⟨m - 1, by omega⟩
  obtain ⟨P', par', G'⟩ := nw_move G t0 t1 kt he (by rw [hP]; exact hs) e1 y1 kd2 hr nl
  rw [hP] at G'
  have N' := nw_N G' (nw_moveU U g3.1 t1 hs (by omega) hr)
  have V' : rl_V sk ss sl sc kY zY cY (upd (upd en 0 (nI m')) 0 (nI (m' + 1))) (upd (upd hd e (hd m')) m' (nI d2)) (upd (upd nm e (nm m')) m' (nI x2)) (upd (upd th e (th m')) m' (nI t)) := vk_e (vk_e V (by omega)) (by omega)
  unfold wY_rename_204
  refine y0_t g1 g2 d1 x1 he hP ?_
  refine yp_take (m := m') (by omega) (by omega) g1 ?_
  refine yp_add (m := m') (by omega) pk_us ?_
  rcases ha with ⟨h7, rfl⟩ | ⟨h7, rfl⟩
  · exact br_t h7 (h _ _ _ _ N' V')
  · exact br_f h7 (h _ _ _ _ N' V')
end
theorem i_vc_rename {k : Nat} {u : SX} {v : SY} (I : i_Rel k u v) (hk : k + 5 ≤ 2560) (v1 : Int32) (v2 : Int32) (v3 : Int32) (v4 : Int32) : wpX_rename (fun r u' => wpY_rename (fun r' v' => r' = r ∧ i_Rel (k + 5) u' v') v v1 v2 v3 v4) u v1 v2 v3 v4 := by
  obtain ⟨k, s, l, c, hX, sk, ss, sl, sc⟩ := u
  obtain ⟨kY, zY, cY, en, hd, nm, th, hY⟩ := v
  obtain ⟨m, P, par, L, G, U⟩ := nw_G I.1
  obtain ⟨g1, g2, g3, g4, g5, g6⟩ := id G
  have hm := g2.1
  unfold wpX_rename
  by_cases hp : is_k k 2 v1 ∧ is_n v2
  · by_cases hp2 : is_k k 2 v3 ∧ is_n v4
    · obtain ⟨⟨d, d1, rfl, kd⟩, x, x1, rfl⟩ := hp
      obtain ⟨⟨d2, e1, rfl, kd2⟩, x2, y1, rfl⟩ := hp2
      have ey := (g5 d d1).2.2.2.2.1.trans kd
      have ey2 := (g5 d2 e1).2.2.2.2.1.trans kd2
      refine xp_place_t d1 kd x1 ?_
      refine br_f (by decide) ?_
      refine xp_place_t e1 kd2 y1 ?_
      refine br_f (by decide) ?_
      refine xp_slot ?_
      refine ⟨vp_in_nI (by omega) (by decide), ?_⟩
      rw [na_cl (n := d * 64 + x) (by omega)]
      by_cases z : s (d * 64 + x) = 0
      · refine nm_e (br_t z ?_)
        unfold wpY_rename
        refine yp_place_t d1 ey x1 ?_
        refine br_t rfl ?_
        refine yp_place_t e1 ey2 y1 ?_
        refine br_t rfl ?_
        refine y0_f g1 g2 d1 x1 z ?_
        exact br_f (by decide) ⟨rfl, I⟩
      · obtain ⟨e, he, hP⟩ := g2.2.2.2 (d * 64 + x) (by omega) z
        obtain ⟨t, t0, t1, hs, kt⟩ := sl_t g3 d1 x1 z
        have n0 := na_nz (a := t) (by omega) t0
        refine nm_r hs (br_f n0 ?_)
        refine xp_slot ?_
        refine ⟨vp_in_nI (by omega) (by decide), ?_⟩
        rw [na_cl (n := d2 * 64 + x2) (by omega)]
        by_cases zr : s (d2 * 64 + x2) = 0
        · refine nm_r zr (br_f (fun w => n0 w.symm) ?_)
          have nz1 : ¬ (-1 : Int32) = nI t := fun w => by
            have : ¬ nI t < 0 := nI_pos (by omega)
            rw [← w] at this; exact this (by decide)
          rcases cn_first (fun j => k t = 2 ∧ it_i par j d2 = t) 12 with ⟨j0, j1, ⟨k2, j2⟩, j3⟩ | hno
          · have j3' : ∀ j, j < j0 → it_i par j d2 ≠ t := fun j hj w => j3 j hj ⟨k2, w⟩
            refine xr_loop g3 g4 t1 k2 e1 kd2 j1 j2 j3' ?_
            refine br_f (by decide) ?_
            refine yn_none G d1 x1 kd e1 y1 kd2 he hP hs zr ?_
            exact yn_loop G e1 kd2 t1 k2 nz1 j1 j2 j3' ⟨rfl, I⟩
          · have nl : k t = 2 → ∀ j, it_i par j d2 ≠ t := fun k2 => rn_all g3 g4 e1 kd2 t0 (fun j hj w => hno j hj ⟨k2, w⟩)
            have go : ∀ u', u' = (k, upd (upd s (d * 64 + x) 0) (d2 * 64 + x2) (nI t), l, c, hX, sk, ss, sl, sc) → wpY_rename (fun r' v' => r' = 0 ∧ i_Rel 0 u' v') (kY, zY, cY, en, hd, nm, th, hY) (nI d) (nI x) (nI d2) (nI x2) := fun u' eu => by
              subst eu
              have F : wY_rename_204 (fun r' v' => r' = 0 ∧ i_Rel 0 (k, upd (upd s (d * 64 + x) 0) (d2 * 64 + x2) (nI t), l, c, hX, sk, ss, sl, sc) v') (nI d) (nI x) (nI d2) (nI x2) (nI t) (-1) kY zY cY en hd nm th hY :=
                yn_204 G U I.2 d1 x1 e1 y1 kd2 t0 t1 kt hs zr nl (Or.inr ⟨by decide, rfl⟩) (fun en' hd' nm' th' hN hV => ⟨rfl, hN, hV⟩)
              refine yn_none G d1 x1 kd e1 y1 kd2 he hP hs zr ?_
              exact yn_120 G e1 kd2 t1 kt nz1 nl (fun _ => br_t (by decide) F) (fun _ => br_t (by decide) F)
            refine xr_30 g3 g4 t1 kt e1 kd2 nl (fun _ => br_t rfl ?_) (fun _ => br_t rfl ?_)
            · exact br_t (by decide) ⟨vp_in_nI (by omega) (by decide), nm_e ⟨vp_in_nI (by omega) (by decide), nm_e (br_t rfl (go _ rfl))⟩⟩
            · exact br_t (by decide) ⟨vp_in_nI (by omega) (by decide), nm_e ⟨vp_in_nI (by omega) (by decide), nm_e (br_t rfl (go _ rfl))⟩⟩
        · obtain ⟨e2, he2, hP2⟩ := g2.2.2.2 (d2 * 64 + x2) (by omega) zr
          obtain ⟨t2, u0, u1, hr, kt2⟩ := sl_t g3 e1 y1 zr
          have n2 := na_nz (a := t2) (by omega) u0
          refine nm_r hr ?_
          by_cases tt : t2 = t
          · subst tt
            refine br_t rfl ?_
            refine yn_some G d1 x1 kd e1 y1 kd2 he hP hs he2 hP2 hr ?_
            exact br_t rfl ⟨rfl, I⟩
          · have ntt : ¬ nI t2 = nI t := na_ne (by omega) (by omega) tt
            have qr : d2 * 64 + x2 ≠ d * 64 + x := fun w => ntt (by rw [← hr, w, hs])
            refine br_f ntt ?_
            rcases cn_first (fun j => k t = 2 ∧ it_i par j d2 = t) 12 with ⟨j0, j1, ⟨k2, j2⟩, j3⟩ | hno
            · have j3' : ∀ j, j < j0 → it_i par j d2 ≠ t := fun j hj w => j3 j hj ⟨k2, w⟩
              refine xr_loop g3 g4 t1 k2 e1 kd2 j1 j2 j3' ?_
              refine br_f (by decide) ?_
              refine yn_some G d1 x1 kd e1 y1 kd2 he hP hs he2 hP2 hr ?_
              exact yn_loop G e1 kd2 t1 k2 ntt j1 j2 j3' ⟨rfl, I⟩
            · have nl : k t = 2 → ∀ j, it_i par j d2 ≠ t := fun k2 => rn_all g3 g4 e1 kd2 t0 (fun j hj w => hno j hj ⟨k2, w⟩)
              have ek2 := (g5 t2 u1).2.2.2.2.1
              have e2p : ¬ nI e2 < 0 := nI_pos (by omega)
              have e2q : 0 ≤ nI e2 := nI_pos' (by omega)
              obtain ⟨m', rfl⟩ : ∃ m', m = m' + 1 := ⟨m - 1, by omega⟩
              rcases kt2 with kt2 | kt2
              · rcases kt with kt | kt
                · -- a file over a file
                  obtain ⟨P1, G1⟩ := nw_clear G u1 kt2 he2 (by rw [hP2]; exact hr)
                  rw [hP2] at G1
                  have hs1 : upd s (d2 * 64 + x2) 0 (d * 64 + x) = nI t := by rw [pk_un (fun w => qr w.symm)]; exact hs
                  have sw := up_sw s qr (nI t)
                  have same : ∀ q, q < 768 → (upd (upd s (d * 64 + x) 0) (d2 * 64 + x2) (nI t) q = nI t2 ↔ upd s (d2 * 64 + x2) 0 q = nI t2) := fun q _ => by
                    by_cases c1 : q = d2 * 64 + x2
                    · rw [c1, pk_us, pk_us]
                      exact ⟨fun w => (ntt w.symm).elim, fun w => (n2 w.symm).elim⟩
                    · rw [pk_un c1, pk_un c1]
                      by_cases c2 : q = d * 64 + x
                      · rw [c2, pk_us, hs]
                        exact ⟨fun w => (n2 w.symm).elim, fun w => (ntt w.symm).elim⟩
                      · rw [pk_un c2]
                  refine xr_30 g3 g4 t1 (Or.inl kt) e1 kd2 nl (fun _ => br_f n2 ?_) (fun w => by rw [kt] at w; exact absurd w (by decide))
                  refine xp_dir_f (ik_n u1 (by rw [kt2]; decide)) ?_
                  refine br_t rfl (br_t rfl (br_t rfl (br_t rfl ?_)))
                  refine br_t (by decide) ⟨vp_in_nI (by omega) (by decide), nm_e ⟨vp_in_nI (by omega) (by decide), nm_e (br_f n2 ?_)⟩⟩
                  by_cases hu : (∃ q, q < 768 ∧ upd s (d2 * 64 + x2) 0 q = nI t2) ∨ ∃ i, i < 4 ∧ hX i = nI t2
                  · refine xp_drop_f u0 u1 ?_ ?_
                    · rcases hu with ⟨q, q1, q2⟩ | w
                      · exact Or.inl ⟨q, q1, (same q q1).mpr q2⟩
                      · exact Or.inr w
                    · refine yn_some G d1 x1 kd e1 y1 kd2 he hP hs he2 hP2 hr ?_
                      refine yn_120 G e1 kd2 t1 (Or.inl kt) ntt nl (fun _ => ?_) (fun w => by rw [kt] at w; exact absurd w (by decide))
                      refine br_f e2p (br_t rfl (br_t rfl ⟨vp_in_nI (by omega) (by decide), br_f (by rw [na_cl (by omega), ek2, kt2]; decide) (br_t rfl (br_t rfl ?_))⟩))
                      refine yu_keep G e1 y1 kd2 he2 hP2 u0 u1 hr kt2 hu ?_
                      refine yn_204 G1 (nw_clearU U u1 hr hu) (vk_e I.2 (by omega)) d1 x1 e1 y1 kd2 t0 t1 (Or.inl kt) hs1 pk_us nl (Or.inl ⟨e2q, rfl⟩) (fun en' hd' nm' th' hN hV => ⟨rfl, ?_, hV⟩)
                      rw [sw] at hN; exact hN
                  · have ns : ∀ q, q < 768 → upd s (d2 * 64 + x2) 0 q ≠ nI t2 := fun q hq w => hu (Or.inl ⟨q, hq, w⟩)
                    have nh : ∀ i, i < 4 → hX i ≠ nI t2 := fun i hi w => hu (Or.inr ⟨i, hi, w⟩)
                    obtain ⟨L2, G2⟩ := nw_drop G1 u1 kt2 ns nh
                    have kt' : upd k t2 0 t = 1 := by rw [pk_un (fun w => tt w.symm)]; exact kt
                    have kd2' : upd k t2 0 d2 = 2 := by
                      rw [pk_un (fun w => by rw [w, kt2] at kd2; exact absurd kd2 (by decide))]; exact kd2
                    refine xp_drop_t u0 u1 (fun q q1 w => ns q q1 ((same q q1).mp w)) nh ?_
                    refine yn_some G d1 x1 kd e1 y1 kd2 he hP hs he2 hP2 hr ?_
                    refine yn_120 G e1 kd2 t1 (Or.inl kt) ntt nl (fun _ => ?_) (fun w => by rw [kt] at w; exact absurd w (by decide))
                    refine br_f e2p (br_t rfl (br_t rfl ⟨vp_in_nI (by omega) (by decide), br_f (by rw [na_cl (by omega), ek2, kt2]; decide) (br_t rfl (br_t rfl ?_))⟩))
                    refine yu_drop G e1 y1 kd2 he2 hP2 u0 u1 hr kt2 ns nh ?_
                    refine yn_204 G2 (nw_goneU U u1 hr) (vk_e (vk_k I.2 u1) (by omega)) d1 x1 e1 y1 kd2' t0 t1 (Or.inl kt') hs1 pk_us (fun w => by rw [kt'] at w; exact absurd w (by decide)) (Or.inl ⟨e2q, rfl⟩) (fun en' hd' nm' th' hN hV => ⟨rfl, ?_, hV⟩)
                    rw [sw] at hN; exact hN
                · -- a directory over a file
                  refine xr_30 g3 g4 t1 (Or.inr kt) e1 kd2 nl (fun w => by rw [kt] at w; exact absurd w (by decide)) (fun _ => br_f n2 ?_)
                  refine xp_dir_f (ik_n u1 (by rw [kt2]; decide)) ?_
                  refine br_f (by decide) (br_t rfl ?_)
                  refine br_f (by decide) ?_
                  refine yn_some G d1 x1 kd e1 y1 kd2 he hP hs he2 hP2 hr ?_
                  refine yn_120 G e1 kd2 t1 (Or.inr kt) ntt nl (fun w => by rw [kt] at w; exact absurd w (by decide)) (fun _ => ?_)
                  exact br_f e2p (br_f (by decide) ⟨vp_in_nI (by omega) (by decide), br_t (by rw [na_cl (by omega), ek2]; exact kt2) ⟨rfl, I⟩⟩)
              · rcases kt with kt | kt
                · -- a file over a directory
                  refine xr_30 g3 g4 t1 (Or.inl kt) e1 kd2 nl (fun _ => br_f n2 ?_) (fun w => by rw [kt] at w; exact absurd w (by decide))
                  refine xp_dir_t ⟨t2, u1, rfl, kt2⟩ ?_
                  refine br_t rfl (br_t rfl (br_f (by decide) ?_))
                  refine br_f (by decide) ?_
                  refine yn_some G d1 x1 kd e1 y1 kd2 he hP hs he2 hP2 hr ?_
                  refine yn_120 G e1 kd2 t1 (Or.inl kt) ntt nl (fun _ => ?_) (fun w => by rw [kt] at w; exact absurd w (by decide))
                  exact br_f e2p (br_t rfl (br_t rfl ⟨vp_in_nI (by omega) (by decide), br_t (by rw [na_cl (by omega), ek2]; exact kt2) ⟨rfl, I⟩⟩))
                · -- a directory over a directory
                  have hle := cn_le (fun q => decide (¬ s (t2 * 64 + q) = 0)) 64
                  have ky2 := ek2.trans kt2
                  refine xr_30 g3 g4 t1 (Or.inr kt) e1 kd2 nl (fun w => by rw [kt] at w; exact absurd w (by decide)) (fun _ => br_f n2 ?_)
                  refine xp_dir_t ⟨t2, u1, rfl, kt2⟩ ?_
                  refine br_f (by decide) (br_f (by decide) (br_f (by decide) (br_f (by decide) ?_)))
                  refine xp_in u1 ?_
                  by_cases hc : cn_c (fun q => decide (¬ s (t2 * 64 + q) = 0)) 64 = 0
                  · have hz : ∀ x, x < 64 → s (t2 * 64 + x) = 0 := fun x hx => Decidable.byContradiction fun w => of_decide_eq_false (cn_all hc x hx) w
                    rw [hc]
                    refine br_t (by decide) ?_
                    refine br_t (by decide) ⟨vp_in_nI (by omega) (by decide), nm_e ⟨vp_in_nI (by omega) (by decide), nm_e (br_f n2 ?_)⟩⟩
                    obtain ⟨P1, L1, G1⟩ := nw_rmdir G u0 u1 kt2 he2 (by rw [hP2]; exact hr) hz
                    rw [hP2] at G1
                    have hs1 : upd s (d2 * 64 + x2) 0 (d * 64 + x) = nI t := by rw [pk_un (fun w => qr w.symm)]; exact hs
                    have sw := up_sw s qr (nI t)
                    have ns := dr_one g4 (q := d2 * 64 + x2) (by omega) u0 u1 kt2 hr
                    have kt' : upd k t2 0 t = 2 := by rw [pk_un (fun w => tt w.symm)]; exact kt
                    have dne : d2 ≠ t2 := fun w => by
                      have := hz x2 y1
                      rw [← w, hr] at this; exact n2 this
                    have kd2' : upd k t2 0 d2 = 2 := by rw [pk_un dne]; exact kd2
                    refine xp_drop_t u0 u1 (fun q q1 w => ?_) (dr_h g6 u0 u1 (by rw [kt2]; decide)) ?_
                    · by_cases c1 : q = d2 * 64 + x2
                      · rw [c1, pk_us] at w; exact ntt w.symm
                      · rw [pk_un c1] at w
                        by_cases c2 : q = d * 64 + x
                        · rw [c2, pk_us] at w; exact n2 w.symm
                        · rw [pk_un c2] at w
                          exact ns q q1 (by rw [pk_un c1]; exact w)
                    · refine yn_some G d1 x1 kd e1 y1 kd2 he hP hs he2 hP2 hr ?_
                      refine yn_120 G e1 kd2 t1 (Or.inr kt) ntt nl (fun w => by rw [kt] at w; exact absurd w (by decide)) (fun _ => ?_)
                      refine br_f e2p (br_f (by decide) ⟨vp_in_nI (by omega) (by decide), br_f (by rw [na_cl (by omega), ek2, kt2]; decide) (br_f (by decide) (br_f (by decide) ?_))⟩)
                      refine yp_cnt_t hm g1 u1 ky2 ?_
                      rw [← ct_dir g2 u1, hc]
                      refine br_t (by decide) (br_f (by decide) ?_)
                      refine yr_t G e1 y1 kd2 he2 hP2 u0 u1 hr kt2 hz ?_
                      refine yn_204 G1 (nw_goneU U u1 hr) (vk_e (vk_k I.2 u1) (by omega)) d1 x1 e1 y1 kd2' t0 t1 (Or.inr kt') hs1 pk_us (fun _ => nl kt) (Or.inl ⟨e2q, rfl⟩) (fun en' hd' nm' th' hN hV => ⟨rfl, ?_, hV⟩)
                      rw [sw] at hN; exact hN
                  · have hc' : ¬ nI (cn_c (fun q => decide (¬ s (t2 * 64 + q) = 0)) 64) ≤ 0 := nI_nle (by omega) (by omega)
                    refine br_f hc' ?_
                    refine br_f (by decide) ?_
                    refine yn_some G d1 x1 kd e1 y1 kd2 he hP hs he2 hP2 hr ?_
                    refine yn_120 G e1 kd2 t1 (Or.inr kt) ntt nl (fun w => by rw [kt] at w; exact absurd w (by decide)) (fun _ => ?_)
                    refine br_f e2p (br_f (by decide) ⟨vp_in_nI (by omega) (by decide), br_f (by rw [na_cl (by omega), ek2, kt2]; decide) (br_f (by decide) (br_f (by decide) ?_))⟩)
                    refine yp_cnt_t hm g1 u1 ky2 ?_
                    rw [← ct_dir g2 u1]
                    exact br_f hc' ⟨rfl, I⟩
    · obtain ⟨⟨d, d1, rfl, kd⟩, x, x1, rfl⟩ := hp
      refine xp_place_t d1 kd x1 ?_
      refine br_f (by decide) ?_
      refine xp_place_f hp2 ?_
      refine br_t rfl ?_
      unfold wpY_rename
      refine yp_place_t d1 ((g5 d d1).2.2.2.2.1.trans kd) x1 ?_
      refine br_t rfl ?_
      refine yp_place_f (fun w => hp2 ⟨(ik_y g5).mp w.1, w.2⟩) ?_
      exact br_f (by decide) ⟨rfl, I⟩
  · refine xp_place_f hp ?_
    refine br_t rfl ?_
    unfold wpY_rename
    refine yp_place_f (fun w => hp ⟨(ik_y g5).mp w.1, w.2⟩) ?_
    exact br_f (by decide) ⟨rfl, I⟩
