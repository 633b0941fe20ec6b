/-! fill, cut, saving and coming back -/
section
variable {k s l c hX sk ss sl sc kY zY cY en hd nm th hY : Nat → Int32} {postX : Int32 → SX → Prop} {postR : Int32 → SY → Prop}
theorem xp_fill {t a n : Nat} {v : Int32} (ht : t < 12) (hn : a + n ≤ 48) (h : postX (l t) (k, s, l, fl_c c (t * 48 + a) (t * 48 + a + n) v, hX, sk, ss, sl, sc)) : wX_fill_64 postX (nI t) (nI a) (nI n) v k s l c hX sk ss sl sc := by
  unfold wX_fill_64
  refine nm_r (e' := nI (t * 48 + a)) (na_ma t 48 a) ?_
  refine lc_to2 (fun f i => wX_fill_75 postX (nI t) (nI n) v (nI (t * 48 + a)) f (nI i) k s l (fl_c c (t * 48 + a) (t * 48 + a + i) v) hX sk ss sl sc) 0 n (by omega) (fun A => ?_) (fun f => ?_) (fun f i h0 hi ih => ?_)
  · rw [Nat.add_zero, fl_e] at A; exact A
  · refine br_t (Int32.le_refl _) ⟨vp_in_nI ht (by decide), ?_⟩
    rw [na_cl (by omega)]; exact h
  · refine br_f (nI_ge hi (by omega)) ?_
    rw [nI_add, na_cl (by omega)]
    exact ⟨vp_in_nI (by omega) (by decide), nm_r (fl_u c (t * 48 + a) i v) (nm_r (nI_1 i) ih)⟩
theorem yp_fill {t a n : Nat} {v : Int32} (ht : t < 12) (hn : a + n ≤ 48) (h : postR (zY t) (kY, zY, fl_c cY (t * 48 + a) (t * 48 + a + n) v, en, hd, nm, th, hY)) : ∃ f, wY_fill_62 postR (nI t) (nI a) (nI n) v f 0 kY zY cY en hd nm th hY := by
  refine lc_to2 (fun f i => wY_fill_62 postR (nI t) (nI a) (nI n) v f (nI i) kY zY (fl_c cY (t * 48 + a) (t * 48 + a + i) v) en hd nm th hY) 0 n (by omega) (fun A => ?_) (fun f => ?_) (fun f i h0 hi ih => ?_)
  · rw [Nat.add_zero, fl_e] at A; exact A
  · refine br_t (Int32.le_refl _) ⟨vp_in_nI (by omega) (by decide), ?_⟩
    rw [na_cl (by omega)]; exact h
  · have e0 : 48 * nI t + nI a = nI (t * 48 + a) := by rw [Nat.mul_comm]; exact na_ma 48 t a
    refine br_f (nI_ge hi (by omega)) ?_
    rw [e0, nI_add, na_cl (by omega)]
    exact ⟨vp_in_nI (by omega) (by decide), nm_r (fl_u cY (t * 48 + a) i v) (nm_r (nI_1 i) ih)⟩
end
theorem i_vc_fill {k : Nat} {u : SX} {v : SY} (I : i_Rel k u v) (hk : k + 5 ≤ 2560) (v1 : Int32) (v2 : Int32) (v3 : Int32) (v4 : Int32) : wpX_fill (fun r u' => wpY_fill (fun r' v' => r' = r ∧ i_Rel (k + 5) u' v') v v1 v2 v3 v4) u v1 v2 v3 v4 := by
  obtain ⟨k, s, l, c, hX, sk, ss, sl, sc⟩ := u
  obtain ⟨kY, zY, cY, en, hd, nm, th, hY⟩ := v
  obtain ⟨m, P, par, L, G, U⟩ := nw_G I.1
  obtain ⟨g1, g2, g3, g4, g5, g6⟩ := id G
  unfold wpX_fill
  by_cases hf : is_k k 1 v1
  · refine xp_file_t hf ?_
    have hf' := (ik_y g5).mpr hf
    obtain ⟨t, t1, rfl, kt⟩ := hf
    obtain ⟨b1, b2, b3, b4, b5, b6, b7⟩ := g5 t t1
    refine br_f (by decide) ?_
    by_cases c1 : v2 < 0
    · refine br_t c1 ?_
      unfold wpY_fill
      refine yp_file_t hf' ?_
      exact br_f (by decide) (br_t c1 ⟨rfl, I⟩)
    · refine br_f c1 ?_
      obtain ⟨a, ha, rfl⟩ := nI_of c1
      by_cases c2 : a < 48
      · have c2y : ¬ 47 < nI a := nI_nlt (a := 47) (by omega) (by decide)
        refine br_t (nI_lt (b := 48) c2 (by decide)) ?_
        by_cases c3 : v3 < 1
        · refine br_t c3 ?_
          unfold wpY_fill
          refine yp_file_t hf' ?_
          exact br_f (by decide) (br_f c1 (br_f c2y (br_t c3 ⟨rfl, I⟩)))
        · refine br_f c3 ?_
          by_cases c4 : 48 < v3
          · refine br_t c4 ?_
            unfold wpY_fill
            refine yp_file_t hf' ?_
            exact br_f (by decide) (br_f c1 (br_f c2y (br_f c3 (br_t c4 ⟨rfl, I⟩))))
          · refine br_f c4 ?_
            have c3' : ¬ v3 < 0 := fun w => c3 (by
              rw [Int32.lt_iff_toInt_lt] at w ⊢
              rw [show (0 : Int32).toInt = 0 from by decide] at w
              rw [show (1 : Int32).toInt = 1 from by decide]; omega)
            obtain ⟨n, hn, rfl⟩ := nI_of c3'
            have n48 : n ≤ 48 := Nat.le_of_not_lt fun w => c4 (nI_lt (a := 48) w hn)
            rw [nI_add]
            by_cases c5 : a + n ≤ 48
            · have c5' : nI (a + n) ≤ 48 := nI_le (b := 48) c5 (by decide)
              refine br_t c5' ⟨vp_in_nI t1 (by decide), ?_⟩
              rw [na_cl (by omega), b1]
              by_cases c6 : a + n ≤ L t
              · refine br_t (nI_le c6 (by omega)) ?_
                refine xp_fill t1 c5 ?_
                unfold wpY_fill
                refine yp_file_t hf' ?_
                refine br_f (by decide) (br_f c1 (br_f c2y (br_f c3 (br_f c4 ?_))))
                rw [nI_add]
                refine br_t c5' ⟨vp_in_nI (by omega) (by decide), ?_⟩
                rw [na_cl (by omega), b6 kt]
                refine br_t (nI_le c6 (by omega)) ?_
                refine yp_fill t1 c5 ⟨by rw [b1, b6 kt], ?_⟩
                exact ⟨nw_N (nw_fill G t1 kt c6) U, vk_c I.2 (fun i hi => fl_out (by omega))⟩
              · refine br_f (nI_ge (by omega) (by omega)) ?_
                obtain ⟨L', G1, hL'⟩ := nw_len G t1 kt c5
                refine xp_setlen t1 c5 ?_
                refine xp_fill t1 c5 ?_
                unfold wpY_fill
                refine yp_file_t hf' ?_
                refine br_f (by decide) (br_f c1 (br_f c2y (br_f c3 (br_f c4 ?_))))
                rw [nI_add]
                refine br_t c5' ⟨vp_in_nI (by omega) (by decide), ?_⟩
                rw [na_cl (by omega), b6 kt]
                refine br_f (nI_ge (by omega) (by omega)) ?_
                refine yp_resize t1 (b6 kt) b2 c5 ?_
                refine yp_fill t1 c5 ⟨by rw [pk_us, pk_us], ?_⟩
                exact ⟨nw_N (nw_fill G1 t1 kt (by rw [hL']; omega)) U, vk_c (vk_z (vk_c I.2 (fun i hi => zf_out (by omega))) t1) (fun i hi => fl_out (by omega))⟩
            · have c5' : ¬ nI (a + n) ≤ 48 := nI_ge (a := 48) (by omega) (by omega)
              refine br_f c5' ?_
              unfold wpY_fill
              refine yp_file_t hf' ?_
              refine br_f (by decide) (br_f c1 (br_f c2y (br_f c3 (br_f c4 ?_))))
              rw [nI_add]
              exact br_f c5' ⟨rfl, I⟩
      · refine br_f (nI_nlt (b := 48) (by omega) ha) ?_
        unfold wpY_fill
        refine yp_file_t hf' ?_
        exact br_f (by decide) (br_f c1 (br_t (nI_lt (a := 47) (by omega) ha) ⟨rfl, I⟩))
  · refine xp_file_f hf ?_
    refine br_t rfl ?_
    unfold wpY_fill
    refine yp_file_f (fun w => hf ((ik_y g5).mp w)) ?_
    exact br_t rfl ⟨rfl, I⟩
theorem i_vc_cut {k : Nat} {u : SX} {v : SY} (I : i_Rel k u v) (hk : k + 5 ≤ 2560) (v1 : Int32) (v2 : Int32) : wpX_cut (fun r u' => wpY_cut (fun r' v' => r' = r ∧ i_Rel (k + 5) u' v') v v1 v2) u v1 v2 := by
  obtain ⟨k, s, l, c, hX, sk, ss, sl, sc⟩ := u
  obtain ⟨kY, zY, cY, en, hd, nm, th, hY⟩ := v
  obtain ⟨m, P, par, L, G, U⟩ := nw_G I.1
  obtain ⟨g1, g2, g3, g4, g5, g6⟩ := id G
  unfold wpX_cut
  by_cases hf : is_k k 1 v1
  · refine xp_file_t hf ?_
    have hf' := (ik_y g5).mpr hf
    obtain ⟨t, t1, rfl, kt⟩ := hf
    obtain ⟨b1, b2, b3, b4, b5, b6, b7⟩ := g5 t t1
    refine br_f (by decide) ?_
    by_cases c1 : v2 < 0
    · refine br_t c1 ?_
      unfold wpY_cut
      refine yp_file_t hf' ?_
      exact br_f (by decide) (br_t c1 ⟨rfl, I⟩)
    · refine br_f c1 ?_
      by_cases c2 : v2 ≤ 48
      · obtain ⟨n, hn, rfl⟩ := nI_of c1
        have n48 : n ≤ 48 := (nI_leI (b := 48) hn (by decide)).mp c2
        refine br_t c2 ⟨vp_in_nI t1 (by decide), nm_r (e' := nI (L t)) (by rw [na_cl (by omega)]; exact b1) ?_⟩
        refine xp_setlen t1 n48 ?_
        unfold wpY_cut
        refine yp_file_t hf' ?_
        refine br_f (by decide) (br_f c1 (br_t c2 ⟨vp_in_nI (by omega) (by decide), nm_r (e' := nI (L t)) (by rw [na_cl (by omega)]; exact b6 kt) ?_⟩))
        obtain ⟨L', G1, hL'⟩ := nw_len G t1 kt n48
        refine yp_resize t1 (b6 kt) b2 n48 ⟨rfl, ?_⟩
        exact ⟨nw_N G1 U, vk_z (vk_c I.2 (fun i hi => zf_out (by omega))) t1⟩
      · refine br_f c2 ?_
        unfold wpY_cut
        refine yp_file_t hf' ?_
        exact br_f (by decide) (br_f c1 (br_f c2 ⟨rfl, I⟩))
  · refine xp_file_f hf ?_
    refine br_t rfl ?_
    unfold wpY_cut
    refine yp_file_f (fun w => hf ((ik_y g5).mp w)) ?_
    exact br_t rfl ⟨rfl, I⟩
section
variable {k s l c hX sk ss sl sc kY zY cY en hd nm th hY : Nat → Int32} {m : Nat} {P par L : Nat → Nat}
/-- both sides have saved -/
theorem sv_both (G : rl_G k s l c hX kY zY cY en hd nm th hY m P par L) {sk' sl' sc' k' : Nat → Int32} (h1 : ∀ t, t < 12 → sv_x k s l c sk' sl' sc' t) (h2 : ∀ t, t < 12 → k' t = kY t) (h3 : ∀ t, t < 12 → sv_y kY th m k' t) (U : rl_U k s hX) :
    rl_N k s l c hX k' (ch_c zY 0 12 12) (ch_c cY 0 576 576) (upd en 1 (en 0)) (ch_c hd 0 20 20) (ch_c nm 0 20 20) (ch_c th 0 20 20) hY ∧
    rl_V sk' (cp_c s ss 768) sl' sc' k' (ch_c zY 0 12 12) (ch_c cY 0 576 576) (upd en 1 (en 0)) (ch_c hd 0 20 20) (ch_c nm 0 20 20) (ch_c th 0 20 20) := by
  obtain ⟨g1, g2, g3, g4, g5, g6⟩ := id G
  constructor
  · have N := nw_N G U
    refine ⟨ag_F (fun t ht => ⟨rfl, rfl, h2 t ht, ch_out (by omega)⟩) (fun _ _ => rfl) (fun i hi => ⟨rfl, ch_out (by omega)⟩) (pk_un (by decide)) (fun e he => ⟨ch_out (by omega), ch_out (by omega), ch_out (by omega)⟩) N.1, N.2⟩
  · have cz : ∀ {a : Nat → Int32} {n t : Nat}, t < n → ch_c a 0 n n (n + t) = a t := fun {a n t} h => by
      have := ch_in (a := a) (f := 0) (t := n) h
      rw [Nat.zero_add] at this; exact this
    refine sv_save G (fun t ht => ?_) (fun q hq => cp_in hq) (fun t ht => cz ht) (fun i hi => cz hi) pk_us (fun e he => ⟨cz he, cz he, cz he⟩)
    have ey := (g5 t ht).2.2.2.2.1
    rcases h1 t ht with ⟨a1, a2, a3, a4, a5⟩ | ⟨a1, a2, a3, a4⟩
    · refine Or.inl ⟨a1, a2, a3, a4, a5, ?_⟩
      rcases h3 t ht with ⟨b1, b2, b3⟩ | ⟨b1, b2⟩
      · exact b3
      · obtain ⟨e, e1, e2⟩ := b1 (ey.trans a1)
        obtain ⟨q, q1, q2⟩ := (us_iff G (us_x0 g3.1 a1) ht).1.mpr ⟨e, e1, e2⟩
        exact (a2 q q1 q2).elim
    · refine Or.inr ⟨a1, a2, a3, a4, ?_⟩
      rcases h3 t ht with ⟨b1, b2, b3⟩ | ⟨b1, b2⟩
      · have kt := ey.symm.trans b1
        obtain ⟨e, e1, e2⟩ := (us_iff G (us_x0 g3.1 kt) ht).1.mp (a1 kt)
        exact (b2 e e1 e2).elim
      · exact b2
end
section
variable {k s l c hX sk ss sl sc kY zY cY en hd nm th hY : Nat → Int32}
/-- both sides have come back -/
theorem bk_both (V : rl_V sk ss sl sc kY zY cY en hd nm th) :
    rl_N (cp_c sk k 12) (cp_c ss s 768) (cp_c sl l 12) (cp_c sc c 576) (zf_c hX 0 4) (ch_c kY 12 0 12) (ch_c zY 12 0 12) (ch_c cY 576 0 576) (upd en 0 (en 1)) (ch_c hd 20 0 20) (ch_c nm 20 0 20) (ch_c th 20 0 20) (hm_c hY 4) ∧
    rl_V sk ss sl sc (ch_c kY 12 0 12) (ch_c zY 12 0 12) (ch_c cY 576 0 576) (upd en 0 (en 1)) (ch_c hd 20 0 20) (ch_c nm 20 0 20) (ch_c th 20 0 20) := by
  have cz : ∀ {a : Nat → Int32} {n t : Nat}, t < n → ch_c a n 0 n t = a (n + t) := fun {a n t} h => by
    have := ch_in (a := a) (f := n) (t := 0) h
    rw [Nat.zero_add] at this; exact this
  constructor
  · exact sv_back V (fun t ht => ⟨cp_in ht, cp_in ht, cz ht, cz ht⟩) (fun q hq => cp_in hq) (fun i hi => ⟨cp_in hi, cz hi⟩) pk_us (fun e he => ⟨cz he, cz he, cz he⟩) (fun h hh => ⟨zf_in (by omega) hh, hm_in hh⟩)
  · exact ag_V (fun t ht => ⟨ch_out (by omega), ch_out (by omega)⟩) (fun i hi => ch_out (by omega)) (pk_un (by decide)) (fun e he => ⟨ch_out (by omega), ch_out (by omega), ch_out (by omega)⟩) V
theorem bk_cnt (V : rl_V sk ss sl sc kY zY cY en hd nm th) : cn_c (fun q => decide (¬ kY (12 + q) = 0)) 12 = cn_c (fun q => decide (¬ cp_c sk k 12 q = 0)) 12 := by
  obtain ⟨L, g5⟩ := V.1.2.2.2
  refine cn_congr (fun t ht => ?_)
  have e : kY (12 + t) = sk t := (g5 t ht).2.2.2.2.1
  rw [e, cp_in ht]
end
theorem i_vc_sync {k : Nat} {u : SX} {v : SY} (I : i_Rel k u v) (hk : k + 5 ≤ 2560) : wpX_sync (fun r u' => wpY_sync (fun r' v' => r' = r ∧ i_Rel (k + 5) u' v') v) u := by
  obtain ⟨k, s, l, c, hX, sk, ss, sl, sc⟩ := u
  obtain ⟨kY, zY, cY, en, hd, nm, th, hY⟩ := v
  obtain ⟨m, P, par, L, G, U⟩ := nw_G I.1
  obtain ⟨g1, g2, g3, g4, g5, g6⟩ := id G
  unfold wpX_sync
  refine xp_save g3.1 (fun sk' sl' sc' h1 => ?_)
  refine xp_there ?_
  refine yp_sync g2.1 g1 (fun k' h2 h3 => ⟨?_, sv_both G h1 h2 h3 U⟩)
  exact congrArg nI (cn_congr (fun t ht => by rw [(g5 t ht).2.2.2.2.1]))
theorem i_vc_crash {k : Nat} {u : SX} {v : SY} (I : i_Rel k u v) (hk : k + 5 ≤ 2560) (v1 : Int32) (v2 : Int32) : wpX_crash (fun r u' => wpY_crash (fun r' v' => r' = r ∧ i_Rel (k + 5) u' v') v v1 v2) u v1 v2 := by
  obtain ⟨k, s, l, c, hX, sk, ss, sl, sc⟩ := u
  obtain ⟨kY, zY, cY, en, hd, nm, th, hY⟩ := v
  obtain ⟨m, P, par, L, G, U⟩ := nw_G I.1
  obtain ⟨g1, g2, g3, g4, g5, g6⟩ := id G
  unfold wpX_crash
  by_cases c1 : v1 < 0
  · refine br_t c1 ?_
    exact br_t c1 ⟨rfl, I⟩
  · refine br_f c1 ?_
    by_cases c2 : v1 ≤ 4
    · refine br_t c2 ?_
      by_cases c3 : v1 = 2
      · refine br_t c3 ?_
        refine xp_save g3.1 (fun sk' sl' sc' h1 => ?_)
        unfold wX_crash_20
        refine xp_back ?_
        refine xp_there ?_
        unfold wpY_crash
        refine br_f c1 (br_t c2 (br_t c3 ?_))
        refine yp_sync g2.1 g1 (fun k' h2 h3 => ?_)
        have VV := (sv_both (ss := ss) G h1 h2 h3 U).2
        refine yp_back ⟨?_, bk_both VV⟩
        exact congrArg nI (bk_cnt VV)
      · refine br_f c3 ?_
        unfold wX_crash_20
        refine xp_back ?_
        refine xp_there ?_
        unfold wpY_crash
        refine br_f c1 (br_t c2 (br_f c3 ?_))
        refine yp_back ⟨?_, bk_both I.2⟩
        exact congrArg nI (bk_cnt I.2)
    · refine br_f c2 ?_
      exact br_f c1 (br_f c2 ⟨rfl, I⟩)
