/-! make, link, unlink, removeDir, handles -/
theorem cn_lt {p : Nat → Bool} {i : Nat} (hp : p i = false) : ∀ {n : Nat}, i < n → cn_c p n < n
  | 0, h => by omega
  | n + 1, h => by
    show cn_c p n + (if p n = true then 1 else 0) < n + 1
    by_cases e : i = n
    · subst e
      rw [if_neg (by rw [hp]; decide)]
      have := cn_le p i; omega
    · have := cn_lt hp (n := n) (by omega)
      split <;> omega
section
variable {k s l c hX sk ss sl sc kY zY cY en hd nm th hY : Nat → Int32} {m : Nat} {P par L : Nat → Nat} {postR : Int32 → SY → Prop}
/-- held by a slot or a handle, told by the reference's arrays -/
theorem us_iff (G : rl_G k s l c hX kY zY cY en hd nm th hY m P par L) {t : Nat} (t0 : 0 < t) (t1 : t < 12) :
    ((∃ q, q < 768 ∧ s q = nI t) ↔ ∃ e, e < m ∧ th e = nI t) ∧ ((∃ i, i < 4 ∧ hX i = nI t) ↔ ∃ i, i < 4 ∧ hY i = nI t) := by
  obtain ⟨g1, g2, g3, g4, g5, g6⟩ := G
  refine ⟨⟨fun ⟨q, q1, q2⟩ => ?_, fun ⟨e, e1, e2⟩ => ?_⟩, ⟨fun ⟨i, i1, i2⟩ => ?_, fun ⟨i, i1, i2⟩ => ?_⟩⟩
  · obtain ⟨e, e1, e2⟩ := g2.2.2.2 q q1 (by rw [q2]; exact na_nz (by omega) t0)
    exact ⟨e, e1, by rw [(g2.2.1 e e1).2.2.2.2, e2, q2]⟩
  · obtain ⟨a1, a2, a3, a4, a5⟩ := g2.2.1 e e1
    exact ⟨P e, a1, by rw [← a5, e2]⟩
  · rcases g6 i i1 with ⟨a1, a2⟩ | ⟨t', b0, b1, b2, b3, b4⟩
    · rw [a1] at i2; exact (na_nz (by omega) t0 i2.symm).elim
    · exact ⟨i, i1, by rw [b4, ← b3, i2]⟩
  · rcases g6 i i1 with ⟨a1, a2⟩ | ⟨t', b0, b1, b2, b3, b4⟩
    · rw [a2] at i2
      have : ¬ nI t < 0 := nI_pos (by omega)
      rw [← i2] at this; exact (this (by decide)).elim
    · exact ⟨i, i1, by rw [b3, ← b4, i2]⟩
theorem st_t (G : rl_G k s l c hX kY zY cY en hd nm th hY m P par L) {t : Nat} (t0 : 0 < t) (t1 : t < 12) (ns : ∀ q, q < 768 → s q ≠ nI t) (nh : ∀ i, i < 4 → hX i ≠ nI t) (h : postR 1 (upd kY t 0, zY, cY, en, hd, nm, th, hY)) : wpY_settle postR (kY, zY, cY, en, hd, nm, th, hY) (nI t) := by
  have U := us_iff G t0 t1
  refine yp_settle_t G.2.1.1 G.1 t1 (fun e he z => ?_) (fun i hi z => ?_) h
  · obtain ⟨q, q1, q2⟩ := U.1.mpr ⟨e, he, z⟩
    exact ns q q1 q2
  · obtain ⟨q, q1, q2⟩ := U.2.mpr ⟨i, hi, z⟩
    exact nh q q1 q2
theorem st_f (G : rl_G k s l c hX kY zY cY en hd nm th hY m P par L) {t : Nat} (t0 : 0 < t) (t1 : t < 12) (hu : (∃ q, q < 768 ∧ s q = nI t) ∨ ∃ i, i < 4 ∧ hX i = nI t) (h : postR 0 (kY, zY, cY, en, hd, nm, th, hY)) : wpY_settle postR (kY, zY, cY, en, hd, nm, th, hY) (nI t) := by
  have U := us_iff G t0 t1
  refine yp_settle_f G.2.1.1 G.1 t1 ?_ h
  rcases hu with e | e
  · exact Or.inl (U.1.mp e)
  · exact Or.inr (U.2.mp e)
/-- the saved half is not touched by what is written below -/
theorem vk_k (V : rl_V sk ss sl sc kY zY cY en hd nm th) {t : Nat} {a : Int32} (t1 : t < 12) : rl_V sk ss sl sc (upd kY t a) zY cY en hd nm th :=
  ag_V (fun x hx => ⟨pk_un (by omega), rfl⟩) (fun _ _ => rfl) rfl (fun _ _ => ⟨rfl, rfl, rfl⟩) V
theorem vk_z (V : rl_V sk ss sl sc kY zY cY en hd nm th) {t : Nat} {a : Int32} (t1 : t < 12) : rl_V sk ss sl sc kY (upd zY t a) cY en hd nm th :=
  ag_V (fun x hx => ⟨rfl, pk_un (by omega)⟩) (fun _ _ => rfl) rfl (fun _ _ => ⟨rfl, rfl, rfl⟩) V
theorem vk_e (V : rl_V sk ss sl sc kY zY cY en hd nm th) {e : Nat} {n a b t : Int32} (he : e < 20) : rl_V sk ss sl sc kY zY cY (upd en 0 n) (upd hd e a) (upd nm e b) (upd th e t) :=
  ag_V (fun x hx => ⟨rfl, rfl⟩) (fun _ _ => rfl) (pk_un (by decide)) (fun x hx => ⟨pk_un (by omega), pk_un (by omega), pk_un (by omega)⟩) V
theorem vk_c (V : rl_V sk ss sl sc kY zY cY en hd nm th) {cY' : Nat → Int32} (h : ∀ i, 576 ≤ i → cY' i = cY i) : rl_V sk ss sl sc kY zY cY' en hd nm th :=
  ag_V (fun x hx => ⟨rfl, rfl⟩) h rfl (fun _ _ => ⟨rfl, rfl, rfl⟩) V
/-- the thing in a slot -/
theorem sl_t (hK : rl_K k s) {d x : Nat} (d1 : d < 12) (x1 : x < 64) (z : s (d * 64 + x) ≠ 0) : ∃ t, 0 < t ∧ t < 12 ∧ s (d * 64 + x) = nI t ∧ (k t = 1 ∨ k t = 2) := by
  obtain ⟨t, t0, t1, a1, a2, a3⟩ := hK.2.2 (d * 64 + x) (by omega) z
  refine ⟨t, t0, t1, a1, ?_⟩
  rcases hK.2.1 t t1 with e | e
  · exact (a2 e).elim
  · exact e
theorem ik_n {a : Int32} {t : Nat} (t1 : t < 12) (h : k t ≠ a) : ¬ is_k k a (nI t) := fun ⟨y, y1, y2, y3⟩ => by
  rw [← na_eq (by omega) (by omega) y2] at y3; exact h y3
end
theorem i_vc_make {k : Nat} {u : SX} {v : SY} (I : i_Rel k u v) (hk : k + 5 ≤ 2560) (v1 : Int32) (v2 : Int32) (v3 : Int32) : wpX_make (fun r u' => wpY_make (fun r' v' => r' = r ∧ i_Rel (k + 5) u' v') v v1 v2 (lw_bz v3)) u v1 v2 (lw_bz v3) := by
  generalize k + 5 = K5
  obtain ⟨k, s, l, c, hX, sk, ss, sl, sc⟩ := u
  obtain ⟨kY, zY, cY, en, hd, nm, th, hY⟩ := v
  obtain ⟨m, P, par, L, G, U⟩ := nw_G I.1
  obtain ⟨g1, g2, g3, g4, g5, g6⟩ := id G
  unfold wpX_make
  by_cases hp : is_k k 2 v1 ∧ is_n v2
  · obtain ⟨⟨d, d1, rfl, h2⟩, x, x1, rfl⟩ := hp
    have ey := (g5 d d1).2.2.2.2.1.trans h2
    refine xp_place_t d1 h2 x1 ?_
    refine br_f (by decide) ?_
    refine xp_slot ?_
    refine ⟨vp_in_nI (by omega) (by decide), ?_⟩
    rw [na_cl (by omega)]
    by_cases z : s (d * 64 + x) = 0
    · refine br_t z ?_
      refine xp_all ?_
      rw [ct_all g2]
      have hm := g2.1
      by_cases hm2 : m < 20
      · refine br_t (nI_lt (b := 20) hm2 (by decide)) ?_
        have n20 : ¬ en 0 = 20 := by rw [g1]; exact na_ne (b := 20) (by omega) (by decide) (by omega)
        rcases cn_first (fun t => k t = 0) 12 with ⟨t, t1, kt, tu⟩ | hno
        · have t0 : 0 < t := by
            rcases Nat.eq_zero_or_pos t with e | e
            · rw [e, g3.1] at kt; exact absurd kt (by decide)
            · exact e
          refine xp_free t1 kt tu ?_
          refine br_t (nI_lt (b := 12) t1 (by decide)) ?_
          have cnt : ¬ nI (cn_c (fun q => decide (¬ kY q = 0)) 12) = 12 := by
            have hc := cn_lt (p := fun q => decide (¬ kY q = 0)) (i := t) (decide_eq_false (fun w => w ((g5 t t1).2.2.2.2.1.trans kt))) (n := 12) t1
            exact na_ne (b := 12) (by omega) (by decide) (by omega)
          have fin : ∀ a : Int32, (a = 1 ∨ a = 2) → (lw_bz v3 = 0 → a = 1) → (¬ lw_bz v3 = 0 → a = 2) → wX_make_80 (fun r u' => wpY_make (fun r' v' => r' = r ∧ i_Rel (K5) u' v') (kY, zY, cY, en, hd, nm, th, hY) (nI d) (nI x) (lw_bz v3)) (nI (d * 64 + x)) (nI t) a (nI t) k s l c hX sk ss sl sc := fun a ha h1 h0 => by
            unfold wX_make_80
            rw [na_cl (by omega), na_cl (by omega)]
            refine ⟨vp_in_nI t1 (by decide), nm_e ⟨vp_in_nI (by omega) (by decide), nm_e ?_⟩⟩
            unfold wpY_make
            refine yp_place_t d1 ey x1 ?_
            refine br_t rfl ?_
            refine y0_f g1 g2 d1 x1 z ?_
            refine br_t (by decide) (br_f n20 ?_)
            refine yp_things ?_
            refine br_f cnt ?_
            have fin2 : wY_make_81 (fun r' v' => r' = nI t ∧ i_Rel (K5) (upd k t a, upd s (d * 64 + x) (nI t), l, c, hX, sk, ss, sl, sc) v') (nI d) (nI x) (nI t) a (nI t) kY zY cY en hd nm th hY := by
              unfold wY_make_81
              rw [na_cl (by omega)]
              refine ⟨vp_in_nI (by omega) (by decide), nm_e ⟨vp_in_nI (by omega) (by decide), nm_e ?_⟩⟩
              refine yp_add (m := m) (by omega) g1 ⟨rfl, ?_⟩
              obtain ⟨P', par', L', G'⟩ := nw_make G hm2 t0 t1 kt ha d1 x1 h2 z
              exact ⟨nw_N G' (nw_makeU U g3.1 (by omega) z), vk_e (vk_z (vk_k I.2 t1) t1) hm2⟩
            refine lc_to (fun n i => wY_make_50 (fun r' v' => r' = nI t ∧ i_Rel (K5) (upd k t a, upd s (d * 64 + x) (nI t), l, c, hX, sk, ss, sl, sc) v') (nI d) (nI x) (lw_bz v3) kY zY cY en hd nm th hY n (nI i)) 0 t (by omega) (fun n => ?_) (fun n i _ hi ih => ?_)
            · refine ⟨vp_in_nI (by omega) (by decide), br_t (by rw [na_cl (by omega)]; exact (g5 t t1).2.2.2.2.1.trans kt) (br_c (fun w => ?_) (fun w => ?_))⟩
              · have := h1 w; subst this; exact fin2
              · have := h0 w; subst this; exact fin2
            · refine ⟨vp_in_nI (by omega) (by decide), br_f (by rw [na_cl (by omega), (g5 i (by omega)).2.2.2.2.1]; exact tu i hi) (nm_r (nI_1 i) ih)⟩
          exact br_c (fun w => fin 1 (Or.inl rfl) (fun _ => rfl) (fun w' => (w' w).elim)) (fun w => fin 2 (Or.inr rfl) (fun w' => (w w').elim) (fun _ => rfl))
        · refine xp_nofree hno ?_
          refine br_f (by decide) ?_
          unfold wpY_make
          refine yp_place_t d1 ey x1 ?_
          refine br_t rfl ?_
          refine y0_f g1 g2 d1 x1 z ?_
          refine br_t (by decide) (br_f n20 ?_)
          refine yp_things ?_
          rw [cn_congr (q := fun _ => true) (fun q hq => decide_eq_true (by rw [(g5 q hq).2.2.2.2.1]; exact hno q hq)), cn_true]
          exact br_t rfl ⟨rfl, I⟩
      · have m20 : m = 20 := by omega
        subst m20
        refine br_f (by decide) ?_
        unfold wpY_make
        refine yp_place_t d1 ey x1 ?_
        refine br_t rfl ?_
        refine y0_f g1 g2 d1 x1 z ?_
        exact br_t (by decide) (br_t g1 ⟨rfl, I⟩)
    · refine br_f z ?_
      unfold wpY_make
      refine yp_place_t d1 ey x1 ?_
      refine br_t rfl ?_
      obtain ⟨e, e1, e2⟩ := g2.2.2.2 (d * 64 + x) (by omega) z
      have hm := g2.1
      refine y0_t g1 g2 d1 x1 e1 e2 ?_
      exact br_f (nI_pos (by omega)) ⟨rfl, I⟩
  · refine xp_place_f hp ?_
    refine br_t rfl ?_
    unfold wpY_make
    refine yp_place_f (fun w => hp ⟨(ik_y g5).mp w.1, w.2⟩) ?_
    exact br_f (by decide) ⟨rfl, I⟩
theorem i_vc_link {k : Nat} {u : SX} {v : SY} (I : i_Rel k u v) (hk : k + 5 ≤ 2560) (v1 : Int32) (v2 : Int32) (v3 : Int32) : wpX_link (fun r u' => wpY_link (fun r' v' => r' = r ∧ i_Rel (k + 5) u' v') v v1 v2 v3) u v1 v2 v3 := by
  obtain ⟨k, s, l, c, hX, sk, ss, sl, sc⟩ := u
  obtain ⟨kY, zY, cY, en, hd, nm, th, hY⟩ := v
  obtain ⟨m, P, par, L, G, U⟩ := nw_G I.1
  obtain ⟨g1, g2, g3, g4, g5, g6⟩ := id G
  unfold wpX_link
  by_cases hp : is_k k 2 v1 ∧ is_n v2
  · obtain ⟨⟨d, d1, rfl, h2⟩, x, x1, rfl⟩ := hp
    have ey := (g5 d d1).2.2.2.2.1.trans h2
    refine xp_place_t d1 h2 x1 ?_
    refine br_f (by decide) ?_
    by_cases hf : is_k k 1 v3
    · refine xp_file_t hf ?_
      have hf' := (ik_y g5).mpr hf
      obtain ⟨t, t1, rfl, kt⟩ := hf
      have t0 := us_x0 g3.1 kt
      have n0 := na_nz (a := t) (by omega) t0
      have hle := cn_le (fun e => decide (th e = nI t)) m
      have hm := g2.1
      refine br_f (by decide) ?_
      refine xp_for (fun z => (n0 z).elim) (fun _ => ?_)
      rw [ct_th g2 n0]
      refine br_c (fun z => ?_) (fun z => ?_)
      · unfold wpY_link
        refine yp_place_t d1 ey x1 ?_
        refine br_t rfl ?_
        refine yp_file_t hf' ?_
        refine br_f (by decide) ?_
        refine yp_links hm g1 ?_
        exact br_t z ⟨rfl, I⟩
      · refine xp_slot ?_
        refine ⟨vp_in_nI (by omega) (by decide), ?_⟩
        rw [na_cl (by omega)]
        by_cases zs : s (d * 64 + x) = 0
        · refine br_t zs ?_
          refine xp_all ?_
          rw [ct_all g2]
          by_cases hm2 : m < 20
          · have n20 : ¬ en 0 = 20 := by rw [g1]; exact na_ne (b := 20) (by omega) (by decide) (by omega)
            obtain ⟨P', G'⟩ := nw_link G hm2 t0 t1 kt d1 x1 h2 zs
            refine br_t (nI_lt (b := 20) hm2 (by decide)) ⟨vp_in_nI (by omega) (by decide), nm_e ?_⟩
            refine xp_for (fun z => (n0 z).elim) (fun _ => ?_)
            unfold wpY_link
            refine yp_place_t d1 ey x1 ?_
            refine br_t rfl ?_
            refine yp_file_t hf' ?_
            refine br_f (by decide) ?_
            refine yp_links hm g1 ?_
            refine br_f z ?_
            refine y0_f g1 g2 d1 x1 zs ?_
            refine br_t (by decide) (br_f n20 ?_)
            refine yp_add (m := m) (by omega) g1 ?_
            refine yp_links (m := m + 1) (by omega) pk_us ⟨?_, ?_⟩
            · rw [ct_th G'.2.1 n0]
            · exact ⟨nw_N G' (nw_linkU U g3.1 (by omega) zs), vk_e I.2 hm2⟩
          · have m20 : m = 20 := by omega
            subst m20
            refine br_f (by decide) ?_
            unfold wpY_link
            refine yp_place_t d1 ey x1 ?_
            refine br_t rfl ?_
            refine yp_file_t hf' ?_
            refine br_f (by decide) ?_
            refine yp_links hm g1 ?_
            refine br_f z ?_
            refine y0_f g1 g2 d1 x1 zs ?_
            exact br_t (by decide) (br_t g1 ⟨rfl, I⟩)
        · refine br_f zs ?_
          unfold wpY_link
          refine yp_place_t d1 ey x1 ?_
          refine br_t rfl ?_
          refine yp_file_t hf' ?_
          refine br_f (by decide) ?_
          refine yp_links hm g1 ?_
          refine br_f z ?_
          obtain ⟨e, e1, e2⟩ := g2.2.2.2 (d * 64 + x) (by omega) zs
          refine y0_t g1 g2 d1 x1 e1 e2 ?_
          exact br_f (nI_pos (by omega)) ⟨rfl, I⟩
    · refine xp_file_f hf ?_
      refine br_t rfl ?_
      unfold wpY_link
      refine yp_place_t d1 ey x1 ?_
      refine br_t rfl ?_
      refine yp_file_f (fun w => hf ((ik_y g5).mp w)) ?_
      exact br_t rfl ⟨rfl, I⟩
  · refine xp_place_f hp ?_
    refine br_t rfl ?_
    unfold wpY_link
    refine yp_place_f (fun w => hp ⟨(ik_y g5).mp w.1, w.2⟩) ?_
    exact br_f (by decide) ⟨rfl, I⟩
