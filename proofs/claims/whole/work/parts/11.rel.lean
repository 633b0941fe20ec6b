/-! the relation of the two states, their beginning, and the questions -/
def i_Rel (_ : Nat) (u : SX) (v : SY) : Prop := match u with
  | (k, s, l, c, hX, sk, ss, sl, sc) => match v with
    | (kY, zY, cY, en, hd, nm, th, hY) => rl_N k s l c hX kY zY cY en hd nm th hY ∧ rl_V sk ss sl sc kY zY cY en hd nm th
theorem i_up {k : Nat} {u : SX} {v : SY} (h : i_Rel k u v) : i_Rel (k + 5) u v := h
theorem bg_F {kY hd nm th : Nat → Int32} (hk : ∀ t, t < 12 → kY t = upd (fun _ => 0) 0 2 t) : rl_F (upd (fun _ => 0) 0 2) (fun _ => 0) (fun _ => 0) (fun _ => 0) kY (fun _ => 0) (fun _ => 0) 0 hd nm th := by
  have k2 : ∀ t, upd (fun _ => (0 : Int32)) 0 2 t = 2 → t = 0 := fun t h => by
    by_cases e : t = 0
    · exact e
    · rw [pk_un e] at h; exact absurd h (by decide)
  refine ⟨⟨0, fun _ => 0, nI_0.symm, by omega, fun e h => by omega, fun i j h => by omega, fun q _ h => (h rfl).elim⟩, ⟨pk_us, fun t _ => ?_, fun q _ h => (h rfl).elim⟩, ⟨fun _ => 0, rfl, fun _ => Nat.zero_lt_succ 11, fun t t0 _ h => ?_, fun t _ _ => ⟨1, rfl⟩⟩, ⟨fun _ => 0, fun t ht => ⟨nI_0.symm, Nat.zero_le _, fun _ => rfl, fun _ _ _ => rfl, hk t ht, fun _ => nI_0.symm, fun i h => (Nat.not_lt_zero i h).elim⟩⟩⟩
  · by_cases e : t = 0
    · rw [e]; exact Or.inr (Or.inr pk_us)
    · exact Or.inl (pk_un e)
  · have := k2 t h; omega
theorem bg_1 (t : Nat) : ¬ upd (fun _ => (0 : Int32)) 0 2 t = 1 := fun h => by
  by_cases e : t = 0
  · rw [e, pk_us] at h; exact absurd h (by decide)
  · rw [pk_un e] at h; exact absurd h (by decide)
theorem i_vc0 : wpX_init (fun u => wpY_init (fun v => i_Rel 0 u v)) := by
  unfold wpX_init
  refine nm_e (nm_e ?_)
  unfold wpY_init
  refine nm_e (nm_e ?_)
  refine lc_to2 (fun n i => wY_init_84 (fun v => i_Rel 0 (upd (fun _ => 0) 0 2, (fun _ => 0), (fun _ => 0), (fun _ => 0), (fun _ => 0), upd (fun _ => 0) 0 2, (fun _ => 0), (fun _ => 0), (fun _ => 0)) v) n (nI i) (upd (upd (fun _ => 0) 0 2) 12 2) (fun _ => 0) (fun _ => 0) (fun _ => 0) (fun _ => 0) (fun _ => 0) (fun _ => 0) (hm_c (fun _ => 0) i)) 0 4 (by omega) (fun A => ?_) (fun n => ?_) (fun n i h0 hi ih => ?_)
  · rw [hm_0] at A; exact A
  · refine br_t (Int32.le_refl _) ⟨⟨bg_F (fun t ht => pk_un (by omega)), fun h hh => Or.inl ⟨rfl, hm_in hh⟩, fun t _ z => (bg_1 t z).elim⟩, bg_F (fun t ht => ?_), fun t _ z => (bg_1 t z).elim⟩
    by_cases e : t = 0
    · rw [e, pk_us]; exact pk_us.symm
    · rw [pk_un e]
      show upd (upd (fun _ => (0 : Int32)) 0 2) 12 2 (12 + t) = 0
      rw [pk_un (by omega), pk_un (by omega)]
  · refine br_f (nI_ge (b := 4) hi (by decide)) ?_
    rw [na_cl (by omega)]
    exact ⟨vp_in_nI hi (by decide), nm_r (hm_u _ i) (nm_r (nI_1 i) ih)⟩
/-! entries by the relation -/
section
variable {s : Nat → Int32} {m : Nat} {P : Nat → Nat} {kY zY cY en hd nm th hY : Nat → Int32} {post : Int32 → Prop}
theorem ye_t {o d x e : Nat} (ho : o < 2) (hn : en o = nI m) (hE : rl_E s (fun e => hd (20 * o + e)) (fun e => nm (20 * o + e)) (fun e => th (20 * o + e)) m P) (hd12 : d < 12) (hx : x < 64) (he : e < m) (hP : P e = d * 64 + x) (h : post (nI (20 * o + e))) : wpY_entry post (kY, zY, cY, en, hd, nm, th, hY) (nI o) (nI d) (nI x) := by
  have a := (en_at hE hd12 hx he).mpr hP
  refine yp_entry_t ho hE.1 hn he a.1 a.2 (fun i hi z => ?_) h
  have := (en_at hE hd12 hx (Nat.lt_trans hi he)).mp z
  have := hE.2.2.1 i e (by omega) he (this.trans hP.symm)
  omega
theorem ye_f {o d x : Nat} (ho : o < 2) (hn : en o = nI m) (hE : rl_E s (fun e => hd (20 * o + e)) (fun e => nm (20 * o + e)) (fun e => th (20 * o + e)) m P) (hd12 : d < 12) (hx : x < 64) (hz : s (d * 64 + x) = 0) (h : post (-1)) : wpY_entry post (kY, zY, cY, en, hd, nm, th, hY) (nI o) (nI d) (nI x) := by
  refine yp_entry_f ho hE.1 hn (fun i hi z => ?_) h
  have := (en_at hE hd12 hx hi).mp z
  exact (hE.2.1 i hi).2.1 (by rw [this]; exact hz)
theorem eo_0 (hE : rl_E s hd nm th m P) : rl_E s (fun e => hd (20 * 0 + e)) (fun e => nm (20 * 0 + e)) (fun e => th (20 * 0 + e)) m P :=
  ag_E (fun _ _ => rfl) (fun e _ => by rw [show 20 * 0 + e = e by omega]; exact ⟨rfl, rfl, rfl⟩) hE
theorem y0_t {d x e : Nat} (hn : en 0 = nI m) (hE : rl_E s hd nm th m P) (hd12 : d < 12) (hx : x < 64) (he : e < m) (hP : P e = d * 64 + x) (h : post (nI e)) : wpY_entry post (kY, zY, cY, en, hd, nm, th, hY) 0 (nI d) (nI x) :=
  ye_t (o := 0) (by omega) hn (eo_0 hE) hd12 hx he hP (by rw [show 20 * 0 + e = e by omega]; exact h)
theorem y0_f {d x : Nat} (hn : en 0 = nI m) (hE : rl_E s hd nm th m P) (hd12 : d < 12) (hx : x < 64) (hz : s (d * 64 + x) = 0) (h : post (-1)) : wpY_entry post (kY, zY, cY, en, hd, nm, th, hY) 0 (nI d) (nI x) :=
  ye_f (o := 0) (by omega) hn (eo_0 hE) hd12 hx hz h
theorem yl_f {o : Nat} {v w : Int32} (ho : o < 2) (hv : ¬ ((∃ t, t < 12 ∧ v = nI t ∧ kY (12 * o + t) = 2) ∧ is_n w)) (h : post (-1)) : wpY_look post (kY, zY, cY, en, hd, nm, th, hY) (nI o) v w := by
  unfold wpY_look
  by_cases z : ∃ t, t < 12 ∧ v = nI t ∧ kY (12 * o + t) = 2
  · have z' := z
    obtain ⟨t, ht, rfl, e⟩ := z
    refine yp_is_t ho ht e ?_
    refine br_f (by decide) ?_
    refine yp_name_f (fun w => hv ⟨z', w⟩) ?_
    exact br_f (by decide) h
  · refine yp_is_f ho z ?_
    exact br_t rfl h
theorem yl_t {o d x : Nat} (ho : o < 2) (hd12 : d < 12) (h2 : kY (12 * o + d) = 2) (hx : x < 64) (hn : en o = nI m) (hE : rl_E s (fun e => hd (20 * o + e)) (fun e => nm (20 * o + e)) (fun e => th (20 * o + e)) m P) (h0 : s (d * 64 + x) = 0 → post (-4)) (h1 : s (d * 64 + x) ≠ 0 → post (s (d * 64 + x))) : wpY_look post (kY, zY, cY, en, hd, nm, th, hY) (nI o) (nI d) (nI x) := by
  unfold wpY_look
  refine yp_is_t ho hd12 h2 ?_
  refine br_f (by decide) ?_
  refine yp_name_t hx ?_
  refine br_t rfl ?_
  by_cases z : s (d * 64 + x) = 0
  · refine ye_f ho hn hE hd12 hx z ?_
    exact br_f (by decide) (h0 z)
  · obtain ⟨e, he, hP⟩ := hE.2.2.2 (d * 64 + x) (by omega) z
    have hm := hE.1
    refine ye_t ho hn hE hd12 hx he hP ?_
    refine br_t (nI_pos' (by omega)) ⟨vp_in_nI (by omega) (by decide), ?_⟩
    rw [na_cl (by omega), show th (20 * o + e) = s (P e) from (hE.2.1 e he).2.2.2.2, hP]
    exact h1 z
theorem yk_t {t : Nat} (ht : t < 12) (h : post (kY t)) : wpY_kind post (kY, zY, cY, en, hd, nm, th, hY) (nI t) := by
  unfold wpY_kind
  refine br_f (nI_pos (by omega)) (br_t (nI_le (b := 11) (by omega) (by decide)) ⟨vp_in_nI (by omega) (by decide), ?_⟩)
  rw [na_cl (by omega)]; exact h
theorem yk_f {v : Int32} (hv : ¬ ∃ t, t < 12 ∧ v = nI t) (h : post 0) : wpY_kind post (kY, zY, cY, en, hd, nm, th, hY) v := by
  unfold wpY_kind
  rcases na_ng (by decide) hv with e | ⟨e1, e2⟩
  · exact br_t e h
  · refine br_f e1 (br_f ?_ h)
    obtain ⟨j, hj, rfl⟩ := nI_of e1
    rw [nI_leI (by decide) hj] at e2
    exact nI_ge (a := 11) (by omega) hj
end
theorem ik_y {k l c kY zY cY : Nat → Int32} {L : Nat → Nat} (hL : rl_L k l c kY zY cY L) {a v : Int32} : is_k kY a v ↔ is_k k a v :=
  ⟨fun ⟨t, h1, h2, h3⟩ => ⟨t, h1, h2, by rw [← (hL t h1).2.2.2.2.1]; exact h3⟩, fun ⟨t, h1, h2, h3⟩ => ⟨t, h1, h2, by rw [(hL t h1).2.2.2.2.1]; exact h3⟩⟩
theorem i_vc_idle {k : Nat} {u : SX} {v : SY} (I : i_Rel k u v) (hk : k + 5 ≤ 2560) (v1 : Int32) : wpX_idle (fun u' => wpY_idle (fun v' => i_Rel (k + 5) u' v') v v1) u v1 := by
  obtain ⟨k, s, l, c, hX, sk, ss, sl, sc⟩ := u
  obtain ⟨kY, zY, cY, en, hd, nm, th, hY⟩ := v
  exact I
theorem i_vc_find {k : Nat} {u : SX} {v : SY} (I : i_Rel k u v) (hk : k + 5 ≤ 2560) (v1 : Int32) (v2 : Int32) : wpX_find (fun r => wpY_find (fun r' => r' = r ∧ i_Rel (k + 5) u v) v v1 v2) u v1 v2 := by
  obtain ⟨k, s, l, c, hX, sk, ss, sl, sc⟩ := u
  obtain ⟨kY, zY, cY, en, hd, nm, th, hY⟩ := v
  obtain ⟨m, P, par, L, ⟨g1, g2, g3, g4, g5, g6⟩, U⟩ := nw_G I.1
  unfold wpX_find
  by_cases hp : is_k k 2 v1 ∧ is_n v2
  · obtain ⟨⟨d, d1, rfl, h2⟩, x, x1, rfl⟩ := hp
    have hY2 : kY (12 * 0 + d) = 2 := by rw [show 12 * 0 + d = d by omega, (g5 d d1).2.2.2.2.1]; exact h2
    refine xp_at_t d1 h2 x1 (fun z => ?_) (fun z => ?_)
    · unfold wpY_find
      exact yl_t (o := 0) (by omega) d1 hY2 x1 g1 (eo_0 g2) (fun _ => ⟨rfl, I⟩) (fun z' => (z' z).elim)
    · unfold wpY_find
      exact yl_t (o := 0) (by omega) d1 hY2 x1 g1 (eo_0 g2) (fun z' => (z z').elim) (fun _ => ⟨rfl, I⟩)
  · refine xp_at_f hp ?_
    unfold wpY_find
    refine yl_f (o := 0) (by omega) (fun ⟨⟨t, h1, h2, h3⟩, h4⟩ => hp ⟨⟨t, h1, h2, ?_⟩, h4⟩) ⟨rfl, I⟩
    rw [show 12 * 0 + t = t by omega, (g5 t h1).2.2.2.2.1] at h3; exact h3
theorem i_vc_savedFind {k : Nat} {u : SX} {v : SY} (I : i_Rel k u v) (hk : k + 5 ≤ 2560) (v1 : Int32) (v2 : Int32) : wpX_savedFind (fun r => wpY_savedFind (fun r' => r' = r ∧ i_Rel (k + 5) u v) v v1 v2) u v1 v2 := by
  obtain ⟨k, s, l, c, hX, sk, ss, sl, sc⟩ := u
  obtain ⟨kY, zY, cY, en, hd, nm, th, hY⟩ := v
  obtain ⟨⟨⟨m, P, g1, g2⟩, g3, ⟨par, g4⟩, ⟨L, g5⟩⟩, W⟩ := I.2
  have g2' : rl_E ss (fun e => hd (20 * 1 + e)) (fun e => nm (20 * 1 + e)) (fun e => th (20 * 1 + e)) m P := g2
  unfold wpX_savedFind
  by_cases hp : is_k sk 2 v1 ∧ is_n v2
  · obtain ⟨⟨d, d1, rfl, h2⟩, x, x1, rfl⟩ := hp
    have hY2 : kY (12 * 1 + d) = 2 := ((g5 d d1).2.2.2.2.1).trans h2
    refine xs_at_t d1 h2 x1 (fun z => ?_) (fun z => ?_)
    · unfold wpY_savedFind
      exact yl_t (o := 1) (by omega) d1 hY2 x1 g1 g2' (fun _ => ⟨rfl, I⟩) (fun z' => (z' z).elim)
    · unfold wpY_savedFind
      exact yl_t (o := 1) (by omega) d1 hY2 x1 g1 g2' (fun z' => (z z').elim) (fun _ => ⟨rfl, I⟩)
  · refine xs_at_f hp ?_
    unfold wpY_savedFind
    refine yl_f (o := 1) (by omega) (fun ⟨⟨t, h1, h2, h3⟩, h4⟩ => hp ⟨⟨t, h1, h2, ?_⟩, h4⟩) ⟨rfl, I⟩
    exact ((g5 t h1).2.2.2.2.1).symm.trans h3
theorem i_vc_kind {k : Nat} {u : SX} {v : SY} (I : i_Rel k u v) (hk : k + 5 ≤ 2560) (v1 : Int32) : wpX_kind (fun r => wpY_kind (fun r' => r' = r ∧ i_Rel (k + 5) u v) v v1) u v1 := by
  obtain ⟨k, s, l, c, hX, sk, ss, sl, sc⟩ := u
  obtain ⟨kY, zY, cY, en, hd, nm, th, hY⟩ := v
  obtain ⟨m, P, par, L, ⟨g1, g2, g3, g4, g5, g6⟩, U⟩ := nw_G I.1
  unfold wpX_kind
  by_cases hp : ∃ t, t < 12 ∧ v1 = nI t
  · obtain ⟨t, ht, rfl⟩ := hp
    refine xp_num_t ht ?_
    refine br_f (by decide) ⟨vp_in_nI ht (by decide), ?_⟩
    refine yk_t ht ⟨?_, I⟩
    rw [na_cl (by omega)]; exact (g5 t ht).2.2.2.2.1
  · refine xp_num_f hp ?_
    refine br_t rfl ?_
    exact yk_f hp ⟨rfl, I⟩
theorem i_vc_links {k : Nat} {u : SX} {v : SY} (I : i_Rel k u v) (hk : k + 5 ≤ 2560) (v1 : Int32) : wpX_links (fun r => wpY_links (fun r' => r' = r ∧ i_Rel (k + 5) u v) v v1) u v1 := by
  obtain ⟨k, s, l, c, hX, sk, ss, sl, sc⟩ := u
  obtain ⟨kY, zY, cY, en, hd, nm, th, hY⟩ := v
  obtain ⟨m, P, par, L, ⟨g1, g2, g3, g4, g5, g6⟩, U⟩ := nw_G I.1
  unfold wpX_links
  by_cases hp : ∃ t, t < 12 ∧ v1 = nI t
  · obtain ⟨t, ht, rfl⟩ := hp
    have ey := (g5 t ht).2.2.2.2.1
    refine xp_num_t ht ?_
    refine br_f (by decide) ⟨vp_in_nI ht (by decide), br_c (fun z => ?_) (fun z => ?_)⟩
    · rw [na_cl (by omega)] at z
      unfold wpY_links
      refine yk_t ht ?_
      exact br_t (by rw [ey]; exact z) ⟨rfl, I⟩
    · rw [na_cl (by omega)] at z
      refine xp_for (fun e0 => ?_) (fun e0 => ?_)
      · unfold wpY_links
        refine yk_t ht ?_
        refine br_f (by rw [ey]; exact z) ?_
        refine yp_links g2.1 g1 ⟨?_, I⟩
        rw [e0, cn_zero (fun e he => decide_eq_false ?_)]
        · rfl
        · rw [(g2.2.1 e he).2.2.2.2]; exact (g2.2.1 e he).2.1
      · unfold wpY_links
        refine yk_t ht ?_
        refine br_f (by rw [ey]; exact z) ?_
        refine yp_links g2.1 g1 ⟨?_, I⟩
        rw [ct_th g2 e0]
  · refine xp_num_f hp ?_
    refine br_t rfl ?_
    unfold wpY_links
    refine yk_f hp ?_
    exact br_t rfl ⟨rfl, I⟩
theorem i_vc_count {k : Nat} {u : SX} {v : SY} (I : i_Rel k u v) (hk : k + 5 ≤ 2560) (v1 : Int32) : wpX_count (fun r => wpY_count (fun r' => r' = r ∧ i_Rel (k + 5) u v) v v1) u v1 := by
  obtain ⟨k, s, l, c, hX, sk, ss, sl, sc⟩ := u
  obtain ⟨kY, zY, cY, en, hd, nm, th, hY⟩ := v
  obtain ⟨m, P, par, L, ⟨g1, g2, g3, g4, g5, g6⟩, U⟩ := nw_G I.1
  unfold wpX_count
  by_cases hp : is_k k 2 v1
  · refine xp_dir_t hp ?_
    obtain ⟨d, d1, rfl, h2⟩ := hp
    refine br_f (by decide) ?_
    refine xp_in d1 ?_
    refine yp_cnt_t g2.1 g1 d1 ((g5 d d1).2.2.2.2.1.trans h2) ⟨?_, I⟩
    rw [ct_dir g2 d1]
  · refine xp_dir_f hp ?_
    refine br_t rfl ?_
    exact yp_cnt_f (fun z => hp ((ik_y g5).mp z)) ⟨rfl, I⟩
theorem i_vc_next {k : Nat} {u : SX} {v : SY} (I : i_Rel k u v) (hk : k + 5 ≤ 2560) (v1 : Int32) (v2 : Int32) : wpX_next (fun r => wpY_next (fun r' => r' = r ∧ i_Rel (k + 5) u v) v v1 v2) u v1 v2 := by
  obtain ⟨k, s, l, c, hX, sk, ss, sl, sc⟩ := u
  obtain ⟨kY, zY, cY, en, hd, nm, th, hY⟩ := v
  obtain ⟨m, P, par, L, ⟨g1, g2, g3, g4, g5, g6⟩, U⟩ := nw_G I.1
  by_cases hp : is_k k 2 v1
  · obtain ⟨d, d1, rfl, h2⟩ := hp
    have ey := (g5 d d1).2.2.2.2.1.trans h2
    have hpos : ∀ e, e < m → ¬ nm e < 0 := fun e he => by rw [(g2.2.1 e he).2.2.2.1]; exact nI_pos (by omega)
    have hent : ∀ e, e < m → hd e = nI d → ∃ x, x < 64 ∧ nm e = nI x ∧ s (d * 64 + x) ≠ 0 := fun e he z => by
      obtain ⟨a1, a2, a3, a4, a5⟩ := g2.2.1 e he
      rw [a3] at z
      have := na_eq (by omega) (by omega) z
      exact ⟨P e % 64, by omega, a4, by rw [show d * 64 + P e % 64 = P e by omega]; exact a2⟩
    have hslot : ∀ x, x < 64 → s (d * 64 + x) ≠ 0 → ∃ e, e < m ∧ hd e = nI d ∧ nm e = nI x := fun x hx z => by
      obtain ⟨e, he, e1⟩ := g2.2.2.2 (d * 64 + x) (by omega) z
      have := (en_at g2 d1 hx he).mpr e1
      exact ⟨e, he, this⟩
    rcases cn_first (fun x => ¬ nI x ≤ v2 ∧ s (d * 64 + x) ≠ 0) 64 with ⟨x, x1, ⟨x2, x3⟩, x4⟩ | hno
    · refine xp_next_t d1 h2 x1 x2 x3 (fun y hy => ?_) ?_
      · by_cases a : nI y ≤ v2
        · exact Or.inl a
        · by_cases b : s (d * 64 + y) = 0
          · exact Or.inr b
          · exact (x4 y hy ⟨a, b⟩).elim
      · refine yp_next g2.1 g1 d1 ey hpos (fun r hr => ⟨?_, I⟩)
        obtain ⟨e0, b1, b2, b3⟩ := hslot x x1 x3
        rcases hr with ⟨_, hz⟩ | ⟨e, a1, a2, a3, a4, a5⟩
        · exact (x2 (by rw [← b3]; exact hz e0 b1 b2)).elim
        · obtain ⟨y, y1, y2, y3⟩ := hent e a1 a2
          have c1 := a5 e0 b1 b2 (by rw [b3]; exact x2)
          rw [y2, b3, nI_leI (by omega) (by omega)] at c1
          have c2 : ¬ y < x := fun z => x4 y z ⟨by rw [← y2]; exact a3, y3⟩
          rw [a4, y2, show y = x by omega]
    · refine xp_next_n d1 h2 (fun y hy => ?_) ?_
      · by_cases a : nI y ≤ v2
        · exact Or.inl a
        · by_cases b : s (d * 64 + y) = 0
          · exact Or.inr b
          · exact (hno y hy ⟨a, b⟩).elim
      · refine yp_next g2.1 g1 d1 ey hpos (fun r hr => ⟨?_, I⟩)
        rcases hr with ⟨e, _⟩ | ⟨e, a1, a2, a3, a4, a5⟩
        · exact e
        · obtain ⟨y, y1, y2, y3⟩ := hent e a1 a2
          exact (hno y y1 ⟨by rw [← y2]; exact a3, y3⟩).elim
  · refine xp_next_f hp ?_
    exact yp_next_f (fun z => hp ((ik_y g5).mp z)) ⟨rfl, I⟩
theorem i_vc_opened {k : Nat} {u : SX} {v : SY} (I : i_Rel k u v) (hk : k + 5 ≤ 2560) (v1 : Int32) : wpX_opened (fun r => wpY_opened (fun r' => r' = r ∧ i_Rel (k + 5) u v) v v1) u v1 := by
  obtain ⟨k, s, l, c, hX, sk, ss, sl, sc⟩ := u
  obtain ⟨kY, zY, cY, en, hd, nm, th, hY⟩ := v
  obtain ⟨m, P, par, L, ⟨g1, g2, g3, g4, g5, g6⟩, U⟩ := nw_G I.1
  unfold wpX_opened
  by_cases hp : ∃ t, t < 4 ∧ v1 = nI t
  · obtain ⟨i, hi, rfl⟩ := hp
    have vi : vp_in (nI i) 4 := vp_in_nI hi (by decide)
    refine xp_hd_t hi ?_
    refine br_f (by decide) ⟨vi, ?_⟩
    rw [na_cl (by omega)]
    rcases g6 i hi with ⟨a1, a2⟩ | ⟨t, t0, t1, a1, a2, a3⟩
    · refine br_t a1 ?_
      unfold wpY_opened
      refine br_f (nI_pos (by omega)) (br_t (nI_le (b := 3) (by omega) (by decide)) ⟨vi, ?_⟩)
      rw [na_cl (by omega), a2]
      exact br_f (by decide) ⟨rfl, I⟩
    · refine br_f (by rw [a2]; exact na_nz (by omega) t0) ⟨vi, ?_⟩
      unfold wpY_opened
      refine br_f (nI_pos (by omega)) (br_t (nI_le (b := 3) (by omega) (by decide)) ⟨vi, ?_⟩)
      rw [na_cl (by omega), a3, a2]
      exact br_t (nI_pos' (by omega)) ⟨vi, rfl, I⟩
  · refine xp_hd_f hp ?_
    refine br_t rfl ?_
    unfold wpY_opened
    rcases na_ng (by decide) hp with e | ⟨e1, e2⟩
    · exact br_t e ⟨rfl, I⟩
    · refine br_f e1 (br_f ?_ ⟨rfl, I⟩)
      obtain ⟨j, hj, rfl⟩ := nI_of e1
      rw [nI_leI (by decide) hj] at e2
      exact nI_ge (a := 3) (by omega) hj
theorem i_vc_length {k : Nat} {u : SX} {v : SY} (I : i_Rel k u v) (hk : k + 5 ≤ 2560) (v1 : Int32) : wpX_length (fun r => wpY_length (fun r' => r' = r ∧ i_Rel (k + 5) u v) v v1) u v1 := by
  obtain ⟨k, s, l, c, hX, sk, ss, sl, sc⟩ := u
  obtain ⟨kY, zY, cY, en, hd, nm, th, hY⟩ := v
  obtain ⟨m, P, par, L, ⟨g1, g2, g3, g4, g5, g6⟩, U⟩ := nw_G I.1
  unfold wpX_length
  by_cases hp : is_k k 1 v1
  · refine xp_file_t hp ?_
    obtain ⟨t, t1, rfl, h1⟩ := hp
    obtain ⟨b1, b2, b3, b4, b5, b6, b7⟩ := g5 t t1
    refine br_f (by decide) ⟨vp_in_nI t1 (by decide), ?_⟩
    unfold wpY_length
    refine yp_file_t ⟨t, t1, rfl, b5.trans h1⟩ ?_
    refine br_f (by decide) ⟨vp_in_nI (by omega) (by decide), ?_, I⟩
    rw [na_cl (by omega), b1, b6 h1]
  · refine xp_file_f hp ?_
    refine br_t rfl ?_
    unfold wpY_length
    refine yp_file_f (fun z => hp ((ik_y g5).mp z)) ?_
    exact br_t rfl ⟨rfl, I⟩
theorem i_vc_read {k : Nat} {u : SX} {v : SY} (I : i_Rel k u v) (hk : k + 5 ≤ 2560) (v1 : Int32) (v2 : Int32) : wpX_read (fun r => wpY_read (fun r' => r' = r ∧ i_Rel (k + 5) u v) v v1 v2) u v1 v2 := by
  obtain ⟨k, s, l, c, hX, sk, ss, sl, sc⟩ := u
  obtain ⟨kY, zY, cY, en, hd, nm, th, hY⟩ := v
  obtain ⟨m, P, par, L, ⟨g1, g2, g3, g4, g5, g6⟩, U⟩ := nw_G I.1
  unfold wpX_read
  by_cases hp : ∃ t, t < 12 ∧ v1 = nI t
  · obtain ⟨t, ht, rfl⟩ := hp
    obtain ⟨b1, b2, b3, b4, b5, b6, b7⟩ := g5 t ht
    by_cases hi : ∃ i, i < L t ∧ v2 = nI i
    · obtain ⟨i, hi, rfl⟩ := hi
      have k1 : k t = 1 := Decidable.byContradiction fun z => by have := b3 z; omega
      refine xp_cell_t ht b1 b2 hi ?_
      unfold wpY_read
      refine yp_cell_t (o := 0) (by omega) ht (by rw [show 12 * 0 + t = t by omega]; exact b5.trans k1) (by rw [show 12 * 0 + t = t by omega]; exact b6 k1) b2 hi ⟨?_, I⟩
      rw [show 576 * 0 + (t * 48 + i) = t * 48 + i by omega]; exact b7 i hi
    · refine xp_cell_z ht b1 b2 hi ?_
      unfold wpY_read
      by_cases k1 : k t = 1
      · exact yp_cell_z (o := 0) (by omega) ht (by rw [show 12 * 0 + t = t by omega]; exact b5.trans k1) (by rw [show 12 * 0 + t = t by omega]; exact b6 k1) b2 hi ⟨rfl, I⟩
      · refine yp_cell_f (o := 0) (by omega) (fun ⟨x, x1, x2, x3⟩ => k1 ?_) ⟨rfl, I⟩
        rw [show 12 * 0 + x = x by omega, ← na_eq (by omega) (by omega) x2] at x3
        exact b5.symm.trans x3
  · refine xp_cell_f hp ?_
    unfold wpY_read
    exact yp_cell_f (o := 0) (by omega) (fun ⟨x, x1, x2, x3⟩ => hp ⟨x, x1, x2⟩) ⟨rfl, I⟩
theorem i_vc_savedRead {k : Nat} {u : SX} {v : SY} (I : i_Rel k u v) (hk : k + 5 ≤ 2560) (v1 : Int32) (v2 : Int32) : wpX_savedRead (fun r => wpY_savedRead (fun r' => r' = r ∧ i_Rel (k + 5) u v) v v1 v2) u v1 v2 := by
  obtain ⟨k, s, l, c, hX, sk, ss, sl, sc⟩ := u
  obtain ⟨kY, zY, cY, en, hd, nm, th, hY⟩ := v
  obtain ⟨⟨⟨m, P, g1, g2⟩, g3, ⟨par, g4⟩, ⟨L, g5⟩⟩, W⟩ := I.2
  unfold wpX_savedRead
  by_cases hp : ∃ t, t < 12 ∧ v1 = nI t
  · obtain ⟨t, ht, rfl⟩ := hp
    obtain ⟨b1, b2, b3, b4, b5, b6, b7⟩ := g5 t ht
    by_cases hi : ∃ i, i < L t ∧ v2 = nI i
    · obtain ⟨i, hi, rfl⟩ := hi
      have k1 : sk t = 1 := Decidable.byContradiction fun z => by have := b3 z; omega
      refine xs_cell_t ht b1 b2 hi ?_
      unfold wpY_savedRead
      exact yp_cell_t (o := 1) (by omega) ht (b5.trans k1) (b6 k1) b2 hi ⟨b7 i hi, I⟩
    · refine xs_cell_z ht b1 b2 hi ?_
      unfold wpY_savedRead
      by_cases k1 : sk t = 1
      · exact yp_cell_z (o := 1) (by omega) ht (b5.trans k1) (b6 k1) b2 hi ⟨rfl, I⟩
      · refine yp_cell_f (o := 1) (by omega) (fun ⟨x, x1, x2, x3⟩ => k1 ?_) ⟨rfl, I⟩
        rw [← na_eq (by omega) (by omega) x2] at x3
        exact b5.symm.trans x3
  · refine xs_cell_f hp ?_
    unfold wpY_savedRead
    exact yp_cell_f (o := 1) (by omega) (fun ⟨x, x1, x2, x3⟩ => hp ⟨x, x1, x2⟩) ⟨rfl, I⟩
theorem i_vc_sum {k : Nat} {u : SX} {v : SY} (I : i_Rel k u v) (hk : k + 5 ≤ 2560) (v1 : Int32) : wpX_sum (fun r => wpY_sum (fun r' => r' = r ∧ i_Rel (k + 5) u v) v v1) u v1 := by
  obtain ⟨k, s, l, c, hX, sk, ss, sl, sc⟩ := u
  obtain ⟨kY, zY, cY, en, hd, nm, th, hY⟩ := v
  obtain ⟨m, P, par, L, ⟨g1, g2, g3, g4, g5, g6⟩, U⟩ := nw_G I.1
  by_cases hp : is_k k 1 v1
  · obtain ⟨t, ht, rfl, k1⟩ := hp
    obtain ⟨b1, b2, b3, b4, b5, b6, b7⟩ := g5 t ht
    refine xp_sum_t ht k1 b1 b2 ?_
    refine yp_sum (g := fun i => c (t * 48 + i)) (fun i hi p h => ?_) ⟨sm_more b2 b4, I⟩
    by_cases hl : i < L t
    · refine yp_cell_t (o := 0) (by omega) ht (by rw [show 12 * 0 + t = t by omega]; exact b5.trans k1) (by rw [show 12 * 0 + t = t by omega]; exact b6 k1) b2 hl ?_
      rw [show 576 * 0 + (t * 48 + i) = t * 48 + i by omega, b7 i hl]; exact h
    · refine yp_cell_z (o := 0) (by omega) ht (by rw [show 12 * 0 + t = t by omega]; exact b5.trans k1) (by rw [show 12 * 0 + t = t by omega]; exact b6 k1) b2 (fun ⟨j, j1, j2⟩ => ?_) ?_
      · have := na_eq (by omega) (by omega) j2; omega
      · rw [b4 i (by omega) hi] at h; exact h
  · unfold wpX_sum
    refine xp_file_f hp ?_
    refine br_t rfl ?_
    refine yp_sum (g := fun _ => 0) (fun i hi p h => ?_) ⟨sm_more (a := 0) (by omega) (fun _ _ _ => rfl), I⟩
    refine yp_cell_f (o := 0) (by omega) (fun ⟨x, x1, x2, x3⟩ => hp ⟨x, x1, x2, ?_⟩) h
    rw [show 12 * 0 + x = x by omega] at x3
    exact (g5 x x1).2.2.2.2.1.symm.trans x3
