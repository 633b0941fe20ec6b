/-! the reference's own longer walks -/
def hm_c (a : Nat → Int32) (n : Nat) : Nat → Int32 := fun i => if i < n then -1 else a i
theorem hm_0 (a : Nat → Int32) : hm_c a 0 = a := funext fun i => if_neg (by omega)
theorem hm_in {a : Nat → Int32} {n i : Nat} (h : i < n) : hm_c a n i = -1 := if_pos h
theorem hm_u (a : Nat → Int32) (n : Nat) : upd (hm_c a n) n (-1) = hm_c a (n + 1) := by
  funext i
  by_cases e : i = n
  · rw [e, pk_us, hm_in (by omega)]
  · rw [pk_un e]
    show (if i < n then -1 else a i) = if i < n + 1 then -1 else a i
    by_cases e2 : i < n
    · rw [if_pos e2, if_pos (by omega)]
    · rw [if_neg e2, if_neg (by omega)]
section
variable {kY zY cY en hd nm th hY : Nat → Int32} {post : SY → Prop} {postR : Int32 → SY → Prop} {postV : Int32 → Prop}
theorem yp_resize {t n0 L : Nat} (ht : t < 12) (hL : zY t = nI L) (h48 : L ≤ 48) (hn : n0 ≤ 48) (h : post (kY, upd zY t (nI n0), zf_c cY (t * 48 + L) (t * 48 + n0), en, hd, nm, th, hY)) : wpY_resize post (kY, zY, cY, en, hd, nm, th, hY) (nI t) (nI n0) := by
  unfold wpY_resize
  refine ⟨vp_in_nI (by omega) (by decide), nm_r (e' := nI L) (by rw [na_cl (by omega)]; exact hL) ?_⟩
  by_cases hl : L ≤ n0
  · refine lc_to2 (fun n i => wY_resize_7 post (nI t) (nI n0) n (nI i) kY zY (zf_c cY (t * 48 + L) (t * 48 + i)) en hd nm th hY) L n0 hl (fun A => ?_) (fun n => ?_) (fun n i h0 hi ih => ?_)
    · rw [zf_e] at A; exact A
    · exact br_t (Int32.le_refl _) ⟨vp_in_nI (by omega) (by decide), nm_r (by rw [na_cl (by omega)]) h⟩
    · have e0 : 48 * nI t + nI i = nI (t * 48 + i) := by rw [Nat.mul_comm]; exact na_ma 48 t i
      refine br_f (nI_ge hi (by omega)) ?_
      rw [e0, na_cl (by omega)]
      exact ⟨vp_in_nI (by omega) (by decide), nm_r (zf_u cY (by omega)) (nm_r (nI_1 i) ih)⟩
  · have e : zf_c cY (t * 48 + L) (t * 48 + n0) = cY := funext fun i => zf_out (by omega)
    rw [e] at h
    refine ⟨1, br_t (nI_le (by omega) (by omega)) ⟨vp_in_nI (by omega) (by decide), nm_r (by rw [na_cl (by omega)]) h⟩⟩
theorem yp_copy {o p : Nat} (ho : o < 2) (hp : p < 2) (hop : o ≠ p) (h : post (ch_c kY (12 * o) (12 * p) 12, ch_c zY (12 * o) (12 * p) 12, ch_c cY (576 * o) (576 * p) 576, upd en p (en o), ch_c hd (20 * o) (20 * p) 20, ch_c nm (20 * o) (20 * p) 20, ch_c th (20 * o) (20 * p) 20, hY)) : wpY_copy post (kY, zY, cY, en, hd, nm, th, hY) (nI o) (nI p) := by
  unfold wpY_copy
  refine lc_to2 (fun n i => wY_copy_2 post (nI o) (nI p) n (nI i) (ch_c kY (12 * o) (12 * p) i) (ch_c zY (12 * o) (12 * p) i) cY en hd nm th hY) 0 12 (by omega) (fun A => ?_) (fun n => ?_) (fun n i h0 hi ih => ?_)
  · rw [ch_0, ch_0] at A; exact A
  · refine br_t (Int32.le_refl _) ?_
    refine lc_to2 (fun n i => wY_copy_60 post (nI o) (nI p) n (nI i) (ch_c kY (12 * o) (12 * p) 12) (ch_c zY (12 * o) (12 * p) 12) (ch_c cY (576 * o) (576 * p) i) en hd nm th hY) 0 576 (by omega) (fun A => ?_) (fun n => ?_) (fun n i h0 hi ih => ?_)
    · rw [ch_0] at A; exact A
    · refine br_t (Int32.le_refl _) ⟨vp_in_nI ho (by decide), vp_in_nI hp (by decide), nm_r (e' := upd en p (en o)) (by rw [na_cl (by omega), na_cl (by omega)]) ?_⟩
      refine lc_to2 (fun n i => wY_copy_111 post (nI o) (nI p) n (nI i) (ch_c kY (12 * o) (12 * p) 12) (ch_c zY (12 * o) (12 * p) 12) (ch_c cY (576 * o) (576 * p) 576) (upd en p (en o)) (ch_c hd (20 * o) (20 * p) i) (ch_c nm (20 * o) (20 * p) i) (ch_c th (20 * o) (20 * p) i) hY) 0 20 (by omega) (fun A => ?_) (fun n => ?_) (fun n i h0 hi ih => ?_)
      · rw [ch_0, ch_0, ch_0] at A; exact A
      · exact br_t (Int32.le_refl _) h
      · have e1 : 20 * nI o + nI i = nI (20 * o + i) := na_ma 20 o i
        have e2 : 20 * nI p + nI i = nI (20 * p + i) := na_ma 20 p i
        refine br_f (nI_ge (b := 20) hi (by decide)) ?_
        rw [e1, e2, na_cl (n := 20 * o + i) (by omega), na_cl (n := 20 * p + i) (by omega), ch_out (a := hd) (by omega), ch_out (a := nm) (by omega), ch_out (a := th) (by omega)]
        have v1 : vp_in (nI (20 * o + i)) 40 := vp_in_nI (by omega) (by decide)
        have v2 : vp_in (nI (20 * p + i)) 40 := vp_in_nI (by omega) (by decide)
        exact ⟨v1, v2, nm_r (ch_u hd (20 * o) (20 * p) i) ⟨v1, v2, nm_r (ch_u nm (20 * o) (20 * p) i) ⟨v1, v2, nm_r (ch_u th (20 * o) (20 * p) i) (nm_r (nI_1 i) ih)⟩⟩⟩
    · have e1 : 576 * nI o + nI i = nI (576 * o + i) := na_ma 576 o i
      have e2 : 576 * nI p + nI i = nI (576 * p + i) := na_ma 576 p i
      refine br_f (nI_ge (b := 576) hi (by decide)) ?_
      rw [e1, e2, na_cl (n := 576 * o + i) (by omega), na_cl (n := 576 * p + i) (by omega), ch_out (a := cY) (by omega)]
      exact ⟨vp_in_nI (by omega) (by decide), vp_in_nI (by omega) (by decide), nm_r (ch_u cY (576 * o) (576 * p) i) (nm_r (nI_1 i) ih)⟩
  · have e1 : 12 * nI o + nI i = nI (12 * o + i) := na_ma 12 o i
    have e2 : 12 * nI p + nI i = nI (12 * p + i) := na_ma 12 p i
    refine br_f (nI_ge (b := 12) hi (by decide)) ?_
    rw [e1, e2, na_cl (n := 12 * o + i) (by omega), na_cl (n := 12 * p + i) (by omega), ch_out (a := kY) (by omega), ch_out (a := zY) (by omega)]
    have v1 : vp_in (nI (12 * o + i)) 24 := vp_in_nI (by omega) (by decide)
    have v2 : vp_in (nI (12 * p + i)) 24 := vp_in_nI (by omega) (by decide)
    exact ⟨v1, v2, nm_r (ch_u kY (12 * o) (12 * p) i) ⟨v1, v2, nm_r (ch_u zY (12 * o) (12 * p) i) (nm_r (nI_1 i) ih)⟩⟩
/-- what saving leaves behind, in the reference's kinds -/
def sv_y (kY th : Nat → Int32) (m : Nat) (k' : Nat → Int32) (t : Nat) : Prop :=
  (kY t = 1 ∧ (∀ e, e < m → th e ≠ nI t) ∧ k' (12 + t) = 0) ∨ ((kY t = 1 → ∃ e, e < m ∧ th e = nI t) ∧ k' (12 + t) = kY t)
theorem yp_sync {m : Nat} (hm : m ≤ 20) (hn : en 0 = nI m) (h : ∀ k', (∀ t, t < 12 → k' t = kY t) → (∀ t, t < 12 → sv_y kY th m k' t) → postR (nI (cn_c (fun q => decide (¬ kY q = 0)) 12)) (k', ch_c zY 0 12 12, ch_c cY 0 576 576, upd en 1 (en 0), ch_c hd 0 20 20, ch_c nm 0 20 20, ch_c th 0 20 20, hY)) : wpY_sync postR (kY, zY, cY, en, hd, nm, th, hY) := by
  unfold wpY_sync
  refine yp_copy (o := 0) (p := 1) (by omega) (by omega) (by omega) ?_
  have hn' : upd en 1 (en 0) 0 = nI m := (pk_un (by omega)).trans hn
  have ht' : ∀ e, e < m → ch_c th (20 * 0) (20 * 1) 20 e = th e := fun e he => ch_out (by omega)
  refine loop_0 (σ := Nat → Int32) (fun n i w => wY_sync_8 postR n (nI i) w (ch_c zY (12 * 0) (12 * 1) 12) (ch_c cY (576 * 0) (576 * 1) 576) (upd en 1 (en 0)) (ch_c hd (20 * 0) (20 * 1) 20) (ch_c nm (20 * 0) (20 * 1) 20) (ch_c th (20 * 0) (20 * 1) 20) hY)
    (fun i w => (∀ t, t < 12 → w t = kY t) ∧ (∀ t, t < 12 → t < i → sv_y kY th m w t) ∧ ∀ t, t < 12 → i ≤ t → w (12 + t) = kY t) 12 (ch_c kY (12 * 0) (12 * 1) 12) ?_ ?_ ?_
  · refine ⟨fun t ht => ch_out (by omega), fun t _ h => by omega, fun t ht _ => ?_⟩
    have := ch_in (a := kY) (f := 0) (t := 12) ht
    rw [Nat.zero_add] at this; exact this
  · rintro n w ⟨I0, I1, _⟩
    refine br_t (Int32.le_refl _) ?_
    refine yp_things ?_
    have := h w I0 (fun t ht => I1 t ht ht)
    rw [cn_congr (q := fun q => decide (¬ kY q = 0)) (fun t ht => by rw [I0 t ht])]
    exact this
  · intro n i w hi I ih
    obtain ⟨I0, I1, I2⟩ := I
    have keep : (kY i = 1 → ∃ e, e < m ∧ th e = nI i) → wY_sync_8 postR n (nI i + 1) w (ch_c zY (12 * 0) (12 * 1) 12) (ch_c cY (576 * 0) (576 * 1) 576) (upd en 1 (en 0)) (ch_c hd (20 * 0) (20 * 1) 20) (ch_c nm (20 * 0) (20 * 1) 20) (ch_c th (20 * 0) (20 * 1) 20) hY := fun z => by
      rw [nI_1]
      refine ih w ⟨I0, fun t ht h => ?_, fun t ht h => I2 t ht (by omega)⟩
      by_cases e : t = i
      · subst e; exact Or.inr ⟨z, I2 t ht (Nat.le_refl t)⟩
      · exact I1 t ht (by omega)
    refine br_f (nI_ge (b := 12) hi (by decide)) ⟨vp_in_nI (by omega) (by decide), br_c (fun kf => ?_) (fun kf => nm_e (keep (fun z => ?_)))⟩
    · rw [na_cl (by omega), I0 i hi] at kf
      refine yp_links hm hn' ?_
      have hle := cn_le (fun e => decide (ch_c th (20 * 0) (20 * 1) 20 e = nI i)) m
      refine br_c (fun z => ?_) (fun z => nm_e (keep (fun _ => ?_)))
      · have z0 := na_z (by omega) z
        have e0 : (12 : Int32) + nI i = nI (12 + i) := nI_add 12 i
        rw [e0, na_cl (by omega)]
        refine ⟨vp_in_nI (by omega) (by decide), nm_r rfl (nm_r (nI_1 i) ?_)⟩
        refine ih (upd w (12 + i) 0) ⟨fun t ht => (pk_un (by omega)).trans (I0 t ht), fun t ht h => ?_, fun t ht h => (pk_un (by omega)).trans (I2 t ht (by omega))⟩
        by_cases e : t = i
        · subst e
          refine Or.inl ⟨kf, fun e he e1 => ?_, pk_us⟩
          exact of_decide_eq_false (cn_all z0 e he) ((ht' e he).trans e1)
        · rcases I1 t ht (by omega) with ⟨b1, b2, b3⟩ | ⟨b1, b2⟩
          · exact Or.inl ⟨b1, b2, (pk_un (by omega)).trans b3⟩
          · exact Or.inr ⟨b1, (pk_un (by omega)).trans b2⟩
      · have : 0 < cn_c (fun e => decide (ch_c th (20 * 0) (20 * 1) 20 e = nI i)) m := by
          rcases Nat.eq_zero_or_pos (cn_c (fun e => decide (ch_c th (20 * 0) (20 * 1) 20 e = nI i)) m) with e | e
          · exact (z (by rw [e]; exact nI_0)).elim
          · exact e
        obtain ⟨e, he, e1⟩ := cn_ex this
        exact ⟨e, he, (ht' e he).symm.trans (of_decide_eq_true e1)⟩
    · rw [na_cl (by omega), I0 i hi] at kf
      exact (kf z).elim
theorem yp_back (h : postR (nI (cn_c (fun q => decide (¬ kY (12 + q) = 0)) 12)) (ch_c kY 12 0 12, ch_c zY 12 0 12, ch_c cY 576 0 576, upd en 0 (en 1), ch_c hd 20 0 20, ch_c nm 20 0 20, ch_c th 20 0 20, hm_c hY 4)) : wY_crash_21 postR kY zY cY en hd nm th hY := by
  unfold wY_crash_21
  refine yp_copy (o := 1) (p := 0) (by omega) (by omega) (by omega) ?_
  refine lc_to2 (fun n i => wY_crash_29 postR n (nI i) (ch_c kY (12 * 1) (12 * 0) 12) (ch_c zY (12 * 1) (12 * 0) 12) (ch_c cY (576 * 1) (576 * 0) 576) (upd en 0 (en 1)) (ch_c hd (20 * 1) (20 * 0) 20) (ch_c nm (20 * 1) (20 * 0) 20) (ch_c th (20 * 1) (20 * 0) 20) (hm_c hY i)) 0 4 (by omega) (fun A => ?_) (fun n => ?_) (fun n i h0 hi ih => ?_)
  · rw [hm_0] at A; exact A
  · refine br_t (Int32.le_refl _) ?_
    refine yp_things ?_
    rw [cn_congr (q := fun q => decide (¬ kY (12 + q) = 0)) (fun t ht => by
      have := ch_in (a := kY) (f := 12) (t := 0) ht
      rw [Nat.zero_add] at this
      rw [show 12 * 1 = 12 from rfl, show 12 * 0 = 0 from rfl, this])]
    exact h
  · refine br_f (nI_ge (b := 4) hi (by decide)) ?_
    rw [na_cl (by omega)]
    exact ⟨vp_in_nI hi (by decide), nm_r (hm_u hY i) (nm_r (nI_1 i) ih)⟩
end
