/-! the tree under the writes -/
section
variable {k s : Nat → Int32} {par : Nat → Nat}
theorem tr_dir (hK : rl_K k s) (hT : rl_T k s par) {d : Nat} (hd : d < 12) (h2 : k d = 2) : ∀ j, it_i par j d < 12 ∧ k (it_i par j d) = 2 := by
  intro j
  induction j with
  | zero => exact ⟨hd, h2⟩
  | succ j ih =>
    rw [it_s]
    refine ⟨hT.2.1 _, ?_⟩
    by_cases z : it_i par j d = 0
    · rw [z, hT.1]; exact hK.1
    · obtain ⟨q, a1, a2, a3, a4⟩ := hT.2.2.1 _ (by omega) ih.1 ih.2
      have nz : s q ≠ 0 := by rw [a2]; exact na_nz (by omega) (by omega)
      obtain ⟨t, b1, b2, b3, b4, b5⟩ := hK.2.2 q a1 nz
      rw [a3]; exact b5
/-- a new thing at a free slot -/
theorem tr_make (hK : rl_K k s) (hT : rl_T k s par) {t q : Nat} {v : Int32} (t0 : 0 < t) (t1 : t < 12) (kt : k t = 0) (hv : v = 1 ∨ v = 2) (hq : q < 768) (hs : s q = 0) (hd : k (q / 64) = 2) :
    rl_K (upd k t v) (upd s q (nI t)) ∧ rl_T (upd k t v) (upd s q (nI t)) (fun y => if y = t then q / 64 else par y) := by
  obtain ⟨K1, K2, K3⟩ := hK
  have hT' := hT
  obtain ⟨T1, T2, T3, T4⟩ := hT
  have v0 : v ≠ 0 := by rcases hv with rfl | rfl <;> decide
  have dt : ∀ d, k d = 2 → d ≠ t := fun d h z => by rw [z, kt] at h; exact absurd h (by decide)
  have nt : ∀ r, r < 768 → s r ≠ nI t := fun r hr z => by
    obtain ⟨t', b1, b2, b3, b4, b5⟩ := K3 r hr (by rw [z]; exact na_nz (by omega) t0)
    rw [z] at b3
    have := na_eq (by omega) (by omega) b3
    rw [← this] at b4; exact b4 kt
  refine ⟨⟨?_, fun x hx => ?_, fun r hr hz => ?_⟩, ⟨?_, fun x => ?_, fun x x0 hx hz => ?_, fun x hx hz => ?_⟩⟩
  · rw [pk_un (by omega)]; exact K1
  · by_cases e : x = t
    · subst e; rw [pk_us]; exact Or.inr hv
    · rw [pk_un e]; exact K2 x hx
  · by_cases e : r = q
    · subst e
      rw [pk_us]
      exact ⟨t, t0, t1, rfl, by rw [pk_us]; exact v0, by rw [pk_un (dt _ hd)]; exact hd⟩
    · rw [pk_un e] at hz ⊢
      obtain ⟨t', b1, b2, b3, b4, b5⟩ := K3 r hr hz
      have : t' ≠ t := fun z => b4 (by rw [z]; exact kt)
      exact ⟨t', b1, b2, b3, by rw [pk_un this]; exact b4, by rw [pk_un (dt _ b5)]; exact b5⟩
  · show (if 0 = t then q / 64 else par 0) = 0
    rw [if_neg (by omega)]; exact T1
  · show (if x = t then q / 64 else par x) < 12
    split
    · omega
    · exact T2 x
  · by_cases e : x = t
    · subst e
      refine ⟨q, hq, pk_us, if_pos rfl, fun q' h1 h2 => ?_⟩
      by_cases e' : q' = q
      · exact e'
      · rw [pk_un e'] at h2; exact (nt q' h1 h2).elim
    · rw [pk_un e] at hz
      obtain ⟨r, a1, a2, a3, a4⟩ := T3 x x0 hx hz
      have rq : r ≠ q := fun z => by rw [z, hs] at a2; exact na_nz (by omega) x0 a2.symm
      refine ⟨r, a1, by rw [pk_un rq]; exact a2, by show (if x = t then q / 64 else par x) = r / 64; rw [if_neg e]; exact a3, fun q' h1 h2 => ?_⟩
      by_cases e' : q' = q
      · rw [e', pk_us] at h2
        exact (e (na_eq (by omega) (by omega) h2).symm).elim
      · rw [pk_un e'] at h2; exact a4 q' h1 h2
  · have nh : ∀ j, it_i par j (q / 64) ≠ t := fun j => dt _ (tr_dir ⟨K1, K2, K3⟩ hT' (by omega) hd j).2
    have hr := T4 (q / 64) (by omega) hd
    by_cases e : x = t
    · obtain ⟨i, hi⟩ := hr
      refine ⟨i + 1, ?_⟩
      show it_i (fun y => if y = t then q / 64 else par y) i (if x = t then q / 64 else par x) = 0
      rw [if_pos e, ((it_upd nh i 0).1)]; exact hi
    · rw [pk_un e] at hz
      obtain ⟨i, hi⟩ := T4 x hx hz
      exact (it_upd nh i x).2 hi hr
/-- one more slot for a file -/
theorem tr_link (hK : rl_K k s) (hT : rl_T k s par) {t q : Nat} (t0 : 0 < t) (t1 : t < 12) (kt : k t = 1) (hq : q < 768) (hs : s q = 0) (hd : k (q / 64) = 2) :
    rl_K k (upd s q (nI t)) ∧ rl_T k (upd s q (nI t)) par := by
  obtain ⟨K1, K2, K3⟩ := hK
  obtain ⟨T1, T2, T3, T4⟩ := hT
  refine ⟨⟨K1, K2, fun r hr hz => ?_⟩, ⟨T1, T2, fun x x0 hx hz => ?_, T4⟩⟩
  · by_cases e : r = q
    · subst e
      rw [pk_us]
      exact ⟨t, t0, t1, rfl, by rw [kt]; decide, hd⟩
    · rw [pk_un e] at hz ⊢
      exact K3 r hr hz
  · obtain ⟨r, a1, a2, a3, a4⟩ := T3 x x0 hx hz
    have rq : r ≠ q := fun z => by rw [z, hs] at a2; exact na_nz (by omega) x0 a2.symm
    refine ⟨r, a1, by rw [pk_un rq]; exact a2, a3, fun q' h1 h2 => ?_⟩
    by_cases e' : q' = q
    · rw [e', pk_us] at h2
      have := na_eq (by omega) (by omega) h2
      rw [← this, kt] at hz; exact absurd hz (by decide)
    · rw [pk_un e'] at h2; exact a4 q' h1 h2
/-- a file's slot is emptied -/
theorem tr_clear (hK : rl_K k s) (hT : rl_T k s par) {t q : Nat} (t1 : t < 12) (kt : k t = 1) (hs : s q = nI t) :
    rl_K k (upd s q 0) ∧ rl_T k (upd s q 0) par := by
  obtain ⟨K1, K2, K3⟩ := hK
  obtain ⟨T1, T2, T3, T4⟩ := hT
  refine ⟨⟨K1, K2, fun r hr hz => ?_⟩, ⟨T1, T2, fun x x0 hx hz => ?_, T4⟩⟩
  · by_cases e : r = q
    · subst e; rw [pk_us] at hz; exact (hz rfl).elim
    · rw [pk_un e] at hz ⊢
      exact K3 r hr hz
  · obtain ⟨r, a1, a2, a3, a4⟩ := T3 x x0 hx hz
    have rq : r ≠ q := fun z => by
      rw [z, hs] at a2
      have := na_eq (by omega) (by omega) a2
      rw [this, hz] at kt; exact absurd kt (by decide)
    refine ⟨r, a1, by rw [pk_un rq]; exact a2, a3, fun q' h1 h2 => ?_⟩
    by_cases e' : q' = q
    · rw [e', pk_us] at h2
      exact (na_nz (by omega) x0 h2.symm).elim
    · rw [pk_un e'] at h2; exact a4 q' h1 h2
/-- files without slots go -/
theorem tr_drop (hK : rl_K k s) (hT : rl_T k s par) {k' : Nat → Int32} (h : ∀ t, t < 12 → k' t = k t ∨ (k t = 1 ∧ k' t = 0 ∧ ∀ q, q < 768 → s q ≠ nI t)) :
    rl_K k' s ∧ rl_T k' s par := by
  obtain ⟨K1, K2, K3⟩ := hK
  obtain ⟨T1, T2, T3, T4⟩ := hT
  have d2 : ∀ t, t < 12 → k t = 2 → k' t = 2 := fun t ht h2 => by
    rcases h t ht with e | ⟨e, _, _⟩
    · rw [e]; exact h2
    · rw [e] at h2; exact absurd h2 (by decide)
  have e2 : ∀ t, t < 12 → k' t = 2 → k t = 2 := fun t ht h2 => by
    rcases h t ht with e | ⟨_, e, _⟩
    · rw [← e]; exact h2
    · rw [e] at h2; exact absurd h2 (by decide)
  refine ⟨⟨d2 0 (by omega) K1, fun t ht => ?_, fun r hr hz => ?_⟩, ⟨T1, T2, fun x x0 hx hz => T3 x x0 hx (e2 x hx hz), fun x hx hz => T4 x hx (e2 x hx hz)⟩⟩
  · rcases h t ht with e | ⟨_, e, _⟩
    · rw [e]; exact K2 t ht
    · exact Or.inl e
  · obtain ⟨t, b1, b2, b3, b4, b5⟩ := K3 r hr hz
    refine ⟨t, b1, b2, b3, ?_, d2 _ (by omega) b5⟩
    rcases h t b2 with e | ⟨_, _, e⟩
    · rw [e]; exact b4
    · exact (e r hr b3).elim
/-- an empty directory goes -/
theorem tr_rmdir (hK : rl_K k s) (hT : rl_T k s par) {t q : Nat} (t0 : 0 < t) (t1 : t < 12) (kt : k t = 2) (hq : q < 768) (hs : s q = nI t) (he : ∀ x, x < 64 → s (t * 64 + x) = 0) :
    rl_K (upd k t 0) (upd s q 0) ∧ rl_T (upd k t 0) (upd s q 0) par := by
  obtain ⟨K1, K2, K3⟩ := hK
  obtain ⟨T1, T2, T3, T4⟩ := hT
  obtain ⟨q0, c1, c2, c3, c4⟩ := T3 t t0 t1 kt
  have qq : q = q0 := c4 q hq hs
  have e2 : ∀ x, upd k t 0 x = 2 → k x = 2 := fun x h2 => by
    by_cases e : x = t
    · rw [e, pk_us] at h2; exact absurd h2 (by decide)
    · rw [pk_un e] at h2; exact h2
  refine ⟨⟨by rw [pk_un (by omega)]; exact K1, fun x hx => ?_, fun r hr hz => ?_⟩, ⟨T1, T2, fun x x0 hx hz => ?_, fun x hx hz => T4 x hx (e2 x hz)⟩⟩
  · by_cases e : x = t
    · subst e; rw [pk_us]; exact Or.inl rfl
    · rw [pk_un e]; exact K2 x hx
  · by_cases e : r = q
    · subst e; rw [pk_us] at hz; exact (hz rfl).elim
    · rw [pk_un e] at hz ⊢
      obtain ⟨x, b1, b2, b3, b4, b5⟩ := K3 r hr hz
      have x1 : x ≠ t := fun z => e ((c4 r hr (by rw [← z]; exact b3)).trans qq.symm)
      have x2 : r / 64 ≠ t := fun z => hz (by
        have := he (r % 64) (by omega)
        rw [show t * 64 + r % 64 = r by omega] at this; exact this)
      exact ⟨x, b1, b2, b3, by rw [pk_un x1]; exact b4, by rw [pk_un x2]; exact b5⟩
  · have h2 := e2 x hz
    have x1 : x ≠ t := fun z => by rw [z, pk_us] at hz; exact absurd hz (by decide)
    obtain ⟨r, a1, a2, a3, a4⟩ := T3 x x0 hx h2
    have rq : r ≠ q := fun z => by
      rw [z, hs] at a2
      exact x1 (na_eq (by omega) (by omega) a2).symm
    refine ⟨r, a1, by rw [pk_un rq]; exact a2, a3, fun q' h1 h2 => ?_⟩
    by_cases e' : q' = q
    · rw [e', pk_us] at h2
      exact (na_nz (by omega) x0 h2.symm).elim
    · rw [pk_un e'] at h2; exact a4 q' h1 h2
/-- a directory moves to a free slot that does not lie below it -/
theorem tr_move (hK : rl_K k s) (hT : rl_T k s par) {t q r : Nat} (t0 : 0 < t) (t1 : t < 12) (kt : k t = 2) (hq : q < 768) (hs : s q = nI t) (hr : r < 768) (hz : s r = 0) (hd : k (r / 64) = 2) (nh : ∀ j, it_i par j (r / 64) ≠ t) :
    rl_K k (upd (upd s q 0) r (nI t)) ∧ rl_T k (upd (upd s q 0) r (nI t)) (fun y => if y = t then r / 64 else par y) := by
  obtain ⟨K1, K2, K3⟩ := hK
  obtain ⟨T1, T2, T3, T4⟩ := hT
  obtain ⟨q0, c1, c2, c3, c4⟩ := T3 t t0 t1 kt
  have qq : q = q0 := c4 q hq hs
  have n0 := na_nz (a := t) (by omega) t0
  have rq : r ≠ q := fun z => n0 (by rw [← hs, ← z]; exact hz)
  refine ⟨⟨K1, K2, fun x hx hz' => ?_⟩, ⟨?_, fun x => ?_, fun x x0 hx hz' => ?_, fun x hx hz' => ?_⟩⟩
  · by_cases e : x = r
    · subst e
      rw [pk_us]
      exact ⟨t, t0, t1, rfl, by rw [kt]; decide, hd⟩
    · rw [pk_un e] at hz' ⊢
      by_cases e' : x = q
      · rw [e', pk_us] at hz'; exact (hz' rfl).elim
      · rw [pk_un e'] at hz' ⊢
        exact K3 x hx hz'
  · show (if 0 = t then r / 64 else par 0) = 0
    rw [if_neg (by omega)]; exact T1
  · show (if x = t then r / 64 else par x) < 12
    split
    · omega
    · exact T2 x
  · by_cases e : x = t
    · subst e
      refine ⟨r, hr, pk_us, if_pos rfl, fun q' h1 h2 => ?_⟩
      by_cases e' : q' = r
      · exact e'
      · rw [pk_un e'] at h2
        by_cases e2 : q' = q
        · rw [e2, pk_us] at h2; exact (n0 h2.symm).elim
        · rw [pk_un e2] at h2
          exact (e2 ((c4 q' h1 h2).trans qq.symm)).elim
    · obtain ⟨p, a1, a2, a3, a4⟩ := T3 x x0 hx hz'
      have nx := na_nz (a := x) (by omega) x0
      have pr : p ≠ r := fun z => by rw [z, hz] at a2; exact nx a2.symm
      have pq : p ≠ q := fun z => by rw [z, hs] at a2; exact e (na_eq (by omega) (by omega) a2).symm
      refine ⟨p, a1, by rw [pk_un pr, pk_un pq]; exact a2, by show (if x = t then r / 64 else par x) = p / 64; rw [if_neg e]; exact a3, fun q' h1 h2 => ?_⟩
      by_cases e' : q' = r
      · rw [e', pk_us] at h2
        exact (e (na_eq (by omega) (by omega) h2).symm).elim
      · rw [pk_un e'] at h2
        by_cases e2 : q' = q
        · rw [e2, pk_us] at h2; exact (nx h2.symm).elim
        · rw [pk_un e2] at h2; exact a4 q' h1 h2
  · obtain ⟨i, hi⟩ := T4 x hx hz'
    exact (it_upd nh i x).2 hi (T4 _ (by omega) hd)
end
/-! lengths and cells, a row at a time -/
theorem ln_row {k l c kY zY cY k' l' c' kY' zY' cY' : Nat → Int32} {L : Nat → Nat} (h : rl_L k l c kY zY cY L) {t n : Nat}
    (ho : ∀ x, x < 12 → x ≠ t → k' x = k x ∧ l' x = l x ∧ kY' x = kY x ∧ zY' x = zY x ∧ ∀ i, i < 48 → c' (x * 48 + i) = c (x * 48 + i) ∧ cY' (x * 48 + i) = cY (x * 48 + i))
    (hr : l' t = nI n ∧ n ≤ 48 ∧ (k' t ≠ 1 → n = 0) ∧ (∀ i, n ≤ i → i < 48 → c' (t * 48 + i) = 0) ∧ kY' t = k' t ∧ (k' t = 1 → zY' t = nI n) ∧ (∀ i, i < n → cY' (t * 48 + i) = c' (t * 48 + i))) :
    rl_L k' l' c' kY' zY' cY' (fun x => if x = t then n else L x) := by
  intro x hx
  by_cases e : x = t
  · subst e
    dsimp only
    rw [if_pos rfl]; exact hr
  · dsimp only
    rw [if_neg e]
    obtain ⟨a1, a2, a3, a4, a5⟩ := ho x hx e
    obtain ⟨b1, b2, b3, b4, b5, b6, b7⟩ := h x hx
    rw [a1, a2, a3, a4]
    exact ⟨b1, b2, b3, fun i h1 h2 => by rw [(a5 i h2).1]; exact b4 i h1 h2, b5, b6, fun i h1 => by rw [(a5 i (by omega)).1, (a5 i (by omega)).2]; exact b7 i h1⟩
/-! handles and what is in use -/
theorem hn_k {k k' hX hY : Nat → Int32} (h : rl_H k hX hY) (hk : ∀ t, 0 < t → t < 12 → k t = 1 → (∃ i, i < 4 ∧ hX i = nI t) → k' t = 1) : rl_H k' hX hY := by
  intro i hi
  rcases h i hi with e | ⟨t, t0, t1, a1, a2, a3⟩
  · exact Or.inl e
  · exact Or.inr ⟨t, t0, t1, hk t t0 t1 a1 ⟨i, hi, a2⟩, a2, a3⟩
