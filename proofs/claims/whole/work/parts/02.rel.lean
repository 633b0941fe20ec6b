/-! the relation, in pieces -/
/-- P lists the slots in use, each once; the reference's entries are these slots -/
def rl_E (s hd nm th : Nat → Int32) (m : Nat) (P : Nat → Nat) : Prop :=
  m ≤ 20 ∧
  (∀ e, e < m → P e < 768 ∧ s (P e) ≠ 0 ∧ hd e = nI (P e / 64) ∧ nm e = nI (P e % 64) ∧ th e = s (P e)) ∧
  (∀ i j, i < m → j < m → P i = P j → i = j) ∧
  (∀ q, q < 768 → s q ≠ 0 → ∃ e, e < m ∧ P e = q)
def rl_K (k s : Nat → Int32) : Prop :=
  k 0 = 2 ∧ (∀ t, t < 12 → k t = 0 ∨ k t = 1 ∨ k t = 2) ∧
  (∀ q, q < 768 → s q ≠ 0 → ∃ t, 0 < t ∧ t < 12 ∧ s q = nI t ∧ k t ≠ 0 ∧ k (q / 64) = 2)
def rl_T (k s : Nat → Int32) (par : Nat → Nat) : Prop :=
  par 0 = 0 ∧ (∀ t, par t < 12) ∧
  (∀ t, 0 < t → t < 12 → k t = 2 → ∃ q, q < 768 ∧ s q = nI t ∧ par t = q / 64 ∧ ∀ q', q' < 768 → s q' = nI t → q' = q) ∧
  (∀ t, t < 12 → k t = 2 → ∃ j, it_i par j t = 0)
def rl_L (k l c kY zY cY : Nat → Int32) (L : Nat → Nat) : Prop :=
  ∀ t, t < 12 → l t = nI (L t) ∧ L t ≤ 48 ∧ (k t ≠ 1 → L t = 0) ∧ (∀ i, L t ≤ i → i < 48 → c (t * 48 + i) = 0) ∧
    kY t = k t ∧ (k t = 1 → zY t = nI (L t)) ∧ (∀ i, i < L t → cY (t * 48 + i) = c (t * 48 + i))
def rl_H (k hX hY : Nat → Int32) : Prop :=
  ∀ h, h < 4 → (hX h = 0 ∧ hY h = -1) ∨ ∃ t, 0 < t ∧ t < 12 ∧ k t = 1 ∧ hX h = nI t ∧ hY h = nI t
def rl_U (k s hX : Nat → Int32) : Prop :=
  ∀ t, t < 12 → k t = 1 → (∃ q, q < 768 ∧ s q = nI t) ∨ (∃ h, h < 4 ∧ hX h = nI t)
def rl_W (k s : Nat → Int32) : Prop := ∀ t, t < 12 → k t = 1 → ∃ q, q < 768 ∧ s q = nI t
/-- one state of the two: tree, lengths, cells -/
def rl_F (k s l c kY zY cY : Nat → Int32) (n : Int32) (hd nm th : Nat → Int32) : Prop :=
  (∃ m P, n = nI m ∧ rl_E s hd nm th m P) ∧ rl_K k s ∧ (∃ par, rl_T k s par) ∧ ∃ L, rl_L k l c kY zY cY L
/-- the saved state -/
def rl_V (k s l c kY zY cY en hd nm th : Nat → Int32) : Prop :=
  rl_F k s l c (fun t => kY (12 + t)) (fun t => zY (12 + t)) (fun i => cY (576 + i)) (en 1) (fun e => hd (20 + e)) (fun e => nm (20 + e)) (fun e => th (20 + e)) ∧ rl_W k s
/-- the present state -/
def rl_N (k s l c hX kY zY cY en hd nm th hY : Nat → Int32) : Prop :=
  rl_F k s l c kY zY cY (en 0) hd nm th ∧ rl_H k hX hY ∧ rl_U k s hX
/-! agreement -/
theorem ag_E {s hd nm th s' hd' nm' th' : Nat → Int32} {m : Nat} {P : Nat → Nat} (hs : ∀ q, q < 768 → s' q = s q) (he : ∀ e, e < 20 → hd' e = hd e ∧ nm' e = nm e ∧ th' e = th e) (h : rl_E s hd nm th m P) : rl_E s' hd' nm' th' m P := by
  obtain ⟨h1, h2, h3, h4⟩ := h
  refine ⟨h1, fun e hm => ?_, h3, fun q hq hz => h4 q hq (by rw [← hs q hq]; exact hz)⟩
  obtain ⟨a1, a2, a3, a4, a5⟩ := h2 e hm
  obtain ⟨b1, b2, b3⟩ := he e (by omega)
  rw [b1, b2, b3, hs _ a1]
  exact ⟨a1, a2, a3, a4, a5⟩
theorem ag_K {k s k' s' : Nat → Int32} (hk : ∀ t, t < 12 → k' t = k t) (hs : ∀ q, q < 768 → s' q = s q) (h : rl_K k s) : rl_K k' s' := by
  obtain ⟨h1, h2, h3⟩ := h
  refine ⟨by rw [hk 0 (by omega)]; exact h1, fun t ht => by rw [hk t ht]; exact h2 t ht, fun q hq hz => ?_⟩
  rw [hs q hq] at hz
  obtain ⟨t, a1, a2, a3, a4, a5⟩ := h3 q hq hz
  exact ⟨t, a1, a2, by rw [hs q hq]; exact a3, by rw [hk t a2]; exact a4, by rw [hk _ (by omega)]; exact a5⟩
theorem ag_T {k s k' s' : Nat → Int32} {par : Nat → Nat} (hk : ∀ t, t < 12 → k' t = k t) (hs : ∀ q, q < 768 → s' q = s q) (h : rl_T k s par) : rl_T k' s' par := by
  obtain ⟨h1, h2, h3, h4⟩ := h
  refine ⟨h1, h2, fun t t0 ht hz => ?_, fun t ht hz => h4 t ht (by rw [← hk t ht]; exact hz)⟩
  rw [hk t ht] at hz
  obtain ⟨q, a1, a2, a3, a4⟩ := h3 t t0 ht hz
  exact ⟨q, a1, by rw [hs q a1]; exact a2, a3, fun q' b1 b2 => a4 q' b1 (by rw [← hs q' b1]; exact b2)⟩
theorem ag_L {k l c kY zY cY k' l' c' kY' zY' cY' : Nat → Int32} {L : Nat → Nat} (hk : ∀ t, t < 12 → k' t = k t ∧ l' t = l t ∧ kY' t = kY t ∧ zY' t = zY t) (hc : ∀ i, i < 576 → c' i = c i ∧ cY' i = cY i) (h : rl_L k l c kY zY cY L) : rl_L k' l' c' kY' zY' cY' L := by
  intro t ht
  obtain ⟨a1, a2, a3, a4, a5, a6, a7⟩ := h t ht
  obtain ⟨b1, b2, b3, b4⟩ := hk t ht
  rw [b1, b2, b3, b4]
  refine ⟨a1, a2, a3, fun i h1 h2 => ?_, a5, a6, fun i h1 => ?_⟩
  · rw [(hc (t * 48 + i) (by omega)).1]; exact a4 i h1 h2
  · rw [(hc (t * 48 + i) (by omega)).1, (hc (t * 48 + i) (by omega)).2]; exact a7 i h1
theorem ag_F {k s l c kY zY cY hd nm th k' s' l' c' kY' zY' cY' hd' nm' th' : Nat → Int32} {n n' : Int32}
    (hk : ∀ t, t < 12 → k' t = k t ∧ l' t = l t ∧ kY' t = kY t ∧ zY' t = zY t) (hs : ∀ q, q < 768 → s' q = s q) (hc : ∀ i, i < 576 → c' i = c i ∧ cY' i = cY i)
    (hn : n' = n) (he : ∀ e, e < 20 → hd' e = hd e ∧ nm' e = nm e ∧ th' e = th e) (h : rl_F k s l c kY zY cY n hd nm th) : rl_F k' s' l' c' kY' zY' cY' n' hd' nm' th' := by
  obtain ⟨⟨m, P, e, h1⟩, h2, ⟨par, h3⟩, ⟨L, h4⟩⟩ := h
  exact ⟨⟨m, P, hn.trans e, ag_E hs he h1⟩, ag_K (fun t ht => (hk t ht).1) hs h2, ⟨par, ag_T (fun t ht => (hk t ht).1) hs h3⟩, ⟨L, ag_L hk hc h4⟩⟩
theorem ag_W {k s k' s' : Nat → Int32} (hk : ∀ t, t < 12 → k' t = k t) (hs : ∀ q, q < 768 → s' q = s q) (h : rl_W k s) : rl_W k' s' := by
  intro t ht hz
  rw [hk t ht] at hz
  obtain ⟨q, a1, a2⟩ := h t ht hz
  exact ⟨q, a1, by rw [hs q a1]; exact a2⟩
/-- the saved state is not touched by what the reference writes below the halves -/
theorem ag_V {k s l c kY zY cY en hd nm th kY' zY' cY' en' hd' nm' th' : Nat → Int32}
    (hk : ∀ t, 12 ≤ t → kY' t = kY t ∧ zY' t = zY t) (hc : ∀ i, 576 ≤ i → cY' i = cY i) (hn : en' 1 = en 1) (he : ∀ e, 20 ≤ e → hd' e = hd e ∧ nm' e = nm e ∧ th' e = th e)
    (h : rl_V k s l c kY zY cY en hd nm th) : rl_V k s l c kY' zY' cY' en' hd' nm' th' :=
  ⟨ag_F (fun t _ => ⟨rfl, rfl, (hk (12 + t) (by omega)).1, (hk (12 + t) (by omega)).2⟩) (fun _ _ => rfl) (fun i _ => ⟨rfl, hc (576 + i) (by omega)⟩) hn (fun e _ => he (20 + e) (by omega)) h.1, h.2⟩
/-! counts along the entries -/
section
variable {s hd nm th : Nat → Int32} {m : Nat} {P : Nat → Nat}
theorem ct_th (h : rl_E s hd nm th m P) {t : Int32} (ht : t ≠ 0) : cn_c (fun q => decide (s q = t)) 768 = cn_c (fun e => decide (th e = t)) m := by
  obtain ⟨h1, h2, h3, h4⟩ := h
  refine cn_bij (P := P) (fun e he => ⟨(h2 e he).1, ?_⟩) h3 (fun q hq hp => ?_)
  · show decide (th e = t) = decide (s (P e) = t)
    rw [(h2 e he).2.2.2.2]
  · exact h4 q hq (by rw [of_decide_eq_true hp]; exact ht)
theorem ct_all (h : rl_E s hd nm th m P) : cn_c (fun q => decide (¬ s q = 0)) 768 = m := by
  obtain ⟨h1, h2, h3, h4⟩ := h
  rw [cn_bij (P := P) (m := m) (q := fun _ => true) (fun e he => ⟨(h2 e he).1, ?_⟩) h3 (fun q hq hp => ?_), cn_true]
  · exact (decide_eq_true (h2 e he).2.1).symm
  · exact h4 q hq (of_decide_eq_true hp)
theorem ct_dir (h : rl_E s hd nm th m P) {d : Nat} (hd12 : d < 12) : cn_c (fun q => decide (¬ s (d * 64 + q) = 0)) 64 = cn_c (fun e => decide (hd e = nI d)) m := by
  obtain ⟨h1, h2, h3, h4⟩ := h
  have A : cn_c (fun q => decide (¬ s q = 0 ∧ q / 64 = d)) 768 = cn_c (fun e => decide (hd e = nI d)) m := by
    refine cn_bij (P := P) (fun e he => ⟨(h2 e he).1, ?_⟩) h3 (fun q hq hp => h4 q hq (of_decide_eq_true hp).1)
    obtain ⟨a1, a2, a3, a4, a5⟩ := h2 e he
    refine decide_eq_decide.mpr ?_
    rw [a3]
    exact ⟨fun z => ⟨a2, na_eq (by omega) (by omega) z⟩, fun z => by rw [z.2]⟩
  rw [← A]
  symm
  refine cn_bij (P := fun q => d * 64 + q) (fun q hq => ⟨by omega, ?_⟩) (fun i j _ _ e => by have e' : d * 64 + i = d * 64 + j := e; omega) (fun q hq hp => ?_)
  · refine decide_eq_decide.mpr ?_
    have : (d * 64 + q) / 64 = d := by omega
    exact ⟨fun z => ⟨z, this⟩, fun z => z.1⟩
  · have := (of_decide_eq_true hp).2
    exact ⟨q % 64, by omega, by show d * 64 + q % 64 = q; omega⟩
/-- the entry of a slot -/
theorem en_at (h : rl_E s hd nm th m P) {d q e : Nat} (hd12 : d < 12) (hq : q < 64) (he : e < m) : (hd e = nI d ∧ nm e = nI q) ↔ P e = d * 64 + q := by
  obtain ⟨h1, h2, h3, h4⟩ := h
  obtain ⟨a1, a2, a3, a4, a5⟩ := h2 e he
  rw [a3, a4]
  constructor
  · intro ⟨z1, z2⟩
    have := na_eq (by omega) (by omega) z1
    have := na_eq (by omega) (by omega) z2
    omega
  · intro z
    rw [z]
    exact ⟨congrArg nI (by omega), congrArg nI (by omega)⟩
theorem en_add (h : rl_E s hd nm th m P) (hm : m < 20) {q : Nat} (hq : q < 768) (hz : s q = 0) {v : Int32} (hv : v ≠ 0) :
    rl_E (upd s q v) (upd hd m (nI (q / 64))) (upd nm m (nI (q % 64))) (upd th m v) (m + 1) (fun e => if e = m then q else P e) := by
  obtain ⟨h1, h2, h3, h4⟩ := h
  have nq : ∀ e, e < m → P e ≠ q := fun e he z => (h2 e he).2.1 (by rw [z]; exact hz)
  refine ⟨hm, fun e he => ?_, fun i j hi hj z => ?_, fun r hr hz' => ?_⟩
  · dsimp only
    by_cases e1 : e = m
    · subst e1
      rw [if_pos rfl, pk_us, pk_us, pk_us, pk_us]
      exact ⟨hq, hv, rfl, rfl, rfl⟩
    · have he' : e < m := by omega
      rw [if_neg e1, pk_un (nq e he'), pk_un e1, pk_un e1, pk_un e1]
      exact h2 e he'
  · dsimp only at z
    by_cases i1 : i = m
    · by_cases j1 : j = m
      · rw [i1, j1]
      · rw [if_pos i1, if_neg j1] at z; exact (nq j (by omega) z.symm).elim
    · by_cases j1 : j = m
      · rw [if_neg i1, if_pos j1] at z; exact (nq i (by omega) z).elim
      · rw [if_neg i1, if_neg j1] at z; exact h3 i j (by omega) (by omega) z
  · by_cases r1 : r = q
    · exact ⟨m, by omega, by dsimp only; rw [if_pos rfl, r1]⟩
    · rw [pk_un r1] at hz'
      obtain ⟨e, he, e1⟩ := h4 r hr hz'
      exact ⟨e, by omega, by dsimp only; rw [if_neg (by omega)]; exact e1⟩
theorem en_take (h : rl_E s hd nm th (m + 1) P) {e : Nat} (he : e < m + 1) :
    rl_E (upd s (P e) 0) (upd hd e (hd m)) (upd nm e (nm m)) (upd th e (th m)) m (fun i => if i = e then P m else P i) := by
  obtain ⟨h1, h2, h3, h4⟩ := h
  have ne : ∀ i, i < m + 1 → i ≠ e → P i ≠ P e := fun i hi z z' => z (h3 i e hi he z')
  refine ⟨by omega, fun i hi => ?_, fun i j hi hj z => ?_, fun r hr hz' => ?_⟩
  · dsimp only
    by_cases e1 : i = e
    · subst e1
      rw [if_pos rfl, pk_un (ne m (by omega) (by omega)), pk_us, pk_us, pk_us]
      exact h2 m (by omega)
    · rw [if_neg e1, pk_un (ne i (by omega) e1), pk_un e1, pk_un e1, pk_un e1]
      exact h2 i (by omega)
  · dsimp only at z
    by_cases i1 : i = e
    · by_cases j1 : j = e
      · rw [i1, j1]
      · rw [if_pos i1, if_neg j1] at z
        have := h3 m j (by omega) (by omega) z
        omega
    · by_cases j1 : j = e
      · rw [if_neg i1, if_pos j1] at z
        have := h3 i m (by omega) (by omega) z
        omega
      · rw [if_neg i1, if_neg j1] at z; exact h3 i j (by omega) (by omega) z
  · have r1 : r ≠ P e := fun z => hz' (by rw [z, pk_us])
    rw [pk_un r1] at hz'
    obtain ⟨i, hi, e1⟩ := h4 r hr hz'
    by_cases i1 : i = m
    · have : e ≠ m := fun z => r1 (by rw [← e1, i1, z])
      exact ⟨e, by omega, by dsimp only; rw [if_pos rfl, ← i1, e1]⟩
    · by_cases i2 : i = e
      · exact (r1 (by rw [← e1, i2])).elim
      · exact ⟨i, by omega, by dsimp only; rw [if_neg i2]; exact e1⟩
end
