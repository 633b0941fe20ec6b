section
/-! rows pasted from kit/rows (PURE-ROWS) -/
theorem pk_us {f : Nat → Int32} {k : Nat} {x : Int32} : upd f k x k = x := if_pos rfl
theorem pk_un {f : Nat → Int32} {k j : Nat} {x : Int32} (h : j ≠ k) : upd f k x j = f j := if_neg h
theorem pk_sub {a b : Nat} (h : b ≤ a) : nI a - nI b = nI (a - b) := by
  obtain ⟨c, rfl⟩ : ∃ c, a = c + b := ⟨a - b, by omega⟩
  rw [← nI_add, Int32.add_sub_cancel, Nat.add_sub_cancel]
theorem pk_m1 (n : Nat) : nI (n + 1) + (-1) = nI n := by
  rw [← nI_1, Int32.add_assoc, show (1 : Int32) + (-1) = 0 from rfl, Int32.add_zero]
theorem pk_mul (a b : Nat) : nI a * nI b = nI (a * b) := (Int32.ofNat_mul a b).symm
theorem pk_div {a d : Nat} (ha : a < 2 ^ 31) (h0 : 0 < d) (hd : d < 2 ^ 31) : nI a / nI d = nI (a / d) := by
  apply Int32.toInt_inj.mp
  rw [lg_idiv_nonneg (by rw [nI_toInt ha]; omega) (by rw [nI_toInt hd]; omega), nI_toInt ha, nI_toInt hd, nI_toInt (Nat.lt_of_le_of_lt (Nat.div_le_self a d) ha)]
  first | rfl | exact (Int.natCast_ediv _ _).symm
theorem pk_ix (x : Int32) {n : Nat} (hn : n < 2 ^ 31) : x < 0 ∨ nI n ≤ x ∨ ∃ j : Nat, j < n ∧ x = nI j := by
  by_cases h : x < 0
  · exact Or.inl h
  · obtain ⟨j, hj, rfl⟩ := nI_of h
    by_cases h2 : j < n
    · exact Or.inr (Or.inr ⟨j, h2, rfl⟩)
    · exact Or.inr (Or.inl (nI_le (by omega) hj))
theorem pk_le {x y : Int32} {A B : Prop} (a b : Nat) (f : a ≤ b → A) (g : b < a → B) (hx : x = nI a := by rfl) (hy : y = nI b := by rfl) (ha : a < 2 ^ 31 := by omega) (hb : b < 2 ^ 31 := by omega) : (x ≤ y → A) ∧ (¬ x ≤ y → B) := by
  subst hx hy
  rw [nI_leI ha hb]
  exact ⟨f, fun z => g (by omega)⟩
theorem pk_lt {x y : Int32} {A B : Prop} (a b : Nat) (f : a < b → A) (g : b ≤ a → B) (hx : x = nI a := by rfl) (hy : y = nI b := by rfl) (ha : a < 2 ^ 31 := by omega) (hb : b < 2 ^ 31 := by omega) : (x < y → A) ∧ (¬ x < y → B) := by
  subst hx hy
  rw [nI_ltI ha hb]
  exact ⟨f, fun z => g (by omega)⟩
theorem pk_eq {x y : Int32} {A B : Prop} (a b : Nat) (f : a = b → A) (g : a ≠ b → B) (hx : x = nI a := by rfl) (hy : y = nI b := by rfl) (ha : a < 2 ^ 31 := by omega) (hb : b < 2 ^ 31 := by omega) : (x = y → A) ∧ (¬ x = y → B) := by
  subst hx hy
  rw [nI_eq ha hb]
  exact ⟨f, g⟩
theorem pk_in {x : Int32} (n N : Nat) (h : n < N) (hx : x = nI n := by rfl) (hN : N < 2 ^ 31 := by omega) : vp_in x N := by
  subst hx
  exact vp_in_nI h hN
theorem pk_cl {x : Int32} (n : Nat) (hx : x = nI n := by rfl) (h : n < 2 ^ 31 := by omega) : x.toNatClampNeg = n := by
  subst hx
  exact nI_clamp h
theorem pk_least (P : Nat → Prop) (h : ∃ k, P k) : ∃ k, P k ∧ ∀ j, j < k → ¬ P j := by
  obtain ⟨k, hk⟩ := h
  induction k using Nat.strongRecOn with
  | ind k ih =>
    by_cases e : ∃ j, j < k ∧ P j
    · obtain ⟨j, hj, pj⟩ := e
      exact ih j hj pj
    · exact ⟨k, hk, fun j hj pj => e ⟨j, hj, pj⟩⟩
/-! numbers -/
theorem na_eq {a b : Nat} (ha : a < 1000000) (hb : b < 1000000) (h : nI a = nI b) : a = b := (nI_eq (by omega) (by omega)).mp h
theorem na_ne {a b : Nat} (ha : a < 1000000) (hb : b < 1000000) (h : a ≠ b) : nI a ≠ nI b := fun e => h (na_eq ha hb e)
theorem na_z {a : Nat} (ha : a < 1000000) (h : nI a = 0) : a = 0 := na_eq ha (by omega) (h.trans nI_0.symm)
theorem na_nz {a : Nat} (ha : a < 1000000) (h : 0 < a) : nI a ≠ 0 := fun e => by have := na_z ha e; omega
/-! counting -/
def cn_c (p : Nat → Bool) : Nat → Nat
  | 0 => 0
  | n + 1 => cn_c p n + (if p n = true then 1 else 0)
theorem cn_le (p : Nat → Bool) : ∀ n, cn_c p n ≤ n
  | 0 => Nat.le_refl 0
  | n + 1 => by
    have h := cn_le p n
    show cn_c p n + (if p n = true then 1 else 0) ≤ n + 1
    split <;> omega
theorem cn_congr {p q : Nat → Bool} : ∀ {n : Nat}, (∀ i, i < n → p i = q i) → cn_c p n = cn_c q n
  | 0, _ => rfl
  | n + 1, h => by
    show cn_c p n + (if p n = true then 1 else 0) = cn_c q n + (if q n = true then 1 else 0)
    rw [cn_congr (n := n) (fun i hi => h i (by omega)), h n (by omega)]
theorem cn_zero {p : Nat → Bool} : ∀ {n : Nat}, (∀ i, i < n → p i = false) → cn_c p n = 0
  | 0, _ => rfl
  | n + 1, h => by
    show cn_c p n + (if p n = true then 1 else 0) = 0
    rw [cn_zero (n := n) (fun i hi => h i (by omega)), h n (by omega)]; rfl
theorem cn_pos {p : Nat → Bool} {i : Nat} (hp : p i = true) : ∀ {n : Nat}, i < n → 0 < cn_c p n
  | 0, h => by omega
  | n + 1, h => by
    show 0 < cn_c p n + (if p n = true then 1 else 0)
    by_cases e : i = n
    · subst e; rw [if_pos hp]; omega
    · have := cn_pos hp (n := n) (by omega); omega
theorem cn_ex {p : Nat → Bool} : ∀ {n : Nat}, 0 < cn_c p n → ∃ i, i < n ∧ p i = true
  | 0, h => by have : cn_c p 0 = 0 := rfl; omega
  | n + 1, h => by
    by_cases e : p n = true
    · exact ⟨n, by omega, e⟩
    · have h2 : 0 < cn_c p n := by
        have h3 : cn_c p (n + 1) = cn_c p n + (if p n = true then 1 else 0) := rfl
        rw [h3, if_neg e] at h; omega
      obtain ⟨i, hi, hp⟩ := cn_ex h2
      exact ⟨i, by omega, hp⟩
theorem cn_all {p : Nat → Bool} {n : Nat} (h : cn_c p n = 0) : ∀ i, i < n → p i = false := by
  intro i hi
  cases e : p i with
  | false => rfl
  | true => have := cn_pos e hi; omega
theorem cn_off {p : Nat → Bool} {i : Nat} : ∀ {n : Nat}, i < n → cn_c p n = cn_c (fun j => if j = i then false else p j) n + (if p i = true then 1 else 0)
  | 0, h => by omega
  | n + 1, h => by
    show cn_c p n + (if p n = true then 1 else 0) = cn_c (fun j => if j = i then false else p j) n + (if (if n = i then false else p n) = true then 1 else 0) + (if p i = true then 1 else 0)
    by_cases e : n = i
    · subst e
      have e1 : (if (if n = n then false else p n) = true then 1 else 0) = 0 := by rw [if_pos (rfl : n = n)]; rfl
      rw [e1, Nat.add_zero, cn_congr (n := n) (p := p) (q := fun j => if j = n then false else p j) (fun j hj => by rw [if_neg (by omega)])]
    · rw [if_neg e, cn_off (n := n) (p := p) (i := i) (by omega)]; omega
/-- counting along an enumeration -/
theorem cn_bij {P : Nat → Nat} {N : Nat} : ∀ {m : Nat} {p q : Nat → Bool}, (∀ e, e < m → P e < N ∧ q e = p (P e)) → (∀ i j, i < m → j < m → P i = P j → i = j) → (∀ s, s < N → p s = true → ∃ e, e < m ∧ P e = s) → cn_c p N = cn_c q m
  | 0, p, q, _, _, h3 => by
    refine cn_zero (fun i hi => ?_)
    cases e : p i with
    | false => rfl
    | true => obtain ⟨a, ha, _⟩ := h3 i hi e; omega
  | m + 1, p, q, h1, h2, h3 => by
    have hm := h1 m (by omega)
    rw [cn_off (p := p) (i := P m) hm.1]
    show _ = cn_c q m + (if q m = true then 1 else 0)
    rw [← hm.2]
    rw [cn_bij (m := m) (p := fun j => if j = P m then false else p j) (q := q)]
    · intro e he
      refine ⟨(h1 e (by omega)).1, ?_⟩
      have : P e ≠ P m := fun z => by have := h2 e m (by omega) (by omega) z; omega
      show q e = if P e = P m then false else p (P e)
      rw [if_neg this]; exact (h1 e (by omega)).2
    · exact fun i j hi hj => h2 i j (by omega) (by omega)
    · intro s hs hp
      have hne : s ≠ P m := fun z => by
        have hp' : (if s = P m then false else p s) = true := hp
        rw [if_pos z] at hp'; exact absurd hp' (by decide)
      have hp' : (if s = P m then false else p s) = true := hp
      rw [if_neg hne] at hp'
      obtain ⟨e, he, hs'⟩ := h3 s hs hp'
      have : e ≠ m := fun z => hne (by rw [← hs', z])
      exact ⟨e, by omega, hs'⟩
theorem cn_true : ∀ n, cn_c (fun _ => true) n = n
  | 0 => rfl
  | n + 1 => by show cn_c (fun _ => true) n + 1 = n + 1; rw [cn_true n]
theorem cn_pig {P : Nat → Nat} {N m : Nat} (h1 : ∀ e, e < m → P e < N) (h2 : ∀ i j, i < m → j < m → P i = P j → i = j) : m ≤ N := by
  have h := cn_bij (P := P) (N := N) (m := m) (p := fun s => @decide (∃ e, e < m ∧ P e = s) (Classical.propDecidable _)) (q := fun _ => true)
    (fun e he => ⟨h1 e he, (@decide_eq_true (∃ e', e' < m ∧ P e' = P e) (Classical.propDecidable _) ⟨e, he, rfl⟩).symm⟩) h2
    (fun s _ hp => @of_decide_eq_true (∃ e, e < m ∧ P e = s) (Classical.propDecidable _) hp)
  rw [cn_true] at h
  rw [← h]
  exact cn_le _ _
/-! iterates -/
def it_i (f : Nat → Nat) : Nat → Nat → Nat
  | 0, x => x
  | j + 1, x => it_i f j (f x)
theorem it_s (f : Nat → Nat) : ∀ j x, it_i f (j + 1) x = f (it_i f j x)
  | 0, _ => rfl
  | j + 1, x => by
    show it_i f (j + 1) (f x) = f (it_i f j (f x))
    exact it_s f j (f x)
theorem it_add (f : Nat → Nat) : ∀ a b x, it_i f (a + b) x = it_i f a (it_i f b x)
  | a, 0, x => rfl
  | a, b + 1, x => by
    show it_i f (a + b) (f x) = it_i f a (it_i f b (f x))
    exact it_add f a b (f x)
theorem it_0 {f : Nat → Nat} (h : f 0 = 0) : ∀ j, it_i f j 0 = 0
  | 0 => rfl
  | j + 1 => by show it_i f j (f 0) = 0; rw [h]; exact it_0 h j
theorem it_stay {f : Nat → Nat} (h : f 0 = 0) {a b x : Nat} (hab : a ≤ b) (hx : it_i f a x = 0) : it_i f b x = 0 := by
  obtain ⟨c, rfl⟩ : ∃ c, b = c + a := ⟨b - a, by omega⟩
  rw [it_add, hx]; exact it_0 h c
/-- who comes to 0 at all comes there in 11 steps, if all is below 12 -/
theorem it_11 {f : Nat → Nat} (h0 : f 0 = 0) (hf : ∀ t, f t < 12) {x : Nat} (hx : x < 12) (h : ∃ j, it_i f j x = 0) : it_i f 11 x = 0 := by
  obtain ⟨k, hk, hmin⟩ := pk_least (fun j => it_i f j x = 0) h
  have hlt : ∀ j, it_i f j x < 12 := by
    intro j
    cases j with
    | zero => exact hx
    | succ j => rw [it_s]; exact hf _
  have hp := cn_pig (P := fun j => it_i f j x) (N := 12) (m := k + 1) (fun e _ => hlt e) (by
    have key : ∀ i j, i < j → j < k + 1 → it_i f i x = it_i f j x → False := by
      intro i j hij hj e
      refine hmin (k - (j - i)) (by omega) ?_
      show it_i f (k - (j - i)) x = 0
      have e1 : k - (j - i) = (k - j) + i := by omega
      have e2 : k = (k - j) + j := by omega
      rw [e1, it_add, e, ← it_add, ← e2]; exact hk
    intro i j hi hj e
    rcases Nat.lt_trichotomy i j with h | h | h
    · exact (key i j h hj e).elim
    · exact h
    · exact (key j i h hi e.symm).elim)
  exact it_stay h0 (a := k) (by omega) hk
theorem it_upd {f : Nat → Nat} {t d : Nat} (hd : ∀ j, it_i f j d ≠ t) : ∀ j x, it_i (fun y => if y = t then d else f y) j d = it_i f j d ∧ (it_i f j x = 0 → (∃ i, it_i f i d = 0) → ∃ i, it_i (fun y => if y = t then d else f y) i x = 0) := by
  have A : ∀ j, it_i (fun y => if y = t then d else f y) j d = it_i f j d := by
    intro j
    induction j with
    | zero => rfl
    | succ j ih => rw [it_s, it_s, ih]; exact if_neg (hd j)
  intro j
  induction j with
  | zero => exact fun x => ⟨rfl, fun h _ => ⟨0, h⟩⟩
  | succ j ih =>
    intro x
    refine ⟨A _, fun h hr => ?_⟩
    by_cases e : x = t
    · obtain ⟨i, hi⟩ := hr
      refine ⟨i + 1, ?_⟩
      show it_i (fun y => if y = t then d else f y) i (if x = t then d else f x) = 0
      rw [if_pos e, A]; exact hi
    · obtain ⟨i, hi⟩ := (ih (f x)).2 h hr
      refine ⟨i + 1, ?_⟩
      show it_i (fun y => if y = t then d else f y) i (if x = t then d else f x) = 0
      rw [if_neg e]; exact hi
end
section
/-! the relation, in pieces -/
/-- P lists the slots in use, each once; the reference's entries are these slots -/
def rl_E (s hd nm th : Nat → Int32) (m : Nat) (P : Nat → Nat) : Prop :=
  m ≤ 20 ∧
  (∀ e, e < m → P e < 768 ∧ s (P e) ≠ 0 ∧ hd e = nI (P e / 64) ∧ nm e = nI (P e % 64) ∧ th e = s (P e)) ∧
  (∀ i j, i < m → j < m → P i = P j → i = j) ∧
  (∀ q, q < 768 → s q ≠ 0 → ∃ e, e < m ∧ P e = q)
def rl_K (k s : Nat → Int32) : Prop :=
  k 0 = 2 ∧ (∀ t, t < 12 → k t = 0 ∨ k t = 1 ∨ k t = 2) ∧
  (∀ q, q < 768 → s q ≠ 0 → ∃ t, 0 < t ∧ t < 12 ∧ s q = nI t ∧ k t ≠ 0 ∧ k (q / 64) = 2)
def rl_T (k s : Nat → Int32) (par : Nat → Nat) : Prop :=
  par 0 = 0 ∧ (∀ t, par t < 12) ∧
  (∀ t, 0 < t → t < 12 → k t = 2 → ∃ q, q < 768 ∧ s q = nI t ∧ par t = q / 64 ∧ ∀ q', q' < 768 → s q' = nI t → q' = q) ∧
  (∀ t, t < 12 → k t = 2 → ∃ j, it_i par j t = 0)
def rl_L (k l c kY zY cY : Nat → Int32) (L : Nat → Nat) : Prop :=
  ∀ t, t < 12 → l t = nI (L t) ∧ L t ≤ 48 ∧ (k t ≠ 1 → L t = 0) ∧ (∀ i, L t ≤ i → i < 48 → c (t * 48 + i) = 0) ∧
    kY t = k t ∧ (k t = 1 → zY t = nI (L t)) ∧ (∀ i, i < L t → cY (t * 48 + i) = c (t * 48 + i))
def rl_H (k hX hY : Nat → Int32) : Prop :=
  ∀ h, h < 4 → (hX h = 0 ∧ hY h = -1) ∨ ∃ t, 0 < t ∧ t < 12 ∧ k t = 1 ∧ hX h = nI t ∧ hY h = nI t
def rl_U (k s hX : Nat → Int32) : Prop :=
  ∀ t, t < 12 → k t = 1 → (∃ q, q < 768 ∧ s q = nI t) ∨ (∃ h, h < 4 ∧ hX h = nI t)
def rl_W (k s : Nat → Int32) : Prop := ∀ t, t < 12 → k t = 1 → ∃ q, q < 768 ∧ s q = nI t
/-- one state of the two: tree, lengths, cells -/
def rl_F (k s l c kY zY cY : Nat → Int32) (n : Int32) (hd nm th : Nat → Int32) : Prop :=
  (∃ m P, n = nI m ∧ rl_E s hd nm th m P) ∧ rl_K k s ∧ (∃ par, rl_T k s par) ∧ ∃ L, rl_L k l c kY zY cY L
/-- the saved state -/
def rl_V (k s l c kY zY cY en hd nm th : Nat → Int32) : Prop :=
  rl_F k s l c (fun t => kY (12 + t)) (fun t => zY (12 + t)) (fun i => cY (576 + i)) (en 1) (fun e => hd (20 + e)) (fun e => nm (20 + e)) (fun e => th (20 + e)) ∧ rl_W k s
/-- the present state -/
def rl_N (k s l c hX kY zY cY en hd nm th hY : Nat → Int32) : Prop :=
  rl_F k s l c kY zY cY (en 0) hd nm th ∧ rl_H k hX hY ∧ rl_U k s hX
/-! agreement -/
theorem ag_E {s hd nm th s' hd' nm' th' : Nat → Int32} {m : Nat} {P : Nat → Nat} (hs : ∀ q, q < 768 → s' q = s q) (he : ∀ e, e < 20 → hd' e = hd e ∧ nm' e = nm e ∧ th' e = th e) (h : rl_E s hd nm th m P) : rl_E s' hd' nm' th' m P := by
  obtain ⟨h1, h2, h3, h4⟩ := h
  refine ⟨h1, fun e hm => ?_, h3, fun q hq hz => h4 q hq (by rw [← hs q hq]; exact hz)⟩
  obtain ⟨a1, a2, a3, a4, a5⟩ := h2 e hm
  obtain ⟨b1, b2, b3⟩ := he e (by omega)
  rw [b1, b2, b3, hs _ a1]
  exact ⟨a1, a2, a3, a4, a5⟩
theorem ag_K {k s k' s' : Nat → Int32} (hk : ∀ t, t < 12 → k' t = k t) (hs : ∀ q, q < 768 → s' q = s q) (h : rl_K k s) : rl_K k' s' := by
  obtain ⟨h1, h2, h3⟩ := h
  refine ⟨by rw [hk 0 (by omega)]; exact h1, fun t ht => by rw [hk t ht]; exact h2 t ht, fun q hq hz => ?_⟩
  rw [hs q hq] at hz
  obtain ⟨t, a1, a2, a3, a4, a5⟩ := h3 q hq hz
  exact ⟨t, a1, a2, by rw [hs q hq]; exact a3, by rw [hk t a2]; exact a4, by rw [hk _ (by omega)]; exact a5⟩
theorem ag_T {k s k' s' : Nat → Int32} {par : Nat → Nat} (hk : ∀ t, t < 12 → k' t = k t) (hs : ∀ q, q < 768 → s' q = s q) (h : rl_T k s par) : rl_T k' s' par := by
  obtain ⟨h1, h2, h3, h4⟩ := h
  refine ⟨h1, h2, fun t t0 ht hz => ?_, fun t ht hz => h4 t ht (by rw [← hk t ht]; exact hz)⟩
  rw [hk t ht] at hz
  obtain ⟨q, a1, a2, a3, a4⟩ := h3 t t0 ht hz
  exact ⟨q, a1, by rw [hs q a1]; exact a2, a3, fun q' b1 b2 => a4 q' b1 (by rw [← hs q' b1]; exact b2)⟩
theorem ag_L {k l c kY zY cY k' l' c' kY' zY' cY' : Nat → Int32} {L : Nat → Nat} (hk : ∀ t, t < 12 → k' t = k t ∧ l' t = l t ∧ kY' t = kY t ∧ zY' t = zY t) (hc : ∀ i, i < 576 → c' i = c i ∧ cY' i = cY i) (h : rl_L k l c kY zY cY L) : rl_L k' l' c' kY' zY' cY' L := by
  intro t ht
  obtain ⟨a1, a2, a3, a4, a5, a6, a7⟩ := h t ht
  obtain ⟨b1, b2, b3, b4⟩ := hk t ht
  rw [b1, b2, b3, b4]
  refine ⟨a1, a2, a3, fun i h1 h2 => ?_, a5, a6, fun i h1 => ?_⟩
  · rw [(hc (t * 48 + i) (by omega)).1]; exact a4 i h1 h2
  · rw [(hc (t * 48 + i) (by omega)).1, (hc (t * 48 + i) (by omega)).2]; exact a7 i h1
theorem ag_F {k s l c kY zY cY hd nm th k' s' l' c' kY' zY' cY' hd' nm' th' : Nat → Int32} {n n' : Int32}
    (hk : ∀ t, t < 12 → k' t = k t ∧ l' t = l t ∧ kY' t = kY t ∧ zY' t = zY t) (hs : ∀ q, q < 768 → s' q = s q) (hc : ∀ i, i < 576 → c' i = c i ∧ cY' i = cY i)
    (hn : n' = n) (he : ∀ e, e < 20 → hd' e = hd e ∧ nm' e = nm e ∧ th' e = th e) (h : rl_F k s l c kY zY cY n hd nm th) : rl_F k' s' l' c' kY' zY' cY' n' hd' nm' th' := by
  obtain ⟨⟨m, P, e, h1⟩, h2, ⟨par, h3⟩, ⟨L, h4⟩⟩ := h
  exact ⟨⟨m, P, hn.trans e, ag_E hs he h1⟩, ag_K (fun t ht => (hk t ht).1) hs h2, ⟨par, ag_T (fun t ht => (hk t ht).1) hs h3⟩, ⟨L, ag_L hk hc h4⟩⟩
theorem ag_W {k s k' s' : Nat → Int32} (hk : ∀ t, t < 12 → k' t = k t) (hs : ∀ q, q < 768 → s' q = s q) (h : rl_W k s) : rl_W k' s' := by
  intro t ht hz
  rw [hk t ht] at hz
  obtain ⟨q, a1, a2⟩ := h t ht hz
  exact ⟨q, a1, by rw [hs q a1]; exact a2⟩
/-- the saved state is not touched by what the reference writes below the halves -/
theorem ag_V {k s l c kY zY cY en hd nm th kY' zY' cY' en' hd' nm' th' : Nat → Int32}
    (hk : ∀ t, 12 ≤ t → kY' t = kY t ∧ zY' t = zY t) (hc : ∀ i, 576 ≤ i → cY' i = cY i) (hn : en' 1 = en 1) (he : ∀ e, 20 ≤ e → hd' e = hd e ∧ nm' e = nm e ∧ th' e = th e)
    (h : rl_V k s l c kY zY cY en hd nm th) : rl_V k s l c kY' zY' cY' en' hd' nm' th' :=
  ⟨ag_F (fun t _ => ⟨rfl, rfl, (hk (12 + t) (by omega)).1, (hk (12 + t) (by omega)).2⟩) (fun _ _ => rfl) (fun i _ => ⟨rfl, hc (576 + i) (by omega)⟩) hn (fun e _ => he (20 + e) (by omega)) h.1, h.2⟩
/-! counts along the entries -/
section
variable {s hd nm th : Nat → Int32} {m : Nat} {P : Nat → Nat}
theorem ct_th (h : rl_E s hd nm th m P) {t : Int32} (ht : t ≠ 0) : cn_c (fun q => decide (s q = t)) 768 = cn_c (fun e => decide (th e = t)) m := by
  obtain ⟨h1, h2, h3, h4⟩ := h
  refine cn_bij (P := P) (fun e he => ⟨(h2 e he).1, ?_⟩) h3 (fun q hq hp => ?_)
  · show decide (th e = t) = decide (s (P e) = t)
    rw [(h2 e he).2.2.2.2]
  · exact h4 q hq (by rw [of_decide_eq_true hp]; exact ht)
theorem ct_all (h : rl_E s hd nm th m P) : cn_c (fun q => decide (¬ s q = 0)) 768 = m := by
  obtain ⟨h1, h2, h3, h4⟩ := h
  rw [cn_bij (P := P) (m := m) (q := fun _ => true) (fun e he => ⟨(h2 e he).1, ?_⟩) h3 (fun q hq hp => ?_), cn_true]
  · exact (decide_eq_true (h2 e he).2.1).symm
  · exact h4 q hq (of_decide_eq_true hp)
theorem ct_dir (h : rl_E s hd nm th m P) {d : Nat} (hd12 : d < 12) : cn_c (fun q => decide (¬ s (d * 64 + q) = 0)) 64 = cn_c (fun e => decide (hd e = nI d)) m := by
  obtain ⟨h1, h2, h3, h4⟩ := h
  have A : cn_c (fun q => decide (¬ s q = 0 ∧ q / 64 = d)) 768 = cn_c (fun e => decide (hd e = nI d)) m := by
    refine cn_bij (P := P) (fun e he => ⟨(h2 e he).1, ?_⟩) h3 (fun q hq hp => h4 q hq (of_decide_eq_true hp).1)
    obtain ⟨a1, a2, a3, a4, a5⟩ := h2 e he
    refine decide_eq_decide.mpr ?_
    rw [a3]
    exact ⟨fun z => ⟨a2, na_eq (by omega) (by omega) z⟩, fun z => by rw [z.2]⟩
  rw [← A]
  symm
  refine cn_bij (P := fun q => d * 64 + q) (fun q hq => ⟨by omega, ?_⟩) (fun i j _ _ e => by have e' : d * 64 + i = d * 64 + j := e; omega) (fun q hq hp => ?_)
  · refine decide_eq_decide.mpr ?_
    have : (d * 64 + q) / 64 = d := by omega
    exact ⟨fun z => ⟨z, this⟩, fun z => z.1⟩
  · have := (of_decide_eq_true hp).2
    exact ⟨q % 64, by omega, by show d * 64 + q % 64 = q; omega⟩
/-- the entry of a slot -/
theorem en_at (h : rl_E s hd nm th m P) {d q e : Nat} (hd12 : d < 12) (hq : q < 64) (he : e < m) : (hd e = nI d ∧ nm e = nI q) ↔ P e = d * 64 + q := by
  obtain ⟨h1, h2, h3, h4⟩ := h
  obtain ⟨a1, a2, a3, a4, a5⟩ := h2 e he
  rw [a3, a4]
  constructor
  · intro ⟨z1, z2⟩
    have := na_eq (by omega) (by omega) z1
    have := na_eq (by omega) (by omega) z2
    omega
  · intro z
    rw [z]
    exact ⟨congrArg nI (by omega), congrArg nI (by omega)⟩
theorem en_add (h : rl_E s hd nm th m P) (hm : m < 20) {q : Nat} (hq : q < 768) (hz : s q = 0) {v : Int32} (hv : v ≠ 0) :
    rl_E (upd s q v) (upd hd m (nI (q / 64))) (upd nm m (nI (q % 64))) (upd th m v) (m + 1) (fun e => if e = m then q else P e) := by
  obtain ⟨h1, h2, h3, h4⟩ := h
  have nq : ∀ e, e < m → P e ≠ q := fun e he z => (h2 e he).2.1 (by rw [z]; exact hz)
  refine ⟨hm, fun e he => ?_, fun i j hi hj z => ?_, fun r hr hz' => ?_⟩
  · dsimp only
    by_cases e1 : e = m
    · subst e1
      rw [if_pos rfl, pk_us, pk_us, pk_us, pk_us]
      exact ⟨hq, hv, rfl, rfl, rfl⟩
    · have he' : e < m := by omega
      rw [if_neg e1, pk_un (nq e he'), pk_un e1, pk_un e1, pk_un e1]
      exact h2 e he'
  · dsimp only at z
    by_cases i1 : i = m
    · by_cases j1 : j = m
      · rw [i1, j1]
      · rw [if_pos i1, if_neg j1] at z; exact (nq j (by omega) z.symm).elim
    · by_cases j1 : j = m
      · rw [if_neg i1, if_pos j1] at z; exact (nq i (by omega) z).elim
      · rw [if_neg i1, if_neg j1] at z; exact h3 i j (by omega) (by omega) z
  · by_cases r1 : r = q
    · exact ⟨m, by omega, by dsimp only; rw [if_pos rfl, r1]⟩
    · rw [pk_un r1] at hz'
      obtain ⟨e, he, e1⟩ := h4 r hr hz'
      exact ⟨e, by omega, by dsimp only; rw [if_neg (by omega)]; exact e1⟩
theorem en_take (h : rl_E s hd nm th (m + 1) P) {e : Nat} (he : e < m + 1) :
    rl_E (upd s (P e) 0) (upd hd e (hd m)) (upd nm e (nm m)) (upd th e (th m)) m (fun i => if i = e then P m else P i) := by
  obtain ⟨h1, h2, h3, h4⟩ := h
  have ne : ∀ i, i < m + 1 → i ≠ e → P i ≠ P e := fun i hi z z' => z (h3 i e hi he z')
  refine ⟨by omega, fun i hi => ?_, fun i j hi hj z => ?_, fun r hr hz' => ?_⟩
  · dsimp only
    by_cases e1 : i = e
    · subst e1
      rw [if_pos rfl, pk_un (ne m (by omega) (by omega)), pk_us, pk_us, pk_us]
      exact h2 m (by omega)
    · rw [if_neg e1, pk_un (ne i (by omega) e1), pk_un e1, pk_un e1, pk_un e1]
      exact h2 i (by omega)
  · dsimp only at z
    by_cases i1 : i = e
    · by_cases j1 : j = e
      · rw [i1, j1]
      · rw [if_pos i1, if_neg j1] at z
        have := h3 m j (by omega) (by omega) z
        omega
    · by_cases j1 : j = e
      · rw [if_neg i1, if_pos j1] at z
        have := h3 i m (by omega) (by omega) z
        omega
      · rw [if_neg i1, if_neg j1] at z; exact h3 i j (by omega) (by omega) z
  · have r1 : r ≠ P e := fun z => hz' (by rw [z, pk_us])
    rw [pk_un r1] at hz'
    obtain ⟨i, hi, e1⟩ := h4 r hr hz'
    by_cases i1 : i = m
    · have : e ≠ m := fun z => r1 (by rw [← e1, i1, z])
      exact ⟨e, by omega, by dsimp only; rw [if_pos rfl, ← i1, e1]⟩
    · by_cases i2 : i = e
      · exact (r1 (by rw [← e1, i2])).elim
      · exact ⟨i, by omega, by dsimp only; rw [if_neg i2]; exact e1⟩
end
end
section
/-! the tree under the writes -/
section
variable {k s : Nat → Int32} {par : Nat → Nat}
theorem tr_dir (hK : rl_K k s) (hT : rl_T k s par) {d : Nat} (hd : d < 12) (h2 : k d = 2) : ∀ j, it_i par j d < 12 ∧ k (it_i par j d) = 2 := by
  intro j
  induction j with
  | zero => exact ⟨hd, h2⟩
  | succ j ih =>
    rw [it_s]
    refine ⟨hT.2.1 _, ?_⟩
    by_cases z : it_i par j d = 0
    · rw [z, hT.1]; exact hK.1
    · obtain ⟨q, a1, a2, a3, a4⟩ := hT.2.2.1 _ (by omega) ih.1 ih.2
      have nz : s q ≠ 0 := by rw [a2]; exact na_nz (by omega) (by omega)
      obtain ⟨t, b1, b2, b3, b4, b5⟩ := hK.2.2 q a1 nz
      rw [a3]; exact b5
/-- a new thing at a free slot -/
theorem tr_make (hK : rl_K k s) (hT : rl_T k s par) {t q : Nat} {v : Int32} (t0 : 0 < t) (t1 : t < 12) (kt : k t = 0) (hv : v = 1 ∨ v = 2) (hq : q < 768) (hs : s q = 0) (hd : k (q / 64) = 2) :
    rl_K (upd k t v) (upd s q (nI t)) ∧ rl_T (upd k t v) (upd s q (nI t)) (fun y => if y = t then q / 64 else par y) := by
  obtain ⟨K1, K2, K3⟩ := hK
  have hT' := hT
  obtain ⟨T1, T2, T3, T4⟩ := hT
  have v0 : v ≠ 0 := by rcases hv with rfl | rfl <;> decide
  have dt : ∀ d, k d = 2 → d ≠ t := fun d h z => by rw [z, kt] at h; exact absurd h (by decide)
  have nt : ∀ r, r < 768 → s r ≠ nI t := fun r hr z => by
    obtain ⟨t', b1, b2, b3, b4, b5⟩ := K3 r hr (by rw [z]; exact na_nz (by omega) t0)
    rw [z] at b3
    have := na_eq (by omega) (by omega) b3
    rw [← this] at b4; exact b4 kt
  refine ⟨⟨?_, fun x hx => ?_, fun r hr hz => ?_⟩, ⟨?_, fun x => ?_, fun x x0 hx hz => ?_, fun x hx hz => ?_⟩⟩
  · rw [pk_un (by omega)]; exact K1
  · by_cases e : x = t
    · subst e; rw [pk_us]; exact Or.inr hv
    · rw [pk_un e]; exact K2 x hx
  · by_cases e : r = q
    · subst e
      rw [pk_us]
      exact ⟨t, t0, t1, rfl, by rw [pk_us]; exact v0, by rw [pk_un (dt _ hd)]; exact hd⟩
    · rw [pk_un e] at hz ⊢
      obtain ⟨t', b1, b2, b3, b4, b5⟩ := K3 r hr hz
      have : t' ≠ t := fun z => b4 (by rw [z]; exact kt)
      exact ⟨t', b1, b2, b3, by rw [pk_un this]; exact b4, by rw [pk_un (dt _ b5)]; exact b5⟩
  · show (if 0 = t then q / 64 else par 0) = 0
    rw [if_neg (by omega)]; exact T1
  · show (if x = t then q / 64 else par x) < 12
    split
    · omega
    · exact T2 x
  · by_cases e : x = t
    · subst e
      refine ⟨q, hq, pk_us, if_pos rfl, fun q' h1 h2 => ?_⟩
      by_cases e' : q' = q
      · exact e'
      · rw [pk_un e'] at h2; exact (nt q' h1 h2).elim
    · rw [pk_un e] at hz
      obtain ⟨r, a1, a2, a3, a4⟩ := T3 x x0 hx hz
      have rq : r ≠ q := fun z => by rw [z, hs] at a2; exact na_nz (by omega) x0 a2.symm
      refine ⟨r, a1, by rw [pk_un rq]; exact a2, by show (if x = t then q / 64 else par x) = r / 64; rw [if_neg e]; exact a3, fun q' h1 h2 => ?_⟩
      by_cases e' : q' = q
      · rw [e', pk_us] at h2
        exact (e (na_eq (by omega) (by omega) h2).symm).elim
      · rw [pk_un e'] at h2; exact a4 q' h1 h2
  · have nh : ∀ j, it_i par j (q / 64) ≠ t := fun j => dt _ (tr_dir ⟨K1, K2, K3⟩ hT' (by omega) hd j).2
    have hr := T4 (q / 64) (by omega) hd
    by_cases e : x = t
    · obtain ⟨i, hi⟩ := hr
      refine ⟨i + 1, ?_⟩
      show it_i (fun y => if y = t then q / 64 else par y) i (if x = t then q / 64 else par x) = 0
      rw [if_pos e, ((it_upd nh i 0).1)]; exact hi
    · rw [pk_un e] at hz
      obtain ⟨i, hi⟩ := T4 x hx hz
      exact (it_upd nh i x).2 hi hr
/-- one more slot for a file -/
theorem tr_link (hK : rl_K k s) (hT : rl_T k s par) {t q : Nat} (t0 : 0 < t) (t1 : t < 12) (kt : k t = 1) (hq : q < 768) (hs : s q = 0) (hd : k (q / 64) = 2) :
    rl_K k (upd s q (nI t)) ∧ rl_T k (upd s q (nI t)) par := by
  obtain ⟨K1, K2, K3⟩ := hK
  obtain ⟨T1, T2, T3, T4⟩ := hT
  refine ⟨⟨K1, K2, fun r hr hz => ?_⟩, ⟨T1, T2, fun x x0 hx hz => ?_, T4⟩⟩
  · by_cases e : r = q
    · subst e
      rw [pk_us]
      exact ⟨t, t0, t1, rfl, by rw [kt]; decide, hd⟩
    · rw [pk_un e] at hz ⊢
      exact K3 r hr hz
  · obtain ⟨r, a1, a2, a3, a4⟩ := T3 x x0 hx hz
    have rq : r ≠ q := fun z => by rw [z, hs] at a2; exact na_nz (by omega) x0 a2.symm
    refine ⟨r, a1, by rw [pk_un rq]; exact a2, a3, fun q' h1 h2 => ?_⟩
    by_cases e' : q' = q
    · rw [e', pk_us] at h2
      have := na_eq (by omega) (by omega) h2
      rw [← this, kt] at hz; exact absurd hz (by decide)
    · rw [pk_un e'] at h2; exact a4 q' h1 h2
/-- a file's slot is emptied -/
theorem tr_clear (hK : rl_K k s) (hT : rl_T k s par) {t q : Nat} (t1 : t < 12) (kt : k t = 1) (hs : s q = nI t) :
    rl_K k (upd s q 0) ∧ rl_T k (upd s q 0) par := by
  obtain ⟨K1, K2, K3⟩ := hK
  obtain ⟨T1, T2, T3, T4⟩ := hT
  refine ⟨⟨K1, K2, fun r hr hz => ?_⟩, ⟨T1, T2, fun x x0 hx hz => ?_, T4⟩⟩
  · by_cases e : r = q
    · subst e; rw [pk_us] at hz; exact (hz rfl).elim
    · rw [pk_un e] at hz ⊢
      exact K3 r hr hz
  · obtain ⟨r, a1, a2, a3, a4⟩ := T3 x x0 hx hz
    have rq : r ≠ q := fun z => by
      rw [z, hs] at a2
      have := na_eq (by omega) (by omega) a2
      rw [this, hz] at kt; exact absurd kt (by decide)
    refine ⟨r, a1, by rw [pk_un rq]; exact a2, a3, fun q' h1 h2 => ?_⟩
    by_cases e' : q' = q
    · rw [e', pk_us] at h2
      exact (na_nz (by omega) x0 h2.symm).elim
    · rw [pk_un e'] at h2; exact a4 q' h1 h2
/-- files without slots go -/
theorem tr_drop (hK : rl_K k s) (hT : rl_T k s par) {k' : Nat → Int32} (h : ∀ t, t < 12 → k' t = k t ∨ (k t = 1 ∧ k' t = 0 ∧ ∀ q, q < 768 → s q ≠ nI t)) :
    rl_K k' s ∧ rl_T k' s par := by
  obtain ⟨K1, K2, K3⟩ := hK
  obtain ⟨T1, T2, T3, T4⟩ := hT
  have d2 : ∀ t, t < 12 → k t = 2 → k' t = 2 := fun t ht h2 => by
    rcases h t ht with e | ⟨e, _, _⟩
    · rw [e]; exact h2
    · rw [e] at h2; exact absurd h2 (by decide)
  have e2 : ∀ t, t < 12 → k' t = 2 → k t = 2 := fun t ht h2 => by
    rcases h t ht with e | ⟨_, e, _⟩
    · rw [← e]; exact h2
    · rw [e] at h2; exact absurd h2 (by decide)
  refine ⟨⟨d2 0 (by omega) K1, fun t ht => ?_, fun r hr hz => ?_⟩, ⟨T1, T2, fun x x0 hx hz => T3 x x0 hx (e2 x hx hz), fun x hx hz => T4 x hx (e2 x hx hz)⟩⟩
  · rcases h t ht with e | ⟨_, e, _⟩
    · rw [e]; exact K2 t ht
    · exact Or.inl e
  · obtain ⟨t, b1, b2, b3, b4, b5⟩ := K3 r hr hz
    refine ⟨t, b1, b2, b3, ?_, d2 _ (by omega) b5⟩
    rcases h t b2 with e | ⟨_, _, e⟩
    · rw [e]; exact b4
    · exact (e r hr b3).elim
/-- an empty directory goes -/
theorem tr_rmdir (hK : rl_K k s) (hT : rl_T k s par) {t q : Nat} (t0 : 0 < t) (t1 : t < 12) (kt : k t = 2) (hq : q < 768) (hs : s q = nI t) (he : ∀ x, x < 64 → s (t * 64 + x) = 0) :
    rl_K (upd k t 0) (upd s q 0) ∧ rl_T (upd k t 0) (upd s q 0) par := by
  obtain ⟨K1, K2, K3⟩ := hK
  obtain ⟨T1, T2, T3, T4⟩ := hT
  obtain ⟨q0, c1, c2, c3, c4⟩ := T3 t t0 t1 kt
  have qq : q = q0 := c4 q hq hs
  have e2 : ∀ x, upd k t 0 x = 2 → k x = 2 := fun x h2 => by
    by_cases e : x = t
    · rw [e, pk_us] at h2; exact absurd h2 (by decide)
    · rw [pk_un e] at h2; exact h2
  refine ⟨⟨by rw [pk_un (by omega)]; exact K1, fun x hx => ?_, fun r hr hz => ?_⟩, ⟨T1, T2, fun x x0 hx hz => ?_, fun x hx hz => T4 x hx (e2 x hz)⟩⟩
  · by_cases e : x = t
    · subst e; rw [pk_us]; exact Or.inl rfl
    · rw [pk_un e]; exact K2 x hx
  · by_cases e : r = q
    · subst e; rw [pk_us] at hz; exact (hz rfl).elim
    · rw [pk_un e] at hz ⊢
      obtain ⟨x, b1, b2, b3, b4, b5⟩ := K3 r hr hz
      have x1 : x ≠ t := fun z => e ((c4 r hr (by rw [← z]; exact b3)).trans qq.symm)
      have x2 : r / 64 ≠ t := fun z => hz (by
        have := he (r % 64) (by omega)
        rw [show t * 64 + r % 64 = r by omega] at this; exact this)
      exact ⟨x, b1, b2, b3, by rw [pk_un x1]; exact b4, by rw [pk_un x2]; exact b5⟩
  · have h2 := e2 x hz
    have x1 : x ≠ t := fun z => by rw [z, pk_us] at hz; exact absurd hz (by decide)
    obtain ⟨r, a1, a2, a3, a4⟩ := T3 x x0 hx h2
    have rq : r ≠ q := fun z => by
      rw [z, hs] at a2
      exact x1 (na_eq (by omega) (by omega) a2).symm
    refine ⟨r, a1, by rw [pk_un rq]; exact a2, a3, fun q' h1 h2 => ?_⟩
    by_cases e' : q' = q
    · rw [e', pk_us] at h2
      exact (na_nz (by omega) x0 h2.symm).elim
    · rw [pk_un e'] at h2; exact a4 q' h1 h2
/-- a directory moves to a free slot that does not lie below it -/
theorem tr_move (hK : rl_K k s) (hT : rl_T k s par) {t q r : Nat} (t0 : 0 < t) (t1 : t < 12) (kt : k t = 2) (hq : q < 768) (hs : s q = nI t) (hr : r < 768) (hz : s r = 0) (hd : k (r / 64) = 2) (nh : ∀ j, it_i par j (r / 64) ≠ t) :
    rl_K k (upd (upd s q 0) r (nI t)) ∧ rl_T k (upd (upd s q 0) r (nI t)) (fun y => if y = t then r / 64 else par y) := by
  obtain ⟨K1, K2, K3⟩ := hK
  obtain ⟨T1, T2, T3, T4⟩ := hT
  obtain ⟨q0, c1, c2, c3, c4⟩ := T3 t t0 t1 kt
  have qq : q = q0 := c4 q hq hs
  have n0 := na_nz (a := t) (by omega) t0
  have rq : r ≠ q := fun z => n0 (by rw [← hs, ← z]; exact hz)
  refine ⟨⟨K1, K2, fun x hx hz' => ?_⟩, ⟨?_, fun x => ?_, fun x x0 hx hz' => ?_, fun x hx hz' => ?_⟩⟩
  · by_cases e : x = r
    · subst e
      rw [pk_us]
      exact ⟨t, t0, t1, rfl, by rw [kt]; decide, hd⟩
    · rw [pk_un e] at hz' ⊢
      by_cases e' : x = q
      · rw [e', pk_us] at hz'; exact (hz' rfl).elim
      · rw [pk_un e'] at hz' ⊢
        exact K3 x hx hz'
  · show (if 0 = t then r / 64 else par 0) = 0
    rw [if_neg (by omega)]; exact T1
  · show (if x = t then r / 64 else par x) < 12
    split
    · omega
    · exact T2 x
  · by_cases e : x = t
    · subst e
      refine ⟨r, hr, pk_us, if_pos rfl, fun q' h1 h2 => ?_⟩
      by_cases e' : q' = r
      · exact e'
      · rw [pk_un e'] at h2
        by_cases e2 : q' = q
        · rw [e2, pk_us] at h2; exact (n0 h2.symm).elim
        · rw [pk_un e2] at h2
          exact (e2 ((c4 q' h1 h2).trans qq.symm)).elim
    · obtain ⟨p, a1, a2, a3, a4⟩ := T3 x x0 hx hz'
      have nx := na_nz (a := x) (by omega) x0
      have pr : p ≠ r := fun z => by rw [z, hz] at a2; exact nx a2.symm
      have pq : p ≠ q := fun z => by rw [z, hs] at a2; exact e (na_eq (by omega) (by omega) a2).symm
      refine ⟨p, a1, by rw [pk_un pr, pk_un pq]; exact a2, by show (if x = t then r / 64 else par x) = p / 64; rw [if_neg e]; exact a3, fun q' h1 h2 => ?_⟩
      by_cases e' : q' = r
      · rw [e', pk_us] at h2
        exact (e (na_eq (by omega) (by omega) h2).symm).elim
      · rw [pk_un e'] at h2
        by_cases e2 : q' = q
        · rw [e2, pk_us] at h2; exact (nx h2.symm).elim
        · rw [pk_un e2] at h2; exact a4 q' h1 h2
  · obtain ⟨i, hi⟩ := T4 x hx hz'
    exact (it_upd nh i x).2 hi (T4 _ (by omega) hd)
end
/-! lengths and cells, a row at a time -/
theorem ln_row {k l c kY zY cY k' l' c' kY' zY' cY' : Nat → Int32} {L : Nat → Nat} (h : rl_L k l c kY zY cY L) {t n : Nat}
    (ho : ∀ x, x < 12 → x ≠ t → k' x = k x ∧ l' x = l x ∧ kY' x = kY x ∧ zY' x = zY x ∧ ∀ i, i < 48 → c' (x * 48 + i) = c (x * 48 + i) ∧ cY' (x * 48 + i) = cY (x * 48 + i))
    (hr : l' t = nI n ∧ n ≤ 48 ∧ (k' t ≠ 1 → n = 0) ∧ (∀ i, n ≤ i → i < 48 → c' (t * 48 + i) = 0) ∧ kY' t = k' t ∧ (k' t = 1 → zY' t = nI n) ∧ (∀ i, i < n → cY' (t * 48 + i) = c' (t * 48 + i))) :
    rl_L k' l' c' kY' zY' cY' (fun x => if x = t then n else L x) := by
  intro x hx
  by_cases e : x = t
  · subst e
    dsimp only
    rw [if_pos rfl]; exact hr
  · dsimp only
    rw [if_neg e]
    obtain ⟨a1, a2, a3, a4, a5⟩ := ho x hx e
    obtain ⟨b1, b2, b3, b4, b5, b6, b7⟩ := h x hx
    rw [a1, a2, a3, a4]
    exact ⟨b1, b2, b3, fun i h1 h2 => by rw [(a5 i h2).1]; exact b4 i h1 h2, b5, b6, fun i h1 => by rw [(a5 i (by omega)).1, (a5 i (by omega)).2]; exact b7 i h1⟩
/-! handles and what is in use -/
theorem hn_k {k k' hX hY : Nat → Int32} (h : rl_H k hX hY) (hk : ∀ t, 0 < t → t < 12 → k t = 1 → (∃ i, i < 4 ∧ hX i = nI t) → k' t = 1) : rl_H k' hX hY := by
  intro i hi
  rcases h i hi with e | ⟨t, t0, t1, a1, a2, a3⟩
  · exact Or.inl e
  · exact Or.inr ⟨t, t0, t1, hk t t0 t1 a1 ⟨i, hi, a2⟩, a2, a3⟩
end
section
/-! what the writes do to the whole present state -/
def rl_G (k s l c hX kY zY cY en hd nm th hY : Nat → Int32) (m : Nat) (P par L : Nat → Nat) : Prop :=
  en 0 = nI m ∧ rl_E s hd nm th m P ∧ rl_K k s ∧ rl_T k s par ∧ rl_L k l c kY zY cY L ∧ rl_H k hX hY
def zf_c (c : Nat → Int32) (a b : Nat) : Nat → Int32 := fun i => if a ≤ i ∧ i < b then 0 else c i
theorem zf_in {c : Nat → Int32} {a b i : Nat} (h1 : a ≤ i) (h2 : i < b) : zf_c c a b i = 0 := if_pos ⟨h1, h2⟩
theorem zf_out {c : Nat → Int32} {a b i : Nat} (h : i < a ∨ b ≤ i) : zf_c c a b i = c i := if_neg (by omega)
theorem zf_e (c : Nat → Int32) (a : Nat) : zf_c c a a = c := funext fun i => zf_out (by omega)
theorem zf_u (c : Nat → Int32) {a b : Nat} (h : a ≤ b) : upd (zf_c c a b) b 0 = zf_c c a (b + 1) := by
  funext i
  by_cases e : i = b
  · rw [e, pk_us, zf_in h (by omega)]
  · rw [pk_un e]
    by_cases e2 : a ≤ i ∧ i < b
    · rw [zf_in e2.1 e2.2, zf_in e2.1 (by omega)]
    · rw [zf_out (by omega), zf_out (by omega)]
theorem up_sw (s : Nat → Int32) {q r : Nat} (h : r ≠ q) (v : Int32) : upd (upd (upd s r 0) q 0) r v = upd (upd s q 0) r v := by
  funext i
  by_cases e : i = r
  · rw [e, pk_us, pk_us]
  · rw [pk_un e, pk_un e]
    by_cases e2 : i = q
    · rw [e2, pk_us, pk_us]
    · rw [pk_un e2, pk_un e2, pk_un e]
theorem us_gen {k s hX k' s' hX' : Nat → Int32} (h : rl_U k s hX) (g : ∀ x, x < 12 → k' x = 1 → ((∃ q, q < 768 ∧ s' q = nI x) ∨ ∃ i, i < 4 ∧ hX' i = nI x) ∨ (k x = 1 ∧ (∀ q, q < 768 → s q = nI x → s' q = nI x) ∧ (∀ i, i < 4 → hX i = nI x → hX' i = nI x))) : rl_U k' s' hX' := by
  intro x hx kx
  rcases g x hx kx with e | ⟨e, e1, e2⟩
  · exact e
  · rcases h x hx e with ⟨q, a, b⟩ | ⟨i, a, b⟩
    · exact Or.inl ⟨q, a, e1 q a b⟩
    · exact Or.inr ⟨i, a, e2 i a b⟩
section
variable {k s l c hX kY zY cY en hd nm th hY : Nat → Int32} {m : Nat} {P par L : Nat → Nat}
theorem nw_make (G : rl_G k s l c hX kY zY cY en hd nm th hY m P par L) (hm : m < 20) {t d x : Nat} {v : Int32} (t0 : 0 < t) (t1 : t < 12) (kt : k t = 0) (hv : v = 1 ∨ v = 2) (d1 : d < 12) (x1 : x < 64) (kd : k d = 2) (hs : s (d * 64 + x) = 0) :
    ∃ P' par' L', rl_G (upd k t v) (upd s (d * 64 + x) (nI t)) l c hX (upd kY t v) (upd zY t 0) cY (upd en 0 (nI (m + 1))) (upd hd m (nI d)) (upd nm m (nI x)) (upd th m (nI t)) hY (m + 1) P' par' L' := by
  obtain ⟨g1, g2, g3, g4, g5, g6⟩ := G
  have ed : (d * 64 + x) / 64 = d := by omega
  have ex : (d * 64 + x) % 64 = x := by omega
  have A := en_add g2 hm (q := d * 64 + x) (by omega) hs (na_nz (a := t) (by omega) t0)
  have B := tr_make g3 g4 t0 t1 kt hv (q := d * 64 + x) (by omega) hs (by rw [ed]; exact kd)
  rw [ed, ex] at A
  obtain ⟨b1, b2, b3, b4, b5, b6, b7⟩ := g5 t t1
  have L0 : L t = 0 := b3 (by rw [kt]; decide)
  refine ⟨_, _, _, pk_us, A, B.1, B.2, ln_row g5 (t := t) (n := 0) (fun y hy ne => ⟨pk_un ne, rfl, pk_un ne, pk_un ne, fun i _ => ⟨rfl, rfl⟩⟩) ⟨by rw [b1, L0], by omega, fun _ => rfl, fun i h1 h2 => b4 i (by omega) h2, by rw [pk_us, pk_us], fun _ => by rw [pk_us]; exact nI_0.symm, fun i h => by omega⟩, hn_k g6 (fun y _ _ ky _ => ?_)⟩
  have : y ≠ t := fun z => by rw [z, kt] at ky; exact absurd ky (by decide)
  rw [pk_un this]; exact ky
/-- a slot that held t (or nothing) is written: slots of other things stay -/
theorem us_sl {q x : Nat} {w v : Int32} (hs : s q = w) (hw : w ≠ nI x) {r : Nat} (z : s r = nI x) : upd s q v r = nI x := by
  have : r ≠ q := fun e => hw (by rw [← hs, ← e]; exact z)
  rw [pk_un this]; exact z
theorem us_x0 (k0 : k 0 = 2) {x : Nat} (kx : k x = 1) : 0 < x := by
  rcases Nat.eq_zero_or_pos x with e | e
  · rw [e, k0] at kx; exact absurd kx (by decide)
  · exact e
theorem nw_makeU (U : rl_U k s hX) (k0 : k 0 = 2) {t q : Nat} {v : Int32} (hq : q < 768) (hs : s q = 0) : rl_U (upd k t v) (upd s q (nI t)) hX := by
  refine us_gen U (fun x hx kx => ?_)
  by_cases e : x = t
  · exact Or.inl (Or.inl ⟨q, hq, by rw [pk_us, e]⟩)
  · rw [pk_un e] at kx
    exact Or.inr ⟨kx, fun r _ z => us_sl hs (na_nz (by omega) (us_x0 k0 kx)).symm z, fun i _ z => z⟩
theorem nw_link (G : rl_G k s l c hX kY zY cY en hd nm th hY m P par L) (hm : m < 20) {t d x : Nat} (t0 : 0 < t) (t1 : t < 12) (kt : k t = 1) (d1 : d < 12) (x1 : x < 64) (kd : k d = 2) (hs : s (d * 64 + x) = 0) :
    ∃ P', rl_G k (upd s (d * 64 + x) (nI t)) l c hX kY zY cY (upd en 0 (nI (m + 1))) (upd hd m (nI d)) (upd nm m (nI x)) (upd th m (nI t)) hY (m + 1) P' par L := by
  obtain ⟨g1, g2, g3, g4, g5, g6⟩ := G
  have ed : (d * 64 + x) / 64 = d := by omega
  have ex : (d * 64 + x) % 64 = x := by omega
  have A := en_add g2 hm (q := d * 64 + x) (by omega) hs (na_nz (a := t) (by omega) t0)
  have B := tr_link g3 g4 t0 t1 kt (q := d * 64 + x) (by omega) hs (by rw [ed]; exact kd)
  rw [ed, ex] at A
  exact ⟨_, pk_us, A, B.1, B.2, g5, g6⟩
theorem nw_linkU (U : rl_U k s hX) (k0 : k 0 = 2) {t q : Nat} (hq : q < 768) (hs : s q = 0) : rl_U k (upd s q (nI t)) hX :=
  us_gen U (fun x hx kx => Or.inr ⟨kx, fun r _ z => us_sl hs (na_nz (by omega) (us_x0 k0 kx)).symm z, fun i _ z => z⟩)
theorem nw_clear (G : rl_G k s l c hX kY zY cY en hd nm th hY (m + 1) P par L) {t e : Nat} (t1 : t < 12) (kt : k t = 1) (he : e < m + 1) (hs : s (P e) = nI t) :
    ∃ P', rl_G k (upd s (P e) 0) l c hX kY zY cY (upd en 0 (nI m)) (upd hd e (hd m)) (upd nm e (nm m)) (upd th e (th m)) hY m P' par L := by
  obtain ⟨g1, g2, g3, g4, g5, g6⟩ := G
  have B := tr_clear g3 g4 t1 kt hs
  exact ⟨_, pk_us, en_take g2 he, B.1, B.2, g5, g6⟩
/-- a file that nothing holds goes -/
theorem nw_drop (G : rl_G k s l c hX kY zY cY en hd nm th hY m P par L) {t : Nat} (t1 : t < 12) (kt : k t = 1) (ns : ∀ q, q < 768 → s q ≠ nI t) (nh : ∀ i, i < 4 → hX i ≠ nI t) :
    ∃ L', rl_G (upd k t 0) s (upd l t 0) (zf_c c (t * 48) (t * 48 + 48)) hX (upd kY t 0) zY cY en hd nm th hY m P par L' := by
  obtain ⟨g1, g2, g3, g4, g5, g6⟩ := G
  have B := tr_drop g3 g4 (k' := upd k t 0) (fun x hx => by
    by_cases e : x = t
    · subst e; exact Or.inr ⟨kt, pk_us, ns⟩
    · exact Or.inl (pk_un e))
  refine ⟨_, g1, g2, B.1, B.2, ln_row g5 (t := t) (n := 0) (fun y hy ne => ⟨pk_un ne, pk_un ne, pk_un ne, rfl, fun i _ => ⟨zf_out (by omega), rfl⟩⟩) ⟨by rw [pk_us]; exact nI_0.symm, by omega, fun _ => rfl, fun i h1 h2 => zf_in (by omega) (by omega), by rw [pk_us, pk_us], fun z => by rw [pk_us] at z; exact absurd z (by decide), fun i h => by omega⟩, hn_k g6 (fun y _ _ ky hy => ?_)⟩
  obtain ⟨i, hi, e⟩ := hy
  have : y ≠ t := fun z => nh i hi (by rw [← z]; exact e)
  rw [pk_un this]; exact ky
theorem nw_rmdir (G : rl_G k s l c hX kY zY cY en hd nm th hY (m + 1) P par L) {t e : Nat} (t0 : 0 < t) (t1 : t < 12) (kt : k t = 2) (he : e < m + 1) (hs : s (P e) = nI t) (hz : ∀ x, x < 64 → s (t * 64 + x) = 0) :
    ∃ P' L', rl_G (upd k t 0) (upd s (P e) 0) (upd l t 0) (zf_c c (t * 48) (t * 48 + 48)) hX (upd kY t 0) zY cY (upd en 0 (nI m)) (upd hd e (hd m)) (upd nm e (nm m)) (upd th e (th m)) hY m P' par L' := by
  obtain ⟨g1, g2, g3, g4, g5, g6⟩ := G
  have B := tr_rmdir g3 g4 t0 t1 kt ((g2.2.1 e he).1) hs hz
  refine ⟨_, _, pk_us, en_take g2 he, B.1, B.2, ln_row g5 (t := t) (n := 0) (fun y hy ne => ⟨pk_un ne, pk_un ne, pk_un ne, rfl, fun i _ => ⟨zf_out (by omega), rfl⟩⟩) ⟨by rw [pk_us]; exact nI_0.symm, by omega, fun _ => rfl, fun i h1 h2 => zf_in (by omega) (by omega), by rw [pk_us, pk_us], fun z => by rw [pk_us] at z; exact absurd z (by decide), fun i h => by omega⟩, hn_k g6 (fun y _ _ ky hy => ?_)⟩
  have : y ≠ t := fun z => by rw [z, kt] at ky; exact absurd ky (by decide)
  rw [pk_un this]; exact ky
theorem nw_clearU (U : rl_U k s hX) {t q : Nat} (t1 : t < 12) (hs : s q = nI t) (hu : (∃ r, r < 768 ∧ upd s q 0 r = nI t) ∨ ∃ i, i < 4 ∧ hX i = nI t) : rl_U k (upd s q 0) hX := by
  refine us_gen U (fun x hx kx => ?_)
  by_cases e : x = t
  · rw [e]; exact Or.inl hu
  · exact Or.inr ⟨kx, fun r _ z => us_sl hs (na_ne (by omega) (by omega) (fun w => e w.symm)) z, fun i _ z => z⟩
theorem nw_goneU (U : rl_U k s hX) {t q : Nat} (t1 : t < 12) (hs : s q = nI t) : rl_U (upd k t 0) (upd s q 0) hX := by
  refine us_gen U (fun x hx kx => ?_)
  by_cases e : x = t
  · rw [e, pk_us] at kx; exact absurd kx (by decide)
  · rw [pk_un e] at kx
    exact Or.inr ⟨kx, fun r _ z => us_sl hs (na_ne (by omega) (by omega) (fun w => e w.symm)) z, fun i _ z => z⟩
/-- an entry moves to a free slot: taken at e, added behind -/
theorem nw_move (G : rl_G k s l c hX kY zY cY en hd nm th hY (m + 1) P par L) {t e d x : Nat} (t0 : 0 < t) (t1 : t < 12) (kt : k t = 1 ∨ k t = 2) (he : e < m + 1) (hs : s (P e) = nI t) (d1 : d < 12) (x1 : x < 64) (kd : k d = 2) (hz : s (d * 64 + x) = 0) (nh : k t = 2 → ∀ j, it_i par j d ≠ t) :
    ∃ P' par', rl_G k (upd (upd s (P e) 0) (d * 64 + x) (nI t)) l c hX kY zY cY (upd (upd en 0 (nI m)) 0 (nI (m + 1))) (upd (upd hd e (hd m)) m (nI d)) (upd (upd nm e (nm m)) m (nI x)) (upd (upd th e (th m)) m (nI t)) hY (m + 1) P' par' L := by
  obtain ⟨g1, g2, g3, g4, g5, g6⟩ := G
  have ed : (d * 64 + x) / 64 = d := by omega
  have ex : (d * 64 + x) % 64 = x := by omega
  have n0 := na_nz (a := t) (by omega) t0
  have qr : d * 64 + x ≠ P e := fun z => n0 (by rw [← hs, ← z]; exact hz)
  have A := en_take g2 he
  have A2 := en_add A (by have := g2.1; omega) (q := d * 64 + x) (by omega) (by rw [pk_un qr]; exact hz) n0
  rw [ed, ex] at A2
  rcases kt with kt | kt
  · have B := tr_clear g3 g4 t1 kt hs
    have B2 := tr_link B.1 B.2 t0 t1 kt (q := d * 64 + x) (by omega) (by rw [pk_un qr]; exact hz) (by rw [ed]; exact kd)
    exact ⟨_, _, pk_us, A2, B2.1, B2.2, g5, g6⟩
  · have B := tr_move g3 g4 t0 t1 kt ((g2.2.1 e he).1) hs (r := d * 64 + x) (by omega) hz (by rw [ed]; exact kd) (by rw [ed]; exact nh kt)
    exact ⟨_, _, pk_us, A2, B.1, B.2, g5, g6⟩
theorem nw_moveU (U : rl_U k s hX) (k0 : k 0 = 2) {t q r : Nat} (t1 : t < 12) (hs : s q = nI t) (hr : r < 768) (hz : s r = 0) : rl_U k (upd (upd s q 0) r (nI t)) hX := by
  refine us_gen U (fun x hx kx => ?_)
  by_cases e : x = t
  · rw [e]; exact Or.inl (Or.inl ⟨r, hr, pk_us⟩)
  · refine Or.inr ⟨kx, fun p _ z => ?_, fun i _ z => z⟩
    have z1 := us_sl (s := s) (v := 0) hs (na_ne (by omega) (by omega) (fun w => e w.symm)) z
    have x0 := na_nz (a := x) (by omega) (us_x0 k0 kx)
    have : p ≠ r := fun w => by rw [w, hz] at z; exact x0 z.symm
    rw [pk_un this]; exact z1
/-- a handle takes a file -/
theorem nw_hold (G : rl_G k s l c hX kY zY cY en hd nm th hY m P par L) {t i : Nat} (t0 : 0 < t) (t1 : t < 12) (kt : k t = 1) :
    rl_G k s l c (upd hX i (nI t)) kY zY cY en hd nm th (upd hY i (nI t)) m P par L := by
  obtain ⟨g1, g2, g3, g4, g5, g6⟩ := G
  refine ⟨g1, g2, g3, g4, g5, fun h hh => ?_⟩
  by_cases e : h = i
  · subst e; rw [pk_us, pk_us]; exact Or.inr ⟨t, t0, t1, kt, rfl, rfl⟩
  · rw [pk_un e, pk_un e]; exact g6 h hh
theorem nw_holdU (U : rl_U k s hX) (k0 : k 0 = 2) {t i : Nat} (hz : hX i = 0) : rl_U k s (upd hX i (nI t)) := by
  refine us_gen U (fun x hx kx => Or.inr ⟨kx, fun r _ z => z, fun h _ z => ?_⟩)
  have x0 := na_nz (a := x) (by omega) (us_x0 k0 kx)
  have : h ≠ i := fun w => by rw [w, hz] at z; exact x0 z.symm
  rw [pk_un this]; exact z
theorem nw_let (G : rl_G k s l c hX kY zY cY en hd nm th hY m P par L) {i : Nat} :
    rl_G k s l c (upd hX i 0) kY zY cY en hd nm th (upd hY i (-1)) m P par L := by
  obtain ⟨g1, g2, g3, g4, g5, g6⟩ := G
  refine ⟨g1, g2, g3, g4, g5, fun h hh => ?_⟩
  by_cases e : h = i
  · subst e; rw [pk_us, pk_us]; exact Or.inl ⟨rfl, rfl⟩
  · rw [pk_un e, pk_un e]; exact g6 h hh
theorem nw_letU (U : rl_U k s hX) {t i : Nat} (t1 : t < 12) (hs : hX i = nI t) (hu : (∃ r, r < 768 ∧ s r = nI t) ∨ ∃ h, h < 4 ∧ upd hX i 0 h = nI t) : rl_U k s (upd hX i 0) := by
  refine us_gen U (fun x hx kx => ?_)
  by_cases e : x = t
  · rw [e]; exact Or.inl hu
  · exact Or.inr ⟨kx, fun r _ z => z, fun h _ z => us_sl hs (na_ne (by omega) (by omega) (fun w => e w.symm)) z⟩
theorem nw_letgoneU (U : rl_U k s hX) {t i : Nat} (t1 : t < 12) (hs : hX i = nI t) : rl_U (upd k t 0) s (upd hX i 0) := by
  refine us_gen U (fun x hx kx => ?_)
  by_cases e : x = t
  · rw [e, pk_us] at kx; exact absurd kx (by decide)
  · rw [pk_un e] at kx
    exact Or.inr ⟨kx, fun r _ z => z, fun h _ z => us_sl hs (na_ne (by omega) (by omega) (fun w => e w.symm)) z⟩
/-- a file's length, and its cells -/
theorem nw_len (G : rl_G k s l c hX kY zY cY en hd nm th hY m P par L) {t n : Nat} (t1 : t < 12) (kt : k t = 1) (hn : n ≤ 48) :
    ∃ L', rl_G k s (upd l t (nI n)) (zf_c c (t * 48 + n) (t * 48 + 48)) hX kY (upd zY t (nI n)) (zf_c cY (t * 48 + L t) (t * 48 + n)) en hd nm th hY m P par L' ∧ L' t = n := by
  obtain ⟨g1, g2, g3, g4, g5, g6⟩ := G
  obtain ⟨b1, b2, b3, b4, b5, b6, b7⟩ := g5 t t1
  refine ⟨_, ⟨g1, g2, g3, g4, ln_row g5 (t := t) (n := n) (fun y hy ne => ⟨rfl, pk_un ne, rfl, pk_un ne, fun i _ => ⟨zf_out (by omega), zf_out (by omega)⟩⟩) ⟨pk_us, hn, fun z => (z kt).elim, fun i h1 h2 => zf_in (by omega) (by omega), b5, fun _ => pk_us, fun i h => ?_⟩, g6⟩, if_pos rfl⟩
  rw [zf_out (c := c) (by omega)]
  by_cases e : i < L t
  · rw [zf_out (by omega)]; exact b7 i e
  · rw [zf_in (by omega) (by omega)]; exact (b4 i (by omega) (by omega)).symm
/-- values from a place on -/
def fl_c (c : Nat → Int32) (a b : Nat) (v : Int32) : Nat → Int32 := fun i => if a ≤ i ∧ i < b then v + nI (i - a) else c i
theorem fl_in {c : Nat → Int32} {a b i : Nat} {v : Int32} (h1 : a ≤ i) (h2 : i < b) : fl_c c a b v i = v + nI (i - a) := if_pos ⟨h1, h2⟩
theorem fl_out {c : Nat → Int32} {a b i : Nat} {v : Int32} (h : i < a ∨ b ≤ i) : fl_c c a b v i = c i := if_neg (by omega)
theorem fl_e (c : Nat → Int32) (a : Nat) (v : Int32) : fl_c c a a v = c := funext fun i => fl_out (by omega)
theorem fl_u (c : Nat → Int32) (a j : Nat) (v : Int32) : upd (fl_c c a (a + j) v) (a + j) (v + nI j) = fl_c c a (a + (j + 1)) v := by
  funext i
  by_cases e : i = a + j
  · rw [e, pk_us, fl_in (by omega) (by omega), show a + j - a = j by omega]
  · rw [pk_un e]
    by_cases e2 : a ≤ i ∧ i < a + j
    · rw [fl_in e2.1 e2.2, fl_in e2.1 (by omega)]
    · rw [fl_out (by omega), fl_out (by omega)]
theorem nw_fill (G : rl_G k s l c hX kY zY cY en hd nm th hY m P par L) {t a n : Nat} {v : Int32} (t1 : t < 12) (kt : k t = 1) (hn : a + n ≤ L t) :
    rl_G k s l (fl_c c (t * 48 + a) (t * 48 + a + n) v) hX kY zY (fl_c cY (t * 48 + a) (t * 48 + a + n) v) en hd nm th hY m P par L := by
  obtain ⟨g1, g2, g3, g4, g5, g6⟩ := G
  refine ⟨g1, g2, g3, g4, fun y hy => ?_, g6⟩
  obtain ⟨b1, b2, b3, b4, b5, b6, b7⟩ := g5 y hy
  obtain ⟨e1, e2, e3, e4, e5, e6, e7⟩ := g5 t t1
  refine ⟨b1, b2, b3, fun i h1 h2 => ?_, b5, b6, fun i h => ?_⟩
  · rw [fl_out (by
      by_cases e : y = t
      · subst e; omega
      · omega)]
    exact b4 i h1 h2
  · by_cases z : t * 48 + a ≤ y * 48 + i ∧ y * 48 + i < t * 48 + a + n
    · rw [fl_in z.1 z.2, fl_in z.1 z.2]
    · rw [fl_out (by omega), fl_out (by omega)]; exact b7 i h
end
/-! saving and coming back -/
theorem sv_save {k s l c hX kY zY cY en hd nm th hY : Nat → Int32} {m : Nat} {P par L : Nat → Nat} (G : rl_G k s l c hX kY zY cY en hd nm th hY m P par L)
    {k' s' l' c' kY' zY' cY' en' hd' nm' th' : Nat → Int32}
    (hk : ∀ t, t < 12 → (k t = 1 ∧ (∀ q, q < 768 → s q ≠ nI t) ∧ k' t = 0 ∧ l' t = 0 ∧ (∀ i, i < 48 → c' (t * 48 + i) = 0) ∧ kY' (12 + t) = 0) ∨
      ((k t = 1 → ∃ q, q < 768 ∧ s q = nI t) ∧ k' t = k t ∧ l' t = l t ∧ (∀ i, i < 48 → c' (t * 48 + i) = c (t * 48 + i)) ∧ kY' (12 + t) = kY t))
    (hs : ∀ q, q < 768 → s' q = s q) (hz : ∀ t, t < 12 → zY' (12 + t) = zY t) (hc : ∀ i, i < 576 → cY' (576 + i) = cY i)
    (hn : en' 1 = en 0) (he : ∀ e, e < 20 → hd' (20 + e) = hd e ∧ nm' (20 + e) = nm e ∧ th' (20 + e) = th e) : rl_V k' s' l' c' kY' zY' cY' en' hd' nm' th' := by
  obtain ⟨g1, g2, g3, g4, g5, g6⟩ := G
  have B := tr_drop g3 g4 (k' := k') (fun t ht => by
    rcases hk t ht with ⟨a1, a2, a3, _⟩ | ⟨_, a2, _⟩
    · exact Or.inr ⟨a1, a3, a2⟩
    · exact Or.inl a2)
  refine ⟨⟨⟨m, P, hn.trans g1, ag_E hs he g2⟩, ag_K (fun _ _ => rfl) hs B.1, ⟨par, ag_T (fun _ _ => rfl) hs B.2⟩, ⟨fun t => if k' t = 1 then L t else 0, fun t ht => ?_⟩⟩, fun t ht k1 => ?_⟩
  · obtain ⟨b1, b2, b3, b4, b5, b6, b7⟩ := g5 t ht
    rcases hk t ht with ⟨a1, a2, a3, a4, a5, a6⟩ | ⟨a1, a2, a3, a4, a5⟩
    · dsimp only
      rw [a3, if_neg (by decide), a4]
      exact ⟨nI_0.symm, by omega, fun _ => rfl, fun i _ h => a5 i h, a6, fun z => absurd z (by decide), fun i h => by omega⟩
    · have e0 : (if k' t = 1 then L t else 0) = L t := by
        by_cases z : k' t = 1
        · rw [if_pos z]
        · rw [if_neg z]; exact (b3 (by rw [← a2]; exact z)).symm
      dsimp only
      rw [e0, a2, a3, hz t ht]
      refine ⟨b1, b2, b3, fun i h1 h2 => by rw [a4 i h2]; exact b4 i h1 h2, a5.trans b5, b6, fun i h => ?_⟩
      rw [a4 i (by omega), hc (t * 48 + i) (by omega)]; exact b7 i h
  · rcases hk t ht with ⟨a1, a2, a3, _⟩ | ⟨a1, a2, _⟩
    · rw [a3] at k1; exact absurd k1 (by decide)
    · obtain ⟨q, h1, h2⟩ := a1 (by rw [← a2]; exact k1)
      exact ⟨q, h1, by rw [hs q h1]; exact h2⟩
theorem sv_back {k s l c kY zY cY en hd nm th : Nat → Int32} (V : rl_V k s l c kY zY cY en hd nm th)
    {k' s' l' c' hX' kY' zY' cY' en' hd' nm' th' hY' : Nat → Int32}
    (hk : ∀ t, t < 12 → k' t = k t ∧ l' t = l t ∧ kY' t = kY (12 + t) ∧ zY' t = zY (12 + t)) (hs : ∀ q, q < 768 → s' q = s q)
    (hc : ∀ i, i < 576 → c' i = c i ∧ cY' i = cY (576 + i)) (hn : en' 0 = en 1) (he : ∀ e, e < 20 → hd' e = hd (20 + e) ∧ nm' e = nm (20 + e) ∧ th' e = th (20 + e))
    (hh : ∀ h, h < 4 → hX' h = 0 ∧ hY' h = -1) : rl_N k' s' l' c' hX' kY' zY' cY' en' hd' nm' th' hY' :=
  ⟨ag_F hk hs hc hn he V.1, fun h h4 => Or.inl (hh h h4), fun t ht k1 => by
    rw [(hk t ht).1] at k1
    obtain ⟨q, a1, a2⟩ := V.2 t ht k1
    exact Or.inl ⟨q, a1, by rw [hs q a1]; exact a2⟩⟩
theorem nw_N {k s l c hX kY zY cY en hd nm th hY : Nat → Int32} {m : Nat} {P par L : Nat → Nat} (G : rl_G k s l c hX kY zY cY en hd nm th hY m P par L) (U : rl_U k s hX) : rl_N k s l c hX kY zY cY en hd nm th hY :=
  ⟨⟨⟨m, P, G.1, G.2.1⟩, G.2.2.1, ⟨par, G.2.2.2.1⟩, ⟨L, G.2.2.2.2.1⟩⟩, G.2.2.2.2.2, U⟩
theorem nw_G {k s l c hX kY zY cY en hd nm th hY : Nat → Int32} (N : rl_N k s l c hX kY zY cY en hd nm th hY) : ∃ m P par L, rl_G k s l c hX kY zY cY en hd nm th hY m P par L ∧ rl_U k s hX := by
  obtain ⟨⟨⟨m, P, e, h1⟩, h2, ⟨par, h3⟩, ⟨L, h4⟩⟩, h5, h6⟩ := N
  exact ⟨m, P, par, L, ⟨e, h1, h2, h3, h4, h5⟩, h6⟩
end
section
/-! walking loops whose state is told by the counter -/
theorem lc_n (W : Nat → Nat → Prop) (a e : Nat) (fin : ∀ n, W (n + 1) e) (step : ∀ n i, a ≤ i → i < e → W n (i + 1) → W (n + 1) i) : ∀ d n, d < n → a + d ≤ e → W n (e - d)
  | 0, 0, h, _ => by omega
  | 0, n + 1, _, _ => fin n
  | d + 1, 0, h, _ => by omega
  | d + 1, n + 1, h, hd => by
    refine step n (e - (d + 1)) (by omega) (by omega) ?_
    have := lc_n W a e fin step d n (by omega) (by omega)
    rw [show e - (d + 1) + 1 = e - d by omega]; exact this
theorem lc_to (W : Nat → Nat → Prop) (a e : Nat) (hae : a ≤ e) (fin : ∀ n, W (n + 1) e) (step : ∀ n i, a ≤ i → i < e → W n (i + 1) → W (n + 1) i) : ∃ n, W n a := by
  refine ⟨e - a + 1, ?_⟩
  have := lc_n W a e fin step (e - a) (e - a + 1) (by omega) (by omega)
  rw [show e - (e - a) = a by omega] at this; exact this
theorem lc_to2 (W : Nat → Nat → Prop) (a e : Nat) (hae : a ≤ e) {Q : Prop} (hQ : (∃ n, W n a) → Q) (fin : ∀ n, W (n + 1) e) (step : ∀ n i, a ≤ i → i < e → W n (i + 1) → W (n + 1) i) : Q := hQ (lc_to W a e hae fin step)
/-- as much fuel as one likes -/
theorem lc_all (W : Nat → Nat → Prop) (a e : Nat) (hae : a ≤ e) (fin : ∀ n, W (n + 1) e) (step : ∀ n i, a ≤ i → i < e → W n (i + 1) → W (n + 1) i) : ∀ n, e - a < n → W n a := by
  intro n hn
  have := lc_n W a e fin step (e - a) n (by omega) (by omega)
  rw [show e - (e - a) = a by omega] at this; exact this
/-! counts, one more -/
theorem cn_t {p : Nat → Bool} {i : Nat} (h : p i = true) : nI (cn_c p i) + 1 = nI (cn_c p (i + 1)) := by
  rw [nI_1]; show nI (cn_c p i + 1) = nI (cn_c p i + (if p i = true then 1 else 0)); rw [if_pos h]
theorem cn_f {p : Nat → Bool} {i : Nat} (h : ¬ p i = true) : cn_c p (i + 1) = cn_c p i := by
  show cn_c p i + (if p i = true then 1 else 0) = cn_c p i; rw [if_neg h]; rfl
/-! one array onto another, and half onto half -/
def cp_c (a b : Nat → Int32) (n : Nat) : Nat → Int32 := fun i => if i < n then a i else b i
theorem cp_0 (a b : Nat → Int32) : cp_c a b 0 = b := funext fun i => if_neg (by omega)
theorem cp_in {a b : Nat → Int32} {n i : Nat} (h : i < n) : cp_c a b n i = a i := if_pos h
theorem cp_u (a b : Nat → Int32) (n : Nat) : upd (cp_c a b n) n (a n) = cp_c a b (n + 1) := by
  funext i
  by_cases e : i = n
  · rw [e, pk_us, cp_in (by omega)]
  · rw [pk_un e]
    by_cases e2 : i < n
    · rw [cp_in e2, cp_in (by omega)]
    · show (if i < n then a i else b i) = if i < n + 1 then a i else b i
      rw [if_neg e2, if_neg (by omega)]
def ch_c (a : Nat → Int32) (f t n : Nat) : Nat → Int32 := fun i => if t ≤ i ∧ i < t + n then a (i - t + f) else a i
theorem ch_0 (a : Nat → Int32) (f t : Nat) : ch_c a f t 0 = a := funext fun i => if_neg (by omega)
theorem ch_in {a : Nat → Int32} {f t n i : Nat} (h : i < n) : ch_c a f t n (t + i) = a (f + i) := by
  show (if t ≤ t + i ∧ t + i < t + n then a (t + i - t + f) else a (t + i)) = a (f + i)
  rw [if_pos (by omega), show t + i - t + f = f + i by omega]
theorem ch_out {a : Nat → Int32} {f t n i : Nat} (h : i < t ∨ t + n ≤ i) : ch_c a f t n i = a i := if_neg (by omega)
theorem ch_u (a : Nat → Int32) (f t n : Nat) : upd (ch_c a f t n) (t + n) (a (f + n)) = ch_c a f t (n + 1) := by
  funext i
  by_cases e : i = t + n
  · rw [e, pk_us, ch_in (by omega)]
  · rw [pk_un e]
    by_cases e2 : t ≤ i ∧ i < t + n
    · show (if t ≤ i ∧ i < t + n then a (i - t + f) else a i) = if t ≤ i ∧ i < t + (n + 1) then a (i - t + f) else a i
      rw [if_pos e2, if_pos (by omega)]
    · rw [ch_out (by omega), ch_out (by omega)]
/-! sums -/
def sm_c (f : Nat → Int32) : Nat → Int32
  | 0 => 0
  | n + 1 => sm_c f n + nI (n + 1) * f n
theorem sm_congr {f g : Nat → Int32} : ∀ {n : Nat}, (∀ i, i < n → f i = g i) → sm_c f n = sm_c g n
  | 0, _ => rfl
  | n + 1, h => by
    show sm_c f n + nI (n + 1) * f n = sm_c g n + nI (n + 1) * g n
    rw [sm_congr (n := n) (fun i hi => h i (by omega)), h n (by omega)]
theorem sm_more {f : Nat → Int32} {a : Nat} : ∀ {b : Nat}, a ≤ b → (∀ i, a ≤ i → i < b → f i = 0) → sm_c f b = sm_c f a
  | 0, h, _ => by rw [show a = 0 by omega]
  | b + 1, h, hz => by
    by_cases e : a = b + 1
    · rw [e]
    · show sm_c f b + nI (b + 1) * f b = sm_c f a
      rw [hz b (by omega) (by omega), Int32.mul_zero, Int32.add_zero]
      exact sm_more (b := b) (by omega) (fun i h1 h2 => hz i h1 (by omega))
theorem cn_one {p : Nat → Bool} {i n : Nat} (hi : i < n) (hp : p i = true) (hu : ∀ j, j < n → p j = true → j = i) : cn_c p n = 1 := by
  rw [cn_off hi, if_pos hp, cn_zero]
  intro j hj
  by_cases e : j = i
  · exact if_pos e
  · show (if j = i then false else p j) = false
    rw [if_neg e]
    cases h : p j with
    | false => rfl
    | true => exact (e (hu j hj h)).elim
/-- the least place where p holds below n, if there is one -/
theorem cn_first (p : Nat → Prop) (n : Nat) : (∃ i, i < n ∧ p i ∧ ∀ j, j < i → ¬ p j) ∨ (∀ i, i < n → ¬ p i) := by
  by_cases h : ∃ i, i < n ∧ p i
  · obtain ⟨i, ⟨h1, h2⟩, h3⟩ := pk_least (fun i => i < n ∧ p i) h
    exact Or.inl ⟨i, h1, h2, fun j hj hp => h3 j hj ⟨by omega, hp⟩⟩
  · exact Or.inr (fun i hi hp => h ⟨i, hi, hp⟩)
theorem ef_z {s : Nat → Int32} {t : Int32} (h : nI (cn_c (fun q => decide (s q = t)) 768) = 0) : ∀ q, q < 768 → s q ≠ t := by
  intro q hq e
  have := cn_le (fun q => decide (s q = t)) 768
  have h0 := na_z (by omega) h
  have := cn_all h0 q hq
  exact of_decide_eq_false this e
theorem ef_n {s : Nat → Int32} {t : Int32} (h : ¬ nI (cn_c (fun q => decide (s q = t)) 768) = 0) : ∃ q, q < 768 ∧ s q = t := by
  have : 0 < cn_c (fun q => decide (s q = t)) 768 := by
    rcases Nat.eq_zero_or_pos (cn_c (fun q => decide (s q = t)) 768) with e | e
    · exact (h (by rw [e]; exact nI_0)).elim
    · exact e
  obtain ⟨q, h1, h2⟩ := cn_ex this
  exact ⟨q, h1, of_decide_eq_true h2⟩
end
section
/-! the class's questions about its state, each with a general post -/
def is_k (k : Nat → Int32) (a v : Int32) : Prop := ∃ t, t < 12 ∧ v = nI t ∧ k t = a
def is_n (v : Int32) : Prop := ∃ x, x < 64 ∧ v = nI x
theorem na_ng {v : Int32} {n : Nat} (hn : n < 1000000) (h : ¬ ∃ t, t < n ∧ v = nI t) : v < 0 ∨ (¬ v < 0 ∧ nI n ≤ v) := by
  rcases pk_ix v (n := n) (by omega) with e | e | e
  · exact Or.inl e
  · by_cases z : v < 0
    · exact Or.inl z
    · exact Or.inr ⟨z, e⟩
  · exact (h e).elim
theorem na_ok (v : Int32) {t n : Nat} (hn : n < 1000000) (h : t < n) (e : v = nI t) : ¬ v < 0 ∧ ¬ nI n ≤ v := by
  subst e
  exact ⟨nI_pos (by omega), nI_ge h (by omega)⟩
section
variable {k s l c hX sk ss sl sc : Nat → Int32} {post : Int32 → Prop}
theorem xp_num_t {t : Nat} (ht : t < 12) (h : post 1) : wpX_isNumber post (nI t) :=
  br_f (nI_pos (by omega)) (br_f (nI_ge (b := 12) ht (by decide)) h)
theorem xp_num_f {v : Int32} (hv : ¬ ∃ t, t < 12 ∧ v = nI t) (h : post 0) : wpX_isNumber post v := by
  rcases na_ng (by decide) hv with e | ⟨e1, e2⟩
  · exact br_t e h
  · exact br_f e1 (br_t e2 h)
theorem xp_hd_t {t : Nat} (ht : t < 4) (h : post 1) : wpX_isHandle post (nI t) :=
  br_f (nI_pos (by omega)) (br_f (nI_ge (b := 4) ht (by decide)) h)
theorem xp_hd_f {v : Int32} (hv : ¬ ∃ t, t < 4 ∧ v = nI t) (h : post 0) : wpX_isHandle post v := by
  rcases na_ng (by decide) hv with e | ⟨e1, e2⟩
  · exact br_t e h
  · exact br_f e1 (br_t e2 h)
theorem xp_dir_t {v : Int32} (hv : is_k k 2 v) (h : post 1) : wpX_isDirectory__kinds post (k, s, l, c, hX, sk, ss, sl, sc) v := by
  obtain ⟨t, ht, rfl, e⟩ := hv
  unfold wpX_isDirectory__kinds
  refine xp_num_t ht ?_
  exact br_f (by decide) ⟨vp_in_nI ht (by decide), br_t (by rw [nI_clamp (by omega)]; exact e) h⟩
theorem xp_dir_f {v : Int32} (hv : ¬ is_k k 2 v) (h : post 0) : wpX_isDirectory__kinds post (k, s, l, c, hX, sk, ss, sl, sc) v := by
  unfold wpX_isDirectory__kinds
  by_cases z : ∃ t, t < 12 ∧ v = nI t
  · obtain ⟨t, ht, rfl⟩ := z
    refine xp_num_t ht ?_
    exact br_f (by decide) ⟨vp_in_nI ht (by decide), br_f (by rw [nI_clamp (by omega)]; exact fun e => hv ⟨t, ht, rfl, e⟩) h⟩
  · refine xp_num_f z ?_
    exact br_t rfl h
theorem xp_file_t {v : Int32} (hv : is_k k 1 v) (h : post 1) : wpX_isFile__kinds post (k, s, l, c, hX, sk, ss, sl, sc) v := by
  obtain ⟨t, ht, rfl, e⟩ := hv
  unfold wpX_isFile__kinds
  refine xp_num_t ht ?_
  exact br_f (by decide) ⟨vp_in_nI ht (by decide), br_t (by rw [nI_clamp (by omega)]; exact e) h⟩
theorem xp_file_f {v : Int32} (hv : ¬ is_k k 1 v) (h : post 0) : wpX_isFile__kinds post (k, s, l, c, hX, sk, ss, sl, sc) v := by
  unfold wpX_isFile__kinds
  by_cases z : ∃ t, t < 12 ∧ v = nI t
  · obtain ⟨t, ht, rfl⟩ := z
    refine xp_num_t ht ?_
    exact br_f (by decide) ⟨vp_in_nI ht (by decide), br_f (by rw [nI_clamp (by omega)]; exact fun e => hv ⟨t, ht, rfl, e⟩) h⟩
  · refine xp_num_f z ?_
    exact br_t rfl h
theorem xp_place_t {d x : Nat} (hd : d < 12) (h2 : k d = 2) (hx : x < 64) (h : post 1) : wpX_isPlace__kinds post (k, s, l, c, hX, sk, ss, sl, sc) (nI d) (nI x) := by
  unfold wpX_isPlace__kinds
  refine xp_dir_t ⟨d, hd, rfl, h2⟩ ?_
  exact br_f (by decide) (br_f (nI_pos (by omega)) (br_f (nI_ge (b := 64) hx (by decide)) h))
theorem xp_place_f {v w : Int32} (hv : ¬ (is_k k 2 v ∧ is_n w)) (h : post 0) : wpX_isPlace__kinds post (k, s, l, c, hX, sk, ss, sl, sc) v w := by
  unfold wpX_isPlace__kinds
  by_cases z : is_k k 2 v
  · refine xp_dir_t z ?_
    refine br_f (by decide) ?_
    rcases na_ng (n := 64) (by decide) (fun e => hv ⟨z, e⟩) with e | ⟨e1, e2⟩
    · exact br_t e h
    · exact br_f e1 (br_t e2 h)
  · refine xp_dir_f z ?_
    exact br_t rfl h
theorem xp_all (h : post (nI (cn_c (fun q => decide (¬ s q = 0)) 768))) : wpX_allEntries__slots post (k, s, l, c, hX, sk, ss, sl, sc) := by
  refine lc_to (fun n i => wX_allEntries__slots_4 post k s l c hX sk ss sl sc n (nI (cn_c (fun q => decide (¬ s q = 0)) i)) (nI i)) 0 768 (by omega) (fun n => ?_) (fun n i _ hi ih => ?_)
  · exact br_t (Int32.le_refl _) h
  · refine br_f (nI_ge (b := 768) hi (by decide)) ⟨vp_in_nI hi (by decide), br_c (fun z => ?_) (fun z => ?_)⟩
    · rw [nI_clamp (by omega)] at z
      refine nm_r (nI_1 i) ?_
      rw [cn_f (by simp [z])] at ih; exact ih
    · rw [nI_clamp (by omega)] at z
      refine nm_r (cn_t (p := fun q => decide (¬ s q = 0)) (decide_eq_true z)) (nm_r (nI_1 i) ih)
theorem xp_for {v : Int32} (h0 : v = 0 → post 0) (h : v ≠ 0 → post (nI (cn_c (fun q => decide (s q = v)) 768))) : wpX_entriesFor__slots post (k, s, l, c, hX, sk, ss, sl, sc) v := by
  unfold wpX_entriesFor__slots
  refine br_c h0 (fun hv => ?_)
  refine lc_to (fun n i => wX_entriesFor__slots_10 post v k s l c hX sk ss sl sc n (nI (cn_c (fun q => decide (s q = v)) i)) (nI i)) 0 768 (by omega) (fun n => ?_) (fun n i _ hi ih => ?_)
  · exact br_t (Int32.le_refl _) (h hv)
  · refine br_f (nI_ge (b := 768) hi (by decide)) ⟨vp_in_nI hi (by decide), br_c (fun z => ?_) (fun z => ?_)⟩
    · rw [nI_clamp (by omega)] at z
      refine nm_r (cn_t (p := fun q => decide (s q = v)) (decide_eq_true z)) (nm_r (nI_1 i) ih)
    · rw [nI_clamp (by omega)] at z
      refine nm_r (nI_1 i) ?_
      rw [cn_f (by simp [z])] at ih; exact ih
theorem xp_par {t q : Nat} (hq : q < 768) (e : s q = nI t) (hu : ∀ r, r < q → s r ≠ nI t) (h : post (nI (q / 64))) : wpX_parentOf__slots post (k, s, l, c, hX, sk, ss, sl, sc) (nI t) := by
  refine lc_to (fun n i => wX_parentOf__slots_2 post (nI t) k s l c hX sk ss sl sc n (nI i)) 0 q (by omega) (fun n => ?_) (fun n i _ hi ih => ?_)
  · refine br_f (nI_ge (b := 768) hq (by decide)) ⟨vp_in_nI hq (by decide), br_t (by rw [nI_clamp (by omega)]; exact e) ⟨by decide, ?_⟩⟩
    have := pk_div (a := q) (d := 64) (by omega) (by omega) (by decide)
    rw [show (nI 64 : Int32) = 64 from rfl] at this
    rw [this]; exact h
  · refine br_f (nI_ge (b := 768) (by omega) (by decide)) ⟨vp_in_nI (by omega) (by decide), br_f (by rw [nI_clamp (by omega)]; exact hu i hi) (nm_r (nI_1 i) ih)⟩
/-- is at or below: the parents' row comes to a -/
theorem xp_below_t {par : Nat → Nat} {d a j0 : Nat} (hK : rl_K k s) (hT : rl_T k s par) (hd : d < 12) (h2 : k d = 2) (ha : a < 12) (hj : j0 < 12) (e : it_i par j0 d = a) (hm : ∀ j, j < j0 → it_i par j d ≠ a) (h : post 1) : wpX_isOrLiesBelow__slots post (k, s, l, c, hX, sk, ss, sl, sc) (nI d) (nI a) := by
  refine lc_to (fun n i => wX_isOrLiesBelow__slots_5 post (nI a) k s l c hX sk ss sl sc n (nI (it_i par i d)) (nI i)) 0 j0 (by omega) (fun n => ?_) (fun n i _ hi ih => ?_)
  · refine br_f (nI_ge (b := 12) hj (by decide)) (br_t (by rw [e]) h)
  · have hdi := tr_dir hK hT hd h2 i
    have nz : it_i par i d ≠ 0 := fun z => hm i hi (z.trans ((it_stay hT.1 (Nat.le_of_lt hi) z).symm.trans e))
    obtain ⟨q, a1, a2, a3, a4⟩ := hT.2.2.1 _ (by omega) hdi.1 hdi.2
    refine br_f (nI_ge (b := 12) (by omega) (by decide)) (br_f (na_ne (by omega) (by omega) (hm i hi)) (br_f (na_nz (by omega) (by omega)) ?_))
    refine xp_par a1 a2 (fun r hr z => ?_) ?_
    · have := a4 r (by omega) z; omega
    · refine nm_r (nI_1 i) ?_
      rw [it_s, a3] at ih; exact ih
theorem xp_below_f {par : Nat → Nat} {d a : Nat} (hK : rl_K k s) (hT : rl_T k s par) (hd : d < 12) (h2 : k d = 2) (ha : a < 12) (hm : ∀ j, j < 12 → it_i par j d ≠ a) (h : post 0) : wpX_isOrLiesBelow__slots post (k, s, l, c, hX, sk, ss, sl, sc) (nI d) (nI a) := by
  refine lc_to (fun n i => wX_isOrLiesBelow__slots_5 post (nI a) k s l c hX sk ss sl sc n (nI (it_i par i d)) (nI i)) 0 12 (by omega) (fun n => ?_) (fun n i _ hi ih => ?_)
  · exact br_t (Int32.le_refl _) h
  · have hdi := tr_dir hK hT hd h2 i
    refine br_f (nI_ge (b := 12) (by omega) (by decide)) (br_f (na_ne (by omega) (by omega) (hm i hi)) (br_c (fun _ => h) (fun nz => ?_)))
    have nz' : it_i par i d ≠ 0 := fun z => nz (by rw [z]; rfl)
    obtain ⟨q, a1, a2, a3, a4⟩ := hT.2.2.1 _ (by omega) hdi.1 hdi.2
    refine xp_par a1 a2 (fun r hr z => ?_) ?_
    · have := a4 r (by omega) z; omega
    · refine nm_r (nI_1 i) ?_
      rw [it_s, a3] at ih; exact ih
theorem xs_dir_t {v : Int32} (hv : is_k sk 2 v) (h : post 1) : wpX_isDirectory__savedKinds post (k, s, l, c, hX, sk, ss, sl, sc) v := by
  obtain ⟨t, ht, rfl, e⟩ := hv
  unfold wpX_isDirectory__savedKinds
  refine xp_num_t ht ?_
  exact br_f (by decide) ⟨vp_in_nI ht (by decide), br_t (by rw [nI_clamp (by omega)]; exact e) h⟩
theorem xs_dir_f {v : Int32} (hv : ¬ is_k sk 2 v) (h : post 0) : wpX_isDirectory__savedKinds post (k, s, l, c, hX, sk, ss, sl, sc) v := by
  unfold wpX_isDirectory__savedKinds
  by_cases z : ∃ t, t < 12 ∧ v = nI t
  · obtain ⟨t, ht, rfl⟩ := z
    refine xp_num_t ht ?_
    exact br_f (by decide) ⟨vp_in_nI ht (by decide), br_f (by rw [nI_clamp (by omega)]; exact fun e => hv ⟨t, ht, rfl, e⟩) h⟩
  · refine xp_num_f z ?_
    exact br_t rfl h
theorem xs_file_t {v : Int32} (hv : is_k sk 1 v) (h : post 1) : wpX_isFile__savedKinds post (k, s, l, c, hX, sk, ss, sl, sc) v := by
  obtain ⟨t, ht, rfl, e⟩ := hv
  unfold wpX_isFile__savedKinds
  refine xp_num_t ht ?_
  exact br_f (by decide) ⟨vp_in_nI ht (by decide), br_t (by rw [nI_clamp (by omega)]; exact e) h⟩
theorem xs_file_f {v : Int32} (hv : ¬ is_k sk 1 v) (h : post 0) : wpX_isFile__savedKinds post (k, s, l, c, hX, sk, ss, sl, sc) v := by
  unfold wpX_isFile__savedKinds
  by_cases z : ∃ t, t < 12 ∧ v = nI t
  · obtain ⟨t, ht, rfl⟩ := z
    refine xp_num_t ht ?_
    exact br_f (by decide) ⟨vp_in_nI ht (by decide), br_f (by rw [nI_clamp (by omega)]; exact fun e => hv ⟨t, ht, rfl, e⟩) h⟩
  · refine xp_num_f z ?_
    exact br_t rfl h
theorem xs_place_t {d x : Nat} (hd : d < 12) (h2 : sk d = 2) (hx : x < 64) (h : post 1) : wpX_isPlace__savedKinds post (k, s, l, c, hX, sk, ss, sl, sc) (nI d) (nI x) := by
  unfold wpX_isPlace__savedKinds
  refine xs_dir_t ⟨d, hd, rfl, h2⟩ ?_
  exact br_f (by decide) (br_f (nI_pos (by omega)) (br_f (nI_ge (b := 64) hx (by decide)) h))
theorem xs_place_f {v w : Int32} (hv : ¬ (is_k sk 2 v ∧ is_n w)) (h : post 0) : wpX_isPlace__savedKinds post (k, s, l, c, hX, sk, ss, sl, sc) v w := by
  unfold wpX_isPlace__savedKinds
  by_cases z : is_k sk 2 v
  · refine xs_dir_t z ?_
    refine br_f (by decide) ?_
    rcases na_ng (n := 64) (by decide) (fun e => hv ⟨z, e⟩) with e | ⟨e1, e2⟩
    · exact br_t e h
    · exact br_f e1 (br_t e2 h)
  · refine xs_dir_f z ?_
    exact br_t rfl h
theorem xs_all (h : post (nI (cn_c (fun q => decide (¬ ss q = 0)) 768))) : wpX_allEntries__savedSlots post (k, s, l, c, hX, sk, ss, sl, sc) := by
  refine lc_to (fun n i => wX_allEntries__savedSlots_4 post k s l c hX sk ss sl sc n (nI (cn_c (fun q => decide (¬ ss q = 0)) i)) (nI i)) 0 768 (by omega) (fun n => ?_) (fun n i _ hi ih => ?_)
  · exact br_t (Int32.le_refl _) h
  · refine br_f (nI_ge (b := 768) hi (by decide)) ⟨vp_in_nI hi (by decide), br_c (fun z => ?_) (fun z => ?_)⟩
    · rw [nI_clamp (by omega)] at z
      refine nm_r (nI_1 i) ?_
      rw [cn_f (by simp [z])] at ih; exact ih
    · rw [nI_clamp (by omega)] at z
      refine nm_r (cn_t (p := fun q => decide (¬ ss q = 0)) (decide_eq_true z)) (nm_r (nI_1 i) ih)
theorem xs_for {v : Int32} (h0 : v = 0 → post 0) (h : v ≠ 0 → post (nI (cn_c (fun q => decide (ss q = v)) 768))) : wpX_entriesFor__savedSlots post (k, s, l, c, hX, sk, ss, sl, sc) v := by
  unfold wpX_entriesFor__savedSlots
  refine br_c h0 (fun hv => ?_)
  refine lc_to (fun n i => wX_entriesFor__savedSlots_10 post v k s l c hX sk ss sl sc n (nI (cn_c (fun q => decide (ss q = v)) i)) (nI i)) 0 768 (by omega) (fun n => ?_) (fun n i _ hi ih => ?_)
  · exact br_t (Int32.le_refl _) (h hv)
  · refine br_f (nI_ge (b := 768) hi (by decide)) ⟨vp_in_nI hi (by decide), br_c (fun z => ?_) (fun z => ?_)⟩
    · rw [nI_clamp (by omega)] at z
      refine nm_r (cn_t (p := fun q => decide (ss q = v)) (decide_eq_true z)) (nm_r (nI_1 i) ih)
    · rw [nI_clamp (by omega)] at z
      refine nm_r (nI_1 i) ?_
      rw [cn_f (by simp [z])] at ih; exact ih
theorem xs_par {t q : Nat} (hq : q < 768) (e : ss q = nI t) (hu : ∀ r, r < q → ss r ≠ nI t) (h : post (nI (q / 64))) : wpX_parentOf__savedSlots post (k, s, l, c, hX, sk, ss, sl, sc) (nI t) := by
  refine lc_to (fun n i => wX_parentOf__savedSlots_2 post (nI t) k s l c hX sk ss sl sc n (nI i)) 0 q (by omega) (fun n => ?_) (fun n i _ hi ih => ?_)
  · refine br_f (nI_ge (b := 768) hq (by decide)) ⟨vp_in_nI hq (by decide), br_t (by rw [nI_clamp (by omega)]; exact e) ⟨by decide, ?_⟩⟩
    have := pk_div (a := q) (d := 64) (by omega) (by omega) (by decide)
    rw [show (nI 64 : Int32) = 64 from rfl] at this
    rw [this]; exact h
  · refine br_f (nI_ge (b := 768) (by omega) (by decide)) ⟨vp_in_nI (by omega) (by decide), br_f (by rw [nI_clamp (by omega)]; exact hu i hi) (nm_r (nI_1 i) ih)⟩
/-- is at or below: the parents' row comes to a -/
theorem xs_below_t {par : Nat → Nat} {d a j0 : Nat} (hK : rl_K sk ss) (hT : rl_T sk ss par) (hd : d < 12) (h2 : sk d = 2) (ha : a < 12) (hj : j0 < 12) (e : it_i par j0 d = a) (hm : ∀ j, j < j0 → it_i par j d ≠ a) (h : post 1) : wpX_isOrLiesBelow__savedSlots post (k, s, l, c, hX, sk, ss, sl, sc) (nI d) (nI a) := by
  refine lc_to (fun n i => wX_isOrLiesBelow__savedSlots_5 post (nI a) k s l c hX sk ss sl sc n (nI (it_i par i d)) (nI i)) 0 j0 (by omega) (fun n => ?_) (fun n i _ hi ih => ?_)
  · refine br_f (nI_ge (b := 12) hj (by decide)) (br_t (by rw [e]) h)
  · have hdi := tr_dir hK hT hd h2 i
    have nz : it_i par i d ≠ 0 := fun z => hm i hi (z.trans ((it_stay hT.1 (Nat.le_of_lt hi) z).symm.trans e))
    obtain ⟨q, a1, a2, a3, a4⟩ := hT.2.2.1 _ (by omega) hdi.1 hdi.2
    refine br_f (nI_ge (b := 12) (by omega) (by decide)) (br_f (na_ne (by omega) (by omega) (hm i hi)) (br_f (na_nz (by omega) (by omega)) ?_))
    refine xs_par a1 a2 (fun r hr z => ?_) ?_
    · have := a4 r (by omega) z; omega
    · refine nm_r (nI_1 i) ?_
      rw [it_s, a3] at ih; exact ih
theorem xs_below_f {par : Nat → Nat} {d a : Nat} (hK : rl_K sk ss) (hT : rl_T sk ss par) (hd : d < 12) (h2 : sk d = 2) (ha : a < 12) (hm : ∀ j, j < 12 → it_i par j d ≠ a) (h : post 0) : wpX_isOrLiesBelow__savedSlots post (k, s, l, c, hX, sk, ss, sl, sc) (nI d) (nI a) := by
  refine lc_to (fun n i => wX_isOrLiesBelow__savedSlots_5 post (nI a) k s l c hX sk ss sl sc n (nI (it_i par i d)) (nI i)) 0 12 (by omega) (fun n => ?_) (fun n i _ hi ih => ?_)
  · exact br_t (Int32.le_refl _) h
  · have hdi := tr_dir hK hT hd h2 i
    refine br_f (nI_ge (b := 12) (by omega) (by decide)) (br_f (na_ne (by omega) (by omega) (hm i hi)) (br_c (fun _ => h) (fun nz => ?_)))
    have nz' : it_i par i d ≠ 0 := fun z => nz (by rw [z]; rfl)
    obtain ⟨q, a1, a2, a3, a4⟩ := hT.2.2.1 _ (by omega) hdi.1 hdi.2
    refine xs_par a1 a2 (fun r hr z => ?_) ?_
    · have := a4 r (by omega) z; omega
    · refine nm_r (nI_1 i) ?_
      rw [it_s, a3] at ih; exact ih
theorem xp_in {d : Nat} (hd : d < 12) (h : post (nI (cn_c (fun q => decide (¬ s (d * 64 + q) = 0)) 64))) : wpX_entriesIn post (k, s, l, c, hX, sk, ss, sl, sc) (nI d) := by
  refine lc_to (fun n i => wX_entriesIn_4 post (nI d) k s l c hX sk ss sl sc n (nI (cn_c (fun q => decide (¬ s (d * 64 + q) = 0)) i)) (nI i)) 0 64 (by omega) (fun n => ?_) (fun n i _ hi ih => ?_)
  · exact br_t (Int32.le_refl _) h
  · refine br_f (nI_ge (b := 64) hi (by decide)) ?_
    have e : nI d * 64 + nI i = nI (d * 64 + i) := by rw [show (64 : Int32) = nI 64 from rfl, pk_mul, nI_add]
    unfold wpX_slotOf
    rw [e]
    refine ⟨vp_in_nI (by omega) (by decide), br_c (fun z => ?_) (fun z => ?_)⟩
    · rw [nI_clamp (by omega)] at z
      refine nm_r (nI_1 i) ?_
      rw [cn_f (by simp [z])] at ih; exact ih
    · rw [nI_clamp (by omega)] at z
      refine nm_r (cn_t (p := fun q => decide (¬ s (d * 64 + q) = 0)) (decide_eq_true z)) (nm_r (nI_1 i) ih)
theorem xp_free {t : Nat} (ht : t < 12) (e : k t = 0) (hu : ∀ r, r < t → k r ≠ 0) (h : post (nI t)) : wpX_leastFreeNumber post (k, s, l, c, hX, sk, ss, sl, sc) := by
  refine lc_to (fun n i => wX_leastFreeNumber_2 post k s l c hX sk ss sl sc n (nI i)) 0 t (by omega) (fun n => ?_) (fun n i _ hi ih => ?_)
  · exact br_f (nI_ge (b := 12) ht (by decide)) ⟨vp_in_nI ht (by decide), br_t (by rw [nI_clamp (by omega)]; exact e) h⟩
  · exact br_f (nI_ge (b := 12) (by omega) (by decide)) ⟨vp_in_nI (by omega) (by decide), br_f (by rw [nI_clamp (by omega)]; exact hu i hi) (nm_r (nI_1 i) ih)⟩
theorem xp_nofree (hu : ∀ r, r < 12 → k r ≠ 0) (h : post 12) : wpX_leastFreeNumber post (k, s, l, c, hX, sk, ss, sl, sc) := by
  refine lc_to (fun n i => wX_leastFreeNumber_2 post k s l c hX sk ss sl sc n (nI i)) 0 12 (by omega) (fun n => ?_) (fun n i _ hi ih => ?_)
  · exact br_t (Int32.le_refl _) h
  · exact br_f (nI_ge (b := 12) (by omega) (by decide)) ⟨vp_in_nI (by omega) (by decide), br_f (by rw [nI_clamp (by omega)]; exact hu i hi) (nm_r (nI_1 i) ih)⟩
theorem xp_there (h : post (nI (cn_c (fun q => decide (¬ k q = 0)) 12))) : wpX_thingsThere post (k, s, l, c, hX, sk, ss, sl, sc) := by
  refine lc_to (fun n i => wX_thingsThere_4 post k s l c hX sk ss sl sc n (nI (cn_c (fun q => decide (¬ k q = 0)) i)) (nI i)) 0 12 (by omega) (fun n => ?_) (fun n i _ hi ih => ?_)
  · exact br_t (Int32.le_refl _) h
  · refine br_f (nI_ge (b := 12) hi (by decide)) ⟨vp_in_nI hi (by decide), br_c (fun z => ?_) (fun z => ?_)⟩
    · rw [nI_clamp (by omega)] at z
      refine nm_r (nI_1 i) ?_
      rw [cn_f (by simp [z])] at ih; exact ih
    · rw [nI_clamp (by omega)] at z
      refine nm_r (cn_t (p := fun q => decide (¬ k q = 0)) (decide_eq_true z)) (nm_r (nI_1 i) ih)
theorem xp_op_t {v : Int32} {i0 : Nat} (hi : i0 < 4) (e : hX i0 = v) (h : post 1) : wpX_isOpen post (k, s, l, c, hX, sk, ss, sl, sc) v := by
  obtain ⟨t, ⟨ht, e⟩, hu⟩ := pk_least (fun i => i < 4 ∧ hX i = v) ⟨i0, hi, e⟩
  refine lc_to (fun n i => wX_isOpen_2 post v k s l c hX sk ss sl sc n (nI i)) 0 t (by omega) (fun n => ?_) (fun n i _ hi ih => ?_)
  · exact br_f (nI_ge (b := 4) ht (by decide)) ⟨vp_in_nI ht (by decide), br_t (by rw [nI_clamp (by omega)]; exact e) h⟩
  · exact br_f (nI_ge (b := 4) (by omega) (by decide)) ⟨vp_in_nI (by omega) (by decide), br_f (by rw [nI_clamp (by omega)]; exact fun z => hu i hi ⟨by omega, z⟩) (nm_r (nI_1 i) ih)⟩
theorem xp_op_f {v : Int32} (hu : ∀ i, i < 4 → hX i ≠ v) (h : post 0) : wpX_isOpen post (k, s, l, c, hX, sk, ss, sl, sc) v := by
  refine lc_to (fun n i => wX_isOpen_2 post v k s l c hX sk ss sl sc n (nI i)) 0 4 (by omega) (fun n => ?_) (fun n i _ hi ih => ?_)
  · exact br_t (Int32.le_refl _) h
  · exact br_f (nI_ge (b := 4) (by omega) (by decide)) ⟨vp_in_nI (by omega) (by decide), br_f (by rw [nI_clamp (by omega)]; exact hu i hi) (nm_r (nI_1 i) ih)⟩
end
end
section
/-! the reference's questions and small writes, each with a general post -/
theorem na_cl {n : Nat} (h : n < 1000000) : (nI n).toNatClampNeg = n := nI_clamp (by omega)
theorem na_ma (a b c : Nat) : nI a * nI b + nI c = nI (a * b + c) := by rw [pk_mul, nI_add]
section
variable {kY zY cY en hd nm th hY : Nat → Int32} {post : Int32 → Prop} {postS : SY → Prop} {postR : Int32 → SY → Prop}
theorem yp_is_t {o t : Nat} {a : Int32} (ho : o < 2) (ht : t < 12) (e : kY (12 * o + t) = a) (h : post 1) : wpY_is post (kY, zY, cY, en, hd, nm, th, hY) (nI o) (nI t) a := by
  have e0 : (12 : Int32) * nI o + nI t = nI (12 * o + t) := na_ma 12 o t
  refine br_f (nI_pos (by omega)) (br_f (nI_nlt (a := 11) (b := t) (by omega) (by decide)) ?_)
  rw [e0, na_cl (by omega)]
  exact ⟨vp_in_nI (by omega) (by decide), br_t e h⟩
theorem yp_is_f {o : Nat} {v a : Int32} (ho : o < 2) (hv : ¬ ∃ t, t < 12 ∧ v = nI t ∧ kY (12 * o + t) = a) (h : post 0) : wpY_is post (kY, zY, cY, en, hd, nm, th, hY) (nI o) v a := by
  by_cases z : ∃ t, t < 12 ∧ v = nI t
  · obtain ⟨t, ht, rfl⟩ := z
    have e0 : (12 : Int32) * nI o + nI t = nI (12 * o + t) := na_ma 12 o t
    refine br_f (nI_pos (by omega)) (br_f (nI_nlt (a := 11) (b := t) (by omega) (by decide)) ?_)
    rw [e0, na_cl (by omega)]
    exact ⟨vp_in_nI (by omega) (by decide), br_f (fun e => hv ⟨t, ht, rfl, e⟩) h⟩
  · rcases na_ng (by decide) z with e | ⟨e1, e2⟩
    · exact br_t e h
    · refine br_f e1 (br_t ?_ h)
      obtain ⟨j, hj, rfl⟩ := nI_of e1
      rw [nI_leI (by decide) hj] at e2
      exact nI_lt (a := 11) (by omega) hj
theorem yp_dir_t {v : Int32} (hv : is_k kY 2 v) (h : post 1) : wpY_isDir post (kY, zY, cY, en, hd, nm, th, hY) v := by
  obtain ⟨t, ht, rfl, e⟩ := hv
  unfold wpY_isDir
  exact yp_is_t (o := 0) (by omega) ht (by rw [show 12 * 0 + t = t by omega]; exact e) ⟨rfl, h⟩
theorem yp_dir_f {v : Int32} (hv : ¬ is_k kY 2 v) (h : post 0) : wpY_isDir post (kY, zY, cY, en, hd, nm, th, hY) v := by
  unfold wpY_isDir
  refine yp_is_f (o := 0) (by omega) (fun ⟨t, h1, h2, h3⟩ => hv ⟨t, h1, h2, ?_⟩) ⟨rfl, h⟩
  rw [show 12 * 0 + t = t by omega] at h3; exact h3
theorem yp_file_t {v : Int32} (hv : is_k kY 1 v) (h : post 1) : wpY_isFile post (kY, zY, cY, en, hd, nm, th, hY) v := by
  obtain ⟨t, ht, rfl, e⟩ := hv
  unfold wpY_isFile
  exact yp_is_t (o := 0) (by omega) ht (by rw [show 12 * 0 + t = t by omega]; exact e) ⟨rfl, h⟩
theorem yp_file_f {v : Int32} (hv : ¬ is_k kY 1 v) (h : post 0) : wpY_isFile post (kY, zY, cY, en, hd, nm, th, hY) v := by
  unfold wpY_isFile
  refine yp_is_f (o := 0) (by omega) (fun ⟨t, h1, h2, h3⟩ => hv ⟨t, h1, h2, ?_⟩) ⟨rfl, h⟩
  rw [show 12 * 0 + t = t by omega] at h3; exact h3
theorem yp_name_t {x : Nat} (hx : x < 64) (h : post 0) : wpY_badName post (kY, zY, cY, en, hd, nm, th, hY) (nI x) :=
  br_f (nI_pos (by omega)) (br_t (nI_le (b := 63) (by omega) (by decide)) h)
theorem yp_name_f {v : Int32} (hv : ¬ is_n v) (h : post 1) : wpY_badName post (kY, zY, cY, en, hd, nm, th, hY) v := by
  rcases na_ng (n := 64) (by decide) hv with e | ⟨e1, e2⟩
  · exact br_t e h
  · refine br_f e1 (br_f ?_ h)
    obtain ⟨j, hj, rfl⟩ := nI_of e1
    rw [nI_leI (by decide) hj] at e2
    exact nI_ge (a := 63) (by omega) hj
theorem yp_place_t {d x : Nat} (hd12 : d < 12) (h2 : kY d = 2) (hx : x < 64) (h : post 0) : wpY_badPlace post (kY, zY, cY, en, hd, nm, th, hY) (nI d) (nI x) := by
  unfold wpY_badPlace
  refine yp_dir_t ⟨d, hd12, rfl, h2⟩ ?_
  refine br_f (by decide) ?_
  refine yp_name_t hx ?_
  exact br_t rfl h
theorem yp_place_f {v w : Int32} (hv : ¬ (is_k kY 2 v ∧ is_n w)) (h : post 1) : wpY_badPlace post (kY, zY, cY, en, hd, nm, th, hY) v w := by
  unfold wpY_badPlace
  by_cases z : is_k kY 2 v
  · refine yp_dir_t z ?_
    refine br_f (by decide) ?_
    refine yp_name_f (fun e => hv ⟨z, e⟩) ?_
    exact br_f (by decide) h
  · refine yp_dir_f z ?_
    exact br_t rfl h
theorem yp_entry_t {o m e d x : Nat} (ho : o < 2) (hm : m ≤ 20) (hn : en o = nI m) (he : e < m) (h1 : hd (20 * o + e) = nI d) (h2 : nm (20 * o + e) = nI x) (hu : ∀ i, i < e → ¬ (hd (20 * o + i) = nI d ∧ nm (20 * o + i) = nI x)) (h : post (nI (20 * o + e))) : wpY_entry post (kY, zY, cY, en, hd, nm, th, hY) (nI o) (nI d) (nI x) := by
  unfold wpY_entry
  have e0 : (20 : Int32) * nI o = nI (20 * o) := pk_mul 20 o
  have hc : (20 : Int32) * nI o + en (nI o).toNatClampNeg = nI (20 * o + m) := by rw [e0, na_cl (by omega), hn, nI_add]
  refine nm_r e0 ?_
  refine lc_to (fun n i => wY_entry_6 post (nI o) (nI d) (nI x) kY zY cY en hd nm th hY n (nI (20 * o + i))) 0 e (by omega) (fun n => ?_) (fun n i _ hi ih => ?_)
  · refine ⟨vp_in_nI ho (by decide), br_f (by rw [hc]; exact nI_ge (by omega) (by omega)) ⟨vp_in_nI (by omega) (by decide), br_t (by rw [na_cl (by omega)]; exact h1) ⟨vp_in_nI (by omega) (by decide), br_t (by rw [na_cl (by omega)]; exact h2) h⟩⟩⟩
  · refine ⟨vp_in_nI ho (by decide), br_f (by rw [hc]; exact nI_ge (by omega) (by omega)) ⟨vp_in_nI (by omega) (by decide), br_c (fun z => ⟨vp_in_nI (by omega) (by decide), br_f (fun w => ?_) (nm_r (nI_1 (20 * o + i)) ih)⟩) (fun _ => nm_r (nI_1 (20 * o + i)) ih)⟩⟩
    rw [na_cl (by omega)] at z w
    exact hu i hi ⟨z, w⟩
theorem yp_entry_f {o m d x : Nat} (ho : o < 2) (hm : m ≤ 20) (hn : en o = nI m) (hu : ∀ i, i < m → ¬ (hd (20 * o + i) = nI d ∧ nm (20 * o + i) = nI x)) (h : post (-1)) : wpY_entry post (kY, zY, cY, en, hd, nm, th, hY) (nI o) (nI d) (nI x) := by
  unfold wpY_entry
  have e0 : (20 : Int32) * nI o = nI (20 * o) := pk_mul 20 o
  have hc : (20 : Int32) * nI o + en (nI o).toNatClampNeg = nI (20 * o + m) := by rw [e0, na_cl (by omega), hn, nI_add]
  refine nm_r e0 ?_
  refine lc_to (fun n i => wY_entry_6 post (nI o) (nI d) (nI x) kY zY cY en hd nm th hY n (nI (20 * o + i))) 0 m (by omega) (fun n => ?_) (fun n i _ hi ih => ?_)
  · exact ⟨vp_in_nI ho (by decide), br_t (by rw [hc]; exact Int32.le_refl _) h⟩
  · refine ⟨vp_in_nI ho (by decide), br_f (by rw [hc]; exact nI_ge (by omega) (by omega)) ⟨vp_in_nI (by omega) (by decide), br_c (fun z => ⟨vp_in_nI (by omega) (by decide), br_f (fun w => ?_) (nm_r (nI_1 (20 * o + i)) ih)⟩) (fun _ => nm_r (nI_1 (20 * o + i)) ih)⟩⟩
    rw [na_cl (by omega)] at z w
    exact hu i hi ⟨z, w⟩
theorem yp_links {m : Nat} {v : Int32} (hm : m ≤ 20) (hn : en 0 = nI m) (h : post (nI (cn_c (fun e => decide (th e = v)) m))) : wpY_linksOf post (kY, zY, cY, en, hd, nm, th, hY) v := by
  refine lc_to (fun n i => wY_linksOf_4 post v kY zY cY en hd nm th hY n (nI (cn_c (fun e => decide (th e = v)) i)) (nI i)) 0 m (by omega) (fun n => ?_) (fun n i _ hi ih => ?_)
  · exact br_t (by rw [hn]; exact Int32.le_refl _) h
  · refine br_f (by rw [hn]; exact nI_ge hi (by omega)) ⟨vp_in_nI (by omega) (by decide), br_c (fun z => ?_) (fun z => ?_)⟩
    · rw [na_cl (by omega)] at z
      refine nm_r (cn_t (p := fun e => decide (th e = v)) (decide_eq_true z)) (nm_r (nI_1 i) ih)
    · rw [na_cl (by omega)] at z
      refine nm_r (nI_1 i) ?_
      rw [cn_f (by simp [z])] at ih; exact ih
theorem yp_cnt_t {m d : Nat} (hm : m ≤ 20) (hn : en 0 = nI m) (hd12 : d < 12) (h2 : kY d = 2) (h : post (nI (cn_c (fun e => decide (hd e = nI d)) m))) : wpY_count post (kY, zY, cY, en, hd, nm, th, hY) (nI d) := by
  unfold wpY_count
  refine yp_dir_t ⟨d, hd12, rfl, h2⟩ ?_
  refine br_f (by decide) ?_
  refine lc_to (fun n i => wY_count_14 post (nI d) kY zY cY en hd nm th hY n (nI (cn_c (fun e => decide (hd e = nI d)) i)) (nI i)) 0 m (by omega) (fun n => ?_) (fun n i _ hi ih => ?_)
  · exact br_t (by rw [hn]; exact Int32.le_refl _) h
  · refine br_f (by rw [hn]; exact nI_ge hi (by omega)) ⟨vp_in_nI (by omega) (by decide), br_c (fun z => ?_) (fun z => ?_)⟩
    · rw [na_cl (by omega)] at z
      refine nm_r (cn_t (p := fun e => decide (hd e = nI d)) (decide_eq_true z)) (nm_r (nI_1 i) ih)
    · rw [na_cl (by omega)] at z
      refine nm_r (nI_1 i) ?_
      rw [cn_f (by simp [z])] at ih; exact ih
theorem yp_cnt_f {v : Int32} (hv : ¬ is_k kY 2 v) (h : post (-1)) : wpY_count post (kY, zY, cY, en, hd, nm, th, hY) v := by
  unfold wpY_count
  refine yp_dir_f hv ?_
  exact br_t rfl h
theorem yp_op_t {v : Int32} {i0 : Nat} (hi : i0 < 4) (e : hY i0 = v) (h : post 1) : wpY_isOpen post (kY, zY, cY, en, hd, nm, th, hY) v := by
  obtain ⟨t, ⟨ht, e⟩, hu⟩ := pk_least (fun i => i < 4 ∧ hY i = v) ⟨i0, hi, e⟩
  refine lc_to (fun n i => wY_isOpen_2 post v kY zY cY en hd nm th hY n (nI i)) 0 t (by omega) (fun n => ?_) (fun n i _ hi ih => ?_)
  · exact br_f (nI_ge (b := 4) ht (by decide)) ⟨vp_in_nI ht (by decide), br_t (by rw [na_cl (by omega)]; exact e) h⟩
  · exact br_f (nI_ge (b := 4) (by omega) (by decide)) ⟨vp_in_nI (by omega) (by decide), br_f (by rw [na_cl (by omega)]; exact fun z => hu i hi ⟨by omega, z⟩) (nm_r (nI_1 i) ih)⟩
theorem yp_op_f {v : Int32} (hu : ∀ i, i < 4 → hY i ≠ v) (h : post 0) : wpY_isOpen post (kY, zY, cY, en, hd, nm, th, hY) v := by
  refine lc_to (fun n i => wY_isOpen_2 post v kY zY cY en hd nm th hY n (nI i)) 0 4 (by omega) (fun n => ?_) (fun n i _ hi ih => ?_)
  · exact br_t (Int32.le_refl _) h
  · exact br_f (nI_ge (b := 4) (by omega) (by decide)) ⟨vp_in_nI (by omega) (by decide), br_f (by rw [na_cl (by omega)]; exact hu i hi) (nm_r (nI_1 i) ih)⟩
theorem yp_things (h : post (nI (cn_c (fun q => decide (¬ kY q = 0)) 12))) : wpY_countThings post (kY, zY, cY, en, hd, nm, th, hY) := by
  refine lc_to (fun n i => wY_countThings_4 post kY zY cY en hd nm th hY n (nI (cn_c (fun q => decide (¬ kY q = 0)) i)) (nI i)) 0 12 (by omega) (fun n => ?_) (fun n i _ hi ih => ?_)
  · exact br_t (Int32.le_refl _) h
  · refine br_f (nI_ge (b := 12) hi (by decide)) ⟨vp_in_nI (by omega) (by decide), br_c (fun z => ?_) (fun z => ?_)⟩
    · rw [na_cl (by omega)] at z
      refine nm_r (nI_1 i) ?_
      rw [cn_f (by simp [z])] at ih; exact ih
    · rw [na_cl (by omega)] at z
      refine nm_r (cn_t (p := fun q => decide (¬ kY q = 0)) (decide_eq_true z)) (nm_r (nI_1 i) ih)
theorem yp_add {m : Nat} {a b t : Int32} (hm : m < 40) (hn : en 0 = nI m) (h : postS (kY, zY, cY, upd en 0 (nI (m + 1)), upd hd m a, upd nm m b, upd th m t, hY)) : wpY_add postS (kY, zY, cY, en, hd, nm, th, hY) a b t := by
  unfold wpY_add
  refine nm_r hn ?_
  refine ⟨vp_in_nI hm (by decide), nm_r (by rw [na_cl (by omega)]) ⟨vp_in_nI hm (by decide), nm_r (by rw [na_cl (by omega)]) ⟨vp_in_nI hm (by decide), nm_r (by rw [na_cl (by omega)]) (nm_r (by rw [hn, nI_1]) h)⟩⟩⟩
theorem yp_take {m e : Nat} (hm : m < 40) (he : e < 40) (hn : en 0 = nI (m + 1)) (h : postS (kY, zY, cY, upd en 0 (nI m), upd hd e (hd m), upd nm e (nm m), upd th e (th m), hY)) : wpY_take postS (kY, zY, cY, en, hd, nm, th, hY) (nI e) := by
  unfold wpY_take
  refine nm_r (e' := upd en 0 (nI m)) (by rw [hn, nI_pred]) (nm_r (e' := nI m) pk_us ?_)
  refine ⟨vp_in_nI hm (by decide), vp_in_nI he (by decide), nm_r (by rw [na_cl (by omega), na_cl (by omega)]) ⟨vp_in_nI hm (by decide), vp_in_nI he (by decide), nm_r (by rw [na_cl (by omega), na_cl (by omega)]) ⟨vp_in_nI hm (by decide), vp_in_nI he (by decide), nm_r (by rw [na_cl (by omega), na_cl (by omega)]) h⟩⟩⟩
/-- nothing holds t: it goes -/
theorem yp_settle_t {m t : Nat} (hm : m ≤ 20) (hn : en 0 = nI m) (ht : t < 12) (h1 : ∀ e, e < m → th e ≠ nI t) (h2 : ∀ i, i < 4 → hY i ≠ nI t) (h : postR 1 (upd kY t 0, zY, cY, en, hd, nm, th, hY)) : wpY_settle postR (kY, zY, cY, en, hd, nm, th, hY) (nI t) := by
  unfold wpY_settle
  refine yp_links hm hn ?_
  rw [cn_zero (fun e he => decide_eq_false (h1 e he))]
  refine br_t rfl ?_
  refine yp_op_f h2 ?_
  refine br_t rfl ?_
  exact br_f (by decide) ⟨vp_in_nI (by omega) (by decide), nm_r (by rw [na_cl (by omega)]) ⟨rfl, h⟩⟩
theorem yp_settle_f {m t : Nat} (hm : m ≤ 20) (hn : en 0 = nI m) (ht : t < 12) (hu : (∃ e, e < m ∧ th e = nI t) ∨ ∃ i, i < 4 ∧ hY i = nI t) (h : postR 0 (kY, zY, cY, en, hd, nm, th, hY)) : wpY_settle postR (kY, zY, cY, en, hd, nm, th, hY) (nI t) := by
  unfold wpY_settle
  refine yp_links hm hn ?_
  have hz : wY_settle_20 postR (nI t) kY zY cY en hd nm th hY := br_t rfl ⟨rfl, h⟩
  refine br_c (fun z => ?_) (fun _ => hz)
  rcases hu with ⟨e, he, e1⟩ | ⟨i, hi, e1⟩
  · have := cn_le (fun e => decide (th e = nI t)) m
    have z0 := na_z (by omega) z
    exact (of_decide_eq_false (cn_all z0 e he) e1).elim
  · refine yp_op_t hi e1 ?_
    exact br_f (by decide) hz
end
end
section
/-! the class's own writes -/
section
variable {k s l c hX sk ss sl sc : Nat → Int32} {post : SX → Prop}
theorem xp_setlen {t n0 : Nat} (ht : t < 12) (hn : n0 ≤ 48) (h : post (k, s, upd l t (nI n0), zf_c c (t * 48 + n0) (t * 48 + 48), hX, sk, ss, sl, sc)) : wpX_setLength post (k, s, l, c, hX, sk, ss, sl, sc) (nI t) (nI n0) := by
  refine lc_to2 (fun n i => wX_setLength_2 post (nI t) (nI n0) n (nI i) k s l (zf_c c (t * 48 + n0) (t * 48 + i)) hX sk ss sl sc) n0 48 hn (fun A => ?_) (fun n => ?_) (fun n i h0 hi ih => ?_)
  · rw [zf_e] at A; exact A
  · exact br_t (Int32.le_refl _) ⟨vp_in_nI ht (by decide), nm_r (by rw [na_cl (by omega)]) h⟩
  · have e0 : nI t * 48 + nI i = nI (t * 48 + i) := na_ma t 48 i
    refine br_f (nI_ge (b := 48) hi (by decide)) ?_
    rw [e0, na_cl (by omega)]
    exact ⟨vp_in_nI (by omega) (by decide), nm_r (zf_u c (by omega)) (nm_r (nI_1 i) ih)⟩
theorem xp_drop_t {t : Nat} (t0 : 0 < t) (ht : t < 12) (ns : ∀ q, q < 768 → s q ≠ nI t) (nh : ∀ i, i < 4 → hX i ≠ nI t) (h : post (upd k t 0, s, upd l t 0, zf_c c (t * 48) (t * 48 + 48), hX, sk, ss, sl, sc)) : wpX_dropIfUnused post (k, s, l, c, hX, sk, ss, sl, sc) (nI t) := by
  unfold wpX_dropIfUnused
  refine xp_for (fun z => (na_nz (by omega) t0 z).elim) (fun _ => ?_)
  rw [cn_zero (fun q hq => decide_eq_false (ns q hq))]
  refine br_f (by decide) ?_
  refine xp_op_f nh ?_
  refine br_t rfl ?_
  refine xp_setlen (n0 := 0) ht (by omega) ?_
  exact ⟨vp_in_nI ht (by decide), nm_r (by rw [na_cl (by omega)]) h⟩
theorem xp_drop_f {t : Nat} (t0 : 0 < t) (ht : t < 12) (hu : (∃ q, q < 768 ∧ s q = nI t) ∨ ∃ i, i < 4 ∧ hX i = nI t) (h : post (k, s, l, c, hX, sk, ss, sl, sc)) : wpX_dropIfUnused post (k, s, l, c, hX, sk, ss, sl, sc) (nI t) := by
  unfold wpX_dropIfUnused
  refine xp_for (fun z => (na_nz (by omega) t0 z).elim) (fun _ => ?_)
  have hle := cn_le (fun q => decide (s q = nI t)) 768
  rcases hu with ⟨q, hq, e⟩ | ⟨i, hi, e⟩
  · exact br_t (nI_lt (a := 0) (cn_pos (p := fun q => decide (s q = nI t)) (decide_eq_true e) hq) (by omega)) h
  · refine br_c (fun _ => h) (fun _ => ?_)
    refine xp_op_t hi e ?_
    exact br_f (by decide) h
theorem xc_kinds (h : post (k, s, l, c, hX, cp_c k sk 12, ss, sl, sc)) : wpX_copy__kinds_savedKinds post (k, s, l, c, hX, sk, ss, sl, sc) 12 := by
  refine lc_to2 (fun n i => wX_copy__kinds_savedKinds_2 post 12 n (nI i) k s l c hX (cp_c k sk i) ss sl sc) 0 12 (by omega) (fun A => ?_) (fun n => ?_) (fun n i h0 hi ih => ?_)
  · rw [cp_0] at A; exact A
  · exact br_t (Int32.le_refl _) h
  · refine br_f (nI_ge (b := 12) hi (by decide)) ?_
    rw [na_cl (by omega)]
    exact ⟨vp_in_nI hi (by decide), vp_in_nI hi (by decide), nm_r (cp_u k sk i) (nm_r (nI_1 i) ih)⟩
theorem xc_savedKinds (h : post (cp_c sk k 12, s, l, c, hX, sk, ss, sl, sc)) : wpX_copy__savedKinds_kinds post (k, s, l, c, hX, sk, ss, sl, sc) 12 := by
  refine lc_to2 (fun n i => wX_copy__savedKinds_kinds_2 post 12 n (nI i) (cp_c sk k i) s l c hX sk ss sl sc) 0 12 (by omega) (fun A => ?_) (fun n => ?_) (fun n i h0 hi ih => ?_)
  · rw [cp_0] at A; exact A
  · exact br_t (Int32.le_refl _) h
  · refine br_f (nI_ge (b := 12) hi (by decide)) ?_
    rw [na_cl (by omega)]
    exact ⟨vp_in_nI hi (by decide), vp_in_nI hi (by decide), nm_r (cp_u sk k i) (nm_r (nI_1 i) ih)⟩
theorem xc_slots (h : post (k, s, l, c, hX, sk, cp_c s ss 768, sl, sc)) : wpX_copy__slots_savedSlots post (k, s, l, c, hX, sk, ss, sl, sc) 768 := by
  refine lc_to2 (fun n i => wX_copy__slots_savedSlots_2 post 768 n (nI i) k s l c hX sk (cp_c s ss i) sl sc) 0 768 (by omega) (fun A => ?_) (fun n => ?_) (fun n i h0 hi ih => ?_)
  · rw [cp_0] at A; exact A
  · exact br_t (Int32.le_refl _) h
  · refine br_f (nI_ge (b := 768) hi (by decide)) ?_
    rw [na_cl (by omega)]
    exact ⟨vp_in_nI hi (by decide), vp_in_nI hi (by decide), nm_r (cp_u s ss i) (nm_r (nI_1 i) ih)⟩
theorem xc_savedSlots (h : post (k, cp_c ss s 768, l, c, hX, sk, ss, sl, sc)) : wpX_copy__savedSlots_slots post (k, s, l, c, hX, sk, ss, sl, sc) 768 := by
  refine lc_to2 (fun n i => wX_copy__savedSlots_slots_2 post 768 n (nI i) k (cp_c ss s i) l c hX sk ss sl sc) 0 768 (by omega) (fun A => ?_) (fun n => ?_) (fun n i h0 hi ih => ?_)
  · rw [cp_0] at A; exact A
  · exact br_t (Int32.le_refl _) h
  · refine br_f (nI_ge (b := 768) hi (by decide)) ?_
    rw [na_cl (by omega)]
    exact ⟨vp_in_nI hi (by decide), vp_in_nI hi (by decide), nm_r (cp_u ss s i) (nm_r (nI_1 i) ih)⟩
theorem xc_lengths (h : post (k, s, l, c, hX, sk, ss, cp_c l sl 12, sc)) : wpX_copy__lengths_savedLengths post (k, s, l, c, hX, sk, ss, sl, sc) 12 := by
  refine lc_to2 (fun n i => wX_copy__lengths_savedLengths_2 post 12 n (nI i) k s l c hX sk ss (cp_c l sl i) sc) 0 12 (by omega) (fun A => ?_) (fun n => ?_) (fun n i h0 hi ih => ?_)
  · rw [cp_0] at A; exact A
  · exact br_t (Int32.le_refl _) h
  · refine br_f (nI_ge (b := 12) hi (by decide)) ?_
    rw [na_cl (by omega)]
    exact ⟨vp_in_nI hi (by decide), vp_in_nI hi (by decide), nm_r (cp_u l sl i) (nm_r (nI_1 i) ih)⟩
theorem xc_savedLengths (h : post (k, s, cp_c sl l 12, c, hX, sk, ss, sl, sc)) : wpX_copy__savedLengths_lengths post (k, s, l, c, hX, sk, ss, sl, sc) 12 := by
  refine lc_to2 (fun n i => wX_copy__savedLengths_lengths_2 post 12 n (nI i) k s (cp_c sl l i) c hX sk ss sl sc) 0 12 (by omega) (fun A => ?_) (fun n => ?_) (fun n i h0 hi ih => ?_)
  · rw [cp_0] at A; exact A
  · exact br_t (Int32.le_refl _) h
  · refine br_f (nI_ge (b := 12) hi (by decide)) ?_
    rw [na_cl (by omega)]
    exact ⟨vp_in_nI hi (by decide), vp_in_nI hi (by decide), nm_r (cp_u sl l i) (nm_r (nI_1 i) ih)⟩
theorem xc_cells (h : post (k, s, l, c, hX, sk, ss, sl, cp_c c sc 576)) : wpX_copy__cells_savedCells post (k, s, l, c, hX, sk, ss, sl, sc) 576 := by
  refine lc_to2 (fun n i => wX_copy__cells_savedCells_2 post 576 n (nI i) k s l c hX sk ss sl (cp_c c sc i)) 0 576 (by omega) (fun A => ?_) (fun n => ?_) (fun n i h0 hi ih => ?_)
  · rw [cp_0] at A; exact A
  · exact br_t (Int32.le_refl _) h
  · refine br_f (nI_ge (b := 576) hi (by decide)) ?_
    rw [na_cl (by omega)]
    exact ⟨vp_in_nI hi (by decide), vp_in_nI hi (by decide), nm_r (cp_u c sc i) (nm_r (nI_1 i) ih)⟩
theorem xc_savedCells (h : post (k, s, l, cp_c sc c 576, hX, sk, ss, sl, sc)) : wpX_copy__savedCells_cells post (k, s, l, c, hX, sk, ss, sl, sc) 576 := by
  refine lc_to2 (fun n i => wX_copy__savedCells_cells_2 post 576 n (nI i) k s l (cp_c sc c i) hX sk ss sl sc) 0 576 (by omega) (fun A => ?_) (fun n => ?_) (fun n i h0 hi ih => ?_)
  · rw [cp_0] at A; exact A
  · exact br_t (Int32.le_refl _) h
  · refine br_f (nI_ge (b := 576) hi (by decide)) ?_
    rw [na_cl (by omega)]
    exact ⟨vp_in_nI hi (by decide), vp_in_nI hi (by decide), nm_r (cp_u sc c i) (nm_r (nI_1 i) ih)⟩
theorem xp_leave {t : Nat} (ht : t < 12) (h : post (k, s, l, c, hX, upd sk t 0, ss, upd sl t 0, zf_c sc (t * 48) (t * 48 + 48))) : wpX_leaveOutOfSaved post (k, s, l, c, hX, sk, ss, sl, sc) (nI t) := by
  unfold wpX_leaveOutOfSaved
  refine ⟨vp_in_nI ht (by decide), nm_r (e' := upd sk t 0) (by rw [na_cl (by omega)]) ⟨vp_in_nI ht (by decide), nm_r (e' := upd sl t 0) (by rw [na_cl (by omega)]) ?_⟩⟩
  refine lc_to2 (fun n i => wX_leaveOutOfSaved_16 post (nI t) n (nI i) k s l c hX (upd sk t 0) ss (upd sl t 0) (zf_c sc (t * 48) (t * 48 + i))) 0 48 (by omega) (fun A => ?_) (fun n => ?_) (fun n i h0 hi ih => ?_)
  · rw [Nat.add_zero, zf_e] at A; exact A
  · exact br_t (Int32.le_refl _) h
  · have e0 : nI t * 48 + nI i = nI (t * 48 + i) := na_ma t 48 i
    refine br_f (nI_ge (b := 48) hi (by decide)) ?_
    rw [e0, na_cl (by omega)]
    exact ⟨vp_in_nI (by omega) (by decide), nm_r (zf_u sc (by omega)) (nm_r (nI_1 i) ih)⟩
/-- what saving leaves behind -/
def sv_x (k s l c sk sl sc : Nat → Int32) (t : Nat) : Prop :=
  (k t = 1 ∧ (∀ q, q < 768 → s q ≠ nI t) ∧ sk t = 0 ∧ sl t = 0 ∧ ∀ i, i < 48 → sc (t * 48 + i) = 0) ∨
  ((k t = 1 → ∃ q, q < 768 ∧ s q = nI t) ∧ sk t = k t ∧ sl t = l t ∧ ∀ i, i < 48 → sc (t * 48 + i) = c (t * 48 + i))
theorem xp_save (k0 : k 0 = 2) (h : ∀ sk' sl' sc', (∀ t, t < 12 → sv_x k s l c sk' sl' sc' t) → post (k, s, l, c, hX, sk', cp_c s ss 768, sl', sc')) : wpX_save post (k, s, l, c, hX, sk, ss, sl, sc) := by
  unfold wpX_save
  refine xc_kinds ?_
  refine xc_slots ?_
  refine xc_lengths ?_
  refine xc_cells ?_
  refine loop_0 (σ := (Nat → Int32) × (Nat → Int32) × (Nat → Int32)) (fun n i w => wX_save_56 post n (nI i) k s l c hX w.1 (cp_c s ss 768) w.2.1 w.2.2)
    (fun i w => (∀ t, t < 12 → t < i → sv_x k s l c w.1 w.2.1 w.2.2 t) ∧ ∀ t, t < 12 → i ≤ t → w.1 t = k t ∧ w.2.1 t = l t ∧ ∀ j, j < 48 → w.2.2 (t * 48 + j) = c (t * 48 + j)) 12 (cp_c k sk 12, cp_c l sl 12, cp_c c sc 576) ?_ ?_ ?_
  · refine ⟨fun t _ h => by omega, fun t ht _ => ⟨cp_in ht, cp_in ht, fun j hj => cp_in (by omega)⟩⟩
  · rintro n ⟨sk', sl', sc'⟩ ⟨I1, _⟩
    exact br_t (Int32.le_refl _) (h sk' sl' sc' (fun t ht => I1 t ht ht))
  · rintro n i ⟨sk', sl', sc'⟩ hi ⟨I1, I2⟩ ih
    dsimp only at I1 I2 ih ⊢
    obtain ⟨a1, a2, a3⟩ := I2 i hi (Nat.le_refl i)
    refine br_f (nI_ge (b := 12) hi (by decide)) ?_
    have keep : (k i = 1 → ∃ q, q < 768 ∧ s q = nI i) → wX_save_56 post n (nI i + 1) k s l c hX sk' (cp_c s ss 768) sl' sc' := fun z => by
      rw [nI_1]
      refine ih (sk', sl', sc') ⟨fun t ht h => ?_, fun t ht h => I2 t ht (by omega)⟩
      by_cases e : t = i
      · subst e; exact Or.inr ⟨z, a1, a2, a3⟩
      · exact I1 t ht (by omega)
    by_cases kf : k i = 1
    · have i0 : 0 < i := by
        rcases Nat.eq_zero_or_pos i with z | z
        · rw [z, k0] at kf; exact absurd kf (by decide)
        · exact z
      refine xp_file_t ⟨i, hi, rfl, kf⟩ ?_
      refine br_f (by decide) ?_
      refine xp_for (fun z => (na_nz (by omega) i0 z).elim) (fun _ => ?_)
      refine br_c (fun z => ?_) (fun z => nm_e (keep (fun _ => ef_n z)))
      have nz := ef_z z
      refine xp_leave hi ?_
      refine nm_r (nI_1 i) ?_
      refine ih (upd sk' i 0, upd sl' i 0, zf_c sc' (i * 48) (i * 48 + 48)) ⟨fun t ht h => ?_, fun t ht h => ?_⟩
      · by_cases e : t = i
        · subst e; exact Or.inl ⟨kf, nz, pk_us, pk_us, fun j hj => zf_in (by omega) (by omega)⟩
        · rcases I1 t ht (by omega) with ⟨b1, b2, b3, b4, b5⟩ | ⟨b1, b2, b3, b4⟩
          · exact Or.inl ⟨b1, b2, (pk_un e).trans b3, (pk_un e).trans b4, fun j hj => (zf_out (by omega)).trans (b5 j hj)⟩
          · exact Or.inr ⟨b1, (pk_un e).trans b2, (pk_un e).trans b3, fun j hj => (zf_out (by omega)).trans (b4 j hj)⟩
      · obtain ⟨b1, b2, b3⟩ := I2 t ht (by omega)
        exact ⟨(pk_un (by omega)).trans b1, (pk_un (by omega)).trans b2, fun j hj => (zf_out (by omega)).trans (b3 j hj)⟩
    · refine xp_file_f (fun ⟨t, h1, h2, h3⟩ => ?_) ?_
      · rw [na_eq (by omega) (by omega) h2] at kf; exact kf h3
      · exact br_t rfl (nm_e (keep (fun z => (kf z).elim)))
theorem xp_back (h : post (cp_c sk k 12, cp_c ss s 768, cp_c sl l 12, cp_c sc c 576, zf_c hX 0 4, sk, ss, sl, sc)) : wpX_goBackToSaved post (k, s, l, c, hX, sk, ss, sl, sc) := by
  unfold wpX_goBackToSaved
  refine xc_savedKinds ?_
  refine xc_savedSlots ?_
  refine xc_savedLengths ?_
  refine xc_savedCells ?_
  refine lc_to2 (fun n i => wX_goBackToSaved_56 post n (nI i) (cp_c sk k 12) (cp_c ss s 768) (cp_c sl l 12) (cp_c sc c 576) (zf_c hX 0 i) sk ss sl sc) 0 4 (by omega) (fun A => ?_) (fun n => ?_) (fun n i h0 hi ih => ?_)
  · rw [zf_e] at A; exact A
  · exact br_t (Int32.le_refl _) h
  · refine br_f (nI_ge (b := 4) hi (by decide)) ?_
    rw [na_cl (by omega)]
    exact ⟨vp_in_nI hi (by decide), nm_r (zf_u hX (by omega)) (nm_r (nI_1 i) ih)⟩
end
end
section
/-! the reference's own longer walks -/
def hm_c (a : Nat → Int32) (n : Nat) : Nat → Int32 := fun i => if i < n then -1 else a i
theorem hm_0 (a : Nat → Int32) : hm_c a 0 = a := funext fun i => if_neg (by omega)
theorem hm_in {a : Nat → Int32} {n i : Nat} (h : i < n) : hm_c a n i = -1 := if_pos h
theorem hm_u (a : Nat → Int32) (n : Nat) : upd (hm_c a n) n (-1) = hm_c a (n + 1) := by
  funext i
  by_cases e : i = n
  · rw [e, pk_us, hm_in (by omega)]
  · rw [pk_un e]
    show (if i < n then -1 else a i) = if i < n + 1 then -1 else a i
    by_cases e2 : i < n
    · rw [if_pos e2, if_pos (by omega)]
    · rw [if_neg e2, if_neg (by omega)]
section
variable {kY zY cY en hd nm th hY : Nat → Int32} {post : SY → Prop} {postR : Int32 → SY → Prop} {postV : Int32 → Prop}
theorem yp_resize {t n0 L : Nat} (ht : t < 12) (hL : zY t = nI L) (h48 : L ≤ 48) (hn : n0 ≤ 48) (h : post (kY, upd zY t (nI n0), zf_c cY (t * 48 + L) (t * 48 + n0), en, hd, nm, th, hY)) : wpY_resize post (kY, zY, cY, en, hd, nm, th, hY) (nI t) (nI n0) := by
  unfold wpY_resize
  refine ⟨vp_in_nI (by omega) (by decide), nm_r (e' := nI L) (by rw [na_cl (by omega)]; exact hL) ?_⟩
  by_cases hl : L ≤ n0
  · refine lc_to2 (fun n i => wY_resize_7 post (nI t) (nI n0) n (nI i) kY zY (zf_c cY (t * 48 + L) (t * 48 + i)) en hd nm th hY) L n0 hl (fun A => ?_) (fun n => ?_) (fun n i h0 hi ih => ?_)
    · rw [zf_e] at A; exact A
    · exact br_t (Int32.le_refl _) ⟨vp_in_nI (by omega) (by decide), nm_r (by rw [na_cl (by omega)]) h⟩
    · have e0 : 48 * nI t + nI i = nI (t * 48 + i) := by rw [Nat.mul_comm]; exact na_ma 48 t i
      refine br_f (nI_ge hi (by omega)) ?_
      rw [e0, na_cl (by omega)]
      exact ⟨vp_in_nI (by omega) (by decide), nm_r (zf_u cY (by omega)) (nm_r (nI_1 i) ih)⟩
  · have e : zf_c cY (t * 48 + L) (t * 48 + n0) = cY := funext fun i => zf_out (by omega)
    rw [e] at h
    refine ⟨1, br_t (nI_le (by omega) (by omega)) ⟨vp_in_nI (by omega) (by decide), nm_r (by rw [na_cl (by omega)]) h⟩⟩
theorem yp_copy {o p : Nat} (ho : o < 2) (hp : p < 2) (hop : o ≠ p) (h : post (ch_c kY (12 * o) (12 * p) 12, ch_c zY (12 * o) (12 * p) 12, ch_c cY (576 * o) (576 * p) 576, upd en p (en o), ch_c hd (20 * o) (20 * p) 20, ch_c nm (20 * o) (20 * p) 20, ch_c th (20 * o) (20 * p) 20, hY)) : wpY_copy post (kY, zY, cY, en, hd, nm, th, hY) (nI o) (nI p) := by
  unfold wpY_copy
  refine lc_to2 (fun n i => wY_copy_2 post (nI o) (nI p) n (nI i) (ch_c kY (12 * o) (12 * p) i) (ch_c zY (12 * o) (12 * p) i) cY en hd nm th hY) 0 12 (by omega) (fun A => ?_) (fun n => ?_) (fun n i h0 hi ih => ?_)
  · rw [ch_0, ch_0] at A; exact A
  · refine br_t (Int32.le_refl _) ?_
    refine lc_to2 (fun n i => wY_copy_60 post (nI o) (nI p) n (nI i) (ch_c kY (12 * o) (12 * p) 12) (ch_c zY (12 * o) (12 * p) 12) (ch_c cY (576 * o) (576 * p) i) en hd nm th hY) 0 576 (by omega) (fun A => ?_) (fun n => ?_) (fun n i h0 hi ih => ?_)
    · rw [ch_0] at A; exact A
    · refine br_t (Int32.le_refl _) ⟨vp_in_nI ho (by decide), vp_in_nI hp (by decide), nm_r (e' := upd en p (en o)) (by rw [na_cl (by omega), na_cl (by omega)]) ?_⟩
      refine lc_to2 (fun n i => wY_copy_111 post (nI o) (nI p) n (nI i) (ch_c kY (12 * o) (12 * p) 12) (ch_c zY (12 * o) (12 * p) 12) (ch_c cY (576 * o) (576 * p) 576) (upd en p (en o)) (ch_c hd (20 * o) (20 * p) i) (ch_c nm (20 * o) (20 * p) i) (ch_c th (20 * o) (20 * p) i) hY) 0 20 (by omega) (fun A => ?_) (fun n => ?_) (fun n i h0 hi ih => ?_)
      · rw [ch_0, ch_0, ch_0] at A; exact A
      · exact br_t (Int32.le_refl _) h
      · have e1 : 20 * nI o + nI i = nI (20 * o + i) := na_ma 20 o i
        have e2 : 20 * nI p + nI i = nI (20 * p + i) := na_ma 20 p i
        refine br_f (nI_ge (b := 20) hi (by decide)) ?_
        rw [e1, e2, na_cl (n := 20 * o + i) (by omega), na_cl (n := 20 * p + i) (by omega), ch_out (a := hd) (by omega), ch_out (a := nm) (by omega), ch_out (a := th) (by omega)]
        have v1 : vp_in (nI (20 * o + i)) 40 := vp_in_nI (by omega) (by decide)
        have v2 : vp_in (nI (20 * p + i)) 40 := vp_in_nI (by omega) (by decide)
        exact ⟨v1, v2, nm_r (ch_u hd (20 * o) (20 * p) i) ⟨v1, v2, nm_r (ch_u nm (20 * o) (20 * p) i) ⟨v1, v2, nm_r (ch_u th (20 * o) (20 * p) i) (nm_r (nI_1 i) ih)⟩⟩⟩
    · have e1 : 576 * nI o + nI i = nI (576 * o + i) := na_ma 576 o i
      have e2 : 576 * nI p + nI i = nI (576 * p + i) := na_ma 576 p i
      refine br_f (nI_ge (b := 576) hi (by decide)) ?_
      rw [e1, e2, na_cl (n := 576 * o + i) (by omega), na_cl (n := 576 * p + i) (by omega), ch_out (a := cY) (by omega)]
      exact ⟨vp_in_nI (by omega) (by decide), vp_in_nI (by omega) (by decide), nm_r (ch_u cY (576 * o) (576 * p) i) (nm_r (nI_1 i) ih)⟩
  · have e1 : 12 * nI o + nI i = nI (12 * o + i) := na_ma 12 o i
    have e2 : 12 * nI p + nI i = nI (12 * p + i) := na_ma 12 p i
    refine br_f (nI_ge (b := 12) hi (by decide)) ?_
    rw [e1, e2, na_cl (n := 12 * o + i) (by omega), na_cl (n := 12 * p + i) (by omega), ch_out (a := kY) (by omega), ch_out (a := zY) (by omega)]
    have v1 : vp_in (nI (12 * o + i)) 24 := vp_in_nI (by omega) (by decide)
    have v2 : vp_in (nI (12 * p + i)) 24 := vp_in_nI (by omega) (by decide)
    exact ⟨v1, v2, nm_r (ch_u kY (12 * o) (12 * p) i) ⟨v1, v2, nm_r (ch_u zY (12 * o) (12 * p) i) (nm_r (nI_1 i) ih)⟩⟩
/-- what saving leaves behind, in the reference's kinds -/
def sv_y (kY th : Nat → Int32) (m : Nat) (k' : Nat → Int32) (t : Nat) : Prop :=
  (kY t = 1 ∧ (∀ e, e < m → th e ≠ nI t) ∧ k' (12 + t) = 0) ∨ ((kY t = 1 → ∃ e, e < m ∧ th e = nI t) ∧ k' (12 + t) = kY t)
theorem yp_sync {m : Nat} (hm : m ≤ 20) (hn : en 0 = nI m) (h : ∀ k', (∀ t, t < 12 → k' t = kY t) → (∀ t, t < 12 → sv_y kY th m k' t) → postR (nI (cn_c (fun q => decide (¬ kY q = 0)) 12)) (k', ch_c zY 0 12 12, ch_c cY 0 576 576, upd en 1 (en 0), ch_c hd 0 20 20, ch_c nm 0 20 20, ch_c th 0 20 20, hY)) : wpY_sync postR (kY, zY, cY, en, hd, nm, th, hY) := by
  unfold wpY_sync
  refine yp_copy (o := 0) (p := 1) (by omega) (by omega) (by omega) ?_
  have hn' : upd en 1 (en 0) 0 = nI m := (pk_un (by omega)).trans hn
  have ht' : ∀ e, e < m → ch_c th (20 * 0) (20 * 1) 20 e = th e := fun e he => ch_out (by omega)
  refine loop_0 (σ := Nat → Int32) (fun n i w => wY_sync_8 postR n (nI i) w (ch_c zY (12 * 0) (12 * 1) 12) (ch_c cY (576 * 0) (576 * 1) 576) (upd en 1 (en 0)) (ch_c hd (20 * 0) (20 * 1) 20) (ch_c nm (20 * 0) (20 * 1) 20) (ch_c th (20 * 0) (20 * 1) 20) hY)
    (fun i w => (∀ t, t < 12 → w t = kY t) ∧ (∀ t, t < 12 → t < i → sv_y kY th m w t) ∧ ∀ t, t < 12 → i ≤ t → w (12 + t) = kY t) 12 (ch_c kY (12 * 0) (12 * 1) 12) ?_ ?_ ?_
  · refine ⟨fun t ht => ch_out (by omega), fun t _ h => by omega, fun t ht _ => ?_⟩
    have := ch_in (a := kY) (f := 0) (t := 12) ht
    rw [Nat.zero_add] at this; exact this
  · rintro n w ⟨I0, I1, _⟩
    refine br_t (Int32.le_refl _) ?_
    refine yp_things ?_
    have := h w I0 (fun t ht => I1 t ht ht)
    rw [cn_congr (q := fun q => decide (¬ kY q = 0)) (fun t ht => by rw [I0 t ht])]
    exact this
  · intro n i w hi I ih
    obtain ⟨I0, I1, I2⟩ := I
    have keep : (kY i = 1 → ∃ e, e < m ∧ th e = nI i) → wY_sync_8 postR n (nI i + 1) w (ch_c zY (12 * 0) (12 * 1) 12) (ch_c cY (576 * 0) (576 * 1) 576) (upd en 1 (en 0)) (ch_c hd (20 * 0) (20 * 1) 20) (ch_c nm (20 * 0) (20 * 1) 20) (ch_c th (20 * 0) (20 * 1) 20) hY := fun z => by
      rw [nI_1]
      refine ih w ⟨I0, fun t ht h => ?_, fun t ht h => I2 t ht (by omega)⟩
      by_cases e : t = i
      · subst e; exact Or.inr ⟨z, I2 t ht (Nat.le_refl t)⟩
      · exact I1 t ht (by omega)
    refine br_f (nI_ge (b := 12) hi (by decide)) ⟨vp_in_nI (by omega) (by decide), br_c (fun kf => ?_) (fun kf => nm_e (keep (fun z => ?_)))⟩
    · rw [na_cl (by omega), I0 i hi] at kf
      refine yp_links hm hn' ?_
      have hle := cn_le (fun e => decide (ch_c th (20 * 0) (20 * 1) 20 e = nI i)) m
      refine br_c (fun z => ?_) (fun z => nm_e (keep (fun _ => ?_)))
      · have z0 := na_z (by omega) z
        have e0 : (12 : Int32) + nI i = nI (12 + i) := nI_add 12 i
        rw [e0, na_cl (by omega)]
        refine ⟨vp_in_nI (by omega) (by decide), nm_r rfl (nm_r (nI_1 i) ?_)⟩
        refine ih (upd w (12 + i) 0) ⟨fun t ht => (pk_un (by omega)).trans (I0 t ht), fun t ht h => ?_, fun t ht h => (pk_un (by omega)).trans (I2 t ht (by omega))⟩
        by_cases e : t = i
        · subst e
          refine Or.inl ⟨kf, fun e he e1 => ?_, pk_us⟩
          exact of_decide_eq_false (cn_all z0 e he) ((ht' e he).trans e1)
        · rcases I1 t ht (by omega) with ⟨b1, b2, b3⟩ | ⟨b1, b2⟩
          · exact Or.inl ⟨b1, b2, (pk_un (by omega)).trans b3⟩
          · exact Or.inr ⟨b1, (pk_un (by omega)).trans b2⟩
      · have : 0 < cn_c (fun e => decide (ch_c th (20 * 0) (20 * 1) 20 e = nI i)) m := by
          rcases Nat.eq_zero_or_pos (cn_c (fun e => decide (ch_c th (20 * 0) (20 * 1) 20 e = nI i)) m) with e | e
          · exact (z (by rw [e]; exact nI_0)).elim
          · exact e
        obtain ⟨e, he, e1⟩ := cn_ex this
        exact ⟨e, he, (ht' e he).symm.trans (of_decide_eq_true e1)⟩
    · rw [na_cl (by omega), I0 i hi] at kf
      exact (kf z).elim
theorem yp_back (h : postR (nI (cn_c (fun q => decide (¬ kY (12 + q) = 0)) 12)) (ch_c kY 12 0 12, ch_c zY 12 0 12, ch_c cY 576 0 576, upd en 0 (en 1), ch_c hd 20 0 20, ch_c nm 20 0 20, ch_c th 20 0 20, hm_c hY 4)) : wY_crash_21 postR kY zY cY en hd nm th hY := by
  unfold wY_crash_21
  refine yp_copy (o := 1) (p := 0) (by omega) (by omega) (by omega) ?_
  refine lc_to2 (fun n i => wY_crash_29 postR n (nI i) (ch_c kY (12 * 1) (12 * 0) 12) (ch_c zY (12 * 1) (12 * 0) 12) (ch_c cY (576 * 1) (576 * 0) 576) (upd en 0 (en 1)) (ch_c hd (20 * 1) (20 * 0) 20) (ch_c nm (20 * 1) (20 * 0) 20) (ch_c th (20 * 1) (20 * 0) 20) (hm_c hY i)) 0 4 (by omega) (fun A => ?_) (fun n => ?_) (fun n i h0 hi ih => ?_)
  · rw [hm_0] at A; exact A
  · refine br_t (Int32.le_refl _) ?_
    refine yp_things ?_
    rw [cn_congr (q := fun q => decide (¬ kY (12 + q) = 0)) (fun t ht => by
      have := ch_in (a := kY) (f := 12) (t := 0) ht
      rw [Nat.zero_add] at this
      rw [show 12 * 1 = 12 from rfl, show 12 * 0 = 0 from rfl, this])]
    exact h
  · refine br_f (nI_ge (b := 4) hi (by decide)) ?_
    rw [na_cl (by omega)]
    exact ⟨vp_in_nI hi (by decide), nm_r (hm_u hY i) (nm_r (nI_1 i) ih)⟩
end
end
section
/-! parents, the next name, sums and cells -/
section
variable {k s : Nat → Int32} {m : Nat} {P par : Nat → Nat} {kY zY cY en hd nm th hY : Nat → Int32} {post : Int32 → Prop}
theorem yp_under_in {x : Nat} {w over x4 : Int32} {J : Int32 → Int32 → Prop} (hm : m ≤ 20) (hn : en 0 = nI m) (H1 : ∀ e, e < m → th e = nI x → hd e = w) (H2 : (∃ e, e < m ∧ th e = nI x) ∨ w = nI x) (h : J w (x4 + 1)) : ∃ n, wY_isUnder_23 post J over (nI x) x4 kY zY cY en hd nm th hY n (nI x) 0 := by
  refine loop_0 (fun n i y => wY_isUnder_23 post J over (nI x) x4 kY zY cY en hd nm th hY n y (nI i)) (fun i y => (y = nI x ∧ ∀ e, e < i → th e ≠ nI x) ∨ y = w) m (nI x) (Or.inl ⟨rfl, fun e h => by omega⟩) ?_ ?_
  · intro n y I
    have e : y = w := by
      rcases I with ⟨e, hz⟩ | e
      · rcases H2 with ⟨j, hj, e2⟩ | e2
        · exact (hz j hj e2).elim
        · exact e.trans e2.symm
      · exact e
    subst e
    exact br_t (by rw [hn]; exact Int32.le_refl _) (nm_e h)
  · intro n i y hi I ih
    refine br_f (by rw [hn]; exact nI_ge hi (by omega)) ⟨vp_in_nI (by omega) (by decide), br_c (fun z => ⟨vp_in_nI (by omega) (by decide), nm_r (e' := w) ?_ (nm_r (nI_1 i) (ih w (Or.inr rfl)))⟩) (fun z => nm_r (nI_1 i) (ih y ?_))⟩
    · rw [na_cl (by omega)] at z ⊢
      exact H1 i hi z
    · rw [na_cl (by omega)] at z
      rcases I with ⟨e, hz⟩ | e
      · refine Or.inl ⟨e, fun j hj => ?_⟩
        by_cases e2 : j = i
        · rw [e2]; exact z
        · exact hz j (by omega)
      · exact Or.inr e
theorem pr_hold (hE : rl_E s hd nm th m P) (hT : rl_T k s par) {x : Nat} (hx : x < 12) (h2 : k x = 2) : (∀ e, e < m → th e = nI x → hd e = nI (par x)) ∧ ((∃ e, e < m ∧ th e = nI x) ∨ nI (par x) = nI x) := by
  obtain ⟨E1, E2, E3, E4⟩ := hE
  by_cases x0 : x = 0
  · subst x0
    refine ⟨fun e he z => ?_, Or.inr (by rw [hT.1])⟩
    obtain ⟨a1, a2, a3, a4, a5⟩ := E2 e he
    exact (a2 (by rw [← a5, z]; exact nI_0)).elim
  · obtain ⟨q, b1, b2, b3, b4⟩ := hT.2.2.1 x (by omega) hx h2
    refine ⟨fun e he z => ?_, Or.inl ?_⟩
    · obtain ⟨a1, a2, a3, a4, a5⟩ := E2 e he
      rw [a3, b4 _ a1 (by rw [← a5, z]), b3]
    · obtain ⟨e, he, e1⟩ := E4 q b1 (by rw [b2]; exact na_nz (by omega) (by omega))
      exact ⟨e, he, by rw [(E2 e he).2.2.2.2, e1, b2]⟩
theorem yp_under_t {d a j0 : Nat} (hE : rl_E s hd nm th m P) (hn : en 0 = nI m) (hK : rl_K k s) (hT : rl_T k s par) (hd12 : d < 12) (h2 : k d = 2) (ha : a < 12) (hj : j0 ≤ 12) (e : it_i par j0 d = a) (hmn : ∀ j, j < j0 → it_i par j d ≠ a) (h : post 1) : wpY_isUnder post (kY, zY, cY, en, hd, nm, th, hY) (nI d) (nI a) := by
  unfold wpY_isUnder
  refine lc_to (fun n i => wY_isUnder_5 post (nI a) kY zY cY en hd nm th hY n (nI (it_i par i d)) (nI i)) 0 j0 (by omega) (fun n => ?_) (fun n i _ hi ih => ?_)
  · have X : wY_isUnder_69 post (nI a) (nI (it_i par j0 d)) kY zY cY en hd nm th hY := br_t (by rw [e]) h
    exact br_c (fun _ => X) (fun _ => br_t (by rw [e]) X)
  · have hdi := tr_dir hK hT hd12 h2 i
    have hp := pr_hold hE hT hdi.1 hdi.2
    refine br_f (nI_ge (b := 12) (by omega) (by decide)) (br_f (na_ne (by omega) (by omega) (hmn i hi)) ?_)
    refine yp_under_in hE.1 hn hp.1 hp.2 ?_
    rw [nI_1, ← it_s par]; exact ih
theorem yp_under_f {d a : Nat} (hE : rl_E s hd nm th m P) (hn : en 0 = nI m) (hK : rl_K k s) (hT : rl_T k s par) (hd12 : d < 12) (h2 : k d = 2) (ha : a < 12) (hmn : ∀ j, j ≤ 12 → it_i par j d ≠ a) (h : post 0) : wpY_isUnder post (kY, zY, cY, en, hd, nm, th, hY) (nI d) (nI a) := by
  unfold wpY_isUnder
  refine lc_to (fun n i => wY_isUnder_5 post (nI a) kY zY cY en hd nm th hY n (nI (it_i par i d)) (nI i)) 0 12 (by omega) (fun n => ?_) (fun n i _ hi ih => ?_)
  · have hdi := tr_dir hK hT hd12 h2 12
    exact br_t (Int32.le_refl _) (br_f (na_ne (by omega) (by omega) (hmn 12 (by omega))) h)
  · have hdi := tr_dir hK hT hd12 h2 i
    have hp := pr_hold hE hT hdi.1 hdi.2
    refine br_f (nI_ge (b := 12) (by omega) (by decide)) (br_f (na_ne (by omega) (by omega) (hmn i (by omega))) ?_)
    refine yp_under_in hE.1 hn hp.1 hp.2 ?_
    rw [nI_1, ← it_s par]; exact ih
/-- the least name behind 'after', as the entries tell it -/
def nx_I (hd nm : Nat → Int32) (d after : Int32) (i : Nat) (r : Int32) : Prop :=
  (r = -4 ∧ ∀ e, e < i → hd e = d → nm e ≤ after) ∨ (∃ e, e < i ∧ hd e = d ∧ ¬ nm e ≤ after ∧ r = nm e ∧ ∀ e', e' < i → hd e' = d → ¬ nm e' ≤ after → nm e ≤ nm e')
theorem yp_next {d : Nat} {after : Int32} (hm : m ≤ 20) (hn : en 0 = nI m) (hd12 : d < 12) (h2 : kY d = 2) (hp : ∀ e, e < m → ¬ nm e < 0) (h : ∀ r, nx_I hd nm (nI d) after m r → post r) : wpY_next post (kY, zY, cY, en, hd, nm, th, hY) (nI d) after := by
  unfold wpY_next
  refine yp_dir_t ⟨d, hd12, rfl, h2⟩ ?_
  refine br_f (by decide) ?_
  refine loop_0 (fun n i y => wY_next_16 post (nI d) after kY zY cY en hd nm th hY n y (nI i)) (fun i y => nx_I hd nm (nI d) after i y) m (-4) (Or.inl ⟨rfl, fun e h => by omega⟩) ?_ ?_
  · exact fun n y I => br_t (by rw [hn]; exact Int32.le_refl _) (h y I)
  · intro n i y hi I ih
    have vi : vp_in (nI i) 40 := vp_in_nI (by omega) (by decide)
    have keep : (hd i = nI d → ¬ nm i ≤ after → ∃ e, e < i ∧ hd e = nI d ∧ ¬ nm e ≤ after ∧ y = nm e ∧ nm e ≤ nm i) → nx_I hd nm (nI d) after (i + 1) y := fun z => by
      rcases I with ⟨e, hz⟩ | ⟨e, a1, a2, a3, a4, a5⟩
      · refine Or.inl ⟨e, fun j hj j1 => ?_⟩
        by_cases e2 : j = i
        · subst e2
          by_cases c : nm j ≤ after
          · exact c
          · obtain ⟨e', b1, b2, b3, _⟩ := z j1 c
            exact (b3 (hz e' b1 b2)).elim
        · exact hz j (by omega) j1
      · refine Or.inr ⟨e, by omega, a2, a3, a4, fun j hj j1 j2 => ?_⟩
        by_cases e2 : j = i
        · subst e2
          obtain ⟨e', b1, b2, b3, b4, b5⟩ := z j1 j2
          rw [← a4, b4]; exact b5
        · exact a5 j (by omega) j1 j2
    have take : hd i = nI d → ¬ nm i ≤ after → (∀ e, e < i → hd e = nI d → ¬ nm e ≤ after → nm i ≤ nm e) → nx_I hd nm (nI d) after (i + 1) (nm i) := fun z1 z2 z3 => by
      refine Or.inr ⟨i, by omega, z1, z2, rfl, fun j hj j1 j2 => ?_⟩
      by_cases e2 : j = i
      · rw [e2]; exact Int32.le_refl _
      · exact z3 j (by omega) j1 j2
    refine br_f (by rw [hn]; exact nI_ge hi (by omega)) ⟨vi, ?_⟩
    rw [na_cl (by omega)]
    refine br_c (fun z1 => ⟨vi, br_c (fun z2 => nm_r (nI_1 i) (ih y (keep (fun _ z => (z z2).elim)))) (fun z2 => br_c (fun z3 => ⟨vi, nm_e (nm_r (nI_1 i) (ih (nm i) (take z1 z2 (fun e he e1 e2 => ?_))))⟩) (fun z3 => ⟨vi, br_c (fun z4 => nm_r (nI_1 i) (ih y (keep (fun _ _ => ?_)))) (fun z4 => ⟨vi, nm_e (nm_r (nI_1 i) (ih (nm i) (take z1 z2 (fun e he e1 e2 => ?_))))⟩)⟩))⟩) (fun z1 => nm_r (nI_1 i) (ih y (keep (fun z => (z1 z).elim))))
    · rcases I with ⟨_, hz⟩ | ⟨e', a1, a2, a3, a4, a5⟩
      · exact (e2 (hz e he e1)).elim
      · rw [a4] at z3; exact (hp e' (by omega) z3).elim
    · rcases I with ⟨e, hz⟩ | ⟨e', a1, a2, a3, a4, a5⟩
      · rw [e] at z3; exact (z3 (by decide)).elim
      · exact ⟨e', a1, a2, a3, a4, by rw [← a4]; exact z4⟩
    · rcases I with ⟨_, hz⟩ | ⟨e', a1, a2, a3, a4, a5⟩
      · exact (e2 (hz e he e1)).elim
      · have := a5 e he e1 e2
        rw [← a4] at this
        rw [Int32.le_iff_toInt_le] at this z4 ⊢
        omega
theorem yp_next_f {v after : Int32} (hv : ¬ is_k kY 2 v) (h : post (-1)) : wpY_next post (kY, zY, cY, en, hd, nm, th, hY) v after := by
  unfold wpY_next
  refine yp_dir_f hv ?_
  exact br_t rfl h
/-! cells -/
theorem yp_cell_f {o : Nat} {v w : Int32} (ho : o < 2) (hv : ¬ ∃ t, t < 12 ∧ v = nI t ∧ kY (12 * o + t) = 1) (h : post 0) : wpY_cellOf post (kY, zY, cY, en, hd, nm, th, hY) (nI o) v w := by
  unfold wpY_cellOf
  refine yp_is_f ho hv ?_
  exact br_t rfl h
theorem yp_cell_t {o t L i : Nat} (ho : o < 2) (ht : t < 12) (hk : kY (12 * o + t) = 1) (hz : zY (12 * o + t) = nI L) (hL : L ≤ 48) (hi : i < L) (h : post (cY (576 * o + (t * 48 + i)))) : wpY_cellOf post (kY, zY, cY, en, hd, nm, th, hY) (nI o) (nI t) (nI i) := by
  unfold wpY_cellOf
  refine yp_is_t ho ht hk ?_
  have e0 : (12 : Int32) * nI o + nI t = nI (12 * o + t) := na_ma 12 o t
  have e1 : (48 : Int32) * nI (12 * o + t) + nI i = nI (576 * o + (t * 48 + i)) := (na_ma 48 (12 * o + t) i).trans (congrArg nI (by omega))
  refine br_f (by decide) (br_f (nI_pos (by omega)) ?_)
  rw [e0, e1, na_cl (by omega), na_cl (by omega), hz]
  exact ⟨vp_in_nI (by omega) (by decide), br_t (nI_lt hi (by omega)) ⟨vp_in_nI (by omega) (by decide), h⟩⟩
theorem yp_cell_z {o t L : Nat} {w : Int32} (ho : o < 2) (ht : t < 12) (hk : kY (12 * o + t) = 1) (hz : zY (12 * o + t) = nI L) (hL : L ≤ 48) (hi : ¬ ∃ i, i < L ∧ w = nI i) (h : post 0) : wpY_cellOf post (kY, zY, cY, en, hd, nm, th, hY) (nI o) (nI t) w := by
  unfold wpY_cellOf
  refine yp_is_t ho ht hk ?_
  have e0 : (12 : Int32) * nI o + nI t = nI (12 * o + t) := na_ma 12 o t
  refine br_f (by decide) ?_
  rcases na_ng (by omega) hi with e | ⟨e1, e2⟩
  · exact br_t e h
  · refine br_f e1 ?_
    rw [e0, na_cl (by omega), hz]
    exact ⟨vp_in_nI (by omega) (by decide), br_f (fun z => by rw [Int32.lt_iff_toInt_lt] at z; rw [Int32.le_iff_toInt_le] at e2; omega) h⟩
theorem yp_sum {v : Int32} {g : Nat → Int32} (hg : ∀ i, i < 48 → ∀ p : Int32 → Prop, p (g i) → wpY_cellOf p (kY, zY, cY, en, hd, nm, th, hY) 0 v (nI i)) (h : post (sm_c g 48)) : wpY_sum post (kY, zY, cY, en, hd, nm, th, hY) v := by
  unfold wpY_sum
  refine lc_to (fun n i => wY_sum_4 post v kY zY cY en hd nm th hY n (sm_c g i) (nI i)) 0 48 (by omega) (fun n => ?_) (fun n i _ hi ih => ?_)
  · exact br_t (Int32.le_refl _) h
  · refine br_f (nI_ge (b := 48) hi (by decide)) ?_
    refine hg i hi _ ?_
    refine nm_r (e' := sm_c g (i + 1)) (by rw [nI_1]; rfl) (nm_r (nI_1 i) ih)
end
theorem xp_slot {d x : Nat} {post : Int32 → Prop} (h : post (nI (d * 64 + x))) : wpX_slotOf post (nI d) (nI x) := by
  unfold wpX_slotOf
  have e0 : nI d * 64 + nI x = nI (d * 64 + x) := na_ma d 64 x
  rw [e0]; exact h
section
variable {k s l c hX sk ss sl sc : Nat → Int32} {post : Int32 → Prop}
theorem xp_next_t {d x : Nat} {after : Int32} (hd : d < 12) (h2 : k d = 2) (hx : x < 64) (ha : ¬ nI x ≤ after) (hs : s (d * 64 + x) ≠ 0) (hu : ∀ y, y < x → nI y ≤ after ∨ s (d * 64 + y) = 0) (h : post (nI x)) : wpX_next post (k, s, l, c, hX, sk, ss, sl, sc) (nI d) after := by
  unfold wpX_next
  refine xp_dir_t ⟨d, hd, rfl, h2⟩ ?_
  refine br_f (by decide) ?_
  refine lc_to (fun n i => wX_next_15 post (nI d) after k s l c hX sk ss sl sc n (nI i)) 0 x (by omega) (fun n => ?_) (fun n i _ hi ih => ?_)
  · refine br_f (nI_ge (b := 64) hx (by decide)) (br_f ha ?_)
    refine xp_slot ?_
    rw [na_cl (by omega)]
    exact ⟨vp_in_nI (by omega) (by decide), br_f hs h⟩
  · refine br_f (nI_ge (b := 64) (by omega) (by decide)) (br_c (fun _ => nm_r (nI_1 i) ih) (fun z => ?_))
    refine xp_slot ?_
    rw [na_cl (by omega)]
    refine ⟨vp_in_nI (by omega) (by decide), br_t ?_ (nm_r (nI_1 i) ih)⟩
    rcases hu i hi with e | e
    · exact (z e).elim
    · exact e
theorem xp_next_n {d : Nat} {after : Int32} (hd : d < 12) (h2 : k d = 2) (hu : ∀ y, y < 64 → nI y ≤ after ∨ s (d * 64 + y) = 0) (h : post (-4)) : wpX_next post (k, s, l, c, hX, sk, ss, sl, sc) (nI d) after := by
  unfold wpX_next
  refine xp_dir_t ⟨d, hd, rfl, h2⟩ ?_
  refine br_f (by decide) ?_
  refine lc_to (fun n i => wX_next_15 post (nI d) after k s l c hX sk ss sl sc n (nI i)) 0 64 (by omega) (fun n => ?_) (fun n i _ hi ih => ?_)
  · exact br_t (Int32.le_refl _) h
  · refine br_f (nI_ge (b := 64) (by omega) (by decide)) (br_c (fun _ => nm_r (nI_1 i) ih) (fun z => ?_))
    refine xp_slot ?_
    rw [na_cl (by omega)]
    refine ⟨vp_in_nI (by omega) (by decide), br_t ?_ (nm_r (nI_1 i) ih)⟩
    rcases hu i hi with e | e
    · exact (z e).elim
    · exact e
theorem xp_next_f {v after : Int32} (hv : ¬ is_k k 2 v) (h : post (-1)) : wpX_next post (k, s, l, c, hX, sk, ss, sl, sc) v after := by
  unfold wpX_next
  refine xp_dir_f hv ?_
  exact br_t rfl h
theorem xp_sum_t {t L : Nat} (ht : t < 12) (hk : k t = 1) (hl : l t = nI L) (hL : L ≤ 48) (h : post (sm_c (fun i => c (t * 48 + i)) L)) : wpX_sum post (k, s, l, c, hX, sk, ss, sl, sc) (nI t) := by
  unfold wpX_sum
  refine xp_file_t ⟨t, ht, rfl, hk⟩ ?_
  refine br_f (by decide) ?_
  refine lc_to (fun n i => wX_sum_17 post (nI t) k s l c hX sk ss sl sc n (sm_c (fun i => c (t * 48 + i)) i) (nI i)) 0 L (by omega) (fun n => ?_) (fun n i _ hi ih => ?_)
  · exact ⟨vp_in_nI ht (by decide), br_t (by rw [na_cl (by omega), hl]; exact Int32.le_refl _) h⟩
  · have e0 : nI t * 48 + nI i = nI (t * 48 + i) := na_ma t 48 i
    refine ⟨vp_in_nI ht (by decide), br_f (by rw [na_cl (by omega), hl]; exact nI_ge hi (by omega)) ?_⟩
    rw [e0, na_cl (by omega)]
    refine ⟨vp_in_nI (by omega) (by decide), nm_r (e' := sm_c (fun i => c (t * 48 + i)) (i + 1)) (by rw [nI_1]; rfl) (nm_r (nI_1 i) ih)⟩
theorem xp_cell_t {t L i : Nat} (ht : t < 12) (hl : l t = nI L) (hL : L ≤ 48) (hi : i < L) (h : post (c (t * 48 + i))) : wpX_cellAt__lengths_cells post (k, s, l, c, hX, sk, ss, sl, sc) (nI t) (nI i) := by
  unfold wpX_cellAt__lengths_cells
  refine xp_num_t ht ?_
  have e0 : nI t * 48 + nI i = nI (t * 48 + i) := na_ma t 48 i
  refine br_f (by decide) (br_f (nI_pos (by omega)) ?_)
  rw [e0, na_cl (by omega), na_cl (by omega), hl]
  exact ⟨vp_in_nI ht (by decide), br_t (nI_lt hi (by omega)) ⟨vp_in_nI (by omega) (by decide), h⟩⟩
theorem xp_cell_z {t L : Nat} {w : Int32} (ht : t < 12) (hl : l t = nI L) (hL : L ≤ 48) (hi : ¬ ∃ i, i < L ∧ w = nI i) (h : post 0) : wpX_cellAt__lengths_cells post (k, s, l, c, hX, sk, ss, sl, sc) (nI t) w := by
  unfold wpX_cellAt__lengths_cells
  refine xp_num_t ht ?_
  refine br_f (by decide) ?_
  rcases na_ng (by omega) hi with e | ⟨e1, e2⟩
  · exact br_t e h
  · refine br_f e1 ?_
    rw [na_cl (by omega), hl]
    exact ⟨vp_in_nI ht (by decide), br_f (fun z => by rw [Int32.lt_iff_toInt_lt] at z; rw [Int32.le_iff_toInt_le] at e2; omega) h⟩
theorem xp_cell_f {v w : Int32} (hv : ¬ ∃ t, t < 12 ∧ v = nI t) (h : post 0) : wpX_cellAt__lengths_cells post (k, s, l, c, hX, sk, ss, sl, sc) v w := by
  unfold wpX_cellAt__lengths_cells
  refine xp_num_f hv ?_
  exact br_t rfl h
theorem xp_at_f {v w : Int32} (hv : ¬ (is_k k 2 v ∧ is_n w)) (h : post (-1)) : wpX_thingAt__kinds_slots post (k, s, l, c, hX, sk, ss, sl, sc) v w := by
  unfold wpX_thingAt__kinds_slots
  refine xp_place_f hv ?_
  exact br_t rfl h
theorem xp_at_t {d x : Nat} (hd : d < 12) (h2 : k d = 2) (hx : x < 64) (h0 : s (d * 64 + x) = 0 → post (-4)) (h1 : s (d * 64 + x) ≠ 0 → post (s (d * 64 + x))) : wpX_thingAt__kinds_slots post (k, s, l, c, hX, sk, ss, sl, sc) (nI d) (nI x) := by
  unfold wpX_thingAt__kinds_slots
  refine xp_place_t hd h2 hx ?_
  refine br_f (by decide) ?_
  refine xp_slot ?_
  rw [na_cl (by omega)]
  exact ⟨vp_in_nI (by omega) (by decide), nm_e (br_c h0 h1)⟩
theorem xs_cell_t {t L i : Nat} (ht : t < 12) (hl : sl t = nI L) (hL : L ≤ 48) (hi : i < L) (h : post (sc (t * 48 + i))) : wpX_cellAt__savedLengths_savedCells post (k, s, l, c, hX, sk, ss, sl, sc) (nI t) (nI i) := by
  unfold wpX_cellAt__savedLengths_savedCells
  refine xp_num_t ht ?_
  have e0 : nI t * 48 + nI i = nI (t * 48 + i) := na_ma t 48 i
  refine br_f (by decide) (br_f (nI_pos (by omega)) ?_)
  rw [e0, na_cl (by omega), na_cl (by omega), hl]
  exact ⟨vp_in_nI ht (by decide), br_t (nI_lt hi (by omega)) ⟨vp_in_nI (by omega) (by decide), h⟩⟩
theorem xs_cell_z {t L : Nat} {w : Int32} (ht : t < 12) (hl : sl t = nI L) (hL : L ≤ 48) (hi : ¬ ∃ i, i < L ∧ w = nI i) (h : post 0) : wpX_cellAt__savedLengths_savedCells post (k, s, l, c, hX, sk, ss, sl, sc) (nI t) w := by
  unfold wpX_cellAt__savedLengths_savedCells
  refine xp_num_t ht ?_
  refine br_f (by decide) ?_
  rcases na_ng (by omega) hi with e | ⟨e1, e2⟩
  · exact br_t e h
  · refine br_f e1 ?_
    rw [na_cl (by omega), hl]
    exact ⟨vp_in_nI ht (by decide), br_f (fun z => by rw [Int32.lt_iff_toInt_lt] at z; rw [Int32.le_iff_toInt_le] at e2; omega) h⟩
theorem xs_cell_f {v w : Int32} (hv : ¬ ∃ t, t < 12 ∧ v = nI t) (h : post 0) : wpX_cellAt__savedLengths_savedCells post (k, s, l, c, hX, sk, ss, sl, sc) v w := by
  unfold wpX_cellAt__savedLengths_savedCells
  refine xp_num_f hv ?_
  exact br_t rfl h
theorem xs_at_f {v w : Int32} (hv : ¬ (is_k sk 2 v ∧ is_n w)) (h : post (-1)) : wpX_thingAt__savedKinds_savedSlots post (k, s, l, c, hX, sk, ss, sl, sc) v w := by
  unfold wpX_thingAt__savedKinds_savedSlots
  refine xs_place_f hv ?_
  exact br_t rfl h
theorem xs_at_t {d x : Nat} (hd : d < 12) (h2 : sk d = 2) (hx : x < 64) (h0 : ss (d * 64 + x) = 0 → post (-4)) (h1 : ss (d * 64 + x) ≠ 0 → post (ss (d * 64 + x))) : wpX_thingAt__savedKinds_savedSlots post (k, s, l, c, hX, sk, ss, sl, sc) (nI d) (nI x) := by
  unfold wpX_thingAt__savedKinds_savedSlots
  refine xs_place_t hd h2 hx ?_
  refine br_f (by decide) ?_
  refine xp_slot ?_
  rw [na_cl (by omega)]
  exact ⟨vp_in_nI (by omega) (by decide), nm_e (br_c h0 h1)⟩
end
end
section
/-! the relation of the two states, their beginning, and the questions -/
def i_Rel (_ : Nat) (u : SX) (v : SY) : Prop := match u with
  | (k, s, l, c, hX, sk, ss, sl, sc) => match v with
    | (kY, zY, cY, en, hd, nm, th, hY) => rl_N k s l c hX kY zY cY en hd nm th hY ∧ rl_V sk ss sl sc kY zY cY en hd nm th
theorem i_up {k : Nat} {u : SX} {v : SY} (h : i_Rel k u v) : i_Rel (k + 5) u v := h
theorem bg_F {kY hd nm th : Nat → Int32} (hk : ∀ t, t < 12 → kY t = upd (fun _ => 0) 0 2 t) : rl_F (upd (fun _ => 0) 0 2) (fun _ => 0) (fun _ => 0) (fun _ => 0) kY (fun _ => 0) (fun _ => 0) 0 hd nm th := by
  have k2 : ∀ t, upd (fun _ => (0 : Int32)) 0 2 t = 2 → t = 0 := fun t h => by
    by_cases e : t = 0
    · exact e
    · rw [pk_un e] at h; exact absurd h (by decide)
  refine ⟨⟨0, fun _ => 0, nI_0.symm, by omega, fun e h => by omega, fun i j h => by omega, fun q _ h => (h rfl).elim⟩, ⟨pk_us, fun t _ => ?_, fun q _ h => (h rfl).elim⟩, ⟨fun _ => 0, rfl, fun _ => Nat.zero_lt_succ 11, fun t t0 _ h => ?_, fun t _ _ => ⟨1, rfl⟩⟩, ⟨fun _ => 0, fun t ht => ⟨nI_0.symm, Nat.zero_le _, fun _ => rfl, fun _ _ _ => rfl, hk t ht, fun _ => nI_0.symm, fun i h => (Nat.not_lt_zero i h).elim⟩⟩⟩
  · by_cases e : t = 0
    · rw [e]; exact Or.inr (Or.inr pk_us)
    · exact Or.inl (pk_un e)
  · have := k2 t h; omega
theorem bg_1 (t : Nat) : ¬ upd (fun _ => (0 : Int32)) 0 2 t = 1 := fun h => by
  by_cases e : t = 0
  · rw [e, pk_us] at h; exact absurd h (by decide)
  · rw [pk_un e] at h; exact absurd h (by decide)
theorem i_vc0 : wpX_init (fun u => wpY_init (fun v => i_Rel 0 u v)) := by
  unfold wpX_init
  refine nm_e (nm_e ?_)
  unfold wpY_init
  refine nm_e (nm_e ?_)
  refine lc_to2 (fun n i => wY_init_84 (fun v => i_Rel 0 (upd (fun _ => 0) 0 2, (fun _ => 0), (fun _ => 0), (fun _ => 0), (fun _ => 0), upd (fun _ => 0) 0 2, (fun _ => 0), (fun _ => 0), (fun _ => 0)) v) n (nI i) (upd (upd (fun _ => 0) 0 2) 12 2) (fun _ => 0) (fun _ => 0) (fun _ => 0) (fun _ => 0) (fun _ => 0) (fun _ => 0) (hm_c (fun _ => 0) i)) 0 4 (by omega) (fun A => ?_) (fun n => ?_) (fun n i h0 hi ih => ?_)
  · rw [hm_0] at A; exact A
  · refine br_t (Int32.le_refl _) ⟨⟨bg_F (fun t ht => pk_un (by omega)), fun h hh => Or.inl ⟨rfl, hm_in hh⟩, fun t _ z => (bg_1 t z).elim⟩, bg_F (fun t ht => ?_), fun t _ z => (bg_1 t z).elim⟩
    by_cases e : t = 0
    · rw [e, pk_us]; exact pk_us.symm
    · rw [pk_un e]
      show upd (upd (fun _ => (0 : Int32)) 0 2) 12 2 (12 + t) = 0
      rw [pk_un (by omega), pk_un (by omega)]
  · refine br_f (nI_ge (b := 4) hi (by decide)) ?_
    rw [na_cl (by omega)]
    exact ⟨vp_in_nI hi (by decide), nm_r (hm_u _ i) (nm_r (nI_1 i) ih)⟩
/-! entries by the relation -/
section
variable {s : Nat → Int32} {m : Nat} {P : Nat → Nat} {kY zY cY en hd nm th hY : Nat → Int32} {post : Int32 → Prop}
theorem ye_t {o d x e : Nat} (ho : o < 2) (hn : en o = nI m) (hE : rl_E s (fun e => hd (20 * o + e)) (fun e => nm (20 * o + e)) (fun e => th (20 * o + e)) m P) (hd12 : d < 12) (hx : x < 64) (he : e < m) (hP : P e = d * 64 + x) (h : post (nI (20 * o + e))) : wpY_entry post (kY, zY, cY, en, hd, nm, th, hY) (nI o) (nI d) (nI x) := by
  have a := (en_at hE hd12 hx he).mpr hP
  refine yp_entry_t ho hE.1 hn he a.1 a.2 (fun i hi z => ?_) h
  have := (en_at hE hd12 hx (Nat.lt_trans hi he)).mp z
  have := hE.2.2.1 i e (by omega) he (this.trans hP.symm)
  omega
theorem ye_f {o d x : Nat} (ho : o < 2) (hn : en o = nI m) (hE : rl_E s (fun e => hd (20 * o + e)) (fun e => nm (20 * o + e)) (fun e => th (20 * o + e)) m P) (hd12 : d < 12) (hx : x < 64) (hz : s (d * 64 + x) = 0) (h : post (-1)) : wpY_entry post (kY, zY, cY, en, hd, nm, th, hY) (nI o) (nI d) (nI x) := by
  refine yp_entry_f ho hE.1 hn (fun i hi z => ?_) h
  have := (en_at hE hd12 hx hi).mp z
  exact (hE.2.1 i hi).2.1 (by rw [this]; exact hz)
theorem eo_0 (hE : rl_E s hd nm th m P) : rl_E s (fun e => hd (20 * 0 + e)) (fun e => nm (20 * 0 + e)) (fun e => th (20 * 0 + e)) m P :=
  ag_E (fun _ _ => rfl) (fun e _ => by rw [show 20 * 0 + e = e by omega]; exact ⟨rfl, rfl, rfl⟩) hE
theorem y0_t {d x e : Nat} (hn : en 0 = nI m) (hE : rl_E s hd nm th m P) (hd12 : d < 12) (hx : x < 64) (he : e < m) (hP : P e = d * 64 + x) (h : post (nI e)) : wpY_entry post (kY, zY, cY, en, hd, nm, th, hY) 0 (nI d) (nI x) :=
  ye_t (o := 0) (by omega) hn (eo_0 hE) hd12 hx he hP (by rw [show 20 * 0 + e = e by omega]; exact h)
theorem y0_f {d x : Nat} (hn : en 0 = nI m) (hE : rl_E s hd nm th m P) (hd12 : d < 12) (hx : x < 64) (hz : s (d * 64 + x) = 0) (h : post (-1)) : wpY_entry post (kY, zY, cY, en, hd, nm, th, hY) 0 (nI d) (nI x) :=
  ye_f (o := 0) (by omega) hn (eo_0 hE) hd12 hx hz h
theorem yl_f {o : Nat} {v w : Int32} (ho : o < 2) (hv : ¬ ((∃ t, t < 12 ∧ v = nI t ∧ kY (12 * o + t) = 2) ∧ is_n w)) (h : post (-1)) : wpY_look post (kY, zY, cY, en, hd, nm, th, hY) (nI o) v w := by
  unfold wpY_look
  by_cases z : ∃ t, t < 12 ∧ v = nI t ∧ kY (12 * o + t) = 2
  · have z' := z
    obtain ⟨t, ht, rfl, e⟩ := z
    refine yp_is_t ho ht e ?_
    refine br_f (by decide) ?_
    refine yp_name_f (fun w => hv ⟨z', w⟩) ?_
    exact br_f (by decide) h
  · refine yp_is_f ho z ?_
    exact br_t rfl h
theorem yl_t {o d x : Nat} (ho : o < 2) (hd12 : d < 12) (h2 : kY (12 * o + d) = 2) (hx : x < 64) (hn : en o = nI m) (hE : rl_E s (fun e => hd (20 * o + e)) (fun e => nm (20 * o + e)) (fun e => th (20 * o + e)) m P) (h0 : s (d * 64 + x) = 0 → post (-4)) (h1 : s (d * 64 + x) ≠ 0 → post (s (d * 64 + x))) : wpY_look post (kY, zY, cY, en, hd, nm, th, hY) (nI o) (nI d) (nI x) := by
  unfold wpY_look
  refine yp_is_t ho hd12 h2 ?_
  refine br_f (by decide) ?_
  refine yp_name_t hx ?_
  refine br_t rfl ?_
  by_cases z : s (d * 64 + x) = 0
  · refine ye_f ho hn hE hd12 hx z ?_
    exact br_f (by decide) (h0 z)
  · obtain ⟨e, he, hP⟩ := hE.2.2.2 (d * 64 + x) (by omega) z
    have hm := hE.1
    refine ye_t ho hn hE hd12 hx he hP ?_
    refine br_t (nI_pos' (by omega)) ⟨vp_in_nI (by omega) (by decide), ?_⟩
    rw [na_cl (by omega), show th (20 * o + e) = s (P e) from (hE.2.1 e he).2.2.2.2, hP]
    exact h1 z
theorem yk_t {t : Nat} (ht : t < 12) (h : post (kY t)) : wpY_kind post (kY, zY, cY, en, hd, nm, th, hY) (nI t) := by
  unfold wpY_kind
  refine br_f (nI_pos (by omega)) (br_t (nI_le (b := 11) (by omega) (by decide)) ⟨vp_in_nI (by omega) (by decide), ?_⟩)
  rw [na_cl (by omega)]; exact h
theorem yk_f {v : Int32} (hv : ¬ ∃ t, t < 12 ∧ v = nI t) (h : post 0) : wpY_kind post (kY, zY, cY, en, hd, nm, th, hY) v := by
  unfold wpY_kind
  rcases na_ng (by decide) hv with e | ⟨e1, e2⟩
  · exact br_t e h
  · refine br_f e1 (br_f ?_ h)
    obtain ⟨j, hj, rfl⟩ := nI_of e1
    rw [nI_leI (by decide) hj] at e2
    exact nI_ge (a := 11) (by omega) hj
end
theorem ik_y {k l c kY zY cY : Nat → Int32} {L : Nat → Nat} (hL : rl_L k l c kY zY cY L) {a v : Int32} : is_k kY a v ↔ is_k k a v :=
  ⟨fun ⟨t, h1, h2, h3⟩ => ⟨t, h1, h2, by rw [← (hL t h1).2.2.2.2.1]; exact h3⟩, fun ⟨t, h1, h2, h3⟩ => ⟨t, h1, h2, by rw [(hL t h1).2.2.2.2.1]; exact h3⟩⟩
theorem i_vc_idle {k : Nat} {u : SX} {v : SY} (I : i_Rel k u v) (hk : k + 5 ≤ 2560) (v1 : Int32) : wpX_idle (fun u' => wpY_idle (fun v' => i_Rel (k + 5) u' v') v v1) u v1 := by
  obtain ⟨k, s, l, c, hX, sk, ss, sl, sc⟩ := u
  obtain ⟨kY, zY, cY, en, hd, nm, th, hY⟩ := v
  exact I
theorem i_vc_find {k : Nat} {u : SX} {v : SY} (I : i_Rel k u v) (hk : k + 5 ≤ 2560) (v1 : Int32) (v2 : Int32) : wpX_find (fun r => wpY_find (fun r' => r' = r ∧ i_Rel (k + 5) u v) v v1 v2) u v1 v2 := by
  obtain ⟨k, s, l, c, hX, sk, ss, sl, sc⟩ := u
  obtain ⟨kY, zY, cY, en, hd, nm, th, hY⟩ := v
  obtain ⟨m, P, par, L, ⟨g1, g2, g3, g4, g5, g6⟩, U⟩ := nw_G I.1
  unfold wpX_find
  by_cases hp : is_k k 2 v1 ∧ is_n v2
  · obtain ⟨⟨d, d1, rfl, h2⟩, x, x1, rfl⟩ := hp
    have hY2 : kY (12 * 0 + d) = 2 := by rw [show 12 * 0 + d = d by omega, (g5 d d1).2.2.2.2.1]; exact h2
    refine xp_at_t d1 h2 x1 (fun z => ?_) (fun z => ?_)
    · unfold wpY_find
      exact yl_t (o := 0) (by omega) d1 hY2 x1 g1 (eo_0 g2) (fun _ => ⟨rfl, I⟩) (fun z' => (z' z).elim)
    · unfold wpY_find
      exact yl_t (o := 0) (by omega) d1 hY2 x1 g1 (eo_0 g2) (fun z' => (z z').elim) (fun _ => ⟨rfl, I⟩)
  · refine xp_at_f hp ?_
    unfold wpY_find
    refine yl_f (o := 0) (by omega) (fun ⟨⟨t, h1, h2, h3⟩, h4⟩ => hp ⟨⟨t, h1, h2, ?_⟩, h4⟩) ⟨rfl, I⟩
    rw [show 12 * 0 + t = t by omega, (g5 t h1).2.2.2.2.1] at h3; exact h3
theorem i_vc_savedFind {k : Nat} {u : SX} {v : SY} (I : i_Rel k u v) (hk : k + 5 ≤ 2560) (v1 : Int32) (v2 : Int32) : wpX_savedFind (fun r => wpY_savedFind (fun r' => r' = r ∧ i_Rel (k + 5) u v) v v1 v2) u v1 v2 := by
  obtain ⟨k, s, l, c, hX, sk, ss, sl, sc⟩ := u
  obtain ⟨kY, zY, cY, en, hd, nm, th, hY⟩ := v
  obtain ⟨⟨⟨m, P, g1, g2⟩, g3, ⟨par, g4⟩, ⟨L, g5⟩⟩, W⟩ := I.2
  have g2' : rl_E ss (fun e => hd (20 * 1 + e)) (fun e => nm (20 * 1 + e)) (fun e => th (20 * 1 + e)) m P := g2
  unfold wpX_savedFind
  by_cases hp : is_k sk 2 v1 ∧ is_n v2
  · obtain ⟨⟨d, d1, rfl, h2⟩, x, x1, rfl⟩ := hp
    have hY2 : kY (12 * 1 + d) = 2 := ((g5 d d1).2.2.2.2.1).trans h2
    refine xs_at_t d1 h2 x1 (fun z => ?_) (fun z => ?_)
    · unfold wpY_savedFind
      exact yl_t (o := 1) (by omega) d1 hY2 x1 g1 g2' (fun _ => ⟨rfl, I⟩) (fun z' => (z' z).elim)
    · unfold wpY_savedFind
      exact yl_t (o := 1) (by omega) d1 hY2 x1 g1 g2' (fun z' => (z z').elim) (fun _ => ⟨rfl, I⟩)
  · refine xs_at_f hp ?_
    unfold wpY_savedFind
    refine yl_f (o := 1) (by omega) (fun ⟨⟨t, h1, h2, h3⟩, h4⟩ => hp ⟨⟨t, h1, h2, ?_⟩, h4⟩) ⟨rfl, I⟩
    exact ((g5 t h1).2.2.2.2.1).symm.trans h3
theorem i_vc_kind {k : Nat} {u : SX} {v : SY} (I : i_Rel k u v) (hk : k + 5 ≤ 2560) (v1 : Int32) : wpX_kind (fun r => wpY_kind (fun r' => r' = r ∧ i_Rel (k + 5) u v) v v1) u v1 := by
  obtain ⟨k, s, l, c, hX, sk, ss, sl, sc⟩ := u
  obtain ⟨kY, zY, cY, en, hd, nm, th, hY⟩ := v
  obtain ⟨m, P, par, L, ⟨g1, g2, g3, g4, g5, g6⟩, U⟩ := nw_G I.1
  unfold wpX_kind
  by_cases hp : ∃ t, t < 12 ∧ v1 = nI t
  · obtain ⟨t, ht, rfl⟩ := hp
    refine xp_num_t ht ?_
    refine br_f (by decide) ⟨vp_in_nI ht (by decide), ?_⟩
    refine yk_t ht ⟨?_, I⟩
    rw [na_cl (by omega)]; exact (g5 t ht).2.2.2.2.1
  · refine xp_num_f hp ?_
    refine br_t rfl ?_
    exact yk_f hp ⟨rfl, I⟩
theorem i_vc_links {k : Nat} {u : SX} {v : SY} (I : i_Rel k u v) (hk : k + 5 ≤ 2560) (v1 : Int32) : wpX_links (fun r => wpY_links (fun r' => r' = r ∧ i_Rel (k + 5) u v) v v1) u v1 := by
  obtain ⟨k, s, l, c, hX, sk, ss, sl, sc⟩ := u
  obtain ⟨kY, zY, cY, en, hd, nm, th, hY⟩ := v
  obtain ⟨m, P, par, L, ⟨g1, g2, g3, g4, g5, g6⟩, U⟩ := nw_G I.1
  unfold wpX_links
  by_cases hp : ∃ t, t < 12 ∧ v1 = nI t
  · obtain ⟨t, ht, rfl⟩ := hp
    have ey := (g5 t ht).2.2.2.2.1
    refine xp_num_t ht ?_
    refine br_f (by decide) ⟨vp_in_nI ht (by decide), br_c (fun z => ?_) (fun z => ?_)⟩
    · rw [na_cl (by omega)] at z
      unfold wpY_links
      refine yk_t ht ?_
      exact br_t (by rw [ey]; exact z) ⟨rfl, I⟩
    · rw [na_cl (by omega)] at z
      refine xp_for (fun e0 => ?_) (fun e0 => ?_)
      · unfold wpY_links
        refine yk_t ht ?_
        refine br_f (by rw [ey]; exact z) ?_
        refine yp_links g2.1 g1 ⟨?_, I⟩
        rw [e0, cn_zero (fun e he => decide_eq_false ?_)]
        · rfl
        · rw [(g2.2.1 e he).2.2.2.2]; exact (g2.2.1 e he).2.1
      · unfold wpY_links
        refine yk_t ht ?_
        refine br_f (by rw [ey]; exact z) ?_
        refine yp_links g2.1 g1 ⟨?_, I⟩
        rw [ct_th g2 e0]
  · refine xp_num_f hp ?_
    refine br_t rfl ?_
    unfold wpY_links
    refine yk_f hp ?_
    exact br_t rfl ⟨rfl, I⟩
theorem i_vc_count {k : Nat} {u : SX} {v : SY} (I : i_Rel k u v) (hk : k + 5 ≤ 2560) (v1 : Int32) : wpX_count (fun r => wpY_count (fun r' => r' = r ∧ i_Rel (k + 5) u v) v v1) u v1 := by
  obtain ⟨k, s, l, c, hX, sk, ss, sl, sc⟩ := u
  obtain ⟨kY, zY, cY, en, hd, nm, th, hY⟩ := v
  obtain ⟨m, P, par, L, ⟨g1, g2, g3, g4, g5, g6⟩, U⟩ := nw_G I.1
  unfold wpX_count
  by_cases hp : is_k k 2 v1
  · refine xp_dir_t hp ?_
    obtain ⟨d, d1, rfl, h2⟩ := hp
    refine br_f (by decide) ?_
    refine xp_in d1 ?_
    refine yp_cnt_t g2.1 g1 d1 ((g5 d d1).2.2.2.2.1.trans h2) ⟨?_, I⟩
    rw [ct_dir g2 d1]
  · refine xp_dir_f hp ?_
    refine br_t rfl ?_
    exact yp_cnt_f (fun z => hp ((ik_y g5).mp z)) ⟨rfl, I⟩
theorem i_vc_next {k : Nat} {u : SX} {v : SY} (I : i_Rel k u v) (hk : k + 5 ≤ 2560) (v1 : Int32) (v2 : Int32) : wpX_next (fun r => wpY_next (fun r' => r' = r ∧ i_Rel (k + 5) u v) v v1 v2) u v1 v2 := by
  obtain ⟨k, s, l, c, hX, sk, ss, sl, sc⟩ := u
  obtain ⟨kY, zY, cY, en, hd, nm, th, hY⟩ := v
  obtain ⟨m, P, par, L, ⟨g1, g2, g3, g4, g5, g6⟩, U⟩ := nw_G I.1
  by_cases hp : is_k k 2 v1
  · obtain ⟨d, d1, rfl, h2⟩ := hp
    have ey := (g5 d d1).2.2.2.2.1.trans h2
    have hpos : ∀ e, e < m → ¬ nm e < 0 := fun e he => by rw [(g2.2.1 e he).2.2.2.1]; exact nI_pos (by omega)
    have hent : ∀ e, e < m → hd e = nI d → ∃ x, x < 64 ∧ nm e = nI x ∧ s (d * 64 + x) ≠ 0 := fun e he z => by
      obtain ⟨a1, a2, a3, a4, a5⟩ := g2.2.1 e he
      rw [a3] at z
      have := na_eq (by omega) (by omega) z
      exact ⟨P e % 64, by omega, a4, by rw [show d * 64 + P e % 64 = P e by omega]; exact a2⟩
    have hslot : ∀ x, x < 64 → s (d * 64 + x) ≠ 0 → ∃ e, e < m ∧ hd e = nI d ∧ nm e = nI x := fun x hx z => by
      obtain ⟨e, he, e1⟩ := g2.2.2.2 (d * 64 + x) (by omega) z
      have := (en_at g2 d1 hx he).mpr e1
      exact ⟨e, he, this⟩
    rcases cn_first (fun x => ¬ nI x ≤ v2 ∧ s (d * 64 + x) ≠ 0) 64 with ⟨x, x1, ⟨x2, x3⟩, x4⟩ | hno
    · refine xp_next_t d1 h2 x1 x2 x3 (fun y hy => ?_) ?_
      · by_cases a : nI y ≤ v2
        · exact Or.inl a
        · by_cases b : s (d * 64 + y) = 0
          · exact Or.inr b
          · exact (x4 y hy ⟨a, b⟩).elim
      · refine yp_next g2.1 g1 d1 ey hpos (fun r hr => ⟨?_, I⟩)
        obtain ⟨e0, b1, b2, b3⟩ := hslot x x1 x3
        rcases hr with ⟨_, hz⟩ | ⟨e, a1, a2, a3, a4, a5⟩
        · exact (x2 (by rw [← b3]; exact hz e0 b1 b2)).elim
        · obtain ⟨y, y1, y2, y3⟩ := hent e a1 a2
          have c1 := a5 e0 b1 b2 (by rw [b3]; exact x2)
          rw [y2, b3, nI_leI (by omega) (by omega)] at c1
          have c2 : ¬ y < x := fun z => x4 y z ⟨by rw [← y2]; exact a3, y3⟩
          rw [a4, y2, show y = x by omega]
    · refine xp_next_n d1 h2 (fun y hy => ?_) ?_
      · by_cases a : nI y ≤ v2
        · exact Or.inl a
        · by_cases b : s (d * 64 + y) = 0
          · exact Or.inr b
          · exact (hno y hy ⟨a, b⟩).elim
      · refine yp_next g2.1 g1 d1 ey hpos (fun r hr => ⟨?_, I⟩)
        rcases hr with ⟨e, _⟩ | ⟨e, a1, a2, a3, a4, a5⟩
        · exact e
        · obtain ⟨y, y1, y2, y3⟩ := hent e a1 a2
          exact (hno y y1 ⟨by rw [← y2]; exact a3, y3⟩).elim
  · refine xp_next_f hp ?_
    exact yp_next_f (fun z => hp ((ik_y g5).mp z)) ⟨rfl, I⟩
theorem i_vc_opened {k : Nat} {u : SX} {v : SY} (I : i_Rel k u v) (hk : k + 5 ≤ 2560) (v1 : Int32) : wpX_opened (fun r => wpY_opened (fun r' => r' = r ∧ i_Rel (k + 5) u v) v v1) u v1 := by
  obtain ⟨k, s, l, c, hX, sk, ss, sl, sc⟩ := u
  obtain ⟨kY, zY, cY, en, hd, nm, th, hY⟩ := v
  obtain ⟨m, P, par, L, ⟨g1, g2, g3, g4, g5, g6⟩, U⟩ := nw_G I.1
  unfold wpX_opened
  by_cases hp : ∃ t, t < 4 ∧ v1 = nI t
  · obtain ⟨i, hi, rfl⟩ := hp
    have vi : vp_in (nI i) 4 := vp_in_nI hi (by decide)
    refine xp_hd_t hi ?_
    refine br_f (by decide) ⟨vi, ?_⟩
    rw [na_cl (by omega)]
    rcases g6 i hi with ⟨a1, a2⟩ | ⟨t, t0, t1, a1, a2, a3⟩
    · refine br_t a1 ?_
      unfold wpY_opened
      refine br_f (nI_pos (by omega)) (br_t (nI_le (b := 3) (by omega) (by decide)) ⟨vi, ?_⟩)
      rw [na_cl (by omega), a2]
      exact br_f (by decide) ⟨rfl, I⟩
    · refine br_f (by rw [a2]; exact na_nz (by omega) t0) ⟨vi, ?_⟩
      unfold wpY_opened
      refine br_f (nI_pos (by omega)) (br_t (nI_le (b := 3) (by omega) (by decide)) ⟨vi, ?_⟩)
      rw [na_cl (by omega), a3, a2]
      exact br_t (nI_pos' (by omega)) ⟨vi, rfl, I⟩
  · refine xp_hd_f hp ?_
    refine br_t rfl ?_
    unfold wpY_opened
    rcases na_ng (by decide) hp with e | ⟨e1, e2⟩
    · exact br_t e ⟨rfl, I⟩
    · refine br_f e1 (br_f ?_ ⟨rfl, I⟩)
      obtain ⟨j, hj, rfl⟩ := nI_of e1
      rw [nI_leI (by decide) hj] at e2
      exact nI_ge (a := 3) (by omega) hj
theorem i_vc_length {k : Nat} {u : SX} {v : SY} (I : i_Rel k u v) (hk : k + 5 ≤ 2560) (v1 : Int32) : wpX_length (fun r => wpY_length (fun r' => r' = r ∧ i_Rel (k + 5) u v) v v1) u v1 := by
  obtain ⟨k, s, l, c, hX, sk, ss, sl, sc⟩ := u
  obtain ⟨kY, zY, cY, en, hd, nm, th, hY⟩ := v
  obtain ⟨m, P, par, L, ⟨g1, g2, g3, g4, g5, g6⟩, U⟩ := nw_G I.1
  unfold wpX_length
  by_cases hp : is_k k 1 v1
  · refine xp_file_t hp ?_
    obtain ⟨t, t1, rfl, h1⟩ := hp
    obtain ⟨b1, b2, b3, b4, b5, b6, b7⟩ := g5 t t1
    refine br_f (by decide) ⟨vp_in_nI t1 (by decide), ?_⟩
    unfold wpY_length
    refine yp_file_t ⟨t, t1, rfl, b5.trans h1⟩ ?_
    refine br_f (by decide) ⟨vp_in_nI (by omega) (by decide), ?_, I⟩
    rw [na_cl (by omega), b1, b6 h1]
  · refine xp_file_f hp ?_
    refine br_t rfl ?_
    unfold wpY_length
    refine yp_file_f (fun z => hp ((ik_y g5).mp z)) ?_
    exact br_t rfl ⟨rfl, I⟩
theorem i_vc_read {k : Nat} {u : SX} {v : SY} (I : i_Rel k u v) (hk : k + 5 ≤ 2560) (v1 : Int32) (v2 : Int32) : wpX_read (fun r => wpY_read (fun r' => r' = r ∧ i_Rel (k + 5) u v) v v1 v2) u v1 v2 := by
  obtain ⟨k, s, l, c, hX, sk, ss, sl, sc⟩ := u
  obtain ⟨kY, zY, cY, en, hd, nm, th, hY⟩ := v
  obtain ⟨m, P, par, L, ⟨g1, g2, g3, g4, g5, g6⟩, U⟩ := nw_G I.1
  unfold wpX_read
  by_cases hp : ∃ t, t < 12 ∧ v1 = nI t
  · obtain ⟨t, ht, rfl⟩ := hp
    obtain ⟨b1, b2, b3, b4, b5, b6, b7⟩ := g5 t ht
    by_cases hi : ∃ i, i < L t ∧ v2 = nI i
    · obtain ⟨i, hi, rfl⟩ := hi
      have k1 : k t = 1 := Decidable.byContradiction fun z => by have := b3 z; omega
      refine xp_cell_t ht b1 b2 hi ?_
      unfold wpY_read
      refine yp_cell_t (o := 0) (by omega) ht (by rw [show 12 * 0 + t = t by omega]; exact b5.trans k1) (by rw [show 12 * 0 + t = t by omega]; exact b6 k1) b2 hi ⟨?_, I⟩
      rw [show 576 * 0 + (t * 48 + i) = t * 48 + i by omega]; exact b7 i hi
    · refine xp_cell_z ht b1 b2 hi ?_
      unfold wpY_read
      by_cases k1 : k t = 1
      · exact yp_cell_z (o := 0) (by omega) ht (by rw [show 12 * 0 + t = t by omega]; exact b5.trans k1) (by rw [show 12 * 0 + t = t by omega]; exact b6 k1) b2 hi ⟨rfl, I⟩
      · refine yp_cell_f (o := 0) (by omega) (fun ⟨x, x1, x2, x3⟩ => k1 ?_) ⟨rfl, I⟩
        rw [show 12 * 0 + x = x by omega, ← na_eq (by omega) (by omega) x2] at x3
        exact b5.symm.trans x3
  · refine xp_cell_f hp ?_
    unfold wpY_read
    exact yp_cell_f (o := 0) (by omega) (fun ⟨x, x1, x2, x3⟩ => hp ⟨x, x1, x2⟩) ⟨rfl, I⟩
theorem i_vc_savedRead {k : Nat} {u : SX} {v : SY} (I : i_Rel k u v) (hk : k + 5 ≤ 2560) (v1 : Int32) (v2 : Int32) : wpX_savedRead (fun r => wpY_savedRead (fun r' => r' = r ∧ i_Rel (k + 5) u v) v v1 v2) u v1 v2 := by
  obtain ⟨k, s, l, c, hX, sk, ss, sl, sc⟩ := u
  obtain ⟨kY, zY, cY, en, hd, nm, th, hY⟩ := v
  obtain ⟨⟨⟨m, P, g1, g2⟩, g3, ⟨par, g4⟩, ⟨L, g5⟩⟩, W⟩ := I.2
  unfold wpX_savedRead
  by_cases hp : ∃ t, t < 12 ∧ v1 = nI t
  · obtain ⟨t, ht, rfl⟩ := hp
    obtain ⟨b1, b2, b3, b4, b5, b6, b7⟩ := g5 t ht
    by_cases hi : ∃ i, i < L t ∧ v2 = nI i
    · obtain ⟨i, hi, rfl⟩ := hi
      have k1 : sk t = 1 := Decidable.byContradiction fun z => by have := b3 z; omega
      refine xs_cell_t ht b1 b2 hi ?_
      unfold wpY_savedRead
      exact yp_cell_t (o := 1) (by omega) ht (b5.trans k1) (b6 k1) b2 hi ⟨b7 i hi, I⟩
    · refine xs_cell_z ht b1 b2 hi ?_
      unfold wpY_savedRead
      by_cases k1 : sk t = 1
      · exact yp_cell_z (o := 1) (by omega) ht (b5.trans k1) (b6 k1) b2 hi ⟨rfl, I⟩
      · refine yp_cell_f (o := 1) (by omega) (fun ⟨x, x1, x2, x3⟩ => k1 ?_) ⟨rfl, I⟩
        rw [← na_eq (by omega) (by omega) x2] at x3
        exact b5.symm.trans x3
  · refine xs_cell_f hp ?_
    unfold wpY_savedRead
    exact yp_cell_f (o := 1) (by omega) (fun ⟨x, x1, x2, x3⟩ => hp ⟨x, x1, x2⟩) ⟨rfl, I⟩
theorem i_vc_sum {k : Nat} {u : SX} {v : SY} (I : i_Rel k u v) (hk : k + 5 ≤ 2560) (v1 : Int32) : wpX_sum (fun r => wpY_sum (fun r' => r' = r ∧ i_Rel (k + 5) u v) v v1) u v1 := by
  obtain ⟨k, s, l, c, hX, sk, ss, sl, sc⟩ := u
  obtain ⟨kY, zY, cY, en, hd, nm, th, hY⟩ := v
  obtain ⟨m, P, par, L, ⟨g1, g2, g3, g4, g5, g6⟩, U⟩ := nw_G I.1
  by_cases hp : is_k k 1 v1
  · obtain ⟨t, ht, rfl, k1⟩ := hp
    obtain ⟨b1, b2, b3, b4, b5, b6, b7⟩ := g5 t ht
    refine xp_sum_t ht k1 b1 b2 ?_
    refine yp_sum (g := fun i => c (t * 48 + i)) (fun i hi p h => ?_) ⟨sm_more b2 b4, I⟩
    by_cases hl : i < L t
    · refine yp_cell_t (o := 0) (by omega) ht (by rw [show 12 * 0 + t = t by omega]; exact b5.trans k1) (by rw [show 12 * 0 + t = t by omega]; exact b6 k1) b2 hl ?_
      rw [show 576 * 0 + (t * 48 + i) = t * 48 + i by omega, b7 i hl]; exact h
    · refine yp_cell_z (o := 0) (by omega) ht (by rw [show 12 * 0 + t = t by omega]; exact b5.trans k1) (by rw [show 12 * 0 + t = t by omega]; exact b6 k1) b2 (fun ⟨j, j1, j2⟩ => ?_) ?_
      · have := na_eq (by omega) (by omega) j2; omega
      · rw [b4 i (by omega) hi] at h; exact h
  · unfold wpX_sum
    refine xp_file_f hp ?_
    refine br_t rfl ?_
    refine yp_sum (g := fun _ => 0) (fun i hi p h => ?_) ⟨sm_more (a := 0) (by omega) (fun _ _ _ => rfl), I⟩
    refine yp_cell_f (o := 0) (by omega) (fun ⟨x, x1, x2, x3⟩ => hp ⟨x, x1, x2, ?_⟩) h
    rw [show 12 * 0 + x = x by omega] at x3
    exact (g5 x x1).2.2.2.2.1.symm.trans x3
end
section
/-! no faults -/
section
variable {k s l c hX sk ss sl sc : Nat → Int32} {post : Int32 → Prop}
theorem ft_div {i : Nat} (hi : i < 768) : nI i / 64 = nI (i / 64) := pk_div (a := i) (d := 64) (by omega) (by omega) (by decide)
theorem xp_ef (hK : rl_K k s) (hc : cn_c (fun q => decide (¬ s q = 0)) 768 ≤ 20) (h : post 0) : wpX_entryFaults__kinds_slots post (k, s, l, c, hX, sk, ss, sl, sc) := by
  unfold wpX_entryFaults__kinds_slots
  refine xp_all ?_
  refine br_t (nI_le (b := 20) hc (by decide)) ?_
  refine lc_to (fun n i => wX_entryFaults__kinds_slots_17 post k s l c hX sk ss sl sc n 0 (nI i)) 0 768 (by omega) (fun n => ?_) (fun n i _ hi ih => ?_)
  · exact br_t (Int32.le_refl _) h
  · refine br_f (nI_ge (b := 768) hi (by decide)) ⟨vp_in_nI hi (by decide), ?_⟩
    rw [na_cl (by omega)]
    refine nm_e (br_c (fun _ => nm_r (nI_1 i) ih) (fun z => ?_))
    obtain ⟨t, t0, t1, a1, a2, a3⟩ := hK.2.2 i hi z
    have K60 : wX_entryFaults__kinds_slots_60 post (wX_entryFaults__kinds_slots_17 post k s l c hX sk ss sl sc n) 0 (nI i) 1 k s l c hX sk ss sl sc := by
      refine br_f (by decide) ⟨by decide, ?_⟩
      rw [ft_div hi]
      refine xp_dir_t ⟨i / 64, by omega, rfl, a3⟩ ?_
      exact br_f (by decide) (nm_r (nI_1 i) ih)
    rw [a1]
    rcases hK.2.1 t t1 with e | e | e
    · exact (a2 e).elim
    · refine xp_file_t ⟨t, t1, rfl, e⟩ ?_
      exact br_f (by decide) K60
    · refine xp_file_f (fun ⟨y, y1, y2, y3⟩ => ?_) ?_
      · rw [← na_eq (by omega) (by omega) y2, e] at y3; exact absurd y3 (by decide)
      · refine br_t rfl ?_
        refine xp_dir_t ⟨t, t1, rfl, e⟩ ?_
        exact br_f (by decide) K60
theorem xp_tf {par : Nat → Nat} (hK : rl_K k s) (hT : rl_T k s par) (h : post 0) : wpX_treeFaults__kinds_slots post (k, s, l, c, hX, sk, ss, sl, sc) := by
  unfold wpX_treeFaults__kinds_slots
  refine xp_dir_t ⟨0, by omega, rfl, hK.1⟩ ?_
  refine br_f (by decide) ?_
  refine lc_to (fun n i => wX_treeFaults__kinds_slots_16 post k s l c hX sk ss sl sc n 0 (nI i)) 1 12 (by omega) (fun n => ?_) (fun n i i0 hi ih => ?_)
  · exact br_t (Int32.le_refl _) h
  · refine br_f (nI_ge (b := 12) hi (by decide)) ?_
    by_cases e : k i = 2
    · obtain ⟨q, a1, a2, a3, a4⟩ := hT.2.2.1 i i0 hi e
      refine xp_dir_t ⟨i, hi, rfl, e⟩ ?_
      refine br_f (by decide) ?_
      refine xp_for (fun z => (na_nz (by omega) i0 z).elim) (fun _ => ?_)
      rw [cn_one (i := q) a1 (decide_eq_true a2) (fun j hj hp => a4 j hj (of_decide_eq_true hp))]
      refine br_t rfl ?_
      obtain ⟨j0, b1, b2⟩ := pk_least (fun j => it_i par j i = 0) (hT.2.2.2 i hi e)
      have b3 := it_11 hT.1 hT.2.1 hi (hT.2.2.2 i hi e)
      have b4 : j0 ≤ 11 := Nat.le_of_not_lt fun z => b2 11 z b3
      refine xp_below_t (a := 0) hK hT hi e (by omega) (by omega) b1 b2 ?_
      exact br_f (by decide) (nm_r (nI_1 i) ih)
    · refine xp_dir_f (fun ⟨y, y1, y2, y3⟩ => ?_) ?_
      · rw [← na_eq (by omega) (by omega) y2] at y3; exact e y3
      · exact br_t rfl (nm_r (nI_1 i) ih)
theorem xp_cf {kY zY cY : Nat → Int32} {L : Nat → Nat} (hL : rl_L k l c kY zY cY L) (h : post 0) : wpX_cellFaults__kinds_lengths_cells post (k, s, l, c, hX, sk, ss, sl, sc) := by
  unfold wpX_cellFaults__kinds_lengths_cells
  refine lc_to (fun n i => wX_cellFaults__kinds_lengths_cells_5 post k s l c hX sk ss sl sc n 0 (nI i)) 0 12 (by omega) (fun n => ?_) (fun n i _ hi ih => ?_)
  · exact br_t (Int32.le_refl _) h
  · obtain ⟨b1, b2, b3, b4, _⟩ := hL i hi
    refine br_f (nI_ge (b := 12) hi (by decide)) ?_
    have A : ∀ n0 : Nat, L i ≤ n0 → n0 ≤ 48 → wX_cellFaults__kinds_lengths_cells_27 post (wX_cellFaults__kinds_lengths_cells_5 post k s l c hX sk ss sl sc n) 0 (nI i) (nI n0) k s l c hX sk ss sl sc := fun n0 h0 h48 => by
      unfold wX_cellFaults__kinds_lengths_cells_27
      rw [na_cl (by omega), b1]
      refine ⟨vp_in_nI hi (by decide), br_f (nI_pos (by omega)) ⟨vp_in_nI hi (by decide), br_t (nI_le h0 (by omega)) ?_⟩⟩
      refine lc_to (fun n1 j => wX_cellFaults__kinds_lengths_cells_51 post (wX_cellFaults__kinds_lengths_cells_5 post k s l c hX sk ss sl sc n) (nI i) k s l c hX sk ss sl sc n1 0 (nI j)) 0 48 (by omega) (fun n1 => ?_) (fun n1 j _ hj ih1 => ?_)
      · exact br_t (Int32.le_refl _) (nm_r (nI_1 i) ih)
      · have e0 : nI i * 48 + nI j = nI (i * 48 + j) := na_ma i 48 j
        refine br_f (nI_ge (b := 48) hj (by decide)) ?_
        rw [e0, na_cl (n := i * 48 + j) (by omega), na_cl (by omega), b1]
        refine ⟨vp_in_nI hi (by decide), br_c (fun _ => nm_r (nI_1 j) ih1) (fun z => ⟨vp_in_nI (by omega) (by decide), br_t (b4 j ?_ hj) (nm_r (nI_1 j) ih1)⟩)⟩
        exact Nat.le_of_not_lt fun w => z (nI_lt w (by omega))
    by_cases e : k i = 1
    · refine xp_file_t ⟨i, hi, rfl, e⟩ ?_
      exact br_f (by decide) (A 48 b2 (Nat.le_refl 48))
    · refine xp_file_f (fun ⟨y, y1, y2, y3⟩ => ?_) ?_
      · rw [← na_eq (by omega) (by omega) y2] at y3; exact e y3
      · exact br_t rfl (A 0 (by have := b3 e; omega) (by omega))
theorem xs_ef (hK : rl_K sk ss) (hc : cn_c (fun q => decide (¬ ss q = 0)) 768 ≤ 20) (h : post 0) : wpX_entryFaults__savedKinds_savedSlots post (k, s, l, c, hX, sk, ss, sl, sc) := by
  unfold wpX_entryFaults__savedKinds_savedSlots
  refine xs_all ?_
  refine br_t (nI_le (b := 20) hc (by decide)) ?_
  refine lc_to (fun n i => wX_entryFaults__savedKinds_savedSlots_17 post k s l c hX sk ss sl sc n 0 (nI i)) 0 768 (by omega) (fun n => ?_) (fun n i _ hi ih => ?_)
  · exact br_t (Int32.le_refl _) h
  · refine br_f (nI_ge (b := 768) hi (by decide)) ⟨vp_in_nI hi (by decide), ?_⟩
    rw [na_cl (by omega)]
    refine nm_e (br_c (fun _ => nm_r (nI_1 i) ih) (fun z => ?_))
    obtain ⟨t, t0, t1, a1, a2, a3⟩ := hK.2.2 i hi z
    have K60 : wX_entryFaults__savedKinds_savedSlots_60 post (wX_entryFaults__savedKinds_savedSlots_17 post k s l c hX sk ss sl sc n) 0 (nI i) 1 k s l c hX sk ss sl sc := by
      refine br_f (by decide) ⟨by decide, ?_⟩
      rw [ft_div hi]
      refine xs_dir_t ⟨i / 64, by omega, rfl, a3⟩ ?_
      exact br_f (by decide) (nm_r (nI_1 i) ih)
    rw [a1]
    rcases hK.2.1 t t1 with e | e | e
    · exact (a2 e).elim
    · refine xs_file_t ⟨t, t1, rfl, e⟩ ?_
      exact br_f (by decide) K60
    · refine xs_file_f (fun ⟨y, y1, y2, y3⟩ => ?_) ?_
      · rw [← na_eq (by omega) (by omega) y2, e] at y3; exact absurd y3 (by decide)
      · refine br_t rfl ?_
        refine xs_dir_t ⟨t, t1, rfl, e⟩ ?_
        exact br_f (by decide) K60
theorem xs_tf {par : Nat → Nat} (hK : rl_K sk ss) (hT : rl_T sk ss par) (h : post 0) : wpX_treeFaults__savedKinds_savedSlots post (k, s, l, c, hX, sk, ss, sl, sc) := by
  unfold wpX_treeFaults__savedKinds_savedSlots
  refine xs_dir_t ⟨0, by omega, rfl, hK.1⟩ ?_
  refine br_f (by decide) ?_
  refine lc_to (fun n i => wX_treeFaults__savedKinds_savedSlots_16 post k s l c hX sk ss sl sc n 0 (nI i)) 1 12 (by omega) (fun n => ?_) (fun n i i0 hi ih => ?_)
  · exact br_t (Int32.le_refl _) h
  · refine br_f (nI_ge (b := 12) hi (by decide)) ?_
    by_cases e : sk i = 2
    · obtain ⟨q, a1, a2, a3, a4⟩ := hT.2.2.1 i i0 hi e
      refine xs_dir_t ⟨i, hi, rfl, e⟩ ?_
      refine br_f (by decide) ?_
      refine xs_for (fun z => (na_nz (by omega) i0 z).elim) (fun _ => ?_)
      rw [cn_one (i := q) a1 (decide_eq_true a2) (fun j hj hp => a4 j hj (of_decide_eq_true hp))]
      refine br_t rfl ?_
      obtain ⟨j0, b1, b2⟩ := pk_least (fun j => it_i par j i = 0) (hT.2.2.2 i hi e)
      have b3 := it_11 hT.1 hT.2.1 hi (hT.2.2.2 i hi e)
      have b4 : j0 ≤ 11 := Nat.le_of_not_lt fun z => b2 11 z b3
      refine xs_below_t (a := 0) hK hT hi e (by omega) (by omega) b1 b2 ?_
      exact br_f (by decide) (nm_r (nI_1 i) ih)
    · refine xs_dir_f (fun ⟨y, y1, y2, y3⟩ => ?_) ?_
      · rw [← na_eq (by omega) (by omega) y2] at y3; exact e y3
      · exact br_t rfl (nm_r (nI_1 i) ih)
theorem xs_cf {kY zY cY : Nat → Int32} {L : Nat → Nat} (hL : rl_L sk sl sc kY zY cY L) (h : post 0) : wpX_cellFaults__savedKinds_savedLengths_savedCells post (k, s, l, c, hX, sk, ss, sl, sc) := by
  unfold wpX_cellFaults__savedKinds_savedLengths_savedCells
  refine lc_to (fun n i => wX_cellFaults__savedKinds_savedLengths_savedCells_5 post k s l c hX sk ss sl sc n 0 (nI i)) 0 12 (by omega) (fun n => ?_) (fun n i _ hi ih => ?_)
  · exact br_t (Int32.le_refl _) h
  · obtain ⟨b1, b2, b3, b4, _⟩ := hL i hi
    refine br_f (nI_ge (b := 12) hi (by decide)) ?_
    have A : ∀ n0 : Nat, L i ≤ n0 → n0 ≤ 48 → wX_cellFaults__savedKinds_savedLengths_savedCells_27 post (wX_cellFaults__savedKinds_savedLengths_savedCells_5 post k s l c hX sk ss sl sc n) 0 (nI i) (nI n0) k s l c hX sk ss sl sc := fun n0 h0 h48 => by
      unfold wX_cellFaults__savedKinds_savedLengths_savedCells_27
      rw [na_cl (by omega), b1]
      refine ⟨vp_in_nI hi (by decide), br_f (nI_pos (by omega)) ⟨vp_in_nI hi (by decide), br_t (nI_le h0 (by omega)) ?_⟩⟩
      refine lc_to (fun n1 j => wX_cellFaults__savedKinds_savedLengths_savedCells_51 post (wX_cellFaults__savedKinds_savedLengths_savedCells_5 post k s l c hX sk ss sl sc n) (nI i) k s l c hX sk ss sl sc n1 0 (nI j)) 0 48 (by omega) (fun n1 => ?_) (fun n1 j _ hj ih1 => ?_)
      · exact br_t (Int32.le_refl _) (nm_r (nI_1 i) ih)
      · have e0 : nI i * 48 + nI j = nI (i * 48 + j) := na_ma i 48 j
        refine br_f (nI_ge (b := 48) hj (by decide)) ?_
        rw [e0, na_cl (n := i * 48 + j) (by omega), na_cl (by omega), b1]
        refine ⟨vp_in_nI hi (by decide), br_c (fun _ => nm_r (nI_1 j) ih1) (fun z => ⟨vp_in_nI (by omega) (by decide), br_t (b4 j ?_ hj) (nm_r (nI_1 j) ih1)⟩)⟩
        exact Nat.le_of_not_lt fun w => z (nI_lt w (by omega))
    by_cases e : sk i = 1
    · refine xs_file_t ⟨i, hi, rfl, e⟩ ?_
      exact br_f (by decide) (A 48 b2 (Nat.le_refl 48))
    · refine xs_file_f (fun ⟨y, y1, y2, y3⟩ => ?_) ?_
      · rw [← na_eq (by omega) (by omega) y2] at y3; exact e y3
      · exact br_t rfl (A 0 (by have := b3 e; omega) (by omega))
theorem xp_hf {hY : Nat → Int32} (hH : rl_H k hX hY) (h : post 0) : wpX_handleFaults post (k, s, l, c, hX, sk, ss, sl, sc) := by
  unfold wpX_handleFaults
  refine lc_to (fun n i => wX_handleFaults_4 post k s l c hX sk ss sl sc n 0 (nI i)) 0 4 (by omega) (fun n => ?_) (fun n i _ hi ih => ?_)
  · exact br_t (Int32.le_refl _) h
  · refine br_f (nI_ge (b := 4) hi (by decide)) ⟨vp_in_nI hi (by decide), ?_⟩
    rw [na_cl (by omega)]
    rcases hH i hi with ⟨e, _⟩ | ⟨t, t0, t1, a1, a2, a3⟩
    · exact br_t e (nm_r (nI_1 i) ih)
    · rw [a2]
      refine br_f (na_nz (by omega) t0) ⟨vp_in_nI hi (by decide), ?_⟩
      refine xp_file_t ⟨t, t1, rfl, a1⟩ ?_
      exact br_f (by decide) (nm_r (nI_1 i) ih)
theorem xp_uf (k0 : k 0 = 2) (s0 : sk 0 = 2) (hU : rl_U k s hX) (hW : rl_W sk ss) (h : post 0) : wpX_unusedFaults post (k, s, l, c, hX, sk, ss, sl, sc) := by
  unfold wpX_unusedFaults
  refine lc_to (fun n i => wX_unusedFaults_4 post k s l c hX sk ss sl sc n 0 (nI i)) 0 12 (by omega) (fun n => ?_) (fun n i _ hi ih => ?_)
  · exact br_t (Int32.le_refl _) h
  · refine br_f (nI_ge (b := 12) hi (by decide)) ?_
    have A : wX_unusedFaults_43 post (wX_unusedFaults_4 post k s l c hX sk ss sl sc n) 0 (nI i) k s l c hX sk ss sl sc := by
      unfold wX_unusedFaults_43
      by_cases e : sk i = 1
      · refine xs_file_t ⟨i, hi, rfl, e⟩ ?_
        refine br_f (by decide) ?_
        refine xs_for (fun z => (na_nz (by omega) (us_x0 s0 e) z).elim) (fun _ => ?_)
        obtain ⟨q, q1, q2⟩ := hW i hi e
        have hle := cn_le (fun q => decide (ss q = nI i)) 768
        exact br_f (na_nz (by omega) (cn_pos (p := fun q => decide (ss q = nI i)) (decide_eq_true q2) q1)) (nm_r (nI_1 i) ih)
      · refine xs_file_f (fun ⟨y, y1, y2, y3⟩ => ?_) ?_
        · rw [← na_eq (by omega) (by omega) y2] at y3; exact e y3
        · exact br_t rfl (nm_r (nI_1 i) ih)
    by_cases e : k i = 1
    · refine xp_file_t ⟨i, hi, rfl, e⟩ ?_
      refine br_f (by decide) ?_
      refine xp_for (fun z => (na_nz (by omega) (us_x0 k0 e) z).elim) (fun _ => ?_)
      refine br_c (fun z => ?_) (fun _ => A)
      have nz := ef_z z
      rcases hU i hi e with ⟨q, q1, q2⟩ | ⟨j, j1, j2⟩
      · exact (nz q q1 q2).elim
      · refine xp_op_t j1 j2 ?_
        exact br_f (by decide) A
    · refine xp_file_f (fun ⟨y, y1, y2, y3⟩ => ?_) ?_
      · rw [← na_eq (by omega) (by omega) y2] at y3; exact e y3
      · exact br_t rfl A
end
theorem i_vc_faults {k : Nat} {u : SX} {v : SY} (I : i_Rel k u v) (hk : k + 5 ≤ 2560) : wpX_faults (fun r => wpY_faults (fun r' => r' = r ∧ i_Rel (k + 5) u v) v) u := by
  obtain ⟨k, s, l, c, hX, sk, ss, sl, sc⟩ := u
  obtain ⟨kY, zY, cY, en, hd, nm, th, hY⟩ := v
  obtain ⟨m, P, par, L, ⟨g1, g2, g3, g4, g5, g6⟩, U⟩ := nw_G I.1
  obtain ⟨⟨⟨m', P', f1, f2⟩, f3, ⟨par', f4⟩, ⟨L', f5⟩⟩, W⟩ := I.2
  unfold wpX_faults
  refine xp_ef g3 (by rw [ct_all g2]; exact g2.1) ?_
  refine xp_tf g3 g4 ?_
  refine xp_cf g5 ?_
  refine nm_r (e' := 0) rfl ?_
  refine xs_ef f3 (by rw [ct_all f2]; exact f2.1) ?_
  refine xs_tf f3 f4 ?_
  refine xs_cf f5 ?_
  refine nm_r (e' := 0) rfl ?_
  refine xp_hf g6 ?_
  refine xp_uf g3.1 f3.1 U W ?_
  unfold wpY_faults
  exact ⟨rfl, I⟩
end
section
/-! make, link, unlink, removeDir, handles -/
theorem cn_lt {p : Nat → Bool} {i : Nat} (hp : p i = false) : ∀ {n : Nat}, i < n → cn_c p n < n
  | 0, h => by omega
  | n + 1, h => by
    show cn_c p n + (if p n = true then 1 else 0) < n + 1
    by_cases e : i = n
    · subst e
      rw [if_neg (by rw [hp]; decide)]
      have := cn_le p i; omega
    · have := cn_lt hp (n := n) (by omega)
      split <;> omega
section
variable {k s l c hX sk ss sl sc kY zY cY en hd nm th hY : Nat → Int32} {m : Nat} {P par L : Nat → Nat} {postR : Int32 → SY → Prop}
/-- held by a slot or a handle, told by the reference's arrays -/
theorem us_iff (G : rl_G k s l c hX kY zY cY en hd nm th hY m P par L) {t : Nat} (t0 : 0 < t) (t1 : t < 12) :
    ((∃ q, q < 768 ∧ s q = nI t) ↔ ∃ e, e < m ∧ th e = nI t) ∧ ((∃ i, i < 4 ∧ hX i = nI t) ↔ ∃ i, i < 4 ∧ hY i = nI t) := by
  obtain ⟨g1, g2, g3, g4, g5, g6⟩ := G
  refine ⟨⟨fun ⟨q, q1, q2⟩ => ?_, fun ⟨e, e1, e2⟩ => ?_⟩, ⟨fun ⟨i, i1, i2⟩ => ?_, fun ⟨i, i1, i2⟩ => ?_⟩⟩
  · obtain ⟨e, e1, e2⟩ := g2.2.2.2 q q1 (by rw [q2]; exact na_nz (by omega) t0)
    exact ⟨e, e1, by rw [(g2.2.1 e e1).2.2.2.2, e2, q2]⟩
  · obtain ⟨a1, a2, a3, a4, a5⟩ := g2.2.1 e e1
    exact ⟨P e, a1, by rw [← a5, e2]⟩
  · rcases g6 i i1 with ⟨a1, a2⟩ | ⟨t', b0, b1, b2, b3, b4⟩
    · rw [a1] at i2; exact (na_nz (by omega) t0 i2.symm).elim
    · exact ⟨i, i1, by rw [b4, ← b3, i2]⟩
  · rcases g6 i i1 with ⟨a1, a2⟩ | ⟨t', b0, b1, b2, b3, b4⟩
    · rw [a2] at i2
      have : ¬ nI t < 0 := nI_pos (by omega)
      rw [← i2] at this; exact (this (by decide)).elim
    · exact ⟨i, i1, by rw [b3, ← b4, i2]⟩
theorem st_t (G : rl_G k s l c hX kY zY cY en hd nm th hY m P par L) {t : Nat} (t0 : 0 < t) (t1 : t < 12) (ns : ∀ q, q < 768 → s q ≠ nI t) (nh : ∀ i, i < 4 → hX i ≠ nI t) (h : postR 1 (upd kY t 0, zY, cY, en, hd, nm, th, hY)) : wpY_settle postR (kY, zY, cY, en, hd, nm, th, hY) (nI t) := by
  have U := us_iff G t0 t1
  refine yp_settle_t G.2.1.1 G.1 t1 (fun e he z => ?_) (fun i hi z => ?_) h
  · obtain ⟨q, q1, q2⟩ := U.1.mpr ⟨e, he, z⟩
    exact ns q q1 q2
  · obtain ⟨q, q1, q2⟩ := U.2.mpr ⟨i, hi, z⟩
    exact nh q q1 q2
theorem st_f (G : rl_G k s l c hX kY zY cY en hd nm th hY m P par L) {t : Nat} (t0 : 0 < t) (t1 : t < 12) (hu : (∃ q, q < 768 ∧ s q = nI t) ∨ ∃ i, i < 4 ∧ hX i = nI t) (h : postR 0 (kY, zY, cY, en, hd, nm, th, hY)) : wpY_settle postR (kY, zY, cY, en, hd, nm, th, hY) (nI t) := by
  have U := us_iff G t0 t1
  refine yp_settle_f G.2.1.1 G.1 t1 ?_ h
  rcases hu with e | e
  · exact Or.inl (U.1.mp e)
  · exact Or.inr (U.2.mp e)
/-- the saved half is not touched by what is written below -/
theorem vk_k (V : rl_V sk ss sl sc kY zY cY en hd nm th) {t : Nat} {a : Int32} (t1 : t < 12) : rl_V sk ss sl sc (upd kY t a) zY cY en hd nm th :=
  ag_V (fun x hx => ⟨pk_un (by omega), rfl⟩) (fun _ _ => rfl) rfl (fun _ _ => ⟨rfl, rfl, rfl⟩) V
theorem vk_z (V : rl_V sk ss sl sc kY zY cY en hd nm th) {t : Nat} {a : Int32} (t1 : t < 12) : rl_V sk ss sl sc kY (upd zY t a) cY en hd nm th :=
  ag_V (fun x hx => ⟨rfl, pk_un (by omega)⟩) (fun _ _ => rfl) rfl (fun _ _ => ⟨rfl, rfl, rfl⟩) V
theorem vk_e (V : rl_V sk ss sl sc kY zY cY en hd nm th) {e : Nat} {n a b t : Int32} (he : e < 20) : rl_V sk ss sl sc kY zY cY (upd en 0 n) (upd hd e a) (upd nm e b) (upd th e t) :=
  ag_V (fun x hx => ⟨rfl, rfl⟩) (fun _ _ => rfl) (pk_un (by decide)) (fun x hx => ⟨pk_un (by omega), pk_un (by omega), pk_un (by omega)⟩) V
theorem vk_c (V : rl_V sk ss sl sc kY zY cY en hd nm th) {cY' : Nat → Int32} (h : ∀ i, 576 ≤ i → cY' i = cY i) : rl_V sk ss sl sc kY zY cY' en hd nm th :=
  ag_V (fun x hx => ⟨rfl, rfl⟩) h rfl (fun _ _ => ⟨rfl, rfl, rfl⟩) V
/-- the thing in a slot -/
theorem sl_t (hK : rl_K k s) {d x : Nat} (d1 : d < 12) (x1 : x < 64) (z : s (d * 64 + x) ≠ 0) : ∃ t, 0 < t ∧ t < 12 ∧ s (d * 64 + x) = nI t ∧ (k t = 1 ∨ k t = 2) := by
  obtain ⟨t, t0, t1, a1, a2, a3⟩ := hK.2.2 (d * 64 + x) (by omega) z
  refine ⟨t, t0, t1, a1, ?_⟩
  rcases hK.2.1 t t1 with e | e
  · exact (a2 e).elim
  · exact e
theorem ik_n {a : Int32} {t : Nat} (t1 : t < 12) (h : k t ≠ a) : ¬ is_k k a (nI t) := fun ⟨y, y1, y2, y3⟩ => by
  rw [← na_eq (by omega) (by omega) y2] at y3; exact h y3
end
theorem i_vc_make {k : Nat} {u : SX} {v : SY} (I : i_Rel k u v) (hk : k + 5 ≤ 2560) (v1 : Int32) (v2 : Int32) (v3 : Int32) : wpX_make (fun r u' => wpY_make (fun r' v' => r' = r ∧ i_Rel (k + 5) u' v') v v1 v2 (lw_bz v3)) u v1 v2 (lw_bz v3) := by
  generalize k + 5 = K5
  obtain ⟨k, s, l, c, hX, sk, ss, sl, sc⟩ := u
  obtain ⟨kY, zY, cY, en, hd, nm, th, hY⟩ := v
  obtain ⟨m, P, par, L, G, U⟩ := nw_G I.1
  obtain ⟨g1, g2, g3, g4, g5, g6⟩ := id G
  unfold wpX_make
  by_cases hp : is_k k 2 v1 ∧ is_n v2
  · obtain ⟨⟨d, d1, rfl, h2⟩, x, x1, rfl⟩ := hp
    have ey := (g5 d d1).2.2.2.2.1.trans h2
    refine xp_place_t d1 h2 x1 ?_
    refine br_f (by decide) ?_
    refine xp_slot ?_
    refine ⟨vp_in_nI (by omega) (by decide), ?_⟩
    rw [na_cl (by omega)]
    by_cases z : s (d * 64 + x) = 0
    · refine br_t z ?_
      refine xp_all ?_
      rw [ct_all g2]
      have hm := g2.1
      by_cases hm2 : m < 20
      · refine br_t (nI_lt (b := 20) hm2 (by decide)) ?_
        have n20 : ¬ en 0 = 20 := by rw [g1]; exact na_ne (b := 20) (by omega) (by decide) (by omega)
        rcases cn_first (fun t => k t = 0) 12 with ⟨t, t1, kt, tu⟩ | hno
        · have t0 : 0 < t := by
            rcases Nat.eq_zero_or_pos t with e | e
            · rw [e, g3.1] at kt; exact absurd kt (by decide)
            · exact e
          refine xp_free t1 kt tu ?_
          refine br_t (nI_lt (b := 12) t1 (by decide)) ?_
          have cnt : ¬ nI (cn_c (fun q => decide (¬ kY q = 0)) 12) = 12 := by
            have hc := cn_lt (p := fun q => decide (¬ kY q = 0)) (i := t) (decide_eq_false (fun w => w ((g5 t t1).2.2.2.2.1.trans kt))) (n := 12) t1
            exact na_ne (b := 12) (by omega) (by decide) (by omega)
          have fin : ∀ a : Int32, (a = 1 ∨ a = 2) → (lw_bz v3 = 0 → a = 1) → (¬ lw_bz v3 = 0 → a = 2) → wX_make_80 (fun r u' => wpY_make (fun r' v' => r' = r ∧ i_Rel (K5) u' v') (kY, zY, cY, en, hd, nm, th, hY) (nI d) (nI x) (lw_bz v3)) (nI (d * 64 + x)) (nI t) a (nI t) k s l c hX sk ss sl sc := fun a ha h1 h0 => by
            unfold wX_make_80
            rw [na_cl (by omega), na_cl (by omega)]
            refine ⟨vp_in_nI t1 (by decide), nm_e ⟨vp_in_nI (by omega) (by decide), nm_e ?_⟩⟩
            unfold wpY_make
            refine yp_place_t d1 ey x1 ?_
            refine br_t rfl ?_
            refine y0_f g1 g2 d1 x1 z ?_
            refine br_t (by decide) (br_f n20 ?_)
            refine yp_things ?_
            refine br_f cnt ?_
            have fin2 : wY_make_81 (fun r' v' => r' = nI t ∧ i_Rel (K5) (upd k t a, upd s (d * 64 + x) (nI t), l, c, hX, sk, ss, sl, sc) v') (nI d) (nI x) (nI t) a (nI t) kY zY cY en hd nm th hY := by
              unfold wY_make_81
              rw [na_cl (by omega)]
              refine ⟨vp_in_nI (by omega) (by decide), nm_e ⟨vp_in_nI (by omega) (by decide), nm_e ?_⟩⟩
              refine yp_add (m := m) (by omega) g1 ⟨rfl, ?_⟩
              obtain ⟨P', par', L', G'⟩ := nw_make G hm2 t0 t1 kt ha d1 x1 h2 z
              exact ⟨nw_N G' (nw_makeU U g3.1 (by omega) z), vk_e (vk_z (vk_k I.2 t1) t1) hm2⟩
            refine lc_to (fun n i => wY_make_50 (fun r' v' => r' = nI t ∧ i_Rel (K5) (upd k t a, upd s (d * 64 + x) (nI t), l, c, hX, sk, ss, sl, sc) v') (nI d) (nI x) (lw_bz v3) kY zY cY en hd nm th hY n (nI i)) 0 t (by omega) (fun n => ?_) (fun n i _ hi ih => ?_)
            · refine ⟨vp_in_nI (by omega) (by decide), br_t (by rw [na_cl (by omega)]; exact (g5 t t1).2.2.2.2.1.trans kt) (br_c (fun w => ?_) (fun w => ?_))⟩
              · have := h1 w; subst this; exact fin2
              · have := h0 w; subst this; exact fin2
            · refine ⟨vp_in_nI (by omega) (by decide), br_f (by rw [na_cl (by omega), (g5 i (by omega)).2.2.2.2.1]; exact tu i hi) (nm_r (nI_1 i) ih)⟩
          exact br_c (fun w => fin 1 (Or.inl rfl) (fun _ => rfl) (fun w' => (w' w).elim)) (fun w => fin 2 (Or.inr rfl) (fun w' => (w w').elim) (fun _ => rfl))
        · refine xp_nofree hno ?_
          refine br_f (by decide) ?_
          unfold wpY_make
          refine yp_place_t d1 ey x1 ?_
          refine br_t rfl ?_
          refine y0_f g1 g2 d1 x1 z ?_
          refine br_t (by decide) (br_f n20 ?_)
          refine yp_things ?_
          rw [cn_congr (q := fun _ => true) (fun q hq => decide_eq_true (by rw [(g5 q hq).2.2.2.2.1]; exact hno q hq)), cn_true]
          exact br_t rfl ⟨rfl, I⟩
      · have m20 : m = 20 := by omega
        subst m20
        refine br_f (by decide) ?_
        unfold wpY_make
        refine yp_place_t d1 ey x1 ?_
        refine br_t rfl ?_
        refine y0_f g1 g2 d1 x1 z ?_
        exact br_t (by decide) (br_t g1 ⟨rfl, I⟩)
    · refine br_f z ?_
      unfold wpY_make
      refine yp_place_t d1 ey x1 ?_
      refine br_t rfl ?_
      obtain ⟨e, e1, e2⟩ := g2.2.2.2 (d * 64 + x) (by omega) z
      have hm := g2.1
      refine y0_t g1 g2 d1 x1 e1 e2 ?_
      exact br_f (nI_pos (by omega)) ⟨rfl, I⟩
  · refine xp_place_f hp ?_
    refine br_t rfl ?_
    unfold wpY_make
    refine yp_place_f (fun w => hp ⟨(ik_y g5).mp w.1, w.2⟩) ?_
    exact br_f (by decide) ⟨rfl, I⟩
theorem i_vc_link {k : Nat} {u : SX} {v : SY} (I : i_Rel k u v) (hk : k + 5 ≤ 2560) (v1 : Int32) (v2 : Int32) (v3 : Int32) : wpX_link (fun r u' => wpY_link (fun r' v' => r' = r ∧ i_Rel (k + 5) u' v') v v1 v2 v3) u v1 v2 v3 := by
  obtain ⟨k, s, l, c, hX, sk, ss, sl, sc⟩ := u
  obtain ⟨kY, zY, cY, en, hd, nm, th, hY⟩ := v
  obtain ⟨m, P, par, L, G, U⟩ := nw_G I.1
  obtain ⟨g1, g2, g3, g4, g5, g6⟩ := id G
  unfold wpX_link
  by_cases hp : is_k k 2 v1 ∧ is_n v2
  · obtain ⟨⟨d, d1, rfl, h2⟩, x, x1, rfl⟩ := hp
    have ey := (g5 d d1).2.2.2.2.1.trans h2
    refine xp_place_t d1 h2 x1 ?_
    refine br_f (by decide) ?_
    by_cases hf : is_k k 1 v3
    · refine xp_file_t hf ?_
      have hf' := (ik_y g5).mpr hf
      obtain ⟨t, t1, rfl, kt⟩ := hf
      have t0 := us_x0 g3.1 kt
      have n0 := na_nz (a := t) (by omega) t0
      have hle := cn_le (fun e => decide (th e = nI t)) m
      have hm := g2.1
      refine br_f (by decide) ?_
      refine xp_for (fun z => (n0 z).elim) (fun _ => ?_)
      rw [ct_th g2 n0]
      refine br_c (fun z => ?_) (fun z => ?_)
      · unfold wpY_link
        refine yp_place_t d1 ey x1 ?_
        refine br_t rfl ?_
        refine yp_file_t hf' ?_
        refine br_f (by decide) ?_
        refine yp_links hm g1 ?_
        exact br_t z ⟨rfl, I⟩
      · refine xp_slot ?_
        refine ⟨vp_in_nI (by omega) (by decide), ?_⟩
        rw [na_cl (by omega)]
        by_cases zs : s (d * 64 + x) = 0
        · refine br_t zs ?_
          refine xp_all ?_
          rw [ct_all g2]
          by_cases hm2 : m < 20
          · have n20 : ¬ en 0 = 20 := by rw [g1]; exact na_ne (b := 20) (by omega) (by decide) (by omega)
            obtain ⟨P', G'⟩ := nw_link G hm2 t0 t1 kt d1 x1 h2 zs
            refine br_t (nI_lt (b := 20) hm2 (by decide)) ⟨vp_in_nI (by omega) (by decide), nm_e ?_⟩
            refine xp_for (fun z => (n0 z).elim) (fun _ => ?_)
            unfold wpY_link
            refine yp_place_t d1 ey x1 ?_
            refine br_t rfl ?_
            refine yp_file_t hf' ?_
            refine br_f (by decide) ?_
            refine yp_links hm g1 ?_
            refine br_f z ?_
            refine y0_f g1 g2 d1 x1 zs ?_
            refine br_t (by decide) (br_f n20 ?_)
            refine yp_add (m := m) (by omega) g1 ?_
            refine yp_links (m := m + 1) (by omega) pk_us ⟨?_, ?_⟩
            · rw [ct_th G'.2.1 n0]
            · exact ⟨nw_N G' (nw_linkU U g3.1 (by omega) zs), vk_e I.2 hm2⟩
          · have m20 : m = 20 := by omega
            subst m20
            refine br_f (by decide) ?_
            unfold wpY_link
            refine yp_place_t d1 ey x1 ?_
            refine br_t rfl ?_
            refine yp_file_t hf' ?_
            refine br_f (by decide) ?_
            refine yp_links hm g1 ?_
            refine br_f z ?_
            refine y0_f g1 g2 d1 x1 zs ?_
            exact br_t (by decide) (br_t g1 ⟨rfl, I⟩)
        · refine br_f zs ?_
          unfold wpY_link
          refine yp_place_t d1 ey x1 ?_
          refine br_t rfl ?_
          refine yp_file_t hf' ?_
          refine br_f (by decide) ?_
          refine yp_links hm g1 ?_
          refine br_f z ?_
          obtain ⟨e, e1, e2⟩ := g2.2.2.2 (d * 64 + x) (by omega) zs
          refine y0_t g1 g2 d1 x1 e1 e2 ?_
          exact br_f (nI_pos (by omega)) ⟨rfl, I⟩
    · refine xp_file_f hf ?_
      refine br_t rfl ?_
      unfold wpY_link
      refine yp_place_t d1 ey x1 ?_
      refine br_t rfl ?_
      refine yp_file_f (fun w => hf ((ik_y g5).mp w)) ?_
      exact br_t rfl ⟨rfl, I⟩
  · refine xp_place_f hp ?_
    refine br_t rfl ?_
    unfold wpY_link
    refine yp_place_f (fun w => hp ⟨(ik_y g5).mp w.1, w.2⟩) ?_
    exact br_f (by decide) ⟨rfl, I⟩
end
section
/-! unlink, removeDir, handles -/
section
variable {k s l c hX sk ss sl sc kY zY cY en hd nm th hY : Nat → Int32} {m : Nat} {P par L : Nat → Nat} {postR : Int32 → SY → Prop}
theorem yu_keep (G : rl_G k s l c hX kY zY cY en hd nm th hY (m + 1) P par L) {d x e t : Nat} (d1 : d < 12) (x1 : x < 64) (kd : k d = 2) (he : e < m + 1) (hP : P e = d * 64 + x) (t0 : 0 < t) (t1 : t < 12) (hs : s (d * 64 + x) = nI t) (kt : k t = 1)
    (hu : (∃ q, q < 768 ∧ upd s (d * 64 + x) 0 q = nI t) ∨ ∃ i, i < 4 ∧ hX i = nI t)
    (h : postR (nI (cn_c (fun q => decide (upd s (d * 64 + x) 0 q = nI t)) 768)) (kY, zY, cY, upd en 0 (nI m), upd hd e (hd m), upd nm e (nm m), upd th e (th m), hY)) : wpY_unlink postR (kY, zY, cY, en, hd, nm, th, hY) (nI d) (nI x) := by
  obtain ⟨P', G1⟩ := nw_clear G t1 kt he (by rw [hP]; exact hs)
  rw [hP] at G1
  obtain ⟨g1, g2, g3, g4, g5, g6⟩ := G
  have hm := g2.1
  have n0 := na_nz (a := t) (by omega) t0
  have ey := (g5 t t1).2.2.2.2.1.trans kt
  unfold wpY_unlink
  refine yp_place_t d1 ((g5 d d1).2.2.2.2.1.trans kd) x1 ?_
  refine br_t rfl ?_
  refine y0_t g1 g2 d1 x1 he hP ?_
  refine br_t (nI_pos' (by omega)) ⟨vp_in_nI (by omega) (by decide), nm_r (e' := nI t) ?_ ⟨vp_in_nI (by omega) (by decide), br_f ?_ ?_⟩⟩
  · rw [na_cl (by omega), (g2.2.1 e he).2.2.2.2, hP, hs]
  · rw [na_cl (by omega), ey]; decide
  · refine yp_take (m := m) (by omega) (by omega) g1 ?_
    refine st_f G1 t0 t1 hu ?_
    refine yp_links G1.2.1.1 G1.1 ?_
    rw [← ct_th G1.2.1 n0]
    exact h
theorem yu_drop (G : rl_G k s l c hX kY zY cY en hd nm th hY (m + 1) P par L) {d x e t : Nat} (d1 : d < 12) (x1 : x < 64) (kd : k d = 2) (he : e < m + 1) (hP : P e = d * 64 + x) (t0 : 0 < t) (t1 : t < 12) (hs : s (d * 64 + x) = nI t) (kt : k t = 1)
    (ns : ∀ q, q < 768 → upd s (d * 64 + x) 0 q ≠ nI t) (nh : ∀ i, i < 4 → hX i ≠ nI t)
    (h : postR (nI (cn_c (fun q => decide (upd s (d * 64 + x) 0 q = nI t)) 768)) (upd kY t 0, zY, cY, upd en 0 (nI m), upd hd e (hd m), upd nm e (nm m), upd th e (th m), hY)) : wpY_unlink postR (kY, zY, cY, en, hd, nm, th, hY) (nI d) (nI x) := by
  obtain ⟨P', G1⟩ := nw_clear G t1 kt he (by rw [hP]; exact hs)
  rw [hP] at G1
  obtain ⟨g1, g2, g3, g4, g5, g6⟩ := G
  have hm := g2.1
  have n0 := na_nz (a := t) (by omega) t0
  have ey := (g5 t t1).2.2.2.2.1.trans kt
  unfold wpY_unlink
  refine yp_place_t d1 ((g5 d d1).2.2.2.2.1.trans kd) x1 ?_
  refine br_t rfl ?_
  refine y0_t g1 g2 d1 x1 he hP ?_
  refine br_t (nI_pos' (by omega)) ⟨vp_in_nI (by omega) (by decide), nm_r (e' := nI t) ?_ ⟨vp_in_nI (by omega) (by decide), br_f ?_ ?_⟩⟩
  · rw [na_cl (by omega), (g2.2.1 e he).2.2.2.2, hP, hs]
  · rw [na_cl (by omega), ey]; decide
  · refine yp_take (m := m) (by omega) (by omega) g1 ?_
    refine st_t G1 t0 t1 ns nh ?_
    refine yp_links G1.2.1.1 G1.1 ?_
    rw [← ct_th G1.2.1 n0]
    exact h
theorem yr_t (G : rl_G k s l c hX kY zY cY en hd nm th hY (m + 1) P par L) {d x e t : Nat} (d1 : d < 12) (x1 : x < 64) (kd : k d = 2) (he : e < m + 1) (hP : P e = d * 64 + x) (t0 : 0 < t) (t1 : t < 12) (hs : s (d * 64 + x) = nI t) (kt : k t = 2)
    (hz : ∀ x, x < 64 → s (t * 64 + x) = 0)
    (h : postR 0 (upd kY t 0, zY, cY, upd en 0 (nI m), upd hd e (hd m), upd nm e (nm m), upd th e (th m), hY)) : wpY_removeDir postR (kY, zY, cY, en, hd, nm, th, hY) (nI d) (nI x) := by
  obtain ⟨g1, g2, g3, g4, g5, g6⟩ := G
  have hm := g2.1
  have ey := (g5 t t1).2.2.2.2.1.trans kt
  unfold wpY_removeDir
  refine yp_place_t d1 ((g5 d d1).2.2.2.2.1.trans kd) x1 ?_
  refine br_t rfl ?_
  refine y0_t g1 g2 d1 x1 he hP ?_
  refine br_t (nI_pos' (by omega)) ⟨vp_in_nI (by omega) (by decide), nm_r (e' := nI t) ?_ ⟨vp_in_nI (by omega) (by decide), br_t ?_ ?_⟩⟩
  · rw [na_cl (by omega), (g2.2.1 e he).2.2.2.2, hP, hs]
  · rw [na_cl (by omega), ey]
  · refine yp_cnt_t hm g1 t1 ey ?_
    rw [← ct_dir g2 t1, cn_zero (fun q hq => decide_eq_false (fun w => w (hz q hq)))]
    refine br_t (by decide) ?_
    refine yp_take (m := m) (by omega) (by omega) g1 ?_
    exact ⟨vp_in_nI (by omega) (by decide), nm_r (by rw [na_cl (by omega)]) h⟩
/-- the only slot of a directory, emptied -/
theorem dr_one (hT : rl_T k s par) {q t : Nat} (hq : q < 768) (t0 : 0 < t) (t1 : t < 12) (kt : k t = 2) (hs : s q = nI t) : ∀ r, r < 768 → upd s q 0 r ≠ nI t := fun r hr z => by
  obtain ⟨q0, a1, a2, a3, a4⟩ := hT.2.2.1 t t0 t1 kt
  by_cases e : r = q
  · rw [e, pk_us] at z; exact na_nz (by omega) t0 z.symm
  · rw [pk_un e] at z
    exact e ((a4 r hr z).trans (a4 q hq hs).symm)
theorem dr_h (hH : rl_H k hX hY) {t : Nat} (t0 : 0 < t) (t1 : t < 12) (kt : k t ≠ 1) : ∀ i, i < 4 → hX i ≠ nI t := fun i hi z => by
  rcases hH i hi with ⟨a1, a2⟩ | ⟨t', b0, b1, b2, b3, b4⟩
  · rw [a1] at z; exact na_nz (by omega) t0 z.symm
  · rw [b3] at z
    rw [na_eq (by omega) (by omega) z] at b2; exact kt b2
end
theorem i_vc_unlink {k : Nat} {u : SX} {v : SY} (I : i_Rel k u v) (hk : k + 5 ≤ 2560) (v1 : Int32) (v2 : Int32) : wpX_unlink (fun r u' => wpY_unlink (fun r' v' => r' = r ∧ i_Rel (k + 5) u' v') v v1 v2) u v1 v2 := by
  obtain ⟨k, s, l, c, hX, sk, ss, sl, sc⟩ := u
  obtain ⟨kY, zY, cY, en, hd, nm, th, hY⟩ := v
  obtain ⟨m, P, par, L, G, U⟩ := nw_G I.1
  obtain ⟨g1, g2, g3, g4, g5, g6⟩ := id G
  unfold wpX_unlink
  by_cases hp : is_k k 2 v1 ∧ is_n v2
  · obtain ⟨⟨d, d1, rfl, h2⟩, x, x1, rfl⟩ := hp
    have ey := (g5 d d1).2.2.2.2.1.trans h2
    refine xp_place_t d1 h2 x1 ?_
    refine br_f (by decide) ?_
    refine xp_slot ?_
    refine ⟨vp_in_nI (by omega) (by decide), ?_⟩
    rw [na_cl (by omega)]
    by_cases z : s (d * 64 + x) = 0
    · refine nm_e (br_t z ?_)
      unfold wpY_unlink
      refine yp_place_t d1 ey x1 ?_
      refine br_t rfl ?_
      refine y0_f g1 g2 d1 x1 z ?_
      exact br_f (by decide) ⟨rfl, I⟩
    · obtain ⟨e, e1, e2⟩ := g2.2.2.2 (d * 64 + x) (by omega) z
      obtain ⟨t, t0, t1, hs, kt⟩ := sl_t g3 d1 x1 z
      have hm := g2.1
      refine nm_r hs (br_f (na_nz (by omega) t0) ?_)
      rcases kt with kt | kt
      · refine xp_dir_f (ik_n t1 (by rw [kt]; decide)) ?_
        refine br_t rfl ⟨vp_in_nI (by omega) (by decide), nm_e ?_⟩
        obtain ⟨m', rfl⟩ : ∃ m', m = m' + 1 := ⟨m - 1, by omega⟩
        obtain ⟨P', G1⟩ := nw_clear G t1 kt e1 (by rw [e2]; exact hs)
        rw [e2] at G1
        by_cases hu : (∃ q, q < 768 ∧ upd s (d * 64 + x) 0 q = nI t) ∨ ∃ i, i < 4 ∧ hX i = nI t
        · refine xp_drop_f t0 t1 hu ?_
          refine xp_for (fun w => (na_nz (by omega) t0 w).elim) (fun _ => ?_)
          refine yu_keep G d1 x1 h2 e1 e2 t0 t1 hs kt hu ⟨rfl, ?_⟩
          exact ⟨nw_N G1 (nw_clearU U t1 hs hu), vk_e I.2 (by omega)⟩
        · have ns : ∀ q, q < 768 → upd s (d * 64 + x) 0 q ≠ nI t := fun q hq w => hu (Or.inl ⟨q, hq, w⟩)
          have nh : ∀ i, i < 4 → hX i ≠ nI t := fun i hi w => hu (Or.inr ⟨i, hi, w⟩)
          refine xp_drop_t t0 t1 ns nh ?_
          refine xp_for (fun w => (na_nz (by omega) t0 w).elim) (fun _ => ?_)
          refine yu_drop G d1 x1 h2 e1 e2 t0 t1 hs kt ns nh ⟨rfl, ?_⟩
          obtain ⟨L', G2⟩ := nw_drop G1 t1 kt ns nh
          exact ⟨nw_N G2 (nw_goneU U t1 hs), vk_e (vk_k I.2 t1) (by omega)⟩
      · refine xp_dir_t ⟨t, t1, rfl, kt⟩ ?_
        refine br_f (by decide) ?_
        unfold wpY_unlink
        refine yp_place_t d1 ey x1 ?_
        refine br_t rfl ?_
        refine y0_t g1 g2 d1 x1 e1 e2 ?_
        refine br_t (nI_pos' (by omega)) ⟨vp_in_nI (by omega) (by decide), nm_r (e' := nI t) ?_ ⟨vp_in_nI (by omega) (by decide), br_t ?_ ⟨rfl, I⟩⟩⟩
        · rw [na_cl (by omega), (g2.2.1 e e1).2.2.2.2, e2, hs]
        · rw [na_cl (by omega)]; exact (g5 t t1).2.2.2.2.1.trans kt
  · refine xp_place_f hp ?_
    refine br_t rfl ?_
    unfold wpY_unlink
    refine yp_place_f (fun w => hp ⟨(ik_y g5).mp w.1, w.2⟩) ?_
    exact br_f (by decide) ⟨rfl, I⟩
theorem i_vc_removeDir {k : Nat} {u : SX} {v : SY} (I : i_Rel k u v) (hk : k + 5 ≤ 2560) (v1 : Int32) (v2 : Int32) : wpX_removeDir (fun r u' => wpY_removeDir (fun r' v' => r' = r ∧ i_Rel (k + 5) u' v') v v1 v2) u v1 v2 := by
  obtain ⟨k, s, l, c, hX, sk, ss, sl, sc⟩ := u
  obtain ⟨kY, zY, cY, en, hd, nm, th, hY⟩ := v
  obtain ⟨m, P, par, L, G, U⟩ := nw_G I.1
  obtain ⟨g1, g2, g3, g4, g5, g6⟩ := id G
  unfold wpX_removeDir
  by_cases hp : is_k k 2 v1 ∧ is_n v2
  · obtain ⟨⟨d, d1, rfl, h2⟩, x, x1, rfl⟩ := hp
    have ey := (g5 d d1).2.2.2.2.1.trans h2
    refine xp_place_t d1 h2 x1 ?_
    refine br_f (by decide) ?_
    refine xp_slot ?_
    refine ⟨vp_in_nI (by omega) (by decide), ?_⟩
    rw [na_cl (by omega)]
    by_cases z : s (d * 64 + x) = 0
    · refine nm_e (br_t z ?_)
      unfold wpY_removeDir
      refine yp_place_t d1 ey x1 ?_
      refine br_t rfl ?_
      refine y0_f g1 g2 d1 x1 z ?_
      exact br_f (by decide) ⟨rfl, I⟩
    · obtain ⟨e, e1, e2⟩ := g2.2.2.2 (d * 64 + x) (by omega) z
      obtain ⟨t, t0, t1, hs, kt⟩ := sl_t g3 d1 x1 z
      have hm := g2.1
      have et : th e = nI t := by rw [(g2.2.1 e e1).2.2.2.2, e2, hs]
      refine nm_r hs (br_f (na_nz (by omega) t0) ?_)
      rcases kt with kt | kt
      · refine xp_file_t ⟨t, t1, rfl, kt⟩ ?_
        refine br_f (by decide) ?_
        unfold wpY_removeDir
        refine yp_place_t d1 ey x1 ?_
        refine br_t rfl ?_
        refine y0_t g1 g2 d1 x1 e1 e2 ?_
        refine br_t (nI_pos' (by omega)) ⟨vp_in_nI (by omega) (by decide), nm_r (e' := nI t) (by rw [na_cl (by omega)]; exact et) ⟨vp_in_nI (by omega) (by decide), br_f ?_ ⟨rfl, I⟩⟩⟩
        rw [na_cl (by omega), (g5 t t1).2.2.2.2.1, kt]; decide
      · have kyt := (g5 t t1).2.2.2.2.1.trans kt
        refine xp_file_f (ik_n t1 (by rw [kt]; decide)) ?_
        refine br_t rfl ?_
        refine xp_in t1 ?_
        have hle := cn_le (fun q => decide (¬ s (t * 64 + q) = 0)) 64
        by_cases hc : cn_c (fun q => decide (¬ s (t * 64 + q) = 0)) 64 = 0
        · have hz : ∀ x, x < 64 → s (t * 64 + x) = 0 := fun x hx => Decidable.byContradiction fun w => of_decide_eq_false (cn_all hc x hx) w
          rw [hc]
          refine br_t (by decide) ⟨vp_in_nI (by omega) (by decide), nm_e ?_⟩
          refine xp_drop_t t0 t1 (dr_one g4 (by omega) t0 t1 kt hs) (dr_h g6 t0 t1 (by rw [kt]; decide)) ?_
          obtain ⟨m', rfl⟩ : ∃ m', m = m' + 1 := ⟨m - 1, by omega⟩
          obtain ⟨P', L', G1⟩ := nw_rmdir G t0 t1 kt e1 (by rw [e2]; exact hs) hz
          rw [e2] at G1
          refine yr_t G d1 x1 h2 e1 e2 t0 t1 hs kt hz ⟨rfl, ?_⟩
          exact ⟨nw_N G1 (nw_goneU U t1 hs), vk_e (vk_k I.2 t1) (by omega)⟩
        · have hc' : ¬ nI (cn_c (fun q => decide (¬ s (t * 64 + q) = 0)) 64) ≤ 0 := nI_nle (by omega) (by omega)
          refine br_f hc' ?_
          unfold wpY_removeDir
          refine yp_place_t d1 ey x1 ?_
          refine br_t rfl ?_
          refine y0_t g1 g2 d1 x1 e1 e2 ?_
          refine br_t (nI_pos' (by omega)) ⟨vp_in_nI (by omega) (by decide), nm_r (e' := nI t) (by rw [na_cl (by omega)]; exact et) ⟨vp_in_nI (by omega) (by decide), br_t (by rw [na_cl (by omega)]; exact kyt) ?_⟩⟩
          refine yp_cnt_t hm g1 t1 kyt ?_
          rw [← ct_dir g2 t1]
          exact br_f hc' ⟨rfl, I⟩
  · refine xp_place_f hp ?_
    refine br_t rfl ?_
    unfold wpY_removeDir
    refine yp_place_f (fun w => hp ⟨(ik_y g5).mp w.1, w.2⟩) ?_
    exact br_f (by decide) ⟨rfl, I⟩
theorem hv_3 {v : Int32} (h : ¬ ∃ t, t < 4 ∧ v = nI t) : v < 0 ∨ (¬ v < 0 ∧ 3 < v ∧ ¬ v ≤ 3) := by
  rcases na_ng (by decide) h with e | ⟨e1, e2⟩
  · exact Or.inl e
  · obtain ⟨j, hj, rfl⟩ := nI_of e1
    rw [nI_leI (by decide) hj] at e2
    exact Or.inr ⟨e1, nI_lt (a := 3) (by omega) hj, nI_ge (a := 3) (by omega) hj⟩
theorem i_vc_open {k : Nat} {u : SX} {v : SY} (I : i_Rel k u v) (hk : k + 5 ≤ 2560) (v1 : Int32) (v2 : Int32) : wpX_open (fun r u' => wpY_open (fun r' v' => r' = r ∧ i_Rel (k + 5) u' v') v v1 v2) u v1 v2 := by
  obtain ⟨k, s, l, c, hX, sk, ss, sl, sc⟩ := u
  obtain ⟨kY, zY, cY, en, hd, nm, th, hY⟩ := v
  obtain ⟨m, P, par, L, G, U⟩ := nw_G I.1
  obtain ⟨g1, g2, g3, g4, g5, g6⟩ := id G
  unfold wpX_open
  by_cases hp : ∃ t, t < 4 ∧ v1 = nI t
  · obtain ⟨i, hi, rfl⟩ := hp
    have vi : vp_in (nI i) 4 := vp_in_nI hi (by decide)
    have q1 : ¬ nI i < 0 := nI_pos (by omega)
    have q2 : ¬ 3 < nI i := nI_nlt (a := 3) (by omega) (by decide)
    refine xp_hd_t hi ?_
    refine br_f (by decide) ?_
    by_cases hf : is_k k 1 v2
    · refine xp_file_t hf ?_
      have hf' := (ik_y g5).mpr hf
      obtain ⟨t, t1, rfl, kt⟩ := hf
      have t0 := us_x0 g3.1 kt
      refine br_f (by decide) ⟨vi, ?_⟩
      rw [na_cl (by omega)]
      rcases g6 i hi with ⟨a1, a2⟩ | ⟨y, y0, y1, a1, a2, a3⟩
      · refine br_t a1 ⟨vi, nm_e ?_⟩
        unfold wpY_open
        refine br_f q1 (br_f q2 ?_)
        refine yp_file_t hf' ?_
        refine br_f (by decide) ⟨vi, ?_⟩
        rw [na_cl (by omega)]
        refine br_t (by rw [a2]; decide) ⟨vi, nm_e ⟨rfl, ?_⟩⟩
        exact ⟨nw_N (nw_hold G t0 t1 kt) (nw_holdU U g3.1 a1), I.2⟩
      · refine br_f (by rw [a2]; exact na_nz (by omega) y0) ?_
        unfold wpY_open
        refine br_f q1 (br_f q2 ?_)
        refine yp_file_t hf' ?_
        refine br_f (by decide) ⟨vi, ?_⟩
        rw [na_cl (by omega)]
        exact br_f (by rw [a3]; exact nI_pos (by omega)) ⟨rfl, I⟩
    · refine xp_file_f hf ?_
      refine br_t rfl ?_
      unfold wpY_open
      refine br_f q1 (br_f q2 ?_)
      refine yp_file_f (fun w => hf ((ik_y g5).mp w)) ?_
      exact br_t rfl ⟨rfl, I⟩
  · refine xp_hd_f hp ?_
    refine br_t rfl ?_
    unfold wpY_open
    rcases hv_3 hp with e | ⟨e1, e2, _⟩
    · exact br_t e ⟨rfl, I⟩
    · exact br_f e1 (br_t e2 ⟨rfl, I⟩)
theorem i_vc_close {k : Nat} {u : SX} {v : SY} (I : i_Rel k u v) (hk : k + 5 ≤ 2560) (v1 : Int32) : wpX_close (fun r u' => wpY_close (fun r' v' => r' = r ∧ i_Rel (k + 5) u' v') v v1) u v1 := by
  obtain ⟨k, s, l, c, hX, sk, ss, sl, sc⟩ := u
  obtain ⟨kY, zY, cY, en, hd, nm, th, hY⟩ := v
  obtain ⟨m, P, par, L, G, U⟩ := nw_G I.1
  obtain ⟨g1, g2, g3, g4, g5, g6⟩ := id G
  unfold wpX_close
  by_cases hp : ∃ t, t < 4 ∧ v1 = nI t
  · obtain ⟨i, hi, rfl⟩ := hp
    have vi : vp_in (nI i) 4 := vp_in_nI hi (by decide)
    have q1 : ¬ nI i < 0 := nI_pos (by omega)
    have q2 : nI i ≤ 3 := nI_le (b := 3) (by omega) (by decide)
    refine xp_hd_t hi ?_
    refine br_f (by decide) ⟨vi, ?_⟩
    rw [na_cl (by omega)]
    rcases g6 i hi with ⟨a1, a2⟩ | ⟨t, t0, t1, a1, a2, a3⟩
    · refine nm_e (br_t a1 ?_)
      unfold wpY_close
      refine br_f q1 (br_t q2 ⟨vi, ?_⟩)
      rw [na_cl (by omega)]
      exact br_f (by rw [a2]; decide) ⟨rfl, I⟩
    · refine nm_r a2 (br_f (na_nz (by omega) t0) ⟨vi, nm_e ?_⟩)
      have G1 := nw_let G (i := i)
      by_cases hu : (∃ q, q < 768 ∧ s q = nI t) ∨ ∃ h, h < 4 ∧ upd hX i 0 h = nI t
      · refine xp_drop_f t0 t1 hu ?_
        refine ⟨vp_in_nI t1 (by decide), br_f (by rw [na_cl (by omega), a1]; decide) ?_⟩
        unfold wpY_close
        refine br_f q1 (br_t q2 ⟨vi, ?_⟩)
        rw [na_cl (by omega)]
        refine br_t (by rw [a3]; exact nI_pos' (by omega)) ⟨vi, nm_r a3 ⟨vi, nm_e ?_⟩⟩
        refine st_f G1 t0 t1 hu ?_
        refine br_t rfl ⟨rfl, ?_⟩
        exact ⟨nw_N G1 (nw_letU U t1 a2 hu), I.2⟩
      · have ns : ∀ q, q < 768 → s q ≠ nI t := fun q hq w => hu (Or.inl ⟨q, hq, w⟩)
        have nh : ∀ h, h < 4 → upd hX i 0 h ≠ nI t := fun h hh w => hu (Or.inr ⟨h, hh, w⟩)
        refine xp_drop_t t0 t1 ns nh ?_
        refine ⟨vp_in_nI t1 (by decide), br_t (by rw [na_cl (by omega)]; exact pk_us) ?_⟩
        unfold wpY_close
        refine br_f q1 (br_t q2 ⟨vi, ?_⟩)
        rw [na_cl (by omega)]
        refine br_t (by rw [a3]; exact nI_pos' (by omega)) ⟨vi, nm_r a3 ⟨vi, nm_e ?_⟩⟩
        refine st_t G1 t0 t1 ns nh ?_
        refine br_f (by decide) ⟨rfl, ?_⟩
        obtain ⟨L', G2⟩ := nw_drop G1 t1 a1 ns nh
        exact ⟨nw_N G2 (nw_letgoneU U t1 a2), vk_k I.2 t1⟩
  · refine xp_hd_f hp ?_
    refine br_t rfl ?_
    unfold wpY_close
    rcases hv_3 hp with e | ⟨e1, _, e2⟩
    · exact br_t e ⟨rfl, I⟩
    · exact br_f e1 (br_f e2 ⟨rfl, I⟩)
end
section
/-! fill, cut, saving and coming back -/
section
variable {k s l c hX sk ss sl sc kY zY cY en hd nm th hY : Nat → Int32} {postX : Int32 → SX → Prop} {postR : Int32 → SY → Prop}
theorem xp_fill {t a n : Nat} {v : Int32} (ht : t < 12) (hn : a + n ≤ 48) (h : postX (l t) (k, s, l, fl_c c (t * 48 + a) (t * 48 + a + n) v, hX, sk, ss, sl, sc)) : wX_fill_64 postX (nI t) (nI a) (nI n) v k s l c hX sk ss sl sc := by
  unfold wX_fill_64
  refine nm_r (e' := nI (t * 48 + a)) (na_ma t 48 a) ?_
  refine lc_to2 (fun f i => wX_fill_75 postX (nI t) (nI n) v (nI (t * 48 + a)) f (nI i) k s l (fl_c c (t * 48 + a) (t * 48 + a + i) v) hX sk ss sl sc) 0 n (by omega) (fun A => ?_) (fun f => ?_) (fun f i h0 hi ih => ?_)
  · rw [Nat.add_zero, fl_e] at A; exact A
  · refine br_t (Int32.le_refl _) ⟨vp_in_nI ht (by decide), ?_⟩
    rw [na_cl (by omega)]; exact h
  · refine br_f (nI_ge hi (by omega)) ?_
    rw [nI_add, na_cl (by omega)]
    exact ⟨vp_in_nI (by omega) (by decide), nm_r (fl_u c (t * 48 + a) i v) (nm_r (nI_1 i) ih)⟩
theorem yp_fill {t a n : Nat} {v : Int32} (ht : t < 12) (hn : a + n ≤ 48) (h : postR (zY t) (kY, zY, fl_c cY (t * 48 + a) (t * 48 + a + n) v, en, hd, nm, th, hY)) : ∃ f, wY_fill_62 postR (nI t) (nI a) (nI n) v f 0 kY zY cY en hd nm th hY := by
  refine lc_to2 (fun f i => wY_fill_62 postR (nI t) (nI a) (nI n) v f (nI i) kY zY (fl_c cY (t * 48 + a) (t * 48 + a + i) v) en hd nm th hY) 0 n (by omega) (fun A => ?_) (fun f => ?_) (fun f i h0 hi ih => ?_)
  · rw [Nat.add_zero, fl_e] at A; exact A
  · refine br_t (Int32.le_refl _) ⟨vp_in_nI (by omega) (by decide), ?_⟩
    rw [na_cl (by omega)]; exact h
  · have e0 : 48 * nI t + nI a = nI (t * 48 + a) := by rw [Nat.mul_comm]; exact na_ma 48 t a
    refine br_f (nI_ge hi (by omega)) ?_
    rw [e0, nI_add, na_cl (by omega)]
    exact ⟨vp_in_nI (by omega) (by decide), nm_r (fl_u cY (t * 48 + a) i v) (nm_r (nI_1 i) ih)⟩
end
theorem i_vc_fill {k : Nat} {u : SX} {v : SY} (I : i_Rel k u v) (hk : k + 5 ≤ 2560) (v1 : Int32) (v2 : Int32) (v3 : Int32) (v4 : Int32) : wpX_fill (fun r u' => wpY_fill (fun r' v' => r' = r ∧ i_Rel (k + 5) u' v') v v1 v2 v3 v4) u v1 v2 v3 v4 := by
  obtain ⟨k, s, l, c, hX, sk, ss, sl, sc⟩ := u
  obtain ⟨kY, zY, cY, en, hd, nm, th, hY⟩ := v
  obtain ⟨m, P, par, L, G, U⟩ := nw_G I.1
  obtain ⟨g1, g2, g3, g4, g5, g6⟩ := id G
  unfold wpX_fill
  by_cases hf : is_k k 1 v1
  · refine xp_file_t hf ?_
    have hf' := (ik_y g5).mpr hf
    obtain ⟨t, t1, rfl, kt⟩ := hf
    obtain ⟨b1, b2, b3, b4, b5, b6, b7⟩ := g5 t t1
    refine br_f (by decide) ?_
    by_cases c1 : v2 < 0
    · refine br_t c1 ?_
      unfold wpY_fill
      refine yp_file_t hf' ?_
      exact br_f (by decide) (br_t c1 ⟨rfl, I⟩)
    · refine br_f c1 ?_
      obtain ⟨a, ha, rfl⟩ := nI_of c1
      by_cases c2 : a < 48
      · have c2y : ¬ 47 < nI a := nI_nlt (a := 47) (by omega) (by decide)
        refine br_t (nI_lt (b := 48) c2 (by decide)) ?_
        by_cases c3 : v3 < 1
        · refine br_t c3 ?_
          unfold wpY_fill
          refine yp_file_t hf' ?_
          exact br_f (by decide) (br_f c1 (br_f c2y (br_t c3 ⟨rfl, I⟩)))
        · refine br_f c3 ?_
          by_cases c4 : 48 < v3
          · refine br_t c4 ?_
            unfold wpY_fill
            refine yp_file_t hf' ?_
            exact br_f (by decide) (br_f c1 (br_f c2y (br_f c3 (br_t c4 ⟨rfl, I⟩))))
          · refine br_f c4 ?_
            have c3' : ¬ v3 < 0 := fun w => c3 (by
              rw [Int32.lt_iff_toInt_lt] at w ⊢
              rw [show (0 : Int32).toInt = 0 from by decide] at w
              rw [show (1 : Int32).toInt = 1 from by decide]; omega)
            obtain ⟨n, hn, rfl⟩ := nI_of c3'
            have n48 : n ≤ 48 := Nat.le_of_not_lt fun w => c4 (nI_lt (a := 48) w hn)
            rw [nI_add]
            by_cases c5 : a + n ≤ 48
            · have c5' : nI (a + n) ≤ 48 := nI_le (b := 48) c5 (by decide)
              refine br_t c5' ⟨vp_in_nI t1 (by decide), ?_⟩
              rw [na_cl (by omega), b1]
              by_cases c6 : a + n ≤ L t
              · refine br_t (nI_le c6 (by omega)) ?_
                refine xp_fill t1 c5 ?_
                unfold wpY_fill
                refine yp_file_t hf' ?_
                refine br_f (by decide) (br_f c1 (br_f c2y (br_f c3 (br_f c4 ?_))))
                rw [nI_add]
                refine br_t c5' ⟨vp_in_nI (by omega) (by decide), ?_⟩
                rw [na_cl (by omega), b6 kt]
                refine br_t (nI_le c6 (by omega)) ?_
                refine yp_fill t1 c5 ⟨by rw [b1, b6 kt], ?_⟩
                exact ⟨nw_N (nw_fill G t1 kt c6) U, vk_c I.2 (fun i hi => fl_out (by omega))⟩
              · refine br_f (nI_ge (by omega) (by omega)) ?_
                obtain ⟨L', G1, hL'⟩ := nw_len G t1 kt c5
                refine xp_setlen t1 c5 ?_
                refine xp_fill t1 c5 ?_
                unfold wpY_fill
                refine yp_file_t hf' ?_
                refine br_f (by decide) (br_f c1 (br_f c2y (br_f c3 (br_f c4 ?_))))
                rw [nI_add]
                refine br_t c5' ⟨vp_in_nI (by omega) (by decide), ?_⟩
                rw [na_cl (by omega), b6 kt]
                refine br_f (nI_ge (by omega) (by omega)) ?_
                refine yp_resize t1 (b6 kt) b2 c5 ?_
                refine yp_fill t1 c5 ⟨by rw [pk_us, pk_us], ?_⟩
                exact ⟨nw_N (nw_fill G1 t1 kt (by rw [hL']; omega)) U, vk_c (vk_z (vk_c I.2 (fun i hi => zf_out (by omega))) t1) (fun i hi => fl_out (by omega))⟩
            · have c5' : ¬ nI (a + n) ≤ 48 := nI_ge (a := 48) (by omega) (by omega)
              refine br_f c5' ?_
              unfold wpY_fill
              refine yp_file_t hf' ?_
              refine br_f (by decide) (br_f c1 (br_f c2y (br_f c3 (br_f c4 ?_))))
              rw [nI_add]
              exact br_f c5' ⟨rfl, I⟩
      · refine br_f (nI_nlt (b := 48) (by omega) ha) ?_
        unfold wpY_fill
        refine yp_file_t hf' ?_
        exact br_f (by decide) (br_f c1 (br_t (nI_lt (a := 47) (by omega) ha) ⟨rfl, I⟩))
  · refine xp_file_f hf ?_
    refine br_t rfl ?_
    unfold wpY_fill
    refine yp_file_f (fun w => hf ((ik_y g5).mp w)) ?_
    exact br_t rfl ⟨rfl, I⟩
theorem i_vc_cut {k : Nat} {u : SX} {v : SY} (I : i_Rel k u v) (hk : k + 5 ≤ 2560) (v1 : Int32) (v2 : Int32) : wpX_cut (fun r u' => wpY_cut (fun r' v' => r' = r ∧ i_Rel (k + 5) u' v') v v1 v2) u v1 v2 := by
  obtain ⟨k, s, l, c, hX, sk, ss, sl, sc⟩ := u
  obtain ⟨kY, zY, cY, en, hd, nm, th, hY⟩ := v
  obtain ⟨m, P, par, L, G, U⟩ := nw_G I.1
  obtain ⟨g1, g2, g3, g4, g5, g6⟩ := id G
  unfold wpX_cut
  by_cases hf : is_k k 1 v1
  · refine xp_file_t hf ?_
    have hf' := (ik_y g5).mpr hf
    obtain ⟨t, t1, rfl, kt⟩ := hf
    obtain ⟨b1, b2, b3, b4, b5, b6, b7⟩ := g5 t t1
    refine br_f (by decide) ?_
    by_cases c1 : v2 < 0
    · refine br_t c1 ?_
      unfold wpY_cut
      refine yp_file_t hf' ?_
      exact br_f (by decide) (br_t c1 ⟨rfl, I⟩)
    · refine br_f c1 ?_
      by_cases c2 : v2 ≤ 48
      · obtain ⟨n, hn, rfl⟩ := nI_of c1
        have n48 : n ≤ 48 := (nI_leI (b := 48) hn (by decide)).mp c2
        refine br_t c2 ⟨vp_in_nI t1 (by decide), nm_r (e' := nI (L t)) (by rw [na_cl (by omega)]; exact b1) ?_⟩
        refine xp_setlen t1 n48 ?_
        unfold wpY_cut
        refine yp_file_t hf' ?_
        refine br_f (by decide) (br_f c1 (br_t c2 ⟨vp_in_nI (by omega) (by decide), nm_r (e' := nI (L t)) (by rw [na_cl (by omega)]; exact b6 kt) ?_⟩))
        obtain ⟨L', G1, hL'⟩ := nw_len G t1 kt n48
        refine yp_resize t1 (b6 kt) b2 n48 ⟨rfl, ?_⟩
        exact ⟨nw_N G1 U, vk_z (vk_c I.2 (fun i hi => zf_out (by omega))) t1⟩
      · refine br_f c2 ?_
        unfold wpY_cut
        refine yp_file_t hf' ?_
        exact br_f (by decide) (br_f c1 (br_f c2 ⟨rfl, I⟩))
  · refine xp_file_f hf ?_
    refine br_t rfl ?_
    unfold wpY_cut
    refine yp_file_f (fun w => hf ((ik_y g5).mp w)) ?_
    exact br_t rfl ⟨rfl, I⟩
section
variable {k s l c hX sk ss sl sc kY zY cY en hd nm th hY : Nat → Int32} {m : Nat} {P par L : Nat → Nat}
/-- both sides have saved -/
theorem sv_both (G : rl_G k s l c hX kY zY cY en hd nm th hY m P par L) {sk' sl' sc' k' : Nat → Int32} (h1 : ∀ t, t < 12 → sv_x k s l c sk' sl' sc' t) (h2 : ∀ t, t < 12 → k' t = kY t) (h3 : ∀ t, t < 12 → sv_y kY th m k' t) (U : rl_U k s hX) :
    rl_N k s l c hX k' (ch_c zY 0 12 12) (ch_c cY 0 576 576) (upd en 1 (en 0)) (ch_c hd 0 20 20) (ch_c nm 0 20 20) (ch_c th 0 20 20) hY ∧
    rl_V sk' (cp_c s ss 768) sl' sc' k' (ch_c zY 0 12 12) (ch_c cY 0 576 576) (upd en 1 (en 0)) (ch_c hd 0 20 20) (ch_c nm 0 20 20) (ch_c th 0 20 20) := by
  obtain ⟨g1, g2, g3, g4, g5, g6⟩ := id G
  constructor
  · have N := nw_N G U
    refine ⟨ag_F (fun t ht => ⟨rfl, rfl, h2 t ht, ch_out (by omega)⟩) (fun _ _ => rfl) (fun i hi => ⟨rfl, ch_out (by omega)⟩) (pk_un (by decide)) (fun e he => ⟨ch_out (by omega), ch_out (by omega), ch_out (by omega)⟩) N.1, N.2⟩
  · have cz : ∀ {a : Nat → Int32} {n t : Nat}, t < n → ch_c a 0 n n (n + t) = a t := fun {a n t} h => by
      have := ch_in (a := a) (f := 0) (t := n) h
      rw [Nat.zero_add] at this; exact this
    refine sv_save G (fun t ht => ?_) (fun q hq => cp_in hq) (fun t ht => cz ht) (fun i hi => cz hi) pk_us (fun e he => ⟨cz he, cz he, cz he⟩)
    have ey := (g5 t ht).2.2.2.2.1
    rcases h1 t ht with ⟨a1, a2, a3, a4, a5⟩ | ⟨a1, a2, a3, a4⟩
    · refine Or.inl ⟨a1, a2, a3, a4, a5, ?_⟩
      rcases h3 t ht with ⟨b1, b2, b3⟩ | ⟨b1, b2⟩
      · exact b3
      · obtain ⟨e, e1, e2⟩ := b1 (ey.trans a1)
        obtain ⟨q, q1, q2⟩ := (us_iff G (us_x0 g3.1 a1) ht).1.mpr ⟨e, e1, e2⟩
        exact (a2 q q1 q2).elim
    · refine Or.inr ⟨a1, a2, a3, a4, ?_⟩
      rcases h3 t ht with ⟨b1, b2, b3⟩ | ⟨b1, b2⟩
      · have kt := ey.symm.trans b1
        obtain ⟨e, e1, e2⟩ := (us_iff G (us_x0 g3.1 kt) ht).1.mp (a1 kt)
        exact (b2 e e1 e2).elim
      · exact b2
end
section
variable {k s l c hX sk ss sl sc kY zY cY en hd nm th hY : Nat → Int32}
/-- both sides have come back -/
theorem bk_both (V : rl_V sk ss sl sc kY zY cY en hd nm th) :
    rl_N (cp_c sk k 12) (cp_c ss s 768) (cp_c sl l 12) (cp_c sc c 576) (zf_c hX 0 4) (ch_c kY 12 0 12) (ch_c zY 12 0 12) (ch_c cY 576 0 576) (upd en 0 (en 1)) (ch_c hd 20 0 20) (ch_c nm 20 0 20) (ch_c th 20 0 20) (hm_c hY 4) ∧
    rl_V sk ss sl sc (ch_c kY 12 0 12) (ch_c zY 12 0 12) (ch_c cY 576 0 576) (upd en 0 (en 1)) (ch_c hd 20 0 20) (ch_c nm 20 0 20) (ch_c th 20 0 20) := by
  have cz : ∀ {a : Nat → Int32} {n t : Nat}, t < n → ch_c a n 0 n t = a (n + t) := fun {a n t} h => by
    have := ch_in (a := a) (f := n) (t := 0) h
    rw [Nat.zero_add] at this; exact this
  constructor
  · exact sv_back V (fun t ht => ⟨cp_in ht, cp_in ht, cz ht, cz ht⟩) (fun q hq => cp_in hq) (fun i hi => ⟨cp_in hi, cz hi⟩) pk_us (fun e he => ⟨cz he, cz he, cz he⟩) (fun h hh => ⟨zf_in (by omega) hh, hm_in hh⟩)
  · exact ag_V (fun t ht => ⟨ch_out (by omega), ch_out (by omega)⟩) (fun i hi => ch_out (by omega)) (pk_un (by decide)) (fun e he => ⟨ch_out (by omega), ch_out (by omega), ch_out (by omega)⟩) V
theorem bk_cnt (V : rl_V sk ss sl sc kY zY cY en hd nm th) : cn_c (fun q => decide (¬ kY (12 + q) = 0)) 12 = cn_c (fun q => decide (¬ cp_c sk k 12 q = 0)) 12 := by
  obtain ⟨L, g5⟩ := V.1.2.2.2
  refine cn_congr (fun t ht => ?_)
  have e : kY (12 + t) = sk t := (g5 t ht).2.2.2.2.1
  rw [e, cp_in ht]
end
theorem i_vc_sync {k : Nat} {u : SX} {v : SY} (I : i_Rel k u v) (hk : k + 5 ≤ 2560) : wpX_sync (fun r u' => wpY_sync (fun r' v' => r' = r ∧ i_Rel (k + 5) u' v') v) u := by
  obtain ⟨k, s, l, c, hX, sk, ss, sl, sc⟩ := u
  obtain ⟨kY, zY, cY, en, hd, nm, th, hY⟩ := v
  obtain ⟨m, P, par, L, G, U⟩ := nw_G I.1
  obtain ⟨g1, g2, g3, g4, g5, g6⟩ := id G
  unfold wpX_sync
  refine xp_save g3.1 (fun sk' sl' sc' h1 => ?_)
  refine xp_there ?_
  refine yp_sync g2.1 g1 (fun k' h2 h3 => ⟨?_, sv_both G h1 h2 h3 U⟩)
  exact congrArg nI (cn_congr (fun t ht => by rw [(g5 t ht).2.2.2.2.1]))
theorem i_vc_crash {k : Nat} {u : SX} {v : SY} (I : i_Rel k u v) (hk : k + 5 ≤ 2560) (v1 : Int32) (v2 : Int32) : wpX_crash (fun r u' => wpY_crash (fun r' v' => r' = r ∧ i_Rel (k + 5) u' v') v v1 v2) u v1 v2 := by
  obtain ⟨k, s, l, c, hX, sk, ss, sl, sc⟩ := u
  obtain ⟨kY, zY, cY, en, hd, nm, th, hY⟩ := v
  obtain ⟨m, P, par, L, G, U⟩ := nw_G I.1
  obtain ⟨g1, g2, g3, g4, g5, g6⟩ := id G
  unfold wpX_crash
  by_cases c1 : v1 < 0
  · refine br_t c1 ?_
    exact br_t c1 ⟨rfl, I⟩
  · refine br_f c1 ?_
    by_cases c2 : v1 ≤ 4
    · refine br_t c2 ?_
      by_cases c3 : v1 = 2
      · refine br_t c3 ?_
        refine xp_save g3.1 (fun sk' sl' sc' h1 => ?_)
        unfold wX_crash_20
        refine xp_back ?_
        refine xp_there ?_
        unfold wpY_crash
        refine br_f c1 (br_t c2 (br_t c3 ?_))
        refine yp_sync g2.1 g1 (fun k' h2 h3 => ?_)
        have VV := (sv_both (ss := ss) G h1 h2 h3 U).2
        refine yp_back ⟨?_, bk_both VV⟩
        exact congrArg nI (bk_cnt VV)
      · refine br_f c3 ?_
        unfold wX_crash_20
        refine xp_back ?_
        refine xp_there ?_
        unfold wpY_crash
        refine br_f c1 (br_t c2 (br_f c3 ?_))
        refine yp_back ⟨?_, bk_both I.2⟩
        exact congrArg nI (bk_cnt I.2)
    · refine br_f c2 ?_
      exact br_f c1 (br_f c2 ⟨rfl, I⟩)
end
section
/-! rename -/
section
variable {k s l c hX sk ss sl sc kY zY cY en hd nm th hY : Nat → Int32} {m : Nat} {P par L : Nat → Nat} {post : Int32 → Prop} {postR : Int32 → SY → Prop}
theorem rn_all (hK : rl_K k s) (hT : rl_T k s par) {d t : Nat} (d1 : d < 12) (kd : k d = 2) (t0 : 0 < t) (h : ∀ j, j < 12 → it_i par j d ≠ t) : ∀ j, it_i par j d ≠ t := fun j => by
  by_cases e : j < 12
  · exact h j e
  · have z := it_stay hT.1 (a := 11) (b := j) (by omega) (it_11 hT.1 hT.2.1 d1 (hT.2.2.2 d d1 kd))
    rw [z]; omega
theorem xr_30 (hK : rl_K k s) (hT : rl_T k s par) {t d : Nat} {w : Int32} (t1 : t < 12) (kt : k t = 1 ∨ k t = 2) (d1 : d < 12) (kd : k d = 2) (nl : k t = 2 → ∀ j, it_i par j d ≠ t)
    (h1 : k t = 1 → wX_renameRefusal_30 post w 0 k s l c hX sk ss sl sc) (h2 : k t = 2 → wX_renameRefusal_30 post w 1 k s l c hX sk ss sl sc) : wpX_renameRefusal post (k, s, l, c, hX, sk, ss, sl, sc) (nI t) (nI d) w := by
  unfold wpX_renameRefusal
  rcases kt with kt | kt
  · refine xp_dir_f (ik_n t1 (by rw [kt]; decide)) ?_
    exact br_t rfl (h1 kt)
  · refine xp_dir_t ⟨t, t1, rfl, kt⟩ ?_
    refine br_f (by decide) ?_
    refine xp_below_f hK hT d1 kd t1 (fun j _ => nl kt j) ?_
    exact br_t rfl (h2 kt)
theorem xr_loop (hK : rl_K k s) (hT : rl_T k s par) {t d j0 : Nat} {w : Int32} (t1 : t < 12) (kt : k t = 2) (d1 : d < 12) (kd : k d = 2) (hj : j0 < 12) (e : it_i par j0 d = t) (hm : ∀ j, j < j0 → it_i par j d ≠ t) (h : post (-8)) : wpX_renameRefusal post (k, s, l, c, hX, sk, ss, sl, sc) (nI t) (nI d) w := by
  unfold wpX_renameRefusal
  refine xp_dir_t ⟨t, t1, rfl, kt⟩ ?_
  refine br_f (by decide) ?_
  refine xp_below_t hK hT d1 kd t1 hj e hm ?_
  exact br_f (by decide) h
theorem yn_none (G : rl_G k s l c hX kY zY cY en hd nm th hY m P par L) {d x d2 x2 e t : Nat} (d1 : d < 12) (x1 : x < 64) (kd : k d = 2) (e1 : d2 < 12) (y1 : x2 < 64) (kd2 : k d2 = 2) (he : e < m) (hP : P e = d * 64 + x) (hs : s (d * 64 + x) = nI t) (hr : s (d2 * 64 + x2) = 0)
    (h : wY_rename_73 postR (nI d) (nI x) (nI d2) (nI x2) (nI t) (-1) (-1) kY zY cY en hd nm th hY) : wpY_rename postR (kY, zY, cY, en, hd, nm, th, hY) (nI d) (nI x) (nI d2) (nI x2) := by
  obtain ⟨g1, g2, g3, g4, g5, g6⟩ := G
  have hm := g2.1
  unfold wpY_rename
  refine yp_place_t d1 ((g5 d d1).2.2.2.2.1.trans kd) x1 ?_
  refine br_t rfl ?_
  refine yp_place_t e1 ((g5 d2 e1).2.2.2.2.1.trans kd2) y1 ?_
  refine br_t rfl ?_
  refine y0_t g1 g2 d1 x1 he hP ?_
  refine br_t (nI_pos' (by omega)) ⟨vp_in_nI (by omega) (by decide), nm_r (e' := nI t) (by rw [na_cl (by omega), (g2.2.1 e he).2.2.2.2, hP, hs]) ?_⟩
  refine y0_f g1 g2 e1 y1 hr ?_
  exact br_f (by decide) h
theorem yn_some (G : rl_G k s l c hX kY zY cY en hd nm th hY m P par L) {d x d2 x2 e t e2 t2 : Nat} (d1 : d < 12) (x1 : x < 64) (kd : k d = 2) (e1 : d2 < 12) (y1 : x2 < 64) (kd2 : k d2 = 2) (he : e < m) (hP : P e = d * 64 + x) (hs : s (d * 64 + x) = nI t) (he2 : e2 < m) (hP2 : P e2 = d2 * 64 + x2) (hr : s (d2 * 64 + x2) = nI t2)
    (h : wY_rename_73 postR (nI d) (nI x) (nI d2) (nI x2) (nI t) (nI e2) (nI t2) kY zY cY en hd nm th hY) : wpY_rename postR (kY, zY, cY, en, hd, nm, th, hY) (nI d) (nI x) (nI d2) (nI x2) := by
  obtain ⟨g1, g2, g3, g4, g5, g6⟩ := G
  have hm := g2.1
  unfold wpY_rename
  refine yp_place_t d1 ((g5 d d1).2.2.2.2.1.trans kd) x1 ?_
  refine br_t rfl ?_
  refine yp_place_t e1 ((g5 d2 e1).2.2.2.2.1.trans kd2) y1 ?_
  refine br_t rfl ?_
  refine y0_t g1 g2 d1 x1 he hP ?_
  refine br_t (nI_pos' (by omega)) ⟨vp_in_nI (by omega) (by decide), nm_r (e' := nI t) (by rw [na_cl (by omega), (g2.2.1 e he).2.2.2.2, hP, hs]) ?_⟩
  refine y0_t g1 g2 e1 y1 he2 hP2 ?_
  refine br_t (nI_pos' (by omega)) ⟨vp_in_nI (by omega) (by decide), ?_⟩
  rw [na_cl (by omega), (g2.2.1 e2 he2).2.2.2.2, hP2, hr]; exact h
theorem yn_120 (G : rl_G k s l c hX kY zY cY en hd nm th hY m P par L) {d x d2 x2 t : Nat} {x7 z0 : Int32} (e1 : d2 < 12) (kd2 : k d2 = 2) (t1 : t < 12) (kt : k t = 1 ∨ k t = 2) (ne : ¬ z0 = nI t) (nl : k t = 2 → ∀ j, it_i par j d2 ≠ t)
    (h1 : k t = 1 → wY_rename_120 postR (nI d) (nI x) (nI d2) (nI x2) (nI t) x7 z0 0 kY zY cY en hd nm th hY) (h2 : k t = 2 → wY_rename_120 postR (nI d) (nI x) (nI d2) (nI x2) (nI t) x7 z0 1 kY zY cY en hd nm th hY) : wY_rename_73 postR (nI d) (nI x) (nI d2) (nI x2) (nI t) x7 z0 kY zY cY en hd nm th hY := by
  obtain ⟨g1, g2, g3, g4, g5, g6⟩ := G
  have ey := (g5 t t1).2.2.2.2.1
  unfold wY_rename_73
  refine br_f ne ⟨vp_in_nI (by omega) (by decide), ?_⟩
  rw [na_cl (by omega), ey]
  rcases kt with kt | kt
  · exact br_f (by rw [kt]; decide) (br_t rfl (h1 kt))
  · refine br_t kt (br_f (by decide) ?_)
    refine yp_under_f g2 g1 g3 g4 e1 kd2 t1 (fun j _ => nl kt j) ?_
    exact br_t rfl (h2 kt)
theorem yn_loop (G : rl_G k s l c hX kY zY cY en hd nm th hY m P par L) {d x d2 x2 t j0 : Nat} {x7 z0 : Int32} (e1 : d2 < 12) (kd2 : k d2 = 2) (t1 : t < 12) (kt : k t = 2) (ne : ¬ z0 = nI t) (hj : j0 < 12) (e : it_i par j0 d2 = t) (hm : ∀ j, j < j0 → it_i par j d2 ≠ t)
    (h : postR (-8) (kY, zY, cY, en, hd, nm, th, hY)) : wY_rename_73 postR (nI d) (nI x) (nI d2) (nI x2) (nI t) x7 z0 kY zY cY en hd nm th hY := by
  obtain ⟨g1, g2, g3, g4, g5, g6⟩ := G
  have ey := (g5 t t1).2.2.2.2.1
  unfold wY_rename_73
  refine br_f ne ⟨vp_in_nI (by omega) (by decide), ?_⟩
  rw [na_cl (by omega), ey]
  refine br_t kt (br_f (by decide) ?_)
  refine yp_under_t g2 g1 g3 g4 e1 kd2 t1 (by omega) e hm ?_
  exact br_f (by decide) h
theorem yn_204 (G : rl_G k s l c hX kY zY cY en hd nm th hY m P par L) (U : rl_U k s hX) (V : rl_V sk ss sl sc kY zY cY en hd nm th) {d x d2 x2 t : Nat} {x7 a : Int32} (d1 : d < 12) (x1 : x < 64) (e1 : d2 < 12) (y1 : x2 < 64) (kd2 : k d2 = 2) (t0 : 0 < t) (t1 : t < 12) (kt : k t = 1 ∨ k t = 2) (hs : s (d * 64 + x) = nI t) (hr : s (d2 * 64 + x2) = 0) (nl : k t = 2 → ∀ j, it_i par j d2 ≠ t)
    (ha : (0 ≤ x7 ∧ a = 1) ∨ (¬ 0 ≤ x7 ∧ a = 0))
    (h : ∀ en' hd' nm' th', rl_N k (upd (upd s (d * 64 + x) 0) (d2 * 64 + x2) (nI t)) l c hX kY zY cY en' hd' nm' th' hY → rl_V sk ss sl sc kY zY cY en' hd' nm' th' → postR a (kY, zY, cY, en', hd', nm', th', hY)) : wY_rename_204 postR (nI d) (nI x) (nI d2) (nI x2) (nI t) x7 kY zY cY en hd nm th hY := by
  obtain ⟨g1, g2, g3, g4, g5, g6⟩ := id G
  have hm := g2.1
  obtain ⟨e, he, hP⟩ := g2.2.2.2 (d * 64 + x) (by omega) (by rw [hs]; exact na_nz (by omega) t0)
  obtain ⟨m', rfl⟩ : ∃ m', m = m' + 1 := ⟨m - 1, by omega⟩
  obtain ⟨P', par', G'⟩ := nw_move G t0 t1 kt he (by rw [hP]; exact hs) e1 y1 kd2 hr nl
  rw [hP] at G'
  have N' := nw_N G' (nw_moveU U g3.1 t1 hs (by omega) hr)
  have V' : rl_V sk ss sl sc kY zY cY (upd (upd en 0 (nI m')) 0 (nI (m' + 1))) (upd (upd hd e (hd m')) m' (nI d2)) (upd (upd nm e (nm m')) m' (nI x2)) (upd (upd th e (th m')) m' (nI t)) := vk_e (vk_e V (by omega)) (by omega)
  unfold wY_rename_204
  refine y0_t g1 g2 d1 x1 he hP ?_
  refine yp_take (m := m') (by omega) (by omega) g1 ?_
  refine yp_add (m := m') (by omega) pk_us ?_
  rcases ha with ⟨h7, rfl⟩ | ⟨h7, rfl⟩
  · exact br_t h7 (h _ _ _ _ N' V')
  · exact br_f h7 (h _ _ _ _ N' V')
end
theorem i_vc_rename {k : Nat} {u : SX} {v : SY} (I : i_Rel k u v) (hk : k + 5 ≤ 2560) (v1 : Int32) (v2 : Int32) (v3 : Int32) (v4 : Int32) : wpX_rename (fun r u' => wpY_rename (fun r' v' => r' = r ∧ i_Rel (k + 5) u' v') v v1 v2 v3 v4) u v1 v2 v3 v4 := by
  obtain ⟨k, s, l, c, hX, sk, ss, sl, sc⟩ := u
  obtain ⟨kY, zY, cY, en, hd, nm, th, hY⟩ := v
  obtain ⟨m, P, par, L, G, U⟩ := nw_G I.1
  obtain ⟨g1, g2, g3, g4, g5, g6⟩ := id G
  have hm := g2.1
  unfold wpX_rename
  by_cases hp : is_k k 2 v1 ∧ is_n v2
  · by_cases hp2 : is_k k 2 v3 ∧ is_n v4
    · obtain ⟨⟨d, d1, rfl, kd⟩, x, x1, rfl⟩ := hp
      obtain ⟨⟨d2, e1, rfl, kd2⟩, x2, y1, rfl⟩ := hp2
      have ey := (g5 d d1).2.2.2.2.1.trans kd
      have ey2 := (g5 d2 e1).2.2.2.2.1.trans kd2
      refine xp_place_t d1 kd x1 ?_
      refine br_f (by decide) ?_
      refine xp_place_t e1 kd2 y1 ?_
      refine br_f (by decide) ?_
      refine xp_slot ?_
      refine ⟨vp_in_nI (by omega) (by decide), ?_⟩
      rw [na_cl (n := d * 64 + x) (by omega)]
      by_cases z : s (d * 64 + x) = 0
      · refine nm_e (br_t z ?_)
        unfold wpY_rename
        refine yp_place_t d1 ey x1 ?_
        refine br_t rfl ?_
        refine yp_place_t e1 ey2 y1 ?_
        refine br_t rfl ?_
        refine y0_f g1 g2 d1 x1 z ?_
        exact br_f (by decide) ⟨rfl, I⟩
      · obtain ⟨e, he, hP⟩ := g2.2.2.2 (d * 64 + x) (by omega) z
        obtain ⟨t, t0, t1, hs, kt⟩ := sl_t g3 d1 x1 z
        have n0 := na_nz (a := t) (by omega) t0
        refine nm_r hs (br_f n0 ?_)
        refine xp_slot ?_
        refine ⟨vp_in_nI (by omega) (by decide), ?_⟩
        rw [na_cl (n := d2 * 64 + x2) (by omega)]
        by_cases zr : s (d2 * 64 + x2) = 0
        · refine nm_r zr (br_f (fun w => n0 w.symm) ?_)
          have nz1 : ¬ (-1 : Int32) = nI t := fun w => by
            have : ¬ nI t < 0 := nI_pos (by omega)
            rw [← w] at this; exact this (by decide)
          rcases cn_first (fun j => k t = 2 ∧ it_i par j d2 = t) 12 with ⟨j0, j1, ⟨k2, j2⟩, j3⟩ | hno
          · have j3' : ∀ j, j < j0 → it_i par j d2 ≠ t := fun j hj w => j3 j hj ⟨k2, w⟩
            refine xr_loop g3 g4 t1 k2 e1 kd2 j1 j2 j3' ?_
            refine br_f (by decide) ?_
            refine yn_none G d1 x1 kd e1 y1 kd2 he hP hs zr ?_
            exact yn_loop G e1 kd2 t1 k2 nz1 j1 j2 j3' ⟨rfl, I⟩
          · have nl : k t = 2 → ∀ j, it_i par j d2 ≠ t := fun k2 => rn_all g3 g4 e1 kd2 t0 (fun j hj w => hno j hj ⟨k2, w⟩)
            have go : ∀ u', u' = (k, upd (upd s (d * 64 + x) 0) (d2 * 64 + x2) (nI t), l, c, hX, sk, ss, sl, sc) → wpY_rename (fun r' v' => r' = 0 ∧ i_Rel 0 u' v') (kY, zY, cY, en, hd, nm, th, hY) (nI d) (nI x) (nI d2) (nI x2) := fun u' eu => by
              subst eu
              have F : wY_rename_204 (fun r' v' => r' = 0 ∧ i_Rel 0 (k, upd (upd s (d * 64 + x) 0) (d2 * 64 + x2) (nI t), l, c, hX, sk, ss, sl, sc) v') (nI d) (nI x) (nI d2) (nI x2) (nI t) (-1) kY zY cY en hd nm th hY :=
                yn_204 G U I.2 d1 x1 e1 y1 kd2 t0 t1 kt hs zr nl (Or.inr ⟨by decide, rfl⟩) (fun en' hd' nm' th' hN hV => ⟨rfl, hN, hV⟩)
              refine yn_none G d1 x1 kd e1 y1 kd2 he hP hs zr ?_
              exact yn_120 G e1 kd2 t1 kt nz1 nl (fun _ => br_t (by decide) F) (fun _ => br_t (by decide) F)
            refine xr_30 g3 g4 t1 kt e1 kd2 nl (fun _ => br_t rfl ?_) (fun _ => br_t rfl ?_)
            · exact br_t (by decide) ⟨vp_in_nI (by omega) (by decide), nm_e ⟨vp_in_nI (by omega) (by decide), nm_e (br_t rfl (go _ rfl))⟩⟩
            · exact br_t (by decide) ⟨vp_in_nI (by omega) (by decide), nm_e ⟨vp_in_nI (by omega) (by decide), nm_e (br_t rfl (go _ rfl))⟩⟩
        · obtain ⟨e2, he2, hP2⟩ := g2.2.2.2 (d2 * 64 + x2) (by omega) zr
          obtain ⟨t2, u0, u1, hr, kt2⟩ := sl_t g3 e1 y1 zr
          have n2 := na_nz (a := t2) (by omega) u0
          refine nm_r hr ?_
          by_cases tt : t2 = t
          · subst tt
            refine br_t rfl ?_
            refine yn_some G d1 x1 kd e1 y1 kd2 he hP hs he2 hP2 hr ?_
            exact br_t rfl ⟨rfl, I⟩
          · have ntt : ¬ nI t2 = nI t := na_ne (by omega) (by omega) tt
            have qr : d2 * 64 + x2 ≠ d * 64 + x := fun w => ntt (by rw [← hr, w, hs])
            refine br_f ntt ?_
            rcases cn_first (fun j => k t = 2 ∧ it_i par j d2 = t) 12 with ⟨j0, j1, ⟨k2, j2⟩, j3⟩ | hno
            · have j3' : ∀ j, j < j0 → it_i par j d2 ≠ t := fun j hj w => j3 j hj ⟨k2, w⟩
              refine xr_loop g3 g4 t1 k2 e1 kd2 j1 j2 j3' ?_
              refine br_f (by decide) ?_
              refine yn_some G d1 x1 kd e1 y1 kd2 he hP hs he2 hP2 hr ?_
              exact yn_loop G e1 kd2 t1 k2 ntt j1 j2 j3' ⟨rfl, I⟩
            · have nl : k t = 2 → ∀ j, it_i par j d2 ≠ t := fun k2 => rn_all g3 g4 e1 kd2 t0 (fun j hj w => hno j hj ⟨k2, w⟩)
              have ek2 := (g5 t2 u1).2.2.2.2.1
              have e2p : ¬ nI e2 < 0 := nI_pos (by omega)
              have e2q : 0 ≤ nI e2 := nI_pos' (by omega)
              obtain ⟨m', rfl⟩ : ∃ m', m = m' + 1 := ⟨m - 1, by omega⟩
              rcases kt2 with kt2 | kt2
              · rcases kt with kt | kt
                · -- a file over a file
                  obtain ⟨P1, G1⟩ := nw_clear G u1 kt2 he2 (by rw [hP2]; exact hr)
                  rw [hP2] at G1
                  have hs1 : upd s (d2 * 64 + x2) 0 (d * 64 + x) = nI t := by rw [pk_un (fun w => qr w.symm)]; exact hs
                  have sw := up_sw s qr (nI t)
                  have same : ∀ q, q < 768 → (upd (upd s (d * 64 + x) 0) (d2 * 64 + x2) (nI t) q = nI t2 ↔ upd s (d2 * 64 + x2) 0 q = nI t2) := fun q _ => by
                    by_cases c1 : q = d2 * 64 + x2
                    · rw [c1, pk_us, pk_us]
                      exact ⟨fun w => (ntt w.symm).elim, fun w => (n2 w.symm).elim⟩
                    · rw [pk_un c1, pk_un c1]
                      by_cases c2 : q = d * 64 + x
                      · rw [c2, pk_us, hs]
                        exact ⟨fun w => (n2 w.symm).elim, fun w => (ntt w.symm).elim⟩
                      · rw [pk_un c2]
                  refine xr_30 g3 g4 t1 (Or.inl kt) e1 kd2 nl (fun _ => br_f n2 ?_) (fun w => by rw [kt] at w; exact absurd w (by decide))
                  refine xp_dir_f (ik_n u1 (by rw [kt2]; decide)) ?_
                  refine br_t rfl (br_t rfl (br_t rfl (br_t rfl ?_)))
                  refine br_t (by decide) ⟨vp_in_nI (by omega) (by decide), nm_e ⟨vp_in_nI (by omega) (by decide), nm_e (br_f n2 ?_)⟩⟩
                  by_cases hu : (∃ q, q < 768 ∧ upd s (d2 * 64 + x2) 0 q = nI t2) ∨ ∃ i, i < 4 ∧ hX i = nI t2
                  · refine xp_drop_f u0 u1 ?_ ?_
                    · rcases hu with ⟨q, q1, q2⟩ | w
                      · exact Or.inl ⟨q, q1, (same q q1).mpr q2⟩
                      · exact Or.inr w
                    · refine yn_some G d1 x1 kd e1 y1 kd2 he hP hs he2 hP2 hr ?_
                      refine yn_120 G e1 kd2 t1 (Or.inl kt) ntt nl (fun _ => ?_) (fun w => by rw [kt] at w; exact absurd w (by decide))
                      refine br_f e2p (br_t rfl (br_t rfl ⟨vp_in_nI (by omega) (by decide), br_f (by rw [na_cl (by omega), ek2, kt2]; decide) (br_t rfl (br_t rfl ?_))⟩))
                      refine yu_keep G e1 y1 kd2 he2 hP2 u0 u1 hr kt2 hu ?_
                      refine yn_204 G1 (nw_clearU U u1 hr hu) (vk_e I.2 (by omega)) d1 x1 e1 y1 kd2 t0 t1 (Or.inl kt) hs1 pk_us nl (Or.inl ⟨e2q, rfl⟩) (fun en' hd' nm' th' hN hV => ⟨rfl, ?_, hV⟩)
                      rw [sw] at hN; exact hN
                  · have ns : ∀ q, q < 768 → upd s (d2 * 64 + x2) 0 q ≠ nI t2 := fun q hq w => hu (Or.inl ⟨q, hq, w⟩)
                    have nh : ∀ i, i < 4 → hX i ≠ nI t2 := fun i hi w => hu (Or.inr ⟨i, hi, w⟩)
                    obtain ⟨L2, G2⟩ := nw_drop G1 u1 kt2 ns nh
                    have kt' : upd k t2 0 t = 1 := by rw [pk_un (fun w => tt w.symm)]; exact kt
                    have kd2' : upd k t2 0 d2 = 2 := by
                      rw [pk_un (fun w => by rw [w, kt2] at kd2; exact absurd kd2 (by decide))]; exact kd2
                    refine xp_drop_t u0 u1 (fun q q1 w => ns q q1 ((same q q1).mp w)) nh ?_
                    refine yn_some G d1 x1 kd e1 y1 kd2 he hP hs he2 hP2 hr ?_
                    refine yn_120 G e1 kd2 t1 (Or.inl kt) ntt nl (fun _ => ?_) (fun w => by rw [kt] at w; exact absurd w (by decide))
                    refine br_f e2p (br_t rfl (br_t rfl ⟨vp_in_nI (by omega) (by decide), br_f (by rw [na_cl (by omega), ek2, kt2]; decide) (br_t rfl (br_t rfl ?_))⟩))
                    refine yu_drop G e1 y1 kd2 he2 hP2 u0 u1 hr kt2 ns nh ?_
                    refine yn_204 G2 (nw_goneU U u1 hr) (vk_e (vk_k I.2 u1) (by omega)) d1 x1 e1 y1 kd2' t0 t1 (Or.inl kt') hs1 pk_us (fun w => by rw [kt'] at w; exact absurd w (by decide)) (Or.inl ⟨e2q, rfl⟩) (fun en' hd' nm' th' hN hV => ⟨rfl, ?_, hV⟩)
                    rw [sw] at hN; exact hN
                · -- a directory over a file
                  refine xr_30 g3 g4 t1 (Or.inr kt) e1 kd2 nl (fun w => by rw [kt] at w; exact absurd w (by decide)) (fun _ => br_f n2 ?_)
                  refine xp_dir_f (ik_n u1 (by rw [kt2]; decide)) ?_
                  refine br_f (by decide) (br_t rfl ?_)
                  refine br_f (by decide) ?_
                  refine yn_some G d1 x1 kd e1 y1 kd2 he hP hs he2 hP2 hr ?_
                  refine yn_120 G e1 kd2 t1 (Or.inr kt) ntt nl (fun w => by rw [kt] at w; exact absurd w (by decide)) (fun _ => ?_)
                  exact br_f e2p (br_f (by decide) ⟨vp_in_nI (by omega) (by decide), br_t (by rw [na_cl (by omega), ek2]; exact kt2) ⟨rfl, I⟩⟩)
              · rcases kt with kt | kt
                · -- a file over a directory
                  refine xr_30 g3 g4 t1 (Or.inl kt) e1 kd2 nl (fun _ => br_f n2 ?_) (fun w => by rw [kt] at w; exact absurd w (by decide))
                  refine xp_dir_t ⟨t2, u1, rfl, kt2⟩ ?_
                  refine br_t rfl (br_t rfl (br_f (by decide) ?_))
                  refine br_f (by decide) ?_
                  refine yn_some G d1 x1 kd e1 y1 kd2 he hP hs he2 hP2 hr ?_
                  refine yn_120 G e1 kd2 t1 (Or.inl kt) ntt nl (fun _ => ?_) (fun w => by rw [kt] at w; exact absurd w (by decide))
                  exact br_f e2p (br_t rfl (br_t rfl ⟨vp_in_nI (by omega) (by decide), br_t (by rw [na_cl (by omega), ek2]; exact kt2) ⟨rfl, I⟩⟩))
                · -- a directory over a directory
                  have hle := cn_le (fun q => decide (¬ s (t2 * 64 + q) = 0)) 64
                  have ky2 := ek2.trans kt2
                  refine xr_30 g3 g4 t1 (Or.inr kt) e1 kd2 nl (fun w => by rw [kt] at w; exact absurd w (by decide)) (fun _ => br_f n2 ?_)
                  refine xp_dir_t ⟨t2, u1, rfl, kt2⟩ ?_
                  refine br_f (by decide) (br_f (by decide) (br_f (by decide) (br_f (by decide) ?_)))
                  refine xp_in u1 ?_
                  by_cases hc : cn_c (fun q => decide (¬ s (t2 * 64 + q) = 0)) 64 = 0
                  · have hz : ∀ x, x < 64 → s (t2 * 64 + x) = 0 := fun x hx => Decidable.byContradiction fun w => of_decide_eq_false (cn_all hc x hx) w
                    rw [hc]
                    refine br_t (by decide) ?_
                    refine br_t (by decide) ⟨vp_in_nI (by omega) (by decide), nm_e ⟨vp_in_nI (by omega) (by decide), nm_e (br_f n2 ?_)⟩⟩
                    obtain ⟨P1, L1, G1⟩ := nw_rmdir G u0 u1 kt2 he2 (by rw [hP2]; exact hr) hz
                    rw [hP2] at G1
                    have hs1 : upd s (d2 * 64 + x2) 0 (d * 64 + x) = nI t := by rw [pk_un (fun w => qr w.symm)]; exact hs
                    have sw := up_sw s qr (nI t)
                    have ns := dr_one g4 (q := d2 * 64 + x2) (by omega) u0 u1 kt2 hr
                    have kt' : upd k t2 0 t = 2 := by rw [pk_un (fun w => tt w.symm)]; exact kt
                    have dne : d2 ≠ t2 := fun w => by
                      have := hz x2 y1
                      rw [← w, hr] at this; exact n2 this
                    have kd2' : upd k t2 0 d2 = 2 := by rw [pk_un dne]; exact kd2
                    refine xp_drop_t u0 u1 (fun q q1 w => ?_) (dr_h g6 u0 u1 (by rw [kt2]; decide)) ?_
                    · by_cases c1 : q = d2 * 64 + x2
                      · rw [c1, pk_us] at w; exact ntt w.symm
                      · rw [pk_un c1] at w
                        by_cases c2 : q = d * 64 + x
                        · rw [c2, pk_us] at w; exact n2 w.symm
                        · rw [pk_un c2] at w
                          exact ns q q1 (by rw [pk_un c1]; exact w)
                    · refine yn_some G d1 x1 kd e1 y1 kd2 he hP hs he2 hP2 hr ?_
                      refine yn_120 G e1 kd2 t1 (Or.inr kt) ntt nl (fun w => by rw [kt] at w; exact absurd w (by decide)) (fun _ => ?_)
                      refine br_f e2p (br_f (by decide) ⟨vp_in_nI (by omega) (by decide), br_f (by rw [na_cl (by omega), ek2, kt2]; decide) (br_f (by decide) (br_f (by decide) ?_))⟩)
                      refine yp_cnt_t hm g1 u1 ky2 ?_
                      rw [← ct_dir g2 u1, hc]
                      refine br_t (by decide) (br_f (by decide) ?_)
                      refine yr_t G e1 y1 kd2 he2 hP2 u0 u1 hr kt2 hz ?_
                      refine yn_204 G1 (nw_goneU U u1 hr) (vk_e (vk_k I.2 u1) (by omega)) d1 x1 e1 y1 kd2' t0 t1 (Or.inr kt') hs1 pk_us (fun _ => nl kt) (Or.inl ⟨e2q, rfl⟩) (fun en' hd' nm' th' hN hV => ⟨rfl, ?_, hV⟩)
                      rw [sw] at hN; exact hN
                  · have hc' : ¬ nI (cn_c (fun q => decide (¬ s (t2 * 64 + q) = 0)) 64) ≤ 0 := nI_nle (by omega) (by omega)
                    refine br_f hc' ?_
                    refine br_f (by decide) ?_
                    refine yn_some G d1 x1 kd e1 y1 kd2 he hP hs he2 hP2 hr ?_
                    refine yn_120 G e1 kd2 t1 (Or.inr kt) ntt nl (fun w => by rw [kt] at w; exact absurd w (by decide)) (fun _ => ?_)
                    refine br_f e2p (br_f (by decide) ⟨vp_in_nI (by omega) (by decide), br_f (by rw [na_cl (by omega), ek2, kt2]; decide) (br_f (by decide) (br_f (by decide) ?_))⟩)
                    refine yp_cnt_t hm g1 u1 ky2 ?_
                    rw [← ct_dir g2 u1]
                    exact br_f hc' ⟨rfl, I⟩
    · obtain ⟨⟨d, d1, rfl, kd⟩, x, x1, rfl⟩ := hp
      refine xp_place_t d1 kd x1 ?_
      refine br_f (by decide) ?_
      refine xp_place_f hp2 ?_
      refine br_t rfl ?_
      unfold wpY_rename
      refine yp_place_t d1 ((g5 d d1).2.2.2.2.1.trans kd) x1 ?_
      refine br_t rfl ?_
      refine yp_place_f (fun w => hp2 ⟨(ik_y g5).mp w.1, w.2⟩) ?_
      exact br_f (by decide) ⟨rfl, I⟩
  · refine xp_place_f hp ?_
    refine br_t rfl ?_
    unfold wpY_rename
    refine yp_place_f (fun w => hp ⟨(ik_y g5).mp w.1, w.2⟩) ?_
    exact br_f (by decide) ⟨rfl, I⟩
end
