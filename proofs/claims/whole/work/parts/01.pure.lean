/-! rows pasted from kit/rows (PURE-ROWS) -/
theorem pk_us {f : Nat → Int32} {k : Nat} {x : Int32} : upd f k x k = x := if_pos rfl
theorem pk_un {f : Nat → Int32} {k j : Nat} {x : Int32} (h : j ≠ k) : upd f k x j = f j := if_neg h
theorem pk_sub {a b : Nat} (h : b ≤ a) : nI a - nI b = nI (a - b) := by
  obtain ⟨c, rfl⟩ : ∃ c, a = c + b := ⟨a - b, by omega⟩
  rw [← nI_add, Int32.add_sub_cancel, Nat.add_sub_cancel]
theorem pk_m1 (n : Nat) : nI (n + 1) + (-1) = nI n := by
  rw [← nI_1, Int32.add_assoc, show (1 : Int32) + (-1) = 0 from rfl, Int32.add_zero]
theorem pk_mul (a b : Nat) : nI a * nI b = nI (a * b) := (Int32.ofNat_mul a b).symm
theorem pk_div {a d : Nat} (ha : a < 2 ^ 31) (h0 : 0 < d) (hd : d < 2 ^ 31) : nI a / nI d = nI (a / d) := by
  apply Int32.toInt_inj.mp
  rw [lg_idiv_nonneg (by rw [nI_toInt ha]; omega) (by rw [nI_toInt hd]; omega), nI_toInt ha, nI_toInt hd, nI_toInt (Nat.lt_of_le_of_lt (Nat.div_le_self a d) ha)]
  first | rfl | exact (Int.natCast_ediv _ _).symm
theorem pk_ix (x : Int32) {n : Nat} (hn : n < 2 ^ 31) : x < 0 ∨ nI n ≤ x ∨ ∃ j : Nat, j < n ∧ x = nI j := by
  by_cases h : x < 0
  · exact Or.inl h
  · obtain ⟨j, hj, rfl⟩ := nI_of h
    by_cases h2 : j < n
    · exact Or.inr (Or.inr ⟨j, h2, rfl⟩)
    · exact Or.inr (Or.inl (nI_le (by omega) hj))
theorem pk_le {x y : Int32} {A B : Prop} (a b : Nat) (f : a ≤ b → A) (g : b < a → B) (hx : x = nI a := by rfl) (hy : y = nI b := by rfl) (ha : a < 2 ^ 31 := by omega) (hb : b < 2 ^ 31 := by omega) : (x ≤ y → A) ∧ (¬ x ≤ y → B) := by
  subst hx hy
  rw [nI_leI ha hb]
  exact ⟨f, fun z => g (by omega)⟩
theorem pk_lt {x y : Int32} {A B : Prop} (a b : Nat) (f : a < b → A) (g : b ≤ a → B) (hx : x = nI a := by rfl) (hy : y = nI b := by rfl) (ha : a < 2 ^ 31 := by omega) (hb : b < 2 ^ 31 := by omega) : (x < y → A) ∧ (¬ x < y → B) := by
  subst hx hy
  rw [nI_ltI ha hb]
  exact ⟨f, fun z => g (by omega)⟩
theorem pk_eq {x y : Int32} {A B : Prop} (a b : Nat) (f : a = b → A) (g : a ≠ b → B) (hx : x = nI a := by rfl) (hy : y = nI b := by rfl) (ha : a < 2 ^ 31 := by omega) (hb : b < 2 ^ 31 := by omega) : (x = y → A) ∧ (¬ x = y → B) := by
  subst hx hy
  rw [nI_eq ha hb]
  exact ⟨f, g⟩
theorem pk_in {x : Int32} (n N : Nat) (h : n < N) (hx : x = nI n := by rfl) (hN : N < 2 ^ 31 := by omega) : vp_in x N := by
  subst hx
  exact vp_in_nI h hN
theorem pk_cl {x : Int32} (n : Nat) (hx : x = nI n := by rfl) (h : n < 2 ^ 31 := by omega) : x.toNatClampNeg = n := by
  subst hx
  exact nI_clamp h
theorem pk_least (P : Nat → Prop) (h : ∃ k, P k) : ∃ k, P k ∧ ∀ j, j < k → ¬ P j := by
  obtain ⟨k, hk⟩ := h
  induction k using Nat.strongRecOn with
  | ind k ih =>
    by_cases e : ∃ j, j < k ∧ P j
    · obtain ⟨j, hj, pj⟩ := e
      exact ih j hj pj
    · exact ⟨k, hk, fun j hj pj => e ⟨j, hj, pj⟩⟩
/-! numbers -/
theorem na_eq {a b : Nat} (ha : a < 1000000) (hb : b < 1000000) (h : nI a = nI b) : a = b := (nI_eq (by omega) (by omega)).mp h
theorem na_ne {a b : Nat} (ha : a < 1000000) (hb : b < 1000000) (h : a ≠ b) : nI a ≠ nI b := fun e => h (na_eq ha hb e)
theorem na_z {a : Nat} (ha : a < 1000000) (h : nI a = 0) : a = 0 := na_eq ha (by omega) (h.trans nI_0.symm)
theorem na_nz {a : Nat} (ha : a < 1000000) (h : 0 < a) : nI a ≠ 0 := fun e => by have := na_z ha e; omega
/-! counting -/
def cn_c (p : Nat → Bool) : Nat → Nat
  | 0 => 0
  | n + 1 => cn_c p n + (if p n = true then 1 else 0)
theorem cn_le (p : Nat → Bool) : ∀ n, cn_c p n ≤ n
  | 0 => Nat.le_refl 0
  | n + 1 => by
    have h := cn_le p n
    show cn_c p n + (if p n = true then 1 else 0) ≤ n + 1
    split <;> omega
theorem cn_congr {p q : Nat → Bool} : ∀ {n : Nat}, (∀ i, i < n → p i = q i) → cn_c p n = cn_c q n
  | 0, _ => rfl
  | n + 1, h => by
    show cn_c p n + (if p n = true then 1 else 0) = cn_c q n + (if q n = true then 1 else 0)
    rw [cn_congr (n := n) (fun i hi => h i (by omega)), h n (by omega)]
theorem cn_zero {p : Nat → Bool} : ∀ {n : Nat}, (∀ i, i < n → p i = false) → cn_c p n = 0
  | 0, _ => rfl
  | n + 1, h => by
    show cn_c p n + (if p n = true then 1 else 0) = 0
    rw [cn_zero (n := n) (fun i hi => h i (by omega)), h n (by omega)]; rfl
theorem cn_pos {p : Nat → Bool} {i : Nat} (hp : p i = true) : ∀ {n : Nat}, i < n → 0 < cn_c p n
  | 0, h => by omega
  | n + 1, h => by
    show 0 < cn_c p n + (if p n = true then 1 else 0)
    by_cases e : i = n
    · subst e; rw [if_pos hp]; omega
    · have := cn_pos hp (n := n) (by omega); omega
theorem cn_ex {p : Nat → Bool} : ∀ {n : Nat}, 0 < cn_c p n → ∃ i, i < n ∧ p i = true
  | 0, h => by have : cn_c p 0 = 0 := rfl; omega
  | n + 1, h => by
    by_cases e : p n = true
    · exact ⟨n, by omega, e⟩
    · have h2 : 0 < cn_c p n := by
        have h3 : cn_c p (n + 1) = cn_c p n + (if p n = true then 1 else 0) := rfl
        rw [h3, if_neg e] at h; omega
      obtain ⟨i, hi, hp⟩ := cn_ex h2
      exact ⟨i, by omega, hp⟩
theorem cn_all {p : Nat → Bool} {n : Nat} (h : cn_c p n = 0) : ∀ i, i < n → p i = false := by
  intro i hi
  cases e : p i with
  | false => rfl
  | true => have := cn_pos e hi; omega
theorem cn_off {p : Nat → Bool} {i : Nat} : ∀ {n : Nat}, i < n → cn_c p n = cn_c (fun j => if j = i then false else p j) n + (if p i = true then 1 else 0)
  | 0, h => by omega
  | n + 1, h => by
    show cn_c p n + (if p n = true then 1 else 0) = cn_c (fun j => if j = i then false else p j) n + (if (if n = i then false else p n) = true then 1 else 0) + (if p i = true then 1 else 0)
    by_cases e : n = i
    · subst e
      have e1 : (if (if n = n then false else p n) = true then 1 else 0) = 0 := by rw [if_pos (rfl : n = n)]; rfl
      rw [e1, Nat.add_zero, cn_congr (n := n) (p := p) (q := fun j => if j = n then false else p j) (fun j hj => by rw [if_neg (by omega)])]
    · rw [if_neg e, cn_off (n := n) (p := p) (i := i) (by omega)]; omega
/-- counting along an enumeration -/
theorem cn_bij {P : Nat → Nat} {N : Nat} : ∀ {m : Nat} {p q : Nat → Bool}, (∀ e, e < m → P e < N ∧ q e = p (P e)) → (∀ i j, i < m → j < m → P i = P j → i = j) → (∀ s, s < N → p s = true → ∃ e, e < m ∧ P e = s) → cn_c p N = cn_c q m
  | 0, p, q, _, _, h3 => by
    refine cn_zero (fun i hi => ?_)
    cases e : p i with
    | false => rfl
    | true => obtain ⟨a, ha, _⟩ := h3 i hi e; omega
  | m + 1, p, q, h1, h2, h3 => by
    have hm := h1 m (by omega)
    rw [cn_off (p := p) (i := P m) hm.1]
    show _ = cn_c q m + (if q m = true then 1 else 0)
    rw [← hm.2]
    rw [cn_bij (m := m) (p := fun j => if j = P m then false else p j) (q := q)]
    · intro e he
      refine ⟨(h1 e (by omega)).1, ?_⟩
      have : P e ≠ P m := fun z => by have := h2 e m (by omega) (by omega) z; omega
      show q e = if P e = P m then false else p (P e)
      rw [if_neg this]; exact (h1 e (by omega)).2
    · exact fun i j hi hj => h2 i j (by omega) (by omega)
    · intro s hs hp
      have hne : s ≠ P m := fun z => by
        have hp' : (if s = P m then false else p s) = true := hp
        rw [if_pos z] at hp'; exact absurd hp' (by decide)
      have hp' : (if s = P m then false else p s) = true := hp
      rw [if_neg hne] at hp'
      obtain ⟨e, he, hs'⟩ := h3 s hs hp'
      have : e ≠ m := fun z => hne (by rw [← hs', z])
      exact ⟨e, by omega, hs'⟩
theorem cn_true : ∀ n, cn_c (fun _ => true) n = n
  | 0 => rfl
  | n + 1 => by show cn_c (fun _ => true) n + 1 = n + 1; rw [cn_true n]
theorem cn_pig {P : Nat → Nat} {N m : Nat} (h1 : ∀ e, e < m → P e < N) (h2 : ∀ i j, i < m → j < m → P i = P j → i = j) : m ≤ N := by
  have h := cn_bij (P := P) (N := N) (m := m) (p := fun s => @decide (∃ e, e < m ∧ P e = s) (Classical.propDecidable _)) (q := fun _ => true)
    (fun e he => ⟨h1 e he, (@decide_eq_true (∃ e', e' < m ∧ P e' = P e) (Classical.propDecidable _) ⟨e, he, rfl⟩).symm⟩) h2
    (fun s _ hp => @of_decide_eq_true (∃ e, e < m ∧ P e = s) (Classical.propDecidable _) hp)
  rw [cn_true] at h
  rw [← h]
  exact cn_le _ _
/-! iterates -/
def it_i (f : Nat → Nat) : Nat → Nat → Nat
  | 0, x => x
  | j + 1, x => it_i f j (f x)
theorem it_s (f : Nat → Nat) : ∀ j x, it_i f (j + 1) x = f (it_i f j x)
  | 0, _ => rfl
  | j + 1, x => by
    show it_i f (j + 1) (f x) = f (it_i f j (f x))
    exact it_s f j (f x)
theorem it_add (f : Nat → Nat) : ∀ a b x, it_i f (a + b) x = it_i f a (it_i f b x)
  | a, 0, x => rfl
  | a, b + 1, x => by
    show it_i f (a + b) (f x) = it_i f a (it_i f b (f x))
    exact it_add f a b (f x)
theorem it_0 {f : Nat → Nat} (h : f 0 = 0) : ∀ j, it_i f j 0 = 0
  | 0 => rfl
  | j + 1 => by show it_i f j (f 0) = 0; rw [h]; exact it_0 h j
theorem it_stay {f : Nat → Nat} (h : f 0 = 0) {a b x : Nat} (hab : a ≤ b) (hx : it_i f a x = 0) : it_i f b x = 0 := by
  obtain ⟨c, rfl⟩ : ∃ c, b = c + a := ⟨b - a, by omega⟩
  rw [it_add, hx]; exact it_0 h c
/-- who comes to 0 at all comes there in 11 steps, if all is below 12 -/
theorem it_11 {f : Nat → Nat} (h0 : f 0 = 0) (hf : ∀ t, f t < 12) {x : Nat} (hx : x < 12) (h : ∃ j, it_i f j x = 0) : it_i f 11 x = 0 := by
  obtain ⟨k, hk, hmin⟩ := pk_least (fun j => it_i f j x = 0) h
  have hlt : ∀ j, it_i f j x < 12 := by
    intro j
    cases j with
    | zero => exact hx
    | succ j => rw [it_s]; exact hf _
  have hp := cn_pig (P := fun j => it_i f j x) (N := 12) (m := k + 1) (fun e _ => hlt e) (by
    have key : ∀ i j, i < j → j < k + 1 → it_i f i x = it_i f j x → False := by
      intro i j hij hj e
      refine hmin (k - (j - i)) (by omega) ?_
      show it_i f (k - (j - i)) x = 0
      have e1 : k - (j - i) = (k - j) + i := by omega
      have e2 : k = (k - j) + j := by omega
      rw [e1, it_add, e, ← it_add, ← e2]; exact hk
    intro i j hi hj e
    rcases Nat.lt_trichotomy i j with h | h | h
    · exact (key i j h hj e).elim
    · exact h
    · exact (key j i h hi e.symm).elim)
  exact it_stay h0 (a := k) (by omega) hk
theorem it_upd {f : Nat → Nat} {t d : Nat} (hd : ∀ j, it_i f j d ≠ t) : ∀ j x, it_i (fun y => if y = t then d else f y) j d = it_i f j d ∧ (it_i f j x = 0 → (∃ i, it_i f i d = 0) → ∃ i, it_i (fun y => if y = t then d else f y) i x = 0) := by
  have A : ∀ j, it_i (fun y => if y = t then d else f y) j d = it_i f j d := by
    intro j
    induction j with
    | zero => rfl
    | succ j ih => rw [it_s, it_s, ih]; exact if_neg (hd j)
  intro j
  induction j with
  | zero => exact fun x => ⟨rfl, fun h _ => ⟨0, h⟩⟩
  | succ j ih =>
    intro x
    refine ⟨A _, fun h hr => ?_⟩
    by_cases e : x = t
    · obtain ⟨i, hi⟩ := hr
      refine ⟨i + 1, ?_⟩
      show it_i (fun y => if y = t then d else f y) i (if x = t then d else f x) = 0
      rw [if_pos e, A]; exact hi
    · obtain ⟨i, hi⟩ := (ih (f x)).2 h hr
      refine ⟨i + 1, ?_⟩
      show it_i (fun y => if y = t then d else f y) i (if x = t then d else f x) = 0
      rw [if_neg e]; exact hi
