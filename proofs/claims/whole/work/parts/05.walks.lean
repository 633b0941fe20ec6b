/-! walking loops whose state is told by the counter -/
theorem lc_n (W : Nat → Nat → Prop) (a e : Nat) (fin : ∀ n, W (n + 1) e) (step : ∀ n i, a ≤ i → i < e → W n (i + 1) → W (n + 1) i) : ∀ d n, d < n → a + d ≤ e → W n (e - d)
  | 0, 0, h, _ => by omega
  | 0, n + 1, _, _ => fin n
  | d + 1, 0, h, _ => by omega
  | d + 1, n + 1, h, hd => by
    refine step n (e - (d + 1)) (by omega) (by omega) ?_
    have := lc_n W a e fin step d n (by omega) (by omega)
    rw [show e - (d + 1) + 1 = e - d by omega]; exact this
theorem lc_to (W : Nat → Nat → Prop) (a e : Nat) (hae : a ≤ e) (fin : ∀ n, W (n + 1) e) (step : ∀ n i, a ≤ i → i < e → W n (i + 1) → W (n + 1) i) : ∃ n, W n a := by
  refine ⟨e - a + 1, ?_⟩
  have := lc_n W a e fin step (e - a) (e - a + 1) (by omega) (by omega)
  rw [show e - (e - a) = a by omega] at this; exact this
theorem lc_to2 (W : Nat → Nat → Prop) (a e : Nat) (hae : a ≤ e) {Q : Prop} (hQ : (∃ n, W n a) → Q) (fin : ∀ n, W (n + 1) e) (step : ∀ n i, a ≤ i → i < e → W n (i + 1) → W (n + 1) i) : Q := hQ (lc_to W a e hae fin step)
/-- as much fuel as one likes -/
theorem lc_all (W : Nat → Nat → Prop) (a e : Nat) (hae : a ≤ e) (fin : ∀ n, W (n + 1) e) (step : ∀ n i, a ≤ i → i < e → W n (i + 1) → W (n + 1) i) : ∀ n, e - a < n → W n a := by
  intro n hn
  have := lc_n W a e fin step (e - a) n (by omega) (by omega)
  rw [show e - (e - a) = a by omega] at this; exact this
/-! counts, one more -/
theorem cn_t {p : Nat → Bool} {i : Nat} (h : p i = true) : nI (cn_c p i) + 1 = nI (cn_c p (i + 1)) := by
  rw [nI_1]; show nI (cn_c p i + 1) = nI (cn_c p i + (if p i = true then 1 else 0)); rw [if_pos h]
theorem cn_f {p : Nat → Bool} {i : Nat} (h : ¬ p i = true) : cn_c p (i + 1) = cn_c p i := by
  show cn_c p i + (if p i = true then 1 else 0) = cn_c p i; rw [if_neg h]; rfl
/-! one array onto another, and half onto half -/
def cp_c (a b : Nat → Int32) (n : Nat) : Nat → Int32 := fun i => if i < n then a i else b i
theorem cp_0 (a b : Nat → Int32) : cp_c a b 0 = b := funext fun i => if_neg (by omega)
theorem cp_in {a b : Nat → Int32} {n i : Nat} (h : i < n) : cp_c a b n i = a i := if_pos h
theorem cp_u (a b : Nat → Int32) (n : Nat) : upd (cp_c a b n) n (a n) = cp_c a b (n + 1) := by
  funext i
  by_cases e : i = n
  · rw [e, pk_us, cp_in (by omega)]
  · rw [pk_un e]
    by_cases e2 : i < n
    · rw [cp_in e2, cp_in (by omega)]
    · show (if i < n then a i else b i) = if i < n + 1 then a i else b i
      rw [if_neg e2, if_neg (by omega)]
def ch_c (a : Nat → Int32) (f t n : Nat) : Nat → Int32 := fun i => if t ≤ i ∧ i < t + n then a (i - t + f) else a i
theorem ch_0 (a : Nat → Int32) (f t : Nat) : ch_c a f t 0 = a := funext fun i => if_neg (by omega)
theorem ch_in {a : Nat → Int32} {f t n i : Nat} (h : i < n) : ch_c a f t n (t + i) = a (f + i) := by
  show (if t ≤ t + i ∧ t + i < t + n then a (t + i - t + f) else a (t + i)) = a (f + i)
  rw [if_pos (by omega), show t + i - t + f = f + i by omega]
theorem ch_out {a : Nat → Int32} {f t n i : Nat} (h : i < t ∨ t + n ≤ i) : ch_c a f t n i = a i := if_neg (by omega)
theorem ch_u (a : Nat → Int32) (f t n : Nat) : upd (ch_c a f t n) (t + n) (a (f + n)) = ch_c a f t (n + 1) := by
  funext i
  by_cases e : i = t + n
  · rw [e, pk_us, ch_in (by omega)]
  · rw [pk_un e]
    by_cases e2 : t ≤ i ∧ i < t + n
    · show (if t ≤ i ∧ i < t + n then a (i - t + f) else a i) = if t ≤ i ∧ i < t + (n + 1) then a (i - t + f) else a i
      rw [if_pos e2, if_pos (by omega)]
    · rw [ch_out (by omega), ch_out (by omega)]
/-! sums -/
def sm_c (f : Nat → Int32) : Nat → Int32
  | 0 => 0
  | n + 1 => sm_c f n + nI (n + 1) * f n
theorem sm_congr {f g : Nat → Int32} : ∀ {n : Nat}, (∀ i, i < n → f i = g i) → sm_c f n = sm_c g n
  | 0, _ => rfl
  | n + 1, h => by
    show sm_c f n + nI (n + 1) * f n = sm_c g n + nI (n + 1) * g n
    rw [sm_congr (n := n) (fun i hi => h i (by omega)), h n (by omega)]
theorem sm_more {f : Nat → Int32} {a : Nat} : ∀ {b : Nat}, a ≤ b → (∀ i, a ≤ i → i < b → f i = 0) → sm_c f b = sm_c f a
  | 0, h, _ => by rw [show a = 0 by omega]
  | b + 1, h, hz => by
    by_cases e : a = b + 1
    · rw [e]
    · show sm_c f b + nI (b + 1) * f b = sm_c f a
      rw [hz b (by omega) (by omega), Int32.mul_zero, Int32.add_zero]
      exact sm_more (b := b) (by omega) (fun i h1 h2 => hz i h1 (by omega))
theorem cn_one {p : Nat → Bool} {i n : Nat} (hi : i < n) (hp : p i = true) (hu : ∀ j, j < n → p j = true → j = i) : cn_c p n = 1 := by
  rw [cn_off hi, if_pos hp, cn_zero]
  intro j hj
  by_cases e : j = i
  · exact if_pos e
  · show (if j = i then false else p j) = false
    rw [if_neg e]
    cases h : p j with
    | false => rfl
    | true => exact (e (hu j hj h)).elim
/-- the least place where p holds below n, if there is one -/
theorem cn_first (p : Nat → Prop) (n : Nat) : (∃ i, i < n ∧ p i ∧ ∀ j, j < i → ¬ p j) ∨ (∀ i, i < n → ¬ p i) := by
  by_cases h : ∃ i, i < n ∧ p i
  · obtain ⟨i, ⟨h1, h2⟩, h3⟩ := pk_least (fun i => i < n ∧ p i) h
    exact Or.inl ⟨i, h1, h2, fun j hj hp => h3 j hj ⟨by omega, hp⟩⟩
  · exact Or.inr (fun i hi hp => h ⟨i, hi, hp⟩)
theorem ef_z {s : Nat → Int32} {t : Int32} (h : nI (cn_c (fun q => decide (s q = t)) 768) = 0) : ∀ q, q < 768 → s q ≠ t := by
  intro q hq e
  have := cn_le (fun q => decide (s q = t)) 768
  have h0 := na_z (by omega) h
  have := cn_all h0 q hq
  exact of_decide_eq_false this e
theorem ef_n {s : Nat → Int32} {t : Int32} (h : ¬ nI (cn_c (fun q => decide (s q = t)) 768) = 0) : ∃ q, q < 768 ∧ s q = t := by
  have : 0 < cn_c (fun q => decide (s q = t)) 768 := by
    rcases Nat.eq_zero_or_pos (cn_c (fun q => decide (s q = t)) 768) with e | e
    · exact (h (by rw [e]; exact nI_0)).elim
    · exact e
  obtain ⟨q, h1, h2⟩ := cn_ex this
  exact ⟨q, h1, of_decide_eq_true h2⟩
