/-! what the writes do to the whole present state -/
def rl_G (k s l c hX kY zY cY en hd nm th hY : Nat → Int32) (m : Nat) (P par L : Nat → Nat) : Prop :=
  en 0 = nI m ∧ rl_E s hd nm th m P ∧ rl_K k s ∧ rl_T k s par ∧ rl_L k l c kY zY cY L ∧ rl_H k hX hY
def zf_c (c : Nat → Int32) (a b : Nat) : Nat → Int32 := fun i => if a ≤ i ∧ i < b then 0 else c i
theorem zf_in {c : Nat → Int32} {a b i : Nat} (h1 : a ≤ i) (h2 : i < b) : zf_c c a b i = 0 := if_pos ⟨h1, h2⟩
theorem zf_out {c : Nat → Int32} {a b i : Nat} (h : i < a ∨ b ≤ i) : zf_c c a b i = c i := if_neg (by omega)
theorem zf_e (c : Nat → Int32) (a : Nat) : zf_c c a a = c := funext fun i => zf_out (by omega)
theorem zf_u (c : Nat → Int32) {a b : Nat} (h : a ≤ b) : upd (zf_c c a b) b 0 = zf_c c a (b + 1) := by
  funext i
  by_cases e : i = b
  · rw [e, pk_us, zf_in h (by omega)]
  · rw [pk_un e]
    by_cases e2 : a ≤ i ∧ i < b
    · rw [zf_in e2.1 e2.2, zf_in e2.1 (by omega)]
    · rw [zf_out (by omega), zf_out (by omega)]
theorem up_sw (s : Nat → Int32) {q r : Nat} (h : r ≠ q) (v : Int32) : upd (upd (upd s r 0) q 0) r v = upd (upd s q 0) r v := by
  funext i
  by_cases e : i = r
  · rw [e, pk_us, pk_us]
  · rw [pk_un e, pk_un e]
    by_cases e2 : i = q
    · rw [e2, pk_us, pk_us]
    · rw [pk_un e2, pk_un e2, pk_un e]
theorem us_gen {k s hX k' s' hX' : Nat → Int32} (h : rl_U k s hX) (g : ∀ x, x < 12 → k' x = 1 → ((∃ q, q < 768 ∧ s' q = nI x) ∨ ∃ i, i < 4 ∧ hX' i = nI x) ∨ (k x = 1 ∧ (∀ q, q < 768 → s q = nI x → s' q = nI x) ∧ (∀ i, i < 4 → hX i = nI x → hX' i = nI x))) : rl_U k' s' hX' := by
  intro x hx kx
  rcases g x hx kx with e | ⟨e, e1, e2⟩
  · exact e
  · rcases h x hx e with ⟨q, a, b⟩ | ⟨i, a, b⟩
    · exact Or.inl ⟨q, a, e1 q a b⟩
    · exact Or.inr ⟨i, a, e2 i a b⟩
section
variable {k s l c hX kY zY cY en hd nm th hY : Nat → Int32} {m : Nat} {P par L : Nat → Nat}
theorem nw_make (G : rl_G k s l c hX kY zY cY en hd nm th hY m P par L) (hm : m < 20) {t d x : Nat} {v : Int32} (t0 : 0 < t) (t1 : t < 12) (kt : k t = 0) (hv : v = 1 ∨ v = 2) (d1 : d < 12) (x1 : x < 64) (kd : k d = 2) (hs : s (d * 64 + x) = 0) :
    ∃ P' par' L', rl_G (upd k t v) (upd s (d * 64 + x) (nI t)) l c hX (upd kY t v) (upd zY t 0) cY (upd en 0 (nI (m + 1))) (upd hd m (nI d)) (upd nm m (nI x)) (upd th m (nI t)) hY (m + 1) P' par' L' := by
  obtain ⟨g1, g2, g3, g4, g5, g6⟩ := G
  have ed : (d * 64 + x) / 64 = d := by omega
  have ex : (d * 64 + x) % 64 = x := by omega
  have A := en_add g2 hm (q := d * 64 + x) (by omega) hs (na_nz (a := t) (by omega) t0)
  have B := tr_make g3 g4 t0 t1 kt hv (q := d * 64 + x) (by omega) hs (by rw [ed]; exact kd)
  rw [ed, ex] at A
  obtain ⟨b1, b2, b3, b4, b5, b6, b7⟩ := g5 t t1
  have L0 : L t = 0 := b3 (by rw [kt]; decide)
  refine ⟨_, _, _, pk_us, A, B.1, B.2, ln_row g5 (t := t) (n := 0) (fun y hy ne => ⟨pk_un ne, rfl, pk_un ne, pk_un ne, fun i _ => ⟨rfl, rfl⟩⟩) ⟨by rw [b1, L0], by omega, fun _ => rfl, fun i h1 h2 => b4 i (by omega) h2, by rw [pk_us, pk_us], fun _ => by rw [pk_us]; exact nI_0.symm, fun i h => by omega⟩, hn_k g6 (fun y _ _ ky _ => ?_)⟩
  have : y ≠ t := fun z => by rw [z, kt] at ky; exact absurd ky (by decide)
  rw [pk_un this]; exact ky
/-- a slot that held t (or nothing) is written: slots of other things stay -/
theorem us_sl {q x : Nat} {w v : Int32} (hs : s q = w) (hw : w ≠ nI x) {r : Nat} (z : s r = nI x) : upd s q v r = nI x := by
  have : r ≠ q := fun e => hw (by rw [← hs, ← e]; exact z)
  rw [pk_un this]; exact z
theorem us_x0 (k0 : k 0 = 2) {x : Nat} (kx : k x = 1) : 0 < x := by
  rcases Nat.eq_zero_or_pos x with e | e
  · rw [e, k0] at kx; exact absurd kx (by decide)
  · exact e
theorem nw_makeU (U : rl_U k s hX) (k0 : k 0 = 2) {t q : Nat} {v : Int32} (hq : q < 768) (hs : s q = 0) : rl_U (upd k t v) (upd s q (nI t)) hX := by
  refine us_gen U (fun x hx kx => ?_)
  by_cases e : x = t
  · exact Or.inl (Or.inl ⟨q, hq, by rw [pk_us, e]⟩)
  · rw [pk_un e] at kx
    exact Or.inr ⟨kx, fun r _ z => us_sl hs (na_nz (by omega) (us_x0 k0 kx)).symm z, fun i _ z => z⟩
theorem nw_link (G : rl_G k s l c hX kY zY cY en hd nm th hY m P par L) (hm : m < 20) {t d x : Nat} (t0 : 0 < t) (t1 : t < 12) (kt : k t = 1) (d1 : d < 12) (x1 : x < 64) (kd : k d = 2) (hs : s (d * 64 + x) = 0) :
    ∃ P', rl_G k (upd s (d * 64 + x) (nI t)) l c hX kY zY cY (upd en 0 (nI (m + 1))) (upd hd m (nI d)) (upd nm m (nI x)) (upd th m (nI t)) hY (m + 1) P' par L := by
  obtain ⟨g1, g2, g3, g4, g5, g6⟩ := G
  have ed : (d * 64 + x) / 64 = d := by omega
  have ex : (d * 64 + x) % 64 = x := by omega
  have A := en_add g2 hm (q := d * 64 + x) (by omega) hs (na_nz (a := t) (by omega) t0)
  have B := tr_link g3 g4 t0 t1 kt (q := d * 64 + x) (by omega) hs (by rw [ed]; exact kd)
  rw [ed, ex] at A
  exact ⟨_, pk_us, A, B.1, B.2, g5, g6⟩
theorem nw_linkU (U : rl_U k s hX) (k0 : k 0 = 2) {t q : Nat} (hq : q < 768) (hs : s q = 0) : rl_U k (upd s q (nI t)) hX :=
  us_gen U (fun x hx kx => Or.inr ⟨kx, fun r _ z => us_sl hs (na_nz (by omega) (us_x0 k0 kx)).symm z, fun i _ z => z⟩)
theorem nw_clear (G : rl_G k s l c hX kY zY cY en hd nm th hY (m + 1) P par L) {t e : Nat} (t1 : t < 12) (kt : k t = 1) (he : e < m + 1) (hs : s (P e) = nI t) :
    ∃ P', rl_G k (upd s (P e) 0) l c hX kY zY cY (upd en 0 (nI m)) (upd hd e (hd m)) (upd nm e (nm m)) (upd th e (th m)) hY m P' par L := by
  obtain ⟨g1, g2, g3, g4, g5, g6⟩ := G
  have B := tr_clear g3 g4 t1 kt hs
  exact ⟨_, pk_us, en_take g2 he, B.1, B.2, g5, g6⟩
/-- a file that nothing holds goes -/
theorem nw_drop (G : rl_G k s l c hX kY zY cY en hd nm th hY m P par L) {t : Nat} (t1 : t < 12) (kt : k t = 1) (ns : ∀ q, q < 768 → s q ≠ nI t) (nh : ∀ i, i < 4 → hX i ≠ nI t) :
    ∃ L', rl_G (upd k t 0) s (upd l t 0) (zf_c c (t * 48) (t * 48 + 48)) hX (upd kY t 0) zY cY en hd nm th hY m P par L' := by
  obtain ⟨g1, g2, g3, g4, g5, g6⟩ := G
  have B := tr_drop g3 g4 (k' := upd k t 0) (fun x hx => by
    by_cases e : x = t
    · subst e; exact Or.inr ⟨kt, pk_us, ns⟩
    · exact Or.inl (pk_un e))
  refine ⟨_, g1, g2, B.1, B.2, ln_row g5 (t := t) (n := 0) (fun y hy ne => ⟨pk_un ne, pk_un ne, pk_un ne, rfl, fun i _ => ⟨zf_out (by omega), rfl⟩⟩) ⟨by rw [pk_us]; exact nI_0.symm, by omega, fun _ => rfl, fun i h1 h2 => zf_in (by omega) (by omega), by rw [pk_us, pk_us], fun z => by rw [pk_us] at z; exact absurd z (by decide), fun i h => by omega⟩, hn_k g6 (fun y _ _ ky hy => ?_)⟩
  obtain ⟨i, hi, e⟩ := hy
  have : y ≠ t := fun z => nh i hi (by rw [← z]; exact e)
  rw [pk_un this]; exact ky
theorem nw_rmdir (G : rl_G k s l c hX kY zY cY en hd nm th hY (m + 1) P par L) {t e : Nat} (t0 : 0 < t) (t1 : t < 12) (kt : k t = 2) (he : e < m + 1) (hs : s (P e) = nI t) (hz : ∀ x, x < 64 → s (t * 64 + x) = 0) :
    ∃ P' L', rl_G (upd k t 0) (upd s (P e) 0) (upd l t 0) (zf_c c (t * 48) (t * 48 + 48)) hX (upd kY t 0) zY cY (upd en 0 (nI m)) (upd hd e (hd m)) (upd nm e (nm m)) (upd th e (th m)) hY m P' par L' := by
  obtain ⟨g1, g2, g3, g4, g5, g6⟩ := G
  have B := tr_rmdir g3 g4 t0 t1 kt ((g2.2.1 e he).1) hs hz
  refine ⟨_, _, pk_us, en_take g2 he, B.1, B.2, ln_row g5 (t := t) (n := 0) (fun y hy ne => ⟨pk_un ne, pk_un ne, pk_un ne, rfl, fun i _ => ⟨zf_out (by omega), rfl⟩⟩) ⟨by rw [pk_us]; exact nI_0.symm, by omega, fun _ => rfl, fun i h1 h2 => zf_in (by omega) (by omega), by rw [pk_us, pk_us], fun z => by rw [pk_us] at z; exact absurd z (by decide), fun i h => by omega⟩, hn_k g6 (fun y _ _ ky hy => ?_)⟩
  have : y ≠ t := fun z => by rw [z, kt] at ky; exact absurd ky (by decide)
  rw [pk_un this]; exact ky
theorem nw_clearU (U : rl_U k s hX) {t q : Nat} (t1 : t < 12) (hs : s q = nI t) (hu : (∃ r, r < 768 ∧ upd s q 0 r = nI t) ∨ ∃ i, i < 4 ∧ hX i = nI t) : rl_U k (upd s q 0) hX := by
  refine us_gen U (fun x hx kx => ?_)
  by_cases e : x = t
  · rw [e]; exact Or.inl hu
  · exact Or.inr ⟨kx, fun r _ z => us_sl hs (na_ne (by omega) (by omega) (fun w => e w.symm)) z, fun i _ z => z⟩
theorem nw_goneU (U : rl_U k s hX) {t q : Nat} (t1 : t < 12) (hs : s q = nI t) : rl_U (upd k t 0) (upd s q 0) hX := by
  refine us_gen U (fun x hx kx => ?_)
  by_cases e : x = t
  · rw [e, pk_us] at kx; exact absurd kx (by decide)
  · rw [pk_un e] at kx
    exact Or.inr ⟨kx, fun r _ z => us_sl hs (na_ne (by omega) (by omega) (fun w => e w.symm)) z, fun i _ z => z⟩
/-- an entry moves to a free slot: taken at e, added behind -/
theorem nw_move (G : rl_G k s l c hX kY zY cY en hd nm th hY (m + 1) P par L) {t e d x : Nat} (t0 : 0 < t) (t1 : t < 12) (kt : k t = 1 ∨ k t = 2) (he : e < m + 1) (hs : s (P e) = nI t) (d1 : d < 12) (x1 : x < 64) (kd : k d = 2) (hz : s (d * 64 + x) = 0) (nh : k t = 2 → ∀ j, it_i par j d ≠ t) :
    ∃ P' par', rl_G k (upd (upd s (P e) 0) (d * 64 + x) (nI t)) l c hX kY zY cY (upd (upd en 0 (nI m)) 0 (nI (m + 1))) (upd (upd hd e (hd m)) m (nI d)) (upd (upd nm e (nm m)) m (nI x)) (upd (upd th e (th m)) m (nI t)) hY (m + 1) P' par' L := by
  obtain ⟨g1, g2, g3, g4, g5, g6⟩ := G
  have ed : (d * 64 + x) / 64 = d := by omega
  have ex : (d * 64 + x) % 64 = x := by omega
  have n0 := na_nz (a := t) (by omega) t0
  have qr : d * 64 + x ≠ P e := fun z => n0 (by rw [← hs, ← z]; exact hz)
  have A := en_take g2 he
  have A2 := en_add A (by have := g2.1; omega) (q := d * 64 + x) (by omega) (by rw [pk_un qr]; exact hz) n0
  rw [ed, ex] at A2
  rcases kt with kt | kt
  · have B := tr_clear g3 g4 t1 kt hs
    have B2 := tr_link B.1 B.2 t0 t1 kt (q := d * 64 + x) (by omega) (by rw [pk_un qr]; exact hz) (by rw [ed]; exact kd)
    exact ⟨_, _, pk_us, A2, B2.1, B2.2, g5, g6⟩
  · have B := tr_move g3 g4 t0 t1 kt ((g2.2.1 e he).1) hs (r := d * 64 + x) (by omega) hz (by rw [ed]; exact kd) (by rw [ed]; exact nh kt)
    exact ⟨_, _, pk_us, A2, B.1, B.2, g5, g6⟩
theorem nw_moveU (U : rl_U k s hX) (k0 : k 0 = 2) {t q r : Nat} (t1 : t < 12) (hs : s q = nI t) (hr : r < 768) (hz : s r = 0) : rl_U k (upd (upd s q 0) r (nI t)) hX := by
  refine us_gen U (fun x hx kx => ?_)
  by_cases e : x = t
  · rw [e]; exact Or.inl (Or.inl ⟨r, hr, pk_us⟩)
  · refine Or.inr ⟨kx, fun p _ z => ?_, fun i _ z => z⟩
    have z1 := us_sl (s := s) (v := 0) hs (na_ne (by omega) (by omega) (fun w => e w.symm)) z
    have x0 := na_nz (a := x) (by omega) (us_x0 k0 kx)
    have : p ≠ r := fun w => by rw [w, hz] at z; exact x0 z.symm
    rw [pk_un this]; exact z1
/-- a handle takes a file -/
theorem nw_hold (G : rl_G k s l c hX kY zY cY en hd nm th hY m P par L) {t i : Nat} (t0 : 0 < t) (t1 : t < 12) (kt : k t = 1) :
    rl_G k s l c (upd hX i (nI t)) kY zY cY en hd nm th (upd hY i (nI t)) m P par L := by
  obtain ⟨g1, g2, g3, g4, g5, g6⟩ := G
  refine ⟨g1, g2, g3, g4, g5, fun h hh => ?_⟩
  by_cases e : h = i
  · subst e; rw [pk_us, pk_us]; exact Or.inr ⟨t, t0, t1, kt, rfl, rfl⟩
  · rw [pk_un e, pk_un e]; exact g6 h hh
theorem nw_holdU (U : rl_U k s hX) (k0 : k 0 = 2) {t i : Nat} (hz : hX i = 0) : rl_U k s (upd hX i (nI t)) := by
  refine us_gen U (fun x hx kx => Or.inr ⟨kx, fun r _ z => z, fun h _ z => ?_⟩)
  have x0 := na_nz (a := x) (by omega) (us_x0 k0 kx)
  have : h ≠ i := fun w => by rw [w, hz] at z; exact x0 z.symm
  rw [pk_un this]; exact z
theorem nw_let (G : rl_G k s l c hX kY zY cY en hd nm th hY m P par L) {i : Nat} :
    rl_G k s l c (upd hX i 0) kY zY cY en hd nm th (upd hY i (-1)) m P par L := by
  obtain ⟨g1, g2, g3, g4, g5, g6⟩ := G
  refine ⟨g1, g2, g3, g4, g5, fun h hh => ?_⟩
  by_cases e : h = i
  · subst e; rw [pk_us, pk_us]; exact Or.inl ⟨rfl, rfl⟩
  · rw [pk_un e, pk_un e]; exact g6 h hh
theorem nw_letU (U : rl_U k s hX) {t i : Nat} (t1 : t < 12) (hs : hX i = nI t) (hu : (∃ r, r < 768 ∧ s r = nI t) ∨ ∃ h, h < 4 ∧ upd hX i 0 h = nI t) : rl_U k s (upd hX i 0) := by
  refine us_gen U (fun x hx kx => ?_)
  by_cases e : x = t
  · rw [e]; exact Or.inl hu
  · exact Or.inr ⟨kx, fun r _ z => z, fun h _ z => us_sl hs (na_ne (by omega) (by omega) (fun w => e w.symm)) z⟩
theorem nw_letgoneU (U : rl_U k s hX) {t i : Nat} (t1 : t < 12) (hs : hX i = nI t) : rl_U (upd k t 0) s (upd hX i 0) := by
  refine us_gen U (fun x hx kx => ?_)
  by_cases e : x = t
  · rw [e, pk_us] at kx; exact absurd kx (by decide)
  · rw [pk_un e] at kx
    exact Or.inr ⟨kx, fun r _ z => z, fun h _ z => us_sl hs (na_ne (by omega) (by omega) (fun w => e w.symm)) z⟩
/-- a file's length, and its cells -/
theorem nw_len (G : rl_G k s l c hX kY zY cY en hd nm th hY m P par L) {t n : Nat} (t1 : t < 12) (kt : k t = 1) (hn : n ≤ 48) :
    ∃ L', rl_G k s (upd l t (nI n)) (zf_c c (t * 48 + n) (t * 48 + 48)) hX kY (upd zY t (nI n)) (zf_c cY (t * 48 + L t) (t * 48 + n)) en hd nm th hY m P par L' ∧ L' t = n := by
  obtain ⟨g1, g2, g3, g4, g5, g6⟩ := G
  obtain ⟨b1, b2, b3, b4, b5, b6, b7⟩ := g5 t t1
  refine ⟨_, ⟨g1, g2, g3, g4, ln_row g5 (t := t) (n := n) (fun y hy ne => ⟨rfl, pk_un ne, rfl, pk_un ne, fun i _ => ⟨zf_out (by omega), zf_out (by omega)⟩⟩) ⟨pk_us, hn, fun z => (z kt).elim, fun i h1 h2 => zf_in (by omega) (by omega), b5, fun _ => pk_us, fun i h => ?_⟩, g6⟩, if_pos rfl⟩
  rw [zf_out (c := c) (by omega)]
  by_cases e : i < L t
  · rw [zf_out (by omega)]; exact b7 i e
  · rw [zf_in (by omega) (by omega)]; exact (b4 i (by omega) (by omega)).symm
/-- values from a place on -/
def fl_c (c : Nat → Int32) (a b : Nat) (v : Int32) : Nat → Int32 := fun i => if a ≤ i ∧ i < b then v + nI (i - a) else c i
theorem fl_in {c : Nat → Int32} {a b i : Nat} {v : Int32} (h1 : a ≤ i) (h2 : i < b) : fl_c c a b v i = v + nI (i - a) := if_pos ⟨h1, h2⟩
theorem fl_out {c : Nat → Int32} {a b i : Nat} {v : Int32} (h : i < a ∨ b ≤ i) : fl_c c a b v i = c i := if_neg (by omega)
theorem fl_e (c : Nat → Int32) (a : Nat) (v : Int32) : fl_c c a a v = c := funext fun i => fl_out (by omega)
theorem fl_u (c : Nat → Int32) (a j : Nat) (v : Int32) : upd (fl_c c a (a + j) v) (a + j) (v + nI j) = fl_c c a (a + (j + 1)) v := by
  funext i
  by_cases e : i = a + j
  · rw [e, pk_us, fl_in (by omega) (by omega), show a + j - a = j by omega]
  · rw [pk_un e]
    by_cases e2 : a ≤ i ∧ i < a + j
    · rw [fl_in e2.1 e2.2, fl_in e2.1 (by omega)]
    · rw [fl_out (by omega), fl_out (by omega)]
theorem nw_fill (G : rl_G k s l c hX kY zY cY en hd nm th hY m P par L) {t a n : Nat} {v : Int32} (t1 : t < 12) (kt : k t = 1) (hn : a + n ≤ L t) :
    rl_G k s l (fl_c c (t * 48 + a) (t * 48 + a + n) v) hX kY zY (fl_c cY (t * 48 + a) (t * 48 + a + n) v) en hd nm th hY m P par L := by
  obtain ⟨g1, g2, g3, g4, g5, g6⟩ := G
  refine ⟨g1, g2, g3, g4, fun y hy => ?_, g6⟩
  obtain ⟨b1, b2, b3, b4, b5, b6, b7⟩ := g5 y hy
  obtain ⟨e1, e2, e3, e4, e5, e6, e7⟩ := g5 t t1
  refine ⟨b1, b2, b3, fun i h1 h2 => ?_, b5, b6, fun i h => ?_⟩
  · rw [fl_out (by
      by_cases e : y = t
      · subst e; omega
      · omega)]
    exact b4 i h1 h2
  · by_cases z : t * 48 + a ≤ y * 48 + i ∧ y * 48 + i < t * 48 + a + n
    · rw [fl_in z.1 z.2, fl_in z.1 z.2]
    · rw [fl_out (by omega), fl_out (by omega)]; exact b7 i h
end
/-! saving and coming back -/
theorem sv_save {k s l c hX kY zY cY en hd nm th hY : Nat → Int32} {m : Nat} {P par L : Nat → Nat} (G : rl_G k s l c hX kY zY cY en hd nm th hY m P par L)
    {k' s' l' c' kY' zY' cY' en' hd' nm' th' : Nat → Int32}
    (hk : ∀ t, t < 12 → (k t = 1 ∧ (∀ q, q < 768 → s q ≠ nI t) ∧ k' t = 0 ∧ l' t = 0 ∧ (∀ i, i < 48 → c' (t * 48 + i) = 0) ∧ kY' (12 + t) = 0) ∨
      ((k t = 1 → ∃ q, q < 768 ∧ s q = nI t) ∧ k' t = k t ∧ l' t = l t ∧ (∀ i, i < 48 → c' (t * 48 + i) = c (t * 48 + i)) ∧ kY' (12 + t) = kY t))
    (hs : ∀ q, q < 768 → s' q = s q) (hz : ∀ t, t < 12 → zY' (12 + t) = zY t) (hc : ∀ i, i < 576 → cY' (576 + i) = cY i)
    (hn : en' 1 = en 0) (he : ∀ e, e < 20 → hd' (20 + e) = hd e ∧ nm' (20 + e) = nm e ∧ th' (20 + e) = th e) : rl_V k' s' l' c' kY' zY' cY' en' hd' nm' th' := by
  obtain ⟨g1, g2, g3, g4, g5, g6⟩ := G
  have B := tr_drop g3 g4 (k' := k') (fun t ht => by
    rcases hk t ht with ⟨a1, a2, a3, _⟩ | ⟨_, a2, _⟩
    · exact Or.inr ⟨a1, a3, a2⟩
    · exact Or.inl a2)
  refine ⟨⟨⟨m, P, hn.trans g1, ag_E hs he g2⟩, ag_K (fun _ _ => rfl) hs B.1, ⟨par, ag_T (fun _ _ => rfl) hs B.2⟩, ⟨fun t => if k' t = 1 then L t else 0, fun t ht => ?_⟩⟩, fun t ht k1 => ?_⟩
  · obtain ⟨b1, b2, b3, b4, b5, b6, b7⟩ := g5 t ht
    rcases hk t ht with ⟨a1, a2, a3, a4, a5, a6⟩ | ⟨a1, a2, a3, a4, a5⟩
    · dsimp only
      rw [a3, if_neg (by decide), a4]
      exact ⟨nI_0.symm, by omega, fun _ => rfl, fun i _ h => a5 i h, a6, fun z => absurd z (by decide), fun i h => by omega⟩
    · have e0 : (if k' t = 1 then L t else 0) = L t := by
        by_cases z : k' t = 1
        · rw [if_pos z]
        · rw [if_neg z]; exact (b3 (by rw [← a2]; exact z)).symm
      dsimp only
      rw [e0, a2, a3, hz t ht]
      refine ⟨b1, b2, b3, fun i h1 h2 => by rw [a4 i h2]; exact b4 i h1 h2, a5.trans b5, b6, fun i h => ?_⟩
      rw [a4 i (by omega), hc (t * 48 + i) (by omega)]; exact b7 i h
  · rcases hk t ht with ⟨a1, a2, a3, _⟩ | ⟨a1, a2, _⟩
    · rw [a3] at k1; exact absurd k1 (by decide)
    · obtain ⟨q, h1, h2⟩ := a1 (by rw [← a2]; exact k1)
      exact ⟨q, h1, by rw [hs q h1]; exact h2⟩
theorem sv_back {k s l c kY zY cY en hd nm th : Nat → Int32} (V : rl_V k s l c kY zY cY en hd nm th)
    {k' s' l' c' hX' kY' zY' cY' en' hd' nm' th' hY' : Nat → Int32}
    (hk : ∀ t, t < 12 → k' t = k t ∧ l' t = l t ∧ kY' t = kY (12 + t) ∧ zY' t = zY (12 + t)) (hs : ∀ q, q < 768 → s' q = s q)
    (hc : ∀ i, i < 576 → c' i = c i ∧ cY' i = cY (576 + i)) (hn : en' 0 = en 1) (he : ∀ e, e < 20 → hd' e = hd (20 + e) ∧ nm' e = nm (20 + e) ∧ th' e = th (20 + e))
    (hh : ∀ h, h < 4 → hX' h = 0 ∧ hY' h = -1) : rl_N k' s' l' c' hX' kY' zY' cY' en' hd' nm' th' hY' :=
  ⟨ag_F hk hs hc hn he V.1, fun h h4 => Or.inl (hh h h4), fun t ht k1 => by
    rw [(hk t ht).1] at k1
    obtain ⟨q, a1, a2⟩ := V.2 t ht k1
    exact Or.inl ⟨q, a1, by rw [hs q a1]; exact a2⟩⟩
theorem nw_N {k s l c hX kY zY cY en hd nm th hY : Nat → Int32} {m : Nat} {P par L : Nat → Nat} (G : rl_G k s l c hX kY zY cY en hd nm th hY m P par L) (U : rl_U k s hX) : rl_N k s l c hX kY zY cY en hd nm th hY :=
  ⟨⟨⟨m, P, G.1, G.2.1⟩, G.2.2.1, ⟨par, G.2.2.2.1⟩, ⟨L, G.2.2.2.2.1⟩⟩, G.2.2.2.2.2, U⟩
theorem nw_G {k s l c hX kY zY cY en hd nm th hY : Nat → Int32} (N : rl_N k s l c hX kY zY cY en hd nm th hY) : ∃ m P par L, rl_G k s l c hX kY zY cY en hd nm th hY m P par L ∧ rl_U k s hX := by
  obtain ⟨⟨⟨m, P, e, h1⟩, h2, ⟨par, h3⟩, ⟨L, h4⟩⟩, h5, h6⟩ := N
  exact ⟨m, P, par, L, ⟨e, h1, h2, h3, h4, h5⟩, h6⟩
