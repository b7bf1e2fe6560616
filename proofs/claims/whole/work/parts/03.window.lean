-- own rows: the pure window
def bf_it {σ : Type} (f : Nat → σ → σ) : Nat → Nat → σ → σ
  | 0, _, s => s
  | d + 1, c, s => bf_it f d (c + 1) (f c s)
theorem bf_itA {σ : Type} (f : Nat → σ → σ) : ∀ d e c s, bf_it f (d + e) c s = bf_it f e (c + d) (bf_it f d c s) := by
  intro d
  induction d with
  | zero => intro e c s; rw [Nat.zero_add]; rfl
  | succ d ih =>
    intro e c s
    rw [show d + 1 + e = (d + e) + 1 from by omega]
    show bf_it f (d + e) (c + 1) (f c s) = bf_it f e (c + (d + 1)) (bf_it f d (c + 1) (f c s))
    rw [ih, show c + 1 + d = c + (d + 1) from by omega]
theorem bf_itI {σ : Type} (f : Nat → σ → σ) : ∀ d c s, (∀ j, c ≤ j → j < c + d → ∀ t, f j t = t) → bf_it f d c s = s := by
  intro d
  induction d with
  | zero => intro c s _; rfl
  | succ d ih =>
    intro c s h
    show bf_it f d (c + 1) (f c s) = s
    rw [h c (by omega) (by omega), ih (c + 1) s (fun j hj hj2 => h j (by omega) (by omega))]
theorem bf_itM {σ : Type} (f g : Nat → σ → σ) (m : Nat) : ∀ d c s, (∀ j, c ≤ j → j < c + d → ∀ t, f (j + m) t = g j t) → bf_it f d (c + m) s = bf_it g d c s := by
  intro d
  induction d with
  | zero => intro c s _; rfl
  | succ d ih =>
    intro c s h
    show bf_it f d (c + m + 1) (f (c + m) s) = bf_it g d (c + 1) (g c s)
    rw [h c (by omega) (by omega), show c + m + 1 = c + 1 + m from by omega, ih (c + 1) _ (fun j hj hj2 => h j (by omega) (by omega))]
/-- a walk over the whole width that skips what lies outside is a walk over the clipped width -/
theorem bf_clip {σ : Type} (F : Nat → σ → σ) (m a : Nat) (ha : a < 16) (s : σ) : bf_it (fun z s => if m ≤ z ∧ z < m + 16 then F (z - m) s else s) (2 * m + 1) a s = bf_it F (min (a + m) 15 + 1 - (a - m)) (a - m) s := by
  have e1 : 2 * m + 1 = (m - a) + ((min (a + m) 15 + 1 - (a - m)) + (a + m - 15)) := by omega
  rw [e1, bf_itA, bf_itA, bf_itI _ (m - a) a s (fun j h1 h2 t => if_neg (by omega))]
  rw [bf_itI _ (a + m - 15) _ _ (fun j h1 h2 t => if_neg (by omega))]
  rw [show a + (m - a) = (a - m) + m from by omega]
  refine bf_itM _ F m _ _ s (fun j h1 h2 t => ?_)
  show (if m ≤ j + m ∧ j + m < m + 16 then F (j + m - m) t else t) = F j t
  rw [if_pos (by omega), Nat.add_sub_cancel]
theorem bf_itQ {σ τ : Type} (f : Nat → σ → σ) (g : Nat → τ → τ) (Q : σ → τ → Prop) (h : ∀ j s t, Q s t → Q (f j s) (g j t)) : ∀ d c s t, Q s t → Q (bf_it f d c s) (bf_it g d c t) := by
  intro d
  induction d with
  | zero => intro c s t q; exact q
  | succ d ih => intro c s t q; exact ih (c + 1) _ _ (h c s t q)
theorem bf_itK {σ : Type} (f : Nat → σ → σ) (K : σ → Prop) (h : ∀ j s, K s → K (f j s)) : ∀ d c s, K s → K (bf_it f d c s) := by
  intro d
  induction d with
  | zero => intro c s q; exact q
  | succ d ih => intro c s q; exact ih (c + 1) _ (h c s q)
theorem bf_itH {σ : Type} (f : Nat → σ → σ) (K : σ → Prop) (h : ∀ j s, K s → K (f j s)) (a : Nat) (ha : ∀ s, K (f a s)) : ∀ d c s, c ≤ a → a < c + d → K (bf_it f d c s) := by
  intro d c s h1 h2
  rw [show d = (a - c) + ((d - (a - c) - 1) + 1) from by omega, bf_itA, show c + (a - c) = a from by omega]
  show K (bf_it f (d - (a - c) - 1) (a + 1) (f a (bf_it f (a - c) c s)))
  exact bf_itK f K h _ _ _ (ha _)
theorem bf_itG {σ : Type} (f : Nat → σ → σ) (K : σ → Prop) : ∀ d c s, (∀ j, c ≤ j → j < c + d → ∀ t, K t → K (f j t)) → K s → K (bf_it f d c s) := by
  intro d
  induction d with
  | zero => intro c s _ q; exact q
  | succ d ih => intro c s h q; exact ih (c + 1) _ (fun j h1 h2 => h j (by omega) (by omega)) (h c (by omega) (by omega) s q)
/-- greatest, least, total, count -/
abbrev bf_S4 : Type := Nat × Nat × Nat × Nat
def bf_st (v : Nat) (s : bf_S4) : bf_S4 := (if v ≤ s.1 then s.1 else v, if s.2.1 ≤ v then s.2.1 else v, s.2.2.1 + v, s.2.2.2 + 1)
def bf_row (p : Nat → Nat) (c0 dc r : Nat) (s : bf_S4) : bf_S4 := bf_it (fun c t => bf_st (p (r * 16 + c)) t) dc c0 s
def bf_win (p : Nat → Nat) (r0 dr c0 dc : Nat) (s : bf_S4) : bf_S4 := bf_it (fun r t => bf_row p c0 dc r t) dr r0 s
/-- a window's end -/
def bf_we (a m : Nat) : Nat := min (a + m) 15
def bf_ww (p : Nat → Nat) (row col w h : Nat) (s : bf_S4) : bf_S4 := bf_win p (row - h) (bf_we row h + 1 - (row - h)) (col - w) (bf_we col w + 1 - (col - w)) s
def bf_Q (v : Nat) (s t : bf_S4) : Prop := t.1 = max s.1 v ∧ t.2.1 = min s.2.1 v ∧ t.2.2 = s.2.2
theorem bf_Qs {v x : Nat} {s t : bf_S4} (h : bf_Q v s t) : bf_Q v (bf_st x s) (bf_st x t) := by
  obtain ⟨a, b, c, d⟩ := s
  obtain ⟨a', b', c', d'⟩ := t
  obtain ⟨h1, h2, h3⟩ := h
  simp only at h1 h2 h3
  cases h3
  refine ⟨?_, ?_, rfl⟩
  · show (if x ≤ a' then a' else x) = max (if x ≤ a then a else x) v
    split <;> split <;> omega
  · show (if b' ≤ x then b' else x) = min (if b ≤ x then b else x) v
    split <;> split <;> omega
def bf_K (v : Nat) (s : bf_S4) : Prop := v ≤ s.1 ∧ s.2.1 ≤ v
theorem bf_Ks {v x : Nat} {s : bf_S4} (h : bf_K v s) : bf_K v (bf_st x s) := by
  obtain ⟨a, b, c, d⟩ := s
  obtain ⟨h1, h2⟩ := h
  simp only at h1 h2
  refine ⟨?_, ?_⟩
  · show v ≤ (if x ≤ a then a else x)
    split <;> omega
  · show (if b ≤ x then b else x) ≤ v
    split <;> omega
theorem bf_Kh (v : Nat) (s : bf_S4) : bf_K v (bf_st v s) := by
  obtain ⟨a, b, c, d⟩ := s
  refine ⟨?_, ?_⟩
  · show v ≤ (if v ≤ a then a else v)
    split <;> omega
  · show (if b ≤ v then b else v) ≤ v
    split <;> omega
theorem bf_Qrow {v : Nat} (p : Nat → Nat) (c0 dc r : Nat) {s t : bf_S4} (q : bf_Q v s t) : bf_Q v (bf_row p c0 dc r s) (bf_row p c0 dc r t) :=
  bf_itQ (fun c t => bf_st (p (r * 16 + c)) t) (fun c t => bf_st (p (r * 16 + c)) t) (bf_Q v) (fun j s t q => bf_Qs q) dc c0 s t q
theorem bf_Qww {v : Nat} (p : Nat → Nat) (row col w h : Nat) {s t : bf_S4} (q : bf_Q v s t) : bf_Q v (bf_ww p row col w h s) (bf_ww p row col w h t) :=
  bf_itQ (fun r t => bf_row p (col - w) (bf_we col w + 1 - (col - w)) r t) (fun r t => bf_row p (col - w) (bf_we col w + 1 - (col - w)) r t) (bf_Q v) (fun j s t q => bf_Qrow p _ _ j q) _ _ s t q
theorem bf_Krow {v : Nat} (p : Nat → Nat) (c0 dc r : Nat) {s : bf_S4} (q : bf_K v s) : bf_K v (bf_row p c0 dc r s) :=
  bf_itK (fun c t => bf_st (p (r * 16 + c)) t) (bf_K v) (fun j s q => bf_Ks q) dc c0 s q
theorem bf_Khit (p : Nat → Nat) (c0 dc r c : Nat) (s : bf_S4) (h1 : c0 ≤ c) (h2 : c < c0 + dc) : bf_K (p (r * 16 + c)) (bf_row p c0 dc r s) :=
  bf_itH (fun c t => bf_st (p (r * 16 + c)) t) (bf_K (p (r * 16 + c))) (fun j s k => bf_Ks k) c (fun s => bf_Kh _ _) dc c0 s h1 h2
theorem bf_Kww (p : Nat → Nat) (row col w h : Nat) (hr : row < 16) (hc : col < 16) (s : bf_S4) : bf_K (p (row * 16 + col)) (bf_ww p row col w h s) :=
  bf_itH (fun r t => bf_row p (col - w) (bf_we col w + 1 - (col - w)) r t) (bf_K (p (row * 16 + col))) (fun j s k => bf_Krow p _ _ j k) row (fun s => bf_Khit p _ _ row col s (by omega) (by unfold bf_we; omega)) _ _ s (by omega) (by unfold bf_we; omega)
/-- from the centre's own value or from the bounds: the same -/
theorem bf_same {p : Nat → Nat} {row col w h : Nat} (hr : row < 16) (hc : col < 16) (hv : p (row * 16 + col) ≤ 255) : bf_ww p row col w h (p (row * 16 + col), p (row * 16 + col), 0, 0) = bf_ww p row col w h (0, 255, 0, 0) := by
  have q : bf_Q (p (row * 16 + col)) (bf_ww p row col w h (0, 255, 0, 0)) (bf_ww p row col w h (p (row * 16 + col), p (row * 16 + col), 0, 0)) := by
    refine bf_Qww p row col w h ⟨?_, ?_, rfl⟩
    · show p (row * 16 + col) = max 0 (p (row * 16 + col))
      omega
    · show p (row * 16 + col) = min 255 (p (row * 16 + col))
      omega
  have k := bf_Kww p row col w h hr hc (0, 255, 0, 0)
  generalize bf_ww p row col w h (0, 255, 0, 0) = s at q k
  generalize bf_ww p row col w h (p (row * 16 + col), p (row * 16 + col), 0, 0) = t at q
  obtain ⟨a, b, c⟩ := s
  obtain ⟨a', b', c'⟩ := t
  obtain ⟨h1, h2, h3⟩ := q
  obtain ⟨k1, k2⟩ := k
  simp only at h1 h2 h3 k1 k2
  rw [h3, h1, h2, show max a (p (row * 16 + col)) = a from by omega, show min b (p (row * 16 + col)) = b from by omega]
def bf_O (s : bf_S4) : Prop := s.1 ≤ 255 ∧ s.2.1 ≤ 255 ∧ s.2.2.1 ≤ 255 * s.2.2.2
theorem bf_Os {x : Nat} {s : bf_S4} (hx : x ≤ 255) (h : bf_O s) : bf_O (bf_st x s) := by
  obtain ⟨a, b, c, d⟩ := s
  obtain ⟨h1, h2, h3⟩ := h
  simp only at h1 h2 h3
  refine ⟨?_, ?_, ?_⟩
  · show (if x ≤ a then a else x) ≤ 255
    split <;> omega
  · show (if b ≤ x then b else x) ≤ 255
    split <;> omega
  · show c + x ≤ 255 * (d + 1)
    omega
theorem bf_Orow {p : Nat → Nat} (hp : ∀ j, j < 256 → p j ≤ 255) {c0 dc r : Nat} (hr : r < 16) (hc : c0 + dc ≤ 16) {s : bf_S4} (h : bf_O s) : bf_O (bf_row p c0 dc r s) :=
  bf_itG _ _ _ _ s (fun j h1 h2 t k => bf_Os (hp _ (by omega)) k) h
theorem bf_Oww {p : Nat → Nat} (hp : ∀ j, j < 256 → p j ≤ 255) (row col w h : Nat) (hr : row < 16) (hc : col < 16) {s : bf_S4} (o : bf_O s) : bf_O (bf_ww p row col w h s) :=
  bf_itG _ _ _ _ s (fun j h1 h2 t k => bf_Orow hp (by unfold bf_we at h2; omega) (by unfold bf_we; omega) k) o
theorem bf_Crow (p : Nat → Nat) (r : Nat) : ∀ d c s, (bf_row p c d r s).2.2.2 = s.2.2.2 + d := by
  intro d
  induction d with
  | zero => intro c s; rfl
  | succ d ih =>
    intro c s
    show (bf_row p (c + 1) d r (bf_st (p (r * 16 + c)) s)).2.2.2 = _
    rw [ih]
    show s.2.2.2 + 1 + d = _
    omega
theorem bf_Cwin (p : Nat → Nat) (c0 dc : Nat) : ∀ d r s, (bf_win p r d c0 dc s).2.2.2 = s.2.2.2 + d * dc := by
  intro d
  induction d with
  | zero => intro r s; show s.2.2.2 = _; omega
  | succ d ih =>
    intro r s
    show (bf_win p (r + 1) d c0 dc (bf_row p c0 dc r s)).2.2.2 = _
    rw [ih, bf_Crow, Nat.succ_mul]
    omega
theorem bf_Cww (p : Nat → Nat) (row col w h : Nat) (hr : row < 16) (hc : col < 16) : 0 < (bf_ww p row col w h (0, 255, 0, 0)).2.2.2 ∧ (bf_ww p row col w h (0, 255, 0, 0)).2.2.2 ≤ 256 := by
  have a : 0 < bf_we row h + 1 - (row - h) ∧ bf_we row h + 1 - (row - h) ≤ 16 := by unfold bf_we; omega
  have b : 0 < bf_we col w + 1 - (col - w) ∧ bf_we col w + 1 - (col - w) ≤ 16 := by unfold bf_we; omega
  unfold bf_ww
  rw [bf_Cwin]
  have m1 := Nat.mul_pos a.1 b.1
  have m2 := Nat.mul_le_mul a.2 b.2
  show 0 < 0 + _ ∧ 0 + _ ≤ 256
  omega
/-- what a filter takes of a window: 1 dilation, 2 erosion, 3 mean -/
def bf_val (k : Nat) (s : bf_S4) : Nat := if k = 1 then s.1 else if k = 2 then s.2.1 else s.2.2.1 / s.2.2.2
theorem bf_valO {k : Nat} {s : bf_S4} (o : bf_O s) : bf_val k s ≤ 255 := by
  obtain ⟨a, b, c⟩ := o
  unfold bf_val
  split
  · exact a
  · split
    · exact b
    · exact Nat.div_le_of_le_mul (by rw [Nat.mul_comm]; exact c)
/-- the raster's new value at i -/
def bf_pv (k : Nat) (p : Nat → Nat) (w h : Nat) (i : Nat) : Nat := bf_val k (bf_ww p (i / 16) (i % 16) w h (0, 255, 0, 0))
theorem bf_O0 : bf_O (0, 255, 0, 0) := by
  refine ⟨?_, ?_, ?_⟩ <;> decide
theorem bf_pvO {k : Nat} {p : Nat → Nat} (hp : ∀ j, j < 256 → p j ≤ 255) (w h : Nat) {i : Nat} (hi : i < 256) : bf_pv k p w h i ≤ 255 :=
  bf_valO (bf_Oww hp _ _ _ _ (by omega) (by omega) bf_O0)
