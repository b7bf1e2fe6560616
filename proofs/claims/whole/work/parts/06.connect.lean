-- own rows: connection of bright cells, pure
def bf_adj (i j : Nat) : Prop := i < 256 ∧ j < 256 ∧ ((j + 1 = i ∧ 0 < i % 16) ∨ (i + 1 = j ∧ i % 16 < 15) ∨ j + 16 = i ∨ i + 16 = j)
theorem bf_adjS {i j : Nat} (h : bf_adj i j) : bf_adj j i := by
  unfold bf_adj at h ⊢
  omega
def bf_clo (G T : Nat → Prop) : Prop := ∀ i j, T i → bf_adj i j → G j → T j
/-- j lies in every closed set that holds i -/
def bf_con (G : Nat → Prop) (i j : Nat) : Prop := ∀ T : Nat → Prop, bf_clo G T → T i → T j
theorem bf_conR {G : Nat → Prop} (i : Nat) : bf_con G i i := fun _ _ h => h
theorem bf_conT {G : Nat → Prop} {i j k : Nat} (h1 : bf_con G i j) (h2 : bf_con G j k) : bf_con G i k := fun T c h => h2 T c (h1 T c h)
theorem bf_con1 {G : Nat → Prop} {i j : Nat} (a : bf_adj i j) (g : G j) : bf_con G i j := fun _ c h => c i j h a g
theorem bf_conS {G : Nat → Prop} {i j : Nat} (gi : G i) (h : bf_con G i j) : bf_con G j i :=
  (h (fun k => G k ∧ bf_con G k i) (fun k l t a g => ⟨g, bf_conT (bf_con1 (bf_adjS a) t.1) t.2⟩) ⟨gi, bf_conR i⟩).2
theorem bf_conG {G : Nat → Prop} {i j : Nat} (gi : G i) (h : bf_con G i j) : G j := h G (fun _ _ _ _ g => g) gi
theorem bf_conB {G : Nat → Prop} {i j : Nat} (gi : i < 256) (h : bf_con G i j) : j < 256 := h (fun k => k < 256) (fun _ _ _ a _ => a.2.1) gi
/-- the first cell of its patch -/
def bf_root (G : Nat → Prop) (i : Nat) : Prop := G i ∧ ∀ k, k < i → G k → ¬ bf_con G k i
theorem bf_cnlt {p : Nat → Prop} : ∀ n j, j < n → ¬ p j → bf_cn p n < n := by
  intro n
  induction n with
  | zero => intro j h; omega
  | succ n ih =>
    intro j h z
    by_cases e : j = n
    · subst e
      rw [bf_cnf z]
      have := bf_cnle p j
      omega
    · have := ih j (by omega) z
      by_cases y : p n
      · rw [bf_cnt y]; omega
      · rw [bf_cnf y]; omega
theorem bf_cnup {p q : Nat → Prop} {j : Nat} (hj : ¬ p j) (hq : ∀ k, q k ↔ (p k ∨ k = j)) : ∀ n, j < n → bf_cn q n = bf_cn p n + 1 := by
  intro n
  induction n with
  | zero => intro h; omega
  | succ n ih =>
    intro h
    by_cases e : j = n
    · subst e
      rw [bf_cnt ((hq j).mpr (Or.inr rfl)), bf_cnf hj, bf_cnc (p := q) (q := p) j fun k hk => by
        rw [hq k]
        constructor
        · rintro (h | h)
          · exact h
          · omega
        · exact Or.inl]
    · have i := ih (by omega)
      by_cases y : p n
      · rw [bf_cnt y, bf_cnt ((hq n).mpr (Or.inl y)), i]
      · rw [bf_cnf y, bf_cnf (fun z => (hq n).mp z |>.elim y (fun z => e z.symm)), i]
/-- sums of naturals below n -/
def bf_su (f : Nat → Nat) : Nat → Nat
  | 0 => 0
  | n + 1 => bf_su f n + f n
theorem bf_suc {f g : Nat → Nat} : ∀ n, (∀ k, k < n → g k = f k) → bf_su g n = bf_su f n := by
  intro n
  induction n with
  | zero => intro _; rfl
  | succ n ih =>
    intro h
    show bf_su g n + g n = bf_su f n + f n
    rw [ih (fun k hk => h k (by omega)), h n (by omega)]
theorem bf_sul {f g : Nat → Nat} {i : Nat} (hi : g i < f i) (ho : ∀ k, k ≠ i → g k = f k) : ∀ n, i < n → bf_su g n < bf_su f n := by
  intro n
  induction n with
  | zero => intro h; omega
  | succ n ih =>
    intro h
    show bf_su g n + g n < bf_su f n + f n
    by_cases e : i = n
    · subst e
      rw [bf_suc i (fun k hk => ho k (by omega))]
      omega
    · rw [ho n (by omega)]
      have := ih (by omega)
      omega
