-- rows of kit/rows/PURE-ROWS.to-paste.lean.txt, pasted
theorem pk_us {f : Nat → Int32} {k : Nat} {x : Int32} : upd f k x k = x := if_pos rfl
theorem pk_un {f : Nat → Int32} {k j : Nat} {x : Int32} (h : j ≠ k) : upd f k x j = f j := if_neg h
theorem pk_sub {a b : Nat} (h : b ≤ a) : nI a - nI b = nI (a - b) := by
  obtain ⟨c, rfl⟩ : ∃ c, a = c + b := ⟨a - b, by omega⟩
  rw [← nI_add, Int32.add_sub_cancel, Nat.add_sub_cancel]
theorem pk_mul (a b : Nat) : nI a * nI b = nI (a * b) := (Int32.ofNat_mul a b).symm
theorem pk_div {a d : Nat} (ha : a < 2 ^ 31) (h0 : 0 < d) (hd : d < 2 ^ 31) : nI a / nI d = nI (a / d) := by
  apply Int32.toInt_inj.mp
  rw [lg_idiv_nonneg (by rw [nI_toInt ha]; omega) (by rw [nI_toInt hd]; omega), nI_toInt ha, nI_toInt hd, nI_toInt (Nat.lt_of_le_of_lt (Nat.div_le_self a d) ha)]
  first | rfl | exact (Int.natCast_ediv _ _).symm
theorem pk_rem {a d : Nat} (ha : a < 2 ^ 31) (h0 : 0 < d) (hd : d < 2 ^ 31) : nI a - nI a / nI d * nI d = nI (a % d) := by
  rw [pk_div ha h0 hd, pk_mul, pk_sub (Nat.div_mul_le_self a d)]
  exact congrArg nI (by have := Nat.div_add_mod' a d; omega)
theorem pk_sub_toInt {a b : Nat} (ha : a < 2 ^ 30) (hb : b < 2 ^ 30) : (nI a - nI b).toInt = (a : Int) - b := by
  rw [Int32.toInt_sub, nI_toInt (by omega), nI_toInt (by omega)]
  exact Int.bmod_eq_of_le (by omega) (by omega)
theorem pk_sneg {a b : Nat} (hb : b < 2 ^ 30) (h : a < b) : nI a - nI b < 0 := by
  rw [Int32.lt_iff_toInt_lt, pk_sub_toInt (by omega) hb, show (0 : Int32).toInt = 0 from by decide]
  omega
theorem pk_ix (x : Int32) {n : Nat} (hn : n < 2 ^ 31) : x < 0 ∨ nI n ≤ x ∨ ∃ j : Nat, j < n ∧ x = nI j := by
  by_cases h : x < 0
  · exact Or.inl h
  · obtain ⟨j, hj, rfl⟩ := nI_of h
    by_cases h2 : j < n
    · exact Or.inr (Or.inr ⟨j, h2, rfl⟩)
    · exact Or.inr (Or.inl (nI_le (by omega) hj))
theorem pk_le {x y : Int32} {A B : Prop} (a b : Nat) (f : a ≤ b → A) (g : b < a → B) (hx : x = nI a := by rfl) (hy : y = nI b := by rfl) (ha : a < 2 ^ 31 := by omega) (hb : b < 2 ^ 31 := by omega) : (x ≤ y → A) ∧ (¬ x ≤ y → B) := by
  subst hx hy
  rw [nI_leI ha hb]
  exact ⟨f, fun z => g (by omega)⟩
theorem pk_lt {x y : Int32} {A B : Prop} (a b : Nat) (f : a < b → A) (g : b ≤ a → B) (hx : x = nI a := by rfl) (hy : y = nI b := by rfl) (ha : a < 2 ^ 31 := by omega) (hb : b < 2 ^ 31 := by omega) : (x < y → A) ∧ (¬ x < y → B) := by
  subst hx hy
  rw [nI_ltI ha hb]
  exact ⟨f, fun z => g (by omega)⟩
theorem pk_eq {x y : Int32} {A B : Prop} (a b : Nat) (f : a = b → A) (g : a ≠ b → B) (hx : x = nI a := by rfl) (hy : y = nI b := by rfl) (ha : a < 2 ^ 31 := by omega) (hb : b < 2 ^ 31 := by omega) : (x = y → A) ∧ (¬ x = y → B) := by
  subst hx hy
  rw [nI_eq ha hb]
  exact ⟨f, g⟩
theorem pk_in {x : Int32} (n N : Nat) (h : n < N) (hx : x = nI n := by rfl) (hN : N < 2 ^ 31 := by omega) : vp_in x N := by
  subst hx
  exact vp_in_nI h hN
theorem pk_cl {x : Int32} (n : Nat) (hx : x = nI n := by rfl) (h : n < 2 ^ 31 := by omega) : x.toNatClampNeg = n := by
  subst hx
  exact nI_clamp h
theorem pk_tn {n : Nat} (h : n < 2 ^ 32) : (nI n).toBitVec.toNat = n := Nat.mod_eq_of_lt h
theorem pk_and (x : Int32) {m : Int32} (k : Nat) (hm : m.toBitVec.toNat = 2 ^ k - 1) : x &&& m = nI (x.toBitVec.toNat % 2 ^ k) := by
  apply Int32.toBitVec_inj.mp
  apply BitVec.eq_of_toNat_eq
  rw [Int32.toBitVec_and, BitVec.toNat_and, hm, Nat.and_two_pow_sub_one_eq_mod]
  show _ = (BitVec.ofNat 32 _).toNat
  rw [BitVec.toNat_ofNat]
  exact (Nat.mod_eq_of_lt (Nat.lt_of_le_of_lt (Nat.mod_le _ _) x.toBitVec.isLt)).symm
theorem pk_andE (x : Int32) {m : Int32} (k : Nat) (hm : m.toBitVec.toNat = 2 ^ k - 1) : ∃ j : Nat, j < 2 ^ k ∧ x &&& m = nI j := ⟨_, Nat.mod_lt _ (Nat.two_pow_pos k), pk_and x k hm⟩
-- own rows: overlays, loops, counts
/-- g below i, f from i on -/
def bf_ov (g : Nat → Int32) (i : Nat) (f : Nat → Int32) : Nat → Int32 := fun j => if j < i then g j else f j
theorem bf_ov0 {g f : Nat → Int32} : bf_ov g 0 f = f := funext fun j => if_neg (Nat.not_lt_zero j)
theorem bf_lo {g f : Nat → Int32} {i j : Nat} (h : j < i) : bf_ov g i f j = g j := if_pos h
theorem bf_hi {g f : Nat → Int32} {i j : Nat} (h : i ≤ j) : bf_ov g i f j = f j := if_neg (by omega)
theorem bf_ovS {g f : Nat → Int32} {i : Nat} : upd (bf_ov g i f) i (g i) = bf_ov g (i + 1) f := by
  funext j
  by_cases h : j = i
  · subst h
    rw [pk_us, bf_lo (by omega)]
  · rw [pk_un h]
    by_cases h2 : j < i
    · rw [bf_lo h2, bf_lo (by omega)]
    · rw [bf_hi (by omega), bf_hi (by omega)]
theorem bf_ovv {g f f2 : Nat → Int32} {i : Nat} : bf_ov (bf_ov g i f2) i f = bf_ov g i f := by
  funext j
  by_cases h : j < i
  · rw [bf_lo h, bf_lo h, bf_lo h]
  · rw [bf_hi (by omega), bf_hi (by omega)]
theorem bf_ovc {g g2 f : Nat → Int32} {i : Nat} (h : ∀ j, j < i → g j = g2 j) : bf_ov g i f = bf_ov g2 i f := by
  funext j
  by_cases e : j < i
  · rw [bf_lo e, bf_lo e, h j e]
  · rw [bf_hi (by omega), bf_hi (by omega)]
theorem bf_cl {i : Nat} (h : i < 256) : (nI i).toNatClampNeg = i := nI_clamp (by omega)
theorem bf_up {g f : Nat → Int32} {i : Nat} (h : i < 256) {v : Int32} (hv : v = g i) : upd (bf_ov g i f) (nI i).toNatClampNeg v = bf_ov g (i + 1) f := by
  rw [bf_cl h, hv, bf_ovS]
theorem bf_rd {g f : Nat → Int32} {i : Nat} (h : i < 256) : bf_ov g i f (nI i).toNatClampNeg = f i := by
  rw [bf_cl h, bf_hi (Nat.le_refl i)]
theorem bf_r0 {f : Nat → Int32} {i : Nat} (h : i < 256) : f (nI i).toNatClampNeg = f i := by
  rw [bf_cl h]
theorem bf_e256 : (256 : Int32) ≤ nI 256 := by decide
theorem bf_n256 {i : Nat} (h : i < 256) : ¬ (256 : Int32) ≤ nI i := nI_ge (b := 256) h (by decide)
theorem bf_e16 : (16 : Int32) ≤ nI 16 := by decide
theorem bf_n16 {i : Nat} (h : i < 16) : ¬ (16 : Int32) ≤ nI i := nI_ge (b := 16) h (by decide)
theorem bf_in {i : Nat} (h : i < 256) : vp_in (nI i) 256 := vp_in_nI h (by decide)
theorem bf_rc (r c : Nat) : nI r * 16 + nI c = nI (r * 16 + c) := by
  rw [show (16 : Int32) = nI 16 from rfl, pk_mul, nI_add]
theorem bf_d16 {i : Nat} (h : i < 256) : nI i / 16 = nI (i / 16) := pk_div (d := 16) (by omega) (by decide) (by decide)
theorem bf_m16 {i : Nat} (h : i < 256) : nI i - nI i / 16 * 16 = nI (i % 16) := pk_rem (d := 16) (by omega) (by decide) (by decide)
theorem bf_16 : ¬ (16 : Int32) = 0 := by decide
/-- a counter loop whose state is a function of the counter -/
theorem bf_lp (W : Nat → Nat → Prop) (e : Nat) (hx : ∀ n, W (n + 1) e) (hs : ∀ n i, i < e → W n (i + 1) → W (n + 1) i) : ∃ n, W n 0 := by
  have h : ∀ d i, i + d = e → W (d + 1) i := by
    intro d
    induction d with
    | zero =>
      intro i hi
      have : i = e := by omega
      subst this
      exact hx 0
    | succ d ih =>
      intro i hi
      exact hs (d + 1) i (by omega) (ih (i + 1) (by omega))
  exact ⟨e + 1, h e 0 (by omega)⟩
/-- how many below n have p -/
noncomputable def bf_cn (p : Nat → Prop) : Nat → Nat
  | 0 => 0
  | n + 1 => @ite Nat (p n) (Classical.propDecidable _) (bf_cn p n + 1) (bf_cn p n)
theorem bf_cnt {p : Nat → Prop} {n : Nat} (h : p n) : bf_cn p (n + 1) = bf_cn p n + 1 := @if_pos _ (Classical.propDecidable _) h _ _ _
theorem bf_cnf {p : Nat → Prop} {n : Nat} (h : ¬ p n) : bf_cn p (n + 1) = bf_cn p n := @if_neg _ (Classical.propDecidable _) h _ _ _
theorem bf_cnle (p : Nat → Prop) : ∀ n, bf_cn p n ≤ n := by
  intro n
  induction n with
  | zero => exact Nat.le_refl 0
  | succ n ih =>
    by_cases h : p n
    · rw [bf_cnt h]; omega
    · rw [bf_cnf h]; omega
theorem bf_cnc {p q : Nat → Prop} : ∀ n, (∀ j, j < n → (p j ↔ q j)) → bf_cn p n = bf_cn q n := by
  intro n
  induction n with
  | zero => intro _; rfl
  | succ n ih =>
    intro h
    have e := ih fun j hj => h j (by omega)
    by_cases z : p n
    · rw [bf_cnt z, bf_cnt ((h n (by omega)).mp z), e]
    · rw [bf_cnf z, bf_cnf (fun y => z ((h n (by omega)).mpr y)), e]
theorem bf_cnn (p : Nat → Prop) : ∀ n, bf_cn p n + bf_cn (fun j => ¬ p j) n = n := by
  intro n
  induction n with
  | zero => rfl
  | succ n ih =>
    by_cases z : p n
    · rw [bf_cnt z, bf_cnf (p := fun j => ¬ p j) (fun y => y z)]; omega
    · rw [bf_cnf z, bf_cnt (p := fun j => ¬ p j) z]; omega
/-- a raster's values: naturals of at most 255 -/
def bf_V (p : Nat → Nat) (R : Nat → Int32) : Prop := ∀ j, j < 256 → p j ≤ 255 ∧ R j = nI (p j)
