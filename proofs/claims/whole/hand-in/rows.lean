section
-- rows of kit/rows/PURE-ROWS.to-paste.lean.txt, pasted
theorem pk_us {f : Nat → Int32} {k : Nat} {x : Int32} : upd f k x k = x := if_pos rfl
theorem pk_un {f : Nat → Int32} {k j : Nat} {x : Int32} (h : j ≠ k) : upd f k x j = f j := if_neg h
theorem pk_sub {a b : Nat} (h : b ≤ a) : nI a - nI b = nI (a - b) := by
  obtain ⟨c, rfl⟩ : ∃ c, a = c + b := ⟨a - b, by omega⟩
  rw [← nI_add, Int32.add_sub_cancel, Nat.add_sub_cancel]
theorem pk_mul (a b : Nat) : nI a * nI b = nI (a * b) := (Int32.ofNat_mul a b).symm
theorem pk_div {a d : Nat} (ha : a < 2 ^ 31) (h0 : 0 < d) (hd : d < 2 ^ 31) : nI a / nI d = nI (a / d) := by
  apply Int32.toInt_inj.mp
  rw [lg_idiv_nonneg (by rw [nI_toInt ha]; omega) (by rw [nI_toInt hd]; omega), nI_toInt ha, nI_toInt hd, nI_toInt (Nat.lt_of_le_of_lt (Nat.div_le_self a d) ha)]
  first | rfl | exact (Int.natCast_ediv _ _).symm
theorem pk_rem {a d : Nat} (ha : a < 2 ^ 31) (h0 : 0 < d) (hd : d < 2 ^ 31) : nI a - nI a / nI d * nI d = nI (a % d) := by
  rw [pk_div ha h0 hd, pk_mul, pk_sub (Nat.div_mul_le_self a d)]
  exact congrArg nI (by have := Nat.div_add_mod' a d; omega)
theorem pk_sub_toInt {a b : Nat} (ha : a < 2 ^ 30) (hb : b < 2 ^ 30) : (nI a - nI b).toInt = (a : Int) - b := by
  rw [Int32.toInt_sub, nI_toInt (by omega), nI_toInt (by omega)]
  exact Int.bmod_eq_of_le (by omega) (by omega)
theorem pk_sneg {a b : Nat} (hb : b < 2 ^ 30) (h : a < b) : nI a - nI b < 0 := by
  rw [Int32.lt_iff_toInt_lt, pk_sub_toInt (by omega) hb, show (0 : Int32).toInt = 0 from by decide]
  omega
theorem pk_ix (x : Int32) {n : Nat} (hn : n < 2 ^ 31) : x < 0 ∨ nI n ≤ x ∨ ∃ j : Nat, j < n ∧ x = nI j := by
  by_cases h : x < 0
  · exact Or.inl h
  · obtain ⟨j, hj, rfl⟩ := nI_of h
    by_cases h2 : j < n
    · exact Or.inr (Or.inr ⟨j, h2, rfl⟩)
    · exact Or.inr (Or.inl (nI_le (by omega) hj))
theorem pk_le {x y : Int32} {A B : Prop} (a b : Nat) (f : a ≤ b → A) (g : b < a → B) (hx : x = nI a := by rfl) (hy : y = nI b := by rfl) (ha : a < 2 ^ 31 := by omega) (hb : b < 2 ^ 31 := by omega) : (x ≤ y → A) ∧ (¬ x ≤ y → B) := by
  subst hx hy
  rw [nI_leI ha hb]
  exact ⟨f, fun z => g (by omega)⟩
theorem pk_lt {x y : Int32} {A B : Prop} (a b : Nat) (f : a < b → A) (g : b ≤ a → B) (hx : x = nI a := by rfl) (hy : y = nI b := by rfl) (ha : a < 2 ^ 31 := by omega) (hb : b < 2 ^ 31 := by omega) : (x < y → A) ∧ (¬ x < y → B) := by
  subst hx hy
  rw [nI_ltI ha hb]
  exact ⟨f, fun z => g (by omega)⟩
theorem pk_eq {x y : Int32} {A B : Prop} (a b : Nat) (f : a = b → A) (g : a ≠ b → B) (hx : x = nI a := by rfl) (hy : y = nI b := by rfl) (ha : a < 2 ^ 31 := by omega) (hb : b < 2 ^ 31 := by omega) : (x = y → A) ∧ (¬ x = y → B) := by
  subst hx hy
  rw [nI_eq ha hb]
  exact ⟨f, g⟩
theorem pk_in {x : Int32} (n N : Nat) (h : n < N) (hx : x = nI n := by rfl) (hN : N < 2 ^ 31 := by omega) : vp_in x N := by
  subst hx
  exact vp_in_nI h hN
theorem pk_cl {x : Int32} (n : Nat) (hx : x = nI n := by rfl) (h : n < 2 ^ 31 := by omega) : x.toNatClampNeg = n := by
  subst hx
  exact nI_clamp h
theorem pk_tn {n : Nat} (h : n < 2 ^ 32) : (nI n).toBitVec.toNat = n := Nat.mod_eq_of_lt h
theorem pk_and (x : Int32) {m : Int32} (k : Nat) (hm : m.toBitVec.toNat = 2 ^ k - 1) : x &&& m = nI (x.toBitVec.toNat % 2 ^ k) := by
  apply Int32.toBitVec_inj.mp
  apply BitVec.eq_of_toNat_eq
  rw [Int32.toBitVec_and, BitVec.toNat_and, hm, Nat.and_two_pow_sub_one_eq_mod]
  show _ = (BitVec.ofNat 32 _).toNat
  rw [BitVec.toNat_ofNat]
  exact (Nat.mod_eq_of_lt (Nat.lt_of_le_of_lt (Nat.mod_le _ _) x.toBitVec.isLt)).symm
theorem pk_andE (x : Int32) {m : Int32} (k : Nat) (hm : m.toBitVec.toNat = 2 ^ k - 1) : ∃ j : Nat, j < 2 ^ k ∧ x &&& m = nI j := ⟨_, Nat.mod_lt _ (Nat.two_pow_pos k), pk_and x k hm⟩
-- own rows: overlays, loops, counts
/-- g below i, f from i on -/
def bf_ov (g : Nat → Int32) (i : Nat) (f : Nat → Int32) : Nat → Int32 := fun j => if j < i then g j else f j
theorem bf_ov0 {g f : Nat → Int32} : bf_ov g 0 f = f := funext fun j => if_neg (Nat.not_lt_zero j)
theorem bf_lo {g f : Nat → Int32} {i j : Nat} (h : j < i) : bf_ov g i f j = g j := if_pos h
theorem bf_hi {g f : Nat → Int32} {i j : Nat} (h : i ≤ j) : bf_ov g i f j = f j := if_neg (by omega)
theorem bf_ovS {g f : Nat → Int32} {i : Nat} : upd (bf_ov g i f) i (g i) = bf_ov g (i + 1) f := by
  funext j
  by_cases h : j = i
  · subst h
    rw [pk_us, bf_lo (by omega)]
  · rw [pk_un h]
    by_cases h2 : j < i
    · rw [bf_lo h2, bf_lo (by omega)]
    · rw [bf_hi (by omega), bf_hi (by omega)]
theorem bf_ovv {g f f2 : Nat → Int32} {i : Nat} : bf_ov (bf_ov g i f2) i f = bf_ov g i f := by
  funext j
  by_cases h : j < i
  · rw [bf_lo h, bf_lo h, bf_lo h]
  · rw [bf_hi (by omega), bf_hi (by omega)]
theorem bf_ovc {g g2 f : Nat → Int32} {i : Nat} (h : ∀ j, j < i → g j = g2 j) : bf_ov g i f = bf_ov g2 i f := by
  funext j
  by_cases e : j < i
  · rw [bf_lo e, bf_lo e, h j e]
  · rw [bf_hi (by omega), bf_hi (by omega)]
theorem bf_cl {i : Nat} (h : i < 256) : (nI i).toNatClampNeg = i := nI_clamp (by omega)
theorem bf_up {g f : Nat → Int32} {i : Nat} (h : i < 256) {v : Int32} (hv : v = g i) : upd (bf_ov g i f) (nI i).toNatClampNeg v = bf_ov g (i + 1) f := by
  rw [bf_cl h, hv, bf_ovS]
theorem bf_rd {g f : Nat → Int32} {i : Nat} (h : i < 256) : bf_ov g i f (nI i).toNatClampNeg = f i := by
  rw [bf_cl h, bf_hi (Nat.le_refl i)]
theorem bf_r0 {f : Nat → Int32} {i : Nat} (h : i < 256) : f (nI i).toNatClampNeg = f i := by
  rw [bf_cl h]
theorem bf_e256 : (256 : Int32) ≤ nI 256 := by decide
theorem bf_n256 {i : Nat} (h : i < 256) : ¬ (256 : Int32) ≤ nI i := nI_ge (b := 256) h (by decide)
theorem bf_e16 : (16 : Int32) ≤ nI 16 := by decide
theorem bf_n16 {i : Nat} (h : i < 16) : ¬ (16 : Int32) ≤ nI i := nI_ge (b := 16) h (by decide)
theorem bf_in {i : Nat} (h : i < 256) : vp_in (nI i) 256 := vp_in_nI h (by decide)
theorem bf_rc (r c : Nat) : nI r * 16 + nI c = nI (r * 16 + c) := by
  rw [show (16 : Int32) = nI 16 from rfl, pk_mul, nI_add]
theorem bf_d16 {i : Nat} (h : i < 256) : nI i / 16 = nI (i / 16) := pk_div (d := 16) (by omega) (by decide) (by decide)
theorem bf_m16 {i : Nat} (h : i < 256) : nI i - nI i / 16 * 16 = nI (i % 16) := pk_rem (d := 16) (by omega) (by decide) (by decide)
theorem bf_16 : ¬ (16 : Int32) = 0 := by decide
/-- a counter loop whose state is a function of the counter -/
theorem bf_lp (W : Nat → Nat → Prop) (e : Nat) (hx : ∀ n, W (n + 1) e) (hs : ∀ n i, i < e → W n (i + 1) → W (n + 1) i) : ∃ n, W n 0 := by
  have h : ∀ d i, i + d = e → W (d + 1) i := by
    intro d
    induction d with
    | zero =>
      intro i hi
      have : i = e := by omega
      subst this
      exact hx 0
    | succ d ih =>
      intro i hi
      exact hs (d + 1) i (by omega) (ih (i + 1) (by omega))
  exact ⟨e + 1, h e 0 (by omega)⟩
/-- how many below n have p -/
noncomputable def bf_cn (p : Nat → Prop) : Nat → Nat
  | 0 => 0
  | n + 1 => @ite Nat (p n) (Classical.propDecidable _) (bf_cn p n + 1) (bf_cn p n)
theorem bf_cnt {p : Nat → Prop} {n : Nat} (h : p n) : bf_cn p (n + 1) = bf_cn p n + 1 := @if_pos _ (Classical.propDecidable _) h _ _ _
theorem bf_cnf {p : Nat → Prop} {n : Nat} (h : ¬ p n) : bf_cn p (n + 1) = bf_cn p n := @if_neg _ (Classical.propDecidable _) h _ _ _
theorem bf_cnle (p : Nat → Prop) : ∀ n, bf_cn p n ≤ n := by
  intro n
  induction n with
  | zero => exact Nat.le_refl 0
  | succ n ih =>
    by_cases h : p n
    · rw [bf_cnt h]; omega
    · rw [bf_cnf h]; omega
theorem bf_cnc {p q : Nat → Prop} : ∀ n, (∀ j, j < n → (p j ↔ q j)) → bf_cn p n = bf_cn q n := by
  intro n
  induction n with
  | zero => intro _; rfl
  | succ n ih =>
    intro h
    have e := ih fun j hj => h j (by omega)
    by_cases z : p n
    · rw [bf_cnt z, bf_cnt ((h n (by omega)).mp z), e]
    · rw [bf_cnf z, bf_cnf (fun y => z ((h n (by omega)).mpr y)), e]
theorem bf_cnn (p : Nat → Prop) : ∀ n, bf_cn p n + bf_cn (fun j => ¬ p j) n = n := by
  intro n
  induction n with
  | zero => rfl
  | succ n ih =>
    by_cases z : p n
    · rw [bf_cnt z, bf_cnf (p := fun j => ¬ p j) (fun y => y z)]; omega
    · rw [bf_cnf z, bf_cnt (p := fun j => ¬ p j) z]; omega
/-- a raster's values: naturals of at most 255 -/
def bf_V (p : Nat → Nat) (R : Nat → Int32) : Prop := ∀ j, j < 256 → p j ≤ 255 ∧ R j = nI (p j)
end
section
-- own rows: the walks of the small methods
section
variable {wc : Int32} {R S B P C W Re Be Ma : Nat → Int32}
theorem bf_copyS {post : SX → Prop} (h : post (wc, R, bf_ov R 256 S, B, P, C, W)) : wpX_copy__raster_spare post (wc, R, S, B, P, C, W) := by
  obtain ⟨n, hn⟩ := bf_lp (fun n i => wX_copy__raster_spare_2 post wc n (nI i) R (bf_ov R i S) B P C W) 256 (fun n => br_t bf_e256 h) (fun n i hi ih => br_f (bf_n256 hi) ⟨bf_in hi, bf_in hi, nm_r (bf_up hi (bf_r0 hi)) (nm_r (nI_1 i) ih)⟩)
  rw [bf_ov0] at hn
  exact ⟨n, hn⟩
theorem bf_copyP {post : SX → Prop} (h : post (wc, R, S, B, bf_ov R 256 P, C, W)) : wpX_copy__raster_passSource post (wc, R, S, B, P, C, W) := by
  obtain ⟨n, hn⟩ := bf_lp (fun n i => wX_copy__raster_passSource_2 post wc n (nI i) R S B (bf_ov R i P) C W) 256 (fun n => br_t bf_e256 h) (fun n i hi ih => br_f (bf_n256 hi) ⟨bf_in hi, bf_in hi, nm_r (bf_up hi (bf_r0 hi)) (nm_r (nI_1 i) ih)⟩)
  rw [bf_ov0] at hn
  exact ⟨n, hn⟩
theorem bf_copyB {post : SX → Prop} (h : post (wc, R, S, bf_ov R 256 B, P, C, W)) : wpX_copy__raster_beforeFilter post (wc, R, S, B, P, C, W) := by
  obtain ⟨n, hn⟩ := bf_lp (fun n i => wX_copy__raster_beforeFilter_2 post wc n (nI i) R S (bf_ov R i B) P C W) 256 (fun n => br_t bf_e256 h) (fun n i hi ih => br_f (bf_n256 hi) ⟨bf_in hi, bf_in hi, nm_r (bf_up hi (bf_r0 hi)) (nm_r (nI_1 i) ih)⟩)
  rw [bf_ov0] at hn
  exact ⟨n, hn⟩
theorem bf_diffS {post : Int32 → Prop} (h : post (nI (bf_cn (fun j => ¬ R j = S j) 256))) : wpX_differences__raster_spare post (wc, R, S, B, P, C, W) := by
  refine bf_lp (fun n i => wX_differences__raster_spare_4 post wc R S B P C W n (nI (bf_cn (fun j => ¬ R j = S j) i)) (nI i)) 256 (fun n => br_t bf_e256 h) (fun n i hi ih => br_f (bf_n256 hi) ⟨bf_in hi, bf_in hi, br_c (fun e => nm_r (nI_1 i) ?_) (fun e => nm_r (nI_1 _) (nm_r (nI_1 i) ?_))⟩)
  · rw [bf_cl hi] at e
    rw [bf_cnf (p := fun j => ¬ R j = S j) (fun z => z e)] at ih
    exact ih
  · rw [bf_cl hi] at e
    rw [bf_cnt (p := fun j => ¬ R j = S j) e] at ih
    exact ih
theorem bf_diffB {post : Int32 → Prop} (h : post (nI (bf_cn (fun j => ¬ R j = B j) 256))) : wpX_differences__raster_beforeFilter post (wc, R, S, B, P, C, W) := by
  refine bf_lp (fun n i => wX_differences__raster_beforeFilter_4 post wc R S B P C W n (nI (bf_cn (fun j => ¬ R j = B j) i)) (nI i)) 256 (fun n => br_t bf_e256 h) (fun n i hi ih => br_f (bf_n256 hi) ⟨bf_in hi, bf_in hi, br_c (fun e => nm_r (nI_1 i) ?_) (fun e => nm_r (nI_1 _) (nm_r (nI_1 i) ?_))⟩)
  · rw [bf_cl hi] at e
    rw [bf_cnf (p := fun j => ¬ R j = B j) (fun z => z e)] at ih
    exact ih
  · rw [bf_cl hi] at e
    rw [bf_cnt (p := fun j => ¬ R j = B j) e] at ih
    exact ih
theorem bf_diffY {post : Int32 → SY → Prop} (h : post (nI (bf_cn (fun j => ¬ R j = Be j) 256)) (R, S, Re, Be, Ma)) : ∃ n, wY_filter_82 post R S Re Be Ma n 0 0 := by
  refine bf_lp (fun n i => wY_filter_82 post R S Re Be Ma n (nI (bf_cn (fun j => ¬ R j = Be j) i)) (nI i)) 256 (fun n => br_t bf_e256 h) (fun n i hi ih => br_f (bf_n256 hi) ⟨bf_in hi, bf_in hi, br_c (fun e => nm_r (nI_1 i) ?_) (fun e => nm_r (nI_1 _) (nm_r (nI_1 i) ?_))⟩)
  · rw [bf_cl hi] at e
    rw [bf_cnf (p := fun j => ¬ R j = Be j) (fun z => z e)] at ih
    exact ih
  · rw [bf_cl hi] at e
    rw [bf_cnt (p := fun j => ¬ R j = Be j) e] at ih
    exact ih
theorem bf_equalX {post : Int32 → Prop} (h : post (nI (bf_cn (fun j => R j = S j) 256))) : wpX_equal post (wc, R, S, B, P, C, W) := by
  refine bf_diffS (post := fun r => post (256 - r)) ?_
  have e := bf_cnn (fun j => R j = S j) 256
  have l := bf_cnle (fun j => ¬ R j = S j) 256
  have q : (256 : Int32) - nI (bf_cn (fun j => ¬ R j = S j) 256) = nI (bf_cn (fun j => R j = S j) 256) := by
    rw [show (256 : Int32) = nI 256 from rfl, pk_sub l]
    exact congrArg nI (by omega)
  rw [q]
  exact h
theorem bf_equalY {post : Int32 → Prop} (h : post (nI (bf_cn (fun j => R j = S j) 256))) : wpY_equal post (R, S, Re, Be, Ma) := by
  refine bf_lp (fun n i => wY_equal_4 post R S Re Be Ma n (nI (bf_cn (fun j => R j = S j) i)) (nI i)) 256 (fun n => br_t bf_e256 h) (fun n i hi ih => br_f (bf_n256 hi) ⟨bf_in hi, bf_in hi, br_c (fun e => nm_r (nI_1 _) (nm_r (nI_1 i) ?_)) (fun e => nm_r (nI_1 i) ?_)⟩)
  · rw [bf_cl hi] at e
    rw [bf_cnt (p := fun j => R j = S j) e] at ih
    exact ih
  · rw [bf_cl hi] at e
    rw [bf_cnf (p := fun j => R j = S j) e] at ih
    exact ih
theorem bf_aboveX {post : Int32 → Prop} (h : post (nI (bf_cn (fun j => ¬ R j ≤ S j) 256))) : wpX_above post (wc, R, S, B, P, C, W) := by
  refine bf_lp (fun n i => wX_above_4 post wc R S B P C W n (nI (bf_cn (fun j => ¬ R j ≤ S j) i)) (nI i)) 256 (fun n => br_t bf_e256 h) (fun n i hi ih => br_f (bf_n256 hi) ⟨bf_in hi, bf_in hi, br_c (fun e => nm_r (nI_1 i) ?_) (fun e => nm_r (nI_1 _) (nm_r (nI_1 i) ?_))⟩)
  · rw [bf_cl hi] at e
    rw [bf_cnf (p := fun j => ¬ R j ≤ S j) (fun z => z e)] at ih
    exact ih
  · rw [bf_cl hi] at e
    rw [bf_cnt (p := fun j => ¬ R j ≤ S j) e] at ih
    exact ih
theorem bf_aboveY {post : Int32 → Prop} (h : post (nI (bf_cn (fun j => ¬ R j ≤ S j) 256))) : wpY_above post (R, S, Re, Be, Ma) := by
  refine bf_lp (fun n i => wY_above_4 post R S Re Be Ma n (nI (bf_cn (fun j => ¬ R j ≤ S j) i)) (nI i)) 256 (fun n => br_t bf_e256 h) (fun n i hi ih => br_f (bf_n256 hi) ⟨bf_in hi, bf_in hi, br_c (fun e => nm_r (nI_1 i) ?_) (fun e => nm_r (nI_1 _) (nm_r (nI_1 i) ?_))⟩)
  · rw [bf_cl hi] at e
    rw [bf_cnf (p := fun j => ¬ R j ≤ S j) (fun z => z e)] at ih
    exact ih
  · rw [bf_cl hi] at e
    rw [bf_cnt (p := fun j => ¬ R j ≤ S j) e] at ih
    exact ih
def bf_sm (R : Nat → Int32) : Nat → Int32
  | 0 => 0
  | n + 1 => bf_sm R n + R n
theorem bf_sumX {post : Int32 → Prop} (h : post (bf_sm R 256)) : wpX_sum post (wc, R, S, B, P, C, W) :=
  bf_lp (fun n i => wX_sum_4 post wc R S B P C W n (bf_sm R i) (nI i)) 256 (fun n => br_t bf_e256 h) (fun n i hi ih => br_f (bf_n256 hi) ⟨bf_in hi, nm_r (congrArg (bf_sm R i + ·) (bf_r0 (f := R) hi)) (nm_r (nI_1 i) ih)⟩)
theorem bf_sumY {post : Int32 → Prop} (h : post (bf_sm R 256)) : wpY_sum post (R, S, Re, Be, Ma) :=
  bf_lp (fun n i => wY_sum_4 post R S Re Be Ma n (bf_sm R i) (nI i)) 256 (fun n => br_t bf_e256 h) (fun n i hi ih => br_f (bf_n256 hi) ⟨bf_in hi, nm_r (congrArg (bf_sm R i + ·) (bf_r0 (f := R) hi)) (nm_r (nI_1 i) ih)⟩)
theorem bf_keepX {post : SX → Prop} (h : post (wc, R, bf_ov R 256 S, B, P, C, W)) : wpX_keep post (wc, R, S, B, P, C, W) := bf_copyS h
theorem bf_keepY {post : SY → Prop} (h : post (R, bf_ov R 256 S, Re, Be, Ma)) : wpY_keep post (R, S, Re, Be, Ma) := by
  obtain ⟨n, hn⟩ := bf_lp (fun n i => wY_keep_2 post n (nI i) R (bf_ov R i S) Re Be Ma) 256 (fun n => br_t bf_e256 h) (fun n i hi ih => br_f (bf_n256 hi) ⟨bf_in hi, bf_in hi, nm_r (bf_up hi (bf_r0 hi)) (nm_r (nI_1 i) ih)⟩)
  rw [bf_ov0] at hn
  exact ⟨n, hn⟩
theorem bf_exchX {post : SX → Prop} (h : post (wc, bf_ov S 256 R, bf_ov R 256 S, B, P, C, W)) : wpX_exchange post (wc, R, S, B, P, C, W) := by
  obtain ⟨n, hn⟩ := bf_lp (fun n i => wX_exchange_2 post wc n (nI i) (bf_ov S i R) (bf_ov R i S) B P C W) 256 (fun n => br_t bf_e256 h) (fun n i hi ih => br_f (bf_n256 hi) ⟨bf_in hi, nm_r (bf_rd hi) ⟨bf_in hi, bf_in hi, nm_r (bf_up hi (bf_rd hi)) ⟨bf_in hi, nm_r (bf_up hi rfl) (nm_r (nI_1 i) ih)⟩⟩⟩)
  rw [bf_ov0, bf_ov0] at hn
  exact ⟨n, hn⟩
theorem bf_exchY {post : SY → Prop} (h : post (bf_ov S 256 R, bf_ov R 256 S, Re, Be, Ma)) : wpY_exchange post (R, S, Re, Be, Ma) := by
  obtain ⟨n, hn⟩ := bf_lp (fun n i => wY_exchange_2 post n (nI i) (bf_ov S i R) (bf_ov R i S) Re Be Ma) 256 (fun n => br_t bf_e256 h) (fun n i hi ih => br_f (bf_n256 hi) ⟨bf_in hi, nm_r (bf_rd hi) ⟨bf_in hi, bf_in hi, nm_r (bf_up hi (bf_rd hi)) ⟨bf_in hi, nm_r (bf_up hi rfl) (nm_r (nI_1 i) ih)⟩⟩⟩)
  rw [bf_ov0, bf_ov0] at hn
  exact ⟨n, hn⟩
def bf_th (R : Nat → Int32) (b : Int32) : Nat → Int32 := fun j => if R j < b then 0 else 255
theorem bf_thT {b : Int32} {i : Nat} (e : R i < b) : 0 = bf_th R b i := (if_pos e).symm
theorem bf_thF {b : Int32} {i : Nat} (e : ¬ R i < b) : 255 = bf_th R b i := (if_neg e).symm
theorem bf_thrX {post : Int32 → SX → Prop} {b : Int32} (h : post (nI (bf_cn (fun j => ¬ R j < b) 256)) (wc, bf_ov (bf_th R b) 256 R, S, B, P, C, W)) : wpX_threshold post (wc, R, S, B, P, C, W) b := by
  obtain ⟨n, hn⟩ := bf_lp (fun n i => wX_threshold_4 post b wc n (nI (bf_cn (fun j => ¬ R j < b) i)) (nI i) (bf_ov (bf_th R b) i R) S B P C W) 256 (fun n => br_t bf_e256 h) (by
    intro n i hi ih
    refine br_f (bf_n256 hi) ⟨bf_in hi, br_c (fun e => ?_) (fun e => ?_)⟩
    · rw [bf_rd hi] at e
      rw [bf_cnf (p := fun j => ¬ R j < b) (fun z => z e)] at ih
      exact ⟨bf_in hi, nm_r (bf_up hi (bf_thT e)) (nm_r (nI_1 i) ih)⟩
    · rw [bf_rd hi] at e
      rw [bf_cnt (p := fun j => ¬ R j < b) e] at ih
      exact ⟨bf_in hi, nm_r (bf_up hi (bf_thF e)) (nm_r (nI_1 _) (nm_r (nI_1 i) ih))⟩)
  rw [bf_ov0] at hn
  exact ⟨n, hn⟩
theorem bf_thrY {post : Int32 → SY → Prop} {b : Int32} (h : post (nI (bf_cn (fun j => ¬ R j < b) 256)) (bf_ov (bf_th R b) 256 R, S, Re, Be, Ma)) : wpY_threshold post (R, S, Re, Be, Ma) b := by
  obtain ⟨n, hn⟩ := bf_lp (fun n i => wY_threshold_4 post b n (nI (bf_cn (fun j => ¬ R j < b) i)) (nI i) (bf_ov (bf_th R b) i R) S Re Be Ma) 256 (fun n => br_t bf_e256 h) (by
    intro n i hi ih
    have q : bf_ov (bf_th R b) (i + 1) R (nI i).toNatClampNeg = bf_th R b i := by rw [bf_cl hi, bf_lo (by omega)]
    refine br_f (bf_n256 hi) ⟨bf_in hi, br_c (fun e => ?_) (fun e => ?_)⟩
    · rw [bf_rd hi] at e
      rw [bf_cnf (p := fun j => ¬ R j < b) (fun z => z e)] at ih
      exact ⟨bf_in hi, nm_r (bf_up hi (bf_thT e)) ⟨bf_in hi, br_f (by rw [q, ← bf_thT e]; decide) (nm_r (nI_1 i) ih)⟩⟩
    · rw [bf_rd hi] at e
      rw [bf_cnt (p := fun j => ¬ R j < b) e] at ih
      exact ⟨bf_in hi, nm_r (bf_up hi (bf_thF e)) ⟨bf_in hi, br_t (by rw [q, ← bf_thF e]) (nm_r (nI_1 _) (nm_r (nI_1 i) ih))⟩⟩)
  rw [bf_ov0] at hn
  exact ⟨n, hn⟩
def bf_pt (a b : Int32) : Nat → Int32 := fun j => (nI (j / 16) * a + nI (j % 16) * b + nI (j / 16) * nI (j % 16)) &&& 255
theorem bf_patX {post : SX → Prop} {a b : Int32} (h : post (wc, bf_ov (bf_pt a b) 256 R, S, B, P, C, W)) : wpX_pattern post (wc, R, S, B, P, C, W) a b := by
  obtain ⟨n, hn⟩ := bf_lp (fun n r => wX_pattern_2 post a b wc n (nI r) (bf_ov (bf_pt a b) (r * 16) R) S B P C W) 16 (fun n => br_t bf_e16 h) (by
    intro n r hr ih
    rw [show (r + 1) * 16 = r * 16 + 16 from by omega] at ih
    refine br_f (bf_n16 hr) (bf_lp (fun m c => wX_pattern_11 post (wX_pattern_2 post a b wc n) a b (nI r) wc m (nI c) (bf_ov (bf_pt a b) (r * 16 + c) R) S B P C W) 16 (fun m => br_t bf_e16 (nm_r (nI_1 r) ih)) ?_)
    intro m c hc ih2
    refine br_f (bf_n16 hc) (nm_e ⟨?_, nm_r ?_ (nm_r (nI_1 c) ih2)⟩)
    · rw [bf_rc]; exact bf_in (by omega)
    · rw [bf_rc]
      refine bf_up (by omega) ?_
      unfold bf_pt
      rw [show (r * 16 + c) / 16 = r from by omega, show (r * 16 + c) % 16 = c from by omega])
  rw [show 0 * 16 = 0 from rfl, bf_ov0] at hn
  exact ⟨n, hn⟩
theorem bf_patY {post : SY → Prop} {a b : Int32} (h : post (bf_ov (bf_pt a b) 256 R, S, Re, Be, Ma)) : wpY_pattern post (R, S, Re, Be, Ma) a b := by
  obtain ⟨n, hn⟩ := bf_lp (fun n i => wY_pattern_2 post a b n (nI i) (bf_ov (bf_pt a b) i R) S Re Be Ma) 256 (fun n => br_t bf_e256 h) (by
    intro n i hi ih
    refine br_f (bf_n256 hi) ⟨bf_16, bf_16, bf_16, bf_16, bf_in hi, nm_r (bf_up hi ?_) (nm_r (nI_1 i) ih)⟩
    unfold bf_pt
    rw [bf_m16 hi, bf_d16 hi])
  rw [bf_ov0] at hn
  exact ⟨n, hn⟩
theorem bf_out {post : Int32 → Prop} {p : Int32} (m : Nat) (hm : m < 2 ^ 31) (h0 : ∀ a, a ≤ m → p = nI a → post 0) (h1 : (∀ a, a ≤ m → ¬ p = nI a) → post 1) : wpX_isOutside post p (nI m) := by
  by_cases e : p < 0
  · refine br_t e (h1 fun a ha z => ?_)
    rw [z] at e
    exact nI_pos (by omega) e
  · obtain ⟨j, hj, rfl⟩ := nI_of e
    refine br_f e (pk_le j m (fun z => h0 j z rfl) (fun z => h1 fun a ha y => ?_))
    rw [nI_eq hj (by omega)] at y
    omega
theorem bf_noPix {post : Int32 → Prop} {p q : Int32} (h0 : ∀ a b, a < 16 → b < 16 → p = nI a → q = nI b → post 0) (h1 : (∀ a b, a < 16 → b < 16 → p = nI a → ¬ q = nI b) → post 1) : wpX_isNoPixel post p q :=
  bf_out 15 (by decide) (fun a ha ea => br_t rfl (bf_out 15 (by decide) (fun b hb eb => br_t rfl (h0 a b (by omega) (by omega) ea eb)) (fun z => br_f (by decide) (h1 fun a' b' _ hb' _ => z b' (by omega))))) (fun z => br_f (by decide) (h1 fun a' b' ha' _ e _ => z a' (by omega) e))
theorem bf_pix {post : Int32 → Prop} {u : SY} {p q : Int32} (h1 : ∀ a b, a < 16 → b < 16 → p = nI a → q = nI b → post 1) (h0 : (∀ a b, a < 16 → b < 16 → p = nI a → ¬ q = nI b) → post 0) : wpY_isPixel post u p q := by
  obtain ⟨R, S, Re, Be, Ma⟩ := u
  refine br_c (fun e => h0 fun a b ha hb ea => ?_) (fun e => br_c (fun e2 => h0 fun a b ha hb ea => ?_) (fun e2 => br_c (fun e3 => h0 fun a b ha hb ea eb => ?_) (fun e3 => br_c (fun e4 => h0 fun a b ha hb ea eb => ?_) (fun e4 => ?_))))
  · rw [ea] at e
    exact absurd e (nI_pos (by omega))
  · rw [ea] at e2
    exact absurd e2 (bf_n16 ha)
  · rw [eb] at e3
    exact absurd e3 (nI_pos (by omega))
  · rw [eb] at e4
    exact absurd e4 (bf_n16 hb)
  · obtain ⟨a, ha, rfl⟩ := nI_of e
    obtain ⟨b, hb, rfl⟩ := nI_of e3
    have f (x : Nat) (hx : x < 2 ^ 31) (z : ¬ (16 : Int32) ≤ nI x) : x < 16 := by
      by_cases y : x < 16
      · exact y
      · exact absurd (nI_le (a := 16) (by omega) hx) z
    exact h1 a b (f a ha e2) (f b hb e4) rfl rfl
theorem bf_pixelX {post : Int32 → Prop} {p q : Int32} (h1 : ∀ a b, a < 16 → b < 16 → p = nI a → q = nI b → post (R (a * 16 + b))) (h0 : (∀ a b, a < 16 → b < 16 → p = nI a → ¬ q = nI b) → post (-1)) : wpX_pixel post (wc, R, S, B, P, C, W) p q := by
  unfold wpX_pixel
  dsimp only
  refine bf_noPix (fun a b ha hb ea eb => br_t rfl ?_) (fun z => br_f (by decide) (h0 z))
  have hi : a * 16 + b < 256 := by omega
  have h := h1 a b ha hb ea eb
  rw [ea, eb, bf_rc, bf_cl hi]
  exact ⟨bf_in hi, h⟩
theorem bf_pixelY {post : Int32 → Prop} {p q : Int32} (h1 : ∀ a b, a < 16 → b < 16 → p = nI a → q = nI b → post (R (a * 16 + b))) (h0 : (∀ a b, a < 16 → b < 16 → p = nI a → ¬ q = nI b) → post (-1)) : wpY_pixel post (R, S, Re, Be, Ma) p q := by
  unfold wpY_pixel
  dsimp only
  refine bf_pix (fun a b ha hb ea eb => br_f (by decide) ?_) (fun z => br_t rfl (h0 z))
  have hi : a * 16 + b < 256 := by omega
  have h := h1 a b ha hb ea eb
  rw [ea, eb, bf_rc, bf_cl hi]
  exact ⟨bf_in hi, h⟩
theorem bf_setX {post : Int32 → SX → Prop} {p q v : Int32} (h2 : ∀ a b c, a < 16 → b < 16 → c ≤ 255 → p = nI a → q = nI b → v = nI c → post (R (a * 16 + b)) (wc, upd R (a * 16 + b) v, S, B, P, C, W)) (h1 : ∀ a b, a < 16 → b < 16 → p = nI a → q = nI b → (∀ c, c ≤ 255 → ¬ v = nI c) → post (-2) (wc, R, S, B, P, C, W)) (h0 : (∀ a b, a < 16 → b < 16 → p = nI a → ¬ q = nI b) → post (-1) (wc, R, S, B, P, C, W)) : wpX_set post (wc, R, S, B, P, C, W) p q v := by
  unfold wpX_set
  dsimp only
  refine bf_noPix (fun a b ha hb ea eb => br_t rfl (bf_out 255 (by decide) (fun c hc ec => br_t rfl ?_) (fun z => br_f (by decide) (h1 a b ha hb ea eb z)))) (fun z => br_f (by decide) (h0 z))
  have hi : a * 16 + b < 256 := by omega
  have h := h2 a b c ha hb hc ea eb ec
  refine nm_r (e' := nI (a * 16 + b)) (by rw [ea, eb, bf_rc]) ⟨bf_in hi, nm_r (bf_r0 hi) ⟨bf_in hi, nm_r (e' := upd R (a * 16 + b) v) (by rw [bf_cl hi]) h⟩⟩
theorem bf_setY {post : Int32 → SY → Prop} {p q v : Int32} (h2 : ∀ a b c, a < 16 → b < 16 → c ≤ 255 → p = nI a → q = nI b → v = nI c → post (R (a * 16 + b)) (upd R (a * 16 + b) v, S, Re, Be, Ma)) (h1 : ∀ a b, a < 16 → b < 16 → p = nI a → q = nI b → (∀ c, c ≤ 255 → ¬ v = nI c) → post (-2) (R, S, Re, Be, Ma)) (h0 : (∀ a b, a < 16 → b < 16 → p = nI a → ¬ q = nI b) → post (-1) (R, S, Re, Be, Ma)) : wpY_set post (R, S, Re, Be, Ma) p q v := by
  unfold wpY_set
  dsimp only
  refine bf_pix (fun a b ha hb ea eb => br_f (by decide) (br_c (fun e => h1 a b ha hb ea eb fun c hc ec => ?_) (fun e => br_c (fun e2 => ?_) (fun e2 => h1 a b ha hb ea eb fun c hc ec => ?_)))) (fun z => br_t rfl (h0 z))
  · rw [ec] at e
    exact absurd e (nI_pos (by omega))
  · obtain ⟨c, hc, ec⟩ := nI_of e
    rw [ec] at e2
    have hc' : c ≤ 255 := (nI_leI (b := 255) hc (by decide)).mp e2
    have hi : a * 16 + b < 256 := by omega
    have h := h2 a b c ha hb hc' ea eb ec
    rw [ea, eb, bf_rc, bf_cl hi]
    exact ⟨bf_in hi, nm_e ⟨bf_in hi, nm_e h⟩⟩
  · rw [ec] at e2
    exact absurd (nI_le (b := 255) hc (by decide)) e2
end
end
section
-- own rows: the pure window
def bf_it {σ : Type} (f : Nat → σ → σ) : Nat → Nat → σ → σ
  | 0, _, s => s
  | d + 1, c, s => bf_it f d (c + 1) (f c s)
theorem bf_itA {σ : Type} (f : Nat → σ → σ) : ∀ d e c s, bf_it f (d + e) c s = bf_it f e (c + d) (bf_it f d c s) := by
  intro d
  induction d with
  | zero => intro e c s; rw [Nat.zero_add]; rfl
  | succ d ih =>
    intro e c s
    rw [show d + 1 + e = (d + e) + 1 from by omega]
    show bf_it f (d + e) (c + 1) (f c s) = bf_it f e (c + (d + 1)) (bf_it f d (c + 1) (f c s))
    rw [ih, show c + 1 + d = c + (d + 1) from by omega]
theorem bf_itI {σ : Type} (f : Nat → σ → σ) : ∀ d c s, (∀ j, c ≤ j → j < c + d → ∀ t, f j t = t) → bf_it f d c s = s := by
  intro d
  induction d with
  | zero => intro c s _; rfl
  | succ d ih =>
    intro c s h
    show bf_it f d (c + 1) (f c s) = s
    rw [h c (by omega) (by omega), ih (c + 1) s (fun j hj hj2 => h j (by omega) (by omega))]
theorem bf_itM {σ : Type} (f g : Nat → σ → σ) (m : Nat) : ∀ d c s, (∀ j, c ≤ j → j < c + d → ∀ t, f (j + m) t = g j t) → bf_it f d (c + m) s = bf_it g d c s := by
  intro d
  induction d with
  | zero => intro c s _; rfl
  | succ d ih =>
    intro c s h
    show bf_it f d (c + m + 1) (f (c + m) s) = bf_it g d (c + 1) (g c s)
    rw [h c (by omega) (by omega), show c + m + 1 = c + 1 + m from by omega, ih (c + 1) _ (fun j hj hj2 => h j (by omega) (by omega))]
/-- a walk over the whole width that skips what lies outside is a walk over the clipped width -/
theorem bf_clip {σ : Type} (F : Nat → σ → σ) (m a : Nat) (ha : a < 16) (s : σ) : bf_it (fun z s => if m ≤ z ∧ z < m + 16 then F (z - m) s else s) (2 * m + 1) a s = bf_it F (min (a + m) 15 + 1 - (a - m)) (a - m) s := by
  have e1 : 2 * m + 1 = (m - a) + ((min (a + m) 15 + 1 - (a - m)) + (a + m - 15)) := by omega
  rw [e1, bf_itA, bf_itA, bf_itI _ (m - a) a s (fun j h1 h2 t => if_neg (by omega))]
  rw [bf_itI _ (a + m - 15) _ _ (fun j h1 h2 t => if_neg (by omega))]
  rw [show a + (m - a) = (a - m) + m from by omega]
  refine bf_itM _ F m _ _ s (fun j h1 h2 t => ?_)
  show (if m ≤ j + m ∧ j + m < m + 16 then F (j + m - m) t else t) = F j t
  rw [if_pos (by omega), Nat.add_sub_cancel]
theorem bf_itQ {σ τ : Type} (f : Nat → σ → σ) (g : Nat → τ → τ) (Q : σ → τ → Prop) (h : ∀ j s t, Q s t → Q (f j s) (g j t)) : ∀ d c s t, Q s t → Q (bf_it f d c s) (bf_it g d c t) := by
  intro d
  induction d with
  | zero => intro c s t q; exact q
  | succ d ih => intro c s t q; exact ih (c + 1) _ _ (h c s t q)
theorem bf_itK {σ : Type} (f : Nat → σ → σ) (K : σ → Prop) (h : ∀ j s, K s → K (f j s)) : ∀ d c s, K s → K (bf_it f d c s) := by
  intro d
  induction d with
  | zero => intro c s q; exact q
  | succ d ih => intro c s q; exact ih (c + 1) _ (h c s q)
theorem bf_itH {σ : Type} (f : Nat → σ → σ) (K : σ → Prop) (h : ∀ j s, K s → K (f j s)) (a : Nat) (ha : ∀ s, K (f a s)) : ∀ d c s, c ≤ a → a < c + d → K (bf_it f d c s) := by
  intro d c s h1 h2
  rw [show d = (a - c) + ((d - (a - c) - 1) + 1) from by omega, bf_itA, show c + (a - c) = a from by omega]
  show K (bf_it f (d - (a - c) - 1) (a + 1) (f a (bf_it f (a - c) c s)))
  exact bf_itK f K h _ _ _ (ha _)
theorem bf_itG {σ : Type} (f : Nat → σ → σ) (K : σ → Prop) : ∀ d c s, (∀ j, c ≤ j → j < c + d → ∀ t, K t → K (f j t)) → K s → K (bf_it f d c s) := by
  intro d
  induction d with
  | zero => intro c s _ q; exact q
  | succ d ih => intro c s h q; exact ih (c + 1) _ (fun j h1 h2 => h j (by omega) (by omega)) (h c (by omega) (by omega) s q)
/-- greatest, least, total, count -/
abbrev bf_S4 : Type := Nat × Nat × Nat × Nat
def bf_st (v : Nat) (s : bf_S4) : bf_S4 := (if v ≤ s.1 then s.1 else v, if s.2.1 ≤ v then s.2.1 else v, s.2.2.1 + v, s.2.2.2 + 1)
def bf_row (p : Nat → Nat) (c0 dc r : Nat) (s : bf_S4) : bf_S4 := bf_it (fun c t => bf_st (p (r * 16 + c)) t) dc c0 s
def bf_win (p : Nat → Nat) (r0 dr c0 dc : Nat) (s : bf_S4) : bf_S4 := bf_it (fun r t => bf_row p c0 dc r t) dr r0 s
/-- a window's end -/
def bf_we (a m : Nat) : Nat := min (a + m) 15
def bf_ww (p : Nat → Nat) (row col w h : Nat) (s : bf_S4) : bf_S4 := bf_win p (row - h) (bf_we row h + 1 - (row - h)) (col - w) (bf_we col w + 1 - (col - w)) s
def bf_Q (v : Nat) (s t : bf_S4) : Prop := t.1 = max s.1 v ∧ t.2.1 = min s.2.1 v ∧ t.2.2 = s.2.2
theorem bf_Qs {v x : Nat} {s t : bf_S4} (h : bf_Q v s t) : bf_Q v (bf_st x s) (bf_st x t) := by
  obtain ⟨a, b, c, d⟩ := s
  obtain ⟨a', b', c', d'⟩ := t
  obtain ⟨h1, h2, h3⟩ := h
  simp only at h1 h2 h3
  cases h3
  refine ⟨?_, ?_, rfl⟩
  · show (if x ≤ a' then a' else x) = max (if x ≤ a then a else x) v
    split <;> split <;> omega
  · show (if b' ≤ x then b' else x) = min (if b ≤ x then b else x) v
    split <;> split <;> omega
def bf_K (v : Nat) (s : bf_S4) : Prop := v ≤ s.1 ∧ s.2.1 ≤ v
theorem bf_Ks {v x : Nat} {s : bf_S4} (h : bf_K v s) : bf_K v (bf_st x s) := by
  obtain ⟨a, b, c, d⟩ := s
  obtain ⟨h1, h2⟩ := h
  simp only at h1 h2
  refine ⟨?_, ?_⟩
  · show v ≤ (if x ≤ a then a else x)
    split <;> omega
  · show (if b ≤ x then b else x) ≤ v
    split <;> omega
theorem bf_Kh (v : Nat) (s : bf_S4) : bf_K v (bf_st v s) := by
  obtain ⟨a, b, c, d⟩ := s
  refine ⟨?_, ?_⟩
  · show v ≤ (if v ≤ a then a else v)
    split <;> omega
  · show (if b ≤ v then b else v) ≤ v
    split <;> omega
theorem bf_Qrow {v : Nat} (p : Nat → Nat) (c0 dc r : Nat) {s t : bf_S4} (q : bf_Q v s t) : bf_Q v (bf_row p c0 dc r s) (bf_row p c0 dc r t) :=
  bf_itQ (fun c t => bf_st (p (r * 16 + c)) t) (fun c t => bf_st (p (r * 16 + c)) t) (bf_Q v) (fun j s t q => bf_Qs q) dc c0 s t q
theorem bf_Qww {v : Nat} (p : Nat → Nat) (row col w h : Nat) {s t : bf_S4} (q : bf_Q v s t) : bf_Q v (bf_ww p row col w h s) (bf_ww p row col w h t) :=
  bf_itQ (fun r t => bf_row p (col - w) (bf_we col w + 1 - (col - w)) r t) (fun r t => bf_row p (col - w) (bf_we col w + 1 - (col - w)) r t) (bf_Q v) (fun j s t q => bf_Qrow p _ _ j q) _ _ s t q
theorem bf_Krow {v : Nat} (p : Nat → Nat) (c0 dc r : Nat) {s : bf_S4} (q : bf_K v s) : bf_K v (bf_row p c0 dc r s) :=
  bf_itK (fun c t => bf_st (p (r * 16 + c)) t) (bf_K v) (fun j s q => bf_Ks q) dc c0 s q
theorem bf_Khit (p : Nat → Nat) (c0 dc r c : Nat) (s : bf_S4) (h1 : c0 ≤ c) (h2 : c < c0 + dc) : bf_K (p (r * 16 + c)) (bf_row p c0 dc r s) :=
  bf_itH (fun c t => bf_st (p (r * 16 + c)) t) (bf_K (p (r * 16 + c))) (fun j s k => bf_Ks k) c (fun s => bf_Kh _ _) dc c0 s h1 h2
theorem bf_Kww (p : Nat → Nat) (row col w h : Nat) (hr : row < 16) (hc : col < 16) (s : bf_S4) : bf_K (p (row * 16 + col)) (bf_ww p row col w h s) :=
  bf_itH (fun r t => bf_row p (col - w) (bf_we col w + 1 - (col - w)) r t) (bf_K (p (row * 16 + col))) (fun j s k => bf_Krow p _ _ j k) row (fun s => bf_Khit p _ _ row col s (by omega) (by unfold bf_we; omega)) _ _ s (by omega) (by unfold bf_we; omega)
/-- from the centre's own value or from the bounds: the same -/
theorem bf_same {p : Nat → Nat} {row col w h : Nat} (hr : row < 16) (hc : col < 16) (hv : p (row * 16 + col) ≤ 255) : bf_ww p row col w h (p (row * 16 + col), p (row * 16 + col), 0, 0) = bf_ww p row col w h (0, 255, 0, 0) := by
  have q : bf_Q (p (row * 16 + col)) (bf_ww p row col w h (0, 255, 0, 0)) (bf_ww p row col w h (p (row * 16 + col), p (row * 16 + col), 0, 0)) := by
    refine bf_Qww p row col w h ⟨?_, ?_, rfl⟩
    · show p (row * 16 + col) = max 0 (p (row * 16 + col))
      omega
    · show p (row * 16 + col) = min 255 (p (row * 16 + col))
      omega
  have k := bf_Kww p row col w h hr hc (0, 255, 0, 0)
  generalize bf_ww p row col w h (0, 255, 0, 0) = s at q k
  generalize bf_ww p row col w h (p (row * 16 + col), p (row * 16 + col), 0, 0) = t at q
  obtain ⟨a, b, c⟩ := s
  obtain ⟨a', b', c'⟩ := t
  obtain ⟨h1, h2, h3⟩ := q
  obtain ⟨k1, k2⟩ := k
  simp only at h1 h2 h3 k1 k2
  rw [h3, h1, h2, show max a (p (row * 16 + col)) = a from by omega, show min b (p (row * 16 + col)) = b from by omega]
def bf_O (s : bf_S4) : Prop := s.1 ≤ 255 ∧ s.2.1 ≤ 255 ∧ s.2.2.1 ≤ 255 * s.2.2.2
theorem bf_Os {x : Nat} {s : bf_S4} (hx : x ≤ 255) (h : bf_O s) : bf_O (bf_st x s) := by
  obtain ⟨a, b, c, d⟩ := s
  obtain ⟨h1, h2, h3⟩ := h
  simp only at h1 h2 h3
  refine ⟨?_, ?_, ?_⟩
  · show (if x ≤ a then a else x) ≤ 255
    split <;> omega
  · show (if b ≤ x then b else x) ≤ 255
    split <;> omega
  · show c + x ≤ 255 * (d + 1)
    omega
theorem bf_Orow {p : Nat → Nat} (hp : ∀ j, j < 256 → p j ≤ 255) {c0 dc r : Nat} (hr : r < 16) (hc : c0 + dc ≤ 16) {s : bf_S4} (h : bf_O s) : bf_O (bf_row p c0 dc r s) :=
  bf_itG _ _ _ _ s (fun j h1 h2 t k => bf_Os (hp _ (by omega)) k) h
theorem bf_Oww {p : Nat → Nat} (hp : ∀ j, j < 256 → p j ≤ 255) (row col w h : Nat) (hr : row < 16) (hc : col < 16) {s : bf_S4} (o : bf_O s) : bf_O (bf_ww p row col w h s) :=
  bf_itG _ _ _ _ s (fun j h1 h2 t k => bf_Orow hp (by unfold bf_we at h2; omega) (by unfold bf_we; omega) k) o
theorem bf_Crow (p : Nat → Nat) (r : Nat) : ∀ d c s, (bf_row p c d r s).2.2.2 = s.2.2.2 + d := by
  intro d
  induction d with
  | zero => intro c s; rfl
  | succ d ih =>
    intro c s
    show (bf_row p (c + 1) d r (bf_st (p (r * 16 + c)) s)).2.2.2 = _
    rw [ih]
    show s.2.2.2 + 1 + d = _
    omega
theorem bf_Cwin (p : Nat → Nat) (c0 dc : Nat) : ∀ d r s, (bf_win p r d c0 dc s).2.2.2 = s.2.2.2 + d * dc := by
  intro d
  induction d with
  | zero => intro r s; show s.2.2.2 = _; omega
  | succ d ih =>
    intro r s
    show (bf_win p (r + 1) d c0 dc (bf_row p c0 dc r s)).2.2.2 = _
    rw [ih, bf_Crow, Nat.succ_mul]
    omega
theorem bf_Cww (p : Nat → Nat) (row col w h : Nat) (hr : row < 16) (hc : col < 16) : 0 < (bf_ww p row col w h (0, 255, 0, 0)).2.2.2 ∧ (bf_ww p row col w h (0, 255, 0, 0)).2.2.2 ≤ 256 := by
  have a : 0 < bf_we row h + 1 - (row - h) ∧ bf_we row h + 1 - (row - h) ≤ 16 := by unfold bf_we; omega
  have b : 0 < bf_we col w + 1 - (col - w) ∧ bf_we col w + 1 - (col - w) ≤ 16 := by unfold bf_we; omega
  unfold bf_ww
  rw [bf_Cwin]
  have m1 := Nat.mul_pos a.1 b.1
  have m2 := Nat.mul_le_mul a.2 b.2
  show 0 < 0 + _ ∧ 0 + _ ≤ 256
  omega
/-- what a filter takes of a window: 1 dilation, 2 erosion, 3 mean -/
def bf_val (k : Nat) (s : bf_S4) : Nat := if k = 1 then s.1 else if k = 2 then s.2.1 else s.2.2.1 / s.2.2.2
theorem bf_valO {k : Nat} {s : bf_S4} (o : bf_O s) : bf_val k s ≤ 255 := by
  obtain ⟨a, b, c⟩ := o
  unfold bf_val
  split
  · exact a
  · split
    · exact b
    · exact Nat.div_le_of_le_mul (by rw [Nat.mul_comm]; exact c)
/-- the raster's new value at i -/
def bf_pv (k : Nat) (p : Nat → Nat) (w h : Nat) (i : Nat) : Nat := bf_val k (bf_ww p (i / 16) (i % 16) w h (0, 255, 0, 0))
theorem bf_O0 : bf_O (0, 255, 0, 0) := by
  refine ⟨?_, ?_, ?_⟩ <;> decide
theorem bf_pvO {k : Nat} {p : Nat → Nat} (hp : ∀ j, j < 256 → p j ≤ 255) (w h : Nat) {i : Nat} (hi : i < 256) : bf_pv k p w h i ≤ 255 :=
  bf_valO (bf_Oww hp _ _ _ _ (by omega) (by omega) bf_O0)
end
section
-- own rows: the filters' walk in the component
section
variable {wc : Int32} {R S B P C W : Nat → Int32} {p : Nat → Nat}
theorem bf_wend {post : Int32 → Prop} {a b : Nat} (ha : a < 16) (hb : b ≤ 7) (h : post (nI (bf_we a b))) : wpX_windowEnd post (nI a) (nI b) := by
  refine pk_le 15 (a + b) (fun e => ?_) (fun e => ?_) (hy := nI_add a b)
  · rw [show bf_we a b = 15 from by unfold bf_we; omega] at h
    exact h
  · rw [show bf_we a b = a + b from by unfold bf_we; omega, ← nI_add] at h
    exact h
theorem bf_wstart {post : Int32 → Prop} {a b : Nat} (ha : a < 16) (hb : b ≤ 7) (h : post (nI (a - b))) : wpX_windowStart post (nI a) (nI b) := by
  refine pk_le a b (fun e => ?_) (fun e => ?_)
  · rw [show a - b = 0 from by omega] at h
    exact h
  · rw [← pk_sub (by omega)] at h
    exact h
abbrev bf_J (J : Int32 → Int32 → Int32 → Int32 → Int32 → Prop) (s : bf_S4) (x : Int32) : Prop := J (nI s.1) (nI s.2.1) (nI s.2.2.1) (nI s.2.2.2) x
theorem bf_x89 {post : Int32 → Prop} {J38 J53 : Int32 → Int32 → Int32 → Int32 → Int32 → Prop} {x1 x3 x4 x6 x7 x12 : Int32} {g l t k c v : Nat} (hl : l ≤ 255) (hv : v ≤ 255) (h : J53 (nI g) (nI (if l ≤ v then l else v)) (nI (t + v)) (nI (k + 1)) (nI (c + 1))) : wX_windowValue_89 post J38 J53 x1 x3 x4 x6 x7 (nI l) (nI t) (nI k) x12 (nI c) (nI v) (nI g) wc R S B P C W := by
  refine pk_le l v (fun e => ?_) (fun e => ?_)
  · rw [if_pos e] at h
    exact nm_r (nI_add t v) (nm_r (nI_1 k) (nm_r (nI_1 c) h))
  · rw [if_neg (by omega)] at h
    exact nm_r (nI_add t v) (nm_r (nI_1 k) (nm_r (nI_1 c) h))
theorem bf_x53 {post : Int32 → Prop} {J38 : Int32 → Int32 → Int32 → Int32 → Int32 → Prop} {x1 x3 x4 x6 : Int32} (hp : bf_V p P) {r c1 : Nat} (hr : r < 16) (hc1 : c1 < 16) : ∀ d c s, c + d = c1 + 1 → bf_O s → bf_J J38 (bf_row p c d r s) (nI (r + 1)) → bf_J (wX_windowValue_53 post J38 x1 x3 x4 x6 (nI c1) (nI r) wc R S B P C W (d + 1)) s (nI c) := by
  intro d
  induction d with
  | zero =>
    intro c s hc _ h
    exact br_t (nI_lt (by omega) (by omega)) (nm_r (nI_1 r) h)
  | succ d ih =>
    intro c s hc o h
    have hi : r * 16 + c < 256 := by omega
    obtain ⟨hv, ev⟩ := hp _ hi
    have st := ih (c + 1) (bf_st (p (r * 16 + c)) s) (by omega) (bf_Os hv o) h
    obtain ⟨g, l, t, k⟩ := s
    obtain ⟨hg, hl, ht⟩ := o
    dsimp only at hg hl ht
    unfold bf_J bf_st at st
    dsimp only at st
    refine br_f (nI_nlt (by omega) (by omega)) ⟨by rw [bf_rc]; exact bf_in hi, nm_r (e' := nI (p (r * 16 + c))) (by rw [bf_rc, bf_cl hi, ev]) (pk_le (p (r * 16 + c)) g (fun e => ?_) (fun e => ?_))⟩
    · rw [if_pos e] at st
      exact bf_x89 hl hv st
    · rw [if_neg (by omega)] at st
      exact bf_x89 hl hv st
theorem bf_x38 {post : Int32 → Prop} {kind col w r1 c1 : Nat} (hk : kind ≤ 3) (hp : bf_V p P) (hcol : col < 16) (hw : w ≤ 7) (hr1 : r1 < 16) (hc1 : c1 < 16) (hcc : col - w ≤ c1) : ∀ d r s, r + d = r1 + 1 → bf_O s → 0 < (bf_win p r d (col - w) (c1 + 1 - (col - w)) s).2.2.2 → (bf_win p r d (col - w) (c1 + 1 - (col - w)) s).2.2.2 ≤ 256 → post (nI (bf_val kind (bf_win p r d (col - w) (c1 + 1 - (col - w)) s))) → bf_J (wX_windowValue_38 post (nI kind) (nI col) (nI w) (nI r1) (nI c1) wc R S B P C W (d + 1)) s (nI r) := by
  intro d
  induction d with
  | zero =>
    intro r s hr o k0 k1 h
    change 0 < s.2.2.2 at k0
    change s.2.2.2 ≤ 256 at k1
    change post (nI (bf_val kind s)) at h
    unfold bf_val at h
    have ot := o.2.2
    refine br_t (nI_lt (by omega) (by omega)) (pk_eq kind 1 (fun e => ?_) (fun e => pk_eq kind 2 (fun e2 => ?_) (fun e2 => br_f (nI_nle k0 (by omega)) ⟨nI_ne0 k0 (by omega), ?_⟩)))
    · rw [if_pos e] at h
      exact h
    · rw [if_neg e, if_pos e2] at h
      exact h
    · rw [if_neg e, if_neg e2] at h
      rw [pk_div (by omega) k0 (by omega)]
      exact h
  | succ d ih =>
    intro r s hr o k0 k1 h
    refine br_f (nI_nlt (by omega) (by omega)) (bf_wstart hcol hw ⟨c1 + 1 - (col - w) + 1, bf_x53 hp (by omega) hc1 _ _ _ (by omega) o (ih (r + 1) _ (by omega) ?_ k0 k1 h)⟩)
    exact bf_Orow (fun j hj => (hp j hj).1) (by omega) (by omega) o
theorem bf_wv {post : Int32 → Prop} {kind row col w h : Nat} (hk : kind ≤ 3) (hp : bf_V p P) (hr : row < 16) (hc : col < 16) (hw : w ≤ 7) (hh : h ≤ 7) (q : post (nI (bf_val kind (bf_ww p row col w h (0, 255, 0, 0))))) : wpX_windowValue post (wc, R, S, B, P, C, W) (nI kind) (nI row) (nI col) (nI w) (nI h) := by
  have k := bf_Cww p row col w h hr hc
  unfold wpX_windowValue
  dsimp only
  refine bf_wend hr hh (bf_wend hc hw (bf_wstart hr hh ⟨bf_we row h + 1 - (row - h) + 1, ?_⟩))
  exact bf_x38 hk hp hc hw (by unfold bf_we; omega) (by unfold bf_we; omega) (by unfold bf_we; omega) (bf_we row h + 1 - (row - h)) (row - h) (0, 255, 0, 0) (by unfold bf_we; omega) bf_O0 k.1 k.2 q
theorem bf_pass {post : SX → Prop} {kind w h : Nat} (hk : kind ≤ 3) (hp : bf_V p R) (hw : w ≤ 7) (hh : h ≤ 7) (q : post (wc, bf_ov (fun j => nI (bf_pv kind p w h j)) 256 R, S, B, bf_ov R 256 P, C, W)) : wpX_pass post (wc, R, S, B, P, C, W) (nI kind) (nI w) (nI h) := by
  unfold wpX_pass
  dsimp only
  refine bf_copyP ?_
  dsimp only
  have hP : bf_V p (bf_ov R 256 P) := fun j hj => by rw [bf_lo hj]; exact hp j hj
  obtain ⟨n, hn⟩ := bf_lp (fun n r => wX_pass_14 post (nI kind) (nI w) (nI h) wc n (nI r) (bf_ov (fun j => nI (bf_pv kind p w h j)) (r * 16) R) S B (bf_ov R 256 P) C W) 16 (fun n => br_t bf_e16 q) (by
    intro n r hr ih
    rw [show (r + 1) * 16 = r * 16 + 16 from by omega] at ih
    refine br_f (bf_n16 hr) (bf_lp (fun m c => wX_pass_24 post (wX_pass_14 post (nI kind) (nI w) (nI h) wc n) (nI kind) (nI w) (nI h) (nI r) wc m (nI c) (bf_ov (fun j => nI (bf_pv kind p w h j)) (r * 16 + c) R) S B (bf_ov R 256 P) C W) 16 (fun m => br_t bf_e16 (nm_r (nI_1 r) ih)) ?_)
    intro m c hc ih2
    refine br_f (bf_n16 hc) (bf_wv hk hP hr hc hw hh ⟨?_, nm_r ?_ (nm_r (nI_1 c) ih2)⟩)
    · rw [bf_rc]; exact bf_in (by omega)
    · rw [bf_rc]
      refine bf_up (by omega) ?_
      show _ = nI (bf_pv kind p w h (r * 16 + c))
      unfold bf_pv
      rw [show (r * 16 + c) / 16 = r from by omega, show (r * 16 + c) % 16 = c from by omega])
  rw [show 0 * 16 = 0 from rfl, bf_ov0] at hn
  exact ⟨n, hn⟩
/-- the raster after one pass, and after one or two -/
def bf_r1 (k : Nat) (p : Nat → Nat) (w h : Nat) (R : Nat → Int32) : Nat → Int32 := bf_ov (fun j => nI (bf_pv k p w h j)) 256 R
def bf_fin (k1 k2 : Nat) (p : Nat → Nat) (w h : Nat) (R : Nat → Int32) : Nat → Int32 := if k2 = 0 then bf_r1 k1 p w h R else bf_r1 k2 (bf_pv k1 p w h) w h (bf_r1 k1 p w h R)
theorem bf_r1V {k : Nat} {w h : Nat} (hp : bf_V p R) : bf_V (bf_pv k p w h) (bf_r1 k p w h R) := fun j hj => ⟨bf_pvO (fun i hi => (hp i hi).1) w h hj, by unfold bf_r1; rw [bf_lo hj]⟩
theorem bf_finV {k1 k2 : Nat} {w h : Nat} (hp : bf_V p R) : ∃ q, bf_V q (bf_fin k1 k2 p w h R) := by
  unfold bf_fin
  split
  · exact ⟨_, bf_r1V hp⟩
  · exact ⟨_, bf_r1V (bf_r1V hp)⟩
theorem bf_dcn {F R B : Nat → Int32} : bf_cn (fun j => ¬ F j = bf_ov R 256 B j) 256 = bf_cn (fun j => ¬ F j = R j) 256 := bf_cnc 256 fun j hj => by rw [bf_lo hj]
theorem bf_f53 {post : Int32 → SX → Prop} {F : Nat → Int32} (q : post (nI (bf_cn (fun j => ¬ F j = R j) 256)) (wc, F, S, bf_ov R 256 B, P, C, W)) : wX_filter_53 post wc F S (bf_ov R 256 B) P C W := by
  rw [← bf_dcn (B := B)] at q
  exact bf_diffB q
theorem bf_filX {post : Int32 → SX → Prop} {k1 k2 : Nat} (hk1 : k1 ≤ 3) (hk2 : k2 ≤ 3) {x y : Int32} (hp : bf_V p R) (q : ∀ w h, w ≤ 7 → h ≤ 7 → x = nI w → y = nI h → ∀ B' P', post (nI (bf_cn (fun j => ¬ bf_fin k1 k2 p w h R j = R j) 256)) (wc, bf_fin k1 k2 p w h R, S, B', P', C, W)) (z : (∀ w h, w ≤ 7 → h ≤ 7 → x = nI w → ¬ y = nI h) → post (-3) (wc, R, S, B, P, C, W)) : wpX_filter post (wc, R, S, B, P, C, W) (nI k1) (nI k2) x y := by
  unfold wpX_filter
  dsimp only
  refine bf_out 7 (by decide) (fun w hw ew => br_t rfl ?_) (fun e => br_f (by decide) (z fun w h hw _ ew _ => e w hw ew))
  refine bf_out 7 (by decide) (fun h hh eh => br_t rfl ?_) (fun e => br_f (by decide) (z fun w h _ hh _ eh => e h hh eh))
  have q' := q w h hw hh ew eh
  subst ew eh
  refine bf_copyB ?_
  dsimp only
  refine bf_pass hk1 hp hw hh ?_
  dsimp only
  unfold bf_fin at q'
  refine pk_eq k2 0 (fun e => ?_) (fun e => ?_)
  · rw [if_pos e] at q'
    exact bf_f53 (q' _ _)
  · rw [if_neg e] at q'
    refine bf_pass hk2 (bf_r1V hp) hw hh ?_
    dsimp only
    exact bf_f53 (q' _ _)
end
end
section
-- own rows: the filters' walk in the reference
def bf_cy (p : Nat → Nat) (w h y z : Nat) (s : bf_S4) : bf_S4 := if h ≤ y ∧ y < h + 16 then (if w ≤ z ∧ z < w + 16 then bf_st (p ((y - h) * 16 + (z - w))) s else s) else s
def bf_ry (p : Nat → Nat) (w h col y : Nat) (s : bf_S4) : bf_S4 := bf_it (bf_cy p w h y) (2 * w + 1) col s
theorem bf_ryE (p : Nat → Nat) (w h col : Nat) (hc : col < 16) (y : Nat) (s : bf_S4) : bf_ry p w h col y s = if h ≤ y ∧ y < h + 16 then bf_row p (col - w) (bf_we col w + 1 - (col - w)) (y - h) s else s := by
  by_cases e : h ≤ y ∧ y < h + 16
  · rw [if_pos e]
    unfold bf_ry
    have q : bf_cy p w h y = fun z s => if w ≤ z ∧ z < w + 16 then (fun c t => bf_st (p ((y - h) * 16 + c)) t) (z - w) s else s := by
      funext z s
      unfold bf_cy
      rw [if_pos e]
    rw [q]
    exact bf_clip (fun c t => bf_st (p ((y - h) * 16 + c)) t) w col hc s
  · rw [if_neg e]
    exact bf_itI _ _ _ _ (fun j _ _ t => if_neg e)
theorem bf_wyE (p : Nat → Nat) (w h row col : Nat) (hr : row < 16) (hc : col < 16) (s : bf_S4) : bf_it (bf_ry p w h col) (2 * h + 1) row s = bf_ww p row col w h s := by
  have q : bf_ry p w h col = fun y s => if h ≤ y ∧ y < h + 16 then (fun r t => bf_row p (col - w) (bf_we col w + 1 - (col - w)) r t) (y - h) s else s := by
    funext y s
    exact bf_ryE p w h col hc y s
  rw [q]
  exact bf_clip (fun r t => bf_row p (col - w) (bf_we col w + 1 - (col - w)) r t) h row hr s
theorem bf_cyO {p : Nat → Nat} (hp : ∀ j, j < 256 → p j ≤ 255) {w h y z : Nat} {s : bf_S4} (o : bf_O s) : bf_O (bf_cy p w h y z s) := by
  unfold bf_cy
  split
  · split
    · exact bf_Os (hp _ (by omega)) o
    · exact o
  · exact o
theorem bf_ryO {p : Nat → Nat} (hp : ∀ j, j < 256 → p j ≤ 255) {w h col y : Nat} {s : bf_S4} (o : bf_O s) : bf_O (bf_ry p w h col y s) := bf_itK _ _ (fun _ _ o => bf_cyO hp o) _ _ _ o
theorem bf_sT {a b : Nat} (ha : a < 2 ^ 30) (hb : b < 2 ^ 30) : (nI a - nI b).toInt = (a : Int) - b := pk_sub_toInt ha hb
theorem bf_lts {q z w : Nat} (hq : q < 2 ^ 30) (hz : z < 2 ^ 30) (hw : w < 2 ^ 30) : nI q < nI z - nI w ↔ q + w < z := by
  rw [Int32.lt_iff_toInt_lt, bf_sT hz hw, nI_toInt (by omega)]
  omega
theorem bf_s1 (z w : Nat) : nI z - nI w + 1 = nI (z + 1) - nI w := by
  rw [nI_succ]
  generalize nI z = a
  generalize nI w = b
  grind
theorem bf_seq {y h a : Nat} (hy : y < 2 ^ 30) (hh : h < 2 ^ 30) (ha : a < 2 ^ 30) (e : nI y - nI h = nI a) : y = a + h := by
  have t := congrArg Int32.toInt e
  rw [bf_sT hy hh, nI_toInt (by omega)] at t
  omega
section
variable {R S Re Be Ma : Nat → Int32} {p : Nat → Nat}
theorem bf_y99 {post : Int32 → Prop} {J31 J51 : Int32 → Int32 → Int32 → Int32 → Int32 → Prop} {x1 x2 x3 x4 x9 x10 : Int32} {g l t k v : Nat} (hl : l ≤ 255) (hv : v ≤ 255) (h : J51 (nI g) (nI (if l ≤ v then l else v)) (nI (t + v)) (nI (k + 1)) (x10 + 1)) : wY_look_99 post J31 J51 x1 x2 x3 x4 (nI g) (nI l) (nI t) (nI k) x9 x10 (nI v) R S Re Be Ma := by
  refine pk_le l v (fun e => ?_) (fun e => ?_)
  · rw [if_pos e] at h
    exact nm_r (nI_add t v) (nm_r (nI_1 k) (nm_e h))
  · rw [if_neg (by omega)] at h
    exact nm_r (nI_add t v) (nm_r (nI_1 k) (nm_e h))
theorem bf_y51 {post : Int32 → Prop} {J31 : Int32 → Int32 → Int32 → Int32 → Int32 → Prop} {x1 : Int32} (hp : bf_V p R) {i y w h : Nat} (hi : i < 256) (hw : w ≤ 7) (hh : h ≤ 7) (hy : y < 1000) : ∀ d z s, z + d = i % 16 + (2 * w + 1) → bf_O s → bf_J J31 (bf_it (bf_cy p w h y) d z s) (nI (y + 1) - nI h) → bf_J (wY_look_51 post J31 x1 (nI i) (nI w) (nI h) (nI y - nI h) R S Re Be Ma (d + 1)) s (nI z - nI w) := by
  intro d
  induction d with
  | zero =>
    intro z s hz o q
    refine ⟨bf_16, br_t ?_ (nm_r (bf_s1 y h) q)⟩
    rw [bf_m16 hi, nI_add, bf_lts (by omega) (by omega) (by omega)]
    omega
  | succ d ih =>
    intro z s hz o q
    have st := ih (z + 1) (bf_cy p w h y z s) (by omega) (bf_cyO (fun j hj => (hp j hj).1) o) q
    rw [← bf_s1] at st
    refine ⟨bf_16, br_f ?_ (bf_pix (fun a b ha hb ea eb => br_f (by decide) ?_) (fun no => br_t rfl (nm_e ?_)))⟩
    · rw [bf_m16 hi, nI_add, bf_lts (by omega) (by omega) (by omega)]
      omega
    · have e1 := bf_seq (by omega) (by omega) (by omega) ea
      have e2 := bf_seq (by omega) (by omega) (by omega) eb
      have ab : a * 16 + b < 256 := by omega
      obtain ⟨hv, ev⟩ := hp _ ab
      unfold bf_cy at st
      rw [if_pos (by omega), if_pos (by omega), show y - h = a from by omega, show z - w = b from by omega] at st
      obtain ⟨g, l, t, k⟩ := s
      obtain ⟨hg, hl, ht⟩ := o
      dsimp only at hg hl ht
      unfold bf_J bf_st at st
      dsimp only at st
      refine ⟨by rw [ea, eb, bf_rc]; exact bf_in ab, nm_r (e' := nI (p (a * 16 + b))) (by rw [ea, eb, bf_rc, bf_cl ab, ev]) (pk_le (p (a * 16 + b)) g (fun e => ?_) (fun e => ?_))⟩
      · rw [if_pos e] at st
        exact bf_y99 hl hv st
      · rw [if_neg (by omega)] at st
        exact bf_y99 hl hv st
    · have e : bf_cy p w h y z s = s := by
        unfold bf_cy
        split
        · split
          · exact absurd (pk_sub (by omega)) (no (y - h) (z - w) (by omega) (by omega) (pk_sub (by omega)))
          · rfl
        · rfl
      rw [e] at st
      exact st
theorem bf_y31 {post : Int32 → Prop} (hp : bf_V p R) {f i w h : Nat} (hf : f ≤ 2) (hi : i < 256) (hw : w ≤ 7) (hh : h ≤ 7) : ∀ d y s, y + d = i / 16 + (2 * h + 1) → bf_O s → 0 < (bf_it (bf_ry p w h (i % 16)) d y s).2.2.2 → (bf_it (bf_ry p w h (i % 16)) d y s).2.2.2 ≤ 256 → post (nI (bf_val (f + 1) (bf_it (bf_ry p w h (i % 16)) d y s))) → bf_J (wY_look_31 post (nI f) (nI i) (nI w) (nI h) R S Re Be Ma (d + 1)) s (nI y - nI h) := by
  intro d
  induction d with
  | zero =>
    intro y s hy o k0 k1 q
    change 0 < s.2.2.2 at k0
    change s.2.2.2 ≤ 256 at k1
    change post (nI (bf_val (f + 1) s)) at q
    unfold bf_val at q
    have ot := o.2.2
    refine ⟨bf_16, br_t ?_ (pk_eq f 0 (fun e => ?_) (fun e => pk_eq f 1 (fun e2 => ?_) (fun e2 => ⟨nI_ne0 k0 (by omega), ?_⟩)))⟩
    · rw [bf_d16 hi, nI_add, bf_lts (by omega) (by omega) (by omega)]
      omega
    · rw [if_pos (by omega)] at q
      exact q
    · rw [if_neg (by omega), if_pos (by omega)] at q
      exact q
    · rw [if_neg (by omega), if_neg (by omega)] at q
      rw [pk_div (by omega) k0 (by omega)]
      exact q
  | succ d ih =>
    intro y s hy o k0 k1 q
    refine ⟨bf_16, br_f ?_ ⟨bf_16, nm_r (e' := nI (i % 16) - nI w) (by rw [bf_m16 hi]) ⟨2 * w + 1 + 1, bf_y51 hp hi hw hh (by omega) _ _ _ rfl o (ih (y + 1) _ (by omega) ?_ k0 k1 q)⟩⟩⟩
    · rw [bf_d16 hi, nI_add, bf_lts (by omega) (by omega) (by omega)]
      omega
    · exact bf_ryO (fun j hj => (hp j hj).1) o
theorem bf_look {post : Int32 → Prop} (hp : bf_V p R) {f i w h : Nat} (hf : f ≤ 2) (hi : i < 256) (hw : w ≤ 7) (hh : h ≤ 7) (q : post (nI (bf_pv (f + 1) p w h i))) : wpY_look post (R, S, Re, Be, Ma) (nI f) (nI i) (nI w) (nI h) := by
  obtain ⟨hv, ev⟩ := hp i hi
  have k := bf_Cww p (i / 16) (i % 16) w h (by omega) (by omega)
  have ii : i / 16 * 16 + i % 16 = i := by omega
  have same := bf_same (p := p) (row := i / 16) (col := i % 16) (w := w) (h := h) (by omega) (by omega) (by rw [ii]; exact hv)
  rw [ii] at same
  unfold bf_pv at q
  rw [← same, ← bf_wyE _ _ _ _ _ (by omega) (by omega)] at q k
  have e0 : R (nI i).toNatClampNeg = nI (p i) := by rw [bf_cl hi, ev]
  refine ⟨bf_in hi, nm_r e0 ⟨bf_in hi, nm_r e0 ⟨bf_16, nm_r (e' := nI (i / 16) - nI h) (by rw [bf_d16 hi]) ⟨2 * h + 1 + 1, ?_⟩⟩⟩⟩
  exact bf_y31 hp hf hi hw hh _ _ (p i, p i, 0, 0) rfl ⟨hv, hv, by show 0 ≤ 255 * 0; omega⟩ k.1 k.2 q
theorem bf_carry {post : SY → Prop} (hp : bf_V p R) {f w h : Nat} (hf : f ≤ 2) (hw : w ≤ 7) (hh : h ≤ 7) (q : ∀ Re', post (bf_r1 (f + 1) p w h R, S, Re', Be, Ma)) : wpY_carryOut post (R, S, Re, Be, Ma) (nI f) (nI w) (nI h) := by
  have q2 := q (bf_ov (fun j => nI (bf_pv (f + 1) p w h j)) 256 Re)
  unfold bf_r1 at q2
  rw [← bf_ovv (f2 := Re)] at q2
  obtain ⟨n, hn⟩ := bf_lp (fun n i => wY_carryOut_3 post (nI f) (nI w) (nI h) n (nI i) R S (bf_ov (fun j => nI (bf_pv (f + 1) p w h j)) i Re) Be Ma) 256 (fun n => br_t bf_e256 (by
    obtain ⟨m, hm⟩ := bf_lp (fun n i => wY_carryOut_36 post n (nI i) (bf_ov (bf_ov (fun j => nI (bf_pv (f + 1) p w h j)) 256 Re) i R) S (bf_ov (fun j => nI (bf_pv (f + 1) p w h j)) 256 Re) Be Ma) 256 (fun n => br_t bf_e256 q2) (fun n i hi ih => br_f (bf_n256 hi) ⟨bf_in hi, bf_in hi, nm_r (bf_up hi (bf_r0 hi)) (nm_r (nI_1 i) ih)⟩)
    rw [bf_ov0] at hm
    exact ⟨m, hm⟩)) (fun n i hi ih => br_f (bf_n256 hi) (bf_look hp hf hi hw hh ⟨bf_in hi, nm_r (bf_up hi rfl) (nm_r (nI_1 i) ih)⟩))
  rw [bf_ov0] at hn
  exact ⟨n, hn⟩
theorem bf_filY {post : Int32 → SY → Prop} {f1 k2 : Nat} (hf1 : f1 ≤ 2) {x2 : Int32} (hx2 : (x2 < 0 ∧ k2 = 0) ∨ (∃ f2, f2 ≤ 2 ∧ x2 = nI f2 ∧ k2 = f2 + 1)) {x y : Int32} (hp : bf_V p R) (q : ∀ w h, w ≤ 7 → h ≤ 7 → x = nI w → y = nI h → ∀ Re' Be', post (nI (bf_cn (fun j => ¬ bf_fin (f1 + 1) k2 p w h R j = R j) 256)) (bf_fin (f1 + 1) k2 p w h R, S, Re', Be', Ma)) (z : (∀ w h, w ≤ 7 → h ≤ 7 → x = nI w → ¬ y = nI h) → post (-3) (R, S, Re, Be, Ma)) : wpY_filter post (R, S, Re, Be, Ma) (nI f1) x2 x y := by
  have neg (c : Int32) (v : Nat) (hv : v ≤ 7) (e : c = nI v) (lt : c < 0) : False := by
    rw [e] at lt
    exact nI_pos (by omega) lt
  have big (c : Int32) (v : Nat) (hv : v ≤ 7) (e : c = nI v) : c ≤ 7 := by
    rw [e]
    exact nI_le (b := 7) hv (by decide)
  refine br_c (fun e => z fun w h hw hh ew eh => neg x w hw ew e) (fun e1 => br_c (fun e => z fun w h hw hh ew eh => Int32.not_le.mpr e (big x w hw ew)) (fun e2 => br_c (fun e => z fun w h hw hh ew eh => neg y h hh eh e) (fun e3 => br_c (fun e4 => ?_) (fun e => z fun w h hw hh ew eh => e (big y h hh eh)))))
  obtain ⟨w, hw, ew⟩ := nI_of e1
  obtain ⟨h, hh, eh⟩ := nI_of e3
  have hw7 : w ≤ 7 := by
    have t := Int32.not_lt.mp e2
    rw [ew] at t
    exact (nI_leI (b := 7) hw (by decide)).mp t
  have hh7 : h ≤ 7 := by
    rw [eh] at e4
    exact (nI_leI (b := 7) hh (by decide)).mp e4
  have q' := q w h hw7 hh7 ew eh
  subst ew eh
  unfold bf_fin at q'
  obtain ⟨n, hn⟩ := bf_lp (fun n i => wY_filter_28 post (nI f1) x2 (nI w) (nI h) n (nI i) R S Re (bf_ov R i Be) Ma) 256 (fun n => br_t bf_e256 (by
    refine bf_carry hp hf1 hw7 hh7 (fun Re1 => ?_)
    dsimp only
    obtain ⟨neg2, hk2⟩ | ⟨f2, hf2, rfl, hk2⟩ := hx2
    · rw [if_pos hk2] at q'
      refine br_t neg2 (bf_diffY ?_)
      rw [bf_dcn]
      exact q' _ _
    · rw [if_neg (by omega), hk2] at q'
      refine br_f (nI_pos (by omega)) (bf_carry (bf_r1V hp) hf2 hw7 hh7 (fun Re2 => ?_))
      dsimp only
      refine bf_diffY ?_
      rw [bf_dcn]
      exact q' _ _)) (fun n i hi ih => br_f (bf_n256 hi) ⟨bf_in hi, bf_in hi, nm_r (bf_up hi (bf_r0 hi)) (nm_r (nI_1 i) ih)⟩)
  rw [bf_ov0] at hn
  exact ⟨n, hn⟩
end
end
section
-- own rows: connection of bright cells, pure
def bf_adj (i j : Nat) : Prop := i < 256 ∧ j < 256 ∧ ((j + 1 = i ∧ 0 < i % 16) ∨ (i + 1 = j ∧ i % 16 < 15) ∨ j + 16 = i ∨ i + 16 = j)
theorem bf_adjS {i j : Nat} (h : bf_adj i j) : bf_adj j i := by
  unfold bf_adj at h ⊢
  omega
def bf_clo (G T : Nat → Prop) : Prop := ∀ i j, T i → bf_adj i j → G j → T j
/-- j lies in every closed set that holds i -/
def bf_con (G : Nat → Prop) (i j : Nat) : Prop := ∀ T : Nat → Prop, bf_clo G T → T i → T j
theorem bf_conR {G : Nat → Prop} (i : Nat) : bf_con G i i := fun _ _ h => h
theorem bf_conT {G : Nat → Prop} {i j k : Nat} (h1 : bf_con G i j) (h2 : bf_con G j k) : bf_con G i k := fun T c h => h2 T c (h1 T c h)
theorem bf_con1 {G : Nat → Prop} {i j : Nat} (a : bf_adj i j) (g : G j) : bf_con G i j := fun _ c h => c i j h a g
theorem bf_conS {G : Nat → Prop} {i j : Nat} (gi : G i) (h : bf_con G i j) : bf_con G j i :=
  (h (fun k => G k ∧ bf_con G k i) (fun k l t a g => ⟨g, bf_conT (bf_con1 (bf_adjS a) t.1) t.2⟩) ⟨gi, bf_conR i⟩).2
theorem bf_conG {G : Nat → Prop} {i j : Nat} (gi : G i) (h : bf_con G i j) : G j := h G (fun _ _ _ _ g => g) gi
theorem bf_conB {G : Nat → Prop} {i j : Nat} (gi : i < 256) (h : bf_con G i j) : j < 256 := h (fun k => k < 256) (fun _ _ _ a _ => a.2.1) gi
/-- the first cell of its patch -/
def bf_root (G : Nat → Prop) (i : Nat) : Prop := G i ∧ ∀ k, k < i → G k → ¬ bf_con G k i
theorem bf_cnlt {p : Nat → Prop} : ∀ n j, j < n → ¬ p j → bf_cn p n < n := by
  intro n
  induction n with
  | zero => intro j h; omega
  | succ n ih =>
    intro j h z
    by_cases e : j = n
    · subst e
      rw [bf_cnf z]
      have := bf_cnle p j
      omega
    · have := ih j (by omega) z
      by_cases y : p n
      · rw [bf_cnt y]; omega
      · rw [bf_cnf y]; omega
theorem bf_cnup {p q : Nat → Prop} {j : Nat} (hj : ¬ p j) (hq : ∀ k, q k ↔ (p k ∨ k = j)) : ∀ n, j < n → bf_cn q n = bf_cn p n + 1 := by
  intro n
  induction n with
  | zero => intro h; omega
  | succ n ih =>
    intro h
    by_cases e : j = n
    · subst e
      rw [bf_cnt ((hq j).mpr (Or.inr rfl)), bf_cnf hj, bf_cnc (p := q) (q := p) j fun k hk => by
        rw [hq k]
        constructor
        · rintro (h | h)
          · exact h
          · omega
        · exact Or.inl]
    · have i := ih (by omega)
      by_cases y : p n
      · rw [bf_cnt y, bf_cnt ((hq n).mpr (Or.inl y)), i]
      · rw [bf_cnf y, bf_cnf (fun z => (hq n).mp z |>.elim y (fun z => e z.symm)), i]
/-- sums of naturals below n -/
def bf_su (f : Nat → Nat) : Nat → Nat
  | 0 => 0
  | n + 1 => bf_su f n + f n
theorem bf_suc {f g : Nat → Nat} : ∀ n, (∀ k, k < n → g k = f k) → bf_su g n = bf_su f n := by
  intro n
  induction n with
  | zero => intro _; rfl
  | succ n ih =>
    intro h
    show bf_su g n + g n = bf_su f n + f n
    rw [ih (fun k hk => h k (by omega)), h n (by omega)]
theorem bf_sul {f g : Nat → Nat} {i : Nat} (hi : g i < f i) (ho : ∀ k, k ≠ i → g k = f k) : ∀ n, i < n → bf_su g n < bf_su f n := by
  intro n
  induction n with
  | zero => intro h; omega
  | succ n ih =>
    intro h
    show bf_su g n + g n < bf_su f n + f n
    by_cases e : i = n
    · subst e
      rw [bf_suc i (fun k hk => ho k (by omega))]
      omega
    · rw [ho n (by omega)]
      have := ih (by omega)
      omega
end
section
-- own rows: patches in the component
theorem bf_b1 : vp_nar .boolean 1 = 1 := by
  show ((1 : Int32) &&& 1) = 1
  decide
theorem bf_b0 : vp_nar .boolean 0 = 0 := by
  show ((0 : Int32) &&& 1) = 0
  decide
/-- bright -/
def bf_G (R : Nat → Int32) (j : Nat) : Prop := ¬ R j ≤ 0
/-- the queue holds m cells of s's patch, the reached are those of D and the queue's -/
def bf_B (G D : Nat → Prop) (s m : Nat) (C W : Nat → Int32) : Prop :=
  m ≤ bf_cn (fun j => ¬ C j = 0) 256 ∧ (∀ j, j < 256 → ¬ C j = 0 → D j ∨ ∃ t, t < m ∧ W t = nI j) ∧ (∀ j, j < 256 → D j → ¬ C j = 0) ∧ (∀ t, t < m → ∃ j, j < 256 ∧ W t = nI j ∧ bf_con G s j ∧ ¬ C j = 0)
def bf_E (m : Nat) (C W : Nat → Int32) (m' : Nat) (C' W' : Nat → Int32) : Prop := m ≤ m' ∧ (∀ j, ¬ C j = 0 → ¬ C' j = 0) ∧ (∀ t, t < m → W' t = W t)
theorem bf_ER (m : Nat) (C W : Nat → Int32) : bf_E m C W m C W := ⟨Nat.le_refl m, fun _ h => h, fun _ _ => rfl⟩
theorem bf_ET {m m1 m2 : Nat} {C W C1 W1 C2 W2 : Nat → Int32} (h : bf_E m C W m1 C1 W1) (h2 : bf_E m1 C1 W1 m2 C2 W2) : bf_E m C W m2 C2 W2 :=
  ⟨Nat.le_trans h.1 h2.1, fun j z => h2.2.1 j (h.2.1 j z), fun t ht => (h2.2.2 t (Nat.lt_of_lt_of_le ht h.1)).trans (h.2.2 t ht)⟩
section
variable {wc : Int32} {R S B P C W : Nat → Int32} {D : Nat → Prop}
theorem bf_Bm {s m : Nat} (I : bf_B (bf_G R) D s m C W) : m ≤ 256 := Nat.le_trans I.1 (bf_cnle _ 256)
theorem bf_Bput {s m i : Nat} (I : bf_B (bf_G R) D s m C W) (hi : i < 256) (hc : bf_con (bf_G R) s i) (z : C i = 0) : bf_B (bf_G R) D s (m + 1) (upd C i 1) (upd W m (nI i)) ∧ bf_E m C W (m + 1) (upd C i 1) (upd W m (nI i)) ∧ ¬ upd C i 1 i = 0 := by
  obtain ⟨i1, i2, i3, i4⟩ := I
  have ne : ¬ upd C i 1 i = 0 := by rw [pk_us]; decide
  have mono : ∀ j, ¬ C j = 0 → ¬ upd C i 1 j = 0 := by
    intro j h
    by_cases e : j = i
    · rw [e]; exact ne
    · rw [pk_un e]; exact h
  have back : ∀ j, ¬ upd C i 1 j = 0 → ¬ C j = 0 ∨ j = i := by
    intro j h
    by_cases e : j = i
    · exact Or.inr e
    · rw [pk_un e] at h; exact Or.inl h
  have wo : ∀ t, t < m → upd W m (nI i) t = W t := fun t ht => pk_un (by omega)
  refine ⟨⟨?_, ?_, ?_, ?_⟩, ⟨by omega, mono, wo⟩, ne⟩
  · rw [bf_cnup (p := fun j => ¬ C j = 0) (q := fun j => ¬ upd C i 1 j = 0) (j := i) (fun h => h z) (fun k => ⟨back k, fun h => h.elim (mono k) (fun e => by rw [e]; exact ne)⟩) 256 hi]
    omega
  · intro j hj h
    rcases back j h with h | h
    · rcases i2 j hj h with h | ⟨t, ht, e⟩
      · exact Or.inl h
      · exact Or.inr ⟨t, by omega, by rw [wo t ht]; exact e⟩
    · exact Or.inr ⟨m, by omega, by rw [pk_us, h]⟩
  · intro j hj h
    exact mono j (i3 j hj h)
  · intro t ht
    by_cases e : t = m
    · exact ⟨i, hi, by rw [e, pk_us], hc, ne⟩
    · obtain ⟨j, hj, e2, c, r⟩ := i4 t (by omega)
      exact ⟨j, hj, by rw [wo t (by omega)]; exact e2, c, mono j r⟩
theorem bf_reach {post : SX → Prop} {s m : Nat} {x y : Int32} (I : bf_B (bf_G R) D s m C W) (hc : ∀ a b, a < 16 → b < 16 → x = nI a → y = nI b → bf_G R (a * 16 + b) → bf_con (bf_G R) s (a * 16 + b)) (h : ∀ m' C' W', bf_B (bf_G R) D s m' C' W' → bf_E m C W m' C' W' → (∀ a b, a < 16 → b < 16 → x = nI a → y = nI b → bf_G R (a * 16 + b) → ¬ C' (a * 16 + b) = 0) → post (nI m', R, S, B, P, C', W')) : wpX_reach post (nI m, R, S, B, P, C, W) x y := by
  unfold wpX_reach
  dsimp only
  refine bf_noPix (fun a b ha hb ea eb => br_t rfl ?_) (fun z => br_f (by decide) (h m C W I (bf_ER m C W) (fun a b ha hb ea eb => absurd eb (z a b ha hb ea))))
  have hi : a * 16 + b < 256 := by omega
  have one : ∀ a' b', a' < 16 → b' < 16 → x = nI a' → y = nI b' → a' * 16 + b' = a * 16 + b := by
    intro a' b' ha' hb' ea' eb'
    rw [ea, nI_eq (by omega) (by omega)] at ea'
    rw [eb, nI_eq (by omega) (by omega)] at eb'
    omega
  have hm := bf_Bm I
  refine pk_lt m 256 (fun lt => nm_r (e' := nI (a * 16 + b)) (by rw [ea, eb, bf_rc]) ⟨bf_in hi, br_c (fun e => ?_) (fun e => ⟨bf_in hi, br_c (fun z => ?_) (fun z => ?_)⟩)⟩) (fun ge => ?_)
  · rw [bf_cl hi] at e
    exact h m C W I (bf_ER m C W) (fun a' b' ha' hb' ea' eb' g => by
      rw [one a' b' ha' hb' ea' eb'] at g
      exact absurd e g)
  · rw [bf_cl hi] at e z
    obtain ⟨n1, n2, n3⟩ := bf_Bput I hi (hc a b ha hb ea eb e) z
    refine ⟨bf_in hi, nm_r (e' := upd C (a * 16 + b) 1) (by rw [bf_cl hi, bf_b1]) ⟨bf_in lt, nm_r (e' := upd W m (nI (a * 16 + b))) (by rw [bf_cl lt]) (nm_r (nI_1 m) (h (m + 1) _ _ n1 n2 ?_))⟩⟩
    intro a' b' ha' hb' ea' eb' _
    rw [one a' b' ha' hb' ea' eb']
    exact n3
  · rw [bf_cl hi] at z
    refine h m C W I (bf_ER m C W) (fun a' b' ha' hb' ea' eb' _ => ?_)
    rw [one a' b' ha' hb' ea' eb']
    exact z
  · refine h m C W I (bf_ER m C W) (fun a' b' ha' hb' ea' eb' _ z => ?_)
    have := bf_cnlt (p := fun j => ¬ C j = 0) 256 (a' * 16 + b') (by omega) (fun q => q z)
    have := I.1
    omega
end
end
section
-- own rows: the flood and the scan in the component
theorem bf_m1 {r a : Nat} (hr : r < 16) (ha : a < 16) (e : nI r - 1 = nI a) : r = a + 1 := bf_seq (h := 1) (by omega) (by omega) (by omega) e
theorem bf_p1 {r a : Nat} (hr : r < 16) (ha : a < 16) (e : nI r + 1 = nI a) : r + 1 = a := by
  rw [nI_1, nI_eq (by omega) (by omega)] at e
  exact e
theorem bf_e1 {r a : Nat} (hr : r < 16) (ha : a < 16) (e : nI r = nI a) : r = a := by
  rw [nI_eq (by omega) (by omega)] at e
  exact e
theorem bf_m1' {r a : Nat} (h : a + 1 = r) : nI r - 1 = nI a := by
  rw [← h]
  exact nI_pred a
theorem bf_p1' {r a : Nat} (h : r + 1 = a) : nI r + 1 = nI a := by
  rw [← h]
  exact nI_1 r
section
variable {wc : Int32} {R S B P C W : Nat → Int32} {D : Nat → Prop}
theorem bf_Bend {G : Nat → Prop} {s m : Nat} (hD : bf_clo G D) (hs : s < 256) (I : bf_B G D s m C W) (hsr : ¬ C s = 0) (pr : ∀ t, t < m → ∀ j, j < 256 → W t = nI j → ∀ k, bf_adj j k → G k → ¬ C k = 0) : ∀ j, j < 256 → (¬ C j = 0 ↔ (D j ∨ bf_con G s j)) := by
  obtain ⟨i1, i2, i3, i4⟩ := I
  intro j hj
  constructor
  · intro h
    rcases i2 j hj h with h | ⟨t, ht, e⟩
    · exact Or.inl h
    · obtain ⟨j', hj', e', c, _⟩ := i4 t ht
      rw [e, nI_eq (by omega) (by omega)] at e'
      rw [← e'] at c
      exact Or.inr c
  · rintro (h | h)
    · exact i3 j hj h
    · refine (h (fun k => k < 256 ∧ ¬ C k = 0) (fun k l t a g => ⟨a.2.1, ?_⟩) ⟨hs, hsr⟩).2
      rcases i2 k t.1 t.2 with h | ⟨q, hq, e⟩
      · exact i3 l a.2.1 (hD k l h a g)
      · exact pr q hq k t.1 e l a g
theorem bf_flood {post : SX → Prop} {s m : Nat} (hD : bf_clo (bf_G R) D) (hs : s < 256) (I : bf_B (bf_G R) D s m C W) (hsr : ¬ C s = 0) (q : ∀ m' C' W', (∀ j, j < 256 → (¬ C' j = 0 ↔ (D j ∨ bf_con (bf_G R) s j))) → post (nI m', R, S, B, P, C', W')) : ∃ n, wX_reachPatch_13 post n 0 (nI m) R S B P C W := by
  refine loop_0 (σ := Nat × (Nat → Int32) × (Nat → Int32)) (fun n x σ => wX_reachPatch_13 post n (nI x) (nI σ.1) R S B P σ.2.1 σ.2.2) (fun x σ => bf_B (bf_G R) D s σ.1 σ.2.1 σ.2.2 ∧ ¬ σ.2.1 s = 0 ∧ ∀ t, t < x → t < σ.1 → ∀ j, j < 256 → σ.2.2 t = nI j → ∀ k, bf_adj j k → bf_G R k → ¬ σ.2.1 k = 0) 256 (m, C, W) ⟨I, hsr, fun t ht => absurd ht (Nat.not_lt_zero t)⟩ ?_ ?_
  · rintro n ⟨m, C, W⟩ ⟨I, hsr, pr⟩
    dsimp only at I hsr pr
    have hm := bf_Bm I
    exact br_t bf_e256 (q m C W (bf_Bend hD hs I hsr (fun t ht => pr t (by omega) ht)))
  · rintro n x ⟨m, C, W⟩ hx ⟨I, hsr, pr⟩ rec
    dsimp only at I hsr pr rec
    show wX_reachPatch_13 post (n + 1) (nI x) (nI m) R S B P C W
    have hm := bf_Bm I
    refine br_f (bf_n256 hx) (pk_le m x (fun le => q m C W (bf_Bend hD hs I hsr (fun t ht => pr t (by omega) ht))) (fun lt => ?_))
    obtain ⟨j, hj, ej, cj, rj⟩ := I.2.2.2 x lt
    refine ⟨bf_in hx, bf_16, nm_r (e' := nI (j / 16)) (by rw [bf_cl hx, ej, bf_d16 hj]) ⟨bf_in hx, bf_16, nm_r (e' := nI (j % 16)) (by rw [bf_cl hx, ej, bf_m16 hj]) ?_⟩⟩
    have hr : j / 16 < 16 := by omega
    have hc : j % 16 < 16 := by omega
    refine bf_reach I (fun a b ha hb ea eb g => bf_conT cj (bf_con1 ?_ g)) (fun m1 C1 W1 I1 E1 d1 => ?_)
    · have h1 := bf_m1 hr ha ea
      have h2 := bf_e1 hc hb eb
      unfold bf_adj
      omega
    dsimp only
    refine bf_reach I1 (fun a b ha hb ea eb g => bf_conT cj (bf_con1 ?_ g)) (fun m2 C2 W2 I2 E2 d2 => ?_)
    · have h1 := bf_p1 hr ha ea
      have h2 := bf_e1 hc hb eb
      unfold bf_adj
      omega
    dsimp only
    refine bf_reach I2 (fun a b ha hb ea eb g => bf_conT cj (bf_con1 ?_ g)) (fun m3 C3 W3 I3 E3 d3 => ?_)
    · have h1 := bf_e1 hr ha ea
      have h2 := bf_m1 hc hb eb
      unfold bf_adj
      omega
    dsimp only
    refine bf_reach I3 (fun a b ha hb ea eb g => bf_conT cj (bf_con1 ?_ g)) (fun m4 C4 W4 I4 E4 d4 => ?_)
    · have h1 := bf_e1 hr ha ea
      have h2 := bf_p1 hc hb eb
      unfold bf_adj
      omega
    dsimp only
    have E34 := bf_ET E3 E4
    have E24 := bf_ET E2 E34
    have E14 := bf_ET E1 E24
    refine nm_r (nI_1 x) (rec (m4, C4, W4) ⟨I4, E14.2.1 s hsr, ?_⟩)
    intro t ht htm j' hj' e' k ak gk
    dsimp only at htm e' ⊢
    by_cases tx : t = x
    · subst tx
      rw [E14.2.2 t lt, ej, nI_eq (by omega) (by omega)] at e'
      subst e'
      have kk : k / 16 * 16 + k % 16 = k := by omega
      have hk := ak.2.1
      rcases ak.2.2 with h | h | h | h
      · have f := d3 (k / 16) (k % 16) (by omega) (by omega) (congrArg nI (by omega)) (bf_m1' (by omega))
        rw [kk] at f
        exact E4.2.1 k (f gk)
      · have f := d4 (k / 16) (k % 16) (by omega) (by omega) (congrArg nI (by omega)) (bf_p1' (by omega))
        rw [kk] at f
        exact f gk
      · have f := d1 (k / 16) (k % 16) (by omega) (by omega) (bf_m1' (by omega)) (congrArg nI (by omega))
        rw [kk] at f
        exact E24.2.1 k (f gk)
      · have f := d2 (k / 16) (k % 16) (by omega) (by omega) (bf_p1' (by omega)) (congrArg nI (by omega))
        rw [kk] at f
        exact E34.2.1 k (f gk)
    · have tm : t < m := by omega
      rw [E14.2.2 t tm] at e'
      exact E14.2.1 k (pr t (by omega) tm j' hj' e' k ak gk)
theorem bf_rpatch {post : SX → Prop} {s : Nat} (hD : bf_clo (bf_G R) D) (hs : s < 256) (gs : bf_G R s) (hC : ∀ j, j < 256 → (¬ C j = 0 ↔ D j)) (q : ∀ m' C' W', (∀ j, j < 256 → (¬ C' j = 0 ↔ (D j ∨ bf_con (bf_G R) s j))) → post (nI m', R, S, B, P, C', W')) : wpX_reachPatch post (wc, R, S, B, P, C, W) (nI (s / 16)) (nI (s % 16)) := by
  have I0 : bf_B (bf_G R) D s 0 C W := ⟨Nat.zero_le _, fun j hj h => Or.inl ((hC j hj).mp h), fun j hj h => (hC j hj).mpr h, fun t ht => absurd ht (Nat.not_lt_zero t)⟩
  have ss : s / 16 * 16 + s % 16 = s := by omega
  unfold wpX_reachPatch
  dsimp only
  refine bf_reach (m := 0) I0 (fun a b ha hb ea eb g => ?_) (fun m1 C1 W1 I1 E1 d1 => ?_)
  · have h1 := bf_e1 (by omega) ha ea
    have h2 := bf_e1 (by omega) hb eb
    rw [show a * 16 + b = s from by omega]
    exact bf_conR s
  · dsimp only
    have f := d1 (s / 16) (s % 16) (by omega) (by omega) rfl rfl
    rw [ss] at f
    exact bf_flood hD hs I1 (f gs) q
theorem bf_scan {post : Int32 → SX → Prop} (hC : ∀ j, j < 256 → C j = 0) (q : ∀ wc' C' W', post (nI (bf_cn (bf_root (bf_G R)) 256)) (wc', R, S, B, P, C', W')) : ∃ n, wX_patches_26 post n 0 0 wc R S B P C W := by
  refine loop_0 (σ := Int32 × (Nat → Int32) × (Nat → Int32)) (fun n i σ => wX_patches_26 post n (nI (bf_cn (bf_root (bf_G R)) i)) (nI i) σ.1 R S B P σ.2.1 σ.2.2) (fun i σ => ∀ j, j < 256 → (¬ σ.2.1 j = 0 ↔ ∃ k, k < i ∧ bf_G R k ∧ bf_con (bf_G R) k j)) 256 (wc, C, W) ?_ (fun n σ _ => br_t bf_e256 (q _ _ _)) ?_
  · intro j hj
    constructor
    · intro h
      exact absurd (hC j hj) h
    · rintro ⟨k, hk, _⟩
      omega
  · rintro n i ⟨wc, C, W⟩ hi I rec
    dsimp only at I rec
    show wX_patches_26 post (n + 1) (nI (bf_cn (bf_root (bf_G R)) i)) (nI i) wc R S B P C W
    refine br_f (bf_n256 hi) ⟨bf_in hi, br_c (fun e => nm_r (nI_1 i) ?_) (fun e => ⟨bf_in hi, br_c (fun z => nm_r (nI_1 _) ⟨bf_16, bf_16, ?_⟩) (fun z => nm_r (nI_1 i) ?_)⟩)⟩
    · rw [bf_cl hi] at e
      have st := rec (wc, C, W) (fun j hj => by
        dsimp only
        rw [I j hj]
        constructor
        · rintro ⟨k, hk, g, c⟩
          exact ⟨k, by omega, g, c⟩
        · rintro ⟨k, hk, g, c⟩
          by_cases ki : k = i
          · rw [ki] at g
            exact absurd e g
          · exact ⟨k, by omega, g, c⟩)
      rw [bf_cnf (p := bf_root (bf_G R)) (fun r => r.1 e)] at st
      exact st
    · rw [bf_cl hi] at e z
      rw [bf_m16 hi, bf_d16 hi]
      refine bf_rpatch (D := fun j => ∃ k, k < i ∧ bf_G R k ∧ bf_con (bf_G R) k j) ?_ hi e I (fun m' C' W' h => ?_)
      · rintro a b ⟨k, hk, g, c⟩ ad gb
        exact ⟨k, hk, g, bf_conT c (bf_con1 ad gb)⟩
      · dsimp only
        have root : bf_root (bf_G R) i := ⟨e, fun k hk g c => (I i hi).mpr ⟨k, hk, g, c⟩ z⟩
        have st := rec (nI m', C', W') (fun j hj => by
          dsimp only
          rw [h j hj]
          constructor
          · rintro (⟨k, hk, g, c⟩ | c)
            · exact ⟨k, by omega, g, c⟩
            · exact ⟨i, by omega, e, c⟩
          · rintro ⟨k, hk, g, c⟩
            by_cases ki : k = i
            · rw [ki] at c
              exact Or.inr c
            · exact Or.inl ⟨k, by omega, g, c⟩)
        rw [bf_cnt root] at st
        exact nm_r (nI_1 i) st
    · rw [bf_cl hi] at e z
      obtain ⟨k0, hk0, g0, c0⟩ := (I i hi).mp z
      have st := rec (wc, C, W) (fun j hj => by
        dsimp only
        rw [I j hj]
        constructor
        · rintro ⟨k, hk, g, c⟩
          exact ⟨k, by omega, g, c⟩
        · rintro ⟨k, hk, g, c⟩
          by_cases ki : k = i
          · rw [ki] at c
            exact ⟨k0, hk0, g0, bf_conT c0 c⟩
          · exact ⟨k, by omega, g, c⟩)
      rw [bf_cnf (p := bf_root (bf_G R)) (fun r => r.2 k0 hk0 g0 c0)] at st
      exact st
theorem bf_patchesX {post : Int32 → SX → Prop} (q : ∀ wc' C' W', post (nI (bf_cn (bf_root (bf_G R)) 256)) (wc', R, S, B, P, C', W')) : wpX_patches post (wc, R, S, B, P, C, W) := by
  obtain ⟨n, hn⟩ := bf_lp (fun n i => wX_patches_2 post wc n (nI i) R S B P (bf_ov (fun _ => 0) i C) W) 256 (fun n => br_t bf_e256 (bf_scan (fun j hj => bf_lo hj) q)) (fun n i hi ih => br_f (bf_n256 hi) ⟨bf_in hi, nm_r (bf_up hi bf_b0) (nm_r (nI_1 i) ih)⟩)
  rw [bf_ov0] at hn
  exact ⟨n, hn⟩
end
end
section
-- own rows: patches in the reference
/-- each bright cell's mark is a cell of its patch, not behind it -/
def bf_L (G : Nat → Prop) (M : Nat → Int32) : Prop := ∀ j, j < 256 → (¬ G j → M j = -1) ∧ (G j → ∃ a, a ≤ j ∧ M j = nI a ∧ G a ∧ bf_con G a j)
def bf_ms (M : Nat → Int32) : Nat := bf_su (fun j => (M j).toNatClampNeg) 256
def bf_le (G : Nat → Prop) (M : Nat → Int32) (i j : Nat) : Prop := G j → (M i).toNatClampNeg ≤ (M j).toNatClampNeg
section
variable {R S Re Be M M0 : Nat → Int32}
theorem bf_take {post : Int32 → SY → Prop} {i j : Nat} (L : bf_L (bf_G R) M) (a : bf_adj i j) (gi : bf_G R i) (h0 : bf_le (bf_G R) M i j → post 0 (R, S, Re, Be, M)) (h1 : ∀ M', bf_L (bf_G R) M' → bf_ms M' < bf_ms M → post 1 (R, S, Re, Be, M')) : wpY_take post (R, S, Re, Be, M) (nI i) (nI j) := by
  have hi := a.1
  have hj := a.2.1
  by_cases gj : bf_G R j
  · obtain ⟨b, hb, eb, gb, cb⟩ := (L j hj).2 gj
    obtain ⟨c, hc, ec, gc, cc⟩ := (L i hi).2 gi
    refine ⟨bf_in hj, br_f (by rw [bf_cl hj, eb]; exact nI_pos (by omega)) ⟨bf_in hj, bf_in hi, pk_lt b c (fun lt => ⟨bf_in hj, bf_in hi, nm_r (e' := upd M i (nI b)) (by rw [bf_cl hi, bf_cl hj, eb]) (h1 _ ?_ ?_)⟩) (fun ge => h0 fun _ => ?_) (hx := by rw [bf_cl hj, eb]) (hy := by rw [bf_cl hi, ec])⟩⟩
    · intro k hk
      by_cases e : k = i
      · subst e
        refine ⟨fun z => absurd gi z, fun _ => ⟨b, by omega, by rw [pk_us], gb, bf_conT cb (bf_con1 (bf_adjS a) gi)⟩⟩
      · rw [pk_un e]
        exact L k hk
    · refine bf_sul (i := i) ?_ (fun k hk => ?_) 256 hi
      · rw [pk_us, ec, nI_clamp (by omega), nI_clamp (by omega)]
        exact lt
      · rw [pk_un hk]
    · rw [eb, ec, nI_clamp (by omega), nI_clamp (by omega)]
      exact ge
  · exact ⟨bf_in hj, br_t (by rw [bf_cl hj, (L j hj).1 gj]; decide) (h0 fun g => absurd g gj)⟩
/-- nothing changed since M0, and Q; or the sum of the marks has fallen -/
def bf_PP (G : Nat → Prop) (M0 M : Nat → Int32) (z : Int32) (Q : Prop) : Prop := bf_L G M ∧ ((z = 0 ∧ M = M0 ∧ Q) ∨ (z = 1 ∧ bf_ms M < bf_ms M0))
theorem bf_PPm {G : Nat → Prop} {z : Int32} {Q Q' : Prop} (h : Q → Q') (I : bf_PP G M0 M z Q) : bf_PP G M0 M z Q' := ⟨I.1, I.2.elim (fun t => Or.inl ⟨t.1, t.2.1, h t.2.2⟩) Or.inr⟩
theorem bf_tk {post : Int32 → SY → Prop} {i j : Nat} {z : Int32} {Q : Prop} (I : bf_PP (bf_G R) M0 M z Q) (a : bf_adj i j) (gi : bf_G R i) (h0 : bf_PP (bf_G R) M0 M z (Q ∧ bf_le (bf_G R) M0 i j) → post 0 (R, S, Re, Be, M)) (h1 : ∀ M', (∀ Q', bf_PP (bf_G R) M0 M' 1 Q') → post 1 (R, S, Re, Be, M')) : wpY_take post (R, S, Re, Be, M) (nI i) (nI j) := by
  obtain ⟨L, I⟩ := I
  refine bf_take L a gi (fun le => h0 ⟨L, ?_⟩) (fun M' L' lt => h1 M' (fun Q' => ⟨L', Or.inr ⟨rfl, ?_⟩⟩))
  · rcases I with ⟨a, b, c⟩ | I
    · subst b
      exact Or.inl ⟨a, rfl, c, le⟩
    · exact Or.inr I
  · rcases I with ⟨a, b, c⟩ | I
    · subst b
      exact lt
    · exact Nat.lt_trans lt I.2
def bf_Da (R M : Nat → Int32) (i : Nat) : Prop := 0 < i % 16 → bf_le (bf_G R) M i (i - 1)
def bf_Db (R M : Nat → Int32) (i : Nat) : Prop := i % 16 < 15 → bf_le (bf_G R) M i (i + 1)
def bf_Dc (R M : Nat → Int32) (i : Nat) : Prop := 0 < i / 16 → bf_le (bf_G R) M i (i - 16)
def bf_Dd (R M : Nat → Int32) (i : Nat) : Prop := i / 16 < 15 → bf_le (bf_G R) M i (i + 16)
def bf_D4 (R M : Nat → Int32) (i : Nat) : Prop := ((bf_Da R M i ∧ bf_Db R M i) ∧ bf_Dc R M i) ∧ bf_Dd R M i
theorem bf_s104 {post : Int32 → SY → Prop} {i : Nat} (h : ∀ z M, bf_PP (bf_G R) M0 M z (bf_D4 R M0 i) → post z (R, S, Re, Be, M)) {z : Int32} (I : bf_PP (bf_G R) M0 M z (bf_D4 R M0 i)) : wY_spread_104 post z R S Re Be M := by
  have q := h z M I
  rcases I.2 with ⟨e, _⟩ | ⟨e, _⟩
  · subst e
    exact br_t rfl q
  · subst e
    exact br_f (by decide) q
theorem bf_s82 {post : Int32 → SY → Prop} {i : Nat} (hi : i < 256) (gi : bf_G R i) (h : ∀ z M, bf_PP (bf_G R) M0 M z (bf_D4 R M0 i) → post z (R, S, Re, Be, M)) {z : Int32} (I : bf_PP (bf_G R) M0 M z ((bf_Da R M0 i ∧ bf_Db R M0 i) ∧ bf_Dc R M0 i)) : wY_spread_82 post (nI i) z R S Re Be M := by
  refine ⟨bf_16, pk_le 15 (i / 16) (fun e => bf_s104 h (bf_PPm (fun q => ⟨q, fun lt => by omega⟩) I)) (fun e => ?_) (hy := bf_d16 hi)⟩
  rw [show nI i + 16 = nI (i + 16) from nI_add i 16]
  refine bf_tk I (by unfold bf_adj; omega) gi (fun I' => ?_) (fun M' I' => ?_)
  · dsimp only
    exact br_t rfl (bf_s104 h (bf_PPm (fun q => ⟨q.1, fun _ => q.2⟩) I'))
  · dsimp only
    exact br_f (by decide) (h 1 M' (I' _))
theorem bf_s73 {post : Int32 → SY → Prop} {i : Nat} (hi : i < 256) (gi : bf_G R i) (h : ∀ z M, bf_PP (bf_G R) M0 M z (bf_D4 R M0 i) → post z (R, S, Re, Be, M)) {z : Int32} (I : bf_PP (bf_G R) M0 M z ((bf_Da R M0 i ∧ bf_Db R M0 i) ∧ bf_Dc R M0 i)) : wY_spread_73 post (nI i) z R S Re Be M := by
  have q := bf_s82 hi gi h I
  rcases I.2 with ⟨e, _⟩ | ⟨e, _⟩
  · subst e
    exact br_t rfl q
  · subst e
    exact br_f (by decide) q
theorem bf_s53 {post : Int32 → SY → Prop} {i : Nat} (hi : i < 256) (gi : bf_G R i) (h : ∀ z M, bf_PP (bf_G R) M0 M z (bf_D4 R M0 i) → post z (R, S, Re, Be, M)) {z : Int32} (I : bf_PP (bf_G R) M0 M z (bf_Da R M0 i ∧ bf_Db R M0 i)) : wY_spread_53 post (nI i) z R S Re Be M := by
  refine ⟨bf_16, pk_le (i / 16) 0 (fun e => bf_s73 hi gi h (bf_PPm (fun q => ⟨q, fun lt => by omega⟩) I)) (fun e => ?_) (hx := bf_d16 hi)⟩
  rw [show nI i - 16 = nI (i - 16) from pk_sub (b := 16) (by omega)]
  refine bf_tk I (by unfold bf_adj; omega) gi (fun I' => ?_) (fun M' I' => ?_)
  · dsimp only
    exact br_t rfl (bf_s73 hi gi h (bf_PPm (fun q => ⟨q.1, fun _ => q.2⟩) I'))
  · dsimp only
    exact br_f (by decide) (bf_s82 hi gi h (I' _))
theorem bf_s44 {post : Int32 → SY → Prop} {i : Nat} (hi : i < 256) (gi : bf_G R i) (h : ∀ z M, bf_PP (bf_G R) M0 M z (bf_D4 R M0 i) → post z (R, S, Re, Be, M)) {z : Int32} (I : bf_PP (bf_G R) M0 M z (bf_Da R M0 i ∧ bf_Db R M0 i)) : wY_spread_44 post (nI i) z R S Re Be M := by
  have q := bf_s53 hi gi h I
  rcases I.2 with ⟨e, _⟩ | ⟨e, _⟩
  · subst e
    exact br_t rfl q
  · subst e
    exact br_f (by decide) q
theorem bf_s23 {post : Int32 → SY → Prop} {i : Nat} (hi : i < 256) (gi : bf_G R i) (h : ∀ z M, bf_PP (bf_G R) M0 M z (bf_D4 R M0 i) → post z (R, S, Re, Be, M)) {z : Int32} (I : bf_PP (bf_G R) M0 M z (bf_Da R M0 i)) : wY_spread_23 post (nI i) z R S Re Be M := by
  refine ⟨bf_16, pk_le 15 (i % 16) (fun e => bf_s44 hi gi h (bf_PPm (fun q => ⟨q, fun lt => by omega⟩) I)) (fun e => ?_) (hy := bf_m16 hi)⟩
  rw [show nI i + 1 = nI (i + 1) from nI_1 i]
  refine bf_tk I (by unfold bf_adj; omega) gi (fun I' => ?_) (fun M' I' => ?_)
  · dsimp only
    exact br_t rfl (bf_s44 hi gi h (bf_PPm (fun q => ⟨q.1, fun _ => q.2⟩) I'))
  · dsimp only
    exact br_f (by decide) (bf_s53 hi gi h (I' _))
theorem bf_spread {post : Int32 → SY → Prop} {i : Nat} (hi : i < 256) (gi : bf_G R i) (L : bf_L (bf_G R) M0) (h : ∀ z M, bf_PP (bf_G R) M0 M z (bf_D4 R M0 i) → post z (R, S, Re, Be, M)) : wpY_spread post (R, S, Re, Be, M0) (nI i) := by
  have I : bf_PP (bf_G R) M0 M0 0 True := ⟨L, Or.inl ⟨rfl, rfl, True.intro⟩⟩
  refine ⟨bf_16, pk_le (i % 16) 0 (fun e => bf_s23 hi gi h (bf_PPm (fun q lt => by omega) I)) (fun e => ?_) (hx := bf_m16 hi)⟩
  rw [show nI i - 1 = nI (i - 1) from pk_sub (b := 1) (by omega)]
  refine bf_tk I (by unfold bf_adj; omega) gi (fun I' => ?_) (fun M' I' => ?_)
  · dsimp only
    exact br_t rfl (bf_s23 hi gi h (bf_PPm (fun q _ => q.2) I'))
  · dsimp only
    exact br_f (by decide) (bf_s23 hi gi h (I' _))
theorem bf_sweep {post : Int32 → SY → Prop} {J : Int32 → (Nat → Int32) → (Nat → Int32) → (Nat → Int32) → (Nat → Int32) → (Nat → Int32) → Prop} (L : bf_L (bf_G R) M0) (h : ∀ z M, bf_PP (bf_G R) M0 M z (∀ k, k < 256 → bf_G R k → bf_D4 R M0 k) → J z R S Re Be M) : ∃ n, wY_patches_45 post J n 0 0 R S Re Be M0 := by
  refine loop_0 (σ := Int32 × (Nat → Int32)) (fun n i σ => wY_patches_45 post J n σ.1 (nI i) R S Re Be σ.2) (fun i σ => bf_PP (bf_G R) M0 σ.2 σ.1 (∀ k, k < i → bf_G R k → bf_D4 R M0 k)) 256 (0, M0) ⟨L, Or.inl ⟨rfl, rfl, fun k hk => absurd hk (Nat.not_lt_zero k)⟩⟩ (fun n σ I => br_t bf_e256 (h _ _ I)) ?_
  rintro n i ⟨f, M⟩ hi I rec
  dsimp only at I rec
  show wY_patches_45 post J (n + 1) f (nI i) R S Re Be M
  refine br_f (bf_n256 hi) ⟨bf_in hi, br_c (fun e => nm_r (nI_1 i) ?_) (fun e => ?_)⟩
  · rw [bf_cl hi] at e
    refine rec (f, M) (bf_PPm (fun q k hk g => ?_) I)
    by_cases ki : k = i
    · subst ki
      obtain ⟨a, ha, ea, _⟩ := (I.1 k hi).2 g
      rw [ea] at e
      exact absurd e (nI_pos (by omega))
    · exact q k (by omega) g
  · rw [bf_cl hi] at e
    have gi : bf_G R i := by
      by_cases g : bf_G R i
      · exact g
      · rw [(I.1 i hi).1 g] at e
        exact absurd (by decide) e
    refine bf_spread hi gi I.1 (fun z M' I' => ?_)
    dsimp only
    rcases I'.2 with ⟨ez, eM, d⟩ | ⟨ez, lt⟩
    · subst ez eM
      refine br_t rfl (nm_r (nI_1 i) (rec (f, M') ?_))
      rcases I.2 with ⟨a, b, c⟩ | r
      · subst b
        refine ⟨I.1, Or.inl ⟨a, rfl, fun k hk g => ?_⟩⟩
        by_cases ki : k = i
        · rw [ki]; exact d
        · exact c k (by omega) g
      · exact ⟨I.1, Or.inr r⟩
    · subst ez
      refine br_f (by decide) (nm_r (nI_1 i) (rec (1, M') ⟨I'.1, Or.inr ⟨rfl, ?_⟩⟩))
      rcases I.2 with ⟨a, b, c⟩ | r
      · subst b
        exact lt
      · exact Nat.lt_trans lt r.2
theorem bf_D4adj {k j : Nat} (d : bf_D4 R M k) (a : bf_adj k j) : bf_le (bf_G R) M k j := by
  obtain ⟨⟨⟨da, db⟩, dc⟩, dd⟩ := d
  obtain ⟨hk, hj, h | h | h | h⟩ := a
  · rw [show j = k - 1 from by omega]; exact da h.2
  · rw [show j = k + 1 from by omega]; exact db h.2
  · rw [show j = k - 16 from by omega]; exact dc (by omega)
  · rw [show j = k + 16 from by omega]; exact dd (by omega)
theorem bf_fix (L : bf_L (bf_G R) M) (F : ∀ k, k < 256 → bf_G R k → bf_D4 R M k) : ∀ j, j < 256 → (M j = nI j ↔ bf_root (bf_G R) j) := by
  have same : ∀ i j, i < 256 → bf_G R i → bf_con (bf_G R) i j → (M j).toNatClampNeg = (M i).toNatClampNeg := by
    intro i j hi gi c
    refine (c (fun k => (k < 256 ∧ bf_G R k) ∧ (M k).toNatClampNeg = (M i).toNatClampNeg) (fun k l t a g => ⟨⟨a.2.1, g⟩, ?_⟩) ⟨⟨hi, gi⟩, rfl⟩).2
    have h1 := bf_D4adj (F k t.1.1 t.1.2) a g
    have h2 := bf_D4adj (F l a.2.1 g) (bf_adjS a) t.1.2
    have h3 := t.2
    omega
  intro j hj
  constructor
  · intro e
    have gj : bf_G R j := by
      by_cases g : bf_G R j
      · exact g
      · rw [(L j hj).1 g] at e
        have : (-1 : Int32) < 0 := by decide
        rw [e] at this
        exact absurd this (nI_pos (by omega))
    refine ⟨gj, fun k hk gk c => ?_⟩
    obtain ⟨a, ha, ea, _⟩ := (L k (by omega)).2 gk
    have s := same k j (by omega) gk c
    rw [e, ea, nI_clamp (by omega), nI_clamp (by omega)] at s
    omega
  · rintro ⟨gj, r⟩
    obtain ⟨a, ha, ea, ga, ca⟩ := (L j hj).2 gj
    by_cases aj : a = j
    · rw [ea, aj]
    · exact absurd ca (r a (by omega) ga)
theorem bf_cntY {post : Int32 → SY → Prop} (h : post (nI (bf_cn (fun j => M j = nI j) 256)) (R, S, Re, Be, M)) : ∃ n, wY_patches_84 post R S Re Be M n 0 0 := by
  refine bf_lp (fun n i => wY_patches_84 post R S Re Be M n (nI (bf_cn (fun j => M j = nI j) i)) (nI i)) 256 (fun n => br_t bf_e256 h) (fun n i hi ih => br_f (bf_n256 hi) ⟨bf_in hi, br_c (fun e => nm_r (nI_1 _) (nm_r (nI_1 i) ?_)) (fun e => nm_r (nI_1 i) ?_)⟩)
  · rw [bf_cl hi] at e
    rw [bf_cnt (p := fun j => M j = nI j) e] at ih
    exact ih
  · rw [bf_cl hi] at e
    rw [bf_cnf (p := fun j => M j = nI j) e] at ih
    exact ih
theorem bf_while {post : Int32 → SY → Prop} (L : bf_L (bf_G R) M) (q : ∀ M', post (nI (bf_cn (bf_root (bf_G R)) 256)) (R, S, Re, Be, M')) : ∃ n, wY_patches_37 post n 1 R S Re Be M := by
  refine loop_m (σ := Int32 × (Nat → Int32)) (fun n σ => wY_patches_37 post n σ.1 R S Re Be σ.2) (fun σ => bf_L (bf_G R) σ.2 ∧ (σ.1 = 0 → ∀ k, k < 256 → bf_G R k → bf_D4 R σ.2 k)) (fun σ => 2 * bf_ms σ.2 + (if σ.1 = 0 then 0 else 1)) ?_ (1, M) ⟨L, fun z => absurd (show (1 : Int32) = 0 from z) (by decide)⟩
  rintro n ⟨f, M⟩ ⟨L, F⟩ rec
  dsimp only at L F rec
  show wY_patches_37 post (n + 1) f R S Re Be M
  refine br_c (fun e => bf_cntY ?_) (fun e => bf_sweep L (fun z M' I => rec (z, M') ⟨I.1, fun ez => ?_⟩ ?_))
  · rw [bf_cnc 256 (bf_fix L (F e))]
    exact q M
  · dsimp only at ez ⊢
    rcases I.2 with ⟨_, b, c⟩ | ⟨z1, _⟩
    · rw [b]; exact c
    · rw [ez] at z1
      exact absurd z1 (by decide)
  · dsimp only
    rw [if_neg e]
    rcases I.2 with ⟨a, b, c⟩ | ⟨z1, lt⟩
    · rw [a, b, if_pos rfl]
      omega
    · rw [z1, if_neg (by decide)]
      omega
def bf_m0 (R : Nat → Int32) : Nat → Int32 := fun j => if R j ≤ 0 then -1 else nI j
theorem bf_patchesY {Ma : Nat → Int32} {post : Int32 → SY → Prop} (q : ∀ M', post (nI (bf_cn (bf_root (bf_G R)) 256)) (R, S, Re, Be, M')) : wpY_patches post (R, S, Re, Be, Ma) := by
  have L : bf_L (bf_G R) (bf_ov (bf_m0 R) 256 Ma) := by
    intro j hj
    rw [bf_lo hj]
    unfold bf_m0
    refine ⟨fun g => ?_, fun g => ⟨j, Nat.le_refl j, if_neg g, g, bf_conR j⟩⟩
    by_cases e : R j ≤ 0
    · exact if_pos e
    · exact absurd e g
  obtain ⟨n, hn⟩ := bf_lp (fun n i => wY_patches_2 post n (nI i) R S Re Be (bf_ov (bf_m0 R) i Ma)) 256 (fun n => br_t bf_e256 (bf_while L q)) (by
    intro n i hi ih
    refine br_f (bf_n256 hi) ⟨bf_in hi, br_c (fun e => ⟨bf_in hi, nm_r (bf_up hi ?_) (nm_r (nI_1 i) ih)⟩) (fun e => ⟨bf_in hi, nm_r (bf_up hi ?_) (nm_r (nI_1 i) ih)⟩)⟩
    · rw [bf_cl hi] at e
      exact (if_pos e).symm
    · rw [bf_cl hi] at e
      exact (if_neg e).symm)
  rw [bf_ov0] at hn
  exact ⟨n, hn⟩
end
end
section
-- the relation, and what is owed
/-- the same raster, the same spare raster, values 0 to 255 -/
def i_Rel (k : Nat) (u : SX) (v : SY) : Prop := ∃ (wc : Int32) (R S B P C W Re Be Ma : Nat → Int32) (p q : Nat → Nat), u = (wc, R, S, B, P, C, W) ∧ v = (R, S, Re, Be, Ma) ∧ bf_V p R ∧ bf_V q S
theorem bf_rel {k : Nat} {wc : Int32} {R S B P C W Re Be Ma : Nat → Int32} {p q : Nat → Nat} (hp : bf_V p R) (hq : bf_V q S) : i_Rel k (wc, R, S, B, P, C, W) (R, S, Re, Be, Ma) := ⟨wc, R, S, B, P, C, W, Re, Be, Ma, p, q, rfl, rfl, hp, hq⟩
theorem bf_Vov {p q : Nat → Nat} {R S : Nat → Int32} (hq : bf_V q S) : bf_V q (bf_ov S 256 R) := fun j hj => by rw [bf_lo hj]; exact hq j hj
theorem bf_Vup {p : Nat → Nat} {R : Nat → Int32} {i c : Nat} {v : Int32} (hp : bf_V p R) (hc : c ≤ 255) (ev : v = nI c) : bf_V (fun j => if j = i then c else p j) (upd R i v) := by
  intro j hj
  show (if j = i then c else p j) ≤ 255 ∧ _ = nI (if j = i then c else p j)
  by_cases e : j = i
  · rw [if_pos e, e, pk_us]
    exact ⟨hc, ev⟩
  · rw [if_neg e, pk_un e]
    exact hp j hj
theorem bf_Vth {R : Nat → Int32} (b : Int32) : bf_V (fun j => if R j < b then 0 else 255) (bf_ov (bf_th R b) 256 R) := by
  intro j hj
  rw [bf_lo hj]
  show (if R j < b then 0 else 255) ≤ 255 ∧ (if R j < b then (0 : Int32) else 255) = nI (if R j < b then 0 else 255)
  by_cases e : R j < b
  · rw [if_pos e, if_pos e]
    exact ⟨by decide, rfl⟩
  · rw [if_neg e, if_neg e]
    exact ⟨by decide, rfl⟩
theorem bf_Vpt {R : Nat → Int32} (a b : Int32) : ∃ p, bf_V p (bf_ov (bf_pt a b) 256 R) := by
  refine ⟨fun j => (nI (j / 16) * a + nI (j % 16) * b + nI (j / 16) * nI (j % 16)).toBitVec.toNat % 2 ^ 8, fun j hj => ⟨?_, ?_⟩⟩
  · exact Nat.le_of_lt_succ (Nat.mod_lt _ (by decide))
  · rw [bf_lo hj]
    exact pk_and _ 8 (by decide)
theorem i_up {k : Nat} {u : SX} {v : SY} (h : i_Rel k u v) : i_Rel (k + 4) u v := by
  obtain ⟨wc, R, S, B, P, C, W, Re, Be, Ma, p, q, rfl, rfl, hp, hq⟩ := h
  exact bf_rel hp hq
theorem i_vc0 : wpX_init (fun u => wpY_init (fun v => i_Rel 0 u v)) :=
  bf_rel (k := 0) (p := fun _ => 0) (q := fun _ => 0) (fun _ _ => ⟨Nat.zero_le _, rfl⟩) (fun _ _ => ⟨Nat.zero_le _, rfl⟩)
theorem i_vc_set {k : Nat} {u : SX} {v : SY} (I : i_Rel k u v) (hk : k + 4 ≤ 2048) (v1 : Int32) (v2 : Int32) (v3 : Int32) : wpX_set (fun r u' => wpY_set (fun r' v' => r' = r ∧ i_Rel (k + 4) u' v') v v1 v2 v3) u v1 v2 v3 := by
  obtain ⟨wc, R, S, B, P, C, W, Re, Be, Ma, p, q, rfl, rfl, hp, hq⟩ := I
  refine bf_setX (fun a b c ha hb hc ea eb ec => ?_) (fun a b ha hb ea eb nc => ?_) (fun no => ?_)
  · refine bf_setY (fun a' b' c' ha' hb' hc' ea' eb' ec' => ?_) (fun a' b' ha' hb' ea' eb' nc => absurd ec (nc c hc)) (fun no => absurd eb (no a b ha hb ea))
    have h1 := bf_e1 ha ha' (ea.symm.trans ea')
    have h2 := bf_e1 hb hb' (eb.symm.trans eb')
    subst h1 h2
    exact ⟨rfl, bf_rel (bf_Vup hp hc ec) hq⟩
  · exact bf_setY (fun a' b' c' ha' hb' hc' ea' eb' ec' => absurd ec' (nc c' hc')) (fun _ _ _ _ _ _ _ => ⟨rfl, bf_rel hp hq⟩) (fun no => absurd eb (no a b ha hb ea))
  · exact bf_setY (fun a' b' c' ha' hb' hc' ea' eb' ec' => absurd eb' (no a' b' ha' hb' ea')) (fun a' b' ha' hb' ea' eb' _ => absurd eb' (no a' b' ha' hb' ea')) (fun _ => ⟨rfl, bf_rel hp hq⟩)
theorem i_vc_pattern {k : Nat} {u : SX} {v : SY} (I : i_Rel k u v) (hk : k + 4 ≤ 2048) (v1 : Int32) (v2 : Int32) : wpX_pattern (fun u' => wpY_pattern (fun v' => i_Rel (k + 4) u' v') v v1 v2) u v1 v2 := by
  obtain ⟨wc, R, S, B, P, C, W, Re, Be, Ma, p, q, rfl, rfl, hp, hq⟩ := I
  obtain ⟨p', hp'⟩ := bf_Vpt (R := R) v1 v2
  exact bf_patX (bf_patY (bf_rel hp' hq))
theorem i_vc_dilate {k : Nat} {u : SX} {v : SY} (I : i_Rel k u v) (hk : k + 4 ≤ 2048) (v1 : Int32) (v2 : Int32) : wpX_dilate (fun r u' => wpY_dilate (fun r' v' => r' = r ∧ i_Rel (k + 4) u' v') v v1 v2) u v1 v2 := by
  obtain ⟨wc, R, S, B, P, C, W, Re, Be, Ma, p, q, rfl, rfl, hp, hq⟩ := I
  unfold wpX_dilate
  dsimp only
  refine bf_filX (k1 := 1) (k2 := 0) (by decide) (by decide) hp (fun w h hw hh ew eh B' P' => ?_) (fun no => ?_)
  · dsimp only
    unfold wpY_dilate
    dsimp only
    refine bf_filY (f1 := 0) (k2 := 0) (by decide) (Or.inl ⟨by decide, rfl⟩) hp (fun w' h' hw' hh' ew' eh' Re' Be' => ?_) (fun no => absurd eh (no w h hw hh ew))
    have h1 := bf_e1 (by omega) (by omega) (ew.symm.trans ew')
    have h2 := bf_e1 (by omega) (by omega) (eh.symm.trans eh')
    subst h1 h2
    obtain ⟨p', hp'⟩ := bf_finV (k1 := 1) (k2 := 0) (w := w) (h := h) hp
    exact ⟨rfl, bf_rel hp' hq⟩
  · dsimp only
    unfold wpY_dilate
    dsimp only
    exact bf_filY (f1 := 0) (k2 := 0) (by decide) (Or.inl ⟨by decide, rfl⟩) hp (fun w' h' hw' hh' ew' eh' Re' Be' => absurd eh' (no w' h' hw' hh' ew')) (fun _ => ⟨rfl, bf_rel hp hq⟩)
theorem i_vc_erode {k : Nat} {u : SX} {v : SY} (I : i_Rel k u v) (hk : k + 4 ≤ 2048) (v1 : Int32) (v2 : Int32) : wpX_erode (fun r u' => wpY_erode (fun r' v' => r' = r ∧ i_Rel (k + 4) u' v') v v1 v2) u v1 v2 := by
  obtain ⟨wc, R, S, B, P, C, W, Re, Be, Ma, p, q, rfl, rfl, hp, hq⟩ := I
  unfold wpX_erode
  dsimp only
  refine bf_filX (k1 := 2) (k2 := 0) (by decide) (by decide) hp (fun w h hw hh ew eh B' P' => ?_) (fun no => ?_)
  · dsimp only
    unfold wpY_erode
    dsimp only
    refine bf_filY (f1 := 1) (k2 := 0) (by decide) (Or.inl ⟨by decide, rfl⟩) hp (fun w' h' hw' hh' ew' eh' Re' Be' => ?_) (fun no => absurd eh (no w h hw hh ew))
    have h1 := bf_e1 (by omega) (by omega) (ew.symm.trans ew')
    have h2 := bf_e1 (by omega) (by omega) (eh.symm.trans eh')
    subst h1 h2
    obtain ⟨p', hp'⟩ := bf_finV (k1 := 2) (k2 := 0) (w := w) (h := h) hp
    exact ⟨rfl, bf_rel hp' hq⟩
  · dsimp only
    unfold wpY_erode
    dsimp only
    exact bf_filY (f1 := 1) (k2 := 0) (by decide) (Or.inl ⟨by decide, rfl⟩) hp (fun w' h' hw' hh' ew' eh' Re' Be' => absurd eh' (no w' h' hw' hh' ew')) (fun _ => ⟨rfl, bf_rel hp hq⟩)
theorem i_vc_open {k : Nat} {u : SX} {v : SY} (I : i_Rel k u v) (hk : k + 4 ≤ 2048) (v1 : Int32) (v2 : Int32) : wpX_open (fun r u' => wpY_open (fun r' v' => r' = r ∧ i_Rel (k + 4) u' v') v v1 v2) u v1 v2 := by
  obtain ⟨wc, R, S, B, P, C, W, Re, Be, Ma, p, q, rfl, rfl, hp, hq⟩ := I
  unfold wpX_open
  dsimp only
  refine bf_filX (k1 := 2) (k2 := 1) (by decide) (by decide) hp (fun w h hw hh ew eh B' P' => ?_) (fun no => ?_)
  · dsimp only
    unfold wpY_open
    dsimp only
    refine bf_filY (f1 := 1) (k2 := 1) (by decide) (Or.inr ⟨0, by decide, rfl, rfl⟩) hp (fun w' h' hw' hh' ew' eh' Re' Be' => ?_) (fun no => absurd eh (no w h hw hh ew))
    have h1 := bf_e1 (by omega) (by omega) (ew.symm.trans ew')
    have h2 := bf_e1 (by omega) (by omega) (eh.symm.trans eh')
    subst h1 h2
    obtain ⟨p', hp'⟩ := bf_finV (k1 := 2) (k2 := 1) (w := w) (h := h) hp
    exact ⟨rfl, bf_rel hp' hq⟩
  · dsimp only
    unfold wpY_open
    dsimp only
    exact bf_filY (f1 := 1) (k2 := 1) (by decide) (Or.inr ⟨0, by decide, rfl, rfl⟩) hp (fun w' h' hw' hh' ew' eh' Re' Be' => absurd eh' (no w' h' hw' hh' ew')) (fun _ => ⟨rfl, bf_rel hp hq⟩)
theorem i_vc_close {k : Nat} {u : SX} {v : SY} (I : i_Rel k u v) (hk : k + 4 ≤ 2048) (v1 : Int32) (v2 : Int32) : wpX_close (fun r u' => wpY_close (fun r' v' => r' = r ∧ i_Rel (k + 4) u' v') v v1 v2) u v1 v2 := by
  obtain ⟨wc, R, S, B, P, C, W, Re, Be, Ma, p, q, rfl, rfl, hp, hq⟩ := I
  unfold wpX_close
  dsimp only
  refine bf_filX (k1 := 1) (k2 := 2) (by decide) (by decide) hp (fun w h hw hh ew eh B' P' => ?_) (fun no => ?_)
  · dsimp only
    unfold wpY_close
    dsimp only
    refine bf_filY (f1 := 0) (k2 := 2) (by decide) (Or.inr ⟨1, by decide, rfl, rfl⟩) hp (fun w' h' hw' hh' ew' eh' Re' Be' => ?_) (fun no => absurd eh (no w h hw hh ew))
    have h1 := bf_e1 (by omega) (by omega) (ew.symm.trans ew')
    have h2 := bf_e1 (by omega) (by omega) (eh.symm.trans eh')
    subst h1 h2
    obtain ⟨p', hp'⟩ := bf_finV (k1 := 1) (k2 := 2) (w := w) (h := h) hp
    exact ⟨rfl, bf_rel hp' hq⟩
  · dsimp only
    unfold wpY_close
    dsimp only
    exact bf_filY (f1 := 0) (k2 := 2) (by decide) (Or.inr ⟨1, by decide, rfl, rfl⟩) hp (fun w' h' hw' hh' ew' eh' Re' Be' => absurd eh' (no w' h' hw' hh' ew')) (fun _ => ⟨rfl, bf_rel hp hq⟩)
theorem i_vc_mean {k : Nat} {u : SX} {v : SY} (I : i_Rel k u v) (hk : k + 4 ≤ 2048) (v1 : Int32) (v2 : Int32) : wpX_mean (fun r u' => wpY_mean (fun r' v' => r' = r ∧ i_Rel (k + 4) u' v') v v1 v2) u v1 v2 := by
  obtain ⟨wc, R, S, B, P, C, W, Re, Be, Ma, p, q, rfl, rfl, hp, hq⟩ := I
  unfold wpX_mean
  dsimp only
  refine bf_filX (k1 := 3) (k2 := 0) (by decide) (by decide) hp (fun w h hw hh ew eh B' P' => ?_) (fun no => ?_)
  · dsimp only
    unfold wpY_mean
    dsimp only
    refine bf_filY (f1 := 2) (k2 := 0) (by decide) (Or.inl ⟨by decide, rfl⟩) hp (fun w' h' hw' hh' ew' eh' Re' Be' => ?_) (fun no => absurd eh (no w h hw hh ew))
    have h1 := bf_e1 (by omega) (by omega) (ew.symm.trans ew')
    have h2 := bf_e1 (by omega) (by omega) (eh.symm.trans eh')
    subst h1 h2
    obtain ⟨p', hp'⟩ := bf_finV (k1 := 3) (k2 := 0) (w := w) (h := h) hp
    exact ⟨rfl, bf_rel hp' hq⟩
  · dsimp only
    unfold wpY_mean
    dsimp only
    exact bf_filY (f1 := 2) (k2 := 0) (by decide) (Or.inl ⟨by decide, rfl⟩) hp (fun w' h' hw' hh' ew' eh' Re' Be' => absurd eh' (no w' h' hw' hh' ew')) (fun _ => ⟨rfl, bf_rel hp hq⟩)
theorem i_vc_threshold {k : Nat} {u : SX} {v : SY} (I : i_Rel k u v) (hk : k + 4 ≤ 2048) (v1 : Int32) : wpX_threshold (fun r u' => wpY_threshold (fun r' v' => r' = r ∧ i_Rel (k + 4) u' v') v v1) u v1 := by
  obtain ⟨wc, R, S, B, P, C, W, Re, Be, Ma, p, q, rfl, rfl, hp, hq⟩ := I
  exact bf_thrX (bf_thrY ⟨rfl, bf_rel (bf_Vth v1) hq⟩)
theorem i_vc_exchange {k : Nat} {u : SX} {v : SY} (I : i_Rel k u v) (hk : k + 4 ≤ 2048) : wpX_exchange (fun u' => wpY_exchange (fun v' => i_Rel (k + 4) u' v') v) u := by
  obtain ⟨wc, R, S, B, P, C, W, Re, Be, Ma, p, q, rfl, rfl, hp, hq⟩ := I
  exact bf_exchX (bf_exchY (bf_rel (bf_Vov (p := p) hq) (bf_Vov (p := p) hp)))
theorem i_vc_keep {k : Nat} {u : SX} {v : SY} (I : i_Rel k u v) (hk : k + 4 ≤ 2048) : wpX_keep (fun u' => wpY_keep (fun v' => i_Rel (k + 4) u' v') v) u := by
  obtain ⟨wc, R, S, B, P, C, W, Re, Be, Ma, p, q, rfl, rfl, hp, hq⟩ := I
  exact bf_keepX (bf_keepY (bf_rel hp (bf_Vov (p := p) hp)))
theorem i_vc_pixel {k : Nat} {u : SX} {v : SY} (I : i_Rel k u v) (hk : k + 4 ≤ 2048) (v1 : Int32) (v2 : Int32) : wpX_pixel (fun r => wpY_pixel (fun r' => r' = r ∧ i_Rel (k + 4) u v) v v1 v2) u v1 v2 := by
  obtain ⟨wc, R, S, B, P, C, W, Re, Be, Ma, p, q, rfl, rfl, hp, hq⟩ := I
  refine bf_pixelX (fun a b ha hb ea eb => ?_) (fun no => ?_)
  · refine bf_pixelY (fun a' b' ha' hb' ea' eb' => ?_) (fun no => absurd eb (no a b ha hb ea))
    have h1 := bf_e1 ha ha' (ea.symm.trans ea')
    have h2 := bf_e1 hb hb' (eb.symm.trans eb')
    subst h1 h2
    exact ⟨rfl, bf_rel hp hq⟩
  · exact bf_pixelY (fun a' b' ha' hb' ea' eb' => absurd eb' (no a' b' ha' hb' ea')) (fun _ => ⟨rfl, bf_rel hp hq⟩)
theorem i_vc_sum {k : Nat} {u : SX} {v : SY} (I : i_Rel k u v) (hk : k + 4 ≤ 2048) : wpX_sum (fun r => wpY_sum (fun r' => r' = r ∧ i_Rel (k + 4) u v) v) u := by
  obtain ⟨wc, R, S, B, P, C, W, Re, Be, Ma, p, q, rfl, rfl, hp, hq⟩ := I
  exact bf_sumX (bf_sumY ⟨rfl, bf_rel hp hq⟩)
theorem i_vc_equal {k : Nat} {u : SX} {v : SY} (I : i_Rel k u v) (hk : k + 4 ≤ 2048) : wpX_equal (fun r => wpY_equal (fun r' => r' = r ∧ i_Rel (k + 4) u v) v) u := by
  obtain ⟨wc, R, S, B, P, C, W, Re, Be, Ma, p, q, rfl, rfl, hp, hq⟩ := I
  exact bf_equalX (bf_equalY ⟨rfl, bf_rel hp hq⟩)
theorem i_vc_above {k : Nat} {u : SX} {v : SY} (I : i_Rel k u v) (hk : k + 4 ≤ 2048) : wpX_above (fun r => wpY_above (fun r' => r' = r ∧ i_Rel (k + 4) u v) v) u := by
  obtain ⟨wc, R, S, B, P, C, W, Re, Be, Ma, p, q, rfl, rfl, hp, hq⟩ := I
  exact bf_aboveX (bf_aboveY ⟨rfl, bf_rel hp hq⟩)
theorem i_vc_patches {k : Nat} {u : SX} {v : SY} (I : i_Rel k u v) (hk : k + 4 ≤ 2048) : wpX_patches (fun r u' => wpY_patches (fun r' v' => r' = r ∧ i_Rel (k + 4) u' v') v) u := by
  obtain ⟨wc, R, S, B, P, C, W, Re, Be, Ma, p, q, rfl, rfl, hp, hq⟩ := I
  exact bf_patchesX (fun _ _ _ => bf_patchesY (fun _ => ⟨rfl, bf_rel hp hq⟩))
end
