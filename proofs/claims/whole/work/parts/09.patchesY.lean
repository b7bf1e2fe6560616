-- own rows: patches in the reference
/-- each bright cell's mark is a cell of its patch, not behind it -/
def bf_L (G : Nat → Prop) (M : Nat → Int32) : Prop := ∀ j, j < 256 → (¬ G j → M j = -1) ∧ (G j → ∃ a, a ≤ j ∧ M j = nI a ∧ G a ∧ bf_con G a j)
def bf_ms (M : Nat → Int32) : Nat := bf_su (fun j => (M j).toNatClampNeg) 256
def bf_le (G : Nat → Prop) (M : Nat → Int32) (i j : Nat) : Prop := G j → (M i).toNatClampNeg ≤ (M j).toNatClampNeg
section
variable {R S Re Be M M0 : Nat → Int32}
theorem bf_take {post : Int32 → SY → Prop} {i j : Nat} (L : bf_L (bf_G R) M) (a : bf_adj i j) (gi : bf_G R i) (h0 : bf_le (bf_G R) M i j → post 0 (R, S, Re, Be, M)) (h1 : ∀ M', bf_L (bf_G R) M' → bf_ms M' < bf_ms M → post 1 (R, S, Re, Be, M')) : wpY_take post (R, S, Re, Be, M) (nI i) (nI j) := by
  have hi := a.1
  have hj := a.2.1
  by_cases gj : bf_G R j
  · obtain ⟨b, hb, eb, gb, cb⟩ := (L j hj).2 gj
    obtain ⟨c, hc, ec, gc, cc⟩ := (L i hi).2 gi
    refine ⟨bf_in hj, br_f (by rw [bf_cl hj, eb]; exact nI_pos (by omega)) ⟨bf_in hj, bf_in hi, pk_lt b c (fun lt => ⟨bf_in hj, bf_in hi, nm_r (e' := upd M i (nI b)) (by rw [bf_cl hi, bf_cl hj, eb]) (h1 _ ?_ ?_)⟩) (fun ge => h0 fun _ => ?_) (hx := by rw [bf_cl hj, eb]) (hy := by rw [bf_cl hi, ec])⟩⟩
    · intro k hk
      by_cases e : k = i
      · subst e
        refine ⟨fun z => absurd gi z, fun _ => ⟨b, by omega, by rw [pk_us], gb, bf_conT cb (bf_con1 (bf_adjS a) gi)⟩⟩
      · rw [pk_un e]
        exact L k hk
    · refine bf_sul (i := i) ?_ (fun k hk => ?_) 256 hi
      · rw [pk_us, ec, nI_clamp (by omega), nI_clamp (by omega)]
        exact lt
      · rw [pk_un hk]
    · rw [eb, ec, nI_clamp (by omega), nI_clamp (by omega)]
      exact ge
  · exact ⟨bf_in hj, br_t (by rw [bf_cl hj, (L j hj).1 gj]; decide) (h0 fun g => absurd g gj)⟩
/-- nothing changed since M0, and Q; or the sum of the marks has fallen -/
def bf_PP (G : Nat → Prop) (M0 M : Nat → Int32) (z : Int32) (Q : Prop) : Prop := bf_L G M ∧ ((z = 0 ∧ M = M0 ∧ Q) ∨ (z = 1 ∧ bf_ms M < bf_ms M0))
theorem bf_PPm {G : Nat → Prop} {z : Int32} {Q Q' : Prop} (h : Q → Q') (I : bf_PP G M0 M z Q) : bf_PP G M0 M z Q' := ⟨I.1, I.2.elim (fun t => Or.inl ⟨t.1, t.2.1, h t.2.2⟩) Or.inr⟩
theorem bf_tk {post : Int32 → SY → Prop} {i j : Nat} {z : Int32} {Q : Prop} (I : bf_PP (bf_G R) M0 M z Q) (a : bf_adj i j) (gi : bf_G R i) (h0 : bf_PP (bf_G R) M0 M z (Q ∧ bf_le (bf_G R) M0 i j) → post 0 (R, S, Re, Be, M)) (h1 : ∀ M', (∀ Q', bf_PP (bf_G R) M0 M' 1 Q') → post 1 (R, S, Re, Be, M')) : wpY_take post (R, S, Re, Be, M) (nI i) (nI j) := by
  obtain ⟨L, I⟩ := I
  refine bf_take L a gi (fun le => h0 ⟨L, ?_⟩) (fun M' L' lt => h1 M' (fun Q' => ⟨L', Or.inr ⟨rfl, ?_⟩⟩))
  · rcases I with ⟨a, b, c⟩ | I
    · subst b
      exact Or.inl ⟨a, rfl, c, le⟩
    · exact Or.inr I
  · rcases I with ⟨a, b, c⟩ | I
    · subst b
      exact lt
    · exact Nat.lt_trans lt I.2
def bf_Da (R M : Nat → Int32) (i : Nat) : Prop := 0 < i % 16 → bf_le (bf_G R) M i (i - 1)
def bf_Db (R M : Nat → Int32) (i : Nat) : Prop := i % 16 < 15 → bf_le (bf_G R) M i (i + 1)
def bf_Dc (R M : Nat → Int32) (i : Nat) : Prop := 0 < i / 16 → bf_le (bf_G R) M i (i - 16)
def bf_Dd (R M : Nat → Int32) (i : Nat) : Prop := i / 16 < 15 → bf_le (bf_G R) M i (i + 16)
def bf_D4 (R M : Nat → Int32) (i : Nat) : Prop := ((bf_Da R M i ∧ bf_Db R M i) ∧ bf_Dc R M i) ∧ bf_Dd R M i
theorem bf_s104 {post : Int32 → SY → Prop} {i : Nat} (h : ∀ z M, bf_PP (bf_G R) M0 M z (bf_D4 R M0 i) → post z (R, S, Re, Be, M)) {z : Int32} (I : bf_PP (bf_G R) M0 M z (bf_D4 R M0 i)) : wY_spread_104 post z R S Re Be M := by
  have q := h z M I
  rcases I.2 with ⟨e, _⟩ | ⟨e, _⟩
  · subst e
    exact br_t rfl q
  · subst e
    exact br_f (by decide) q
theorem bf_s82 {post : Int32 → SY → Prop} {i : Nat} (hi : i < 256) (gi : bf_G R i) (h : ∀ z M, bf_PP (bf_G R) M0 M z (bf_D4 R M0 i) → post z (R, S, Re, Be, M)) {z : Int32} (I : bf_PP (bf_G R) M0 M z ((bf_Da R M0 i ∧ bf_Db R M0 i) ∧ bf_Dc R M0 i)) : wY_spread_82 post (nI i) z R S Re Be M := by
  refine ⟨bf_16, pk_le 15 (i / 16) (fun e => bf_s104 h (bf_PPm (fun q => ⟨q, fun lt => by omega⟩) I)) (fun e => ?_) (hy := bf_d16 hi)⟩
  rw [show nI i + 16 = nI (i + 16) from nI_add i 16]
  refine bf_tk I (by unfold bf_adj; omega) gi (fun I' => ?_) (fun M' I' => ?_)
  · dsimp only
    exact br_t rfl (bf_s104 h (bf_PPm (fun q => ⟨q.1, fun _ => q.2⟩) I'))
  · dsimp only
    exact br_f (by decide) (h 1 M' (I' _))
theorem bf_s73 {post : Int32 → SY → Prop} {i : Nat} (hi : i < 256) (gi : bf_G R i) (h : ∀ z M, bf_PP (bf_G R) M0 M z (bf_D4 R M0 i) → post z (R, S, Re, Be, M)) {z : Int32} (I : bf_PP (bf_G R) M0 M z ((bf_Da R M0 i ∧ bf_Db R M0 i) ∧ bf_Dc R M0 i)) : wY_spread_73 post (nI i) z R S Re Be M := by
  have q := bf_s82 hi gi h I
  rcases I.2 with ⟨e, _⟩ | ⟨e, _⟩
  · subst e
    exact br_t rfl q
  · subst e
    exact br_f (by decide) q
theorem bf_s53 {post : Int32 → SY → Prop} {i : Nat} (hi : i < 256) (gi : bf_G R i) (h : ∀ z M, bf_PP (bf_G R) M0 M z (bf_D4 R M0 i) → post z (R, S, Re, Be, M)) {z : Int32} (I : bf_PP (bf_G R) M0 M z (bf_Da R M0 i ∧ bf_Db R M0 i)) : wY_spread_53 post (nI i) z R S Re Be M := by
  refine ⟨bf_16, pk_le (i / 16) 0 (fun e => bf_s73 hi gi h (bf_PPm (fun q => ⟨q, fun lt => by omega⟩) I)) (fun e => ?_) (hx := bf_d16 hi)⟩
  rw [show nI i - 16 = nI (i - 16) from pk_sub (b := 16) (by omega)]
  refine bf_tk I (by unfold bf_adj; omega) gi (fun I' => ?_) (fun M' I' => ?_)
  · dsimp only
    exact br_t rfl (bf_s73 hi gi h (bf_PPm (fun q => ⟨q.1, fun _ => q.2⟩) I'))
  · dsimp only
    exact br_f (by decide) (bf_s82 hi gi h (I' _))
theorem bf_s44 {post : Int32 → SY → Prop} {i : Nat} (hi : i < 256) (gi : bf_G R i) (h : ∀ z M, bf_PP (bf_G R) M0 M z (bf_D4 R M0 i) → post z (R, S, Re, Be, M)) {z : Int32} (I : bf_PP (bf_G R) M0 M z (bf_Da R M0 i ∧ bf_Db R M0 i)) : wY_spread_44 post (nI i) z R S Re Be M := by
  have q := bf_s53 hi gi h I
  rcases I.2 with ⟨e, _⟩ | ⟨e, _⟩
  · subst e
    exact br_t rfl q
  · subst e
    exact br_f (by decide) q
theorem bf_s23 {post : Int32 → SY → Prop} {i : Nat} (hi : i < 256) (gi : bf_G R i) (h : ∀ z M, bf_PP (bf_G R) M0 M z (bf_D4 R M0 i) → post z (R, S, Re, Be, M)) {z : Int32} (I : bf_PP (bf_G R) M0 M z (bf_Da R M0 i)) : wY_spread_23 post (nI i) z R S Re Be M := by
  refine ⟨bf_16, pk_le 15 (i % 16) (fun e => bf_s44 hi gi h (bf_PPm (fun q => ⟨q, fun lt => by omega⟩) I)) (fun e => ?_) (hy := bf_m16 hi)⟩
  rw [show nI i + 1 = nI (i + 1) from nI_1 i]
  refine bf_tk I (by unfold bf_adj; omega) gi (fun I' => ?_) (fun M' I' => ?_)
  · dsimp only
    exact br_t rfl (bf_s44 hi gi h (bf_PPm (fun q => ⟨q.1, fun _ => q.2⟩) I'))
  · dsimp only
    exact br_f (by decide) (bf_s53 hi gi h (I' _))
theorem bf_spread {post : Int32 → SY → Prop} {i : Nat} (hi : i < 256) (gi : bf_G R i) (L : bf_L (bf_G R) M0) (h : ∀ z M, bf_PP (bf_G R) M0 M z (bf_D4 R M0 i) → post z (R, S, Re, Be, M)) : wpY_spread post (R, S, Re, Be, M0) (nI i) := by
  have I : bf_PP (bf_G R) M0 M0 0 True := ⟨L, Or.inl ⟨rfl, rfl, True.intro⟩⟩
  refine ⟨bf_16, pk_le (i % 16) 0 (fun e => bf_s23 hi gi h (bf_PPm (fun q lt => by omega) I)) (fun e => ?_) (hx := bf_m16 hi)⟩
  rw [show nI i - 1 = nI (i - 1) from pk_sub (b := 1) (by omega)]
  refine bf_tk I (by unfold bf_adj; omega) gi (fun I' => ?_) (fun M' I' => ?_)
  · dsimp only
    exact br_t rfl (bf_s23 hi gi h (bf_PPm (fun q _ => q.2) I'))
  · dsimp only
    exact br_f (by decide) (bf_s23 hi gi h (I' _))
theorem bf_sweep {post : Int32 → SY → Prop} {J : Int32 → (Nat → Int32) → (Nat → Int32) → (Nat → Int32) → (Nat → Int32) → (Nat → Int32) → Prop} (L : bf_L (bf_G R) M0) (h : ∀ z M, bf_PP (bf_G R) M0 M z (∀ k, k < 256 → bf_G R k → bf_D4 R M0 k) → J z R S Re Be M) : ∃ n, wY_patches_45 post J n 0 0 R S Re Be M0 := by
  refine loop_0 (σ := Int32 × (Nat → Int32)) (fun n i σ => wY_patches_45 post J n σ.1 (nI i) R S Re Be σ.2) (fun i σ => bf_PP (bf_G R) M0 σ.2 σ.1 (∀ k, k < i → bf_G R k → bf_D4 R M0 k)) 256 (0, M0) ⟨L, Or.inl ⟨rfl, rfl, fun k hk => absurd hk (Nat.not_lt_zero k)⟩⟩ (fun n σ I => br_t bf_e256 (h _ _ I)) ?_
  rintro n i ⟨f, M⟩ hi I rec
  dsimp only at I rec
  show wY_patches_45 post J (n + 1) f (nI i) R S Re Be M
  refine br_f (bf_n256 hi) ⟨bf_in hi, br_c (fun e => nm_r (nI_1 i) ?_) (fun e => ?_)⟩
  · rw [bf_cl hi] at e
    refine rec (f, M) (bf_PPm (fun q k hk g => ?_) I)
    by_cases ki : k = i
    · subst ki
      obtain ⟨a, ha, ea, _⟩ := (I.1 k hi).2 g
      rw [ea] at e
      exact absurd e (nI_pos (by omega))
    · exact q k (by omega) g
  · rw [bf_cl hi] at e
    have gi : bf_G R i := by
      by_cases g : bf_G R i
      · exact g
      · rw [(I.1 i hi).1 g] at e
        exact absurd (by decide) e
    refine bf_spread hi gi I.1 (fun z M' I' => ?_)
    dsimp only
    rcases I'.2 with ⟨ez, eM, d⟩ | ⟨ez, lt⟩
    · subst ez eM
      refine br_t rfl (nm_r (nI_1 i) (rec (f, M') ?_))
      rcases I.2 with ⟨a, b, c⟩ | r
      · subst b
        refine ⟨I.1, Or.inl ⟨a, rfl, fun k hk g => ?_⟩⟩
        by_cases ki : k = i
        · rw [ki]; exact d
        · exact c k (by omega) g
      · exact ⟨I.1, Or.inr r⟩
    · subst ez
      refine br_f (by decide) (nm_r (nI_1 i) (rec (1, M') ⟨I'.1, Or.inr ⟨rfl, ?_⟩⟩))
      rcases I.2 with ⟨a, b, c⟩ | r
      · subst b
        exact lt
      · exact Nat.lt_trans lt r.2
theorem bf_D4adj {k j : Nat} (d : bf_D4 R M k) (a : bf_adj k j) : bf_le (bf_G R) M k j := by
  obtain ⟨⟨⟨da, db⟩, dc⟩, dd⟩ := d
  obtain ⟨hk, hj, h | h | h | h⟩ := a
  · rw [show j = k - 1 from by omega]; exact da h.2
  · rw [show j = k + 1 from by omega]; exact db h.2
  · rw [show j = k - 16 from by omega]; exact dc (by omega)
  · rw [show j = k + 16 from by omega]; exact dd (by omega)
theorem bf_fix (L : bf_L (bf_G R) M) (F : ∀ k, k < 256 → bf_G R k → bf_D4 R M k) : ∀ j, j < 256 → (M j = nI j ↔ bf_root (bf_G R) j) := by
  have same : ∀ i j, i < 256 → bf_G R i → bf_con (bf_G R) i j → (M j).toNatClampNeg = (M i).toNatClampNeg := by
    intro i j hi gi c
    refine (c (fun k => (k < 256 ∧ bf_G R k) ∧ (M k).toNatClampNeg = (M i).toNatClampNeg) (fun k l t a g => ⟨⟨a.2.1, g⟩, ?_⟩) ⟨⟨hi, gi⟩, rfl⟩).2
    have h1 := bf_D4adj (F k t.1.1 t.1.2) a g
    have h2 := bf_D4adj (F l a.2.1 g) (bf_adjS a) t.1.2
    have h3 := t.2
    omega
  intro j hj
  constructor
  · intro e
    have gj : bf_G R j := by
      by_cases g : bf_G R j
      · exact g
      · rw [(L j hj).1 g] at e
        have : (-1 : Int32) < 0 := by decide
        rw [e] at this
        exact absurd this (nI_pos (by omega))
    refine ⟨gj, fun k hk gk c => ?_⟩
    obtain ⟨a, ha, ea, _⟩ := (L k (by omega)).2 gk
    have s := same k j (by omega) gk c
    rw [e, ea, nI_clamp (by omega), nI_clamp (by omega)] at s
    omega
  · rintro ⟨gj, r⟩
    obtain ⟨a, ha, ea, ga, ca⟩ := (L j hj).2 gj
    by_cases aj : a = j
    · rw [ea, aj]
    · exact absurd ca (r a (by omega) ga)
theorem bf_cntY {post : Int32 → SY → Prop} (h : post (nI (bf_cn (fun j => M j = nI j) 256)) (R, S, Re, Be, M)) : ∃ n, wY_patches_84 post R S Re Be M n 0 0 := by
  refine bf_lp (fun n i => wY_patches_84 post R S Re Be M n (nI (bf_cn (fun j => M j = nI j) i)) (nI i)) 256 (fun n => br_t bf_e256 h) (fun n i hi ih => br_f (bf_n256 hi) ⟨bf_in hi, br_c (fun e => nm_r (nI_1 _) (nm_r (nI_1 i) ?_)) (fun e => nm_r (nI_1 i) ?_)⟩)
  · rw [bf_cl hi] at e
    rw [bf_cnt (p := fun j => M j = nI j) e] at ih
    exact ih
  · rw [bf_cl hi] at e
    rw [bf_cnf (p := fun j => M j = nI j) e] at ih
    exact ih
theorem bf_while {post : Int32 → SY → Prop} (L : bf_L (bf_G R) M) (q : ∀ M', post (nI (bf_cn (bf_root (bf_G R)) 256)) (R, S, Re, Be, M')) : ∃ n, wY_patches_37 post n 1 R S Re Be M := by
  refine loop_m (σ := Int32 × (Nat → Int32)) (fun n σ => wY_patches_37 post n σ.1 R S Re Be σ.2) (fun σ => bf_L (bf_G R) σ.2 ∧ (σ.1 = 0 → ∀ k, k < 256 → bf_G R k → bf_D4 R σ.2 k)) (fun σ => 2 * bf_ms σ.2 + (if σ.1 = 0 then 0 else 1)) ?_ (1, M) ⟨L, fun z => absurd (show (1 : Int32) = 0 from z) (by decide)⟩
  rintro n ⟨f, M⟩ ⟨L, F⟩ rec
  dsimp only at L F rec
  show wY_patches_37 post (n + 1) f R S Re Be M
  refine br_c (fun e => bf_cntY ?_) (fun e => bf_sweep L (fun z M' I => rec (z, M') ⟨I.1, fun ez => ?_⟩ ?_))
  · rw [bf_cnc 256 (bf_fix L (F e))]
    exact q M
  · dsimp only at ez ⊢
    rcases I.2 with ⟨_, b, c⟩ | ⟨z1, _⟩
    · rw [b]; exact c
    · rw [ez] at z1
      exact absurd z1 (by decide)
  · dsimp only
    rw [if_neg e]
    rcases I.2 with ⟨a, b, c⟩ | ⟨z1, lt⟩
    · rw [a, b, if_pos rfl]
      omega
    · rw [z1, if_neg (by decide)]
      omega
def bf_m0 (R : Nat → Int32) : Nat → Int32 := fun j => if R j ≤ 0 then -1 else nI j
theorem bf_patchesY {Ma : Nat → Int32} {post : Int32 → SY → Prop} (q : ∀ M', post (nI (bf_cn (bf_root (bf_G R)) 256)) (R, S, Re, Be, M')) : wpY_patches post (R, S, Re, Be, Ma) := by
  have L : bf_L (bf_G R) (bf_ov (bf_m0 R) 256 Ma) := by
    intro j hj
    rw [bf_lo hj]
    unfold bf_m0
    refine ⟨fun g => ?_, fun g => ⟨j, Nat.le_refl j, if_neg g, g, bf_conR j⟩⟩
    by_cases e : R j ≤ 0
    · exact if_pos e
    · exact absurd e g
  obtain ⟨n, hn⟩ := bf_lp (fun n i => wY_patches_2 post n (nI i) R S Re Be (bf_ov (bf_m0 R) i Ma)) 256 (fun n => br_t bf_e256 (bf_while L q)) (by
    intro n i hi ih
    refine br_f (bf_n256 hi) ⟨bf_in hi, br_c (fun e => ⟨bf_in hi, nm_r (bf_up hi ?_) (nm_r (nI_1 i) ih)⟩) (fun e => ⟨bf_in hi, nm_r (bf_up hi ?_) (nm_r (nI_1 i) ih)⟩)⟩
    · rw [bf_cl hi] at e
      exact (if_pos e).symm
    · rw [bf_cl hi] at e
      exact (if_neg e).symm)
  rw [bf_ov0] at hn
  exact ⟨n, hn⟩
end
