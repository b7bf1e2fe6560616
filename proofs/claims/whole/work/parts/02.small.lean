-- own rows: the walks of the small methods
section
variable {wc : Int32} {R S B P C W Re Be Ma : Nat → Int32}
theorem bf_copyS {post : SX → Prop} (h : post (wc, R, bf_ov R 256 S, B, P, C, W)) : wpX_copy__raster_spare post (wc, R, S, B, P, C, W) := by
  obtain ⟨n, hn⟩ := bf_lp (fun n i => wX_copy__raster_spare_2 post wc n (nI i) R (bf_ov R i S) B P C W) 256 (fun n => br_t bf_e256 h) (fun n i hi ih => br_f (bf_n256 hi) ⟨bf_in hi, bf_in hi, nm_r (bf_up hi (bf_r0 hi)) (nm_r (nI_1 i) ih)⟩)
  rw [bf_ov0] at hn
  exact ⟨n, hn⟩
theorem bf_copyP {post : SX → Prop} (h : post (wc, R, S, B, bf_ov R 256 P, C, W)) : wpX_copy__raster_passSource post (wc, R, S, B, P, C, W) := by
  obtain ⟨n, hn⟩ := bf_lp (fun n i => wX_copy__raster_passSource_2 post wc n (nI i) R S B (bf_ov R i P) C W) 256 (fun n => br_t bf_e256 h) (fun n i hi ih => br_f (bf_n256 hi) ⟨bf_in hi, bf_in hi, nm_r (bf_up hi (bf_r0 hi)) (nm_r (nI_1 i) ih)⟩)
  rw [bf_ov0] at hn
  exact ⟨n, hn⟩
theorem bf_copyB {post : SX → Prop} (h : post (wc, R, S, bf_ov R 256 B, P, C, W)) : wpX_copy__raster_beforeFilter post (wc, R, S, B, P, C, W) := by
  obtain ⟨n, hn⟩ := bf_lp (fun n i => wX_copy__raster_beforeFilter_2 post wc n (nI i) R S (bf_ov R i B) P C W) 256 (fun n => br_t bf_e256 h) (fun n i hi ih => br_f (bf_n256 hi) ⟨bf_in hi, bf_in hi, nm_r (bf_up hi (bf_r0 hi)) (nm_r (nI_1 i) ih)⟩)
  rw [bf_ov0] at hn
  exact ⟨n, hn⟩
theorem bf_diffS {post : Int32 → Prop} (h : post (nI (bf_cn (fun j => ¬ R j = S j) 256))) : wpX_differences__raster_spare post (wc, R, S, B, P, C, W) := by
  refine bf_lp (fun n i => wX_differences__raster_spare_4 post wc R S B P C W n (nI (bf_cn (fun j => ¬ R j = S j) i)) (nI i)) 256 (fun n => br_t bf_e256 h) (fun n i hi ih => br_f (bf_n256 hi) ⟨bf_in hi, bf_in hi, br_c (fun e => nm_r (nI_1 i) ?_) (fun e => nm_r (nI_1 _) (nm_r (nI_1 i) ?_))⟩)
  · rw [bf_cl hi] at e
    rw [bf_cnf (p := fun j => ¬ R j = S j) (fun z => z e)] at ih
    exact ih
  · rw [bf_cl hi] at e
    rw [bf_cnt (p := fun j => ¬ R j = S j) e] at ih
    exact ih
theorem bf_diffB {post : Int32 → Prop} (h : post (nI (bf_cn (fun j => ¬ R j = B j) 256))) : wpX_differences__raster_beforeFilter post (wc, R, S, B, P, C, W) := by
  refine bf_lp (fun n i => wX_differences__raster_beforeFilter_4 post wc R S B P C W n (nI (bf_cn (fun j => ¬ R j = B j) i)) (nI i)) 256 (fun n => br_t bf_e256 h) (fun n i hi ih => br_f (bf_n256 hi) ⟨bf_in hi, bf_in hi, br_c (fun e => nm_r (nI_1 i) ?_) (fun e => nm_r (nI_1 _) (nm_r (nI_1 i) ?_))⟩)
  · rw [bf_cl hi] at e
    rw [bf_cnf (p := fun j => ¬ R j = B j) (fun z => z e)] at ih
    exact ih
  · rw [bf_cl hi] at e
    rw [bf_cnt (p := fun j => ¬ R j = B j) e] at ih
    exact ih
theorem bf_diffY {post : Int32 → SY → Prop} (h : post (nI (bf_cn (fun j => ¬ R j = Be j) 256)) (R, S, Re, Be, Ma)) : ∃ n, wY_filter_82 post R S Re Be Ma n 0 0 := by
  refine bf_lp (fun n i => wY_filter_82 post R S Re Be Ma n (nI (bf_cn (fun j => ¬ R j = Be j) i)) (nI i)) 256 (fun n => br_t bf_e256 h) (fun n i hi ih => br_f (bf_n256 hi) ⟨bf_in hi, bf_in hi, br_c (fun e => nm_r (nI_1 i) ?_) (fun e => nm_r (nI_1 _) (nm_r (nI_1 i) ?_))⟩)
  · rw [bf_cl hi] at e
    rw [bf_cnf (p := fun j => ¬ R j = Be j) (fun z => z e)] at ih
    exact ih
  · rw [bf_cl hi] at e
    rw [bf_cnt (p := fun j => ¬ R j = Be j) e] at ih
    exact ih
theorem bf_equalX {post : Int32 → Prop} (h : post (nI (bf_cn (fun j => R j = S j) 256))) : wpX_equal post (wc, R, S, B, P, C, W) := by
  refine bf_diffS (post := fun r => post (256 - r)) ?_
  have e := bf_cnn (fun j => R j = S j) 256
  have l := bf_cnle (fun j => ¬ R j = S j) 256
  have q : (256 : Int32) - nI (bf_cn (fun j => ¬ R j = S j) 256) = nI (bf_cn (fun j => R j = S j) 256) := by
    rw [show (256 : Int32) = nI 256 from rfl, pk_sub l]
    exact congrArg nI (by omega)
  rw [q]
  exact h
theorem bf_equalY {post : Int32 → Prop} (h : post (nI (bf_cn (fun j => R j = S j) 256))) : wpY_equal post (R, S, Re, Be, Ma) := by
  refine bf_lp (fun n i => wY_equal_4 post R S Re Be Ma n (nI (bf_cn (fun j => R j = S j) i)) (nI i)) 256 (fun n => br_t bf_e256 h) (fun n i hi ih => br_f (bf_n256 hi) ⟨bf_in hi, bf_in hi, br_c (fun e => nm_r (nI_1 _) (nm_r (nI_1 i) ?_)) (fun e => nm_r (nI_1 i) ?_)⟩)
  · rw [bf_cl hi] at e
    rw [bf_cnt (p := fun j => R j = S j) e] at ih
    exact ih
  · rw [bf_cl hi] at e
    rw [bf_cnf (p := fun j => R j = S j) e] at ih
    exact ih
theorem bf_aboveX {post : Int32 → Prop} (h : post (nI (bf_cn (fun j => ¬ R j ≤ S j) 256))) : wpX_above post (wc, R, S, B, P, C, W) := by
  refine bf_lp (fun n i => wX_above_4 post wc R S B P C W n (nI (bf_cn (fun j => ¬ R j ≤ S j) i)) (nI i)) 256 (fun n => br_t bf_e256 h) (fun n i hi ih => br_f (bf_n256 hi) ⟨bf_in hi, bf_in hi, br_c (fun e => nm_r (nI_1 i) ?_) (fun e => nm_r (nI_1 _) (nm_r (nI_1 i) ?_))⟩)
  · rw [bf_cl hi] at e
    rw [bf_cnf (p := fun j => ¬ R j ≤ S j) (fun z => z e)] at ih
    exact ih
  · rw [bf_cl hi] at e
    rw [bf_cnt (p := fun j => ¬ R j ≤ S j) e] at ih
    exact ih
theorem bf_aboveY {post : Int32 → Prop} (h : post (nI (bf_cn (fun j => ¬ R j ≤ S j) 256))) : wpY_above post (R, S, Re, Be, Ma) := by
  refine bf_lp (fun n i => wY_above_4 post R S Re Be Ma n (nI (bf_cn (fun j => ¬ R j ≤ S j) i)) (nI i)) 256 (fun n => br_t bf_e256 h) (fun n i hi ih => br_f (bf_n256 hi) ⟨bf_in hi, bf_in hi, br_c (fun e => nm_r (nI_1 i) ?_) (fun e => nm_r (nI_1 _) (nm_r (nI_1 i) ?_))⟩)
  · rw [bf_cl hi] at e
    rw [bf_cnf (p := fun j => ¬ R j ≤ S j) (fun z => z e)] at ih
    exact ih
  · rw [bf_cl hi] at e
    rw [bf_cnt (p := fun j => ¬ R j ≤ S j) e] at ih
    exact ih
def bf_sm (R : Nat → Int32) : Nat → Int32
  | 0 => 0
  | n + 1 => bf_sm R n + R n
theorem bf_sumX {post : Int32 → Prop} (h : post (bf_sm R 256)) : wpX_sum post (wc, R, S, B, P, C, W) :=
  bf_lp (fun n i => wX_sum_4 post wc R S B P C W n (bf_sm R i) (nI i)) 256 (fun n => br_t bf_e256 h) (fun n i hi ih => br_f (bf_n256 hi) ⟨bf_in hi, nm_r (congrArg (bf_sm R i + ·) (bf_r0 (f := R) hi)) (nm_r (nI_1 i) ih)⟩)
theorem bf_sumY {post : Int32 → Prop} (h : post (bf_sm R 256)) : wpY_sum post (R, S, Re, Be, Ma) :=
  bf_lp (fun n i => wY_sum_4 post R S Re Be Ma n (bf_sm R i) (nI i)) 256 (fun n => br_t bf_e256 h) (fun n i hi ih => br_f (bf_n256 hi) ⟨bf_in hi, nm_r (congrArg (bf_sm R i + ·) (bf_r0 (f := R) hi)) (nm_r (nI_1 i) ih)⟩)
theorem bf_keepX {post : SX → Prop} (h : post (wc, R, bf_ov R 256 S, B, P, C, W)) : wpX_keep post (wc, R, S, B, P, C, W) := bf_copyS h
theorem bf_keepY {post : SY → Prop} (h : post (R, bf_ov R 256 S, Re, Be, Ma)) : wpY_keep post (R, S, Re, Be, Ma) := by
  obtain ⟨n, hn⟩ := bf_lp (fun n i => wY_keep_2 post n (nI i) R (bf_ov R i S) Re Be Ma) 256 (fun n => br_t bf_e256 h) (fun n i hi ih => br_f (bf_n256 hi) ⟨bf_in hi, bf_in hi, nm_r (bf_up hi (bf_r0 hi)) (nm_r (nI_1 i) ih)⟩)
  rw [bf_ov0] at hn
  exact ⟨n, hn⟩
theorem bf_exchX {post : SX → Prop} (h : post (wc, bf_ov S 256 R, bf_ov R 256 S, B, P, C, W)) : wpX_exchange post (wc, R, S, B, P, C, W) := by
  obtain ⟨n, hn⟩ := bf_lp (fun n i => wX_exchange_2 post wc n (nI i) (bf_ov S i R) (bf_ov R i S) B P C W) 256 (fun n => br_t bf_e256 h) (fun n i hi ih => br_f (bf_n256 hi) ⟨bf_in hi, nm_r (bf_rd hi) ⟨bf_in hi, bf_in hi, nm_r (bf_up hi (bf_rd hi)) ⟨bf_in hi, nm_r (bf_up hi rfl) (nm_r (nI_1 i) ih)⟩⟩⟩)
  rw [bf_ov0, bf_ov0] at hn
  exact ⟨n, hn⟩
theorem bf_exchY {post : SY → Prop} (h : post (bf_ov S 256 R, bf_ov R 256 S, Re, Be, Ma)) : wpY_exchange post (R, S, Re, Be, Ma) := by
  obtain ⟨n, hn⟩ := bf_lp (fun n i => wY_exchange_2 post n (nI i) (bf_ov S i R) (bf_ov R i S) Re Be Ma) 256 (fun n => br_t bf_e256 h) (fun n i hi ih => br_f (bf_n256 hi) ⟨bf_in hi, nm_r (bf_rd hi) ⟨bf_in hi, bf_in hi, nm_r (bf_up hi (bf_rd hi)) ⟨bf_in hi, nm_r (bf_up hi rfl) (nm_r (nI_1 i) ih)⟩⟩⟩)
  rw [bf_ov0, bf_ov0] at hn
  exact ⟨n, hn⟩
def bf_th (R : Nat → Int32) (b : Int32) : Nat → Int32 := fun j => if R j < b then 0 else 255
theorem bf_thT {b : Int32} {i : Nat} (e : R i < b) : 0 = bf_th R b i := (if_pos e).symm
theorem bf_thF {b : Int32} {i : Nat} (e : ¬ R i < b) : 255 = bf_th R b i := (if_neg e).symm
theorem bf_thrX {post : Int32 → SX → Prop} {b : Int32} (h : post (nI (bf_cn (fun j => ¬ R j < b) 256)) (wc, bf_ov (bf_th R b) 256 R, S, B, P, C, W)) : wpX_threshold post (wc, R, S, B, P, C, W) b := by
  obtain ⟨n, hn⟩ := bf_lp (fun n i => wX_threshold_4 post b wc n (nI (bf_cn (fun j => ¬ R j < b) i)) (nI i) (bf_ov (bf_th R b) i R) S B P C W) 256 (fun n => br_t bf_e256 h) (by
    intro n i hi ih
    refine br_f (bf_n256 hi) ⟨bf_in hi, br_c (fun e => ?_) (fun e => ?_)⟩
    · rw [bf_rd hi] at e
      rw [bf_cnf (p := fun j => ¬ R j < b) (fun z => z e)] at ih
      exact ⟨bf_in hi, nm_r (bf_up hi (bf_thT e)) (nm_r (nI_1 i) ih)⟩
    · rw [bf_rd hi] at e
      rw [bf_cnt (p := fun j => ¬ R j < b) e] at ih
      exact ⟨bf_in hi, nm_r (bf_up hi (bf_thF e)) (nm_r (nI_1 _) (nm_r (nI_1 i) ih))⟩)
  rw [bf_ov0] at hn
  exact ⟨n, hn⟩
theorem bf_thrY {post : Int32 → SY → Prop} {b : Int32} (h : post (nI (bf_cn (fun j => ¬ R j < b) 256)) (bf_ov (bf_th R b) 256 R, S, Re, Be, Ma)) : wpY_threshold post (R, S, Re, Be, Ma) b := by
  obtain ⟨n, hn⟩ := bf_lp (fun n i => wY_threshold_4 post b n (nI (bf_cn (fun j => ¬ R j < b) i)) (nI i) (bf_ov (bf_th R b) i R) S Re Be Ma) 256 (fun n => br_t bf_e256 h) (by
    intro n i hi ih
    have q : bf_ov (bf_th R b) (i + 1) R (nI i).toNatClampNeg = bf_th R b i := by rw [bf_cl hi, bf_lo (by omega)]
    refine br_f (bf_n256 hi) ⟨bf_in hi, br_c (fun e => ?_) (fun e => ?_)⟩
    · rw [bf_rd hi] at e
      rw [bf_cnf (p := fun j => ¬ R j < b) (fun z => z e)] at ih
      exact ⟨bf_in hi, nm_r (bf_up hi (bf_thT e)) ⟨bf_in hi, br_f (by rw [q, ← bf_thT e]; decide) (nm_r (nI_1 i) ih)⟩⟩
    · rw [bf_rd hi] at e
      rw [bf_cnt (p := fun j => ¬ R j < b) e] at ih
      exact ⟨bf_in hi, nm_r (bf_up hi (bf_thF e)) ⟨bf_in hi, br_t (by rw [q, ← bf_thF e]) (nm_r (nI_1 _) (nm_r (nI_1 i) ih))⟩⟩)
  rw [bf_ov0] at hn
  exact ⟨n, hn⟩
def bf_pt (a b : Int32) : Nat → Int32 := fun j => (nI (j / 16) * a + nI (j % 16) * b + nI (j / 16) * nI (j % 16)) &&& 255
theorem bf_patX {post : SX → Prop} {a b : Int32} (h : post (wc, bf_ov (bf_pt a b) 256 R, S, B, P, C, W)) : wpX_pattern post (wc, R, S, B, P, C, W) a b := by
  obtain ⟨n, hn⟩ := bf_lp (fun n r => wX_pattern_2 post a b wc n (nI r) (bf_ov (bf_pt a b) (r * 16) R) S B P C W) 16 (fun n => br_t bf_e16 h) (by
    intro n r hr ih
    rw [show (r + 1) * 16 = r * 16 + 16 from by omega] at ih
    refine br_f (bf_n16 hr) (bf_lp (fun m c => wX_pattern_11 post (wX_pattern_2 post a b wc n) a b (nI r) wc m (nI c) (bf_ov (bf_pt a b) (r * 16 + c) R) S B P C W) 16 (fun m => br_t bf_e16 (nm_r (nI_1 r) ih)) ?_)
    intro m c hc ih2
    refine br_f (bf_n16 hc) (nm_e ⟨?_, nm_r ?_ (nm_r (nI_1 c) ih2)⟩)
    · rw [bf_rc]; exact bf_in (by omega)
    · rw [bf_rc]
      refine bf_up (by omega) ?_
      unfold bf_pt
      rw [show (r * 16 + c) / 16 = r from by omega, show (r * 16 + c) % 16 = c from by omega])
  rw [show 0 * 16 = 0 from rfl, bf_ov0] at hn
  exact ⟨n, hn⟩
theorem bf_patY {post : SY → Prop} {a b : Int32} (h : post (bf_ov (bf_pt a b) 256 R, S, Re, Be, Ma)) : wpY_pattern post (R, S, Re, Be, Ma) a b := by
  obtain ⟨n, hn⟩ := bf_lp (fun n i => wY_pattern_2 post a b n (nI i) (bf_ov (bf_pt a b) i R) S Re Be Ma) 256 (fun n => br_t bf_e256 h) (by
    intro n i hi ih
    refine br_f (bf_n256 hi) ⟨bf_16, bf_16, bf_16, bf_16, bf_in hi, nm_r (bf_up hi ?_) (nm_r (nI_1 i) ih)⟩
    unfold bf_pt
    rw [bf_m16 hi, bf_d16 hi])
  rw [bf_ov0] at hn
  exact ⟨n, hn⟩
theorem bf_out {post : Int32 → Prop} {p : Int32} (m : Nat) (hm : m < 2 ^ 31) (h0 : ∀ a, a ≤ m → p = nI a → post 0) (h1 : (∀ a, a ≤ m → ¬ p = nI a) → post 1) : wpX_isOutside post p (nI m) := by
  by_cases e : p < 0
  · refine br_t e (h1 fun a ha z => ?_)
    rw [z] at e
    exact nI_pos (by omega) e
  · obtain ⟨j, hj, rfl⟩ := nI_of e
    refine br_f e (pk_le j m (fun z => h0 j z rfl) (fun z => h1 fun a ha y => ?_))
    rw [nI_eq hj (by omega)] at y
    omega
theorem bf_noPix {post : Int32 → Prop} {p q : Int32} (h0 : ∀ a b, a < 16 → b < 16 → p = nI a → q = nI b → post 0) (h1 : (∀ a b, a < 16 → b < 16 → p = nI a → ¬ q = nI b) → post 1) : wpX_isNoPixel post p q :=
  bf_out 15 (by decide) (fun a ha ea => br_t rfl (bf_out 15 (by decide) (fun b hb eb => br_t rfl (h0 a b (by omega) (by omega) ea eb)) (fun z => br_f (by decide) (h1 fun a' b' _ hb' _ => z b' (by omega))))) (fun z => br_f (by decide) (h1 fun a' b' ha' _ e _ => z a' (by omega) e))
theorem bf_pix {post : Int32 → Prop} {u : SY} {p q : Int32} (h1 : ∀ a b, a < 16 → b < 16 → p = nI a → q = nI b → post 1) (h0 : (∀ a b, a < 16 → b < 16 → p = nI a → ¬ q = nI b) → post 0) : wpY_isPixel post u p q := by
  obtain ⟨R, S, Re, Be, Ma⟩ := u
  refine br_c (fun e => h0 fun a b ha hb ea => ?_) (fun e => br_c (fun e2 => h0 fun a b ha hb ea => ?_) (fun e2 => br_c (fun e3 => h0 fun a b ha hb ea eb => ?_) (fun e3 => br_c (fun e4 => h0 fun a b ha hb ea eb => ?_) (fun e4 => ?_))))
  · rw [ea] at e
    exact absurd e (nI_pos (by omega))
  · rw [ea] at e2
    exact absurd e2 (bf_n16 ha)
  · rw [eb] at e3
    exact absurd e3 (nI_pos (by omega))
  · rw [eb] at e4
    exact absurd e4 (bf_n16 hb)
  · obtain ⟨a, ha, rfl⟩ := nI_of e
    obtain ⟨b, hb, rfl⟩ := nI_of e3
    have f (x : Nat) (hx : x < 2 ^ 31) (z : ¬ (16 : Int32) ≤ nI x) : x < 16 := by
      by_cases y : x < 16
      · exact y
      · exact absurd (nI_le (a := 16) (by omega) hx) z
    exact h1 a b (f a ha e2) (f b hb e4) rfl rfl
theorem bf_pixelX {post : Int32 → Prop} {p q : Int32} (h1 : ∀ a b, a < 16 → b < 16 → p = nI a → q = nI b → post (R (a * 16 + b))) (h0 : (∀ a b, a < 16 → b < 16 → p = nI a → ¬ q = nI b) → post (-1)) : wpX_pixel post (wc, R, S, B, P, C, W) p q := by
  unfold wpX_pixel
  dsimp only
  refine bf_noPix (fun a b ha hb ea eb => br_t rfl ?_) (fun z => br_f (by decide) (h0 z))
  have hi : a * 16 + b < 256 := by omega
  have h := h1 a b ha hb ea eb
  rw [ea, eb, bf_rc, bf_cl hi]
  exact ⟨bf_in hi, h⟩
theorem bf_pixelY {post : Int32 → Prop} {p q : Int32} (h1 : ∀ a b, a < 16 → b < 16 → p = nI a → q = nI b → post (R (a * 16 + b))) (h0 : (∀ a b, a < 16 → b < 16 → p = nI a → ¬ q = nI b) → post (-1)) : wpY_pixel post (R, S, Re, Be, Ma) p q := by
  unfold wpY_pixel
  dsimp only
  refine bf_pix (fun a b ha hb ea eb => br_f (by decide) ?_) (fun z => br_t rfl (h0 z))
  have hi : a * 16 + b < 256 := by omega
  have h := h1 a b ha hb ea eb
  rw [ea, eb, bf_rc, bf_cl hi]
  exact ⟨bf_in hi, h⟩
theorem bf_setX {post : Int32 → SX → Prop} {p q v : Int32} (h2 : ∀ a b c, a < 16 → b < 16 → c ≤ 255 → p = nI a → q = nI b → v = nI c → post (R (a * 16 + b)) (wc, upd R (a * 16 + b) v, S, B, P, C, W)) (h1 : ∀ a b, a < 16 → b < 16 → p = nI a → q = nI b → (∀ c, c ≤ 255 → ¬ v = nI c) → post (-2) (wc, R, S, B, P, C, W)) (h0 : (∀ a b, a < 16 → b < 16 → p = nI a → ¬ q = nI b) → post (-1) (wc, R, S, B, P, C, W)) : wpX_set post (wc, R, S, B, P, C, W) p q v := by
  unfold wpX_set
  dsimp only
  refine bf_noPix (fun a b ha hb ea eb => br_t rfl (bf_out 255 (by decide) (fun c hc ec => br_t rfl ?_) (fun z => br_f (by decide) (h1 a b ha hb ea eb z)))) (fun z => br_f (by decide) (h0 z))
  have hi : a * 16 + b < 256 := by omega
  have h := h2 a b c ha hb hc ea eb ec
  refine nm_r (e' := nI (a * 16 + b)) (by rw [ea, eb, bf_rc]) ⟨bf_in hi, nm_r (bf_r0 hi) ⟨bf_in hi, nm_r (e' := upd R (a * 16 + b) v) (by rw [bf_cl hi]) h⟩⟩
theorem bf_setY {post : Int32 → SY → Prop} {p q v : Int32} (h2 : ∀ a b c, a < 16 → b < 16 → c ≤ 255 → p = nI a → q = nI b → v = nI c → post (R (a * 16 + b)) (upd R (a * 16 + b) v, S, Re, Be, Ma)) (h1 : ∀ a b, a < 16 → b < 16 → p = nI a → q = nI b → (∀ c, c ≤ 255 → ¬ v = nI c) → post (-2) (R, S, Re, Be, Ma)) (h0 : (∀ a b, a < 16 → b < 16 → p = nI a → ¬ q = nI b) → post (-1) (R, S, Re, Be, Ma)) : wpY_set post (R, S, Re, Be, Ma) p q v := by
  unfold wpY_set
  dsimp only
  refine bf_pix (fun a b ha hb ea eb => br_f (by decide) (br_c (fun e => h1 a b ha hb ea eb fun c hc ec => ?_) (fun e => br_c (fun e2 => ?_) (fun e2 => h1 a b ha hb ea eb fun c hc ec => ?_)))) (fun z => br_t rfl (h0 z))
  · rw [ec] at e
    exact absurd e (nI_pos (by omega))
  · obtain ⟨c, hc, ec⟩ := nI_of e
    rw [ec] at e2
    have hc' : c ≤ 255 := (nI_leI (b := 255) hc (by decide)).mp e2
    have hi : a * 16 + b < 256 := by omega
    have h := h2 a b c ha hb hc' ea eb ec
    rw [ea, eb, bf_rc, bf_cl hi]
    exact ⟨bf_in hi, nm_e ⟨bf_in hi, nm_e h⟩⟩
  · rw [ec] at e2
    exact absurd (nI_le (b := 255) hc (by decide)) e2
end
