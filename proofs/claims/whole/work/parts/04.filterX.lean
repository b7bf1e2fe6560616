-- own rows: the filters' walk in the component
section
variable {wc : Int32} {R S B P C W : Nat → Int32} {p : Nat → Nat}
theorem bf_wend {post : Int32 → Prop} {a b : Nat} (ha : a < 16) (hb : b ≤ 7) (h : post (nI (bf_we a b))) : wpX_windowEnd post (nI a) (nI b) := by
  refine pk_le 15 (a + b) (fun e => ?_) (fun e => ?_) (hy := nI_add a b)
  · rw [show bf_we a b = 15 from by unfold bf_we; omega] at h
    exact h
  · rw [show bf_we a b = a + b from by unfold bf_we; omega, ← nI_add] at h
    exact h
theorem bf_wstart {post : Int32 → Prop} {a b : Nat} (ha : a < 16) (hb : b ≤ 7) (h : post (nI (a - b))) : wpX_windowStart post (nI a) (nI b) := by
  refine pk_le a b (fun e => ?_) (fun e => ?_)
  · rw [show a - b = 0 from by omega] at h
    exact h
  · rw [← pk_sub (by omega)] at h
    exact h
abbrev bf_J (J : Int32 → Int32 → Int32 → Int32 → Int32 → Prop) (s : bf_S4) (x : Int32) : Prop := J (nI s.1) (nI s.2.1) (nI s.2.2.1) (nI s.2.2.2) x
theorem bf_x89 {post : Int32 → Prop} {J38 J53 : Int32 → Int32 → Int32 → Int32 → Int32 → Prop} {x1 x3 x4 x6 x7 x12 : Int32} {g l t k c v : Nat} (hl : l ≤ 255) (hv : v ≤ 255) (h : J53 (nI g) (nI (if l ≤ v then l else v)) (nI (t + v)) (nI (k + 1)) (nI (c + 1))) : wX_windowValue_89 post J38 J53 x1 x3 x4 x6 x7 (nI l) (nI t) (nI k) x12 (nI c) (nI v) (nI g) wc R S B P C W := by
  refine pk_le l v (fun e => ?_) (fun e => ?_)
  · rw [if_pos e] at h
    exact nm_r (nI_add t v) (nm_r (nI_1 k) (nm_r (nI_1 c) h))
  · rw [if_neg (by omega)] at h
    exact nm_r (nI_add t v) (nm_r (nI_1 k) (nm_r (nI_1 c) h))
theorem bf_x53 {post : Int32 → Prop} {J38 : Int32 → Int32 → Int32 → Int32 → Int32 → Prop} {x1 x3 x4 x6 : Int32} (hp : bf_V p P) {r c1 : Nat} (hr : r < 16) (hc1 : c1 < 16) : ∀ d c s, c + d = c1 + 1 → bf_O s → bf_J J38 (bf_row p c d r s) (nI (r + 1)) → bf_J (wX_windowValue_53 post J38 x1 x3 x4 x6 (nI c1) (nI r) wc R S B P C W (d + 1)) s (nI c) := by
  intro d
  induction d with
  | zero =>
    intro c s hc _ h
    exact br_t (nI_lt (by omega) (by omega)) (nm_r (nI_1 r) h)
  | succ d ih =>
    intro c s hc o h
    have hi : r * 16 + c < 256 := by omega
    obtain ⟨hv, ev⟩ := hp _ hi
    have st := ih (c + 1) (bf_st (p (r * 16 + c)) s) (by omega) (bf_Os hv o) h
    obtain ⟨g, l, t, k⟩ := s
    obtain ⟨hg, hl, ht⟩ := o
    dsimp only at hg hl ht
    unfold bf_J bf_st at st
    dsimp only at st
    refine br_f (nI_nlt (by omega) (by omega)) ⟨by rw [bf_rc]; exact bf_in hi, nm_r (e' := nI (p (r * 16 + c))) (by rw [bf_rc, bf_cl hi, ev]) (pk_le (p (r * 16 + c)) g (fun e => ?_) (fun e => ?_))⟩
    · rw [if_pos e] at st
      exact bf_x89 hl hv st
    · rw [if_neg (by omega)] at st
      exact bf_x89 hl hv st
theorem bf_x38 {post : Int32 → Prop} {kind col w r1 c1 : Nat} (hk : kind ≤ 3) (hp : bf_V p P) (hcol : col < 16) (hw : w ≤ 7) (hr1 : r1 < 16) (hc1 : c1 < 16) (hcc : col - w ≤ c1) : ∀ d r s, r + d = r1 + 1 → bf_O s → 0 < (bf_win p r d (col - w) (c1 + 1 - (col - w)) s).2.2.2 → (bf_win p r d (col - w) (c1 + 1 - (col - w)) s).2.2.2 ≤ 256 → post (nI (bf_val kind (bf_win p r d (col - w) (c1 + 1 - (col - w)) s))) → bf_J (wX_windowValue_38 post (nI kind) (nI col) (nI w) (nI r1) (nI c1) wc R S B P C W (d + 1)) s (nI r) := by
  intro d
  induction d with
  | zero =>
    intro r s hr o k0 k1 h
    change 0 < s.2.2.2 at k0
    change s.2.2.2 ≤ 256 at k1
    change post (nI (bf_val kind s)) at h
    unfold bf_val at h
    have ot := o.2.2
    refine br_t (nI_lt (by omega) (by omega)) (pk_eq kind 1 (fun e => ?_) (fun e => pk_eq kind 2 (fun e2 => ?_) (fun e2 => br_f (nI_nle k0 (by omega)) ⟨nI_ne0 k0 (by omega), ?_⟩)))
    · rw [if_pos e] at h
      exact h
    · rw [if_neg e, if_pos e2] at h
      exact h
    · rw [if_neg e, if_neg e2] at h
      rw [pk_div (by omega) k0 (by omega)]
      exact h
  | succ d ih =>
    intro r s hr o k0 k1 h
    refine br_f (nI_nlt (by omega) (by omega)) (bf_wstart hcol hw ⟨c1 + 1 - (col - w) + 1, bf_x53 hp (by omega) hc1 _ _ _ (by omega) o (ih (r + 1) _ (by omega) ?_ k0 k1 h)⟩)
    exact bf_Orow (fun j hj => (hp j hj).1) (by omega) (by omega) o
theorem bf_wv {post : Int32 → Prop} {kind row col w h : Nat} (hk : kind ≤ 3) (hp : bf_V p P) (hr : row < 16) (hc : col < 16) (hw : w ≤ 7) (hh : h ≤ 7) (q : post (nI (bf_val kind (bf_ww p row col w h (0, 255, 0, 0))))) : wpX_windowValue post (wc, R, S, B, P, C, W) (nI kind) (nI row) (nI col) (nI w) (nI h) := by
  have k := bf_Cww p row col w h hr hc
  unfold wpX_windowValue
  dsimp only
  refine bf_wend hr hh (bf_wend hc hw (bf_wstart hr hh ⟨bf_we row h + 1 - (row - h) + 1, ?_⟩))
  exact bf_x38 hk hp hc hw (by unfold bf_we; omega) (by unfold bf_we; omega) (by unfold bf_we; omega) (bf_we row h + 1 - (row - h)) (row - h) (0, 255, 0, 0) (by unfold bf_we; omega) bf_O0 k.1 k.2 q
theorem bf_pass {post : SX → Prop} {kind w h : Nat} (hk : kind ≤ 3) (hp : bf_V p R) (hw : w ≤ 7) (hh : h ≤ 7) (q : post (wc, bf_ov (fun j => nI (bf_pv kind p w h j)) 256 R, S, B, bf_ov R 256 P, C, W)) : wpX_pass post (wc, R, S, B, P, C, W) (nI kind) (nI w) (nI h) := by
  unfold wpX_pass
  dsimp only
  refine bf_copyP ?_
  dsimp only
  have hP : bf_V p (bf_ov R 256 P) := fun j hj => by rw [bf_lo hj]; exact hp j hj
  obtain ⟨n, hn⟩ := bf_lp (fun n r => wX_pass_14 post (nI kind) (nI w) (nI h) wc n (nI r) (bf_ov (fun j => nI (bf_pv kind p w h j)) (r * 16) R) S B (bf_ov R 256 P) C W) 16 (fun n => br_t bf_e16 q) (by
    intro n r hr ih
    rw [show (r + 1) * 16 = r * 16 + 16 from by omega] at ih
    refine br_f (bf_n16 hr) (bf_lp (fun m c => wX_pass_24 post (wX_pass_14 post (nI kind) (nI w) (nI h) wc n) (nI kind) (nI w) (nI h) (nI r) wc m (nI c) (bf_ov (fun j => nI (bf_pv kind p w h j)) (r * 16 + c) R) S B (bf_ov R 256 P) C W) 16 (fun m => br_t bf_e16 (nm_r (nI_1 r) ih)) ?_)
    intro m c hc ih2
    refine br_f (bf_n16 hc) (bf_wv hk hP hr hc hw hh ⟨?_, nm_r ?_ (nm_r (nI_1 c) ih2)⟩)
    · rw [bf_rc]; exact bf_in (by omega)
    · rw [bf_rc]
      refine bf_up (by omega) ?_
      show _ = nI (bf_pv kind p w h (r * 16 + c))
      unfold bf_pv
      rw [show (r * 16 + c) / 16 = r from by omega, show (r * 16 + c) % 16 = c from by omega])
  rw [show 0 * 16 = 0 from rfl, bf_ov0] at hn
  exact ⟨n, hn⟩
/-- the raster after one pass, and after one or two -/
def bf_r1 (k : Nat) (p : Nat → Nat) (w h : Nat) (R : Nat → Int32) : Nat → Int32 := bf_ov (fun j => nI (bf_pv k p w h j)) 256 R
def bf_fin (k1 k2 : Nat) (p : Nat → Nat) (w h : Nat) (R : Nat → Int32) : Nat → Int32 := if k2 = 0 then bf_r1 k1 p w h R else bf_r1 k2 (bf_pv k1 p w h) w h (bf_r1 k1 p w h R)
theorem bf_r1V {k : Nat} {w h : Nat} (hp : bf_V p R) : bf_V (bf_pv k p w h) (bf_r1 k p w h R) := fun j hj => ⟨bf_pvO (fun i hi => (hp i hi).1) w h hj, by unfold bf_r1; rw [bf_lo hj]⟩
theorem bf_finV {k1 k2 : Nat} {w h : Nat} (hp : bf_V p R) : ∃ q, bf_V q (bf_fin k1 k2 p w h R) := by
  unfold bf_fin
  split
  · exact ⟨_, bf_r1V hp⟩
  · exact ⟨_, bf_r1V (bf_r1V hp)⟩
theorem bf_dcn {F R B : Nat → Int32} : bf_cn (fun j => ¬ F j = bf_ov R 256 B j) 256 = bf_cn (fun j => ¬ F j = R j) 256 := bf_cnc 256 fun j hj => by rw [bf_lo hj]
theorem bf_f53 {post : Int32 → SX → Prop} {F : Nat → Int32} (q : post (nI (bf_cn (fun j => ¬ F j = R j) 256)) (wc, F, S, bf_ov R 256 B, P, C, W)) : wX_filter_53 post wc F S (bf_ov R 256 B) P C W := by
  rw [← bf_dcn (B := B)] at q
  exact bf_diffB q
theorem bf_filX {post : Int32 → SX → Prop} {k1 k2 : Nat} (hk1 : k1 ≤ 3) (hk2 : k2 ≤ 3) {x y : Int32} (hp : bf_V p R) (q : ∀ w h, w ≤ 7 → h ≤ 7 → x = nI w → y = nI h → ∀ B' P', post (nI (bf_cn (fun j => ¬ bf_fin k1 k2 p w h R j = R j) 256)) (wc, bf_fin k1 k2 p w h R, S, B', P', C, W)) (z : (∀ w h, w ≤ 7 → h ≤ 7 → x = nI w → ¬ y = nI h) → post (-3) (wc, R, S, B, P, C, W)) : wpX_filter post (wc, R, S, B, P, C, W) (nI k1) (nI k2) x y := by
  unfold wpX_filter
  dsimp only
  refine bf_out 7 (by decide) (fun w hw ew => br_t rfl ?_) (fun e => br_f (by decide) (z fun w h hw _ ew _ => e w hw ew))
  refine bf_out 7 (by decide) (fun h hh eh => br_t rfl ?_) (fun e => br_f (by decide) (z fun w h _ hh _ eh => e h hh eh))
  have q' := q w h hw hh ew eh
  subst ew eh
  refine bf_copyB ?_
  dsimp only
  refine bf_pass hk1 hp hw hh ?_
  dsimp only
  unfold bf_fin at q'
  refine pk_eq k2 0 (fun e => ?_) (fun e => ?_)
  · rw [if_pos e] at q'
    exact bf_f53 (q' _ _)
  · rw [if_neg e] at q'
    refine bf_pass hk2 (bf_r1V hp) hw hh ?_
    dsimp only
    exact bf_f53 (q' _ _)
end
