-- own rows: the filters' walk in the reference
def bf_cy (p : Nat → Nat) (w h y z : Nat) (s : bf_S4) : bf_S4 := if h ≤ y ∧ y < h + 16 then (if w ≤ z ∧ z < w + 16 then bf_st (p ((y - h) * 16 + (z - w))) s else s) else s
def bf_ry (p : Nat → Nat) (w h col y : Nat) (s : bf_S4) : bf_S4 := bf_it (bf_cy p w h y) (2 * w + 1) col s
theorem bf_ryE (p : Nat → Nat) (w h col : Nat) (hc : col < 16) (y : Nat) (s : bf_S4) : bf_ry p w h col y s = if h ≤ y ∧ y < h + 16 then bf_row p (col - w) (bf_we col w + 1 - (col - w)) (y - h) s else s := by
  by_cases e : h ≤ y ∧ y < h + 16
  · rw [if_pos e]
    unfold bf_ry
    have q : bf_cy p w h y = fun z s => if w ≤ z ∧ z < w + 16 then (fun c t => bf_st (p ((y - h) * 16 + c)) t) (z - w) s else s := by
      funext z s
      unfold bf_cy
      rw [if_pos e]
    rw [q]
    exact bf_clip (fun c t => bf_st (p ((y - h) * 16 + c)) t) w col hc s
  · rw [if_neg e]
    exact bf_itI _ _ _ _ (fun j _ _ t => if_neg e)
theorem bf_wyE (p : Nat → Nat) (w h row col : Nat) (hr : row < 16) (hc : col < 16) (s : bf_S4) : bf_it (bf_ry p w h col) (2 * h + 1) row s = bf_ww p row col w h s := by
  have q : bf_ry p w h col = fun y s => if h ≤ y ∧ y < h + 16 then (fun r t => bf_row p (col - w) (bf_we col w + 1 - (col - w)) r t) (y - h) s else s := by
    funext y s
    exact bf_ryE p w h col hc y s
  rw [q]
  exact bf_clip (fun r t => bf_row p (col - w) (bf_we col w + 1 - (col - w)) r t) h row hr s
theorem bf_cyO {p : Nat → Nat} (hp : ∀ j, j < 256 → p j ≤ 255) {w h y z : Nat} {s : bf_S4} (o : bf_O s) : bf_O (bf_cy p w h y z s) := by
  unfold bf_cy
  split
  · split
    · exact bf_Os (hp _ (by omega)) o
    · exact o
  · exact o
theorem bf_ryO {p : Nat → Nat} (hp : ∀ j, j < 256 → p j ≤ 255) {w h col y : Nat} {s : bf_S4} (o : bf_O s) : bf_O (bf_ry p w h col y s) := bf_itK _ _ (fun _ _ o => bf_cyO hp o) _ _ _ o
theorem bf_sT {a b : Nat} (ha : a < 2 ^ 30) (hb : b < 2 ^ 30) : (nI a - nI b).toInt = (a : Int) - b := pk_sub_toInt ha hb
theorem bf_lts {q z w : Nat} (hq : q < 2 ^ 30) (hz : z < 2 ^ 30) (hw : w < 2 ^ 30) : nI q < nI z - nI w ↔ q + w < z := by
  rw [Int32.lt_iff_toInt_lt, bf_sT hz hw, nI_toInt (by omega)]
  omega
theorem bf_s1 (z w : Nat) : nI z - nI w + 1 = nI (z + 1) - nI w := by
  rw [nI_succ]
  generalize nI z = a
  generalize nI w = b
  grind
theorem bf_seq {y h a : Nat} (hy : y < 2 ^ 30) (hh : h < 2 ^ 30) (ha : a < 2 ^ 30) (e : nI y - nI h = nI a) : y = a + h := by
  have t := congrArg Int32.toInt e
  rw [bf_sT hy hh, nI_toInt (by omega)] at t
  omega
section
variable {R S Re Be Ma : Nat → Int32} {p : Nat → Nat}
theorem bf_y99 {post : Int32 → Prop} {J31 J51 : Int32 → Int32 → Int32 → Int32 → Int32 → Prop} {x1 x2 x3 x4 x9 x10 : Int32} {g l t k v : Nat} (hl : l ≤ 255) (hv : v ≤ 255) (h : J51 (nI g) (nI (if l ≤ v then l else v)) (nI (t + v)) (nI (k + 1)) (x10 + 1)) : wY_look_99 post J31 J51 x1 x2 x3 x4 (nI g) (nI l) (nI t) (nI k) x9 x10 (nI v) R S Re Be Ma := by
  refine pk_le l v (fun e => ?_) (fun e => ?_)
  · rw [if_pos e] at h
    exact nm_r (nI_add t v) (nm_r (nI_1 k) (nm_e h))
  · rw [if_neg (by omega)] at h
    exact nm_r (nI_add t v) (nm_r (nI_1 k) (nm_e h))
theorem bf_y51 {post : Int32 → Prop} {J31 : Int32 → Int32 → Int32 → Int32 → Int32 → Prop} {x1 : Int32} (hp : bf_V p R) {i y w h : Nat} (hi : i < 256) (hw : w ≤ 7) (hh : h ≤ 7) (hy : y < 1000) : ∀ d z s, z + d = i % 16 + (2 * w + 1) → bf_O s → bf_J J31 (bf_it (bf_cy p w h y) d z s) (nI (y + 1) - nI h) → bf_J (wY_look_51 post J31 x1 (nI i) (nI w) (nI h) (nI y - nI h) R S Re Be Ma (d + 1)) s (nI z - nI w) := by
  intro d
  induction d with
  | zero =>
    intro z s hz o q
    refine ⟨bf_16, br_t ?_ (nm_r (bf_s1 y h) q)⟩
    rw [bf_m16 hi, nI_add, bf_lts (by omega) (by omega) (by omega)]
    omega
  | succ d ih =>
    intro z s hz o q
    have st := ih (z + 1) (bf_cy p w h y z s) (by omega) (bf_cyO (fun j hj => (hp j hj).1) o) q
    rw [← bf_s1] at st
    refine ⟨bf_16, br_f ?_ (bf_pix (fun a b ha hb ea eb => br_f (by decide) ?_) (fun no => br_t rfl (nm_e ?_)))⟩
    · rw [bf_m16 hi, nI_add, bf_lts (by omega) (by omega) (by omega)]
      omega
    · have e1 := bf_seq (by omega) (by omega) (by omega) ea
      have e2 := bf_seq (by omega) (by omega) (by omega) eb
      have ab : a * 16 + b < 256 := by omega
      obtain ⟨hv, ev⟩ := hp _ ab
      unfold bf_cy at st
      rw [if_pos (by omega), if_pos (by omega), show y - h = a from by omega, show z - w = b from by omega] at st
      obtain ⟨g, l, t, k⟩ := s
      obtain ⟨hg, hl, ht⟩ := o
      dsimp only at hg hl ht
      unfold bf_J bf_st at st
      dsimp only at st
      refine ⟨by rw [ea, eb, bf_rc]; exact bf_in ab, nm_r (e' := nI (p (a * 16 + b))) (by rw [ea, eb, bf_rc, bf_cl ab, ev]) (pk_le (p (a * 16 + b)) g (fun e => ?_) (fun e => ?_))⟩
      · rw [if_pos e] at st
        exact bf_y99 hl hv st
      · rw [if_neg (by omega)] at st
        exact bf_y99 hl hv st
    · have e : bf_cy p w h y z s = s := by
        unfold bf_cy
        split
        · split
          · exact absurd (pk_sub (by omega)) (no (y - h) (z - w) (by omega) (by omega) (pk_sub (by omega)))
          · rfl
        · rfl
      rw [e] at st
      exact st
theorem bf_y31 {post : Int32 → Prop} (hp : bf_V p R) {f i w h : Nat} (hf : f ≤ 2) (hi : i < 256) (hw : w ≤ 7) (hh : h ≤ 7) : ∀ d y s, y + d = i / 16 + (2 * h + 1) → bf_O s → 0 < (bf_it (bf_ry p w h (i % 16)) d y s).2.2.2 → (bf_it (bf_ry p w h (i % 16)) d y s).2.2.2 ≤ 256 → post (nI (bf_val (f + 1) (bf_it (bf_ry p w h (i % 16)) d y s))) → bf_J (wY_look_31 post (nI f) (nI i) (nI w) (nI h) R S Re Be Ma (d + 1)) s (nI y - nI h) := by
  intro d
  induction d with
  | zero =>
    intro y s hy o k0 k1 q
    change 0 < s.2.2.2 at k0
    change s.2.2.2 ≤ 256 at k1
    change post (nI (bf_val (f + 1) s)) at q
    unfold bf_val at q
    have ot := o.2.2
    refine ⟨bf_16, br_t ?_ (pk_eq f 0 (fun e => ?_) (fun e => pk_eq f 1 (fun e2 => ?_) (fun e2 => ⟨nI_ne0 k0 (by omega), ?_⟩)))⟩
    · rw [bf_d16 hi, nI_add, bf_lts (by omega) (by omega) (by omega)]
      omega
    · rw [if_pos (by omega)] at q
      exact q
    · rw [if_neg (by omega), if_pos (by omega)] at q
      exact q
    · rw [if_neg (by omega), if_neg (by omega)] at q
      rw [pk_div (by omega) k0 (by omega)]
      exact q
  | succ d ih =>
    intro y s hy o k0 k1 q
    refine ⟨bf_16, br_f ?_ ⟨bf_16, nm_r (e' := nI (i % 16) - nI w) (by rw [bf_m16 hi]) ⟨2 * w + 1 + 1, bf_y51 hp hi hw hh (by omega) _ _ _ rfl o (ih (y + 1) _ (by omega) ?_ k0 k1 q)⟩⟩⟩
    · rw [bf_d16 hi, nI_add, bf_lts (by omega) (by omega) (by omega)]
      omega
    · exact bf_ryO (fun j hj => (hp j hj).1) o
theorem bf_look {post : Int32 → Prop} (hp : bf_V p R) {f i w h : Nat} (hf : f ≤ 2) (hi : i < 256) (hw : w ≤ 7) (hh : h ≤ 7) (q : post (nI (bf_pv (f + 1) p w h i))) : wpY_look post (R, S, Re, Be, Ma) (nI f) (nI i) (nI w) (nI h) := by
  obtain ⟨hv, ev⟩ := hp i hi
  have k := bf_Cww p (i / 16) (i % 16) w h (by omega) (by omega)
  have ii : i / 16 * 16 + i % 16 = i := by omega
  have same := bf_same (p := p) (row := i / 16) (col := i % 16) (w := w) (h := h) (by omega) (by omega) (by rw [ii]; exact hv)
  rw [ii] at same
  unfold bf_pv at q
  rw [← same, ← bf_wyE _ _ _ _ _ (by omega) (by omega)] at q k
  have e0 : R (nI i).toNatClampNeg = nI (p i) := by rw [bf_cl hi, ev]
  refine ⟨bf_in hi, nm_r e0 ⟨bf_in hi, nm_r e0 ⟨bf_16, nm_r (e' := nI (i / 16) - nI h) (by rw [bf_d16 hi]) ⟨2 * h + 1 + 1, ?_⟩⟩⟩⟩
  exact bf_y31 hp hf hi hw hh _ _ (p i, p i, 0, 0) rfl ⟨hv, hv, by show 0 ≤ 255 * 0; omega⟩ k.1 k.2 q
theorem bf_carry {post : SY → Prop} (hp : bf_V p R) {f w h : Nat} (hf : f ≤ 2) (hw : w ≤ 7) (hh : h ≤ 7) (q : ∀ Re', post (bf_r1 (f + 1) p w h R, S, Re', Be, Ma)) : wpY_carryOut post (R, S, Re, Be, Ma) (nI f) (nI w) (nI h) := by
  have q2 := q (bf_ov (fun j => nI (bf_pv (f + 1) p w h j)) 256 Re)
  unfold bf_r1 at q2
  rw [← bf_ovv (f2 := Re)] at q2
  obtain ⟨n, hn⟩ := bf_lp (fun n i => wY_carryOut_3 post (nI f) (nI w) (nI h) n (nI i) R S (bf_ov (fun j => nI (bf_pv (f + 1) p w h j)) i Re) Be Ma) 256 (fun n => br_t bf_e256 (by
    obtain ⟨m, hm⟩ := bf_lp (fun n i => wY_carryOut_36 post n (nI i) (bf_ov (bf_ov (fun j => nI (bf_pv (f + 1) p w h j)) 256 Re) i R) S (bf_ov (fun j => nI (bf_pv (f + 1) p w h j)) 256 Re) Be Ma) 256 (fun n => br_t bf_e256 q2) (fun n i hi ih => br_f (bf_n256 hi) ⟨bf_in hi, bf_in hi, nm_r (bf_up hi (bf_r0 hi)) (nm_r (nI_1 i) ih)⟩)
    rw [bf_ov0] at hm
    exact ⟨m, hm⟩)) (fun n i hi ih => br_f (bf_n256 hi) (bf_look hp hf hi hw hh ⟨bf_in hi, nm_r (bf_up hi rfl) (nm_r (nI_1 i) ih)⟩))
  rw [bf_ov0] at hn
  exact ⟨n, hn⟩
theorem bf_filY {post : Int32 → SY → Prop} {f1 k2 : Nat} (hf1 : f1 ≤ 2) {x2 : Int32} (hx2 : (x2 < 0 ∧ k2 = 0) ∨ (∃ f2, f2 ≤ 2 ∧ x2 = nI f2 ∧ k2 = f2 + 1)) {x y : Int32} (hp : bf_V p R) (q : ∀ w h, w ≤ 7 → h ≤ 7 → x = nI w → y = nI h → ∀ Re' Be', post (nI (bf_cn (fun j => ¬ bf_fin (f1 + 1) k2 p w h R j = R j) 256)) (bf_fin (f1 + 1) k2 p w h R, S, Re', Be', Ma)) (z : (∀ w h, w ≤ 7 → h ≤ 7 → x = nI w → ¬ y = nI h) → post (-3) (R, S, Re, Be, Ma)) : wpY_filter post (R, S, Re, Be, Ma) (nI f1) x2 x y := by
  have neg (c : Int32) (v : Nat) (hv : v ≤ 7) (e : c = nI v) (lt : c < 0) : False := by
    rw [e] at lt
    exact nI_pos (by omega) lt
  have big (c : Int32) (v : Nat) (hv : v ≤ 7) (e : c = nI v) : c ≤ 7 := by
    rw [e]
    exact nI_le (b := 7) hv (by decide)
  refine br_c (fun e => z fun w h hw hh ew eh => neg x w hw ew e) (fun e1 => br_c (fun e => z fun w h hw hh ew eh => Int32.not_le.mpr e (big x w hw ew)) (fun e2 => br_c (fun e => z fun w h hw hh ew eh => neg y h hh eh e) (fun e3 => br_c (fun e4 => ?_) (fun e => z fun w h hw hh ew eh => e (big y h hh eh)))))
  obtain ⟨w, hw, ew⟩ := nI_of e1
  obtain ⟨h, hh, eh⟩ := nI_of e3
  have hw7 : w ≤ 7 := by
    have t := Int32.not_lt.mp e2
    rw [ew] at t
    exact (nI_leI (b := 7) hw (by decide)).mp t
  have hh7 : h ≤ 7 := by
    rw [eh] at e4
    exact (nI_leI (b := 7) hh (by decide)).mp e4
  have q' := q w h hw7 hh7 ew eh
  subst ew eh
  unfold bf_fin at q'
  obtain ⟨n, hn⟩ := bf_lp (fun n i => wY_filter_28 post (nI f1) x2 (nI w) (nI h) n (nI i) R S Re (bf_ov R i Be) Ma) 256 (fun n => br_t bf_e256 (by
    refine bf_carry hp hf1 hw7 hh7 (fun Re1 => ?_)
    dsimp only
    obtain ⟨neg2, hk2⟩ | ⟨f2, hf2, rfl, hk2⟩ := hx2
    · rw [if_pos hk2] at q'
      refine br_t neg2 (bf_diffY ?_)
      rw [bf_dcn]
      exact q' _ _
    · rw [if_neg (by omega), hk2] at q'
      refine br_f (nI_pos (by omega)) (bf_carry (bf_r1V hp) hf2 hw7 hh7 (fun Re2 => ?_))
      dsimp only
      refine bf_diffY ?_
      rw [bf_dcn]
      exact q' _ _)) (fun n i hi ih => br_f (bf_n256 hi) ⟨bf_in hi, bf_in hi, nm_r (bf_up hi (bf_r0 hi)) (nm_r (nI_1 i) ih)⟩)
  rw [bf_ov0] at hn
  exact ⟨n, hn⟩
end
