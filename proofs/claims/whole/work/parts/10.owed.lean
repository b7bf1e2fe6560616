-- the relation, and what is owed
/-- the same raster, the same spare raster, values 0 to 255 -/
def i_Rel (k : Nat) (u : SX) (v : SY) : Prop := ∃ (wc : Int32) (R S B P C W Re Be Ma : Nat → Int32) (p q : Nat → Nat), u = (wc, R, S, B, P, C, W) ∧ v = (R, S, Re, Be, Ma) ∧ bf_V p R ∧ bf_V q S
theorem bf_rel {k : Nat} {wc : Int32} {R S B P C W Re Be Ma : Nat → Int32} {p q : Nat → Nat} (hp : bf_V p R) (hq : bf_V q S) : i_Rel k (wc, R, S, B, P, C, W) (R, S, Re, Be, Ma) := ⟨wc, R, S, B, P, C, W, Re, Be, Ma, p, q, rfl, rfl, hp, hq⟩
theorem bf_Vov {p q : Nat → Nat} {R S : Nat → Int32} (hq : bf_V q S) : bf_V q (bf_ov S 256 R) := fun j hj => by rw [bf_lo hj]; exact hq j hj
theorem bf_Vup {p : Nat → Nat} {R : Nat → Int32} {i c : Nat} {v : Int32} (hp : bf_V p R) (hc : c ≤ 255) (ev : v = nI c) : bf_V (fun j => if j = i then c else p j) (upd R i v) := by
  intro j hj
  show (if j = i then c else p j) ≤ 255 ∧ _ = nI (if j = i then c else p j)
  by_cases e : j = i
  · rw [if_pos e, e, pk_us]
    exact ⟨hc, ev⟩
  · rw [if_neg e, pk_un e]
    exact hp j hj
theorem bf_Vth {R : Nat → Int32} (b : Int32) : bf_V (fun j => if R j < b then 0 else 255) (bf_ov (bf_th R b) 256 R) := by
  intro j hj
  rw [bf_lo hj]
  show (if R j < b then 0 else 255) ≤ 255 ∧ (if R j < b then (0 : Int32) else 255) = nI (if R j < b then 0 else 255)
  by_cases e : R j < b
  · rw [if_pos e, if_pos e]
    exact ⟨by decide, rfl⟩
  · rw [if_neg e, if_neg e]
    exact ⟨by decide, rfl⟩
theorem bf_Vpt {R : Nat → Int32} (a b : Int32) : ∃ p, bf_V p (bf_ov (bf_pt a b) 256 R) := by
  refine ⟨fun j => (nI (j / 16) * a + nI (j % 16) * b + nI (j / 16) * nI (j % 16)).toBitVec.toNat % 2 ^ 8, fun j hj => ⟨?_, ?_⟩⟩
  · exact Nat.le_of_lt_succ (Nat.mod_lt _ (by decide))
  · rw [bf_lo hj]
    exact pk_and _ 8 (by decide)
theorem i_up {k : Nat} {u : SX} {v : SY} (h : i_Rel k u v) : i_Rel (k + 4) u v := by
  obtain ⟨wc, R, S, B, P, C, W, Re, Be, Ma, p, q, rfl, rfl, hp, hq⟩ := h
  exact bf_rel hp hq
theorem i_vc0 : wpX_init (fun u => wpY_init (fun v => i_Rel 0 u v)) :=
  bf_rel (k := 0) (p := fun _ => 0) (q := fun _ => 0) (fun _ _ => ⟨Nat.zero_le _, rfl⟩) (fun _ _ => ⟨Nat.zero_le _, rfl⟩)
theorem i_vc_set {k : Nat} {u : SX} {v : SY} (I : i_Rel k u v) (hk : k + 4 ≤ 2048) (v1 : Int32) (v2 : Int32) (v3 : Int32) : wpX_set (fun r u' => wpY_set (fun r' v' => r' = r ∧ i_Rel (k + 4) u' v') v v1 v2 v3) u v1 v2 v3 := by
  obtain ⟨wc, R, S, B, P, C, W, Re, Be, Ma, p, q, rfl, rfl, hp, hq⟩ := I
  refine bf_setX (fun a b c ha hb hc ea eb ec => ?_) (fun a b ha hb ea eb nc => ?_) (fun no => ?_)
  · refine bf_setY (fun a' b' c' ha' hb' hc' ea' eb' ec' => ?_) (fun a' b' ha' hb' ea' eb' nc => absurd ec (nc c hc)) (fun no => absurd eb (no a b ha hb ea))
    have h1 := bf_e1 ha ha' (ea.symm.trans ea')
    have h2 := bf_e1 hb hb' (eb.symm.trans eb')
    subst h1 h2
    exact ⟨rfl, bf_rel (bf_Vup hp hc ec) hq⟩
  · exact bf_setY (fun a' b' c' ha' hb' hc' ea' eb' ec' => absurd ec' (nc c' hc')) (fun _ _ _ _ _ _ _ => ⟨rfl, bf_rel hp hq⟩) (fun no => absurd eb (no a b ha hb ea))
  · exact bf_setY (fun a' b' c' ha' hb' hc' ea' eb' ec' => absurd eb' (no a' b' ha' hb' ea')) (fun a' b' ha' hb' ea' eb' _ => absurd eb' (no a' b' ha' hb' ea')) (fun _ => ⟨rfl, bf_rel hp hq⟩)
theorem i_vc_pattern {k : Nat} {u : SX} {v : SY} (I : i_Rel k u v) (hk : k + 4 ≤ 2048) (v1 : Int32) (v2 : Int32) : wpX_pattern (fun u' => wpY_pattern (fun v' => i_Rel (k + 4) u' v') v v1 v2) u v1 v2 := by
  obtain ⟨wc, R, S, B, P, C, W, Re, Be, Ma, p, q, rfl, rfl, hp, hq⟩ := I
  obtain ⟨p', hp'⟩ := bf_Vpt (R := R) v1 v2
  exact bf_patX (bf_patY (bf_rel hp' hq))
theorem i_vc_dilate {k : Nat} {u : SX} {v : SY} (I : i_Rel k u v) (hk : k + 4 ≤ 2048) (v1 : Int32) (v2 : Int32) : wpX_dilate (fun r u' => wpY_dilate (fun r' v' => r' = r ∧ i_Rel (k + 4) u' v') v v1 v2) u v1 v2 := by
  obtain ⟨wc, R, S, B, P, C, W, Re, Be, Ma, p, q, rfl, rfl, hp, hq⟩ := I
  unfold wpX_dilate
  dsimp only
  refine bf_filX (k1 := 1) (k2 := 0) (by decide) (by decide) hp (fun w h hw hh ew eh B' P' => ?_) (fun no => ?_)
  · dsimp only
    unfold wpY_dilate
    dsimp only
    refine bf_filY (f1 := 0) (k2 := 0) (by decide) (Or.inl ⟨by decide, rfl⟩) hp (fun w' h' hw' hh' ew' eh' Re' Be' => ?_) (fun no => absurd eh (no w h hw hh ew))
    have h1 := bf_e1 (by omega) (by omega) (ew.symm.trans ew')
    have h2 := bf_e1 (by omega) (by omega) (eh.symm.trans eh')
    subst h1 h2
    obtain ⟨p', hp'⟩ := bf_finV (k1 := 1) (k2 := 0) (w := w) (h := h) hp
    exact ⟨rfl, bf_rel hp' hq⟩
  · dsimp only
    unfold wpY_dilate
    dsimp only
    exact bf_filY (f1 := 0) (k2 := 0) (by decide) (Or.inl ⟨by decide, rfl⟩) hp (fun w' h' hw' hh' ew' eh' Re' Be' => absurd eh' (no w' h' hw' hh' ew')) (fun _ => ⟨rfl, bf_rel hp hq⟩)
theorem i_vc_erode {k : Nat} {u : SX} {v : SY} (I : i_Rel k u v) (hk : k + 4 ≤ 2048) (v1 : Int32) (v2 : Int32) : wpX_erode (fun r u' => wpY_erode (fun r' v' => r' = r ∧ i_Rel (k + 4) u' v') v v1 v2) u v1 v2 := by
  obtain ⟨wc, R, S, B, P, C, W, Re, Be, Ma, p, q, rfl, rfl, hp, hq⟩ := I
  unfold wpX_erode
  dsimp only
  refine bf_filX (k1 := 2) (k2 := 0) (by decide) (by decide) hp (fun w h hw hh ew eh B' P' => ?_) (fun no => ?_)
  · dsimp only
    unfold wpY_erode
    dsimp only
    refine bf_filY (f1 := 1) (k2 := 0) (by decide) (Or.inl ⟨by decide, rfl⟩) hp (fun w' h' hw' hh' ew' eh' Re' Be' => ?_) (fun no => absurd eh (no w h hw hh ew))
    have h1 := bf_e1 (by omega) (by omega) (ew.symm.trans ew')
    have h2 := bf_e1 (by omega) (by omega) (eh.symm.trans eh')
    subst h1 h2
    obtain ⟨p', hp'⟩ := bf_finV (k1 := 2) (k2 := 0) (w := w) (h := h) hp
    exact ⟨rfl, bf_rel hp' hq⟩
  · dsimp only
    unfold wpY_erode
    dsimp only
    exact bf_filY (f1 := 1) (k2 := 0) (by decide) (Or.inl ⟨by decide, rfl⟩) hp (fun w' h' hw' hh' ew' eh' Re' Be' => absurd eh' (no w' h' hw' hh' ew')) (fun _ => ⟨rfl, bf_rel hp hq⟩)
theorem i_vc_open {k : Nat} {u : SX} {v : SY} (I : i_Rel k u v) (hk : k + 4 ≤ 2048) (v1 : Int32) (v2 : Int32) : wpX_open (fun r u' => wpY_open (fun r' v' => r' = r ∧ i_Rel (k + 4) u' v') v v1 v2) u v1 v2 := by
  obtain ⟨wc, R, S, B, P, C, W, Re, Be, Ma, p, q, rfl, rfl, hp, hq⟩ := I
  unfold wpX_open
  dsimp only
  refine bf_filX (k1 := 2) (k2 := 1) (by decide) (by decide) hp (fun w h hw hh ew eh B' P' => ?_) (fun no => ?_)
  · dsimp only
    unfold wpY_open
    dsimp only
    refine bf_filY (f1 := 1) (k2 := 1) (by decide) (Or.inr ⟨0, by decide, rfl, rfl⟩) hp (fun w' h' hw' hh' ew' eh' Re' Be' => ?_) (fun no => absurd eh (no w h hw hh ew))
    have h1 := bf_e1 (by omega) (by omega) (ew.symm.trans ew')
    have h2 := bf_e1 (by omega) (by omega) (eh.symm.trans eh')
    subst h1 h2
    obtain ⟨p', hp'⟩ := bf_finV (k1 := 2) (k2 := 1) (w := w) (h := h) hp
    exact ⟨rfl, bf_rel hp' hq⟩
  · dsimp only
    unfold wpY_open
    dsimp only
    exact bf_filY (f1 := 1) (k2 := 1) (by decide) (Or.inr ⟨0, by decide, rfl, rfl⟩) hp (fun w' h' hw' hh' ew' eh' Re' Be' => absurd eh' (no w' h' hw' hh' ew')) (fun _ => ⟨rfl, bf_rel hp hq⟩)
theorem i_vc_close {k : Nat} {u : SX} {v : SY} (I : i_Rel k u v) (hk : k + 4 ≤ 2048) (v1 : Int32) (v2 : Int32) : wpX_close (fun r u' => wpY_close (fun r' v' => r' = r ∧ i_Rel (k + 4) u' v') v v1 v2) u v1 v2 := by
  obtain ⟨wc, R, S, B, P, C, W, Re, Be, Ma, p, q, rfl, rfl, hp, hq⟩ := I
  unfold wpX_close
  dsimp only
  refine bf_filX (k1 := 1) (k2 := 2) (by decide) (by decide) hp (fun w h hw hh ew eh B' P' => ?_) (fun no => ?_)
  · dsimp only
    unfold wpY_close
    dsimp only
    refine bf_filY (f1 := 0) (k2 := 2) (by decide) (Or.inr ⟨1, by decide, rfl, rfl⟩) hp (fun w' h' hw' hh' ew' eh' Re' Be' => ?_) (fun no => absurd eh (no w h hw hh ew))
    have h1 := bf_e1 (by omega) (by omega) (ew.symm.trans ew')
    have h2 := bf_e1 (by omega) (by omega) (eh.symm.trans eh')
    subst h1 h2
    obtain ⟨p', hp'⟩ := bf_finV (k1 := 1) (k2 := 2) (w := w) (h := h) hp
    exact ⟨rfl, bf_rel hp' hq⟩
  · dsimp only
    unfold wpY_close
    dsimp only
    exact bf_filY (f1 := 0) (k2 := 2) (by decide) (Or.inr ⟨1, by decide, rfl, rfl⟩) hp (fun w' h' hw' hh' ew' eh' Re' Be' => absurd eh' (no w' h' hw' hh' ew')) (fun _ => ⟨rfl, bf_rel hp hq⟩)
theorem i_vc_mean {k : Nat} {u : SX} {v : SY} (I : i_Rel k u v) (hk : k + 4 ≤ 2048) (v1 : Int32) (v2 : Int32) : wpX_mean (fun r u' => wpY_mean (fun r' v' => r' = r ∧ i_Rel (k + 4) u' v') v v1 v2) u v1 v2 := by
  obtain ⟨wc, R, S, B, P, C, W, Re, Be, Ma, p, q, rfl, rfl, hp, hq⟩ := I
  unfold wpX_mean
  dsimp only
  refine bf_filX (k1 := 3) (k2 := 0) (by decide) (by decide) hp (fun w h hw hh ew eh B' P' => ?_) (fun no => ?_)
  · dsimp only
    unfold wpY_mean
    dsimp only
    refine bf_filY (f1 := 2) (k2 := 0) (by decide) (Or.inl ⟨by decide, rfl⟩) hp (fun w' h' hw' hh' ew' eh' Re' Be' => ?_) (fun no => absurd eh (no w h hw hh ew))
    have h1 := bf_e1 (by omega) (by omega) (ew.symm.trans ew')
    have h2 := bf_e1 (by omega) (by omega) (eh.symm.trans eh')
    subst h1 h2
    obtain ⟨p', hp'⟩ := bf_finV (k1 := 3) (k2 := 0) (w := w) (h := h) hp
    exact ⟨rfl, bf_rel hp' hq⟩
  · dsimp only
    unfold wpY_mean
    dsimp only
    exact bf_filY (f1 := 2) (k2 := 0) (by decide) (Or.inl ⟨by decide, rfl⟩) hp (fun w' h' hw' hh' ew' eh' Re' Be' => absurd eh' (no w' h' hw' hh' ew')) (fun _ => ⟨rfl, bf_rel hp hq⟩)
theorem i_vc_threshold {k : Nat} {u : SX} {v : SY} (I : i_Rel k u v) (hk : k + 4 ≤ 2048) (v1 : Int32) : wpX_threshold (fun r u' => wpY_threshold (fun r' v' => r' = r ∧ i_Rel (k + 4) u' v') v v1) u v1 := by
  obtain ⟨wc, R, S, B, P, C, W, Re, Be, Ma, p, q, rfl, rfl, hp, hq⟩ := I
  exact bf_thrX (bf_thrY ⟨rfl, bf_rel (bf_Vth v1) hq⟩)
theorem i_vc_exchange {k : Nat} {u : SX} {v : SY} (I : i_Rel k u v) (hk : k + 4 ≤ 2048) : wpX_exchange (fun u' => wpY_exchange (fun v' => i_Rel (k + 4) u' v') v) u := by
  obtain ⟨wc, R, S, B, P, C, W, Re, Be, Ma, p, q, rfl, rfl, hp, hq⟩ := I
  exact bf_exchX (bf_exchY (bf_rel (bf_Vov (p := p) hq) (bf_Vov (p := p) hp)))
theorem i_vc_keep {k : Nat} {u : SX} {v : SY} (I : i_Rel k u v) (hk : k + 4 ≤ 2048) : wpX_keep (fun u' => wpY_keep (fun v' => i_Rel (k + 4) u' v') v) u := by
  obtain ⟨wc, R, S, B, P, C, W, Re, Be, Ma, p, q, rfl, rfl, hp, hq⟩ := I
  exact bf_keepX (bf_keepY (bf_rel hp (bf_Vov (p := p) hp)))
theorem i_vc_pixel {k : Nat} {u : SX} {v : SY} (I : i_Rel k u v) (hk : k + 4 ≤ 2048) (v1 : Int32) (v2 : Int32) : wpX_pixel (fun r => wpY_pixel (fun r' => r' = r ∧ i_Rel (k + 4) u v) v v1 v2) u v1 v2 := by
  obtain ⟨wc, R, S, B, P, C, W, Re, Be, Ma, p, q, rfl, rfl, hp, hq⟩ := I
  refine bf_pixelX (fun a b ha hb ea eb => ?_) (fun no => ?_)
  · refine bf_pixelY (fun a' b' ha' hb' ea' eb' => ?_) (fun no => absurd eb (no a b ha hb ea))
    have h1 := bf_e1 ha ha' (ea.symm.trans ea')
    have h2 := bf_e1 hb hb' (eb.symm.trans eb')
    subst h1 h2
    exact ⟨rfl, bf_rel hp hq⟩
  · exact bf_pixelY (fun a' b' ha' hb' ea' eb' => absurd eb' (no a' b' ha' hb' ea')) (fun _ => ⟨rfl, bf_rel hp hq⟩)
theorem i_vc_sum {k : Nat} {u : SX} {v : SY} (I : i_Rel k u v) (hk : k + 4 ≤ 2048) : wpX_sum (fun r => wpY_sum (fun r' => r' = r ∧ i_Rel (k + 4) u v) v) u := by
  obtain ⟨wc, R, S, B, P, C, W, Re, Be, Ma, p, q, rfl, rfl, hp, hq⟩ := I
  exact bf_sumX (bf_sumY ⟨rfl, bf_rel hp hq⟩)
theorem i_vc_equal {k : Nat} {u : SX} {v : SY} (I : i_Rel k u v) (hk : k + 4 ≤ 2048) : wpX_equal (fun r => wpY_equal (fun r' => r' = r ∧ i_Rel (k + 4) u v) v) u := by
  obtain ⟨wc, R, S, B, P, C, W, Re, Be, Ma, p, q, rfl, rfl, hp, hq⟩ := I
  exact bf_equalX (bf_equalY ⟨rfl, bf_rel hp hq⟩)
theorem i_vc_above {k : Nat} {u : SX} {v : SY} (I : i_Rel k u v) (hk : k + 4 ≤ 2048) : wpX_above (fun r => wpY_above (fun r' => r' = r ∧ i_Rel (k + 4) u v) v) u := by
  obtain ⟨wc, R, S, B, P, C, W, Re, Be, Ma, p, q, rfl, rfl, hp, hq⟩ := I
  exact bf_aboveX (bf_aboveY ⟨rfl, bf_rel hp hq⟩)
theorem i_vc_patches {k : Nat} {u : SX} {v : SY} (I : i_Rel k u v) (hk : k + 4 ≤ 2048) : wpX_patches (fun r u' => wpY_patches (fun r' v' => r' = r ∧ i_Rel (k + 4) u' v') v) u := by
  obtain ⟨wc, R, S, B, P, C, W, Re, Be, Ma, p, q, rfl, rfl, hp, hq⟩ := I
  exact bf_patchesX (fun _ _ _ => bf_patchesY (fun _ => ⟨rfl, bf_rel hp hq⟩))
