-- own rows: the flood and the scan in the component
theorem bf_m1 {r a : Nat} (hr : r < 16) (ha : a < 16) (e : nI r - 1 = nI a) : r = a + 1 := bf_seq (h := 1) (by omega) (by omega) (by omega) e
theorem bf_p1 {r a : Nat} (hr : r < 16) (ha : a < 16) (e : nI r + 1 = nI a) : r + 1 = a := by
  rw [nI_1, nI_eq (by omega) (by omega)] at e
  exact e
theorem bf_e1 {r a : Nat} (hr : r < 16) (ha : a < 16) (e : nI r = nI a) : r = a := by
  rw [nI_eq (by omega) (by omega)] at e
  exact e
theorem bf_m1' {r a : Nat} (h : a + 1 = r) : nI r - 1 = nI a := by
  rw [← h]
  exact nI_pred a
theorem bf_p1' {r a : Nat} (h : r + 1 = a) : nI r + 1 = nI a := by
  rw [← h]
  exact nI_1 r
section
variable {wc : Int32} {R S B P C W : Nat → Int32} {D : Nat → Prop}
theorem bf_Bend {G : Nat → Prop} {s m : Nat} (hD : bf_clo G D) (hs : s < 256) (I : bf_B G D s m C W) (hsr : ¬ C s = 0) (pr : ∀ t, t < m → ∀ j, j < 256 → W t = nI j → ∀ k, bf_adj j k → G k → ¬ C k = 0) : ∀ j, j < 256 → (¬ C j = 0 ↔ (D j ∨ bf_con G s j)) := by
  obtain ⟨i1, i2, i3, i4⟩ := I
  intro j hj
  constructor
  · intro h
    rcases i2 j hj h with h | ⟨t, ht, e⟩
    · exact Or.inl h
    · obtain ⟨j', hj', e', c, _⟩ := i4 t ht
      rw [e, nI_eq (by omega) (by omega)] at e'
      rw [← e'] at c
      exact Or.inr c
  · rintro (h | h)
    · exact i3 j hj h
    · refine (h (fun k => k < 256 ∧ ¬ C k = 0) (fun k l t a g => ⟨a.2.1, ?_⟩) ⟨hs, hsr⟩).2
      rcases i2 k t.1 t.2 with h | ⟨q, hq, e⟩
      · exact i3 l a.2.1 (hD k l h a g)
      · exact pr q hq k t.1 e l a g
theorem bf_flood {post : SX → Prop} {s m : Nat} (hD : bf_clo (bf_G R) D) (hs : s < 256) (I : bf_B (bf_G R) D s m C W) (hsr : ¬ C s = 0) (q : ∀ m' C' W', (∀ j, j < 256 → (¬ C' j = 0 ↔ (D j ∨ bf_con (bf_G R) s j))) → post (nI m', R, S, B, P, C', W')) : ∃ n, wX_reachPatch_13 post n 0 (nI m) R S B P C W := by
  refine loop_0 (σ := Nat × (Nat → Int32) × (Nat → Int32)) (fun n x σ => wX_reachPatch_13 post n (nI x) (nI σ.1) R S B P σ.2.1 σ.2.2) (fun x σ => bf_B (bf_G R) D s σ.1 σ.2.1 σ.2.2 ∧ ¬ σ.2.1 s = 0 ∧ ∀ t, t < x → t < σ.1 → ∀ j, j < 256 → σ.2.2 t = nI j → ∀ k, bf_adj j k → bf_G R k → ¬ σ.2.1 k = 0) 256 (m, C, W) ⟨I, hsr, fun t ht => absurd ht (Nat.not_lt_zero t)⟩ ?_ ?_
  · rintro n ⟨m, C, W⟩ ⟨I, hsr, pr⟩
    dsimp only at I hsr pr
    have hm := bf_Bm I
    exact br_t bf_e256 (q m C W (bf_Bend hD hs I hsr (fun t ht => pr t (by omega) ht)))
  · rintro n x ⟨m, C, W⟩ hx ⟨I, hsr, pr⟩ rec
    dsimp only at I hsr pr rec
    show wX_reachPatch_13 post (n + 1) (nI x) (nI m) R S B P C W
    have hm := bf_Bm I
    refine br_f (bf_n256 hx) (pk_le m x (fun le => q m C W (bf_Bend hD hs I hsr (fun t ht => pr t (by omega) ht))) (fun lt => ?_))
    obtain ⟨j, hj, ej, cj, rj⟩ := I.2.2.2 x lt
    refine ⟨bf_in hx, bf_16, nm_r (e' := nI (j / 16)) (by rw [bf_cl hx, ej, bf_d16 hj]) ⟨bf_in hx, bf_16, nm_r (e' := nI (j % 16)) (by rw [bf_cl hx, ej, bf_m16 hj]) ?_⟩⟩
    have hr : j / 16 < 16 := by omega
    have hc : j % 16 < 16 := by omega
    refine bf_reach I (fun a b ha hb ea eb g => bf_conT cj (bf_con1 ?_ g)) (fun m1 C1 W1 I1 E1 d1 => ?_)
    · have h1 := bf_m1 hr ha ea
      have h2 := bf_e1 hc hb eb
      unfold bf_adj
      omega
    dsimp only
    refine bf_reach I1 (fun a b ha hb ea eb g => bf_conT cj (bf_con1 ?_ g)) (fun m2 C2 W2 I2 E2 d2 => ?_)
    · have h1 := bf_p1 hr ha ea
      have h2 := bf_e1 hc hb eb
      unfold bf_adj
      omega
    dsimp only
    refine bf_reach I2 (fun a b ha hb ea eb g => bf_conT cj (bf_con1 ?_ g)) (fun m3 C3 W3 I3 E3 d3 => ?_)
    · have h1 := bf_e1 hr ha ea
      have h2 := bf_m1 hc hb eb
      unfold bf_adj
      omega
    dsimp only
    refine bf_reach I3 (fun a b ha hb ea eb g => bf_conT cj (bf_con1 ?_ g)) (fun m4 C4 W4 I4 E4 d4 => ?_)
    · have h1 := bf_e1 hr ha ea
      have h2 := bf_p1 hc hb eb
      unfold bf_adj
      omega
    dsimp only
    have E34 := bf_ET E3 E4
    have E24 := bf_ET E2 E34
    have E14 := bf_ET E1 E24
    refine nm_r (nI_1 x) (rec (m4, C4, W4) ⟨I4, E14.2.1 s hsr, ?_⟩)
    intro t ht htm j' hj' e' k ak gk
    dsimp only at htm e' ⊢
    by_cases tx : t = x
    · subst tx
      rw [E14.2.2 t lt, ej, nI_eq (by omega) (by omega)] at e'
      subst e'
      have kk : k / 16 * 16 + k % 16 = k := by omega
      have hk := ak.2.1
      rcases ak.2.2 with h | h | h | h
      · have f := d3 (k / 16) (k % 16) (by omega) (by omega) (congrArg nI (by omega)) (bf_m1' (by omega))
        rw [kk] at f
        exact E4.2.1 k (f gk)
      · have f := d4 (k / 16) (k % 16) (by omega) (by omega) (congrArg nI (by omega)) (bf_p1' (by omega))
        rw [kk] at f
        exact f gk
      · have f := d1 (k / 16) (k % 16) (by omega) (by omega) (bf_m1' (by omega)) (congrArg nI (by omega))
        rw [kk] at f
        exact E24.2.1 k (f gk)
      · have f := d2 (k / 16) (k % 16) (by omega) (by omega) (bf_p1' (by omega)) (congrArg nI (by omega))
        rw [kk] at f
        exact E34.2.1 k (f gk)
    · have tm : t < m := by omega
      rw [E14.2.2 t tm] at e'
      exact E14.2.1 k (pr t (by omega) tm j' hj' e' k ak gk)
theorem bf_rpatch {post : SX → Prop} {s : Nat} (hD : bf_clo (bf_G R) D) (hs : s < 256) (gs : bf_G R s) (hC : ∀ j, j < 256 → (¬ C j = 0 ↔ D j)) (q : ∀ m' C' W', (∀ j, j < 256 → (¬ C' j = 0 ↔ (D j ∨ bf_con (bf_G R) s j))) → post (nI m', R, S, B, P, C', W')) : wpX_reachPatch post (wc, R, S, B, P, C, W) (nI (s / 16)) (nI (s % 16)) := by
  have I0 : bf_B (bf_G R) D s 0 C W := ⟨Nat.zero_le _, fun j hj h => Or.inl ((hC j hj).mp h), fun j hj h => (hC j hj).mpr h, fun t ht => absurd ht (Nat.not_lt_zero t)⟩
  have ss : s / 16 * 16 + s % 16 = s := by omega
  unfold wpX_reachPatch
  dsimp only
  refine bf_reach (m := 0) I0 (fun a b ha hb ea eb g => ?_) (fun m1 C1 W1 I1 E1 d1 => ?_)
  · have h1 := bf_e1 (by omega) ha ea
    have h2 := bf_e1 (by omega) hb eb
    rw [show a * 16 + b = s from by omega]
    exact bf_conR s
  · dsimp only
    have f := d1 (s / 16) (s % 16) (by omega) (by omega) rfl rfl
    rw [ss] at f
    exact bf_flood hD hs I1 (f gs) q
theorem bf_scan {post : Int32 → SX → Prop} (hC : ∀ j, j < 256 → C j = 0) (q : ∀ wc' C' W', post (nI (bf_cn (bf_root (bf_G R)) 256)) (wc', R, S, B, P, C', W')) : ∃ n, wX_patches_26 post n 0 0 wc R S B P C W := by
  refine loop_0 (σ := Int32 × (Nat → Int32) × (Nat → Int32)) (fun n i σ => wX_patches_26 post n (nI (bf_cn (bf_root (bf_G R)) i)) (nI i) σ.1 R S B P σ.2.1 σ.2.2) (fun i σ => ∀ j, j < 256 → (¬ σ.2.1 j = 0 ↔ ∃ k, k < i ∧ bf_G R k ∧ bf_con (bf_G R) k j)) 256 (wc, C, W) ?_ (fun n σ _ => br_t bf_e256 (q _ _ _)) ?_
  · intro j hj
    constructor
    · intro h
      exact absurd (hC j hj) h
    · rintro ⟨k, hk, _⟩
      omega
  · rintro n i ⟨wc, C, W⟩ hi I rec
    dsimp only at I rec
    show wX_patches_26 post (n + 1) (nI (bf_cn (bf_root (bf_G R)) i)) (nI i) wc R S B P C W
    refine br_f (bf_n256 hi) ⟨bf_in hi, br_c (fun e => nm_r (nI_1 i) ?_) (fun e => ⟨bf_in hi, br_c (fun z => nm_r (nI_1 _) ⟨bf_16, bf_16, ?_⟩) (fun z => nm_r (nI_1 i) ?_)⟩)⟩
    · rw [bf_cl hi] at e
      have st := rec (wc, C, W) (fun j hj => by
        dsimp only
        rw [I j hj]
        constructor
        · rintro ⟨k, hk, g, c⟩
          exact ⟨k, by omega, g, c⟩
        · rintro ⟨k, hk, g, c⟩
          by_cases ki : k = i
          · rw [ki] at g
            exact absurd e g
          · exact ⟨k, by omega, g, c⟩)
      rw [bf_cnf (p := bf_root (bf_G R)) (fun r => r.1 e)] at st
      exact st
    · rw [bf_cl hi] at e z
      rw [bf_m16 hi, bf_d16 hi]
      refine bf_rpatch (D := fun j => ∃ k, k < i ∧ bf_G R k ∧ bf_con (bf_G R) k j) ?_ hi e I (fun m' C' W' h => ?_)
      · rintro a b ⟨k, hk, g, c⟩ ad gb
        exact ⟨k, hk, g, bf_conT c (bf_con1 ad gb)⟩
      · dsimp only
        have root : bf_root (bf_G R) i := ⟨e, fun k hk g c => (I i hi).mpr ⟨k, hk, g, c⟩ z⟩
        have st := rec (nI m', C', W') (fun j hj => by
          dsimp only
          rw [h j hj]
          constructor
          · rintro (⟨k, hk, g, c⟩ | c)
            · exact ⟨k, by omega, g, c⟩
            · exact ⟨i, by omega, e, c⟩
          · rintro ⟨k, hk, g, c⟩
            by_cases ki : k = i
            · rw [ki] at c
              exact Or.inr c
            · exact Or.inl ⟨k, by omega, g, c⟩)
        rw [bf_cnt root] at st
        exact nm_r (nI_1 i) st
    · rw [bf_cl hi] at e z
      obtain ⟨k0, hk0, g0, c0⟩ := (I i hi).mp z
      have st := rec (wc, C, W) (fun j hj => by
        dsimp only
        rw [I j hj]
        constructor
        · rintro ⟨k, hk, g, c⟩
          exact ⟨k, by omega, g, c⟩
        · rintro ⟨k, hk, g, c⟩
          by_cases ki : k = i
          · rw [ki] at c
            exact ⟨k0, hk0, g0, bf_conT c0 c⟩
          · exact ⟨k, by omega, g, c⟩)
      rw [bf_cnf (p := bf_root (bf_G R)) (fun r => r.2 k0 hk0 g0 c0)] at st
      exact st
theorem bf_patchesX {post : Int32 → SX → Prop} (q : ∀ wc' C' W', post (nI (bf_cn (bf_root (bf_G R)) 256)) (wc', R, S, B, P, C', W')) : wpX_patches post (wc, R, S, B, P, C, W) := by
  obtain ⟨n, hn⟩ := bf_lp (fun n i => wX_patches_2 post wc n (nI i) R S B P (bf_ov (fun _ => 0) i C) W) 256 (fun n => br_t bf_e256 (bf_scan (fun j hj => bf_lo hj) q)) (fun n i hi ih => br_f (bf_n256 hi) ⟨bf_in hi, nm_r (bf_up hi bf_b0) (nm_r (nI_1 i) ih)⟩)
  rw [bf_ov0] at hn
  exact ⟨n, hn⟩
end
