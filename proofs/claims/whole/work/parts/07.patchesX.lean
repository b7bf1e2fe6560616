-- own rows: patches in the component
theorem bf_b1 : vp_nar .boolean 1 = 1 := by
  show ((1 : Int32) &&& 1) = 1
  decide
theorem bf_b0 : vp_nar .boolean 0 = 0 := by
  show ((0 : Int32) &&& 1) = 0
  decide
/-- bright -/
def bf_G (R : Nat → Int32) (j : Nat) : Prop := ¬ R j ≤ 0
/-- the queue holds m cells of s's patch, the reached are those of D and the queue's -/
def bf_B (G D : Nat → Prop) (s m : Nat) (C W : Nat → Int32) : Prop :=
  m ≤ bf_cn (fun j => ¬ C j = 0) 256 ∧ (∀ j, j < 256 → ¬ C j = 0 → D j ∨ ∃ t, t < m ∧ W t = nI j) ∧ (∀ j, j < 256 → D j → ¬ C j = 0) ∧ (∀ t, t < m → ∃ j, j < 256 ∧ W t = nI j ∧ bf_con G s j ∧ ¬ C j = 0)
def bf_E (m : Nat) (C W : Nat → Int32) (m' : Nat) (C' W' : Nat → Int32) : Prop := m ≤ m' ∧ (∀ j, ¬ C j = 0 → ¬ C' j = 0) ∧ (∀ t, t < m → W' t = W t)
theorem bf_ER (m : Nat) (C W : Nat → Int32) : bf_E m C W m C W := ⟨Nat.le_refl m, fun _ h => h, fun _ _ => rfl⟩
theorem bf_ET {m m1 m2 : Nat} {C W C1 W1 C2 W2 : Nat → Int32} (h : bf_E m C W m1 C1 W1) (h2 : bf_E m1 C1 W1 m2 C2 W2) : bf_E m C W m2 C2 W2 :=
  ⟨Nat.le_trans h.1 h2.1, fun j z => h2.2.1 j (h.2.1 j z), fun t ht => (h2.2.2 t (Nat.lt_of_lt_of_le ht h.1)).trans (h.2.2 t ht)⟩
section
variable {wc : Int32} {R S B P C W : Nat → Int32} {D : Nat → Prop}
theorem bf_Bm {s m : Nat} (I : bf_B (bf_G R) D s m C W) : m ≤ 256 := Nat.le_trans I.1 (bf_cnle _ 256)
theorem bf_Bput {s m i : Nat} (I : bf_B (bf_G R) D s m C W) (hi : i < 256) (hc : bf_con (bf_G R) s i) (z : C i = 0) : bf_B (bf_G R) D s (m + 1) (upd C i 1) (upd W m (nI i)) ∧ bf_E m C W (m + 1) (upd C i 1) (upd W m (nI i)) ∧ ¬ upd C i 1 i = 0 := by
  obtain ⟨i1, i2, i3, i4⟩ := I
  have ne : ¬ upd C i 1 i = 0 := by rw [pk_us]; decide
  have mono : ∀ j, ¬ C j = 0 → ¬ upd C i 1 j = 0 := by
    intro j h
    by_cases e : j = i
    · rw [e]; exact ne
    · rw [pk_un e]; exact h
  have back : ∀ j, ¬ upd C i 1 j = 0 → ¬ C j = 0 ∨ j = i := by
    intro j h
    by_cases e : j = i
    · exact Or.inr e
    · rw [pk_un e] at h; exact Or.inl h
  have wo : ∀ t, t < m → upd W m (nI i) t = W t := fun t ht => pk_un (by omega)
  refine ⟨⟨?_, ?_, ?_, ?_⟩, ⟨by omega, mono, wo⟩, ne⟩
  · rw [bf_cnup (p := fun j => ¬ C j = 0) (q := fun j => ¬ upd C i 1 j = 0) (j := i) (fun h => h z) (fun k => ⟨back k, fun h => h.elim (mono k) (fun e => by rw [e]; exact ne)⟩) 256 hi]
    omega
  · intro j hj h
    rcases back j h with h | h
    · rcases i2 j hj h with h | ⟨t, ht, e⟩
      · exact Or.inl h
      · exact Or.inr ⟨t, by omega, by rw [wo t ht]; exact e⟩
    · exact Or.inr ⟨m, by omega, by rw [pk_us, h]⟩
  · intro j hj h
    exact mono j (i3 j hj h)
  · intro t ht
    by_cases e : t = m
    · exact ⟨i, hi, by rw [e, pk_us], hc, ne⟩
    · obtain ⟨j, hj, e2, c, r⟩ := i4 t (by omega)
      exact ⟨j, hj, by rw [wo t (by omega)]; exact e2, c, mono j r⟩
theorem bf_reach {post : SX → Prop} {s m : Nat} {x y : Int32} (I : bf_B (bf_G R) D s m C W) (hc : ∀ a b, a < 16 → b < 16 → x = nI a → y = nI b → bf_G R (a * 16 + b) → bf_con (bf_G R) s (a * 16 + b)) (h : ∀ m' C' W', bf_B (bf_G R) D s m' C' W' → bf_E m C W m' C' W' → (∀ a b, a < 16 → b < 16 → x = nI a → y = nI b → bf_G R (a * 16 + b) → ¬ C' (a * 16 + b) = 0) → post (nI m', R, S, B, P, C', W')) : wpX_reach post (nI m, R, S, B, P, C, W) x y := by
  unfold wpX_reach
  dsimp only
  refine bf_noPix (fun a b ha hb ea eb => br_t rfl ?_) (fun z => br_f (by decide) (h m C W I (bf_ER m C W) (fun a b ha hb ea eb => absurd eb (z a b ha hb ea))))
  have hi : a * 16 + b < 256 := by omega
  have one : ∀ a' b', a' < 16 → b' < 16 → x = nI a' → y = nI b' → a' * 16 + b' = a * 16 + b := by
    intro a' b' ha' hb' ea' eb'
    rw [ea, nI_eq (by omega) (by omega)] at ea'
    rw [eb, nI_eq (by omega) (by omega)] at eb'
    omega
  have hm := bf_Bm I
  refine pk_lt m 256 (fun lt => nm_r (e' := nI (a * 16 + b)) (by rw [ea, eb, bf_rc]) ⟨bf_in hi, br_c (fun e => ?_) (fun e => ⟨bf_in hi, br_c (fun z => ?_) (fun z => ?_)⟩)⟩) (fun ge => ?_)
  · rw [bf_cl hi] at e
    exact h m C W I (bf_ER m C W) (fun a' b' ha' hb' ea' eb' g => by
      rw [one a' b' ha' hb' ea' eb'] at g
      exact absurd e g)
  · rw [bf_cl hi] at e z
    obtain ⟨n1, n2, n3⟩ := bf_Bput I hi (hc a b ha hb ea eb e) z
    refine ⟨bf_in hi, nm_r (e' := upd C (a * 16 + b) 1) (by rw [bf_cl hi, bf_b1]) ⟨bf_in lt, nm_r (e' := upd W m (nI (a * 16 + b))) (by rw [bf_cl lt]) (nm_r (nI_1 m) (h (m + 1) _ _ n1 n2 ?_))⟩⟩
    intro a' b' ha' hb' ea' eb' _
    rw [one a' b' ha' hb' ea' eb']
    exact n3
  · rw [bf_cl hi] at z
    refine h m C W I (bf_ER m C W) (fun a' b' ha' hb' ea' eb' _ => ?_)
    rw [one a' b' ha' hb' ea' eb']
    exact z
  · refine h m C W I (bf_ER m C W) (fun a' b' ha' hb' ea' eb' _ z => ?_)
    have := bf_cnlt (p := fun j => ¬ C j = 0) 256 (a' * 16 + b') (by omega) (fun q => q z)
    have := I.1
    omega
end
