/-! keys -/
theorem pt_key (x : Int32) : (∃ j : Nat, j < 8 ∧ x = nI j) ∨ ((∀ post : Int32 → Prop, post 0 → wpX_isKey post x) ∧ (∀ (post : Int32 → Prop) (t : Int32) (a L : Nat → Int32), post 0 → wpY_isKey post (t, a, L) x)) := by
  rcases pt_split x 7 with h | ⟨j, h, hj, rfl⟩ | ⟨j, h, rfl⟩
  · exact Or.inr ⟨fun post hp => br_t h hp, fun post t a L hp => br_t h hp⟩
  · exact Or.inr ⟨fun post hp => br_f (nI_pos hj) (br_t (nI_le (a := 8) (by omega) hj) hp), fun post t a L hp => br_f (nI_pos hj) (br_t (nI_lt (a := 7) h hj) hp)⟩
  · exact Or.inl ⟨j, by omega, rfl⟩
theorem pt_kX {j : Nat} (h : j < 8) (post : Int32 → Prop) (hp : post 1) : wpX_isKey post (nI j) :=
  br_f (nI_pos (by omega)) (br_f (nI_ge (b := 8) h (by decide)) hp)
theorem pt_kY {j : Nat} (h : j < 8) {t : Int32} {a L : Nat → Int32} (post : Int32 → Prop) (hp : post 1) : wpY_isKey post (t, a, L) (nI j) :=
  br_f (nI_pos (by omega)) (br_f (nI_nlt (a := 7) (by omega) (by decide)) hp)
/-! addresses -/
theorem pt_cellX (t n k c : Nat) (hc : c = 248 * t + 8 * n + k) (post : Int32 → Prop) (h : post (nI c)) : wpX_cell post (nI t) (nI n) (nI k) := by
  unfold wpX_cell
  rw [pt_ixX, ← hc]
  exact h
theorem pt_nowX {p m : Nat} {a L : Nat → Int32} (hp : p < 6) (hL : L p = nI m) (k c : Nat) (hc : c = 248 * p + 8 * m + k) (post : Int32 → Prop) (h : post (nI c)) : wpX_cellNow post (nI p, a, L) (nI k) := by
  unfold wpX_cellNow
  dsimp only
  rw [nI_clamp (by omega), hL]
  exact ⟨vp_in_nI hp (by decide), pt_cellX p m k c hc _ h⟩
theorem pt_nowY {p m : Nat} {a L : Nat → Int32} (hp : p < 6) (hL : L p = nI m) (c : Nat) (hc : c = 248 * p + 8 * m) (post : Int32 → Prop) (h : post (nI c)) : wpY_now post (nI (p + 1), a, L) := by
  unfold wpY_now
  dsimp only
  refine nm_r (nI_pred p) ⟨vp_in_nI hp (by decide), ?_⟩
  rw [nI_clamp (by omega), hL, pt_ixN, ← hc]
  exact h
theorem pt_pointY {p m : Nat} {a L : Nat → Int32} (hp : p < 6) (hL : L p = nI m) (post : Int32 → Prop) (h : post (nI m)) : wpY_point post (nI (p + 1), a, L) := by
  unfold wpY_point
  dsimp only
  rw [nI_pred, nI_clamp (by omega), hL]
  exact ⟨vp_in_nI hp (by decide), h⟩
theorem pt_pointX {p m : Nat} {a L : Nat → Int32} (hp : p < 6) (hL : L p = nI m) (post : Int32 → Prop) (h : post (nI m)) : wpX_point post (nI p, a, L) := by
  unfold wpX_point
  dsimp only
  rw [nI_clamp (by omega), hL]
  exact ⟨vp_in_nI hp (by decide), h⟩
/-! full -/
theorem pt_fX1 {p : Nat} {a L : Nat → Int32} (hp : p < 6) (hL : L p = nI 30) (post : Int32 → Prop) (h : post 1) : wpX_presentIsFull post (nI p, a, L) := by
  unfold wpX_presentIsFull
  dsimp only
  rw [nI_clamp (by omega), hL]
  exact ⟨vp_in_nI hp (by decide), br_t rfl h⟩
theorem pt_n30 {m : Nat} (hm : m < 30) : ¬ nI m = 30 := fun e => by
  have := (nI_eq (a := m) (b := 30) (by omega) (by decide)).mp e
  omega
theorem pt_fX0 {p m : Nat} {a L : Nat → Int32} (hp : p < 6) (hL : L p = nI m) (hm : m < 30) (post : Int32 → Prop) (h : post 0) : wpX_presentIsFull post (nI p, a, L) := by
  unfold wpX_presentIsFull
  dsimp only
  rw [nI_clamp (by omega), hL]
  exact ⟨vp_in_nI hp (by decide), br_f (pt_n30 hm) h⟩
/-! points -/
theorem pt_tX {p t : Nat} {a L : Nat → Int32} (hp : p < 6) (ht : t ≤ p) (post : Int32 → Prop) (h : post 1) : wpX_isTimeline post (nI p, a, L) (nI t) :=
  br_f (nI_pos (by omega)) (br_f (nI_nlt ht (by omega)) h)
theorem pt_pX {p t n m : Nat} {a L : Nat → Int32} (hp : p < 6) (ht : t ≤ p) (hn : n ≤ m) (hm : m ≤ 30) (hL : L t = nI m) (post : Int32 → Prop) (h : post 1) : wpX_isPoint post (nI p, a, L) (nI t) (nI n) := by
  unfold wpX_isPoint
  dsimp only
  refine pt_tX hp ht _ (br_f (by decide) (br_f (nI_pos (by omega)) ⟨vp_in_nI (by omega) (by decide), ?_⟩))
  rw [nI_clamp (by omega), hL]
  exact br_f (nI_nlt hn (by omega)) h
theorem pt_pY {p t n m : Nat} {a L : Nat → Int32} (hp : p < 6) (ht : t ≤ p) (hn : n ≤ m) (hm : m ≤ 30) (hL : L t = nI m) (post : Int32 → Prop) (h : post 1) : wpY_isPoint post (nI (p + 1), a, L) (nI t) (nI n) := by
  unfold wpY_isPoint
  dsimp only
  refine br_f (nI_pos (by omega)) (br_f (nI_ge (by omega) (by omega)) (br_f (nI_pos (by omega)) ⟨vp_in_nI (by omega) (by decide), ?_⟩))
  rw [nI_clamp (by omega), hL]
  exact br_f (nI_nlt hn (by omega)) h
theorem pt_pt {p : Nat} (a : Nat → Int32) {L : Nat → Int32} (hp : p < 6) (hL : ∀ j : Nat, ∃ m : Nat, m ≤ 30 ∧ L j = nI m) (x y : Int32) :
    (∃ t n m : Nat, t ≤ p ∧ n ≤ m ∧ m ≤ 30 ∧ L t = nI m ∧ x = nI t ∧ y = nI n) ∨
    ((∀ post : Int32 → Prop, post 0 → wpX_isPoint post (nI p, a, L) x y) ∧ (∀ post : Int32 → Prop, post 0 → wpY_isPoint post (nI (p + 1), a, L) x y)) := by
  unfold wpX_isPoint wpX_isTimeline wpY_isPoint
  dsimp only
  rcases pt_split x p with h | ⟨j, h, hj, rfl⟩ | ⟨t, ht, rfl⟩
  · exact Or.inr ⟨fun post q => br_t h (br_t rfl q), fun post q => br_t h q⟩
  · exact Or.inr ⟨fun post q => br_f (nI_pos hj) (br_t (nI_lt h hj) (br_t rfl q)), fun post q => br_f (nI_pos hj) (br_t (nI_le (by omega) hj) q)⟩
  · obtain ⟨m, hm, e⟩ := hL t
    have i1 : ¬ nI t < 0 := nI_pos (by omega)
    have i2 : ¬ nI p < nI t := nI_nlt ht (by omega)
    have i3 : ¬ nI (p + 1) ≤ nI t := nI_ge (by omega) (by omega)
    have i4 : vp_in (nI t) 6 := vp_in_nI (by omega) (by decide)
    have e' : L (nI t).toNatClampNeg = nI m := by rw [nI_clamp (by omega), e]
    have z : ¬ (1 : Int32) = 0 := by decide
    rcases pt_split y m with h | ⟨n, h, hn, rfl⟩ | ⟨n, h, rfl⟩
    · exact Or.inr ⟨fun post q => br_f i1 (br_f i2 (br_f z (br_t h q))), fun post q => br_f i1 (br_f i3 (br_t h q))⟩
    · have i5 : L (nI t).toNatClampNeg < nI n := by rw [e']; exact nI_lt h hn
      exact Or.inr ⟨fun post q => br_f i1 (br_f i2 (br_f z (br_f (nI_pos hn) ⟨i4, br_t i5 q⟩))), fun post q => br_f i1 (br_f i3 (br_f (nI_pos hn) ⟨i4, br_t i5 q⟩))⟩
    · exact Or.inl ⟨t, n, m, ht, h, hm, e, rfl, rfl⟩
