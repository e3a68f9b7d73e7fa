section
theorem pk_us {f : Nat → Int32} {k : Nat} {x : Int32} : upd f k x k = x := if_pos rfl
theorem pk_un {f : Nat → Int32} {k j : Nat} {x : Int32} (h : j ≠ k) : upd f k x j = f j := if_neg h
theorem pk_sub {a b : Nat} (h : b ≤ a) : nI a - nI b = nI (a - b) := by
  obtain ⟨c, rfl⟩ : ∃ c, a = c + b := ⟨a - b, by omega⟩
  rw [← nI_add, Int32.add_sub_cancel, Nat.add_sub_cancel]
theorem pk_m1 (n : Nat) : nI (n + 1) + (-1) = nI n := by
  rw [← nI_1, Int32.add_assoc, show (1 : Int32) + (-1) = 0 from rfl, Int32.add_zero]
theorem pk_mul (a b : Nat) : nI a * nI b = nI (a * b) := (Int32.ofNat_mul a b).symm
theorem pt_l8 : (8 : Int32) = nI 8 := rfl
theorem pt_l31 : (31 : Int32) = nI 31 := rfl
theorem pt_l248 : (248 : Int32) = nI 248 := rfl
/-- the component's address of a cell -/
theorem pt_ixX (t n k : Nat) : ((nI t * 31) + nI n) * 8 + nI k = nI (248 * t + 8 * n + k) := by
  rw [pt_l31, pt_l8, pk_mul, nI_add, pk_mul, nI_add]
  exact congrArg nI (by omega)
/-- the reference's address of a cell -/
theorem pt_ixY (t n k : Nat) : 248 * nI t + 8 * nI n + nI k = nI (248 * t + 8 * n + k) := by
  rw [pt_l248, pt_l8, pk_mul, pk_mul, nI_add, nI_add]
theorem pt_ixN (t n : Nat) : 248 * nI t + 8 * nI n = nI (248 * t + 8 * n) := by
  rw [pt_l248, pt_l8, pk_mul, pk_mul, nI_add]
theorem pt_ixP (t n k : Nat) : 248 * nI t + 8 * nI (n + 1) - 8 + nI k = nI (248 * t + 8 * n + k) := by
  rw [pt_l248, pt_l8, pk_mul, pk_mul, nI_add, pk_sub (by omega), nI_add]
  exact congrArg nI (by omega)
theorem pt_ixR (t i : Nat) : 248 * nI t + nI i = nI (248 * t + i) := by
  rw [pt_l248, pk_mul, nI_add]
theorem pt_len (n : Nat) : 8 * nI n + 8 = nI (8 * n + 8) := by
  rw [pt_l8, pk_mul, nI_add]
theorem pt_lenX (n : Nat) : (nI n + 1) * 8 = nI (8 * n + 8) := by
  rw [nI_1, pt_l8, pk_mul]
  exact congrArg nI (by omega)
theorem pt_a8 (s j : Nat) : nI s + 8 + nI j = nI (s + 8 + j) := by
  rw [pt_l8, nI_add, nI_add]
/-- any int is below 0, or above p, or a number up to p -/
theorem pt_split (x : Int32) (p : Nat) : x < 0 ∨ (∃ j : Nat, p < j ∧ j < 2 ^ 31 ∧ x = nI j) ∨ (∃ j : Nat, j ≤ p ∧ x = nI j) := by
  by_cases h : x < 0
  · exact Or.inl h
  · obtain ⟨j, hj, rfl⟩ := nI_of h
    by_cases h2 : j ≤ p
    · exact Or.inr (Or.inr ⟨j, h2, rfl⟩)
    · exact Or.inr (Or.inl ⟨j, by omega, hj, rfl⟩)
/-- n cells, from s on, copied one by one to d and on -/
def pt_cp (a : Nat → Int32) (d s : Nat) : Nat → (Nat → Int32)
  | 0 => a
  | n + 1 => upd (pt_cp a d s n) (d + n) (pt_cp a d s n (s + n))
theorem pt_cp_lo (a : Nat → Int32) (d s : Nat) : ∀ n j : Nat, j < d → pt_cp a d s n j = a j := by
  intro n
  induction n with
  | zero => intro j _; rfl
  | succ n ih => intro j hj; exact (pk_un (by omega)).trans (ih j hj)
theorem pt_cp_at (a : Nat → Int32) (d s : Nat) : ∀ n : Nat, s + n ≤ d → ∀ i : Nat, i < n → pt_cp a d s n (d + i) = a (s + i) := by
  intro n
  induction n with
  | zero => intro _ i hi; omega
  | succ n ih =>
    intro h i hi
    by_cases e : i = n
    · subst e
      exact pk_us.trans (pt_cp_lo a d s i (s + i) (by omega))
    · exact (pk_un (by omega)).trans (ih (by omega) i (by omega))
def i_Rel (_ : Nat) (u : SX) (v : SY) : Prop := ∃ (p : Nat) (a L : Nat → Int32), p < 6 ∧ (∀ j : Nat, ∃ m : Nat, m ≤ 30 ∧ L j = nI m) ∧ u = (nI p, a, L) ∧ v = (nI (p + 1), a, L)
theorem i_up {k : Nat} {u : SX} {v : SY} (h : i_Rel k u v) : i_Rel (k + 4) u v := h
theorem i_vc0 : wpX_init (fun u => wpY_init (fun v => i_Rel 0 u v)) :=
  ⟨0, fun _ => 0, fun _ => 0, by decide, fun _ => ⟨0, by decide, rfl⟩, rfl, rfl⟩
theorem pt_upd {L : Nat → Int32} (hL : ∀ j : Nat, ∃ m : Nat, m ≤ 30 ∧ L j = nI m) (p n : Nat) (hn : n ≤ 30) : ∀ j : Nat, ∃ m : Nat, m ≤ 30 ∧ upd L p (nI n) j = nI m := by
  intro j
  by_cases h : j = p
  · subst h
    exact ⟨n, hn, pk_us⟩
  · obtain ⟨m, hm, e⟩ := hL j
    exact ⟨m, hm, (pk_un h).trans e⟩
end
section
/-! keys -/
theorem pt_key (x : Int32) : (∃ j : Nat, j < 8 ∧ x = nI j) ∨ ((∀ post : Int32 → Prop, post 0 → wpX_isKey post x) ∧ (∀ (post : Int32 → Prop) (t : Int32) (a L : Nat → Int32), post 0 → wpY_isKey post (t, a, L) x)) := by
  rcases pt_split x 7 with h | ⟨j, h, hj, rfl⟩ | ⟨j, h, rfl⟩
  · exact Or.inr ⟨fun post hp => br_t h hp, fun post t a L hp => br_t h hp⟩
  · exact Or.inr ⟨fun post hp => br_f (nI_pos hj) (br_t (nI_le (a := 8) (by omega) hj) hp), fun post t a L hp => br_f (nI_pos hj) (br_t (nI_lt (a := 7) h hj) hp)⟩
  · exact Or.inl ⟨j, by omega, rfl⟩
theorem pt_kX {j : Nat} (h : j < 8) (post : Int32 → Prop) (hp : post 1) : wpX_isKey post (nI j) :=
  br_f (nI_pos (by omega)) (br_f (nI_ge (b := 8) h (by decide)) hp)
theorem pt_kY {j : Nat} (h : j < 8) {t : Int32} {a L : Nat → Int32} (post : Int32 → Prop) (hp : post 1) : wpY_isKey post (t, a, L) (nI j) :=
  br_f (nI_pos (by omega)) (br_f (nI_nlt (a := 7) (by omega) (by decide)) hp)
/-! addresses -/
theorem pt_cellX (t n k c : Nat) (hc : c = 248 * t + 8 * n + k) (post : Int32 → Prop) (h : post (nI c)) : wpX_cell post (nI t) (nI n) (nI k) := by
  unfold wpX_cell
  rw [pt_ixX, ← hc]
  exact h
theorem pt_nowX {p m : Nat} {a L : Nat → Int32} (hp : p < 6) (hL : L p = nI m) (k c : Nat) (hc : c = 248 * p + 8 * m + k) (post : Int32 → Prop) (h : post (nI c)) : wpX_cellNow post (nI p, a, L) (nI k) := by
  unfold wpX_cellNow
  dsimp only
  rw [nI_clamp (by omega), hL]
  exact ⟨vp_in_nI hp (by decide), pt_cellX p m k c hc _ h⟩
theorem pt_nowY {p m : Nat} {a L : Nat → Int32} (hp : p < 6) (hL : L p = nI m) (c : Nat) (hc : c = 248 * p + 8 * m) (post : Int32 → Prop) (h : post (nI c)) : wpY_now post (nI (p + 1), a, L) := by
  unfold wpY_now
  dsimp only
  refine nm_r (nI_pred p) ⟨vp_in_nI hp (by decide), ?_⟩
  rw [nI_clamp (by omega), hL, pt_ixN, ← hc]
  exact h
theorem pt_pointY {p m : Nat} {a L : Nat → Int32} (hp : p < 6) (hL : L p = nI m) (post : Int32 → Prop) (h : post (nI m)) : wpY_point post (nI (p + 1), a, L) := by
  unfold wpY_point
  dsimp only
  rw [nI_pred, nI_clamp (by omega), hL]
  exact ⟨vp_in_nI hp (by decide), h⟩
theorem pt_pointX {p m : Nat} {a L : Nat → Int32} (hp : p < 6) (hL : L p = nI m) (post : Int32 → Prop) (h : post (nI m)) : wpX_point post (nI p, a, L) := by
  unfold wpX_point
  dsimp only
  rw [nI_clamp (by omega), hL]
  exact ⟨vp_in_nI hp (by decide), h⟩
/-! full -/
theorem pt_fX1 {p : Nat} {a L : Nat → Int32} (hp : p < 6) (hL : L p = nI 30) (post : Int32 → Prop) (h : post 1) : wpX_presentIsFull post (nI p, a, L) := by
  unfold wpX_presentIsFull
  dsimp only
  rw [nI_clamp (by omega), hL]
  exact ⟨vp_in_nI hp (by decide), br_t rfl h⟩
theorem pt_n30 {m : Nat} (hm : m < 30) : ¬ nI m = 30 := fun e => by
  have := (nI_eq (a := m) (b := 30) (by omega) (by decide)).mp e
  omega
theorem pt_fX0 {p m : Nat} {a L : Nat → Int32} (hp : p < 6) (hL : L p = nI m) (hm : m < 30) (post : Int32 → Prop) (h : post 0) : wpX_presentIsFull post (nI p, a, L) := by
  unfold wpX_presentIsFull
  dsimp only
  rw [nI_clamp (by omega), hL]
  exact ⟨vp_in_nI hp (by decide), br_f (pt_n30 hm) h⟩
/-! points -/
theorem pt_tX {p t : Nat} {a L : Nat → Int32} (hp : p < 6) (ht : t ≤ p) (post : Int32 → Prop) (h : post 1) : wpX_isTimeline post (nI p, a, L) (nI t) :=
  br_f (nI_pos (by omega)) (br_f (nI_nlt ht (by omega)) h)
theorem pt_pX {p t n m : Nat} {a L : Nat → Int32} (hp : p < 6) (ht : t ≤ p) (hn : n ≤ m) (hm : m ≤ 30) (hL : L t = nI m) (post : Int32 → Prop) (h : post 1) : wpX_isPoint post (nI p, a, L) (nI t) (nI n) := by
  unfold wpX_isPoint
  dsimp only
  refine pt_tX hp ht _ (br_f (by decide) (br_f (nI_pos (by omega)) ⟨vp_in_nI (by omega) (by decide), ?_⟩))
  rw [nI_clamp (by omega), hL]
  exact br_f (nI_nlt hn (by omega)) h
theorem pt_pY {p t n m : Nat} {a L : Nat → Int32} (hp : p < 6) (ht : t ≤ p) (hn : n ≤ m) (hm : m ≤ 30) (hL : L t = nI m) (post : Int32 → Prop) (h : post 1) : wpY_isPoint post (nI (p + 1), a, L) (nI t) (nI n) := by
  unfold wpY_isPoint
  dsimp only
  refine br_f (nI_pos (by omega)) (br_f (nI_ge (by omega) (by omega)) (br_f (nI_pos (by omega)) ⟨vp_in_nI (by omega) (by decide), ?_⟩))
  rw [nI_clamp (by omega), hL]
  exact br_f (nI_nlt hn (by omega)) h
theorem pt_pt {p : Nat} (a : Nat → Int32) {L : Nat → Int32} (hp : p < 6) (hL : ∀ j : Nat, ∃ m : Nat, m ≤ 30 ∧ L j = nI m) (x y : Int32) :
    (∃ t n m : Nat, t ≤ p ∧ n ≤ m ∧ m ≤ 30 ∧ L t = nI m ∧ x = nI t ∧ y = nI n) ∨
    ((∀ post : Int32 → Prop, post 0 → wpX_isPoint post (nI p, a, L) x y) ∧ (∀ post : Int32 → Prop, post 0 → wpY_isPoint post (nI (p + 1), a, L) x y)) := by
  unfold wpX_isPoint wpX_isTimeline wpY_isPoint
  dsimp only
  rcases pt_split x p with h | ⟨j, h, hj, rfl⟩ | ⟨t, ht, rfl⟩
  · exact Or.inr ⟨fun post q => br_t h (br_t rfl q), fun post q => br_t h q⟩
  · exact Or.inr ⟨fun post q => br_f (nI_pos hj) (br_t (nI_lt h hj) (br_t rfl q)), fun post q => br_f (nI_pos hj) (br_t (nI_le (by omega) hj) q)⟩
  · obtain ⟨m, hm, e⟩ := hL t
    have i1 : ¬ nI t < 0 := nI_pos (by omega)
    have i2 : ¬ nI p < nI t := nI_nlt ht (by omega)
    have i3 : ¬ nI (p + 1) ≤ nI t := nI_ge (by omega) (by omega)
    have i4 : vp_in (nI t) 6 := vp_in_nI (by omega) (by decide)
    have e' : L (nI t).toNatClampNeg = nI m := by rw [nI_clamp (by omega), e]
    have z : ¬ (1 : Int32) = 0 := by decide
    rcases pt_split y m with h | ⟨n, h, hn, rfl⟩ | ⟨n, h, rfl⟩
    · exact Or.inr ⟨fun post q => br_f i1 (br_f i2 (br_f z (br_t h q))), fun post q => br_f i1 (br_f i3 (br_t h q))⟩
    · have i5 : L (nI t).toNatClampNeg < nI n := by rw [e']; exact nI_lt h hn
      exact Or.inr ⟨fun post q => br_f i1 (br_f i2 (br_f z (br_f (nI_pos hn) ⟨i4, br_t i5 q⟩))), fun post q => br_f i1 (br_f i3 (br_f (nI_pos hn) ⟨i4, br_t i5 q⟩))⟩
    · exact Or.inl ⟨t, n, m, ht, h, hm, e, rfl, rfl⟩
end
section
/-! a new point: eight cells copied behind the last ones -/
theorem pt_mX (post : SX → Prop) (s d : Nat) (f : Int32) (a L : Nat → Int32) (hs : s + 8 ≤ 1488) (hd : d + 8 ≤ 1488) (h : post (f, pt_cp a d s 8, L)) : ∀ e j : Nat, j + e = 8 → wX_makePoint_27 post (nI s) (nI d) f (e + 1) (nI j) (pt_cp a d s j) L := by
  intro e
  induction e with
  | zero =>
    intro j hj
    obtain rfl : j = 8 := by omega
    rw [wX_makePoint_27]
    exact br_t (nI_le (a := 8) (b := 8) (by omega) (by decide)) h
  | succ e ih =>
    intro j hj
    rw [wX_makePoint_27]
    refine br_f (nI_ge (b := 8) (by omega) (by decide)) ?_
    rw [nI_add, nI_add, nI_clamp (by omega), nI_clamp (by omega)]
    exact ⟨vp_in_nI (by omega) (by decide), vp_in_nI (by omega) (by decide), nm_e (nm_r (nI_1 j) (ih (j + 1) (by omega)))⟩
theorem pt_mkX {p m : Nat} {a L : Nat → Int32} (hp : p < 6) (hm : m < 30) (hL : L p = nI m) (post : SX → Prop) (h : post (nI p, pt_cp a (248 * p + 8 * m + 8) (248 * p + 8 * m) 8, upd L p (nI (m + 1)))) : wpX_makePoint post (nI p, a, L) := by
  unfold wpX_makePoint
  dsimp only
  refine pt_nowX hp hL 0 (248 * p + 8 * m) rfl _ ?_
  refine ⟨vp_in_nI hp (by decide), vp_in_nI hp (by decide), ?_⟩
  rw [nI_clamp (by omega), hL, nI_1]
  refine nm_e ?_
  refine pt_nowX hp (m := m + 1) pk_us 0 (248 * p + 8 * m + 8) (by omega) _ ?_
  exact ⟨9, pt_mX post (248 * p + 8 * m) (248 * p + 8 * m + 8) (nI p) a _ (by omega) (by omega) h 8 0 rfl⟩
theorem pt_mY (post : SY → Prop) (s p m : Nat) (a L : Nat → Int32) (hp : p < 6) (hL : L p = nI m) (hs : s + 16 ≤ 1488) (h : post (nI (p + 1), pt_cp a (s + 8) s 8, upd L p (nI (m + 1)))) : ∀ e j : Nat, j + e = 8 → wY_goOn_7 post (nI s) (nI (p + 1)) (e + 1) (nI j) (pt_cp a (s + 8) s j) L := by
  intro e
  induction e with
  | zero =>
    intro j hj
    obtain rfl : j = 8 := by omega
    rw [wY_goOn_7]
    refine br_t (nI_le (a := 8) (b := 8) (by omega) (by decide)) ?_
    rw [nI_pred, nI_clamp (by omega), hL, nI_1]
    exact ⟨vp_in_nI hp (by decide), vp_in_nI hp (by decide), nm_e h⟩
  | succ e ih =>
    intro j hj
    rw [wY_goOn_7]
    refine br_f (nI_ge (b := 8) (by omega) (by decide)) ?_
    rw [nI_add, pt_a8, nI_clamp (by omega), nI_clamp (by omega)]
    exact ⟨vp_in_nI (by omega) (by decide), vp_in_nI (by omega) (by decide), nm_e (nm_r (nI_1 j) (ih (j + 1) (by omega)))⟩
theorem pt_mkY {p m : Nat} {a L : Nat → Int32} (hp : p < 6) (hm : m < 30) (hL : L p = nI m) (post : SY → Prop) (h : post (nI (p + 1), pt_cp a (248 * p + 8 * m + 8) (248 * p + 8 * m) 8, upd L p (nI (m + 1)))) : wpY_goOn post (nI (p + 1), a, L) := by
  unfold wpY_goOn
  dsimp only
  refine pt_nowY hp hL (248 * p + 8 * m) rfl _ ?_
  exact ⟨9, pt_mY post (248 * p + 8 * m) p m a L hp hL (by omega) h 8 0 rfl⟩
/-! set -/
theorem pt_setX {p m j : Nat} {a L : Nat → Int32} (hp : p < 6) (hm : m < 30) (hL : L p = nI m) (hj : j < 8) (w : Int32) (post : Int32 → SX → Prop)
    (h : post (nI (m + 1)) (nI p, upd (pt_cp a (248 * p + 8 * m + 8) (248 * p + 8 * m) 8) (248 * p + 8 * m + 8 + j) w, upd L p (nI (m + 1)))) : wpX_set post (nI p, a, L) (nI j) w := by
  unfold wpX_set
  dsimp only
  refine pt_kX hj _ (br_f (by decide) (pt_fX0 hp hL hm _ (br_t rfl (pt_mkX hp hm hL _ ?_))))
  dsimp only
  refine pt_nowX hp (m := m + 1) pk_us j (248 * p + 8 * m + 8 + j) (by omega) _ ?_
  refine ⟨vp_in_nI (by omega) (by decide), ?_⟩
  rw [nI_clamp (by omega), nI_clamp (by omega), pk_us]
  exact nm_e ⟨vp_in_nI hp (by decide), h⟩
theorem pt_setY {p m j : Nat} {a L : Nat → Int32} (hp : p < 6) (hm : m < 30) (hL : L p = nI m) (hj : j < 8) (w : Int32) (post : Int32 → SY → Prop)
    (h : post (nI (m + 1)) (nI (p + 1), upd (pt_cp a (248 * p + 8 * m + 8) (248 * p + 8 * m) 8) (248 * p + 8 * m + 8 + j) w, upd L p (nI (m + 1)))) : wpY_set post (nI (p + 1), a, L) (nI j) w := by
  unfold wpY_set
  dsimp only
  refine pt_kY hj _ (br_f (by decide) (pt_pointY hp hL _ (br_f (pt_n30 hm) (pt_mkY hp hm hL _ ?_))))
  dsimp only
  refine pt_nowY hp (m := m + 1) pk_us (248 * p + 8 * m + 8) (by omega) _ ?_
  rw [nI_add, nI_clamp (by omega)]
  exact ⟨vp_in_nI (by omega) (by decide), nm_e (pt_pointY hp pk_us _ h)⟩
theorem pt_setX0 {a L : Nat → Int32} {f x w : Int32} (hx : ∀ post : Int32 → Prop, post 0 → wpX_isKey post x) (post : Int32 → SX → Prop) (h : post (-1) (f, a, L)) : wpX_set post (f, a, L) x w := by
  unfold wpX_set
  dsimp only
  exact hx _ (br_t rfl h)
theorem pt_setY0 {a L : Nat → Int32} {f x w : Int32} (hx : ∀ (post : Int32 → Prop) (t : Int32) (a L : Nat → Int32), post 0 → wpY_isKey post (t, a, L) x) (post : Int32 → SY → Prop) (h : post (-1) (f, a, L)) : wpY_set post (f, a, L) x w := by
  unfold wpY_set
  dsimp only
  exact hx _ _ _ _ (br_t rfl h)
theorem pt_setX1 {p j : Nat} {a L : Nat → Int32} (hp : p < 6) (hL : L p = nI 30) (hj : j < 8) (w : Int32) (post : Int32 → SX → Prop) (h : post (-2) (nI p, a, L)) : wpX_set post (nI p, a, L) (nI j) w := by
  unfold wpX_set
  dsimp only
  exact pt_kX hj _ (br_f (by decide) (pt_fX1 hp hL _ (br_f (by decide) h)))
theorem pt_setY1 {p j : Nat} {a L : Nat → Int32} (hp : p < 6) (hL : L p = nI 30) (hj : j < 8) (w : Int32) (post : Int32 → SY → Prop) (h : post (-2) (nI (p + 1), a, L)) : wpY_set post (nI (p + 1), a, L) (nI j) w := by
  unfold wpY_set
  dsimp only
  exact pt_kY hj _ (br_f (by decide) (pt_pointY hp hL _ (br_t rfl h)))
theorem i_vc_set {k : Nat} {u : SX} {v : SY} (I : i_Rel k u v) (hk : k + 4 ≤ 2048) (v1 : Int32) (v2 : Int32) : wpX_set (fun r u' => wpY_set (fun r' v' => r' = r ∧ i_Rel (k + 4) u' v') v v1 v2) u v1 v2 := by
  obtain ⟨p, a, L, hp, hL, rfl, rfl⟩ := I
  rcases pt_key v1 with ⟨j, hj, rfl⟩ | ⟨hX, hY⟩
  · obtain ⟨m, hm, e⟩ := hL p
    by_cases h : m = 30
    · subst h
      exact pt_setX1 hp e hj v2 _ (pt_setY1 hp e hj v2 _ ⟨rfl, p, a, L, hp, hL, rfl, rfl⟩)
    · exact pt_setX hp (by omega) e hj v2 _ (pt_setY hp (by omega) e hj v2 _ ⟨rfl, p, _, _, hp, pt_upd hL p (m + 1) (by omega), rfl, rfl⟩)
  · exact pt_setX0 hX _ (pt_setY0 hY _ ⟨rfl, p, a, L, hp, hL, rfl, rfl⟩)
/-! get -/
theorem pt_getX {p m j : Nat} {a L : Nat → Int32} (hp : p < 6) (hm : m ≤ 30) (hL : L p = nI m) (hj : j < 8) (post : Int32 → Prop) (h : post (a (248 * p + 8 * m + j))) : wpX_get post (nI p, a, L) (nI j) := by
  unfold wpX_get
  dsimp only
  refine pt_kX hj _ (br_f (by decide) (pt_nowX hp hL j (248 * p + 8 * m + j) rfl _ ?_))
  rw [nI_clamp (by omega)]
  exact ⟨vp_in_nI (by omega) (by decide), h⟩
theorem pt_getY {p m j : Nat} {a L : Nat → Int32} (hp : p < 6) (hm : m ≤ 30) (hL : L p = nI m) (hj : j < 8) (post : Int32 → Prop) (h : post (a (248 * p + 8 * m + j))) : wpY_get post (nI (p + 1), a, L) (nI j) := by
  unfold wpY_get
  dsimp only
  refine pt_nowY hp hL (248 * p + 8 * m) rfl _ (pt_kY hj _ (br_f (by decide) ?_))
  rw [nI_add, nI_clamp (by omega)]
  exact ⟨vp_in_nI (by omega) (by decide), h⟩
theorem pt_getY0 {p m : Nat} {a L : Nat → Int32} {x : Int32} (hp : p < 6) (hL : L p = nI m) (hx : ∀ (post : Int32 → Prop) (t : Int32) (a L : Nat → Int32), post 0 → wpY_isKey post (t, a, L) x) (post : Int32 → Prop) (h : post 0) : wpY_get post (nI (p + 1), a, L) x := by
  unfold wpY_get
  dsimp only
  exact pt_nowY hp hL (248 * p + 8 * m) rfl _ (hx _ _ _ _ (br_t rfl h))
theorem i_vc_get {k : Nat} {u : SX} {v : SY} (I : i_Rel k u v) (hk : k + 4 ≤ 2048) (v1 : Int32) : wpX_get (fun r => wpY_get (fun r' => r' = r ∧ i_Rel (k + 4) u v) v v1) u v1 := by
  obtain ⟨p, a, L, hp, hL, rfl, rfl⟩ := I
  obtain ⟨m, hm, e⟩ := hL p
  rcases pt_key v1 with ⟨j, hj, rfl⟩ | ⟨hX, hY⟩
  · exact pt_getX hp hm e hj _ (pt_getY hp hm e hj _ ⟨rfl, p, a, L, hp, hL, rfl, rfl⟩)
  · unfold wpX_get
    dsimp only
    exact hX _ (br_t rfl (pt_getY0 hp e hY _ ⟨rfl, p, a, L, hp, hL, rfl, rfl⟩))
/-! add -/
theorem pt_addX {p m j : Nat} {a L : Nat → Int32} (hp : p < 6) (hm : m < 30) (hL : L p = nI m) (hj : j < 8) (w : Int32) (post : Int32 → SX → Prop)
    (h : post (nI (m + 1)) (nI p, upd (pt_cp a (248 * p + 8 * m + 8) (248 * p + 8 * m) 8) (248 * p + 8 * m + 8 + j) (a (248 * p + 8 * m + j) + w), upd L p (nI (m + 1)))) : wpX_add post (nI p, a, L) (nI j) w := by
  unfold wpX_add
  dsimp only
  refine pt_kX hj _ (br_f (by decide) (pt_fX0 hp hL hm _ (br_t rfl (pt_mkX hp hm hL _ ?_))))
  dsimp only
  refine pt_nowX hp (m := m + 1) pk_us j (248 * p + 8 * m + 8 + j) (by omega) _ ?_
  refine ⟨vp_in_nI (by omega) (by decide), vp_in_nI (by omega) (by decide), ?_⟩
  rw [nI_clamp (by omega), nI_clamp (by omega), pk_us, pt_cp_at a _ _ 8 (by omega) j hj]
  exact nm_e ⟨vp_in_nI hp (by decide), h⟩
theorem pt_addX0 {a L : Nat → Int32} {f x w : Int32} (hx : ∀ post : Int32 → Prop, post 0 → wpX_isKey post x) (post : Int32 → SX → Prop) (h : post (-1) (f, a, L)) : wpX_add post (f, a, L) x w := by
  unfold wpX_add
  dsimp only
  exact hx _ (br_t rfl h)
theorem pt_addX1 {p j : Nat} {a L : Nat → Int32} (hp : p < 6) (hL : L p = nI 30) (hj : j < 8) (w : Int32) (post : Int32 → SX → Prop) (h : post (-2) (nI p, a, L)) : wpX_add post (nI p, a, L) (nI j) w := by
  unfold wpX_add
  dsimp only
  exact pt_kX hj _ (br_f (by decide) (pt_fX1 hp hL _ (br_f (by decide) h)))
theorem i_vc_add {k : Nat} {u : SX} {v : SY} (I : i_Rel k u v) (hk : k + 4 ≤ 2048) (v1 : Int32) (v2 : Int32) : wpX_add (fun r u' => wpY_add (fun r' v' => r' = r ∧ i_Rel (k + 4) u' v') v v1 v2) u v1 v2 := by
  obtain ⟨p, a, L, hp, hL, rfl, rfl⟩ := I
  obtain ⟨m, hm, e⟩ := hL p
  unfold wpY_add
  dsimp only
  rcases pt_key v1 with ⟨j, hj, rfl⟩ | ⟨hX, hY⟩
  · by_cases h : m = 30
    · subst h
      exact pt_addX1 hp e hj v2 _ (pt_getY hp hm e hj _ (pt_setY1 hp e hj _ _ ⟨rfl, p, a, L, hp, hL, rfl, rfl⟩))
    · exact pt_addX hp (by omega) e hj v2 _ (pt_getY hp hm e hj _ (pt_setY hp (by omega) e hj _ _ ⟨rfl, p, _, _, hp, pt_upd hL p (m + 1) (by omega), rfl, rfl⟩))
  · exact pt_addX0 hX _ (pt_getY0 hp e hY _ (pt_setY0 hY _ ⟨rfl, p, a, L, hp, hL, rfl, rfl⟩))
/-! exchange -/
theorem pt_excX {p m j l : Nat} {a L : Nat → Int32} (hp : p < 6) (hm : m < 30) (hL : L p = nI m) (hj : j < 8) (hl : l < 8) (post : Int32 → SX → Prop)
    (h : ∀ b : Nat → Int32, b = pt_cp a (248 * p + 8 * m + 8) (248 * p + 8 * m) 8 → post (nI (m + 1)) (nI p, upd (upd b (248 * p + 8 * m + 8 + j) (b (248 * p + 8 * m + 8 + l))) (248 * p + 8 * m + 8 + l) (b (248 * p + 8 * m + 8 + j)), upd L p (nI (m + 1)))) : wpX_exchange post (nI p, a, L) (nI j) (nI l) := by
  have h' := h _ rfl
  unfold wpX_exchange
  dsimp only
  refine pt_kX hj _ (br_f (by decide) (pt_kX hl _ (br_f (by decide) (pt_fX0 hp hL hm _ (br_t rfl (pt_mkX hp hm hL _ ?_))))))
  dsimp only
  refine pt_nowX hp (m := m + 1) pk_us j (248 * p + 8 * m + 8 + j) (by omega) _ ?_
  refine pt_nowX hp (m := m + 1) pk_us l (248 * p + 8 * m + 8 + l) (by omega) _ ?_
  rw [nI_clamp (n := 248 * p + 8 * m + 8 + j) (by omega), nI_clamp (n := 248 * p + 8 * m + 8 + l) (by omega), nI_clamp (n := p) (by omega), pk_us]
  exact ⟨vp_in_nI (by omega) (by decide), nm_e ⟨vp_in_nI (by omega) (by decide), vp_in_nI (by omega) (by decide), nm_e ⟨vp_in_nI (by omega) (by decide), nm_e ⟨vp_in_nI hp (by decide), h'⟩⟩⟩⟩
theorem pt_excY {p m j l : Nat} {a L : Nat → Int32} (hp : p < 6) (hm : m < 30) (hL : L p = nI m) (hj : j < 8) (hl : l < 8) (post : Int32 → SY → Prop)
    (h : ∀ b : Nat → Int32, b = pt_cp a (248 * p + 8 * m + 8) (248 * p + 8 * m) 8 → post (nI (m + 1)) (nI (p + 1), upd (upd b (248 * p + 8 * m + 8 + j) (b (248 * p + 8 * m + 8 + l))) (248 * p + 8 * m + 8 + l) (b (248 * p + 8 * m + 8 + j)), upd L p (nI (m + 1)))) : wpY_exchange post (nI (p + 1), a, L) (nI j) (nI l) := by
  have h' := h _ rfl
  unfold wpY_exchange
  dsimp only
  refine pt_kY hj _ (br_f (by decide) (pt_kY hl _ (br_f (by decide) (pt_pointY hp hL _ (br_f (pt_n30 hm) (pt_mkY hp hm hL _ ?_))))))
  dsimp only
  refine pt_nowY hp (m := m + 1) pk_us (248 * p + 8 * m + 8) (by omega) _ ?_
  rw [nI_add _ j, nI_add _ l, nI_clamp (n := 248 * p + 8 * m + 8 + j) (by omega), nI_clamp (n := 248 * p + 8 * m + 8 + l) (by omega)]
  exact ⟨vp_in_nI (by omega) (by decide), nm_e ⟨vp_in_nI (by omega) (by decide), vp_in_nI (by omega) (by decide), nm_e ⟨vp_in_nI (by omega) (by decide), nm_e (pt_pointY hp pk_us _ h')⟩⟩⟩
theorem i_vc_exchange {k : Nat} {u : SX} {v : SY} (I : i_Rel k u v) (hk : k + 4 ≤ 2048) (v1 : Int32) (v2 : Int32) : wpX_exchange (fun r u' => wpY_exchange (fun r' v' => r' = r ∧ i_Rel (k + 4) u' v') v v1 v2) u v1 v2 := by
  obtain ⟨p, a, L, hp, hL, rfl, rfl⟩ := I
  obtain ⟨m, hm, e⟩ := hL p
  have R : i_Rel (k + 4) (nI p, a, L) (nI (p + 1), a, L) := ⟨p, a, L, hp, hL, rfl, rfl⟩
  rcases pt_key v1 with ⟨j, hj, rfl⟩ | ⟨hX, hY⟩
  · rcases pt_key v2 with ⟨l, hl, rfl⟩ | ⟨hX, hY⟩
    · by_cases h : m = 30
      · subst h
        unfold wpX_exchange wpY_exchange
        dsimp only
        exact pt_kX hj _ (br_f (by decide) (pt_kX hl _ (br_f (by decide) (pt_fX1 hp e _ (br_f (by decide) (pt_kY hj _ (br_f (by decide) (pt_kY hl _ (br_f (by decide) (pt_pointY hp e _ (br_t rfl ⟨rfl, R⟩)))))))))))
      · refine pt_excX hp (by omega) e hj hl _ (fun b hb => pt_excY hp (by omega) e hj hl _ (fun b' hb' => ?_))
        cases hb'.trans hb.symm
        exact ⟨rfl, p, _, _, hp, pt_upd hL p (m + 1) (by omega), rfl, rfl⟩
    · unfold wpX_exchange wpY_exchange
      dsimp only
      exact pt_kX hj _ (br_f (by decide) (hX _ (br_t rfl (pt_kY hj _ (br_f (by decide) (hY _ _ _ _ (br_t rfl ⟨rfl, R⟩)))))))
  · unfold wpX_exchange wpY_exchange
    dsimp only
    exact hX _ (br_t rfl (hY _ _ _ _ (br_t rfl ⟨rfl, R⟩)))
end
section
/-! restore: the cells of the points 0 to n, copied to the new timeline's -/
theorem pt_cX (post : SX → Prop) (s d z : Nat) (f : Int32) (a L : Nat → Int32) (hs : s + z ≤ 1488) (hd : d + z ≤ 1488) (h : post (f, pt_cp a d s z, L)) : ∀ e j : Nat, j + e = z → wX_copyPoints_27 post (nI s) (nI d) (nI z) f (e + 1) (nI j) (pt_cp a d s j) L := by
  intro e
  induction e with
  | zero =>
    intro j hj
    obtain rfl : j = z := by omega
    rw [wX_copyPoints_27]
    exact br_t (nI_le (Nat.le_refl _) (by omega)) h
  | succ e ih =>
    intro j hj
    rw [wX_copyPoints_27]
    refine br_f (nI_ge (by omega) (by omega)) ?_
    rw [nI_add, nI_add, nI_clamp (by omega), nI_clamp (by omega)]
    exact ⟨vp_in_nI (by omega) (by decide), vp_in_nI (by omega) (by decide), nm_e (nm_r (nI_1 j) (ih (j + 1) (by omega)))⟩
theorem pt_cY (post : Int32 → SY → Prop) (t q n : Nat) (a L : Nat → Int32) (ht : t < 6) (hq : q < 6) (hn : n ≤ 30) (h : post (nI q) (nI (q + 1), pt_cp a (248 * q) (248 * t) (8 * n + 8), upd L q (nI n))) : ∀ e j : Nat, j + e = 8 * n + 8 → wY_restore_26 post (nI t) (nI n) (nI q) (e + 1) (nI j) (pt_cp a (248 * q) (248 * t) j) L := by
  intro e
  induction e with
  | zero =>
    intro j hj
    obtain rfl : j = 8 * n + 8 := by omega
    rw [wY_restore_26]
    refine br_t (by rw [pt_len]; exact nI_le (Nat.le_refl _) (by omega)) ⟨vp_in_nI hq (by decide), ?_⟩
    rw [nI_clamp (by omega)]
    refine nm_e (nm_r (nI_1 q) ?_)
    rw [nI_pred]
    exact h
  | succ e ih =>
    intro j hj
    rw [wY_restore_26]
    refine br_f (by rw [pt_len]; exact nI_ge (by omega) (by omega)) ?_
    rw [pt_ixR, pt_ixR, nI_clamp (by omega), nI_clamp (by omega)]
    exact ⟨vp_in_nI (by omega) (by decide), vp_in_nI (by omega) (by decide), nm_e (nm_r (nI_1 j) (ih (j + 1) (by omega)))⟩
theorem pt_copyX {t q n : Nat} {f : Int32} {a L : Nat → Int32} (ht : t < 6) (hq : q < 6) (hn : n ≤ 30) (post : SX → Prop) (h : post (f, pt_cp a (248 * q) (248 * t) (8 * n + 8), L)) : wpX_copyPoints post (f, a, L) (nI t) (nI q) (nI n) := by
  unfold wpX_copyPoints
  dsimp only
  refine pt_cellX t 0 0 (248 * t) rfl _ ?_
  refine pt_cellX q 0 0 (248 * q) rfl _ ?_
  refine nm_r (pt_lenX n) ?_
  exact ⟨8 * n + 8 + 1, pt_cX post (248 * t) (248 * q) (8 * n + 8) f a L (by omega) (by omega) h (8 * n + 8) 0 (by omega)⟩
theorem pt_n5 {p : Nat} (hp : p < 5) : ¬ nI p = 5 := fun e => by
  have := (nI_eq (a := p) (b := 5) (by omega) (by decide)).mp e
  omega
theorem pt_n6 {p : Nat} (hp : p < 6) : ¬ nI p = 6 := fun e => by
  have := (nI_eq (a := p) (b := 6) (by omega) (by decide)).mp e
  omega
theorem i_vc_restore {k : Nat} {u : SX} {v : SY} (I : i_Rel k u v) (hk : k + 4 ≤ 2048) (v1 : Int32) (v2 : Int32) : wpX_restore (fun r u' => wpY_restore (fun r' v' => r' = r ∧ i_Rel (k + 4) u' v') v v1 v2) u v1 v2 := by
  obtain ⟨p, a, L, hp, hL, rfl, rfl⟩ := I
  have R : i_Rel (k + 4) (nI p, a, L) (nI (p + 1), a, L) := ⟨p, a, L, hp, hL, rfl, rfl⟩
  unfold wpX_restore wpY_restore
  dsimp only
  rcases pt_pt a hp hL v1 v2 with ⟨t, n, m, ht, hn, hm, e, rfl, rfl⟩ | ⟨hX, hY⟩
  · by_cases h : p = 5
    · subst h
      exact pt_pX hp ht hn hm e _ (br_f (by decide) (br_t rfl (pt_pY hp ht hn hm e _ (br_f (by decide) (br_t rfl ⟨rfl, R⟩)))))
    · refine pt_pX hp ht hn hm e _ (br_f (by decide) (br_f (pt_n5 (by omega)) (nm_r (nI_1 p) ?_)))
      refine pt_copyX (by omega) (by omega) (by omega) _ ?_
      dsimp only
      refine ⟨vp_in_nI (by omega) (by decide), ?_⟩
      rw [nI_clamp (by omega)]
      refine nm_e ?_
      refine pt_pY hp ht hn hm e _ (br_f (by decide) (br_f (pt_n6 (by omega)) ?_))
      refine ⟨8 * n + 8 + 1, pt_cY _ t (p + 1) n a L (by omega) (by omega) (by omega) ?_ (8 * n + 8) 0 (by omega)⟩
      exact ⟨rfl, p + 1, _, _, by omega, pt_upd hL (p + 1) n (by omega), rfl, rfl⟩
  · exact hX _ (br_t rfl (hY _ (br_t rfl ⟨rfl, R⟩)))
end
section
/-! what only reads -/
theorem i_vc_timeline {k : Nat} {u : SX} {v : SY} (I : i_Rel k u v) (hk : k + 4 ≤ 2048) : wpX_timeline (fun r => wpY_timeline (fun r' => r' = r ∧ i_Rel (k + 4) u v) v) u := by
  obtain ⟨p, a, L, hp, hL, rfl, rfl⟩ := I
  exact ⟨nI_pred p, p, a, L, hp, hL, rfl, rfl⟩
theorem i_vc_point {k : Nat} {u : SX} {v : SY} (I : i_Rel k u v) (hk : k + 4 ≤ 2048) : wpX_point (fun r => wpY_point (fun r' => r' = r ∧ i_Rel (k + 4) u v) v) u := by
  obtain ⟨p, a, L, hp, hL, rfl, rfl⟩ := I
  obtain ⟨m, hm, e⟩ := hL p
  exact pt_pointX hp e _ (pt_pointY hp e _ ⟨rfl, p, a, L, hp, hL, rfl, rfl⟩)
theorem i_vc_valueAt {k : Nat} {u : SX} {v : SY} (I : i_Rel k u v) (hk : k + 4 ≤ 2048) (v1 : Int32) (v2 : Int32) (v3 : Int32) : wpX_valueAt (fun r => wpY_valueAt (fun r' => r' = r ∧ i_Rel (k + 4) u v) v v1 v2 v3) u v1 v2 v3 := by
  obtain ⟨p, a, L, hp, hL, rfl, rfl⟩ := I
  have R : i_Rel (k + 4) (nI p, a, L) (nI (p + 1), a, L) := ⟨p, a, L, hp, hL, rfl, rfl⟩
  unfold wpX_valueAt wpY_valueAt
  dsimp only
  rcases pt_pt a hp hL v1 v2 with ⟨t, n, m, ht, hn, hm, e, rfl, rfl⟩ | ⟨hX, hY⟩
  · rcases pt_key v3 with ⟨j, hj, rfl⟩ | ⟨hX, hY⟩
    · refine pt_pX hp ht hn hm e _ (br_f (by decide) (pt_kX hj _ (br_f (by decide) (pt_cellX t n j _ rfl _ ⟨vp_in_nI (by omega) (by decide), ?_⟩))))
      refine pt_pY hp ht hn hm e _ (br_f (by decide) (pt_kY hj _ (br_f (by decide) ?_)))
      rw [pt_ixY]
      exact ⟨vp_in_nI (by omega) (by decide), rfl, R⟩
    · exact pt_pX hp ht hn hm e _ (br_f (by decide) (hX _ (br_t rfl (pt_pY hp ht hn hm e _ (br_f (by decide) (hY _ _ _ _ (br_t rfl ⟨rfl, R⟩)))))))
  · exact hX _ (br_t rfl (hY _ (br_t rfl ⟨rfl, R⟩)))
theorem i_vc_lastPoint {k : Nat} {u : SX} {v : SY} (I : i_Rel k u v) (hk : k + 4 ≤ 2048) (v1 : Int32) : wpX_lastPoint (fun r => wpY_lastPoint (fun r' => r' = r ∧ i_Rel (k + 4) u v) v v1) u v1 := by
  obtain ⟨p, a, L, hp, hL, rfl, rfl⟩ := I
  have R : i_Rel (k + 4) (nI p, a, L) (nI (p + 1), a, L) := ⟨p, a, L, hp, hL, rfl, rfl⟩
  unfold wpX_lastPoint wpY_lastPoint
  dsimp only
  rcases pt_split v1 p with h | ⟨j, h, hj, rfl⟩ | ⟨t, ht, rfl⟩
  · unfold wpX_isTimeline wpY_isPoint
    dsimp only
    exact br_t h (br_t rfl (br_t h (br_t rfl ⟨rfl, R⟩)))
  · unfold wpX_isTimeline wpY_isPoint
    dsimp only
    exact br_f (nI_pos hj) (br_t (nI_lt h hj) (br_t rfl (br_f (nI_pos hj) (br_t (nI_le (by omega) hj) (br_t rfl ⟨rfl, R⟩)))))
  · obtain ⟨m, hm, e⟩ := hL t
    refine pt_tX hp ht _ (br_f (by decide) ⟨vp_in_nI (by omega) (by decide), ?_⟩)
    refine pt_pY hp ht (n := 0) (Nat.zero_le m) hm e _ (br_f (by decide) ⟨vp_in_nI (by omega) (by decide), rfl, R⟩)
/-! lastChange: in lockstep from n down -/
theorem pt_lc (a L : Nat → Int32) (t k : Nat) (f g : Int32) (ht : t < 6) (hk : k < 8) : ∀ n : Nat, n ≤ 30 → ∃ r : Int32, (∀ post : Int32 → Prop, post r → wX_lastChange_24 post (nI t) (nI k) f a L (n + 1) (nI n)) ∧ (∀ post : Int32 → Prop, post r → wY_lastChange_25 post (nI t) (nI k) g a L (n + 1) (nI n)) := by
  intro n
  induction n with
  | zero =>
    intro _
    have h : nI 0 ≤ 0 := nI_le (a := 0) (b := 0) (by omega) (by decide)
    refine ⟨0, fun post hp => ?_, fun post hp => ?_⟩
    · rw [wX_lastChange_24]; exact br_t h hp
    · rw [wY_lastChange_25]; exact br_t h hp
  | succ n ih =>
    intro hn
    have h : ¬ nI (n + 1) ≤ 0 := nI_nle (by omega) (by omega)
    obtain ⟨r, hX, hY⟩ := ih (by omega)
    have xX : ∀ post : Int32 → Prop, ((a (248 * t + 8 * (n + 1) + k) = a (248 * t + 8 * n + k) → wX_lastChange_24 post (nI t) (nI k) f a L (n + 1) (nI n)) ∧ (¬ a (248 * t + 8 * (n + 1) + k) = a (248 * t + 8 * n + k) → post (nI (n + 1)))) → wX_lastChange_24 post (nI t) (nI k) f a L (n + 1 + 1) (nI (n + 1)) := by
      intro post q
      rw [wX_lastChange_24]
      refine br_f h (pt_cellX t (n + 1) k _ rfl _ ⟨vp_in_nI (by omega) (by decide), ?_⟩)
      rw [nI_pred]
      refine pt_cellX t n k _ rfl _ ⟨vp_in_nI (by omega) (by decide), ?_⟩
      rw [nI_clamp (by omega), nI_clamp (by omega)]
      exact br_c (fun z => nm_r (pk_m1 n) (q.1 z)) q.2
    have xY : ∀ post : Int32 → Prop, ((a (248 * t + 8 * (n + 1) + k) = a (248 * t + 8 * n + k) → wY_lastChange_25 post (nI t) (nI k) g a L (n + 1) (nI n)) ∧ (¬ a (248 * t + 8 * (n + 1) + k) = a (248 * t + 8 * n + k) → post (nI (n + 1)))) → wY_lastChange_25 post (nI t) (nI k) g a L (n + 1 + 1) (nI (n + 1)) := by
      intro post q
      rw [wY_lastChange_25]
      refine br_f h ?_
      rw [pt_ixY, pt_ixP, nI_clamp (by omega), nI_clamp (by omega)]
      exact ⟨vp_in_nI (by omega) (by decide), vp_in_nI (by omega) (by decide), br_c (fun z => nm_r (pk_m1 n) (q.1 z)) q.2⟩
    by_cases z : a (248 * t + 8 * (n + 1) + k) = a (248 * t + 8 * n + k)
    · exact ⟨r, fun post hp => xX post (br_t z (hX post hp)), fun post hp => xY post (br_t z (hY post hp))⟩
    · exact ⟨nI (n + 1), fun post hp => xX post (br_f z hp), fun post hp => xY post (br_f z hp)⟩
theorem i_vc_lastChange {k : Nat} {u : SX} {v : SY} (I : i_Rel k u v) (hk : k + 4 ≤ 2048) (v1 : Int32) (v2 : Int32) (v3 : Int32) : wpX_lastChange (fun r => wpY_lastChange (fun r' => r' = r ∧ i_Rel (k + 4) u v) v v1 v2 v3) u v1 v2 v3 := by
  obtain ⟨p, a, L, hp, hL, rfl, rfl⟩ := I
  have R : i_Rel (k + 4) (nI p, a, L) (nI (p + 1), a, L) := ⟨p, a, L, hp, hL, rfl, rfl⟩
  unfold wpX_lastChange wpY_lastChange
  dsimp only
  rcases pt_key v3 with ⟨j, hj, rfl⟩ | ⟨hX, hY⟩
  · rcases pt_pt a hp hL v1 v2 with ⟨t, n, m, ht, hn, hm, e, rfl, rfl⟩ | ⟨hX, hY⟩
    · obtain ⟨r, hX, hY⟩ := pt_lc a L t j (nI p) (nI (p + 1)) (by omega) hj n (by omega)
      refine pt_kX hj _ (br_f (by decide) (pt_pX hp ht hn hm e _ (br_f (by decide) ⟨n + 1, hX _ ?_⟩)))
      exact pt_kY hj _ (br_f (by decide) (pt_pY hp ht hn hm e _ (br_f (by decide) ⟨n + 1, hY _ ⟨rfl, R⟩⟩)))
    · exact pt_kX hj _ (br_f (by decide) (hX _ (br_t rfl (pt_kY hj _ (br_f (by decide) (hY _ (br_t rfl ⟨rfl, R⟩)))))))
  · exact hX _ (br_t rfl (hY _ _ _ _ (br_t rfl ⟨rfl, R⟩)))
/-! differs and digest: over the eight keys in lockstep -/
theorem pt_df (a L : Nat → Int32) (t n p m : Nat) (g : Int32) (ht : t < 6) (hn : n ≤ 30) (hp : p < 6) (hm : m ≤ 30) (hL : L p = nI m) : ∀ e j : Nat, j + e = 8 → ∀ c : Int32, ∃ r : Int32, (∀ post : Int32 → Prop, post r → wX_differs_17 post (nI t) (nI n) (nI p) a L (e + 1) c (nI j)) ∧ (∀ post : Int32 → Prop, post r → wY_differs_23 post (nI t) (nI n) (nI (248 * p + 8 * m)) g a L (e + 1) c (nI j)) := by
  intro e
  induction e with
  | zero =>
    intro j hj c
    obtain rfl : j = 8 := by omega
    have h : (8 : Int32) ≤ nI 8 := nI_le (a := 8) (b := 8) (by omega) (by decide)
    refine ⟨c, fun post hp => ?_, fun post hp => ?_⟩
    · rw [wX_differs_17]; exact br_t h hp
    · rw [wY_differs_23]; exact br_t h hp
  | succ e ih =>
    intro j hj c
    have h : ¬ (8 : Int32) ≤ nI j := nI_ge (b := 8) (by omega) (by decide)
    have xX : ∀ post : Int32 → Prop, ((a (248 * t + 8 * n + j) = a (248 * p + 8 * m + j) → wX_differs_17 post (nI t) (nI n) (nI p) a L (e + 1) c (nI (j + 1))) ∧ (¬ a (248 * t + 8 * n + j) = a (248 * p + 8 * m + j) → wX_differs_17 post (nI t) (nI n) (nI p) a L (e + 1) (c + 1) (nI (j + 1)))) → wX_differs_17 post (nI t) (nI n) (nI p) a L (e + 1 + 1) c (nI j) := by
      intro post q
      rw [wX_differs_17]
      refine br_f h (pt_cellX t n j _ rfl _ ⟨vp_in_nI (by omega) (by decide), ?_⟩)
      refine pt_nowX hp hL j _ rfl _ ⟨vp_in_nI (by omega) (by decide), ?_⟩
      rw [nI_clamp (by omega), nI_clamp (by omega)]
      exact br_c (fun z => nm_r (nI_1 j) (q.1 z)) (fun z => nm_e (nm_r (nI_1 j) (q.2 z)))
    have xY : ∀ post : Int32 → Prop, ((a (248 * t + 8 * n + j) = a (248 * p + 8 * m + j) → wY_differs_23 post (nI t) (nI n) (nI (248 * p + 8 * m)) g a L (e + 1) c (nI (j + 1))) ∧ (¬ a (248 * t + 8 * n + j) = a (248 * p + 8 * m + j) → wY_differs_23 post (nI t) (nI n) (nI (248 * p + 8 * m)) g a L (e + 1) (c + 1) (nI (j + 1)))) → wY_differs_23 post (nI t) (nI n) (nI (248 * p + 8 * m)) g a L (e + 1 + 1) c (nI j) := by
      intro post q
      rw [wY_differs_23]
      refine br_f h ?_
      rw [pt_ixY, nI_add, nI_clamp (by omega), nI_clamp (by omega)]
      exact ⟨vp_in_nI (by omega) (by decide), vp_in_nI (by omega) (by decide), br_c (fun z => nm_r (nI_1 j) (q.1 z)) (fun z => nm_e (nm_r (nI_1 j) (q.2 z)))⟩
    by_cases z : a (248 * t + 8 * n + j) = a (248 * p + 8 * m + j)
    · obtain ⟨r, hX, hY⟩ := ih (j + 1) (by omega) c
      exact ⟨r, fun post hp => xX post (br_t z (hX post hp)), fun post hp => xY post (br_t z (hY post hp))⟩
    · obtain ⟨r, hX, hY⟩ := ih (j + 1) (by omega) (c + 1)
      exact ⟨r, fun post hp => xX post (br_f z (hX post hp)), fun post hp => xY post (br_f z (hY post hp))⟩
theorem i_vc_differs {k : Nat} {u : SX} {v : SY} (I : i_Rel k u v) (hk : k + 4 ≤ 2048) (v1 : Int32) (v2 : Int32) : wpX_differs (fun r => wpY_differs (fun r' => r' = r ∧ i_Rel (k + 4) u v) v v1 v2) u v1 v2 := by
  obtain ⟨p, a, L, hp, hL, rfl, rfl⟩ := I
  have R : i_Rel (k + 4) (nI p, a, L) (nI (p + 1), a, L) := ⟨p, a, L, hp, hL, rfl, rfl⟩
  unfold wpX_differs wpY_differs
  dsimp only
  rcases pt_pt a hp hL v1 v2 with ⟨t, n, m, ht, hn, hm, e, rfl, rfl⟩ | ⟨hX, hY⟩
  · obtain ⟨m', hm', e'⟩ := hL p
    obtain ⟨r, hX, hY⟩ := pt_df a L t n p m' (nI (p + 1)) (by omega) (by omega) hp hm' e' 8 0 rfl 0
    refine pt_pX hp ht hn hm e _ (br_f (by decide) ⟨9, hX _ ?_⟩)
    exact pt_pY hp ht hn hm e _ (br_f (by decide) (pt_nowY hp e' _ rfl _ ⟨9, hY _ ⟨rfl, R⟩⟩))
  · exact hX _ (br_t rfl (hY _ (br_t rfl ⟨rfl, R⟩)))
theorem pt_dg (a L : Nat → Int32) (p m : Nat) (g : Int32) (hp : p < 6) (hm : m ≤ 30) (hL : L p = nI m) : ∀ e j : Nat, j + e = 8 → ∀ c : Int32, ∃ r : Int32, (∀ post : Int32 → Prop, post r → wX_digest_4 post (nI p) a L (e + 1) c (nI j)) ∧ (∀ post : Int32 → Prop, post r → wY_digest_9 post (nI (248 * p + 8 * m)) g a L (e + 1) c (nI j)) := by
  intro e
  induction e with
  | zero =>
    intro j hj c
    obtain rfl : j = 8 := by omega
    have h : (8 : Int32) ≤ nI 8 := nI_le (a := 8) (b := 8) (by omega) (by decide)
    refine ⟨c, fun post hp => ?_, fun post hp => ?_⟩
    · rw [wX_digest_4]; exact br_t h hp
    · rw [wY_digest_9]; exact br_t h hp
  | succ e ih =>
    intro j hj c
    have h : ¬ (8 : Int32) ≤ nI j := nI_ge (b := 8) (by omega) (by decide)
    obtain ⟨r, hX, hY⟩ := ih (j + 1) (by omega) (c + (nI j + 1) * a (248 * p + 8 * m + j))
    refine ⟨r, fun post q => ?_, fun post q => ?_⟩
    · rw [wX_digest_4]
      refine br_f h (pt_nowX hp hL j _ rfl _ ⟨vp_in_nI (by omega) (by decide), ?_⟩)
      rw [nI_clamp (by omega)]
      exact nm_e (nm_r (nI_1 j) (hX post q))
    · rw [wY_digest_9]
      refine br_f h ?_
      rw [nI_add, nI_clamp (by omega)]
      exact ⟨vp_in_nI (by omega) (by decide), nm_e (nm_r (nI_1 j) (hY post q))⟩
theorem i_vc_digest {k : Nat} {u : SX} {v : SY} (I : i_Rel k u v) (hk : k + 4 ≤ 2048) : wpX_digest (fun r => wpY_digest (fun r' => r' = r ∧ i_Rel (k + 4) u v) v) u := by
  obtain ⟨p, a, L, hp, hL, rfl, rfl⟩ := I
  obtain ⟨m, hm, e⟩ := hL p
  have R : i_Rel (k + 4) (nI p, a, L) (nI (p + 1), a, L) := ⟨p, a, L, hp, hL, rfl, rfl⟩
  unfold wpX_digest wpY_digest
  dsimp only
  obtain ⟨r, hX, hY⟩ := pt_dg a L p m (nI (p + 1)) hp hm e 8 0 rfl 0
  exact ⟨9, hX _ (pt_nowY hp e _ rfl _ ⟨9, hY _ ⟨rfl, R⟩⟩)⟩
end
section
/-! crash, backup, flush: no state -/
theorem i_vc_crash {k : Nat} {u : SX} {v : SY} (I : i_Rel k u v) (hk : k + 4 ≤ 2048) : wpX_crash (fun r => wpY_crash (fun r' => r' = r ∧ i_Rel (k + 4) u v) v) u := by
  obtain ⟨p, a, L, hp, hL, rfl, rfl⟩ := I
  exact ⟨rfl, p, a, L, hp, hL, rfl, rfl⟩
theorem i_vc_backup {k : Nat} {u : SX} {v : SY} (I : i_Rel k u v) (hk : k + 4 ≤ 2048) (v1 : Int32) : wpX_backup (fun r => wpY_backup (fun r' => r' = r ∧ i_Rel (k + 4) u v) v v1) u v1 := by
  obtain ⟨p, a, L, hp, hL, rfl, rfl⟩ := I
  have R : i_Rel (k + 4) (nI p, a, L) (nI (p + 1), a, L) := ⟨p, a, L, hp, hL, rfl, rfl⟩
  unfold wpX_backup wpX_isCount wpY_backup
  dsimp only
  rcases pt_split v1 8 with h | ⟨j, h, hj, rfl⟩ | ⟨j, h, rfl⟩
  · exact br_t h (br_t rfl (br_t h ⟨rfl, R⟩))
  · exact br_f (nI_pos hj) (br_t (nI_lt (a := 8) h hj) (br_t rfl (br_f (nI_pos hj) (br_f (nI_ge (a := 8) h hj) ⟨rfl, R⟩))))
  · exact br_f (nI_pos (by omega)) (br_f (nI_nlt (a := 8) h (by decide)) (br_f (by decide) (br_f (nI_pos (by omega)) (br_t (nI_le (b := 8) h (by decide)) ⟨rfl, R⟩))))
theorem i_vc_flush {k : Nat} {u : SX} {v : SY} (I : i_Rel k u v) (hk : k + 4 ≤ 2048) (v1 : Int32) : wpX_flush (fun r => wpY_flush (fun r' => r' = r ∧ i_Rel (k + 4) u v) v v1) u v1 := by
  obtain ⟨p, a, L, hp, hL, rfl, rfl⟩ := I
  have R : i_Rel (k + 4) (nI p, a, L) (nI (p + 1), a, L) := ⟨p, a, L, hp, hL, rfl, rfl⟩
  unfold wpX_flush wpX_isCount wpY_flush
  dsimp only
  rcases pt_split v1 8 with h | ⟨j, h, hj, rfl⟩ | ⟨j, h, rfl⟩
  · exact br_t h (br_t rfl (br_t h ⟨rfl, R⟩))
  · exact br_f (nI_pos hj) (br_t (nI_lt (a := 8) h hj) (br_t rfl (br_f (nI_pos hj) (br_f (nI_ge (a := 8) h hj) ⟨rfl, R⟩))))
  · exact br_f (nI_pos (by omega)) (br_f (nI_nlt (a := 8) h (by decide)) (br_f (by decide) (br_f (nI_pos (by omega)) (br_t (nI_le (b := 8) h (by decide)) ⟨rfl, R⟩))))
end
