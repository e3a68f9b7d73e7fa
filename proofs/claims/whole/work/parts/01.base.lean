theorem pk_us {f : Nat → Int32} {k : Nat} {x : Int32} : upd f k x k = x := if_pos rfl
theorem pk_un {f : Nat → Int32} {k j : Nat} {x : Int32} (h : j ≠ k) : upd f k x j = f j := if_neg h
theorem pk_sub {a b : Nat} (h : b ≤ a) : nI a - nI b = nI (a - b) := by
  obtain ⟨c, rfl⟩ : ∃ c, a = c + b := ⟨a - b, by omega⟩
  rw [← nI_add, Int32.add_sub_cancel, Nat.add_sub_cancel]
theorem pk_m1 (n : Nat) : nI (n + 1) + (-1) = nI n := by
  rw [← nI_1, Int32.add_assoc, show (1 : Int32) + (-1) = 0 from rfl, Int32.add_zero]
theorem pk_mul (a b : Nat) : nI a * nI b = nI (a * b) := (Int32.ofNat_mul a b).symm
theorem pt_l8 : (8 : Int32) = nI 8 := rfl
theorem pt_l31 : (31 : Int32) = nI 31 := rfl
theorem pt_l248 : (248 : Int32) = nI 248 := rfl
/-- the component's address of a cell -/
theorem pt_ixX (t n k : Nat) : ((nI t * 31) + nI n) * 8 + nI k = nI (248 * t + 8 * n + k) := by
  rw [pt_l31, pt_l8, pk_mul, nI_add, pk_mul, nI_add]
  exact congrArg nI (by omega)
/-- the reference's address of a cell -/
theorem pt_ixY (t n k : Nat) : 248 * nI t + 8 * nI n + nI k = nI (248 * t + 8 * n + k) := by
  rw [pt_l248, pt_l8, pk_mul, pk_mul, nI_add, nI_add]
theorem pt_ixN (t n : Nat) : 248 * nI t + 8 * nI n = nI (248 * t + 8 * n) := by
  rw [pt_l248, pt_l8, pk_mul, pk_mul, nI_add]
theorem pt_ixP (t n k : Nat) : 248 * nI t + 8 * nI (n + 1) - 8 + nI k = nI (248 * t + 8 * n + k) := by
  rw [pt_l248, pt_l8, pk_mul, pk_mul, nI_add, pk_sub (by omega), nI_add]
  exact congrArg nI (by omega)
theorem pt_ixR (t i : Nat) : 248 * nI t + nI i = nI (248 * t + i) := by
  rw [pt_l248, pk_mul, nI_add]
theorem pt_len (n : Nat) : 8 * nI n + 8 = nI (8 * n + 8) := by
  rw [pt_l8, pk_mul, nI_add]
theorem pt_lenX (n : Nat) : (nI n + 1) * 8 = nI (8 * n + 8) := by
  rw [nI_1, pt_l8, pk_mul]
  exact congrArg nI (by omega)
theorem pt_a8 (s j : Nat) : nI s + 8 + nI j = nI (s + 8 + j) := by
  rw [pt_l8, nI_add, nI_add]
/-- any int is below 0, or above p, or a number up to p -/
theorem pt_split (x : Int32) (p : Nat) : x < 0 ∨ (∃ j : Nat, p < j ∧ j < 2 ^ 31 ∧ x = nI j) ∨ (∃ j : Nat, j ≤ p ∧ x = nI j) := by
  by_cases h : x < 0
  · exact Or.inl h
  · obtain ⟨j, hj, rfl⟩ := nI_of h
    by_cases h2 : j ≤ p
    · exact Or.inr (Or.inr ⟨j, h2, rfl⟩)
    · exact Or.inr (Or.inl ⟨j, by omega, hj, rfl⟩)
/-- n cells, from s on, copied one by one to d and on -/
def pt_cp (a : Nat → Int32) (d s : Nat) : Nat → (Nat → Int32)
  | 0 => a
  | n + 1 => upd (pt_cp a d s n) (d + n) (pt_cp a d s n (s + n))
theorem pt_cp_lo (a : Nat → Int32) (d s : Nat) : ∀ n j : Nat, j < d → pt_cp a d s n j = a j := by
  intro n
  induction n with
  | zero => intro j _; rfl
  | succ n ih => intro j hj; exact (pk_un (by omega)).trans (ih j hj)
theorem pt_cp_at (a : Nat → Int32) (d s : Nat) : ∀ n : Nat, s + n ≤ d → ∀ i : Nat, i < n → pt_cp a d s n (d + i) = a (s + i) := by
  intro n
  induction n with
  | zero => intro _ i hi; omega
  | succ n ih =>
    intro h i hi
    by_cases e : i = n
    · subst e
      exact pk_us.trans (pt_cp_lo a d s i (s + i) (by omega))
    · exact (pk_un (by omega)).trans (ih (by omega) i (by omega))
def i_Rel (_ : Nat) (u : SX) (v : SY) : Prop := ∃ (p : Nat) (a L : Nat → Int32), p < 6 ∧ (∀ j : Nat, ∃ m : Nat, m ≤ 30 ∧ L j = nI m) ∧ u = (nI p, a, L) ∧ v = (nI (p + 1), a, L)
theorem i_up {k : Nat} {u : SX} {v : SY} (h : i_Rel k u v) : i_Rel (k + 4) u v := h
theorem i_vc0 : wpX_init (fun u => wpY_init (fun v => i_Rel 0 u v)) :=
  ⟨0, fun _ => 0, fun _ => 0, by decide, fun _ => ⟨0, by decide, rfl⟩, rfl, rfl⟩
theorem pt_upd {L : Nat → Int32} (hL : ∀ j : Nat, ∃ m : Nat, m ≤ 30 ∧ L j = nI m) (p n : Nat) (hn : n ≤ 30) : ∀ j : Nat, ∃ m : Nat, m ≤ 30 ∧ upd L p (nI n) j = nI m := by
  intro j
  by_cases h : j = p
  · subst h
    exact ⟨n, hn, pk_us⟩
  · obtain ⟨m, hm, e⟩ := hL j
    exact ⟨m, hm, (pk_un h).trans e⟩
