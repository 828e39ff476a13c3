/-! pasted from kit/rows/PURE-ROWS: pk_us .. pk_cl -/
theorem pk_us {f : Nat → Int32} {k : Nat} {x : Int32} : upd f k x k = x := if_pos rfl
theorem pk_un {f : Nat → Int32} {k j : Nat} {x : Int32} (h : j ≠ k) : upd f k x j = f j := if_neg h
theorem pk_sub {a b : Nat} (h : b ≤ a) : nI a - nI b = nI (a - b) := by
  obtain ⟨c, rfl⟩ : ∃ c, a = c + b := ⟨a - b, by omega⟩
  rw [← nI_add, Int32.add_sub_cancel, Nat.add_sub_cancel]
theorem pk_m1 (n : Nat) : nI (n + 1) + (-1) = nI n := by
  rw [← nI_1, Int32.add_assoc, show (1 : Int32) + (-1) = 0 from rfl, Int32.add_zero]
theorem pk_mul (a b : Nat) : nI a * nI b = nI (a * b) := (Int32.ofNat_mul a b).symm
theorem pk_ix (x : Int32) {n : Nat} (hn : n < 2 ^ 31) : x < 0 ∨ nI n ≤ x ∨ ∃ j : Nat, j < n ∧ x = nI j := by
  by_cases h : x < 0
  · exact Or.inl h
  · obtain ⟨j, hj, rfl⟩ := nI_of h
    by_cases h2 : j < n
    · exact Or.inr (Or.inr ⟨j, h2, rfl⟩)
    · exact Or.inr (Or.inl (nI_le (by omega) hj))
theorem pk_le {x y : Int32} {A B : Prop} (a b : Nat) (f : a ≤ b → A) (g : b < a → B) (hx : x = nI a := by rfl) (hy : y = nI b := by rfl) (ha : a < 2 ^ 31 := by omega) (hb : b < 2 ^ 31 := by omega) : (x ≤ y → A) ∧ (¬ x ≤ y → B) := by
  subst hx hy
  rw [nI_leI ha hb]
  exact ⟨f, fun z => g (by omega)⟩
theorem pk_lt {x y : Int32} {A B : Prop} (a b : Nat) (f : a < b → A) (g : b ≤ a → B) (hx : x = nI a := by rfl) (hy : y = nI b := by rfl) (ha : a < 2 ^ 31 := by omega) (hb : b < 2 ^ 31 := by omega) : (x < y → A) ∧ (¬ x < y → B) := by
  subst hx hy
  rw [nI_ltI ha hb]
  exact ⟨f, fun z => g (by omega)⟩
theorem pk_eq {x y : Int32} {A B : Prop} (a b : Nat) (f : a = b → A) (g : a ≠ b → B) (hx : x = nI a := by rfl) (hy : y = nI b := by rfl) (ha : a < 2 ^ 31 := by omega) (hb : b < 2 ^ 31 := by omega) : (x = y → A) ∧ (¬ x = y → B) := by
  subst hx hy
  rw [nI_eq ha hb]
  exact ⟨f, g⟩
theorem pk_in {x : Int32} (n N : Nat) (h : n < N) (hx : x = nI n := by rfl) (hN : N < 2 ^ 31 := by omega) : vp_in x N := by
  subst hx
  exact vp_in_nI h hN
theorem pk_cl {x : Int32} (n : Nat) (hx : x = nI n := by rfl) (h : n < 2 ^ 31 := by omega) : x.toNatClampNeg = n := by
  subst hx
  exact nI_clamp h
/-! the tables of the class: what an operation j makes of a depth and a number -/
def fs_gr : Nat → Int32
  | 0 => 1
  | 1 => 1
  | 2 => 1
  | 3 => -1
  | 8 => -1
  | 9 => -1
  | 10 => -1
  | 11 => -1
  | _ => 0
def fs_vn (j : Nat) (a : Int32) : Int32 := match j with
  | 0 => 0
  | 2 => 0
  | 12 => 0
  | 13 => 0
  | 3 => 1
  | 10 => 1
  | 11 => 1
  | _ => a + 1
def fs_fo : Nat → Int32
  | 0 => 1
  | 1 => 2
  | 2 => 3
  | 3 => 4
  | 4 => 5
  | 5 => 6
  | 6 => 7
  | 7 => 8
  | 8 => 6
  | 9 => 7
  | 10 => 9
  | 11 => 10
  | 12 => 11
  | _ => 12
def fs_to (d : Int32) (j : Nat) (a : Int32) : Int32 := match j with
  | 0 => d
  | 1 => d
  | 2 => d
  | 4 => d - 1
  | 5 => d - 1
  | 6 => d - 1
  | 7 => d - 1
  | 8 => d - 1 - a
  | 9 => d - 1 - a
  | _ => a
def fs_fr (d : Int32) (j : Nat) (a : Int32) : Int32 := match j with
  | 0 => a
  | 2 => a
  | 1 => d - 1 - a
  | 4 => d - 1 - a
  | 5 => d - 1 - a
  | 6 => d - 1 - a
  | 7 => d - 1 - a
  | _ => d - 1
/-- slot s holds the translation of (j, a) at depth d -/
def fs_SL (fo ft ff fd : Nat → Int32) (s : Nat) (d : Int32) (j : Nat) (a : Int32) : Prop :=
  ((d < fs_vn j a ∨ ¬ d + fs_gr j ≤ 8) → fo s = 0) ∧
  (¬ d < fs_vn j a → d + fs_gr j ≤ 8 → fo s = fs_fo j ∧ ft s = fs_to d j a ∧ ff s = fs_fr d j a ∧ fd s = d + fs_gr j)
/-- (j, a) is an instruction that emit takes -/
def fs_ok (j : Nat) (a : Int32) : Prop :=
  j = 0 ∨ j = 13 ∨ (1 ≤ j ∧ j ≤ 7 ∧ ∃ m : Nat, m ≤ 7 ∧ a = nI m) ∨ (8 ≤ j ∧ j ≤ 9 ∧ ∃ m : Nat, 1 ≤ m ∧ m ≤ 7 ∧ a = nI m) ∨ (10 ≤ j ∧ j ≤ 12 ∧ ∃ m : Nat, m ≤ 31 ∧ a = nI m)
/-- the two programs agree -/
def fs_PR (n : Nat) (op arg fo ft ff fd : Nat → Int32) : Prop :=
  ∀ i, i < n → ∃ j : Nat, op i = nI j ∧ fs_ok j (arg i) ∧ ∀ e : Nat, e < 9 → fs_SL fo ft ff fd (i * 9 + e) (nI e) j (arg i)
/-- the two stacks agree -/
def fs_SR (d : Nat) (reg stk : Nat → Int32) : Prop := ∀ k, k < d → reg (d - 1 - k) = stk k
def fs_R (u : SX) (v : SY) : Prop :=
  ∃ (n d p : Nat) (c st : Int32) (reg cel fo ft ff fd op arg stk : Nat → Int32),
    u = (nI n, nI d, nI p, c, st, reg, cel, fo, ft, ff, fd) ∧ v = (nI n, nI d, nI p, c, st, op, arg, stk, cel) ∧
    n ≤ 32 ∧ d ≤ 8 ∧ p ≤ 32 ∧ fs_SR d reg stk ∧ fs_PR n op arg fo ft ff fd
def i_Rel (_ : Nat) (u : SX) (v : SY) : Prop := fs_R u v
theorem i_up {k : Nat} {u : SX} {v : SY} (h : i_Rel k u v) : i_Rel (k + 4) u v := h
theorem i_vc0 : wpX_init (fun u => wpY_init (fun v => i_Rel 0 u v)) :=
  ⟨0, 0, 0, 0, 0, _, _, _, _, _, _, _, _, _, rfl, rfl, by decide, by decide, by decide, fun _ h => absurd h (Nat.not_lt_zero _), fun _ h => absurd h (Nat.not_lt_zero _)⟩
theorem fs_14 {P : Nat → Prop} (h0 : P 0) (h1 : P 1) (h2 : P 2) (h3 : P 3) (h4 : P 4) (h5 : P 5) (h6 : P 6) (h7 : P 7) (h8 : P 8) (h9 : P 9) (h10 : P 10) (h11 : P 11) (h12 : P 12) (h13 : P 13) : ∀ j, j < 14 → P j
  | 0, _ => h0
  | 1, _ => h1
  | 2, _ => h2
  | 3, _ => h3
  | 4, _ => h4
  | 5, _ => h5
  | 6, _ => h6
  | 7, _ => h7
  | 8, _ => h8
  | 9, _ => h9
  | 10, _ => h10
  | 11, _ => h11
  | 12, _ => h12
  | 13, _ => h13
  | j + 14, h => absurd h (by omega)
theorem fs_ok14 {j : Nat} {a : Int32} (h : fs_ok j a) : j < 14 := by
  rcases h with h | h | ⟨_, h, _⟩ | ⟨_, h, _⟩ | ⟨_, h, _⟩ <;> omega
