section
/-! pasted from kit/rows/PURE-ROWS: pk_us .. pk_cl -/
theorem pk_us {f : Nat → Int32} {k : Nat} {x : Int32} : upd f k x k = x := if_pos rfl
theorem pk_un {f : Nat → Int32} {k j : Nat} {x : Int32} (h : j ≠ k) : upd f k x j = f j := if_neg h
theorem pk_sub {a b : Nat} (h : b ≤ a) : nI a - nI b = nI (a - b) := by
  obtain ⟨c, rfl⟩ : ∃ c, a = c + b := ⟨a - b, by omega⟩
  rw [← nI_add, Int32.add_sub_cancel, Nat.add_sub_cancel]
theorem pk_m1 (n : Nat) : nI (n + 1) + (-1) = nI n := by
  rw [← nI_1, Int32.add_assoc, show (1 : Int32) + (-1) = 0 from rfl, Int32.add_zero]
theorem pk_mul (a b : Nat) : nI a * nI b = nI (a * b) := (Int32.ofNat_mul a b).symm
theorem pk_ix (x : Int32) {n : Nat} (hn : n < 2 ^ 31) : x < 0 ∨ nI n ≤ x ∨ ∃ j : Nat, j < n ∧ x = nI j := by
  by_cases h : x < 0
  · exact Or.inl h
  · obtain ⟨j, hj, rfl⟩ := nI_of h
    by_cases h2 : j < n
    · exact Or.inr (Or.inr ⟨j, h2, rfl⟩)
    · exact Or.inr (Or.inl (nI_le (by omega) hj))
theorem pk_le {x y : Int32} {A B : Prop} (a b : Nat) (f : a ≤ b → A) (g : b < a → B) (hx : x = nI a := by rfl) (hy : y = nI b := by rfl) (ha : a < 2 ^ 31 := by omega) (hb : b < 2 ^ 31 := by omega) : (x ≤ y → A) ∧ (¬ x ≤ y → B) := by
  subst hx hy
  rw [nI_leI ha hb]
  exact ⟨f, fun z => g (by omega)⟩
theorem pk_lt {x y : Int32} {A B : Prop} (a b : Nat) (f : a < b → A) (g : b ≤ a → B) (hx : x = nI a := by rfl) (hy : y = nI b := by rfl) (ha : a < 2 ^ 31 := by omega) (hb : b < 2 ^ 31 := by omega) : (x < y → A) ∧ (¬ x < y → B) := by
  subst hx hy
  rw [nI_ltI ha hb]
  exact ⟨f, fun z => g (by omega)⟩
theorem pk_eq {x y : Int32} {A B : Prop} (a b : Nat) (f : a = b → A) (g : a ≠ b → B) (hx : x = nI a := by rfl) (hy : y = nI b := by rfl) (ha : a < 2 ^ 31 := by omega) (hb : b < 2 ^ 31 := by omega) : (x = y → A) ∧ (¬ x = y → B) := by
  subst hx hy
  rw [nI_eq ha hb]
  exact ⟨f, g⟩
theorem pk_in {x : Int32} (n N : Nat) (h : n < N) (hx : x = nI n := by rfl) (hN : N < 2 ^ 31 := by omega) : vp_in x N := by
  subst hx
  exact vp_in_nI h hN
theorem pk_cl {x : Int32} (n : Nat) (hx : x = nI n := by rfl) (h : n < 2 ^ 31 := by omega) : x.toNatClampNeg = n := by
  subst hx
  exact nI_clamp h
/-! the tables of the class: what an operation j makes of a depth and a number -/
def fs_gr : Nat → Int32
  | 0 => 1
  | 1 => 1
  | 2 => 1
  | 3 => -1
  | 8 => -1
  | 9 => -1
  | 10 => -1
  | 11 => -1
  | _ => 0
def fs_vn (j : Nat) (a : Int32) : Int32 := match j with
  | 0 => 0
  | 2 => 0
  | 12 => 0
  | 13 => 0
  | 3 => 1
  | 10 => 1
  | 11 => 1
  | _ => a + 1
def fs_fo : Nat → Int32
  | 0 => 1
  | 1 => 2
  | 2 => 3
  | 3 => 4
  | 4 => 5
  | 5 => 6
  | 6 => 7
  | 7 => 8
  | 8 => 6
  | 9 => 7
  | 10 => 9
  | 11 => 10
  | 12 => 11
  | _ => 12
def fs_to (d : Int32) (j : Nat) (a : Int32) : Int32 := match j with
  | 0 => d
  | 1 => d
  | 2 => d
  | 4 => d - 1
  | 5 => d - 1
  | 6 => d - 1
  | 7 => d - 1
  | 8 => d - 1 - a
  | 9 => d - 1 - a
  | _ => a
def fs_fr (d : Int32) (j : Nat) (a : Int32) : Int32 := match j with
  | 0 => a
  | 2 => a
  | 1 => d - 1 - a
  | 4 => d - 1 - a
  | 5 => d - 1 - a
  | 6 => d - 1 - a
  | 7 => d - 1 - a
  | _ => d - 1
/-- slot s holds the translation of (j, a) at depth d -/
def fs_SL (fo ft ff fd : Nat → Int32) (s : Nat) (d : Int32) (j : Nat) (a : Int32) : Prop :=
  ((d < fs_vn j a ∨ ¬ d + fs_gr j ≤ 8) → fo s = 0) ∧
  (¬ d < fs_vn j a → d + fs_gr j ≤ 8 → fo s = fs_fo j ∧ ft s = fs_to d j a ∧ ff s = fs_fr d j a ∧ fd s = d + fs_gr j)
/-- (j, a) is an instruction that emit takes -/
def fs_ok (j : Nat) (a : Int32) : Prop :=
  j = 0 ∨ j = 13 ∨ (1 ≤ j ∧ j ≤ 7 ∧ ∃ m : Nat, m ≤ 7 ∧ a = nI m) ∨ (8 ≤ j ∧ j ≤ 9 ∧ ∃ m : Nat, 1 ≤ m ∧ m ≤ 7 ∧ a = nI m) ∨ (10 ≤ j ∧ j ≤ 12 ∧ ∃ m : Nat, m ≤ 31 ∧ a = nI m)
/-- the two programs agree -/
def fs_PR (n : Nat) (op arg fo ft ff fd : Nat → Int32) : Prop :=
  ∀ i, i < n → ∃ j : Nat, op i = nI j ∧ fs_ok j (arg i) ∧ ∀ e : Nat, e < 9 → fs_SL fo ft ff fd (i * 9 + e) (nI e) j (arg i)
/-- the two stacks agree -/
def fs_SR (d : Nat) (reg stk : Nat → Int32) : Prop := ∀ k, k < d → reg (d - 1 - k) = stk k
def fs_R (u : SX) (v : SY) : Prop :=
  ∃ (n d p : Nat) (c st : Int32) (reg cel fo ft ff fd op arg stk : Nat → Int32),
    u = (nI n, nI d, nI p, c, st, reg, cel, fo, ft, ff, fd) ∧ v = (nI n, nI d, nI p, c, st, op, arg, stk, cel) ∧
    n ≤ 32 ∧ d ≤ 8 ∧ p ≤ 32 ∧ fs_SR d reg stk ∧ fs_PR n op arg fo ft ff fd
def i_Rel (_ : Nat) (u : SX) (v : SY) : Prop := fs_R u v
theorem i_up {k : Nat} {u : SX} {v : SY} (h : i_Rel k u v) : i_Rel (k + 4) u v := h
theorem i_vc0 : wpX_init (fun u => wpY_init (fun v => i_Rel 0 u v)) :=
  ⟨0, 0, 0, 0, 0, _, _, _, _, _, _, _, _, _, rfl, rfl, by decide, by decide, by decide, fun _ h => absurd h (Nat.not_lt_zero _), fun _ h => absurd h (Nat.not_lt_zero _)⟩
theorem fs_14 {P : Nat → Prop} (h0 : P 0) (h1 : P 1) (h2 : P 2) (h3 : P 3) (h4 : P 4) (h5 : P 5) (h6 : P 6) (h7 : P 7) (h8 : P 8) (h9 : P 9) (h10 : P 10) (h11 : P 11) (h12 : P 12) (h13 : P 13) : ∀ j, j < 14 → P j
  | 0, _ => h0
  | 1, _ => h1
  | 2, _ => h2
  | 3, _ => h3
  | 4, _ => h4
  | 5, _ => h5
  | 6, _ => h6
  | 7, _ => h7
  | 8, _ => h8
  | 9, _ => h9
  | 10, _ => h10
  | 11, _ => h11
  | 12, _ => h12
  | 13, _ => h13
  | j + 14, h => absurd h (by omega)
theorem fs_ok14 {j : Nat} {a : Int32} (h : fs_ok j a) : j < 14 := by
  rcases h with h | h | ⟨_, h, _⟩ | ⟨_, h, _⟩ | ⟨_, h, _⟩ <;> omega
end
section
theorem fs_xgr : ∀ j, j < 14 → ∀ post : Int32 → Prop, post (fs_gr j) → wpX_growth post (nI j) := by
  apply fs_14 <;> (intro post h; unfold wpX_growth; repeat (first | exact h | refine br_t (by decide) ?_ | refine br_f (by decide) ?_))
theorem fs_xvn (a : Int32) : ∀ j, j < 14 → ∀ post : Int32 → Prop, post (fs_vn j a) → wpX_valuesNeeded post (nI j) a := by
  apply fs_14 <;> (intro post h; unfold wpX_valuesNeeded; repeat (first | exact h | refine br_t (by decide) ?_ | refine br_f (by decide) ?_))
theorem fs_xfo : ∀ j, j < 14 → ∀ post : Int32 → Prop, post (fs_fo j) → wpX_flatOperation post (nI j) := by
  apply fs_14 <;> (intro post h; unfold wpX_flatOperation; repeat (first | exact h | refine br_t (by decide) ?_ | refine br_f (by decide) ?_))
theorem fs_xto (d a : Int32) : ∀ j, j < 14 → ∀ post : Int32 → Prop, post (fs_to d j a) → wpX_flatTarget post d (nI j) a := by
  apply fs_14 <;> (intro post h; unfold wpX_flatTarget; repeat (first | exact h | refine br_t (by decide) ?_ | refine br_f (by decide) ?_))
theorem fs_xfr (d a : Int32) : ∀ j, j < 14 → ∀ post : Int32 → Prop, post (fs_fr d j a) → wpX_flatSource post d (nI j) a := by
  apply fs_14 <;> (intro post h; unfold wpX_flatSource; repeat (first | exact h | refine br_t (by decide) ?_ | refine br_f (by decide) ?_))
theorem fs_td (post : SX → Prop) (n d p c st : Int32) (reg cel fo ft ff fd : Nat → Int32) (s : Nat) (hs : s < 288) (e : Int32) (j : Nat) (hj : j < 14) (a : Int32)
    (hp : ∀ fo' ft' ff' fd' : Nat → Int32, fs_SL fo' ft' ff' fd' s e j a → (∀ q, q ≠ s → fo' q = fo q ∧ ft' q = ft q ∧ ff' q = ff q ∧ fd' q = fd q) → post (n, d, p, c, st, reg, cel, fo', ft', ff', fd')) :
    wpX_translateForDepth post (n, d, p, c, st, reg, cel, fo, ft, ff, fd) (nI s) e (nI j) a := by
  have hi : vp_in (nI s) 288 := vp_in_nI hs (by decide)
  have hc : (nI s).toNatClampNeg = s := nI_clamp (by omega)
  have hz : (e < fs_vn j a ∨ ¬ e + fs_gr j ≤ 8) → post (n, d, p, c, st, reg, cel, upd fo s 0, ft, ff, fd) := fun h =>
    hp _ _ _ _ ⟨fun _ => pk_us, fun h1 h2 => h.elim (fun h3 => absurd h3 h1) (fun h3 => absurd h2 h3)⟩ (fun q hq => ⟨pk_un hq, rfl, rfl, rfl⟩)
  unfold wpX_translateForDepth
  refine fs_xgr j hj _ ?_
  refine nm_e ?_
  refine fs_xvn a j hj _ ?_
  refine br_c (fun h1 => ⟨hi, nm_r (by rw [hc]) (hz (Or.inl h1))⟩) (fun h1 => ?_)
  refine br_c (fun h2 => ?_) (fun h2 => ⟨hi, nm_r (by rw [hc]) (hz (Or.inr h2))⟩)
  refine fs_xfo j hj _ ?_
  refine ⟨hi, nm_r (e' := upd fo s (fs_fo j)) (by rw [hc]) ?_⟩
  refine fs_xto e a j hj _ ?_
  refine ⟨hi, nm_r (e' := upd ft s (fs_to e j a)) (by rw [hc]) ?_⟩
  refine fs_xfr e a j hj _ ?_
  refine ⟨hi, nm_r (e' := upd ff s (fs_fr e j a)) (by rw [hc]) ?_⟩
  refine ⟨hi, nm_r (e' := upd fd s (e + fs_gr j)) (by rw [hc]) ?_⟩
  exact hp _ _ _ _ ⟨fun h => h.elim (fun h3 => absurd h3 h1) (fun h3 => absurd h2 h3), fun _ _ => ⟨pk_us, pk_us, pk_us, pk_us⟩⟩ (fun q hq => ⟨pk_un hq, pk_un hq, pk_un hq, pk_un hq⟩)
theorem fs_tl (post : SX → Prop) (n d p c st : Int32) (reg cel fo ft ff fd : Nat → Int32) (i : Nat) (hi : i < 32) (j : Nat) (hj : j < 14) (a : Int32)
    (hp : ∀ fo' ft' ff' fd' : Nat → Int32, (∀ e : Nat, e < 9 → fs_SL fo' ft' ff' fd' (i * 9 + e) (nI e) j a) → (∀ q, (q < i * 9 ∨ i * 9 + 9 ≤ q) → fo' q = fo q ∧ ft' q = ft q ∧ ff' q = ff q ∧ fd' q = fd q) → post (n, d, p, c, st, reg, cel, fo', ft', ff', fd')) :
    ∀ (m k : Nat) (go gt gf gd : Nat → Int32), k + m = 9 → (∀ e : Nat, e < k → fs_SL go gt gf gd (i * 9 + e) (nI e) j a) → (∀ q, (q < i * 9 ∨ i * 9 + 9 ≤ q) → go q = fo q ∧ gt q = ft q ∧ gf q = ff q ∧ gd q = fd q) →
      wX_translate_3 post (nI i) (nI j) a (m + 1) (nI k) n d p c st reg cel go gt gf gd := by
  intro m
  induction m with
  | zero =>
    intro k go gt gf gd hk hS hF
    have h9 : (9 : Int32) ≤ nI k := nI_le (a := 9) (by omega) (by omega)
    refine br_t h9 (hp go gt gf gd (fun e he => hS e (by omega)) hF)
  | succ m ih =>
    intro k go gt gf gd hk hS hF
    have h9 : ¬ (9 : Int32) ≤ nI k := nI_ge (b := 9) (by omega) (by decide)
    refine br_f h9 ?_
    have hs : nI i * 9 + nI k = nI (i * 9 + k) := by
      rw [show (9 : Int32) = nI 9 from rfl, pk_mul, nI_add]
    rw [hs]
    refine fs_td _ n d p c st reg cel go gt gf gd (i * 9 + k) (by omega) (nI k) j hj a ?_
    intro fo' ft' ff' fd' hN hQ
    refine nm_r (nI_1 k) ?_
    refine ih (k + 1) fo' ft' ff' fd' (by omega) ?_ ?_
    · intro e he
      by_cases hek : e = k
      · rw [hek]; exact hN
      · have hq := hQ (i * 9 + e) (by omega)
        have ho := hS e (by omega)
        unfold fs_SL at ho ⊢
        rw [hq.1, hq.2.1, hq.2.2.1, hq.2.2.2]
        exact ho
    · intro q hq
      have h1 := hQ q (by omega)
      have h2 := hF q hq
      exact ⟨h1.1.trans h2.1, h1.2.1.trans h2.2.1, h1.2.2.1.trans h2.2.2.1, h1.2.2.2.trans h2.2.2.2⟩
theorem fs_tr (post : SX → Prop) (n d p c st : Int32) (reg cel fo ft ff fd : Nat → Int32) (i : Nat) (hi : i < 32) (j : Nat) (hj : j < 14) (a : Int32)
    (hp : ∀ fo' ft' ff' fd' : Nat → Int32, (∀ e : Nat, e < 9 → fs_SL fo' ft' ff' fd' (i * 9 + e) (nI e) j a) → (∀ q, (q < i * 9 ∨ i * 9 + 9 ≤ q) → fo' q = fo q ∧ ft' q = ft q ∧ ff' q = ff q ∧ fd' q = fd q) → post (n, d, p, c, st, reg, cel, fo', ft', ff', fd')) :
    wpX_translate post (n, d, p, c, st, reg, cel, fo, ft, ff, fd) (nI i) (nI j) a :=
  ⟨10, fs_tl post n d p c st reg cel fo ft ff fd i hi j hj a hp 9 0 fo ft ff fd rfl (fun e he => absurd he (Nat.not_lt_zero _)) (fun q _ => ⟨rfl, rfl, rfl, rfl⟩)⟩
/-- one more, or another, instruction at i -/
theorem fs_put {n n' i j : Nat} {a : Int32} {op arg fo ft ff fd fo' ft' ff' fd' : Nat → Int32} (hP : fs_PR n op arg fo ft ff fd) (hok : fs_ok j a)
    (hS : ∀ e : Nat, e < 9 → fs_SL fo' ft' ff' fd' (i * 9 + e) (nI e) j a) (hF : ∀ q, (q < i * 9 ∨ i * 9 + 9 ≤ q) → fo' q = fo q ∧ ft' q = ft q ∧ ff' q = ff q ∧ fd' q = fd q)
    (hn : ∀ q, q < n' → q ≠ i → q < n) : fs_PR n' (upd op i (nI j)) (upd arg i a) fo' ft' ff' fd' := by
  intro q hq
  by_cases hqi : q = i
  · subst hqi
    refine ⟨j, pk_us, ?_, ?_⟩
    · rw [pk_us]; exact hok
    · rw [pk_us]; exact hS
  · obtain ⟨j', h1, h2, h3⟩ := hP q (hn q hq hqi)
    refine ⟨j', (pk_un hqi).trans h1, ?_, ?_⟩
    · rw [pk_un hqi]; exact h2
    · rw [pk_un hqi]
      intro e he
      have hk := hF (q * 9 + e) (by omega)
      have ho := h3 e he
      unfold fs_SL at ho ⊢
      rw [hk.1, hk.2.1, hk.2.2.1, hk.2.2.2]
      exact ho
end
section
theorem fs_lo {b : Nat} {a : Int32} (hb : b + 1 < 2 ^ 31) (h : nI (b + 1) ≤ a) : nI b < a := by
  rw [Int32.le_iff_toInt_le, nI_toInt hb] at h
  rw [Int32.lt_iff_toInt_lt, nI_toInt (by omega)]
  omega
theorem fs_nl {b c : Nat} {a : Int32} (hb : b < 2 ^ 31) (hc : c ≤ b) (h : nI b ≤ a) : ¬ a < nI c := by
  rw [Int32.le_iff_toInt_le, nI_toInt hb] at h
  rw [Int32.lt_iff_toInt_lt, nI_toInt (by omega)]
  omega
theorem fs_l1 {a : Int32} (h : a < 0) : a < 1 := by
  rw [Int32.lt_iff_toInt_lt] at h ⊢
  rw [show (0 : Int32).toInt = 0 from by decide] at h
  rw [show (1 : Int32).toInt = 1 from by decide]
  omega
def fs_Is (o a b : Int32) : Prop := (∀ post : Int32 → Prop, post b → wpX_isInstruction post o a) ∧ (∀ (post : Int32 → Prop) (n d p c st : Int32) (op arg stk mem : Nat → Int32), post b → wpY_fits post (n, d, p, c, st, op, arg, stk, mem) o a)
theorem fs_is0 (a : Int32) : fs_Is (nI 0) a 1 := by
  refine ⟨fun post h => ?_, fun post n d p c st op arg stk mem h => ?_⟩ <;> repeat (first | exact h | refine br_t (by decide) ?_ | refine br_f (by decide) ?_)
theorem fs_is13 (a : Int32) : fs_Is (nI 13) a 1 := by
  refine ⟨fun post h => ?_, fun post n d p c st op arg stk mem h => ?_⟩ <;> repeat (first | exact h | refine br_t (by decide) ?_ | refine br_f (by decide) ?_)
theorem fs_is7 (a : Int32) : ∀ j, j < 14 → 1 ≤ j → j ≤ 7 → (fs_Is (nI j) a 1 ∧ ∃ m : Nat, m ≤ 7 ∧ a = nI m) ∨ fs_Is (nI j) a 0 := by
  rcases pk_ix a (n := 8) (by decide) with ha | ha | ⟨m, hm, rfl⟩
  · apply fs_14 <;> first
      | (intro h1 h2; exact absurd h1 (by decide))
      | (intro h1 h2; exact absurd h2 (by decide))
      | (intro h1 h2; right; refine ⟨fun post h => ?_, fun post n d p c st op arg stk mem h => ?_⟩ <;> repeat (first | exact h | refine br_t (by first | decide | assumption) ?_ | refine br_f (by first | decide | assumption) ?_))
  · have h1 : (8 : Int32) ≤ a := ha
    have h2 : (7 : Int32) < a := fs_lo (b := 7) (by decide) ha
    have h3 : ¬ a < (0 : Int32) := fs_nl (c := 0) (by decide) (by decide) ha
    apply fs_14 <;> first
      | (intro h1 h2; exact absurd h1 (by decide))
      | (intro h1 h2; exact absurd h2 (by decide))
      | (intro _ _; right; refine ⟨fun post h => ?_, fun post n d p c st op arg stk mem h => ?_⟩ <;> repeat (first | exact h | refine br_t (by first | decide | assumption) ?_ | refine br_f (by first | decide | assumption) ?_))
  · have h1 : ¬ (8 : Int32) ≤ nI m := nI_ge (b := 8) hm (by decide)
    have h2 : ¬ (7 : Int32) < nI m := nI_nlt (a := 7) (by omega) (by decide)
    have h3 : ¬ nI m < (0 : Int32) := nI_pos (by omega)
    apply fs_14 <;> first
      | (intro h1 h2; exact absurd h1 (by decide))
      | (intro h1 h2; exact absurd h2 (by decide))
      | (intro _ _; left; refine ⟨⟨fun post h => ?_, fun post n d p c st op arg stk mem h => ?_⟩, m, by omega, rfl⟩ <;> repeat (first | exact h | refine br_t (by first | decide | assumption) ?_ | refine br_f (by first | decide | assumption) ?_))
theorem fs_is9 (a : Int32) : ∀ j, j < 14 → 8 ≤ j → j ≤ 9 → (fs_Is (nI j) a 1 ∧ ∃ m : Nat, 1 ≤ m ∧ m ≤ 7 ∧ a = nI m) ∨ fs_Is (nI j) a 0 := by
  rcases pk_ix a (n := 8) (by decide) with ha | ha | ⟨m, hm, rfl⟩
  · have h4 := fs_l1 ha
    apply fs_14 <;> first
      | (intro h1 h2; exact absurd h1 (by decide))
      | (intro h1 h2; exact absurd h2 (by decide))
      | (intro h1 h2; right; refine ⟨fun post h => ?_, fun post n d p c st op arg stk mem h => ?_⟩ <;> repeat (first | exact h | refine br_t (by first | decide | assumption) ?_ | refine br_f (by first | decide | assumption) ?_))
  · have h1 : (8 : Int32) ≤ a := ha
    have h2 : (7 : Int32) < a := fs_lo (b := 7) (by decide) ha
    have h3 : ¬ a < (1 : Int32) := fs_nl (c := 1) (by decide) (by decide) ha
    apply fs_14 <;> first
      | (intro h1 h2; exact absurd h1 (by decide))
      | (intro h1 h2; exact absurd h2 (by decide))
      | (intro _ _; right; refine ⟨fun post h => ?_, fun post n d p c st op arg stk mem h => ?_⟩ <;> repeat (first | exact h | refine br_t (by first | decide | assumption) ?_ | refine br_f (by first | decide | assumption) ?_))
  · have h1 : ¬ (8 : Int32) ≤ nI m := nI_ge (b := 8) hm (by decide)
    have h2 : ¬ (7 : Int32) < nI m := nI_nlt (a := 7) (by omega) (by decide)
    by_cases h4 : 1 ≤ m
    · have h3 : ¬ nI m < (1 : Int32) := nI_nlt (b := 1) h4 (by omega)
      apply fs_14 <;> first
        | (intro h1 h2; exact absurd h1 (by decide))
        | (intro h1 h2; exact absurd h2 (by decide))
        | (intro _ _; left; refine ⟨⟨fun post h => ?_, fun post n d p c st op arg stk mem h => ?_⟩, m, h4, by omega, rfl⟩ <;> repeat (first | exact h | refine br_t (by first | decide | assumption) ?_ | refine br_f (by first | decide | assumption) ?_))
    · have h3 : nI m < (1 : Int32) := nI_lt (b := 1) (by omega) (by decide)
      apply fs_14 <;> first
        | (intro h1 h2; exact absurd h1 (by decide))
        | (intro h1 h2; exact absurd h2 (by decide))
        | (intro _ _; right; refine ⟨fun post h => ?_, fun post n d p c st op arg stk mem h => ?_⟩ <;> repeat (first | exact h | refine br_t (by first | decide | assumption) ?_ | refine br_f (by first | decide | assumption) ?_))
theorem fs_is12 (a : Int32) : ∀ j, j < 14 → 10 ≤ j → j ≤ 12 → (fs_Is (nI j) a 1 ∧ ∃ m : Nat, m ≤ 31 ∧ a = nI m) ∨ fs_Is (nI j) a 0 := by
  rcases pk_ix a (n := 32) (by decide) with ha | ha | ⟨m, hm, rfl⟩
  · apply fs_14 <;> first
      | (intro h1 h2; exact absurd h1 (by decide))
      | (intro h1 h2; exact absurd h2 (by decide))
      | (intro h1 h2; right; refine ⟨fun post h => ?_, fun post n d p c st op arg stk mem h => ?_⟩ <;> repeat (first | exact h | refine br_t (by first | decide | assumption) ?_ | refine br_f (by first | decide | assumption) ?_))
  · have h1 : (32 : Int32) ≤ a := ha
    have h2 : (31 : Int32) < a := fs_lo (b := 31) (by decide) ha
    have h3 : ¬ a < (0 : Int32) := fs_nl (c := 0) (by decide) (by decide) ha
    apply fs_14 <;> first
      | (intro h1 h2; exact absurd h1 (by decide))
      | (intro h1 h2; exact absurd h2 (by decide))
      | (intro _ _; right; refine ⟨fun post h => ?_, fun post n d p c st op arg stk mem h => ?_⟩ <;> repeat (first | exact h | refine br_t (by first | decide | assumption) ?_ | refine br_f (by first | decide | assumption) ?_))
  · have h1 : ¬ (32 : Int32) ≤ nI m := nI_ge (b := 32) hm (by decide)
    have h2 : ¬ (31 : Int32) < nI m := nI_nlt (a := 31) (by omega) (by decide)
    have h3 : ¬ nI m < (0 : Int32) := nI_pos (by omega)
    apply fs_14 <;> first
      | (intro h1 h2; exact absurd h1 (by decide))
      | (intro h1 h2; exact absurd h2 (by decide))
      | (intro _ _; left; refine ⟨⟨fun post h => ?_, fun post n d p c st op arg stk mem h => ?_⟩, m, by omega, rfl⟩ <;> repeat (first | exact h | refine br_t (by first | decide | assumption) ?_ | refine br_f (by first | decide | assumption) ?_))
theorem fs_is (o a : Int32) : (∃ j : Nat, o = nI j ∧ fs_ok j a ∧ fs_Is o a 1) ∨ fs_Is o a 0 := by
  by_cases h0 : o < 0
  · exact Or.inr ⟨fun post h => br_t h0 h, fun post n d p c st op arg stk mem h => br_t h0 h⟩
  by_cases h13 : o ≤ 13
  · obtain ⟨j, hj, rfl⟩ := nI_of2 (M := 13) (n := 13) (by decide) h0 h13
    by_cases j0 : j = 0
    · subst j0; exact Or.inl ⟨0, rfl, Or.inl rfl, fs_is0 a⟩
    by_cases j13 : j = 13
    · subst j13; exact Or.inl ⟨13, rfl, Or.inr (Or.inl rfl), fs_is13 a⟩
    by_cases j7 : j ≤ 7
    · rcases fs_is7 a j (by omega) (by omega) j7 with ⟨h, hm⟩ | h
      · exact Or.inl ⟨j, rfl, Or.inr (Or.inr (Or.inl ⟨by omega, j7, hm⟩)), h⟩
      · exact Or.inr h
    by_cases j9 : j ≤ 9
    · rcases fs_is9 a j (by omega) (by omega) j9 with ⟨h, hm⟩ | h
      · exact Or.inl ⟨j, rfl, Or.inr (Or.inr (Or.inr (Or.inl ⟨by omega, j9, hm⟩))), h⟩
      · exact Or.inr h
    · rcases fs_is12 a j (by omega) (by omega) (by omega) with ⟨h, hm⟩ | h
      · exact Or.inl ⟨j, rfl, Or.inr (Or.inr (Or.inr (Or.inr ⟨by omega, by omega, hm⟩))), h⟩
      · exact Or.inr h
  · exact Or.inr ⟨fun post h => br_f h0 (br_f h13 h), fun post n d p c st op arg stk mem h => br_f h0 (br_f h13 h)⟩
theorem i_vc_emit {k : Nat} {u : SX} {v : SY} (I : i_Rel k u v) (hk : k + 4 ≤ 2048) (v1 : Int32) (v2 : Int32) : wpX_emit (fun r u' => wpY_emit (fun r' v' => r' = r ∧ i_Rel (k + 4) u' v') v v1 v2) u v1 v2 := by
  obtain ⟨n, d, p, c, st, reg, cel, fo, ft, ff, fd, op, arg, stk, rfl, rfl, hn, hd, hp, hS, hP⟩ := I
  have hR : fs_R (nI n, nI d, nI p, c, st, reg, cel, fo, ft, ff, fd) (nI n, nI d, nI p, c, st, op, arg, stk, cel) := ⟨n, d, p, c, st, reg, cel, fo, ft, ff, fd, op, arg, stk, rfl, rfl, hn, hd, hp, hS, hP⟩
  by_cases h32 : n < 32
  · have hx : nI n < (32 : Int32) := nI_lt (b := 32) h32 (by decide)
    have hy : ¬ nI n = (32 : Int32) := fun z => absurd ((nI_eq (b := 32) (by omega) (by decide)).mp z) (by omega)
    have hi : vp_in (nI n) 32 := vp_in_nI h32 (by decide)
    have hc : (nI n).toNatClampNeg = n := nI_clamp (by omega)
    unfold wpX_emit
    refine br_t hx ?_
    rcases fs_is v1 v2 with ⟨j, rfl, hok, hI⟩ | hI
    · refine hI.1 _ ?_
      refine br_f (by decide) ?_
      refine fs_tr _ (nI n) (nI d) (nI p) c st reg cel fo ft ff fd n h32 j (fs_ok14 hok) v2 ?_
      intro fo' ft' ff' fd' hN hF
      refine nm_r (nI_1 n) ?_
      unfold wpY_emit
      refine br_f hy ?_
      refine hI.2 _ _ _ _ _ _ _ _ _ _ ?_
      refine br_f (by decide) ?_
      refine ⟨hi, nm_r (e' := upd op n (nI j)) (by rw [hc]) ?_⟩
      refine ⟨hi, nm_r (e' := upd arg n v2) (by rw [hc]) ?_⟩
      refine nm_r (nI_1 n) ?_
      exact ⟨rfl, n + 1, d, p, c, st, reg, cel, fo', ft', ff', fd', _, _, stk, rfl, rfl, h32, hd, hp, hS, fs_put hP hok hN hF (fun q h1 h2 => by omega)⟩
    · refine hI.1 _ ?_
      refine br_t rfl ?_
      unfold wpY_emit
      refine br_f hy ?_
      refine hI.2 _ _ _ _ _ _ _ _ _ _ ?_
      exact br_t rfl ⟨rfl, hR⟩
  · obtain rfl : n = 32 := by omega
    exact br_f (by decide) (br_t rfl ⟨rfl, hR⟩)
theorem i_vc_patch {k : Nat} {u : SX} {v : SY} (I : i_Rel k u v) (hk : k + 4 ≤ 2048) (v1 : Int32) (v2 : Int32) (v3 : Int32) : wpX_patch (fun r u' => wpY_patch (fun r' v' => r' = r ∧ i_Rel (k + 4) u' v') v v1 v2 v3) u v1 v2 v3 := by
  obtain ⟨n, d, p, c, st, reg, cel, fo, ft, ff, fd, op, arg, stk, rfl, rfl, hn, hd, hp, hS, hP⟩ := I
  have hR : fs_R (nI n, nI d, nI p, c, st, reg, cel, fo, ft, ff, fd) (nI n, nI d, nI p, c, st, op, arg, stk, cel) := ⟨n, d, p, c, st, reg, cel, fo, ft, ff, fd, op, arg, stk, rfl, rfl, hn, hd, hp, hS, hP⟩
  unfold wpX_patch wpY_patch
  by_cases h0 : v1 < 0
  · exact br_t h0 (br_t h0 ⟨rfl, hR⟩)
  obtain ⟨i, hi, rfl⟩ := nI_of h0
  by_cases hin : n ≤ i
  · have hx : nI n ≤ nI i := nI_le hin hi
    exact br_f h0 (br_t hx (br_f h0 (br_t hx ⟨rfl, hR⟩)))
  · have hx : ¬ nI n ≤ nI i := nI_ge (by omega) (by omega)
    have hv : vp_in (nI i) 32 := vp_in_nI (by omega) (by decide)
    have hc : (nI i).toNatClampNeg = i := nI_clamp hi
    refine br_f h0 (br_f hx ?_)
    rcases fs_is v2 v3 with ⟨j, rfl, hok, hI⟩ | hI
    · refine hI.1 _ ?_
      refine br_f (by decide) ?_
      refine fs_tr _ (nI n) (nI d) (nI p) c st reg cel fo ft ff fd i (by omega) j (fs_ok14 hok) v3 ?_
      intro fo' ft' ff' fd' hN hF
      refine br_f h0 (br_f hx ?_)
      refine hI.2 _ _ _ _ _ _ _ _ _ _ ?_
      refine br_f (by decide) ?_
      refine ⟨hv, nm_r (e' := upd op i (nI j)) (by rw [hc]) ?_⟩
      refine ⟨hv, nm_r (e' := upd arg i v3) (by rw [hc]) ?_⟩
      exact ⟨rfl, n, d, p, c, st, reg, cel, fo', ft', ff', fd', _, _, stk, rfl, rfl, hn, hd, hp, hS, fs_put hP hok hN hF (fun q h1 h2 => h1)⟩
    · refine hI.1 _ ?_
      refine br_t rfl ?_
      refine br_f h0 (br_f hx ?_)
      refine hI.2 _ _ _ _ _ _ _ _ _ _ ?_
      exact br_t rfl ⟨rfl, hR⟩
theorem i_vc_poke {k : Nat} {u : SX} {v : SY} (I : i_Rel k u v) (hk : k + 4 ≤ 2048) (v1 : Int32) (v2 : Int32) : wpX_poke (fun r u' => wpY_poke (fun r' v' => r' = r ∧ i_Rel (k + 4) u' v') v v1 v2) u v1 v2 := by
  obtain ⟨n, d, p, c, st, reg, cel, fo, ft, ff, fd, op, arg, stk, rfl, rfl, hn, hd, hp, hS, hP⟩ := I
  have hR : fs_R (nI n, nI d, nI p, c, st, reg, cel, fo, ft, ff, fd) (nI n, nI d, nI p, c, st, op, arg, stk, cel) := ⟨n, d, p, c, st, reg, cel, fo, ft, ff, fd, op, arg, stk, rfl, rfl, hn, hd, hp, hS, hP⟩
  unfold wpX_poke wpY_poke wpX_isCell
  rcases pk_ix v1 (n := 8) (by decide) with ha | ha | ⟨m, hm, rfl⟩
  · exact br_t ha (br_t rfl (br_t ha ⟨rfl, hR⟩))
  · have h0 : ¬ v1 < (0 : Int32) := fs_nl (c := 0) (by decide) (by decide) ha
    have h7 : ¬ v1 ≤ (7 : Int32) := fun z => absurd (fs_lo (b := 7) (by decide) ha) (Int32.not_lt.mpr z)
    exact br_f h0 (br_t ha (br_t rfl (br_f h0 (br_f h7 ⟨rfl, hR⟩))))
  · have h0 : ¬ nI m < (0 : Int32) := nI_pos (by omega)
    have h8 : ¬ (8 : Int32) ≤ nI m := nI_ge (b := 8) hm (by decide)
    have h7 : nI m ≤ (7 : Int32) := nI_le (b := 7) (by omega) (by decide)
    have hv : vp_in (nI m) 8 := vp_in_nI hm (by decide)
    refine br_f h0 (br_f h8 (br_f (by decide) ⟨hv, nm_e (br_f h0 (br_t h7 ⟨hv, nm_e ?_⟩))⟩))
    exact ⟨rfl, n, d, p, c, st, reg, _, fo, ft, ff, fd, op, arg, stk, rfl, rfl, hn, hd, hp, hS, hP⟩
theorem i_vc_start {k : Nat} {u : SX} {v : SY} (I : i_Rel k u v) (hk : k + 4 ≤ 2048) : wpX_start (fun u' => wpY_start (fun v' => i_Rel (k + 4) u' v') v) u := by
  obtain ⟨n, d, p, c, st, reg, cel, fo, ft, ff, fd, op, arg, stk, rfl, rfl, hn, hd, hp, hS, hP⟩ := I
  exact ⟨n, 0, 0, 0, 0, reg, cel, fo, ft, ff, fd, op, arg, stk, rfl, rfl, hn, by decide, by decide, fun _ h => absurd h (Nat.not_lt_zero _), hP⟩
theorem i_vc_depth {k : Nat} {u : SX} {v : SY} (I : i_Rel k u v) (hk : k + 4 ≤ 2048) : wpX_depth (fun r => wpY_depth (fun r' => r' = r ∧ i_Rel (k + 4) u v) v) u := by
  obtain ⟨n, d, p, c, st, reg, cel, fo, ft, ff, fd, op, arg, stk, rfl, rfl, hn, hd, hp, hS, hP⟩ := I
  exact ⟨rfl, n, d, p, c, st, reg, cel, fo, ft, ff, fd, op, arg, stk, rfl, rfl, hn, hd, hp, hS, hP⟩
theorem i_vc_place {k : Nat} {u : SX} {v : SY} (I : i_Rel k u v) (hk : k + 4 ≤ 2048) : wpX_place (fun r => wpY_place (fun r' => r' = r ∧ i_Rel (k + 4) u v) v) u := by
  obtain ⟨n, d, p, c, st, reg, cel, fo, ft, ff, fd, op, arg, stk, rfl, rfl, hn, hd, hp, hS, hP⟩ := I
  exact ⟨rfl, n, d, p, c, st, reg, cel, fo, ft, ff, fd, op, arg, stk, rfl, rfl, hn, hd, hp, hS, hP⟩
theorem i_vc_executed {k : Nat} {u : SX} {v : SY} (I : i_Rel k u v) (hk : k + 4 ≤ 2048) : wpX_executed (fun r => wpY_executed (fun r' => r' = r ∧ i_Rel (k + 4) u v) v) u := by
  obtain ⟨n, d, p, c, st, reg, cel, fo, ft, ff, fd, op, arg, stk, rfl, rfl, hn, hd, hp, hS, hP⟩ := I
  exact ⟨rfl, n, d, p, c, st, reg, cel, fo, ft, ff, fd, op, arg, stk, rfl, rfl, hn, hd, hp, hS, hP⟩
theorem fs_top {d i : Nat} (h : i < d) : nI d - 1 - nI i = nI (d - 1 - i) := by
  rw [show (1 : Int32) = nI 1 from rfl, pk_sub (by omega), pk_sub (by omega)]
theorem i_vc_st {k : Nat} {u : SX} {v : SY} (I : i_Rel k u v) (hk : k + 4 ≤ 2048) (v1 : Int32) : wpX_st (fun r => wpY_st (fun r' => r' = r ∧ i_Rel (k + 4) u v) v v1) u v1 := by
  obtain ⟨n, d, p, c, st, reg, cel, fo, ft, ff, fd, op, arg, stk, rfl, rfl, hn, hd, hp, hS, hP⟩ := I
  have hR : fs_R (nI n, nI d, nI p, c, st, reg, cel, fo, ft, ff, fd) (nI n, nI d, nI p, c, st, op, arg, stk, cel) := ⟨n, d, p, c, st, reg, cel, fo, ft, ff, fd, op, arg, stk, rfl, rfl, hn, hd, hp, hS, hP⟩
  unfold wpX_st wpY_st
  rcases pk_ix v1 (n := d) (by omega) with ha | ha | ⟨m, hm, rfl⟩
  · exact br_t ha (br_t ha ⟨rfl, hR⟩)
  · have h0 : ¬ v1 < (0 : Int32) := fs_nl (c := 0) (by omega) (by omega) ha
    have h1 : ¬ v1 < nI d := Int32.not_lt.mpr ha
    exact br_f h0 (br_f h1 (br_f h0 (br_t ha ⟨rfl, hR⟩)))
  · have h0 : ¬ nI m < (0 : Int32) := nI_pos (by omega)
    have h1 : nI m < nI d := nI_lt hm (by omega)
    have h2 : ¬ nI d ≤ nI m := nI_ge hm (by omega)
    have hv : vp_in (nI m) 8 := vp_in_nI (by omega) (by decide)
    refine br_f h0 (br_t h1 ?_)
    rw [fs_top hm]
    refine ⟨vp_in_nI (by omega) (by decide), br_f h0 (br_f h2 ⟨hv, ?_, hR⟩)⟩
    rw [nI_clamp (by omega), nI_clamp (by omega)]
    exact (hS m hm).symm
theorem i_vc_memory {k : Nat} {u : SX} {v : SY} (I : i_Rel k u v) (hk : k + 4 ≤ 2048) (v1 : Int32) : wpX_memory (fun r => wpY_memory (fun r' => r' = r ∧ i_Rel (k + 4) u v) v v1) u v1 := by
  obtain ⟨n, d, p, c, st, reg, cel, fo, ft, ff, fd, op, arg, stk, rfl, rfl, hn, hd, hp, hS, hP⟩ := I
  have hR : fs_R (nI n, nI d, nI p, c, st, reg, cel, fo, ft, ff, fd) (nI n, nI d, nI p, c, st, op, arg, stk, cel) := ⟨n, d, p, c, st, reg, cel, fo, ft, ff, fd, op, arg, stk, rfl, rfl, hn, hd, hp, hS, hP⟩
  unfold wpX_memory wpY_memory wpX_isCell
  rcases pk_ix v1 (n := 8) (by decide) with ha | ha | ⟨m, hm, rfl⟩
  · exact br_t ha (br_t rfl (br_t ha ⟨rfl, hR⟩))
  · have h0 : ¬ v1 < (0 : Int32) := fs_nl (c := 0) (by decide) (by decide) ha
    have h7 : (7 : Int32) < v1 := fs_lo (b := 7) (by decide) ha
    exact br_f h0 (br_t ha (br_t rfl (br_f h0 (br_t h7 ⟨rfl, hR⟩))))
  · have h0 : ¬ nI m < (0 : Int32) := nI_pos (by omega)
    have h8 : ¬ (8 : Int32) ≤ nI m := nI_ge (b := 8) hm (by decide)
    have h7 : ¬ (7 : Int32) < nI m := nI_nlt (a := 7) (by omega) (by decide)
    have hv : vp_in (nI m) 8 := vp_in_nI hm (by decide)
    exact br_f h0 (br_f h8 (br_f (by decide) ⟨hv, br_f h0 (br_f h7 ⟨hv, rfl, hR⟩)⟩))
end
section
/-! the reference's stack: push and pop -/
def fs_psh (stk : Nat → Int32) (v : Int32) : Nat → Int32 := fun k => if k = 0 then v else if k ≤ 7 then stk (k - 1) else stk k
def fs_pp (stk : Nat → Int32) : Nat → Int32 := fun k => if k < 7 then stk (k + 1) else stk k
theorem fs_pul (post : SY → Prop) (v n d p c st : Int32) (op arg stk mem : Nat → Int32) (hp : post (n, d + 1, p, c, st, op, arg, fs_psh stk v, mem)) :
    ∀ (j : Nat) (s : Nat → Int32), j ≤ 7 → (∀ k, s k = if j < k ∧ k ≤ 7 then stk (k - 1) else stk k) → wY_push_3 post v n d p c st (j + 1) (nI j) op arg s mem := by
  intro j
  induction j with
  | zero =>
    intro s hj hs
    have e : upd s 0 v = fs_psh stk v := by
      funext k
      unfold upd fs_psh
      by_cases h0 : k = 0
      · rw [if_pos h0, if_pos h0]
      · rw [if_neg h0, if_neg h0, hs k]
        by_cases h7 : k ≤ 7
        · rw [if_pos ⟨by omega, h7⟩, if_pos h7]
        · rw [if_neg (fun z => h7 z.2), if_neg h7]
    refine br_t (by decide) ?_
    refine nm_r e ?_
    exact nm_e hp
  | succ j ih =>
    intro s hj hs
    have h0 : ¬ nI (j + 1) ≤ (0 : Int32) := nI_nle (by omega) (by omega)
    have e1 : nI (j + 1) - 1 = nI j := nI_pred j
    refine br_f h0 ?_
    rw [e1]
    refine ⟨vp_in_nI (by omega) (by decide), vp_in_nI (by omega) (by decide), ?_⟩
    refine nm_e (nm_r (pk_m1 j) ?_)
    refine ih _ (by omega) ?_
    intro k
    rw [nI_clamp (by omega), nI_clamp (by omega)]
    unfold upd
    by_cases hk : k = j + 1
    · subst hk
      rw [if_pos rfl, if_pos ⟨by omega, by omega⟩, hs j, if_neg (fun z => by omega)]
      rfl
    · rw [if_neg hk, hs k]
      by_cases h1 : j + 1 < k ∧ k ≤ 7
      · rw [if_pos h1, if_pos ⟨by omega, h1.2⟩]
      · rw [if_neg h1, if_neg (fun z => h1 ⟨by omega, z.2⟩)]
theorem fs_push (post : SY → Prop) (v n d p c st : Int32) (op arg stk mem : Nat → Int32) (hp : post (n, d + 1, p, c, st, op, arg, fs_psh stk v, mem)) :
    wpY_push post (n, d, p, c, st, op, arg, stk, mem) v :=
  ⟨8, fs_pul post v n d p c st op arg stk mem hp 7 stk (by decide) (fun k => by rw [if_neg (fun z => by omega)])⟩
theorem fs_pol (post : Int32 → SY → Prop) (x n d p c st : Int32) (op arg stk mem : Nat → Int32) (hp : post x (n, d - 1, p, c, st, op, arg, fs_pp stk, mem)) :
    ∀ (m i : Nat) (s : Nat → Int32), i + m = 7 → (∀ k, s k = if k < i then stk (k + 1) else stk k) → wY_pop_9 post x n d p c st (m + 1) (nI i) op arg s mem := by
  intro m
  induction m with
  | zero =>
    intro i s hi hs
    obtain rfl : i = 7 := by omega
    have e : s = fs_pp stk := funext hs
    refine br_t (by decide) (nm_e ?_)
    rw [e]
    exact hp
  | succ m ih =>
    intro i s hi hs
    have h7 : ¬ (7 : Int32) ≤ nI i := nI_ge (b := 7) (by omega) (by decide)
    refine br_f h7 ?_
    rw [nI_1 i]
    refine ⟨vp_in_nI (by omega) (by decide), vp_in_nI (by omega) (by decide), ?_⟩
    refine nm_e (nm_e ?_)
    refine ih (i + 1) _ (by omega) ?_
    intro k
    rw [nI_clamp (by omega), nI_clamp (by omega)]
    unfold upd
    by_cases hk : k = i
    · subst hk
      rw [if_pos rfl, if_pos (by omega), hs (k + 1), if_neg (by omega)]
    · rw [if_neg hk, hs k]
      by_cases h1 : k < i
      · rw [if_pos h1, if_pos (by omega)]
      · rw [if_neg h1, if_neg (by omega)]
theorem fs_pop (post : Int32 → SY → Prop) (n d p c st : Int32) (op arg stk mem : Nat → Int32) (hp : post (stk 0) (n, d - 1, p, c, st, op, arg, fs_pp stk, mem)) :
    wpY_pop post (n, d, p, c, st, op, arg, stk, mem) :=
  nm_e ⟨8, fs_pol post (stk 0) n d p c st op arg stk mem hp 7 0 stk rfl (fun k => by rw [if_neg (Nat.not_lt_zero _)])⟩
theorem fs_srpush {d : Nat} {reg stk : Nat → Int32} (h : fs_SR d reg stk) (hd : d < 8) (v : Int32) : fs_SR (d + 1) (upd reg d v) (fs_psh stk v) := by
  intro k hk
  unfold upd fs_psh
  by_cases h0 : k = 0
  · rw [if_pos (by omega), if_pos h0]
  · rw [if_neg (by omega), if_neg h0, if_pos (by omega), ← h (k - 1) (by omega)]
    exact congrArg reg (by omega)
theorem fs_srpop {d : Nat} {reg stk : Nat → Int32} (h : fs_SR d reg stk) (hd : d ≤ 8) : fs_SR (d - 1) reg (fs_pp stk) := by
  intro k hk
  unfold fs_pp
  rw [if_pos (by omega), ← h (k + 1) (by omega)]
  exact congrArg reg (by omega)
theorem fs_srupd {d t : Nat} {reg stk : Nat → Int32} (h : fs_SR d reg stk) (ht : t < d) (v : Int32) : fs_SR d (upd reg (d - 1 - t) v) (upd stk t v) := by
  intro k hk
  unfold upd
  by_cases h0 : k = t
  · rw [if_pos (by omega), if_pos h0]
  · rw [if_neg (by omega), if_neg h0]
    exact h k hk
end
section
/-! the class: one flat instruction -/
theorem fs_cp1 (Q : SX → Prop) (n d p c st : Int32) (reg cel fo ft ff fd : Nat → Int32) {t : Nat} (ht : t < 8) (f : Int32) (h : Q (n, d, p, c, st, upd reg t f, cel, fo, ft, ff, fd)) : wpX_compute Q (n, d, p, c, st, reg, cel, fo, ft, ff, fd) 1 (nI t) f := by
  have vt : vp_in (nI t) 8 := vp_in_nI ht (by decide)
  have ct : (nI t).toNatClampNeg = t := nI_clamp (by omega)
  unfold wpX_compute
  repeat (first | refine br_t (by decide) ?_ | refine br_f (by decide) ?_)
  exact ⟨vt, nm_r (by rw [ct]) h⟩
theorem fs_cp2 (Q : SX → Prop) (n d p c st : Int32) (reg cel fo ft ff fd : Nat → Int32) {t f : Nat} (ht : t < 8) (hf : f < 8) (h : Q (n, d, p, c, st, upd reg t (reg f), cel, fo, ft, ff, fd)) : wpX_compute Q (n, d, p, c, st, reg, cel, fo, ft, ff, fd) 2 (nI t) (nI f) := by
  have vt : vp_in (nI t) 8 := vp_in_nI ht (by decide)
  have ct : (nI t).toNatClampNeg = t := nI_clamp (by omega)
  have vf : vp_in (nI f) 8 := vp_in_nI hf (by decide)
  have cf : (nI f).toNatClampNeg = f := nI_clamp (by omega)
  unfold wpX_compute
  repeat (first | refine br_t (by decide) ?_ | refine br_f (by decide) ?_)
  exact ⟨vf, vt, nm_r (by rw [ct, cf]) h⟩
theorem fs_cp3 (Q : SX → Prop) (n d p c st : Int32) (reg cel fo ft ff fd : Nat → Int32) {t f : Nat} (ht : t < 8) (hf : f < 8) (h : Q (n, d, p, c, st, upd reg t (cel f), cel, fo, ft, ff, fd)) : wpX_compute Q (n, d, p, c, st, reg, cel, fo, ft, ff, fd) 3 (nI t) (nI f) := by
  have vt : vp_in (nI t) 8 := vp_in_nI ht (by decide)
  have ct : (nI t).toNatClampNeg = t := nI_clamp (by omega)
  have vf : vp_in (nI f) 8 := vp_in_nI hf (by decide)
  have cf : (nI f).toNatClampNeg = f := nI_clamp (by omega)
  unfold wpX_compute
  repeat (first | refine br_t (by decide) ?_ | refine br_f (by decide) ?_)
  exact ⟨vf, vt, nm_r (by rw [ct, cf]) h⟩
theorem fs_cp4 (Q : SX → Prop) (n d p c st : Int32) (reg cel fo ft ff fd : Nat → Int32) {t f : Nat} (ht : t < 8) (hf : f < 8) (h : Q (n, d, p, c, st, reg, upd cel t (reg f), fo, ft, ff, fd)) : wpX_compute Q (n, d, p, c, st, reg, cel, fo, ft, ff, fd) 4 (nI t) (nI f) := by
  have vt : vp_in (nI t) 8 := vp_in_nI ht (by decide)
  have ct : (nI t).toNatClampNeg = t := nI_clamp (by omega)
  have vf : vp_in (nI f) 8 := vp_in_nI hf (by decide)
  have cf : (nI f).toNatClampNeg = f := nI_clamp (by omega)
  unfold wpX_compute
  repeat (first | refine br_t (by decide) ?_ | refine br_f (by decide) ?_)
  exact ⟨vf, vt, nm_r (by rw [ct, cf]) h⟩
theorem fs_cp5 (Q : SX → Prop) (n d p c st : Int32) (reg cel fo ft ff fd : Nat → Int32) {t f : Nat} (ht : t < 8) (hf : f < 8) (h : Q (n, d, p, c, st, upd (upd reg t (reg f)) f (reg t), cel, fo, ft, ff, fd)) : wpX_compute Q (n, d, p, c, st, reg, cel, fo, ft, ff, fd) 5 (nI t) (nI f) := by
  have vt : vp_in (nI t) 8 := vp_in_nI ht (by decide)
  have ct : (nI t).toNatClampNeg = t := nI_clamp (by omega)
  have vf : vp_in (nI f) 8 := vp_in_nI hf (by decide)
  have cf : (nI f).toNatClampNeg = f := nI_clamp (by omega)
  unfold wpX_compute
  repeat (first | refine br_t (by decide) ?_ | refine br_f (by decide) ?_)
  unfold wpX_swap
  refine ⟨vt, nm_r (e' := reg t) (by rw [ct]) ⟨vf, vt, nm_r (e' := upd reg t (reg f)) (by rw [ct, cf]) ⟨vf, nm_r (e' := upd (upd reg t (reg f)) f (reg t)) (by rw [cf]) ?_⟩⟩⟩
  exact h
theorem fs_cp6 (Q : SX → Prop) (n d p c st : Int32) (reg cel fo ft ff fd : Nat → Int32) {t f : Nat} (ht : t < 8) (hf : f < 8) (h : Q (n, d, p, c, st, upd reg t (reg t + reg f), cel, fo, ft, ff, fd)) : wpX_compute Q (n, d, p, c, st, reg, cel, fo, ft, ff, fd) 6 (nI t) (nI f) := by
  have vt : vp_in (nI t) 8 := vp_in_nI ht (by decide)
  have ct : (nI t).toNatClampNeg = t := nI_clamp (by omega)
  have vf : vp_in (nI f) 8 := vp_in_nI hf (by decide)
  have cf : (nI f).toNatClampNeg = f := nI_clamp (by omega)
  unfold wpX_compute
  repeat (first | refine br_t (by decide) ?_ | refine br_f (by decide) ?_)
  exact ⟨vt, vf, vt, nm_r (by rw [ct, cf]) h⟩
theorem fs_cp7 (Q : SX → Prop) (n d p c st : Int32) (reg cel fo ft ff fd : Nat → Int32) {t f : Nat} (ht : t < 8) (hf : f < 8) (h : Q (n, d, p, c, st, upd reg t (reg t - reg f), cel, fo, ft, ff, fd)) : wpX_compute Q (n, d, p, c, st, reg, cel, fo, ft, ff, fd) 7 (nI t) (nI f) := by
  have vt : vp_in (nI t) 8 := vp_in_nI ht (by decide)
  have ct : (nI t).toNatClampNeg = t := nI_clamp (by omega)
  have vf : vp_in (nI f) 8 := vp_in_nI hf (by decide)
  have cf : (nI f).toNatClampNeg = f := nI_clamp (by omega)
  unfold wpX_compute
  repeat (first | refine br_t (by decide) ?_ | refine br_f (by decide) ?_)
  exact ⟨vt, vf, vt, nm_r (by rw [ct, cf]) h⟩
theorem fs_cp8 (Q : SX → Prop) (n d p c st : Int32) (reg cel fo ft ff fd : Nat → Int32) {t f : Nat} (ht : t < 8) (hf : f < 8) (h : Q (n, d, p, c, st, upd reg t (reg t * reg f), cel, fo, ft, ff, fd)) : wpX_compute Q (n, d, p, c, st, reg, cel, fo, ft, ff, fd) 8 (nI t) (nI f) := by
  have vt : vp_in (nI t) 8 := vp_in_nI ht (by decide)
  have ct : (nI t).toNatClampNeg = t := nI_clamp (by omega)
  have vf : vp_in (nI f) 8 := vp_in_nI hf (by decide)
  have cf : (nI f).toNatClampNeg = f := nI_clamp (by omega)
  unfold wpX_compute
  repeat (first | refine br_t (by decide) ?_ | refine br_f (by decide) ?_)
  exact ⟨vt, vf, vt, nm_r (by rw [ct, cf]) h⟩
theorem fs_sz (Q : SX → Prop) (n d p c st : Int32) (reg cel fo ft ff fd : Nat → Int32) (t : Int32) {f : Nat} (hf : f < 8) (h1 : reg f = 0 → Q (n, d, t, c, st, reg, cel, fo, ft, ff, fd)) (h2 : ¬ reg f = 0 → Q (n, d, p + 1, c, st, reg, cel, fo, ft, ff, fd)) : wpX_steer Q (n, d, p, c, st, reg, cel, fo, ft, ff, fd) 9 t (nI f) := by
  have vf : vp_in (nI f) 8 := vp_in_nI hf (by decide)
  have cf : (nI f).toNatClampNeg = f := nI_clamp (by omega)
  unfold wpX_steer
  repeat (first | refine br_t (by decide) ?_ | refine br_f (by decide) ?_)
  refine ⟨vf, ?_⟩
  rw [cf]
  exact br_c h1 (fun z => nm_e (h2 z))
theorem fs_sn (Q : SX → Prop) (n d p c st : Int32) (reg cel fo ft ff fd : Nat → Int32) (t : Int32) {f : Nat} (hf : f < 8) (h1 : 0 ≤ reg f → Q (n, d, p + 1, c, st, reg, cel, fo, ft, ff, fd)) (h2 : ¬ 0 ≤ reg f → Q (n, d, t, c, st, reg, cel, fo, ft, ff, fd)) : wpX_steer Q (n, d, p, c, st, reg, cel, fo, ft, ff, fd) 10 t (nI f) := by
  have vf : vp_in (nI f) 8 := vp_in_nI hf (by decide)
  have cf : (nI f).toNatClampNeg = f := nI_clamp (by omega)
  unfold wpX_steer
  repeat (first | refine br_t (by decide) ?_ | refine br_f (by decide) ?_)
  refine ⟨vf, ?_⟩
  rw [cf]
  exact br_c (fun z => nm_e (h1 z)) h2
theorem fs_sg (Q : SX → Prop) (n d p c st : Int32) (reg cel fo ft ff fd : Nat → Int32) (t f : Int32) (h : Q (n, d, t, c, st, reg, cel, fo, ft, ff, fd)) : wpX_steer Q (n, d, p, c, st, reg, cel, fo, ft, ff, fd) 11 t f := by
  unfold wpX_steer
  repeat (first | refine br_t (by decide) ?_ | refine br_f (by decide) ?_)
  exact h
theorem fs_sh (Q : SX → Prop) (n d p c st : Int32) (reg cel fo ft ff fd : Nat → Int32) (t f : Int32) (h : Q (n, d, p, c, 1, reg, cel, fo, ft, ff, fd)) : wpX_steer Q (n, d, p, c, st, reg, cel, fo, ft, ff, fd) 12 t f := by
  unfold wpX_steer
  repeat (first | refine br_t (by decide) ?_ | refine br_f (by decide) ?_)
  exact h
theorem fs_xF (post : SX → Prop) {n d p : Nat} (hn : n ≤ 32) (hd : d ≤ 8) (hp : p < n) (c st : Int32) (reg cel fo ft ff fd : Nat → Int32) (h0 : fo (p * 9 + d) = 0) (h : post (nI n, nI d, nI p, c, 2, reg, cel, fo, ft, ff, fd)) : wpX_tryInstruction post (nI n, nI d, nI p, c, st, reg, cel, fo, ft, ff, fd) := by
  have hx : nI p < nI n := nI_lt hp (by omega)
  have hs : nI p * 9 + nI d = nI (p * 9 + d) := by
    rw [show (9 : Int32) = nI 9 from rfl, pk_mul, nI_add]
  have hv : vp_in (nI (p * 9 + d)) 288 := vp_in_nI (by omega) (by decide)
  have hc : (nI (p * 9 + d)).toNatClampNeg = p * 9 + d := nI_clamp (by omega)
  unfold wpX_tryInstruction
  refine br_t hx (nm_r hs ⟨hv, ?_⟩)
  refine nm_r (e' := 0) (by rw [hc]; exact h0) ?_
  exact br_t rfl h
theorem fs_xC (post : SX → Prop) {n d p : Nat} (hn : n ≤ 32) (hd : d ≤ 8) (hp : p < n) (c st : Int32) (reg cel fo ft ff fd : Nat → Int32) {o t f : Int32} {d' : Nat} {reg' cel' : Nat → Int32} (hz : ¬ o = 0) (h9 : o < 9) (h0 : fo (p * 9 + d) = o) (h1 : ft (p * 9 + d) = t) (h2 : ff (p * 9 + d) = f) (h3 : fd (p * 9 + d) = nI d')
    (hC : ∀ Q : SX → Prop, Q (nI n, nI d, nI p, c, st, reg', cel', fo, ft, ff, fd) → wpX_compute Q (nI n, nI d, nI p, c, st, reg, cel, fo, ft, ff, fd) o t f) (h : post (nI n, nI d', nI (p + 1), c + 1, st, reg', cel', fo, ft, ff, fd)) : wpX_tryInstruction post (nI n, nI d, nI p, c, st, reg, cel, fo, ft, ff, fd) := by
  have hx : nI p < nI n := nI_lt hp (by omega)
  have hs : nI p * 9 + nI d = nI (p * 9 + d) := by
    rw [show (9 : Int32) = nI 9 from rfl, pk_mul, nI_add]
  have hv : vp_in (nI (p * 9 + d)) 288 := vp_in_nI (by omega) (by decide)
  have hc : (nI (p * 9 + d)).toNatClampNeg = p * 9 + d := nI_clamp (by omega)
  unfold wpX_tryInstruction
  refine br_t hx (nm_r hs ⟨hv, ?_⟩)
  refine nm_r (e' := o) (by rw [hc]; exact h0) ?_
  refine br_f hz (br_t h9 ⟨hv, hv, ?_⟩)
  have e1 : ft (nI (p * 9 + d)).toNatClampNeg = t := by rw [hc]; exact h1
  have e2 : ff (nI (p * 9 + d)).toNatClampNeg = f := by rw [hc]; exact h2
  rw [e1, e2]
  refine hC _ ?_
  refine nm_r (nI_1 p) ?_
  refine ⟨hv, nm_r (e' := nI d') (by rw [hc]; exact h3) (nm_e h)⟩
theorem fs_xS (post : SX → Prop) {n d p : Nat} (hn : n ≤ 32) (hd : d ≤ 8) (hp : p < n) (c st : Int32) (reg cel fo ft ff fd : Nat → Int32) {o t f : Int32} {d' : Nat} {p' st' : Int32} (hz : ¬ o = 0) (h9 : ¬ o < 9) (h0 : fo (p * 9 + d) = o) (h1 : ft (p * 9 + d) = t) (h2 : ff (p * 9 + d) = f) (h3 : fd (p * 9 + d) = nI d')
    (hC : ∀ Q : SX → Prop, Q (nI n, nI d, p', c, st', reg, cel, fo, ft, ff, fd) → wpX_steer Q (nI n, nI d, nI p, c, st, reg, cel, fo, ft, ff, fd) o t f) (h : post (nI n, nI d', p', c + 1, st', reg, cel, fo, ft, ff, fd)) : wpX_tryInstruction post (nI n, nI d, nI p, c, st, reg, cel, fo, ft, ff, fd) := by
  have hx : nI p < nI n := nI_lt hp (by omega)
  have hs : nI p * 9 + nI d = nI (p * 9 + d) := by
    rw [show (9 : Int32) = nI 9 from rfl, pk_mul, nI_add]
  have hv : vp_in (nI (p * 9 + d)) 288 := vp_in_nI (by omega) (by decide)
  have hc : (nI (p * 9 + d)).toNatClampNeg = p * 9 + d := nI_clamp (by omega)
  unfold wpX_tryInstruction
  refine br_t hx (nm_r hs ⟨hv, ?_⟩)
  refine nm_r (e' := o) (by rw [hc]; exact h0) ?_
  refine br_f hz (br_f h9 ⟨hv, hv, ?_⟩)
  have e1 : ft (nI (p * 9 + d)).toNatClampNeg = t := by rw [hc]; exact h1
  have e2 : ff (nI (p * 9 + d)).toNatClampNeg = f := by rw [hc]; exact h2
  rw [e1, e2]
  refine hC _ ?_
  refine ⟨hv, nm_r (e' := nI d') (by rw [hc]; exact h3) (nm_e h)⟩
/-! the reference: one try -/
theorem fs_ynd (post : Int32 → Prop) (n d p c st : Int32) (op arg stk mem : Nat → Int32) (a : Int32) : ∀ j, j < 14 → post (fs_vn j a) → wpY_needs post (n, d, p, c, st, op, arg, stk, mem) (nI j) a := by
  apply fs_14 <;> (intro h; unfold wpY_needs; repeat (first | exact h | refine br_t (by decide) ?_ | refine br_f (by decide) ?_))
theorem fs_g3 : ∀ j, j < 14 → 2 < j → ∀ d, d < 9 → nI d + fs_gr j ≤ 8 := by decide +kernel
theorem fs_g2 : ∀ j, j < 3 → ∀ d, d < 9 → (nI d = 8 ↔ ¬ nI d + fs_gr j ≤ 8) := by decide +kernel
theorem fs_yf (post : Int32 → Prop) {d : Nat} (hd : d ≤ 8) {j : Nat} (hj : j < 14) (n p c st : Int32) (op arg stk mem : Nat → Int32) (a : Int32)
    (h1 : (nI d < fs_vn j a ∨ ¬ nI d + fs_gr j ≤ 8) → post 1) (h0 : ¬ (nI d < fs_vn j a ∨ ¬ nI d + fs_gr j ≤ 8) → post 0) : wpY_faulty post (n, nI d, p, c, st, op, arg, stk, mem) (nI j) a := by
  unfold wpY_faulty
  refine fs_ynd _ n (nI d) p c st op arg stk mem a j hj ?_
  refine br_c (fun z => h1 (Or.inl z)) (fun z => ?_)
  by_cases hj2 : 2 < j
  · refine br_t (nI_lt (a := 2) hj2 (by omega)) (h0 (fun y => y.elim z (fun y => y (fs_g3 j hj hj2 d (by omega)))))
  · refine br_f (nI_nlt (a := 2) (b := j) (by omega) (by decide)) ?_
    have e := fs_g2 j (by omega) d (by omega)
    exact br_c (fun y => h1 (Or.inr (e.mp y))) (fun y => h0 (fun x => x.elim z (fun x => y (e.mpr x))))
theorem fs_yc4 (Q : SY → Prop) (n d p c st : Int32) (op arg stk mem : Nat → Int32) {m : Nat} (hm : m < 8) (h : Q (n, d, p, c, st, op, arg, upd (upd stk 0 (stk m)) m (stk 0), mem)) : wpY_calculate Q (n, d, p, c, st, op, arg, stk, mem) (nI 4) (nI m) := by
  have hv : vp_in (nI m) 8 := vp_in_nI hm (by decide)
  have hc : (nI m).toNatClampNeg = m := nI_clamp (by omega)
  unfold wpY_calculate
  repeat (first | refine br_t (by decide) ?_ | refine br_f (by decide) ?_)
  refine nm_e ⟨hv, nm_r (e' := upd stk 0 (stk m)) (by rw [hc]) ⟨hv, nm_r (e' := upd (upd stk 0 (stk m)) m (stk 0)) (by rw [hc]) ?_⟩⟩
  repeat (first | refine br_t (by decide) ?_ | refine br_f (by decide) ?_)
  exact h
theorem fs_yc5 (Q : SY → Prop) (n d p c st : Int32) (op arg stk mem : Nat → Int32) {m : Nat} (hm : m < 8) (h : Q (n, d, p, c, st, op, arg, upd stk 0 (stk 0 + stk m), mem)) : wpY_calculate Q (n, d, p, c, st, op, arg, stk, mem) (nI 5) (nI m) := by
  have hv : vp_in (nI m) 8 := vp_in_nI hm (by decide)
  have hc : (nI m).toNatClampNeg = m := nI_clamp (by omega)
  unfold wpY_calculate
  repeat (first | refine br_t (by decide) ?_ | refine br_f (by decide) ?_)
  refine ⟨hv, nm_r (e' := upd stk 0 (stk 0 + stk m)) (by rw [hc]) ?_⟩
  repeat (first | refine br_t (by decide) ?_ | refine br_f (by decide) ?_)
  exact h
theorem fs_yc6 (Q : SY → Prop) (n d p c st : Int32) (op arg stk mem : Nat → Int32) {m : Nat} (hm : m < 8) (h : Q (n, d, p, c, st, op, arg, upd stk 0 (stk 0 - stk m), mem)) : wpY_calculate Q (n, d, p, c, st, op, arg, stk, mem) (nI 6) (nI m) := by
  have hv : vp_in (nI m) 8 := vp_in_nI hm (by decide)
  have hc : (nI m).toNatClampNeg = m := nI_clamp (by omega)
  unfold wpY_calculate
  repeat (first | refine br_t (by decide) ?_ | refine br_f (by decide) ?_)
  refine ⟨hv, nm_r (e' := upd stk 0 (stk 0 - stk m)) (by rw [hc]) ?_⟩
  repeat (first | refine br_t (by decide) ?_ | refine br_f (by decide) ?_)
  exact h
theorem fs_yc7 (Q : SY → Prop) (n d p c st : Int32) (op arg stk mem : Nat → Int32) {m : Nat} (hm : m < 8) (h : Q (n, d, p, c, st, op, arg, upd stk 0 (stk 0 * stk m), mem)) : wpY_calculate Q (n, d, p, c, st, op, arg, stk, mem) (nI 7) (nI m) := by
  have hv : vp_in (nI m) 8 := vp_in_nI hm (by decide)
  have hc : (nI m).toNatClampNeg = m := nI_clamp (by omega)
  unfold wpY_calculate
  repeat (first | refine br_t (by decide) ?_ | refine br_f (by decide) ?_)
  refine ⟨hv, nm_r (e' := upd stk 0 (stk 0 * stk m)) (by rw [hc]) ?_⟩
  repeat (first | refine br_t (by decide) ?_ | refine br_f (by decide) ?_)
  exact h
theorem fs_yc8 (Q : SY → Prop) (n d p c st : Int32) (op arg stk mem : Nat → Int32) {m : Nat} (hm : m < 8) (h : Q (n, d - 1, p, c, st, op, arg, fs_pp (upd stk m (stk m + stk 0)), mem)) : wpY_calculate Q (n, d, p, c, st, op, arg, stk, mem) (nI 8) (nI m) := by
  have hv : vp_in (nI m) 8 := vp_in_nI hm (by decide)
  have hc : (nI m).toNatClampNeg = m := nI_clamp (by omega)
  unfold wpY_calculate
  repeat (first | refine br_t (by decide) ?_ | refine br_f (by decide) ?_)
  refine ⟨hv, hv, nm_r (e' := upd stk m (stk m + stk 0)) (by rw [hc]) ?_⟩
  repeat (first | refine br_t (by decide) ?_ | refine br_f (by decide) ?_)
  unfold wY_calculate_167
  refine fs_pop _ _ _ _ _ _ _ _ _ _ ?_
  exact h
theorem fs_yc9 (Q : SY → Prop) (n d p c st : Int32) (op arg stk mem : Nat → Int32) {m : Nat} (hm : m < 8) (h : Q (n, d - 1, p, c, st, op, arg, fs_pp (upd stk m (stk m - stk 0)), mem)) : wpY_calculate Q (n, d, p, c, st, op, arg, stk, mem) (nI 9) (nI m) := by
  have hv : vp_in (nI m) 8 := vp_in_nI hm (by decide)
  have hc : (nI m).toNatClampNeg = m := nI_clamp (by omega)
  unfold wpY_calculate
  repeat (first | refine br_t (by decide) ?_ | refine br_f (by decide) ?_)
  refine ⟨hv, hv, nm_r (e' := upd stk m (stk m - stk 0)) (by rw [hc]) ?_⟩
  repeat (first | refine br_t (by decide) ?_ | refine br_f (by decide) ?_)
  unfold wY_calculate_167
  refine fs_pop _ _ _ _ _ _ _ _ _ _ ?_
  exact h
theorem fs_yaF (post : SY → Prop) {n d p : Nat} (hn : n ≤ 32) (hd : d ≤ 8) (hp : p < n) (c st : Int32) (op arg stk mem : Nat → Int32) {j : Nat} (hj : j < 14) (a : Int32) (ho : op p = nI j) (ha : arg p = a) (hF : nI d < fs_vn j a ∨ ¬ nI d + fs_gr j ≤ 8) (h : post (nI n, nI d, nI p, c, 2, op, arg, stk, mem)) : wpY_attempt post (nI n, nI d, nI p, c, st, op, arg, stk, mem) := by
  have hnp : ¬ nI n ≤ nI p := nI_ge hp (by omega)
  have hv : vp_in (nI p) 32 := vp_in_nI (by omega) (by decide)
  have hc : (nI p).toNatClampNeg = p := nI_clamp (by omega)
  unfold wpY_attempt
  refine br_f hnp ⟨hv, hv, ?_⟩
  rw [hc, ho, ha]
  refine fs_yf _ hd hj _ _ _ _ _ _ _ _ _ (fun _ => ?_) (fun z => absurd hF z)
  exact br_f (by decide) h
theorem fs_ya13 (post : SY → Prop) {n d p : Nat} (hn : n ≤ 32) (hd : d ≤ 8) (hp : p < n) (c st : Int32) (op arg stk mem : Nat → Int32) (a : Int32) (ho : op p = nI 13) (ha : arg p = a) (hF : ¬ (nI d < fs_vn 13 (a) ∨ ¬ nI d + fs_gr 13 ≤ 8)) (h : post (nI n, nI d, nI p, c + 1, 1, op, arg, stk, mem)) : wpY_attempt post (nI n, nI d, nI p, c, st, op, arg, stk, mem) := by
  have hnp : ¬ nI n ≤ nI p := nI_ge hp (by omega)
  have hv : vp_in (nI p) 32 := vp_in_nI (by omega) (by decide)
  have hc : (nI p).toNatClampNeg = p := nI_clamp (by omega)
  unfold wpY_attempt
  refine br_f hnp ⟨hv, hv, ?_⟩
  rw [hc, ho, ha]
  refine fs_yf _ hd (by decide) _ _ _ _ _ _ _ _ _ (fun z => absurd z hF) (fun _ => ?_)
  refine br_t rfl ⟨hv, nm_e ⟨hv, nm_e (nm_e ?_)⟩⟩
  repeat (first | refine br_t (by decide) ?_ | refine br_f (by decide) ?_)
  first | exact h | (refine br_t rfl ?_; exact h)
theorem fs_ya0 (post : SY → Prop) {n d p : Nat} (hn : n ≤ 32) (hd : d ≤ 8) (hp : p < n) (c st : Int32) (op arg stk mem : Nat → Int32) (a : Int32) (ho : op p = nI 0) (ha : arg p = a) (hF : ¬ (nI d < fs_vn 0 (a) ∨ ¬ nI d + fs_gr 0 ≤ 8)) (h : post (nI n, nI d + 1, nI (p + 1), c + 1, st, op, arg, fs_psh stk a, mem)) : wpY_attempt post (nI n, nI d, nI p, c, st, op, arg, stk, mem) := by
  have hnp : ¬ nI n ≤ nI p := nI_ge hp (by omega)
  have hv : vp_in (nI p) 32 := vp_in_nI (by omega) (by decide)
  have hc : (nI p).toNatClampNeg = p := nI_clamp (by omega)
  unfold wpY_attempt
  refine br_f hnp ⟨hv, hv, ?_⟩
  rw [hc, ho, ha]
  refine fs_yf _ hd (by decide) _ _ _ _ _ _ _ _ _ (fun z => absurd z hF) (fun _ => ?_)
  refine br_t rfl ⟨hv, nm_e ⟨hv, nm_e (nm_e ?_)⟩⟩
  refine br_f (by decide) (nm_r (nI_1 p) ?_)
  repeat (first | refine br_t (by decide) ?_ | refine br_f (by decide) ?_)
  refine fs_push _ _ _ _ _ _ _ _ _ _ _ ?_
  exact h
theorem fs_ya1 (post : SY → Prop) {n d p : Nat} (hn : n ≤ 32) (hd : d ≤ 8) (hp : p < n) (c st : Int32) (op arg stk mem : Nat → Int32) {m : Nat} (hm : m < 8) (ho : op p = nI 1) (ha : arg p = nI m) (hF : ¬ (nI d < fs_vn 1 (nI m) ∨ ¬ nI d + fs_gr 1 ≤ 8)) (h : post (nI n, nI d + 1, nI (p + 1), c + 1, st, op, arg, fs_psh stk (stk m), mem)) : wpY_attempt post (nI n, nI d, nI p, c, st, op, arg, stk, mem) := by
  have hnp : ¬ nI n ≤ nI p := nI_ge hp (by omega)
  have hv : vp_in (nI p) 32 := vp_in_nI (by omega) (by decide)
  have hc : (nI p).toNatClampNeg = p := nI_clamp (by omega)
  unfold wpY_attempt
  refine br_f hnp ⟨hv, hv, ?_⟩
  rw [hc, ho, ha]
  refine fs_yf _ hd (by decide) _ _ _ _ _ _ _ _ _ (fun z => absurd z hF) (fun _ => ?_)
  refine br_t rfl ⟨hv, nm_e ⟨hv, nm_e (nm_e ?_)⟩⟩
  refine br_f (by decide) (nm_r (nI_1 p) ?_)
  repeat (first | refine br_t (by decide) ?_ | refine br_f (by decide) ?_)
  have vm : vp_in (nI m) 8 := vp_in_nI hm (by decide)
  have cm : (nI m).toNatClampNeg = m := nI_clamp (by omega)
  refine ⟨vm, ?_⟩
  rw [cm]
  refine fs_push _ _ _ _ _ _ _ _ _ _ _ ?_
  exact h
theorem fs_ya2 (post : SY → Prop) {n d p : Nat} (hn : n ≤ 32) (hd : d ≤ 8) (hp : p < n) (c st : Int32) (op arg stk mem : Nat → Int32) {m : Nat} (hm : m < 8) (ho : op p = nI 2) (ha : arg p = nI m) (hF : ¬ (nI d < fs_vn 2 (nI m) ∨ ¬ nI d + fs_gr 2 ≤ 8)) (h : post (nI n, nI d + 1, nI (p + 1), c + 1, st, op, arg, fs_psh stk (mem m), mem)) : wpY_attempt post (nI n, nI d, nI p, c, st, op, arg, stk, mem) := by
  have hnp : ¬ nI n ≤ nI p := nI_ge hp (by omega)
  have hv : vp_in (nI p) 32 := vp_in_nI (by omega) (by decide)
  have hc : (nI p).toNatClampNeg = p := nI_clamp (by omega)
  unfold wpY_attempt
  refine br_f hnp ⟨hv, hv, ?_⟩
  rw [hc, ho, ha]
  refine fs_yf _ hd (by decide) _ _ _ _ _ _ _ _ _ (fun z => absurd z hF) (fun _ => ?_)
  refine br_t rfl ⟨hv, nm_e ⟨hv, nm_e (nm_e ?_)⟩⟩
  refine br_f (by decide) (nm_r (nI_1 p) ?_)
  repeat (first | refine br_t (by decide) ?_ | refine br_f (by decide) ?_)
  have vm : vp_in (nI m) 8 := vp_in_nI hm (by decide)
  have cm : (nI m).toNatClampNeg = m := nI_clamp (by omega)
  refine ⟨vm, ?_⟩
  rw [cm]
  refine fs_push _ _ _ _ _ _ _ _ _ _ _ ?_
  exact h
theorem fs_ya3 (post : SY → Prop) {n d p : Nat} (hn : n ≤ 32) (hd : d ≤ 8) (hp : p < n) (c st : Int32) (op arg stk mem : Nat → Int32) {m : Nat} (hm : m < 8) (ho : op p = nI 3) (ha : arg p = nI m) (hF : ¬ (nI d < fs_vn 3 (nI m) ∨ ¬ nI d + fs_gr 3 ≤ 8)) (h : post (nI n, nI d - 1, nI (p + 1), c + 1, st, op, arg, fs_pp stk, upd mem m (stk 0))) : wpY_attempt post (nI n, nI d, nI p, c, st, op, arg, stk, mem) := by
  have hnp : ¬ nI n ≤ nI p := nI_ge hp (by omega)
  have hv : vp_in (nI p) 32 := vp_in_nI (by omega) (by decide)
  have hc : (nI p).toNatClampNeg = p := nI_clamp (by omega)
  unfold wpY_attempt
  refine br_f hnp ⟨hv, hv, ?_⟩
  rw [hc, ho, ha]
  refine fs_yf _ hd (by decide) _ _ _ _ _ _ _ _ _ (fun z => absurd z hF) (fun _ => ?_)
  refine br_t rfl ⟨hv, nm_e ⟨hv, nm_e (nm_e ?_)⟩⟩
  refine br_f (by decide) (nm_r (nI_1 p) ?_)
  repeat (first | refine br_t (by decide) ?_ | refine br_f (by decide) ?_)
  have vm : vp_in (nI m) 8 := vp_in_nI hm (by decide)
  have cm : (nI m).toNatClampNeg = m := nI_clamp (by omega)
  refine fs_pop _ _ _ _ _ _ _ _ _ _ ?_
  exact ⟨vm, nm_r (by rw [cm]) h⟩
theorem fs_ya12 (post : SY → Prop) {n d p : Nat} (hn : n ≤ 32) (hd : d ≤ 8) (hp : p < n) (c st : Int32) (op arg stk mem : Nat → Int32) (a : Int32) (ho : op p = nI 12) (ha : arg p = a) (hF : ¬ (nI d < fs_vn 12 (a) ∨ ¬ nI d + fs_gr 12 ≤ 8)) (h : post (nI n, nI d, a, c + 1, st, op, arg, stk, mem)) : wpY_attempt post (nI n, nI d, nI p, c, st, op, arg, stk, mem) := by
  have hnp : ¬ nI n ≤ nI p := nI_ge hp (by omega)
  have hv : vp_in (nI p) 32 := vp_in_nI (by omega) (by decide)
  have hc : (nI p).toNatClampNeg = p := nI_clamp (by omega)
  unfold wpY_attempt
  refine br_f hnp ⟨hv, hv, ?_⟩
  rw [hc, ho, ha]
  refine fs_yf _ hd (by decide) _ _ _ _ _ _ _ _ _ (fun z => absurd z hF) (fun _ => ?_)
  refine br_t rfl ⟨hv, nm_e ⟨hv, nm_e (nm_e ?_)⟩⟩
  refine br_f (by decide) (nm_r (nI_1 p) ?_)
  repeat (first | refine br_t (by decide) ?_ | refine br_f (by decide) ?_)
  exact h
theorem fs_ya10 (post : SY → Prop) {n d p : Nat} (hn : n ≤ 32) (hd : d ≤ 8) (hp : p < n) (c st : Int32) (op arg stk mem : Nat → Int32) (a : Int32) (ho : op p = nI 10) (ha : arg p = a) (hF : ¬ (nI d < fs_vn 10 (a) ∨ ¬ nI d + fs_gr 10 ≤ 8)) (h1 : stk 0 = 0 → post (nI n, nI d - 1, a, c + 1, st, op, arg, fs_pp stk, mem)) (h2 : ¬ stk 0 = 0 → post (nI n, nI d - 1, nI (p + 1), c + 1, st, op, arg, fs_pp stk, mem)) : wpY_attempt post (nI n, nI d, nI p, c, st, op, arg, stk, mem) := by
  have hnp : ¬ nI n ≤ nI p := nI_ge hp (by omega)
  have hv : vp_in (nI p) 32 := vp_in_nI (by omega) (by decide)
  have hc : (nI p).toNatClampNeg = p := nI_clamp (by omega)
  unfold wpY_attempt
  refine br_f hnp ⟨hv, hv, ?_⟩
  rw [hc, ho, ha]
  refine fs_yf _ hd (by decide) _ _ _ _ _ _ _ _ _ (fun z => absurd z hF) (fun _ => ?_)
  refine br_t rfl ⟨hv, nm_e ⟨hv, nm_e (nm_e ?_)⟩⟩
  refine br_f (by decide) (nm_r (nI_1 p) ?_)
  repeat (first | refine br_t (by decide) ?_ | refine br_f (by decide) ?_)
  unfold wY_attempt_186
  refine fs_pop _ _ _ _ _ _ _ _ _ _ ?_
  exact br_t (by decide) (br_c h1 h2)
theorem fs_ya11 (post : SY → Prop) {n d p : Nat} (hn : n ≤ 32) (hd : d ≤ 8) (hp : p < n) (c st : Int32) (op arg stk mem : Nat → Int32) (a : Int32) (ho : op p = nI 11) (ha : arg p = a) (hF : ¬ (nI d < fs_vn 11 (a) ∨ ¬ nI d + fs_gr 11 ≤ 8)) (h1 : 0 ≤ stk 0 → post (nI n, nI d - 1, nI (p + 1), c + 1, st, op, arg, fs_pp stk, mem)) (h2 : ¬ 0 ≤ stk 0 → post (nI n, nI d - 1, a, c + 1, st, op, arg, fs_pp stk, mem)) : wpY_attempt post (nI n, nI d, nI p, c, st, op, arg, stk, mem) := by
  have hnp : ¬ nI n ≤ nI p := nI_ge hp (by omega)
  have hv : vp_in (nI p) 32 := vp_in_nI (by omega) (by decide)
  have hc : (nI p).toNatClampNeg = p := nI_clamp (by omega)
  unfold wpY_attempt
  refine br_f hnp ⟨hv, hv, ?_⟩
  rw [hc, ho, ha]
  refine fs_yf _ hd (by decide) _ _ _ _ _ _ _ _ _ (fun z => absurd z hF) (fun _ => ?_)
  refine br_t rfl ⟨hv, nm_e ⟨hv, nm_e (nm_e ?_)⟩⟩
  refine br_f (by decide) (nm_r (nI_1 p) ?_)
  repeat (first | refine br_t (by decide) ?_ | refine br_f (by decide) ?_)
  unfold wY_attempt_186
  refine fs_pop _ _ _ _ _ _ _ _ _ _ ?_
  exact br_f (by decide) (br_c h1 h2)
theorem fs_ya4 (post : SY → Prop) {n d p : Nat} (hn : n ≤ 32) (hd : d ≤ 8) (hp : p < n) (c st : Int32) (op arg stk mem : Nat → Int32) {m : Nat} (hm : m < 8) (ho : op p = nI 4) (ha : arg p = nI m) (hF : ¬ (nI d < fs_vn 4 (nI m) ∨ ¬ nI d + fs_gr 4 ≤ 8)) (h : post (nI n, nI d, nI (p + 1), c + 1, st, op, arg, upd (upd stk 0 (stk m)) m (stk 0), mem)) : wpY_attempt post (nI n, nI d, nI p, c, st, op, arg, stk, mem) := by
  have hnp : ¬ nI n ≤ nI p := nI_ge hp (by omega)
  have hv : vp_in (nI p) 32 := vp_in_nI (by omega) (by decide)
  have hc : (nI p).toNatClampNeg = p := nI_clamp (by omega)
  unfold wpY_attempt
  refine br_f hnp ⟨hv, hv, ?_⟩
  rw [hc, ho, ha]
  refine fs_yf _ hd (by decide) _ _ _ _ _ _ _ _ _ (fun z => absurd z hF) (fun _ => ?_)
  refine br_t rfl ⟨hv, nm_e ⟨hv, nm_e (nm_e ?_)⟩⟩
  refine br_f (by decide) (nm_r (nI_1 p) ?_)
  refine br_f (by decide) (br_f (by decide) (br_f (by decide) (br_f (by decide) (br_f (by decide) (br_f (by decide) (br_f (by decide) ?_))))))
  refine fs_yc4 _ _ _ _ _ _ _ _ _ _ hm ?_
  exact h
theorem fs_ya5 (post : SY → Prop) {n d p : Nat} (hn : n ≤ 32) (hd : d ≤ 8) (hp : p < n) (c st : Int32) (op arg stk mem : Nat → Int32) {m : Nat} (hm : m < 8) (ho : op p = nI 5) (ha : arg p = nI m) (hF : ¬ (nI d < fs_vn 5 (nI m) ∨ ¬ nI d + fs_gr 5 ≤ 8)) (h : post (nI n, nI d, nI (p + 1), c + 1, st, op, arg, upd stk 0 (stk 0 + stk m), mem)) : wpY_attempt post (nI n, nI d, nI p, c, st, op, arg, stk, mem) := by
  have hnp : ¬ nI n ≤ nI p := nI_ge hp (by omega)
  have hv : vp_in (nI p) 32 := vp_in_nI (by omega) (by decide)
  have hc : (nI p).toNatClampNeg = p := nI_clamp (by omega)
  unfold wpY_attempt
  refine br_f hnp ⟨hv, hv, ?_⟩
  rw [hc, ho, ha]
  refine fs_yf _ hd (by decide) _ _ _ _ _ _ _ _ _ (fun z => absurd z hF) (fun _ => ?_)
  refine br_t rfl ⟨hv, nm_e ⟨hv, nm_e (nm_e ?_)⟩⟩
  refine br_f (by decide) (nm_r (nI_1 p) ?_)
  refine br_f (by decide) (br_f (by decide) (br_f (by decide) (br_f (by decide) (br_f (by decide) (br_f (by decide) (br_f (by decide) ?_))))))
  refine fs_yc5 _ _ _ _ _ _ _ _ _ _ hm ?_
  exact h
theorem fs_ya6 (post : SY → Prop) {n d p : Nat} (hn : n ≤ 32) (hd : d ≤ 8) (hp : p < n) (c st : Int32) (op arg stk mem : Nat → Int32) {m : Nat} (hm : m < 8) (ho : op p = nI 6) (ha : arg p = nI m) (hF : ¬ (nI d < fs_vn 6 (nI m) ∨ ¬ nI d + fs_gr 6 ≤ 8)) (h : post (nI n, nI d, nI (p + 1), c + 1, st, op, arg, upd stk 0 (stk 0 - stk m), mem)) : wpY_attempt post (nI n, nI d, nI p, c, st, op, arg, stk, mem) := by
  have hnp : ¬ nI n ≤ nI p := nI_ge hp (by omega)
  have hv : vp_in (nI p) 32 := vp_in_nI (by omega) (by decide)
  have hc : (nI p).toNatClampNeg = p := nI_clamp (by omega)
  unfold wpY_attempt
  refine br_f hnp ⟨hv, hv, ?_⟩
  rw [hc, ho, ha]
  refine fs_yf _ hd (by decide) _ _ _ _ _ _ _ _ _ (fun z => absurd z hF) (fun _ => ?_)
  refine br_t rfl ⟨hv, nm_e ⟨hv, nm_e (nm_e ?_)⟩⟩
  refine br_f (by decide) (nm_r (nI_1 p) ?_)
  refine br_f (by decide) (br_f (by decide) (br_f (by decide) (br_f (by decide) (br_f (by decide) (br_f (by decide) (br_f (by decide) ?_))))))
  refine fs_yc6 _ _ _ _ _ _ _ _ _ _ hm ?_
  exact h
theorem fs_ya7 (post : SY → Prop) {n d p : Nat} (hn : n ≤ 32) (hd : d ≤ 8) (hp : p < n) (c st : Int32) (op arg stk mem : Nat → Int32) {m : Nat} (hm : m < 8) (ho : op p = nI 7) (ha : arg p = nI m) (hF : ¬ (nI d < fs_vn 7 (nI m) ∨ ¬ nI d + fs_gr 7 ≤ 8)) (h : post (nI n, nI d, nI (p + 1), c + 1, st, op, arg, upd stk 0 (stk 0 * stk m), mem)) : wpY_attempt post (nI n, nI d, nI p, c, st, op, arg, stk, mem) := by
  have hnp : ¬ nI n ≤ nI p := nI_ge hp (by omega)
  have hv : vp_in (nI p) 32 := vp_in_nI (by omega) (by decide)
  have hc : (nI p).toNatClampNeg = p := nI_clamp (by omega)
  unfold wpY_attempt
  refine br_f hnp ⟨hv, hv, ?_⟩
  rw [hc, ho, ha]
  refine fs_yf _ hd (by decide) _ _ _ _ _ _ _ _ _ (fun z => absurd z hF) (fun _ => ?_)
  refine br_t rfl ⟨hv, nm_e ⟨hv, nm_e (nm_e ?_)⟩⟩
  refine br_f (by decide) (nm_r (nI_1 p) ?_)
  refine br_f (by decide) (br_f (by decide) (br_f (by decide) (br_f (by decide) (br_f (by decide) (br_f (by decide) (br_f (by decide) ?_))))))
  refine fs_yc7 _ _ _ _ _ _ _ _ _ _ hm ?_
  exact h
theorem fs_ya8 (post : SY → Prop) {n d p : Nat} (hn : n ≤ 32) (hd : d ≤ 8) (hp : p < n) (c st : Int32) (op arg stk mem : Nat → Int32) {m : Nat} (hm : m < 8) (ho : op p = nI 8) (ha : arg p = nI m) (hF : ¬ (nI d < fs_vn 8 (nI m) ∨ ¬ nI d + fs_gr 8 ≤ 8)) (h : post (nI n, nI d - 1, nI (p + 1), c + 1, st, op, arg, fs_pp (upd stk m (stk m + stk 0)), mem)) : wpY_attempt post (nI n, nI d, nI p, c, st, op, arg, stk, mem) := by
  have hnp : ¬ nI n ≤ nI p := nI_ge hp (by omega)
  have hv : vp_in (nI p) 32 := vp_in_nI (by omega) (by decide)
  have hc : (nI p).toNatClampNeg = p := nI_clamp (by omega)
  unfold wpY_attempt
  refine br_f hnp ⟨hv, hv, ?_⟩
  rw [hc, ho, ha]
  refine fs_yf _ hd (by decide) _ _ _ _ _ _ _ _ _ (fun z => absurd z hF) (fun _ => ?_)
  refine br_t rfl ⟨hv, nm_e ⟨hv, nm_e (nm_e ?_)⟩⟩
  refine br_f (by decide) (nm_r (nI_1 p) ?_)
  refine br_f (by decide) (br_f (by decide) (br_f (by decide) (br_f (by decide) (br_f (by decide) (br_f (by decide) (br_f (by decide) ?_))))))
  refine fs_yc8 _ _ _ _ _ _ _ _ _ _ hm ?_
  exact h
theorem fs_ya9 (post : SY → Prop) {n d p : Nat} (hn : n ≤ 32) (hd : d ≤ 8) (hp : p < n) (c st : Int32) (op arg stk mem : Nat → Int32) {m : Nat} (hm : m < 8) (ho : op p = nI 9) (ha : arg p = nI m) (hF : ¬ (nI d < fs_vn 9 (nI m) ∨ ¬ nI d + fs_gr 9 ≤ 8)) (h : post (nI n, nI d - 1, nI (p + 1), c + 1, st, op, arg, fs_pp (upd stk m (stk m - stk 0)), mem)) : wpY_attempt post (nI n, nI d, nI p, c, st, op, arg, stk, mem) := by
  have hnp : ¬ nI n ≤ nI p := nI_ge hp (by omega)
  have hv : vp_in (nI p) 32 := vp_in_nI (by omega) (by decide)
  have hc : (nI p).toNatClampNeg = p := nI_clamp (by omega)
  unfold wpY_attempt
  refine br_f hnp ⟨hv, hv, ?_⟩
  rw [hc, ho, ha]
  refine fs_yf _ hd (by decide) _ _ _ _ _ _ _ _ _ (fun z => absurd z hF) (fun _ => ?_)
  refine br_t rfl ⟨hv, nm_e ⟨hv, nm_e (nm_e ?_)⟩⟩
  refine br_f (by decide) (nm_r (nI_1 p) ?_)
  refine br_f (by decide) (br_f (by decide) (br_f (by decide) (br_f (by decide) (br_f (by decide) (br_f (by decide) (br_f (by decide) ?_))))))
  refine fs_yc9 _ _ _ _ _ _ _ _ _ _ hm ?_
  exact h
end
section
def fs_St (u : SX) (v : SY) : Prop := ∃ (u' : SX) (v' : SY), fs_R u' v' ∧ (∀ post : SX → Prop, post u' → wpX_tryInstruction post u) ∧ (∀ post : SY → Prop, post v' → wpY_attempt post v)
theorem fs_p1 {d : Nat} (h : 1 ≤ d) : nI d - 1 = nI (d - 1) := by
  rw [show (1 : Int32) = nI 1 from rfl, pk_sub h]
theorem fs_m1 {d : Nat} (h : 1 ≤ d) : nI d + (-1) = nI (d - 1) := by
  obtain ⟨q, rfl⟩ : ∃ q, d = q + 1 := ⟨d - 1, by omega⟩
  exact pk_m1 q
theorem fs_d8 {d : Nat} (hd : d ≤ 8) (h : nI d + 1 ≤ 8) : d < 8 := by
  rw [nI_1] at h
  have := (nI_leI (b := 8) (by omega) (by decide)).mp h
  omega
theorem fs_dm {d m : Nat} (hd : d ≤ 8) (hm : m ≤ 7) (h : ¬ nI d < nI m + 1) : m < d := by
  rw [nI_1, nI_ltI (by omega) (by omega)] at h
  omega
theorem fs_d1 {d : Nat} (hd : d ≤ 8) (h : ¬ nI d < 1) : 1 ≤ d := by
  have h' : ¬ nI d < nI 1 := h
  rw [nI_ltI (by omega) (by omega)] at h'
  omega
theorem fs_s0 {n d p : Nat} (hn : n ≤ 32) (hd : d ≤ 8) (hp : p < n) (c st : Int32) (reg cel fo ft ff fd op arg stk : Nat → Int32) (hS : fs_SR d reg stk) (hP : fs_PR n op arg fo ft ff fd) (a : Int32) (ho : op p = nI 0) (ha : arg p = a) (hL : fs_SL fo ft ff fd (p * 9 + d) (nI d) 0 (a)) (hF : ¬ (nI d < fs_vn 0 (a) ∨ ¬ nI d + fs_gr 0 ≤ 8)) : fs_St (nI n, nI d, nI p, c, st, reg, cel, fo, ft, ff, fd) (nI n, nI d, nI p, c, st, op, arg, stk, cel) := by
  have f1 : ¬ nI d < fs_vn 0 (a) := fun z => hF (Or.inl z)
  have f2 : nI d + fs_gr 0 ≤ 8 := Classical.byContradiction (fun z => hF (Or.inr z))
  obtain ⟨l1, l2, l3, l4⟩ := hL.2 f1 f2
  have d8 : d < 8 := fs_d8 hd f2
  refine ⟨(nI n, nI (d + 1), nI (p + 1), c + 1, st, upd reg d a, cel, fo, ft, ff, fd), (nI n, nI (d + 1), nI (p + 1), c + 1, st, op, arg, fs_psh stk a, cel), ⟨n, d + 1, p + 1, c + 1, st, _, cel, fo, ft, ff, fd, op, arg, _, rfl, rfl, hn, by omega, by omega, fs_srpush hS d8 a, hP⟩, fun post h => ?_, fun post h => ?_⟩
  · refine fs_xC post hn hd hp c st reg cel fo ft ff fd (by decide) (by decide) l1 l2 l3 (l4.trans (nI_1 d)) (fun Q hQ => ?_) h
    exact fs_cp1 Q _ _ _ _ _ _ _ _ _ _ _ d8 a hQ
  · refine fs_ya0 post hn hd hp c st op arg stk cel a ho ha hF ?_
    first | exact h | (rw [nI_1 d]; exact h) | (rw [fs_p1 (d := d) (by omega)]; exact h)
theorem fs_s1 {n d p : Nat} (hn : n ≤ 32) (hd : d ≤ 8) (hp : p < n) (c st : Int32) (reg cel fo ft ff fd op arg stk : Nat → Int32) (hS : fs_SR d reg stk) (hP : fs_PR n op arg fo ft ff fd) {m : Nat} (hm : m ≤ 7) (ho : op p = nI 1) (ha : arg p = nI m) (hL : fs_SL fo ft ff fd (p * 9 + d) (nI d) 1 (nI m)) (hF : ¬ (nI d < fs_vn 1 (nI m) ∨ ¬ nI d + fs_gr 1 ≤ 8)) : fs_St (nI n, nI d, nI p, c, st, reg, cel, fo, ft, ff, fd) (nI n, nI d, nI p, c, st, op, arg, stk, cel) := by
  have f1 : ¬ nI d < fs_vn 1 (nI m) := fun z => hF (Or.inl z)
  have f2 : nI d + fs_gr 1 ≤ 8 := Classical.byContradiction (fun z => hF (Or.inr z))
  obtain ⟨l1, l2, l3, l4⟩ := hL.2 f1 f2
  have d8 : d < 8 := fs_d8 hd f2
  have dm : m < d := fs_dm hd hm f1
  have t1 : nI d - 1 - nI m = nI (d - 1 - m) := fs_top dm
  have e : reg (d - 1 - m) = stk m := hS m dm
  refine ⟨(nI n, nI (d + 1), nI (p + 1), c + 1, st, upd reg d (reg (d - 1 - m)), cel, fo, ft, ff, fd), (nI n, nI (d + 1), nI (p + 1), c + 1, st, op, arg, fs_psh stk (stk m), cel), ⟨n, d + 1, p + 1, c + 1, st, _, cel, fo, ft, ff, fd, op, arg, _, rfl, rfl, hn, by omega, by omega, by rw [e]; exact fs_srpush hS d8 _, hP⟩, fun post h => ?_, fun post h => ?_⟩
  · refine fs_xC post hn hd hp c st reg cel fo ft ff fd (by decide) (by decide) l1 l2 (l3.trans t1) (l4.trans (nI_1 d)) (fun Q hQ => ?_) h
    exact fs_cp2 Q _ _ _ _ _ _ _ _ _ _ _ d8 (by omega) hQ
  · refine fs_ya1 post hn hd hp c st op arg stk cel (by omega) ho ha hF ?_
    first | exact h | (rw [nI_1 d]; exact h) | (rw [fs_p1 (d := d) (by omega)]; exact h)
theorem fs_s2 {n d p : Nat} (hn : n ≤ 32) (hd : d ≤ 8) (hp : p < n) (c st : Int32) (reg cel fo ft ff fd op arg stk : Nat → Int32) (hS : fs_SR d reg stk) (hP : fs_PR n op arg fo ft ff fd) {m : Nat} (hm : m ≤ 7) (ho : op p = nI 2) (ha : arg p = nI m) (hL : fs_SL fo ft ff fd (p * 9 + d) (nI d) 2 (nI m)) (hF : ¬ (nI d < fs_vn 2 (nI m) ∨ ¬ nI d + fs_gr 2 ≤ 8)) : fs_St (nI n, nI d, nI p, c, st, reg, cel, fo, ft, ff, fd) (nI n, nI d, nI p, c, st, op, arg, stk, cel) := by
  have f1 : ¬ nI d < fs_vn 2 (nI m) := fun z => hF (Or.inl z)
  have f2 : nI d + fs_gr 2 ≤ 8 := Classical.byContradiction (fun z => hF (Or.inr z))
  obtain ⟨l1, l2, l3, l4⟩ := hL.2 f1 f2
  have d8 : d < 8 := fs_d8 hd f2
  refine ⟨(nI n, nI (d + 1), nI (p + 1), c + 1, st, upd reg d (cel m), cel, fo, ft, ff, fd), (nI n, nI (d + 1), nI (p + 1), c + 1, st, op, arg, fs_psh stk (cel m), cel), ⟨n, d + 1, p + 1, c + 1, st, _, cel, fo, ft, ff, fd, op, arg, _, rfl, rfl, hn, by omega, by omega, fs_srpush hS d8 _, hP⟩, fun post h => ?_, fun post h => ?_⟩
  · refine fs_xC post hn hd hp c st reg cel fo ft ff fd (by decide) (by decide) l1 l2 l3 (l4.trans (nI_1 d)) (fun Q hQ => ?_) h
    exact fs_cp3 Q _ _ _ _ _ _ _ _ _ _ _ d8 (by omega) hQ
  · refine fs_ya2 post hn hd hp c st op arg stk cel (by omega) ho ha hF ?_
    first | exact h | (rw [nI_1 d]; exact h) | (rw [fs_p1 (d := d) (by omega)]; exact h)
theorem fs_s3 {n d p : Nat} (hn : n ≤ 32) (hd : d ≤ 8) (hp : p < n) (c st : Int32) (reg cel fo ft ff fd op arg stk : Nat → Int32) (hS : fs_SR d reg stk) (hP : fs_PR n op arg fo ft ff fd) {m : Nat} (hm : m ≤ 7) (ho : op p = nI 3) (ha : arg p = nI m) (hL : fs_SL fo ft ff fd (p * 9 + d) (nI d) 3 (nI m)) (hF : ¬ (nI d < fs_vn 3 (nI m) ∨ ¬ nI d + fs_gr 3 ≤ 8)) : fs_St (nI n, nI d, nI p, c, st, reg, cel, fo, ft, ff, fd) (nI n, nI d, nI p, c, st, op, arg, stk, cel) := by
  have f1 : ¬ nI d < fs_vn 3 (nI m) := fun z => hF (Or.inl z)
  have f2 : nI d + fs_gr 3 ≤ 8 := Classical.byContradiction (fun z => hF (Or.inr z))
  obtain ⟨l1, l2, l3, l4⟩ := hL.2 f1 f2
  have d1 : 1 ≤ d := fs_d1 hd f1
  have t2 : nI d - 1 = nI (d - 1) := fs_p1 (by omega)
  have e : reg (d - 1) = stk 0 := hS 0 (by omega)
  refine ⟨(nI n, nI (d - 1), nI (p + 1), c + 1, st, reg, upd cel m (reg (d - 1)), fo, ft, ff, fd), (nI n, nI (d - 1), nI (p + 1), c + 1, st, op, arg, fs_pp stk, upd cel m (reg (d - 1))), ⟨n, d - 1, p + 1, c + 1, st, reg, _, fo, ft, ff, fd, op, arg, _, rfl, rfl, hn, by omega, by omega, fs_srpop hS hd, hP⟩, fun post h => ?_, fun post h => ?_⟩
  · refine fs_xC post hn hd hp c st reg cel fo ft ff fd (by decide) (by decide) l1 l2 (l3.trans t2) (l4.trans (fs_m1 d1)) (fun Q hQ => ?_) h
    exact fs_cp4 Q _ _ _ _ _ _ _ _ _ _ _ (by omega) (by omega) hQ
  · refine fs_ya3 post hn hd hp c st op arg stk cel (by omega) ho ha hF ?_
    rw [fs_p1 d1, ← e]
    exact h
theorem fs_s4 {n d p : Nat} (hn : n ≤ 32) (hd : d ≤ 8) (hp : p < n) (c st : Int32) (reg cel fo ft ff fd op arg stk : Nat → Int32) (hS : fs_SR d reg stk) (hP : fs_PR n op arg fo ft ff fd) {m : Nat} (hm : m ≤ 7) (ho : op p = nI 4) (ha : arg p = nI m) (hL : fs_SL fo ft ff fd (p * 9 + d) (nI d) 4 (nI m)) (hF : ¬ (nI d < fs_vn 4 (nI m) ∨ ¬ nI d + fs_gr 4 ≤ 8)) : fs_St (nI n, nI d, nI p, c, st, reg, cel, fo, ft, ff, fd) (nI n, nI d, nI p, c, st, op, arg, stk, cel) := by
  have f1 : ¬ nI d < fs_vn 4 (nI m) := fun z => hF (Or.inl z)
  have f2 : nI d + fs_gr 4 ≤ 8 := Classical.byContradiction (fun z => hF (Or.inr z))
  obtain ⟨l1, l2, l3, l4⟩ := hL.2 f1 f2
  have dm : m < d := fs_dm hd hm f1
  have t1 : nI d - 1 - nI m = nI (d - 1 - m) := fs_top dm
  have t2 : nI d - 1 = nI (d - 1) := fs_p1 (by omega)
  have e : reg (d - 1) = stk 0 := hS 0 (by omega)
  have em : reg (d - 1 - m) = stk m := hS m dm
  have z0 : nI d + 0 = nI d := Int32.add_zero _
  have s1 := fs_srupd (fs_srupd hS (t := 0) (by omega) (stk m)) dm (stk 0)
  refine ⟨(nI n, nI d, nI (p + 1), c + 1, st, upd (upd reg (d - 1) (reg (d - 1 - m))) (d - 1 - m) (reg (d - 1)), cel, fo, ft, ff, fd), (nI n, nI d, nI (p + 1), c + 1, st, op, arg, upd (upd stk 0 (stk m)) m (stk 0), cel), ⟨n, d, p + 1, c + 1, st, _, cel, fo, ft, ff, fd, op, arg, _, rfl, rfl, hn, by omega, by omega, by rw [e, em]; exact s1, hP⟩, fun post h => ?_, fun post h => ?_⟩
  · refine fs_xC post hn hd hp c st reg cel fo ft ff fd (by decide) (by decide) l1 (l2.trans t2) (l3.trans t1) (l4.trans z0) (fun Q hQ => ?_) h
    exact fs_cp5 Q _ _ _ _ _ _ _ _ _ _ _ (by omega) (by omega) hQ
  · refine fs_ya4 post hn hd hp c st op arg stk cel (by omega) ho ha hF ?_
    first | exact h | (rw [nI_1 d]; exact h) | (rw [fs_p1 (d := d) (by omega)]; exact h)
theorem fs_s5 {n d p : Nat} (hn : n ≤ 32) (hd : d ≤ 8) (hp : p < n) (c st : Int32) (reg cel fo ft ff fd op arg stk : Nat → Int32) (hS : fs_SR d reg stk) (hP : fs_PR n op arg fo ft ff fd) {m : Nat} (hm : m ≤ 7) (ho : op p = nI 5) (ha : arg p = nI m) (hL : fs_SL fo ft ff fd (p * 9 + d) (nI d) 5 (nI m)) (hF : ¬ (nI d < fs_vn 5 (nI m) ∨ ¬ nI d + fs_gr 5 ≤ 8)) : fs_St (nI n, nI d, nI p, c, st, reg, cel, fo, ft, ff, fd) (nI n, nI d, nI p, c, st, op, arg, stk, cel) := by
  have f1 : ¬ nI d < fs_vn 5 (nI m) := fun z => hF (Or.inl z)
  have f2 : nI d + fs_gr 5 ≤ 8 := Classical.byContradiction (fun z => hF (Or.inr z))
  obtain ⟨l1, l2, l3, l4⟩ := hL.2 f1 f2
  have dm : m < d := fs_dm hd hm f1
  have t1 : nI d - 1 - nI m = nI (d - 1 - m) := fs_top dm
  have t2 : nI d - 1 = nI (d - 1) := fs_p1 (by omega)
  have e : reg (d - 1) = stk 0 := hS 0 (by omega)
  have em : reg (d - 1 - m) = stk m := hS m dm
  have z0 : nI d + 0 = nI d := Int32.add_zero _
  have s1 := fs_srupd hS (t := 0) (by omega) (stk 0 + stk m)
  refine ⟨(nI n, nI d, nI (p + 1), c + 1, st, upd reg (d - 1) (reg (d - 1) + reg (d - 1 - m)), cel, fo, ft, ff, fd), (nI n, nI d, nI (p + 1), c + 1, st, op, arg, upd stk 0 (stk 0 + stk m), cel), ⟨n, d, p + 1, c + 1, st, _, cel, fo, ft, ff, fd, op, arg, _, rfl, rfl, hn, by omega, by omega, by rw [e, em]; exact s1, hP⟩, fun post h => ?_, fun post h => ?_⟩
  · refine fs_xC post hn hd hp c st reg cel fo ft ff fd (by decide) (by decide) l1 (l2.trans t2) (l3.trans t1) (l4.trans z0) (fun Q hQ => ?_) h
    exact fs_cp6 Q _ _ _ _ _ _ _ _ _ _ _ (by omega) (by omega) hQ
  · refine fs_ya5 post hn hd hp c st op arg stk cel (by omega) ho ha hF ?_
    first | exact h | (rw [nI_1 d]; exact h) | (rw [fs_p1 (d := d) (by omega)]; exact h)
theorem fs_s6 {n d p : Nat} (hn : n ≤ 32) (hd : d ≤ 8) (hp : p < n) (c st : Int32) (reg cel fo ft ff fd op arg stk : Nat → Int32) (hS : fs_SR d reg stk) (hP : fs_PR n op arg fo ft ff fd) {m : Nat} (hm : m ≤ 7) (ho : op p = nI 6) (ha : arg p = nI m) (hL : fs_SL fo ft ff fd (p * 9 + d) (nI d) 6 (nI m)) (hF : ¬ (nI d < fs_vn 6 (nI m) ∨ ¬ nI d + fs_gr 6 ≤ 8)) : fs_St (nI n, nI d, nI p, c, st, reg, cel, fo, ft, ff, fd) (nI n, nI d, nI p, c, st, op, arg, stk, cel) := by
  have f1 : ¬ nI d < fs_vn 6 (nI m) := fun z => hF (Or.inl z)
  have f2 : nI d + fs_gr 6 ≤ 8 := Classical.byContradiction (fun z => hF (Or.inr z))
  obtain ⟨l1, l2, l3, l4⟩ := hL.2 f1 f2
  have dm : m < d := fs_dm hd hm f1
  have t1 : nI d - 1 - nI m = nI (d - 1 - m) := fs_top dm
  have t2 : nI d - 1 = nI (d - 1) := fs_p1 (by omega)
  have e : reg (d - 1) = stk 0 := hS 0 (by omega)
  have em : reg (d - 1 - m) = stk m := hS m dm
  have z0 : nI d + 0 = nI d := Int32.add_zero _
  have s1 := fs_srupd hS (t := 0) (by omega) (stk 0 - stk m)
  refine ⟨(nI n, nI d, nI (p + 1), c + 1, st, upd reg (d - 1) (reg (d - 1) - reg (d - 1 - m)), cel, fo, ft, ff, fd), (nI n, nI d, nI (p + 1), c + 1, st, op, arg, upd stk 0 (stk 0 - stk m), cel), ⟨n, d, p + 1, c + 1, st, _, cel, fo, ft, ff, fd, op, arg, _, rfl, rfl, hn, by omega, by omega, by rw [e, em]; exact s1, hP⟩, fun post h => ?_, fun post h => ?_⟩
  · refine fs_xC post hn hd hp c st reg cel fo ft ff fd (by decide) (by decide) l1 (l2.trans t2) (l3.trans t1) (l4.trans z0) (fun Q hQ => ?_) h
    exact fs_cp7 Q _ _ _ _ _ _ _ _ _ _ _ (by omega) (by omega) hQ
  · refine fs_ya6 post hn hd hp c st op arg stk cel (by omega) ho ha hF ?_
    first | exact h | (rw [nI_1 d]; exact h) | (rw [fs_p1 (d := d) (by omega)]; exact h)
theorem fs_s7 {n d p : Nat} (hn : n ≤ 32) (hd : d ≤ 8) (hp : p < n) (c st : Int32) (reg cel fo ft ff fd op arg stk : Nat → Int32) (hS : fs_SR d reg stk) (hP : fs_PR n op arg fo ft ff fd) {m : Nat} (hm : m ≤ 7) (ho : op p = nI 7) (ha : arg p = nI m) (hL : fs_SL fo ft ff fd (p * 9 + d) (nI d) 7 (nI m)) (hF : ¬ (nI d < fs_vn 7 (nI m) ∨ ¬ nI d + fs_gr 7 ≤ 8)) : fs_St (nI n, nI d, nI p, c, st, reg, cel, fo, ft, ff, fd) (nI n, nI d, nI p, c, st, op, arg, stk, cel) := by
  have f1 : ¬ nI d < fs_vn 7 (nI m) := fun z => hF (Or.inl z)
  have f2 : nI d + fs_gr 7 ≤ 8 := Classical.byContradiction (fun z => hF (Or.inr z))
  obtain ⟨l1, l2, l3, l4⟩ := hL.2 f1 f2
  have dm : m < d := fs_dm hd hm f1
  have t1 : nI d - 1 - nI m = nI (d - 1 - m) := fs_top dm
  have t2 : nI d - 1 = nI (d - 1) := fs_p1 (by omega)
  have e : reg (d - 1) = stk 0 := hS 0 (by omega)
  have em : reg (d - 1 - m) = stk m := hS m dm
  have z0 : nI d + 0 = nI d := Int32.add_zero _
  have s1 := fs_srupd hS (t := 0) (by omega) (stk 0 * stk m)
  refine ⟨(nI n, nI d, nI (p + 1), c + 1, st, upd reg (d - 1) (reg (d - 1) * reg (d - 1 - m)), cel, fo, ft, ff, fd), (nI n, nI d, nI (p + 1), c + 1, st, op, arg, upd stk 0 (stk 0 * stk m), cel), ⟨n, d, p + 1, c + 1, st, _, cel, fo, ft, ff, fd, op, arg, _, rfl, rfl, hn, by omega, by omega, by rw [e, em]; exact s1, hP⟩, fun post h => ?_, fun post h => ?_⟩
  · refine fs_xC post hn hd hp c st reg cel fo ft ff fd (by decide) (by decide) l1 (l2.trans t2) (l3.trans t1) (l4.trans z0) (fun Q hQ => ?_) h
    exact fs_cp8 Q _ _ _ _ _ _ _ _ _ _ _ (by omega) (by omega) hQ
  · refine fs_ya7 post hn hd hp c st op arg stk cel (by omega) ho ha hF ?_
    first | exact h | (rw [nI_1 d]; exact h) | (rw [fs_p1 (d := d) (by omega)]; exact h)
theorem fs_s8 {n d p : Nat} (hn : n ≤ 32) (hd : d ≤ 8) (hp : p < n) (c st : Int32) (reg cel fo ft ff fd op arg stk : Nat → Int32) (hS : fs_SR d reg stk) (hP : fs_PR n op arg fo ft ff fd) {m : Nat} (hm : m ≤ 7) (ho : op p = nI 8) (ha : arg p = nI m) (hL : fs_SL fo ft ff fd (p * 9 + d) (nI d) 8 (nI m)) (hF : ¬ (nI d < fs_vn 8 (nI m) ∨ ¬ nI d + fs_gr 8 ≤ 8)) : fs_St (nI n, nI d, nI p, c, st, reg, cel, fo, ft, ff, fd) (nI n, nI d, nI p, c, st, op, arg, stk, cel) := by
  have f1 : ¬ nI d < fs_vn 8 (nI m) := fun z => hF (Or.inl z)
  have f2 : nI d + fs_gr 8 ≤ 8 := Classical.byContradiction (fun z => hF (Or.inr z))
  obtain ⟨l1, l2, l3, l4⟩ := hL.2 f1 f2
  have dm : m < d := fs_dm hd hm f1
  have t1 : nI d - 1 - nI m = nI (d - 1 - m) := fs_top dm
  have t2 : nI d - 1 = nI (d - 1) := fs_p1 (by omega)
  have e : reg (d - 1) = stk 0 := hS 0 (by omega)
  have em : reg (d - 1 - m) = stk m := hS m dm
  have s1 := fs_srpop (fs_srupd hS dm (stk m + stk 0)) hd
  refine ⟨(nI n, nI (d - 1), nI (p + 1), c + 1, st, upd reg (d - 1 - m) (reg (d - 1 - m) + reg (d - 1)), cel, fo, ft, ff, fd), (nI n, nI (d - 1), nI (p + 1), c + 1, st, op, arg, fs_pp (upd stk m (stk m + stk 0)), cel), ⟨n, d - 1, p + 1, c + 1, st, _, cel, fo, ft, ff, fd, op, arg, _, rfl, rfl, hn, by omega, by omega, by rw [e, em]; exact s1, hP⟩, fun post h => ?_, fun post h => ?_⟩
  · refine fs_xC post hn hd hp c st reg cel fo ft ff fd (by decide) (by decide) l1 (l2.trans t1) (l3.trans t2) (l4.trans (fs_m1 (by omega))) (fun Q hQ => ?_) h
    exact fs_cp6 Q _ _ _ _ _ _ _ _ _ _ _ (by omega) (by omega) hQ
  · refine fs_ya8 post hn hd hp c st op arg stk cel (by omega) ho ha hF ?_
    first | exact h | (rw [nI_1 d]; exact h) | (rw [fs_p1 (d := d) (by omega)]; exact h)
theorem fs_s9 {n d p : Nat} (hn : n ≤ 32) (hd : d ≤ 8) (hp : p < n) (c st : Int32) (reg cel fo ft ff fd op arg stk : Nat → Int32) (hS : fs_SR d reg stk) (hP : fs_PR n op arg fo ft ff fd) {m : Nat} (hm : m ≤ 7) (ho : op p = nI 9) (ha : arg p = nI m) (hL : fs_SL fo ft ff fd (p * 9 + d) (nI d) 9 (nI m)) (hF : ¬ (nI d < fs_vn 9 (nI m) ∨ ¬ nI d + fs_gr 9 ≤ 8)) : fs_St (nI n, nI d, nI p, c, st, reg, cel, fo, ft, ff, fd) (nI n, nI d, nI p, c, st, op, arg, stk, cel) := by
  have f1 : ¬ nI d < fs_vn 9 (nI m) := fun z => hF (Or.inl z)
  have f2 : nI d + fs_gr 9 ≤ 8 := Classical.byContradiction (fun z => hF (Or.inr z))
  obtain ⟨l1, l2, l3, l4⟩ := hL.2 f1 f2
  have dm : m < d := fs_dm hd hm f1
  have t1 : nI d - 1 - nI m = nI (d - 1 - m) := fs_top dm
  have t2 : nI d - 1 = nI (d - 1) := fs_p1 (by omega)
  have e : reg (d - 1) = stk 0 := hS 0 (by omega)
  have em : reg (d - 1 - m) = stk m := hS m dm
  have s1 := fs_srpop (fs_srupd hS dm (stk m - stk 0)) hd
  refine ⟨(nI n, nI (d - 1), nI (p + 1), c + 1, st, upd reg (d - 1 - m) (reg (d - 1 - m) - reg (d - 1)), cel, fo, ft, ff, fd), (nI n, nI (d - 1), nI (p + 1), c + 1, st, op, arg, fs_pp (upd stk m (stk m - stk 0)), cel), ⟨n, d - 1, p + 1, c + 1, st, _, cel, fo, ft, ff, fd, op, arg, _, rfl, rfl, hn, by omega, by omega, by rw [e, em]; exact s1, hP⟩, fun post h => ?_, fun post h => ?_⟩
  · refine fs_xC post hn hd hp c st reg cel fo ft ff fd (by decide) (by decide) l1 (l2.trans t1) (l3.trans t2) (l4.trans (fs_m1 (by omega))) (fun Q hQ => ?_) h
    exact fs_cp7 Q _ _ _ _ _ _ _ _ _ _ _ (by omega) (by omega) hQ
  · refine fs_ya9 post hn hd hp c st op arg stk cel (by omega) ho ha hF ?_
    first | exact h | (rw [nI_1 d]; exact h) | (rw [fs_p1 (d := d) (by omega)]; exact h)
theorem fs_s12 {n d p : Nat} (hn : n ≤ 32) (hd : d ≤ 8) (hp : p < n) (c st : Int32) (reg cel fo ft ff fd op arg stk : Nat → Int32) (hS : fs_SR d reg stk) (hP : fs_PR n op arg fo ft ff fd) {m : Nat} (hm : m ≤ 31) (ho : op p = nI 12) (ha : arg p = nI m) (hL : fs_SL fo ft ff fd (p * 9 + d) (nI d) 12 (nI m)) (hF : ¬ (nI d < fs_vn 12 (nI m) ∨ ¬ nI d + fs_gr 12 ≤ 8)) : fs_St (nI n, nI d, nI p, c, st, reg, cel, fo, ft, ff, fd) (nI n, nI d, nI p, c, st, op, arg, stk, cel) := by
  have f1 : ¬ nI d < fs_vn 12 (nI m) := fun z => hF (Or.inl z)
  have f2 : nI d + fs_gr 12 ≤ 8 := Classical.byContradiction (fun z => hF (Or.inr z))
  obtain ⟨l1, l2, l3, l4⟩ := hL.2 f1 f2
  have z0 : nI d + 0 = nI d := Int32.add_zero _
  refine ⟨(nI n, nI d, nI m, c + 1, st, reg, cel, fo, ft, ff, fd), (nI n, nI d, nI m, c + 1, st, op, arg, stk, cel), ⟨n, d, m, c + 1, st, reg, cel, fo, ft, ff, fd, op, arg, stk, rfl, rfl, hn, by omega, by omega, hS, hP⟩, fun post h => ?_, fun post h => ?_⟩
  · refine fs_xS post hn hd hp c st reg cel fo ft ff fd (by decide) (by decide) l1 l2 l3 (l4.trans z0) (fun Q hQ => ?_) h
    exact fs_sg Q _ _ _ _ _ _ _ _ _ _ _ _ _ hQ
  · exact fs_ya12 post hn hd hp c st op arg stk cel _ ho ha hF h
theorem fs_s13 {n d p : Nat} (hn : n ≤ 32) (hd : d ≤ 8) (hp : p < n) (c st : Int32) (reg cel fo ft ff fd op arg stk : Nat → Int32) (hS : fs_SR d reg stk) (hP : fs_PR n op arg fo ft ff fd) (a : Int32) (ho : op p = nI 13) (ha : arg p = a) (hL : fs_SL fo ft ff fd (p * 9 + d) (nI d) 13 (a)) (hF : ¬ (nI d < fs_vn 13 (a) ∨ ¬ nI d + fs_gr 13 ≤ 8)) : fs_St (nI n, nI d, nI p, c, st, reg, cel, fo, ft, ff, fd) (nI n, nI d, nI p, c, st, op, arg, stk, cel) := by
  have f1 : ¬ nI d < fs_vn 13 (a) := fun z => hF (Or.inl z)
  have f2 : nI d + fs_gr 13 ≤ 8 := Classical.byContradiction (fun z => hF (Or.inr z))
  obtain ⟨l1, l2, l3, l4⟩ := hL.2 f1 f2
  have z0 : nI d + 0 = nI d := Int32.add_zero _
  refine ⟨(nI n, nI d, nI p, c + 1, 1, reg, cel, fo, ft, ff, fd), (nI n, nI d, nI p, c + 1, 1, op, arg, stk, cel), ⟨n, d, p, c + 1, 1, reg, cel, fo, ft, ff, fd, op, arg, stk, rfl, rfl, hn, by omega, by omega, hS, hP⟩, fun post h => ?_, fun post h => ?_⟩
  · refine fs_xS post hn hd hp c st reg cel fo ft ff fd (by decide) (by decide) l1 l2 l3 (l4.trans z0) (fun Q hQ => ?_) h
    exact fs_sh Q _ _ _ _ _ _ _ _ _ _ _ _ _ hQ
  · exact fs_ya13 post hn hd hp c st op arg stk cel a ho ha hF h
theorem fs_s10t {n d p : Nat} (hn : n ≤ 32) (hd : d ≤ 8) (hp : p < n) (c st : Int32) (reg cel fo ft ff fd op arg stk : Nat → Int32) (hS : fs_SR d reg stk) (hP : fs_PR n op arg fo ft ff fd) {m : Nat} (hm : m ≤ 31) (hz : reg (d - 1) = 0) (ho : op p = nI 10) (ha : arg p = nI m) (hL : fs_SL fo ft ff fd (p * 9 + d) (nI d) 10 (nI m)) (hF : ¬ (nI d < fs_vn 10 (nI m) ∨ ¬ nI d + fs_gr 10 ≤ 8)) : fs_St (nI n, nI d, nI p, c, st, reg, cel, fo, ft, ff, fd) (nI n, nI d, nI p, c, st, op, arg, stk, cel) := by
  have f1 : ¬ nI d < fs_vn 10 (nI m) := fun z => hF (Or.inl z)
  have f2 : nI d + fs_gr 10 ≤ 8 := Classical.byContradiction (fun z => hF (Or.inr z))
  obtain ⟨l1, l2, l3, l4⟩ := hL.2 f1 f2
  have d1 : 1 ≤ d := fs_d1 hd f1
  have t2 : nI d - 1 = nI (d - 1) := fs_p1 (by omega)
  have e : reg (d - 1) = stk 0 := hS 0 (by omega)
  refine ⟨(nI n, nI (d - 1), nI m, c + 1, st, reg, cel, fo, ft, ff, fd), (nI n, nI (d - 1), nI m, c + 1, st, op, arg, fs_pp stk, cel), ⟨n, d - 1, m, c + 1, st, reg, cel, fo, ft, ff, fd, op, arg, _, rfl, rfl, hn, by omega, by omega, fs_srpop hS hd, hP⟩, fun post h => ?_, fun post h => ?_⟩
  · refine fs_xS post hn hd hp c st reg cel fo ft ff fd (by decide) (by decide) l1 l2 (l3.trans t2) (l4.trans (fs_m1 d1)) (fun Q hQ => ?_) h
    exact fs_sz Q _ _ _ _ _ _ _ _ _ _ _ _ (f := d - 1) (by omega) (fun _ => hQ) (fun z => absurd hz z)
  · rw [← fs_p1 d1] at h
    rw [e] at hz
    exact fs_ya10 post hn hd hp c st op arg stk cel _ ho ha hF (fun _ => h) (fun z => absurd hz z)
theorem fs_s10f {n d p : Nat} (hn : n ≤ 32) (hd : d ≤ 8) (hp : p < n) (c st : Int32) (reg cel fo ft ff fd op arg stk : Nat → Int32) (hS : fs_SR d reg stk) (hP : fs_PR n op arg fo ft ff fd) {m : Nat} (hm : m ≤ 31) (hz : ¬ reg (d - 1) = 0) (ho : op p = nI 10) (ha : arg p = nI m) (hL : fs_SL fo ft ff fd (p * 9 + d) (nI d) 10 (nI m)) (hF : ¬ (nI d < fs_vn 10 (nI m) ∨ ¬ nI d + fs_gr 10 ≤ 8)) : fs_St (nI n, nI d, nI p, c, st, reg, cel, fo, ft, ff, fd) (nI n, nI d, nI p, c, st, op, arg, stk, cel) := by
  have f1 : ¬ nI d < fs_vn 10 (nI m) := fun z => hF (Or.inl z)
  have f2 : nI d + fs_gr 10 ≤ 8 := Classical.byContradiction (fun z => hF (Or.inr z))
  obtain ⟨l1, l2, l3, l4⟩ := hL.2 f1 f2
  have d1 : 1 ≤ d := fs_d1 hd f1
  have t2 : nI d - 1 = nI (d - 1) := fs_p1 (by omega)
  have e : reg (d - 1) = stk 0 := hS 0 (by omega)
  refine ⟨(nI n, nI (d - 1), nI (p + 1), c + 1, st, reg, cel, fo, ft, ff, fd), (nI n, nI (d - 1), nI (p + 1), c + 1, st, op, arg, fs_pp stk, cel), ⟨n, d - 1, p + 1, c + 1, st, reg, cel, fo, ft, ff, fd, op, arg, _, rfl, rfl, hn, by omega, by omega, fs_srpop hS hd, hP⟩, fun post h => ?_, fun post h => ?_⟩
  · refine fs_xS post hn hd hp c st reg cel fo ft ff fd (by decide) (by decide) l1 l2 (l3.trans t2) (l4.trans (fs_m1 d1)) (fun Q hQ => ?_) h
    rw [← nI_1 p] at hQ
    exact fs_sz Q _ _ _ _ _ _ _ _ _ _ _ _ (f := d - 1) (by omega) (fun z => absurd z hz) (fun _ => hQ)
  · rw [← fs_p1 d1] at h
    rw [e] at hz
    exact fs_ya10 post hn hd hp c st op arg stk cel _ ho ha hF (fun z => absurd z hz) (fun _ => h)
theorem fs_s11t {n d p : Nat} (hn : n ≤ 32) (hd : d ≤ 8) (hp : p < n) (c st : Int32) (reg cel fo ft ff fd op arg stk : Nat → Int32) (hS : fs_SR d reg stk) (hP : fs_PR n op arg fo ft ff fd) {m : Nat} (hm : m ≤ 31) (hz : 0 ≤ reg (d - 1)) (ho : op p = nI 11) (ha : arg p = nI m) (hL : fs_SL fo ft ff fd (p * 9 + d) (nI d) 11 (nI m)) (hF : ¬ (nI d < fs_vn 11 (nI m) ∨ ¬ nI d + fs_gr 11 ≤ 8)) : fs_St (nI n, nI d, nI p, c, st, reg, cel, fo, ft, ff, fd) (nI n, nI d, nI p, c, st, op, arg, stk, cel) := by
  have f1 : ¬ nI d < fs_vn 11 (nI m) := fun z => hF (Or.inl z)
  have f2 : nI d + fs_gr 11 ≤ 8 := Classical.byContradiction (fun z => hF (Or.inr z))
  obtain ⟨l1, l2, l3, l4⟩ := hL.2 f1 f2
  have d1 : 1 ≤ d := fs_d1 hd f1
  have t2 : nI d - 1 = nI (d - 1) := fs_p1 (by omega)
  have e : reg (d - 1) = stk 0 := hS 0 (by omega)
  refine ⟨(nI n, nI (d - 1), nI (p + 1), c + 1, st, reg, cel, fo, ft, ff, fd), (nI n, nI (d - 1), nI (p + 1), c + 1, st, op, arg, fs_pp stk, cel), ⟨n, d - 1, p + 1, c + 1, st, reg, cel, fo, ft, ff, fd, op, arg, _, rfl, rfl, hn, by omega, by omega, fs_srpop hS hd, hP⟩, fun post h => ?_, fun post h => ?_⟩
  · refine fs_xS post hn hd hp c st reg cel fo ft ff fd (by decide) (by decide) l1 l2 (l3.trans t2) (l4.trans (fs_m1 d1)) (fun Q hQ => ?_) h
    rw [← nI_1 p] at hQ
    exact fs_sn Q _ _ _ _ _ _ _ _ _ _ _ _ (f := d - 1) (by omega) (fun _ => hQ) (fun z => absurd hz z)
  · rw [← fs_p1 d1] at h
    rw [e] at hz
    exact fs_ya11 post hn hd hp c st op arg stk cel _ ho ha hF (fun _ => h) (fun z => absurd hz z)
theorem fs_s11f {n d p : Nat} (hn : n ≤ 32) (hd : d ≤ 8) (hp : p < n) (c st : Int32) (reg cel fo ft ff fd op arg stk : Nat → Int32) (hS : fs_SR d reg stk) (hP : fs_PR n op arg fo ft ff fd) {m : Nat} (hm : m ≤ 31) (hz : ¬ 0 ≤ reg (d - 1)) (ho : op p = nI 11) (ha : arg p = nI m) (hL : fs_SL fo ft ff fd (p * 9 + d) (nI d) 11 (nI m)) (hF : ¬ (nI d < fs_vn 11 (nI m) ∨ ¬ nI d + fs_gr 11 ≤ 8)) : fs_St (nI n, nI d, nI p, c, st, reg, cel, fo, ft, ff, fd) (nI n, nI d, nI p, c, st, op, arg, stk, cel) := by
  have f1 : ¬ nI d < fs_vn 11 (nI m) := fun z => hF (Or.inl z)
  have f2 : nI d + fs_gr 11 ≤ 8 := Classical.byContradiction (fun z => hF (Or.inr z))
  obtain ⟨l1, l2, l3, l4⟩ := hL.2 f1 f2
  have d1 : 1 ≤ d := fs_d1 hd f1
  have t2 : nI d - 1 = nI (d - 1) := fs_p1 (by omega)
  have e : reg (d - 1) = stk 0 := hS 0 (by omega)
  refine ⟨(nI n, nI (d - 1), nI m, c + 1, st, reg, cel, fo, ft, ff, fd), (nI n, nI (d - 1), nI m, c + 1, st, op, arg, fs_pp stk, cel), ⟨n, d - 1, m, c + 1, st, reg, cel, fo, ft, ff, fd, op, arg, _, rfl, rfl, hn, by omega, by omega, fs_srpop hS hd, hP⟩, fun post h => ?_, fun post h => ?_⟩
  · refine fs_xS post hn hd hp c st reg cel fo ft ff fd (by decide) (by decide) l1 l2 (l3.trans t2) (l4.trans (fs_m1 d1)) (fun Q hQ => ?_) h
    exact fs_sn Q _ _ _ _ _ _ _ _ _ _ _ _ (f := d - 1) (by omega) (fun z => absurd z hz) (fun _ => hQ)
  · rw [← fs_p1 d1] at h
    rw [e] at hz
    exact fs_ya11 post hn hd hp c st op arg stk cel _ ho ha hF (fun z => absurd z hz) (fun _ => h)
theorem fs_step {u : SX} {v : SY} (h : fs_R u v) : fs_St u v := by
  obtain ⟨n, d, p, c, st, reg, cel, fo, ft, ff, fd, op, arg, stk, rfl, rfl, hn, hd, hp, hS, hP⟩ := h
  by_cases hpn : p < n
  · obtain ⟨j, ho, hok, hL⟩ := hP p hpn
    have hL := hL d (by omega)
    by_cases hF : nI d < fs_vn j (arg p) ∨ ¬ nI d + fs_gr j ≤ 8
    · exact ⟨_, _, ⟨n, d, p, c, 2, reg, cel, fo, ft, ff, fd, op, arg, stk, rfl, rfl, hn, hd, hp, hS, hP⟩, fun post h => fs_xF post hn hd hpn c st reg cel fo ft ff fd (hL.1 hF) h, fun post h => fs_yaF post hn hd hpn c st op arg stk cel (fs_ok14 hok) _ ho rfl hF h⟩
    · generalize ha : arg p = a at hok hL hF
      rcases hok with rfl | rfl | ⟨g1, g2, m, hm, rfl⟩ | ⟨g1, g2, m, _, hm, rfl⟩ | ⟨g1, g2, m, hm, rfl⟩
      · exact fs_s0 hn hd hpn c st reg cel fo ft ff fd op arg stk hS hP a ho ha hL hF
      · exact fs_s13 hn hd hpn c st reg cel fo ft ff fd op arg stk hS hP a ho ha hL hF
      · have h7 : j = 1 ∨ j = 2 ∨ j = 3 ∨ j = 4 ∨ j = 5 ∨ j = 6 ∨ j = 7 := by omega
        rcases h7 with rfl | rfl | rfl | rfl | rfl | rfl | rfl
        · exact fs_s1 hn hd hpn c st reg cel fo ft ff fd op arg stk hS hP hm ho ha hL hF
        · exact fs_s2 hn hd hpn c st reg cel fo ft ff fd op arg stk hS hP hm ho ha hL hF
        · exact fs_s3 hn hd hpn c st reg cel fo ft ff fd op arg stk hS hP hm ho ha hL hF
        · exact fs_s4 hn hd hpn c st reg cel fo ft ff fd op arg stk hS hP hm ho ha hL hF
        · exact fs_s5 hn hd hpn c st reg cel fo ft ff fd op arg stk hS hP hm ho ha hL hF
        · exact fs_s6 hn hd hpn c st reg cel fo ft ff fd op arg stk hS hP hm ho ha hL hF
        · exact fs_s7 hn hd hpn c st reg cel fo ft ff fd op arg stk hS hP hm ho ha hL hF
      · have h7 : j = 8 ∨ j = 9 := by omega
        rcases h7 with rfl | rfl
        · exact fs_s8 hn hd hpn c st reg cel fo ft ff fd op arg stk hS hP hm ho ha hL hF
        · exact fs_s9 hn hd hpn c st reg cel fo ft ff fd op arg stk hS hP hm ho ha hL hF
      · have h7 : j = 10 ∨ j = 11 ∨ j = 12 := by omega
        rcases h7 with rfl | rfl | rfl
        · by_cases hz : reg (d - 1) = 0
          · exact fs_s10t hn hd hpn c st reg cel fo ft ff fd op arg stk hS hP hm hz ho ha hL hF
          · exact fs_s10f hn hd hpn c st reg cel fo ft ff fd op arg stk hS hP hm hz ho ha hL hF
        · by_cases hz : 0 ≤ reg (d - 1)
          · exact fs_s11t hn hd hpn c st reg cel fo ft ff fd op arg stk hS hP hm hz ho ha hL hF
          · exact fs_s11f hn hd hpn c st reg cel fo ft ff fd op arg stk hS hP hm hz ho ha hL hF
        · exact fs_s12 hn hd hpn c st reg cel fo ft ff fd op arg stk hS hP hm ho ha hL hF
  · have hx : ¬ nI p < nI n := nI_nlt (by omega) (by omega)
    have hy : nI n ≤ nI p := nI_le (by omega) (by omega)
    exact ⟨_, _, ⟨n, d, p, c, 2, reg, cel, fo, ft, ff, fd, op, arg, stk, rfl, rfl, hn, hd, hp, hS, hP⟩, fun post h => br_f hx h, fun post h => br_t hy h⟩
theorem fs_run (t : Nat) (ht : t ≤ 200) : ∀ (m k : Nat) (u : SX) (v : SY), k + m = t → fs_R u v → ∃ (u' : SX) (v' : SY) (r : Int32), fs_R u' v' ∧
    (∀ post : Int32 → SX → Prop, post r u' → match u with | (n, d, p, c, st, reg, cel, fo, ft, ff, fd) => wX_run_17 post (nI t) (m + 1) (nI k) n d p c st reg cel fo ft ff fd) ∧
    (∀ post : Int32 → SY → Prop, post r v' → match v with | (n, d, p, c, st, op, arg, stk, mem) => wY_run_25 post (nI t) (m + 1) (nI k) n d p c st op arg stk mem) := by
  intro m
  induction m with
  | zero =>
    intro k u v hk hR
    obtain ⟨n, d, p, c, st, reg, cel, fo, ft, ff, fd, op, arg, stk, rfl, rfl, hrest⟩ := hR
    have h1 : nI t ≤ nI k := nI_le (by omega) (by omega)
    exact ⟨_, _, st, ⟨n, d, p, c, st, reg, cel, fo, ft, ff, fd, op, arg, stk, rfl, rfl, hrest⟩, fun post h => br_t h1 h, fun post h => br_t h1 h⟩
  | succ m ih =>
    intro k u v hk hR
    have hst := fs_step hR
    obtain ⟨n, d, p, c, st, reg, cel, fo, ft, ff, fd, op, arg, stk, rfl, rfl, hrest⟩ := hR
    have h1 : ¬ nI t ≤ nI k := nI_ge (by omega) (by omega)
    by_cases h0 : st = 0
    · obtain ⟨u1, v1, hR1, hX1, hY1⟩ := hst
      obtain ⟨u2, v2, r, hR2, hX2, hY2⟩ := ih (k + 1) u1 v1 (by omega) hR1
      obtain ⟨n1, d1, p1, c1, st1, reg1, cel1, fo1, ft1, ff1, fd1, op1, arg1, stk1, rfl, rfl, hrest1⟩ := hR1
      refine ⟨u2, v2, r, hR2, fun post h => br_f h1 (br_t h0 ?_), fun post h => br_f h1 (br_t h0 ?_)⟩
      · refine hX1 _ ?_
        exact nm_r (nI_1 k) (hX2 post h)
      · refine hY1 _ ?_
        exact nm_r (nI_1 k) (hY2 post h)
    · exact ⟨_, _, st, ⟨n, d, p, c, st, reg, cel, fo, ft, ff, fd, op, arg, stk, rfl, rfl, hrest⟩, fun post h => br_f h1 (br_f h0 h), fun post h => br_f h1 (br_f h0 h)⟩
theorem i_vc_run {k : Nat} {u : SX} {v : SY} (I : i_Rel k u v) (hk : k + 4 ≤ 2048) (v1 : Int32) : wpX_run (fun r u' => wpY_run (fun r' v' => r' = r ∧ i_Rel (k + 4) u' v') v v1) u v1 := by
  have hI : fs_R u v := I
  rcases pk_ix v1 (n := 201) (by decide) with ha | ha | ⟨m, hm, rfl⟩
  · obtain ⟨n, d, p, c, st, reg, cel, fo, ft, ff, fd, op, arg, stk, rfl, rfl, hrest⟩ := I
    have l0 : ¬ (0 : Int32) ≤ v1 := Int32.not_le.mpr ha
    have l1 : v1 ≤ (0 : Int32) := Int32.le_of_lt ha
    have l2 : v1 ≤ (200 : Int32) := Int32.le_trans l1 (by decide)
    exact br_t l2 ⟨1, br_t l1 (br_f l0 ⟨1, br_t (by decide) ⟨rfl, hI⟩⟩)⟩
  · have h0 : (0 : Int32) ≤ v1 := Int32.not_lt.mp (fs_nl (c := 0) (by decide) (by decide) ha)
    have h2 : ¬ v1 ≤ (200 : Int32) := fun z => absurd (fs_lo (b := 200) (by decide) ha) (Int32.not_lt.mpr z)
    obtain ⟨u', v', r, hR, hX, hY⟩ := fs_run 200 (by decide) 200 0 u v rfl hI
    obtain ⟨n, d, p, c, st, reg, cel, fo, ft, ff, fd, op, arg, stk, rfl, rfl, hrest⟩ := I
    refine br_f h2 ⟨201, hX _ ?_⟩
    exact br_t h0 (br_f h2 ⟨201, hY _ ⟨rfl, hR⟩⟩)
  · have h0 : (0 : Int32) ≤ nI m := nI_pos' (by omega)
    have h2 : nI m ≤ (200 : Int32) := nI_le (b := 200) (by omega) (by decide)
    obtain ⟨u', v', r, hR, hX, hY⟩ := fs_run m (by omega) m 0 u v (by omega) hI
    obtain ⟨n, d, p, c, st, reg, cel, fo, ft, ff, fd, op, arg, stk, rfl, rfl, hrest⟩ := I
    refine br_t h2 ⟨m + 1, hX _ ?_⟩
    exact br_t h0 (br_t h2 ⟨m + 1, hY _ ⟨rfl, hR⟩⟩)
end
