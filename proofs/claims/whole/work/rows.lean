section
/-! pasted from kit/rows/PURE-ROWS: pk_us .. pk_cl -/
theorem pk_us {f : Nat → Int32} {k : Nat} {x : Int32} : upd f k x k = x := if_pos rfl
theorem pk_un {f : Nat → Int32} {k j : Nat} {x : Int32} (h : j ≠ k) : upd f k x j = f j := if_neg h
theorem pk_sub {a b : Nat} (h : b ≤ a) : nI a - nI b = nI (a - b) := by
  obtain ⟨c, rfl⟩ : ∃ c, a = c + b := ⟨a - b, by omega⟩
  rw [← nI_add, Int32.add_sub_cancel, Nat.add_sub_cancel]
theorem pk_m1 (n : Nat) : nI (n + 1) + (-1) = nI n := by
  rw [← nI_1, Int32.add_assoc, show (1 : Int32) + (-1) = 0 from rfl, Int32.add_zero]
theorem pk_mul (a b : Nat) : nI a * nI b = nI (a * b) := (Int32.ofNat_mul a b).symm
theorem pk_ix (x : Int32) {n : Nat} (hn : n < 2 ^ 31) : x < 0 ∨ nI n ≤ x ∨ ∃ j : Nat, j < n ∧ x = nI j := by
  by_cases h : x < 0
  · exact Or.inl h
  · obtain ⟨j, hj, rfl⟩ := nI_of h
    by_cases h2 : j < n
    · exact Or.inr (Or.inr ⟨j, h2, rfl⟩)
    · exact Or.inr (Or.inl (nI_le (by omega) hj))
theorem pk_le {x y : Int32} {A B : Prop} (a b : Nat) (f : a ≤ b → A) (g : b < a → B) (hx : x = nI a := by rfl) (hy : y = nI b := by rfl) (ha : a < 2 ^ 31 := by omega) (hb : b < 2 ^ 31 := by omega) : (x ≤ y → A) ∧ (¬ x ≤ y → B) := by
  subst hx hy
  rw [nI_leI ha hb]
  exact ⟨f, fun z => g (by omega)⟩
theorem pk_lt {x y : Int32} {A B : Prop} (a b : Nat) (f : a < b → A) (g : b ≤ a → B) (hx : x = nI a := by rfl) (hy : y = nI b := by rfl) (ha : a < 2 ^ 31 := by omega) (hb : b < 2 ^ 31 := by omega) : (x < y → A) ∧ (¬ x < y → B) := by
  subst hx hy
  rw [nI_ltI ha hb]
  exact ⟨f, fun z => g (by omega)⟩
theorem pk_eq {x y : Int32} {A B : Prop} (a b : Nat) (f : a = b → A) (g : a ≠ b → B) (hx : x = nI a := by rfl) (hy : y = nI b := by rfl) (ha : a < 2 ^ 31 := by omega) (hb : b < 2 ^ 31 := by omega) : (x = y → A) ∧ (¬ x = y → B) := by
  subst hx hy
  rw [nI_eq ha hb]
  exact ⟨f, g⟩
theorem pk_in {x : Int32} (n N : Nat) (h : n < N) (hx : x = nI n := by rfl) (hN : N < 2 ^ 31 := by omega) : vp_in x N := by
  subst hx
  exact vp_in_nI h hN
theorem pk_cl {x : Int32} (n : Nat) (hx : x = nI n := by rfl) (h : n < 2 ^ 31 := by omega) : x.toNatClampNeg = n := by
  subst hx
  exact nI_clamp h
/-! the tables of the class: what an operation j makes of a depth and a number -/
def fs_gr : Nat → Int32
  | 0 => 1
  | 1 => 1
  | 2 => 1
  | 3 => -1
  | 8 => -1
  | 9 => -1
  | 10 => -1
  | 11 => -1
  | _ => 0
def fs_vn (j : Nat) (a : Int32) : Int32 := match j with
  | 0 => 0
  | 2 => 0
  | 12 => 0
  | 13 => 0
  | 3 => 1
  | 10 => 1
  | 11 => 1
  | _ => a + 1
def fs_fo : Nat → Int32
  | 0 => 1
  | 1 => 2
  | 2 => 3
  | 3 => 4
  | 4 => 5
  | 5 => 6
  | 6 => 7
  | 7 => 8
  | 8 => 6
  | 9 => 7
  | 10 => 9
  | 11 => 10
  | 12 => 11
  | _ => 12
def fs_to (d : Int32) (j : Nat) (a : Int32) : Int32 := match j with
  | 0 => d
  | 1 => d
  | 2 => d
  | 4 => d - 1
  | 5 => d - 1
  | 6 => d - 1
  | 7 => d - 1
  | 8 => d - 1 - a
  | 9 => d - 1 - a
  | _ => a
def fs_fr (d : Int32) (j : Nat) (a : Int32) : Int32 := match j with
  | 0 => a
  | 2 => a
  | 1 => d - 1 - a
  | 4 => d - 1 - a
  | 5 => d - 1 - a
  | 6 => d - 1 - a
  | 7 => d - 1 - a
  | _ => d - 1
/-- slot s holds the translation of (j, a) at depth d -/
def fs_SL (fo ft ff fd : Nat → Int32) (s : Nat) (d : Int32) (j : Nat) (a : Int32) : Prop :=
  ((d < fs_vn j a ∨ ¬ d + fs_gr j ≤ 8) → fo s = 0) ∧
  (¬ d < fs_vn j a → d + fs_gr j ≤ 8 → fo s = fs_fo j ∧ ft s = fs_to d j a ∧ ff s = fs_fr d j a ∧ fd s = d + fs_gr j)
/-- (j, a) is an instruction that emit takes -/
def fs_ok (j : Nat) (a : Int32) : Prop :=
  j = 0 ∨ j = 13 ∨ (1 ≤ j ∧ j ≤ 7 ∧ ∃ m : Nat, m ≤ 7 ∧ a = nI m) ∨ (8 ≤ j ∧ j ≤ 9 ∧ ∃ m : Nat, 1 ≤ m ∧ m ≤ 7 ∧ a = nI m) ∨ (10 ≤ j ∧ j ≤ 12 ∧ ∃ m : Nat, m ≤ 31 ∧ a = nI m)
/-- the two programs agree -/
def fs_PR (n : Nat) (op arg fo ft ff fd : Nat → Int32) : Prop :=
  ∀ i, i < n → ∃ j : Nat, op i = nI j ∧ fs_ok j (arg i) ∧ ∀ e : Nat, e < 9 → fs_SL fo ft ff fd (i * 9 + e) (nI e) j (arg i)
/-- the two stacks agree -/
def fs_SR (d : Nat) (reg stk : Nat → Int32) : Prop := ∀ k, k < d → reg (d - 1 - k) = stk k
def fs_R (u : SX) (v : SY) : Prop :=
  ∃ (n d p : Nat) (c st : Int32) (reg cel fo ft ff fd op arg stk : Nat → Int32),
    u = (nI n, nI d, nI p, c, st, reg, cel, fo, ft, ff, fd) ∧ v = (nI n, nI d, nI p, c, st, op, arg, stk, cel) ∧
    n ≤ 32 ∧ d ≤ 8 ∧ p ≤ 32 ∧ fs_SR d reg stk ∧ fs_PR n op arg fo ft ff fd
def i_Rel (_ : Nat) (u : SX) (v : SY) : Prop := fs_R u v
theorem i_up {k : Nat} {u : SX} {v : SY} (h : i_Rel k u v) : i_Rel (k + 4) u v := h
theorem i_vc0 : wpX_init (fun u => wpY_init (fun v => i_Rel 0 u v)) :=
  ⟨0, 0, 0, 0, 0, _, _, _, _, _, _, _, _, _, rfl, rfl, by decide, by decide, by decide, fun _ h => absurd h (Nat.not_lt_zero _), fun _ h => absurd h (Nat.not_lt_zero _)⟩
theorem fs_14 {P : Nat → Prop} (h0 : P 0) (h1 : P 1) (h2 : P 2) (h3 : P 3) (h4 : P 4) (h5 : P 5) (h6 : P 6) (h7 : P 7) (h8 : P 8) (h9 : P 9) (h10 : P 10) (h11 : P 11) (h12 : P 12) (h13 : P 13) : ∀ j, j < 14 → P j
  | 0, _ => h0
  | 1, _ => h1
  | 2, _ => h2
  | 3, _ => h3
  | 4, _ => h4
  | 5, _ => h5
  | 6, _ => h6
  | 7, _ => h7
  | 8, _ => h8
  | 9, _ => h9
  | 10, _ => h10
  | 11, _ => h11
  | 12, _ => h12
  | 13, _ => h13
  | j + 14, h => absurd h (by omega)
theorem fs_ok14 {j : Nat} {a : Int32} (h : fs_ok j a) : j < 14 := by
  rcases h with h | h | ⟨_, h, _⟩ | ⟨_, h, _⟩ | ⟨_, h, _⟩ <;> omega
end
section
theorem fs_xgr : ∀ j, j < 14 → ∀ post : Int32 → Prop, post (fs_gr j) → wpX_growth post (nI j) := by
  apply fs_14 <;> (intro post h; unfold wpX_growth; repeat (first | exact h | refine br_t (by decide) ?_ | refine br_f (by decide) ?_))
theorem fs_xvn (a : Int32) : ∀ j, j < 14 → ∀ post : Int32 → Prop, post (fs_vn j a) → wpX_valuesNeeded post (nI j) a := by
  apply fs_14 <;> (intro post h; unfold wpX_valuesNeeded; repeat (first | exact h | refine br_t (by decide) ?_ | refine br_f (by decide) ?_))
theorem fs_xfo : ∀ j, j < 14 → ∀ post : Int32 → Prop, post (fs_fo j) → wpX_flatOperation post (nI j) := by
  apply fs_14 <;> (intro post h; unfold wpX_flatOperation; repeat (first | exact h | refine br_t (by decide) ?_ | refine br_f (by decide) ?_))
theorem fs_xto (d a : Int32) : ∀ j, j < 14 → ∀ post : Int32 → Prop, post (fs_to d j a) → wpX_flatTarget post d (nI j) a := by
  apply fs_14 <;> (intro post h; unfold wpX_flatTarget; repeat (first | exact h | refine br_t (by decide) ?_ | refine br_f (by decide) ?_))
theorem fs_xfr (d a : Int32) : ∀ j, j < 14 → ∀ post : Int32 → Prop, post (fs_fr d j a) → wpX_flatSource post d (nI j) a := by
  apply fs_14 <;> (intro post h; unfold wpX_flatSource; repeat (first | exact h | refine br_t (by decide) ?_ | refine br_f (by decide) ?_))
theorem fs_td (post : SX → Prop) (n d p c st : Int32) (reg cel fo ft ff fd : Nat → Int32) (s : Nat) (hs : s < 288) (e : Int32) (j : Nat) (hj : j < 14) (a : Int32)
    (hp : ∀ fo' ft' ff' fd' : Nat → Int32, fs_SL fo' ft' ff' fd' s e j a → (∀ q, q ≠ s → fo' q = fo q ∧ ft' q = ft q ∧ ff' q = ff q ∧ fd' q = fd q) → post (n, d, p, c, st, reg, cel, fo', ft', ff', fd')) :
    wpX_translateForDepth post (n, d, p, c, st, reg, cel, fo, ft, ff, fd) (nI s) e (nI j) a := by
  have hi : vp_in (nI s) 288 := vp_in_nI hs (by decide)
  have hc : (nI s).toNatClampNeg = s := nI_clamp (by omega)
  have hz : (e < fs_vn j a ∨ ¬ e + fs_gr j ≤ 8) → post (n, d, p, c, st, reg, cel, upd fo s 0, ft, ff, fd) := fun h =>
    hp _ _ _ _ ⟨fun _ => pk_us, fun h1 h2 => h.elim (fun h3 => absurd h3 h1) (fun h3 => absurd h2 h3)⟩ (fun q hq => ⟨pk_un hq, rfl, rfl, rfl⟩)
  unfold wpX_translateForDepth
  refine fs_xgr j hj _ ?_
  refine nm_e ?_
  refine fs_xvn a j hj _ ?_
  refine br_c (fun h1 => ⟨hi, nm_r (by rw [hc]) (hz (Or.inl h1))⟩) (fun h1 => ?_)
  refine br_c (fun h2 => ?_) (fun h2 => ⟨hi, nm_r (by rw [hc]) (hz (Or.inr h2))⟩)
  refine fs_xfo j hj _ ?_
  refine ⟨hi, nm_r (e' := upd fo s (fs_fo j)) (by rw [hc]) ?_⟩
  refine fs_xto e a j hj _ ?_
  refine ⟨hi, nm_r (e' := upd ft s (fs_to e j a)) (by rw [hc]) ?_⟩
  refine fs_xfr e a j hj _ ?_
  refine ⟨hi, nm_r (e' := upd ff s (fs_fr e j a)) (by rw [hc]) ?_⟩
  refine ⟨hi, nm_r (e' := upd fd s (e + fs_gr j)) (by rw [hc]) ?_⟩
  exact hp _ _ _ _ ⟨fun h => h.elim (fun h3 => absurd h3 h1) (fun h3 => absurd h2 h3), fun _ _ => ⟨pk_us, pk_us, pk_us, pk_us⟩⟩ (fun q hq => ⟨pk_un hq, pk_un hq, pk_un hq, pk_un hq⟩)
theorem fs_tl (post : SX → Prop) (n d p c st : Int32) (reg cel fo ft ff fd : Nat → Int32) (i : Nat) (hi : i < 32) (j : Nat) (hj : j < 14) (a : Int32)
    (hp : ∀ fo' ft' ff' fd' : Nat → Int32, (∀ e : Nat, e < 9 → fs_SL fo' ft' ff' fd' (i * 9 + e) (nI e) j a) → (∀ q, (q < i * 9 ∨ i * 9 + 9 ≤ q) → fo' q = fo q ∧ ft' q = ft q ∧ ff' q = ff q ∧ fd' q = fd q) → post (n, d, p, c, st, reg, cel, fo', ft', ff', fd')) :
    ∀ (m k : Nat) (go gt gf gd : Nat → Int32), k + m = 9 → (∀ e : Nat, e < k → fs_SL go gt gf gd (i * 9 + e) (nI e) j a) → (∀ q, (q < i * 9 ∨ i * 9 + 9 ≤ q) → go q = fo q ∧ gt q = ft q ∧ gf q = ff q ∧ gd q = fd q) →
      wX_translate_3 post (nI i) (nI j) a (m + 1) (nI k) n d p c st reg cel go gt gf gd := by
  intro m
  induction m with
  | zero =>
    intro k go gt gf gd hk hS hF
    have h9 : (9 : Int32) ≤ nI k := nI_le (a := 9) (by omega) (by omega)
    refine br_t h9 (hp go gt gf gd (fun e he => hS e (by omega)) hF)
  | succ m ih =>
    intro k go gt gf gd hk hS hF
    have h9 : ¬ (9 : Int32) ≤ nI k := nI_ge (b := 9) (by omega) (by decide)
    refine br_f h9 ?_
    have hs : nI i * 9 + nI k = nI (i * 9 + k) := by
      rw [show (9 : Int32) = nI 9 from rfl, pk_mul, nI_add]
    rw [hs]
    refine fs_td _ n d p c st reg cel go gt gf gd (i * 9 + k) (by omega) (nI k) j hj a ?_
    intro fo' ft' ff' fd' hN hQ
    refine nm_r (nI_1 k) ?_
    refine ih (k + 1) fo' ft' ff' fd' (by omega) ?_ ?_
    · intro e he
      by_cases hek : e = k
      · rw [hek]; exact hN
      · have hq := hQ (i * 9 + e) (by omega)
        have ho := hS e (by omega)
        unfold fs_SL at ho ⊢
        rw [hq.1, hq.2.1, hq.2.2.1, hq.2.2.2]
        exact ho
    · intro q hq
      have h1 := hQ q (by omega)
      have h2 := hF q hq
      exact ⟨h1.1.trans h2.1, h1.2.1.trans h2.2.1, h1.2.2.1.trans h2.2.2.1, h1.2.2.2.trans h2.2.2.2⟩
theorem fs_tr (post : SX → Prop) (n d p c st : Int32) (reg cel fo ft ff fd : Nat → Int32) (i : Nat) (hi : i < 32) (j : Nat) (hj : j < 14) (a : Int32)
    (hp : ∀ fo' ft' ff' fd' : Nat → Int32, (∀ e : Nat, e < 9 → fs_SL fo' ft' ff' fd' (i * 9 + e) (nI e) j a) → (∀ q, (q < i * 9 ∨ i * 9 + 9 ≤ q) → fo' q = fo q ∧ ft' q = ft q ∧ ff' q = ff q ∧ fd' q = fd q) → post (n, d, p, c, st, reg, cel, fo', ft', ff', fd')) :
    wpX_translate post (n, d, p, c, st, reg, cel, fo, ft, ff, fd) (nI i) (nI j) a :=
  ⟨10, fs_tl post n d p c st reg cel fo ft ff fd i hi j hj a hp 9 0 fo ft ff fd rfl (fun e he => absurd he (Nat.not_lt_zero _)) (fun q _ => ⟨rfl, rfl, rfl, rfl⟩)⟩
/-- one more, or another, instruction at i -/
theorem fs_put {n n' i j : Nat} {a : Int32} {op arg fo ft ff fd fo' ft' ff' fd' : Nat → Int32} (hP : fs_PR n op arg fo ft ff fd) (hok : fs_ok j a)
    (hS : ∀ e : Nat, e < 9 → fs_SL fo' ft' ff' fd' (i * 9 + e) (nI e) j a) (hF : ∀ q, (q < i * 9 ∨ i * 9 + 9 ≤ q) → fo' q = fo q ∧ ft' q = ft q ∧ ff' q = ff q ∧ fd' q = fd q)
    (hn : ∀ q, q < n' → q ≠ i → q < n) : fs_PR n' (upd op i (nI j)) (upd arg i a) fo' ft' ff' fd' := by
  intro q hq
  by_cases hqi : q = i
  · subst hqi
    refine ⟨j, pk_us, ?_, ?_⟩
    · rw [pk_us]; exact hok
    · rw [pk_us]; exact hS
  · obtain ⟨j', h1, h2, h3⟩ := hP q (hn q hq hqi)
    refine ⟨j', (pk_un hqi).trans h1, ?_, ?_⟩
    · rw [pk_un hqi]; exact h2
    · rw [pk_un hqi]
      intro e he
      have hk := hF (q * 9 + e) (by omega)
      have ho := h3 e he
      unfold fs_SL at ho ⊢
      rw [hk.1, hk.2.1, hk.2.2.1, hk.2.2.2]
      exact ho
end
section
theorem fs_lo {b : Nat} {a : Int32} (hb : b + 1 < 2 ^ 31) (h : nI (b + 1) ≤ a) : nI b < a := by
  rw [Int32.le_iff_toInt_le, nI_toInt hb] at h
  rw [Int32.lt_iff_toInt_lt, nI_toInt (by omega)]
  omega
theorem fs_nl {b c : Nat} {a : Int32} (hb : b < 2 ^ 31) (hc : c ≤ b) (h : nI b ≤ a) : ¬ a < nI c := by
  rw [Int32.le_iff_toInt_le, nI_toInt hb] at h
  rw [Int32.lt_iff_toInt_lt, nI_toInt (by omega)]
  omega
theorem fs_l1 {a : Int32} (h : a < 0) : a < 1 := by
  rw [Int32.lt_iff_toInt_lt] at h ⊢
  rw [show (0 : Int32).toInt = 0 from by decide] at h
  rw [show (1 : Int32).toInt = 1 from by decide]
  omega
def fs_Is (o a b : Int32) : Prop := (∀ post : Int32 → Prop, post b → wpX_isInstruction post o a) ∧ (∀ (post : Int32 → Prop) (n d p c st : Int32) (op arg stk mem : Nat → Int32), post b → wpY_fits post (n, d, p, c, st, op, arg, stk, mem) o a)
theorem fs_is0 (a : Int32) : fs_Is (nI 0) a 1 := by
  refine ⟨fun post h => ?_, fun post n d p c st op arg stk mem h => ?_⟩ <;> repeat (first | exact h | refine br_t (by decide) ?_ | refine br_f (by decide) ?_)
theorem fs_is13 (a : Int32) : fs_Is (nI 13) a 1 := by
  refine ⟨fun post h => ?_, fun post n d p c st op arg stk mem h => ?_⟩ <;> repeat (first | exact h | refine br_t (by decide) ?_ | refine br_f (by decide) ?_)
theorem fs_is7 (a : Int32) : ∀ j, j < 14 → 1 ≤ j → j ≤ 7 → (fs_Is (nI j) a 1 ∧ ∃ m : Nat, m ≤ 7 ∧ a = nI m) ∨ fs_Is (nI j) a 0 := by
  rcases pk_ix a (n := 8) (by decide) with ha | ha | ⟨m, hm, rfl⟩
  · apply fs_14 <;> first
      | (intro h1 h2; exact absurd h1 (by decide))
      | (intro h1 h2; exact absurd h2 (by decide))
      | (intro h1 h2; right; refine ⟨fun post h => ?_, fun post n d p c st op arg stk mem h => ?_⟩ <;> repeat (first | exact h | refine br_t (by first | decide | assumption) ?_ | refine br_f (by first | decide | assumption) ?_))
  · have h1 : (8 : Int32) ≤ a := ha
    have h2 : (7 : Int32) < a := fs_lo (b := 7) (by decide) ha
    have h3 : ¬ a < (0 : Int32) := fs_nl (c := 0) (by decide) (by decide) ha
    apply fs_14 <;> first
      | (intro h1 h2; exact absurd h1 (by decide))
      | (intro h1 h2; exact absurd h2 (by decide))
      | (intro _ _; right; refine ⟨fun post h => ?_, fun post n d p c st op arg stk mem h => ?_⟩ <;> repeat (first | exact h | refine br_t (by first | decide | assumption) ?_ | refine br_f (by first | decide | assumption) ?_))
  · have h1 : ¬ (8 : Int32) ≤ nI m := nI_ge (b := 8) hm (by decide)
    have h2 : ¬ (7 : Int32) < nI m := nI_nlt (a := 7) (by omega) (by decide)
    have h3 : ¬ nI m < (0 : Int32) := nI_pos (by omega)
    apply fs_14 <;> first
      | (intro h1 h2; exact absurd h1 (by decide))
      | (intro h1 h2; exact absurd h2 (by decide))
      | (intro _ _; left; refine ⟨⟨fun post h => ?_, fun post n d p c st op arg stk mem h => ?_⟩, m, by omega, rfl⟩ <;> repeat (first | exact h | refine br_t (by first | decide | assumption) ?_ | refine br_f (by first | decide | assumption) ?_))
theorem fs_is9 (a : Int32) : ∀ j, j < 14 → 8 ≤ j → j ≤ 9 → (fs_Is (nI j) a 1 ∧ ∃ m : Nat, 1 ≤ m ∧ m ≤ 7 ∧ a = nI m) ∨ fs_Is (nI j) a 0 := by
  rcases pk_ix a (n := 8) (by decide) with ha | ha | ⟨m, hm, rfl⟩
  · have h4 := fs_l1 ha
    apply fs_14 <;> first
      | (intro h1 h2; exact absurd h1 (by decide))
      | (intro h1 h2; exact absurd h2 (by decide))
      | (intro h1 h2; right; refine ⟨fun post h => ?_, fun post n d p c st op arg stk mem h => ?_⟩ <;> repeat (first | exact h | refine br_t (by first | decide | assumption) ?_ | refine br_f (by first | decide | assumption) ?_))
  · have h1 : (8 : Int32) ≤ a := ha
    have h2 : (7 : Int32) < a := fs_lo (b := 7) (by decide) ha
    have h3 : ¬ a < (1 : Int32) := fs_nl (c := 1) (by decide) (by decide) ha
    apply fs_14 <;> first
      | (intro h1 h2; exact absurd h1 (by decide))
      | (intro h1 h2; exact absurd h2 (by decide))
      | (intro _ _; right; refine ⟨fun post h => ?_, fun post n d p c st op arg stk mem h => ?_⟩ <;> repeat (first | exact h | refine br_t (by first | decide | assumption) ?_ | refine br_f (by first | decide | assumption) ?_))
  · have h1 : ¬ (8 : Int32) ≤ nI m := nI_ge (b := 8) hm (by decide)
    have h2 : ¬ (7 : Int32) < nI m := nI_nlt (a := 7) (by omega) (by decide)
    by_cases h4 : 1 ≤ m
    · have h3 : ¬ nI m < (1 : Int32) := nI_nlt (b := 1) h4 (by omega)
      apply fs_14 <;> first
        | (intro h1 h2; exact absurd h1 (by decide))
        | (intro h1 h2; exact absurd h2 (by decide))
        | (intro _ _; left; refine ⟨⟨fun post h => ?_, fun post n d p c st op arg stk mem h => ?_⟩, m, h4, by omega, rfl⟩ <;> repeat (first | exact h | refine br_t (by first | decide | assumption) ?_ | refine br_f (by first | decide | assumption) ?_))
    · have h3 : nI m < (1 : Int32) := nI_lt (b := 1) (by omega) (by decide)
      apply fs_14 <;> first
        | (intro h1 h2; exact absurd h1 (by decide))
        | (intro h1 h2; exact absurd h2 (by decide))
        | (intro _ _; right; refine ⟨fun post h => ?_, fun post n d p c st op arg stk mem h => ?_⟩ <;> repeat (first | exact h | refine br_t (by first | decide | assumption) ?_ | refine br_f (by first | decide | assumption) ?_))
theorem fs_is12 (a : Int32) : ∀ j, j < 14 → 10 ≤ j → j ≤ 12 → (fs_Is (nI j) a 1 ∧ ∃ m : Nat, m ≤ 31 ∧ a = nI m) ∨ fs_Is (nI j) a 0 := by
  rcases pk_ix a (n := 32) (by decide) with ha | ha | ⟨m, hm, rfl⟩
  · apply fs_14 <;> first
      | (intro h1 h2; exact absurd h1 (by decide))
      | (intro h1 h2; exact absurd h2 (by decide))
      | (intro h1 h2; right; refine ⟨fun post h => ?_, fun post n d p c st op arg stk mem h => ?_⟩ <;> repeat (first | exact h | refine br_t (by first | decide | assumption) ?_ | refine br_f (by first | decide | assumption) ?_))
  · have h1 : (32 : Int32) ≤ a := ha
    have h2 : (31 : Int32) < a := fs_lo (b := 31) (by decide) ha
    have h3 : ¬ a < (0 : Int32) := fs_nl (c := 0) (by decide) (by decide) ha
    apply fs_14 <;> first
      | (intro h1 h2; exact absurd h1 (by decide))
      | (intro h1 h2; exact absurd h2 (by decide))
      | (intro _ _; right; refine ⟨fun post h => ?_, fun post n d p c st op arg stk mem h => ?_⟩ <;> repeat (first | exact h | refine br_t (by first | decide | assumption) ?_ | refine br_f (by first | decide | assumption) ?_))
  · have h1 : ¬ (32 : Int32) ≤ nI m := nI_ge (b := 32) hm (by decide)
    have h2 : ¬ (31 : Int32) < nI m := nI_nlt (a := 31) (by omega) (by decide)
    have h3 : ¬ nI m < (0 : Int32) := nI_pos (by omega)
    apply fs_14 <;> first
      | (intro h1 h2; exact absurd h1 (by decide))
      | (intro h1 h2; exact absurd h2 (by decide))
      | (intro _ _; left; refine ⟨⟨fun post h => ?_, fun post n d p c st op arg stk mem h => ?_⟩, m, by omega, rfl⟩ <;> repeat (first | exact h | refine br_t (by first | decide | assumption) ?_ | refine br_f (by first | decide | assumption) ?_))
theorem fs_is (o a : Int32) : (∃ j : Nat, o = nI j ∧ fs_ok j a ∧ fs_Is o a 1) ∨ fs_Is o a 0 := by
  by_cases h0 : o < 0
  · exact Or.inr ⟨fun post h => br_t h0 h, fun post n d p c st op arg stk mem h => br_t h0 h⟩
  by_cases h13 : o ≤ 13
  · obtain ⟨j, hj, rfl⟩ := nI_of2 (M := 13) (n := 13) (by decide) h0 h13
    by_cases j0 : j = 0
    · subst j0; exact Or.inl ⟨0, rfl, Or.inl rfl, fs_is0 a⟩
    by_cases j13 : j = 13
    · subst j13; exact Or.inl ⟨13, rfl, Or.inr (Or.inl rfl), fs_is13 a⟩
    by_cases j7 : j ≤ 7
    · rcases fs_is7 a j (by omega) (by omega) j7 with ⟨h, hm⟩ | h
      · exact Or.inl ⟨j, rfl, Or.inr (Or.inr (Or.inl ⟨by omega, j7, hm⟩)), h⟩
      · exact Or.inr h
    by_cases j9 : j ≤ 9
    · rcases fs_is9 a j (by omega) (by omega) j9 with ⟨h, hm⟩ | h
      · exact Or.inl ⟨j, rfl, Or.inr (Or.inr (Or.inr (Or.inl ⟨by omega, j9, hm⟩))), h⟩
      · exact Or.inr h
    · rcases fs_is12 a j (by omega) (by omega) (by omega) with ⟨h, hm⟩ | h
      · exact Or.inl ⟨j, rfl, Or.inr (Or.inr (Or.inr (Or.inr ⟨by omega, by omega, hm⟩))), h⟩
      · exact Or.inr h
  · exact Or.inr ⟨fun post h => br_f h0 (br_f h13 h), fun post n d p c st op arg stk mem h => br_f h0 (br_f h13 h)⟩
theorem i_vc_emit {k : Nat} {u : SX} {v : SY} (I : i_Rel k u v) (hk : k + 4 ≤ 2048) (v1 : Int32) (v2 : Int32) : wpX_emit (fun r u' => wpY_emit (fun r' v' => r' = r ∧ i_Rel (k + 4) u' v') v v1 v2) u v1 v2 := by
  obtain ⟨n, d, p, c, st, reg, cel, fo, ft, ff, fd, op, arg, stk, rfl, rfl, hn, hd, hp, hS, hP⟩ := I
  have hR : fs_R (nI n, nI d, nI p, c, st, reg, cel, fo, ft, ff, fd) (nI n, nI d, nI p, c, st, op, arg, stk, cel) := ⟨n, d, p, c, st, reg, cel, fo, ft, ff, fd, op, arg, stk, rfl, rfl, hn, hd, hp, hS, hP⟩
  by_cases h32 : n < 32
  · have hx : nI n < (32 : Int32) := nI_lt (b := 32) h32 (by decide)
    have hy : ¬ nI n = (32 : Int32) := fun z => absurd ((nI_eq (b := 32) (by omega) (by decide)).mp z) (by omega)
    have hi : vp_in (nI n) 32 := vp_in_nI h32 (by decide)
    have hc : (nI n).toNatClampNeg = n := nI_clamp (by omega)
    unfold wpX_emit
    refine br_t hx ?_
    rcases fs_is v1 v2 with ⟨j, rfl, hok, hI⟩ | hI
    · refine hI.1 _ ?_
      refine br_f (by decide) ?_
      refine fs_tr _ (nI n) (nI d) (nI p) c st reg cel fo ft ff fd n h32 j (fs_ok14 hok) v2 ?_
      intro fo' ft' ff' fd' hN hF
      refine nm_r (nI_1 n) ?_
      unfold wpY_emit
      refine br_f hy ?_
      refine hI.2 _ _ _ _ _ _ _ _ _ _ ?_
      refine br_f (by decide) ?_
      refine ⟨hi, nm_r (e' := upd op n (nI j)) (by rw [hc]) ?_⟩
      refine ⟨hi, nm_r (e' := upd arg n v2) (by rw [hc]) ?_⟩
      refine nm_r (nI_1 n) ?_
      exact ⟨rfl, n + 1, d, p, c, st, reg, cel, fo', ft', ff', fd', _, _, stk, rfl, rfl, h32, hd, hp, hS, fs_put hP hok hN hF (fun q h1 h2 => by omega)⟩
    · refine hI.1 _ ?_
      refine br_t rfl ?_
      unfold wpY_emit
      refine br_f hy ?_
      refine hI.2 _ _ _ _ _ _ _ _ _ _ ?_
      exact br_t rfl ⟨rfl, hR⟩
  · obtain rfl : n = 32 := by omega
    exact br_f (by decide) (br_t rfl ⟨rfl, hR⟩)
theorem i_vc_patch {k : Nat} {u : SX} {v : SY} (I : i_Rel k u v) (hk : k + 4 ≤ 2048) (v1 : Int32) (v2 : Int32) (v3 : Int32) : wpX_patch (fun r u' => wpY_patch (fun r' v' => r' = r ∧ i_Rel (k + 4) u' v') v v1 v2 v3) u v1 v2 v3 := by
  obtain ⟨n, d, p, c, st, reg, cel, fo, ft, ff, fd, op, arg, stk, rfl, rfl, hn, hd, hp, hS, hP⟩ := I
  have hR : fs_R (nI n, nI d, nI p, c, st, reg, cel, fo, ft, ff, fd) (nI n, nI d, nI p, c, st, op, arg, stk, cel) := ⟨n, d, p, c, st, reg, cel, fo, ft, ff, fd, op, arg, stk, rfl, rfl, hn, hd, hp, hS, hP⟩
  unfold wpX_patch wpY_patch
  by_cases h0 : v1 < 0
  · exact br_t h0 (br_t h0 ⟨rfl, hR⟩)
  obtain ⟨i, hi, rfl⟩ := nI_of h0
  by_cases hin : n ≤ i
  · have hx : nI n ≤ nI i := nI_le hin hi
    exact br_f h0 (br_t hx (br_f h0 (br_t hx ⟨rfl, hR⟩)))
  · have hx : ¬ nI n ≤ nI i := nI_ge (by omega) (by omega)
    have hv : vp_in (nI i) 32 := vp_in_nI (by omega) (by decide)
    have hc : (nI i).toNatClampNeg = i := nI_clamp hi
    refine br_f h0 (br_f hx ?_)
    rcases fs_is v2 v3 with ⟨j, rfl, hok, hI⟩ | hI
    · refine hI.1 _ ?_
      refine br_f (by decide) ?_
      refine fs_tr _ (nI n) (nI d) (nI p) c st reg cel fo ft ff fd i (by omega) j (fs_ok14 hok) v3 ?_
      intro fo' ft' ff' fd' hN hF
      refine br_f h0 (br_f hx ?_)
      refine hI.2 _ _ _ _ _ _ _ _ _ _ ?_
      refine br_f (by decide) ?_
      refine ⟨hv, nm_r (e' := upd op i (nI j)) (by rw [hc]) ?_⟩
      refine ⟨hv, nm_r (e' := upd arg i v3) (by rw [hc]) ?_⟩
      exact ⟨rfl, n, d, p, c, st, reg, cel, fo', ft', ff', fd', _, _, stk, rfl, rfl, hn, hd, hp, hS, fs_put hP hok hN hF (fun q h1 h2 => h1)⟩
    · refine hI.1 _ ?_
      refine br_t rfl ?_
      refine br_f h0 (br_f hx ?_)
      refine hI.2 _ _ _ _ _ _ _ _ _ _ ?_
      exact br_t rfl ⟨rfl, hR⟩
theorem i_vc_poke {k : Nat} {u : SX} {v : SY} (I : i_Rel k u v) (hk : k + 4 ≤ 2048) (v1 : Int32) (v2 : Int32) : wpX_poke (fun r u' => wpY_poke (fun r' v' => r' = r ∧ i_Rel (k + 4) u' v') v v1 v2) u v1 v2 := by
  obtain ⟨n, d, p, c, st, reg, cel, fo, ft, ff, fd, op, arg, stk, rfl, rfl, hn, hd, hp, hS, hP⟩ := I
  have hR : fs_R (nI n, nI d, nI p, c, st, reg, cel, fo, ft, ff, fd) (nI n, nI d, nI p, c, st, op, arg, stk, cel) := ⟨n, d, p, c, st, reg, cel, fo, ft, ff, fd, op, arg, stk, rfl, rfl, hn, hd, hp, hS, hP⟩
  unfold wpX_poke wpY_poke wpX_isCell
  rcases pk_ix v1 (n := 8) (by decide) with ha | ha | ⟨m, hm, rfl⟩
  · exact br_t ha (br_t rfl (br_t ha ⟨rfl, hR⟩))
  · have h0 : ¬ v1 < (0 : Int32) := fs_nl (c := 0) (by decide) (by decide) ha
    have h7 : ¬ v1 ≤ (7 : Int32) := fun z => absurd (fs_lo (b := 7) (by decide) ha) (Int32.not_lt.mpr z)
    exact br_f h0 (br_t ha (br_t rfl (br_f h0 (br_f h7 ⟨rfl, hR⟩))))
  · have h0 : ¬ nI m < (0 : Int32) := nI_pos (by omega)
    have h8 : ¬ (8 : Int32) ≤ nI m := nI_ge (b := 8) hm (by decide)
    have h7 : nI m ≤ (7 : Int32) := nI_le (b := 7) (by omega) (by decide)
    have hv : vp_in (nI m) 8 := vp_in_nI hm (by decide)
    refine br_f h0 (br_f h8 (br_f (by decide) ⟨hv, nm_e (br_f h0 (br_t h7 ⟨hv, nm_e ?_⟩))⟩))
    exact ⟨rfl, n, d, p, c, st, reg, _, fo, ft, ff, fd, op, arg, stk, rfl, rfl, hn, hd, hp, hS, hP⟩
theorem i_vc_start {k : Nat} {u : SX} {v : SY} (I : i_Rel k u v) (hk : k + 4 ≤ 2048) : wpX_start (fun u' => wpY_start (fun v' => i_Rel (k + 4) u' v') v) u := by
  obtain ⟨n, d, p, c, st, reg, cel, fo, ft, ff, fd, op, arg, stk, rfl, rfl, hn, hd, hp, hS, hP⟩ := I
  exact ⟨n, 0, 0, 0, 0, reg, cel, fo, ft, ff, fd, op, arg, stk, rfl, rfl, hn, by decide, by decide, fun _ h => absurd h (Nat.not_lt_zero _), hP⟩
theorem i_vc_depth {k : Nat} {u : SX} {v : SY} (I : i_Rel k u v) (hk : k + 4 ≤ 2048) : wpX_depth (fun r => wpY_depth (fun r' => r' = r ∧ i_Rel (k + 4) u v) v) u := by
  obtain ⟨n, d, p, c, st, reg, cel, fo, ft, ff, fd, op, arg, stk, rfl, rfl, hn, hd, hp, hS, hP⟩ := I
  exact ⟨rfl, n, d, p, c, st, reg, cel, fo, ft, ff, fd, op, arg, stk, rfl, rfl, hn, hd, hp, hS, hP⟩
theorem i_vc_place {k : Nat} {u : SX} {v : SY} (I : i_Rel k u v) (hk : k + 4 ≤ 2048) : wpX_place (fun r => wpY_place (fun r' => r' = r ∧ i_Rel (k + 4) u v) v) u := by
  obtain ⟨n, d, p, c, st, reg, cel, fo, ft, ff, fd, op, arg, stk, rfl, rfl, hn, hd, hp, hS, hP⟩ := I
  exact ⟨rfl, n, d, p, c, st, reg, cel, fo, ft, ff, fd, op, arg, stk, rfl, rfl, hn, hd, hp, hS, hP⟩
theorem i_vc_executed {k : Nat} {u : SX} {v : SY} (I : i_Rel k u v) (hk : k + 4 ≤ 2048) : wpX_executed (fun r => wpY_executed (fun r' => r' = r ∧ i_Rel (k + 4) u v) v) u := by
  obtain ⟨n, d, p, c, st, reg, cel, fo, ft, ff, fd, op, arg, stk, rfl, rfl, hn, hd, hp, hS, hP⟩ := I
  exact ⟨rfl, n, d, p, c, st, reg, cel, fo, ft, ff, fd, op, arg, stk, rfl, rfl, hn, hd, hp, hS, hP⟩
theorem fs_top {d i : Nat} (h : i < d) : nI d - 1 - nI i = nI (d - 1 - i) := by
  rw [show (1 : Int32) = nI 1 from rfl, pk_sub (by omega), pk_sub (by omega)]
theorem i_vc_st {k : Nat} {u : SX} {v : SY} (I : i_Rel k u v) (hk : k + 4 ≤ 2048) (v1 : Int32) : wpX_st (fun r => wpY_st (fun r' => r' = r ∧ i_Rel (k + 4) u v) v v1) u v1 := by
  obtain ⟨n, d, p, c, st, reg, cel, fo, ft, ff, fd, op, arg, stk, rfl, rfl, hn, hd, hp, hS, hP⟩ := I
  have hR : fs_R (nI n, nI d, nI p, c, st, reg, cel, fo, ft, ff, fd) (nI n, nI d, nI p, c, st, op, arg, stk, cel) := ⟨n, d, p, c, st, reg, cel, fo, ft, ff, fd, op, arg, stk, rfl, rfl, hn, hd, hp, hS, hP⟩
  unfold wpX_st wpY_st
  rcases pk_ix v1 (n := d) (by omega) with ha | ha | ⟨m, hm, rfl⟩
  · exact br_t ha (br_t ha ⟨rfl, hR⟩)
  · have h0 : ¬ v1 < (0 : Int32) := fs_nl (c := 0) (by omega) (by omega) ha
    have h1 : ¬ v1 < nI d := Int32.not_lt.mpr ha
    exact br_f h0 (br_f h1 (br_f h0 (br_t ha ⟨rfl, hR⟩)))
  · have h0 : ¬ nI m < (0 : Int32) := nI_pos (by omega)
    have h1 : nI m < nI d := nI_lt hm (by omega)
    have h2 : ¬ nI d ≤ nI m := nI_ge hm (by omega)
    have hv : vp_in (nI m) 8 := vp_in_nI (by omega) (by decide)
    refine br_f h0 (br_t h1 ?_)
    rw [fs_top hm]
    refine ⟨vp_in_nI (by omega) (by decide), br_f h0 (br_f h2 ⟨hv, ?_, hR⟩)⟩
    rw [nI_clamp (by omega), nI_clamp (by omega)]
    exact (hS m hm).symm
theorem i_vc_memory {k : Nat} {u : SX} {v : SY} (I : i_Rel k u v) (hk : k + 4 ≤ 2048) (v1 : Int32) : wpX_memory (fun r => wpY_memory (fun r' => r' = r ∧ i_Rel (k + 4) u v) v v1) u v1 := by
  obtain ⟨n, d, p, c, st, reg, cel, fo, ft, ff, fd, op, arg, stk, rfl, rfl, hn, hd, hp, hS, hP⟩ := I
  have hR : fs_R (nI n, nI d, nI p, c, st, reg, cel, fo, ft, ff, fd) (nI n, nI d, nI p, c, st, op, arg, stk, cel) := ⟨n, d, p, c, st, reg, cel, fo, ft, ff, fd, op, arg, stk, rfl, rfl, hn, hd, hp, hS, hP⟩
  unfold wpX_memory wpY_memory wpX_isCell
  rcases pk_ix v1 (n := 8) (by decide) with ha | ha | ⟨m, hm, rfl⟩
  · exact br_t ha (br_t rfl (br_t ha ⟨rfl, hR⟩))
  · have h0 : ¬ v1 < (0 : Int32) := fs_nl (c := 0) (by decide) (by decide) ha
    have h7 : (7 : Int32) < v1 := fs_lo (b := 7) (by decide) ha
    exact br_f h0 (br_t ha (br_t rfl (br_f h0 (br_t h7 ⟨rfl, hR⟩))))
  · have h0 : ¬ nI m < (0 : Int32) := nI_pos (by omega)
    have h8 : ¬ (8 : Int32) ≤ nI m := nI_ge (b := 8) hm (by decide)
    have h7 : ¬ (7 : Int32) < nI m := nI_nlt (a := 7) (by omega) (by decide)
    have hv : vp_in (nI m) 8 := vp_in_nI hm (by decide)
    exact br_f h0 (br_f h8 (br_f (by decide) ⟨hv, br_f h0 (br_f h7 ⟨hv, rfl, hR⟩)⟩))
end
