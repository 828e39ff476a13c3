theorem fs_xgr : ∀ j, j < 14 → ∀ post : Int32 → Prop, post (fs_gr j) → wpX_growth post (nI j) := by
  apply fs_14 <;> (intro post h; unfold wpX_growth; repeat (first | exact h | refine br_t (by decide) ?_ | refine br_f (by decide) ?_))
theorem fs_xvn (a : Int32) : ∀ j, j < 14 → ∀ post : Int32 → Prop, post (fs_vn j a) → wpX_valuesNeeded post (nI j) a := by
  apply fs_14 <;> (intro post h; unfold wpX_valuesNeeded; repeat (first | exact h | refine br_t (by decide) ?_ | refine br_f (by decide) ?_))
theorem fs_xfo : ∀ j, j < 14 → ∀ post : Int32 → Prop, post (fs_fo j) → wpX_flatOperation post (nI j) := by
  apply fs_14 <;> (intro post h; unfold wpX_flatOperation; repeat (first | exact h | refine br_t (by decide) ?_ | refine br_f (by decide) ?_))
theorem fs_xto (d a : Int32) : ∀ j, j < 14 → ∀ post : Int32 → Prop, post (fs_to d j a) → wpX_flatTarget post d (nI j) a := by
  apply fs_14 <;> (intro post h; unfold wpX_flatTarget; repeat (first | exact h | refine br_t (by decide) ?_ | refine br_f (by decide) ?_))
theorem fs_xfr (d a : Int32) : ∀ j, j < 14 → ∀ post : Int32 → Prop, post (fs_fr d j a) → wpX_flatSource post d (nI j) a := by
  apply fs_14 <;> (intro post h; unfold wpX_flatSource; repeat (first | exact h | refine br_t (by decide) ?_ | refine br_f (by decide) ?_))
theorem fs_td (post : SX → Prop) (n d p c st : Int32) (reg cel fo ft ff fd : Nat → Int32) (s : Nat) (hs : s < 288) (e : Int32) (j : Nat) (hj : j < 14) (a : Int32)
    (hp : ∀ fo' ft' ff' fd' : Nat → Int32, fs_SL fo' ft' ff' fd' s e j a → (∀ q, q ≠ s → fo' q = fo q ∧ ft' q = ft q ∧ ff' q = ff q ∧ fd' q = fd q) → post (n, d, p, c, st, reg, cel, fo', ft', ff', fd')) :
    wpX_translateForDepth post (n, d, p, c, st, reg, cel, fo, ft, ff, fd) (nI s) e (nI j) a := by
  have hi : vp_in (nI s) 288 := vp_in_nI hs (by decide)
  have hc : (nI s).toNatClampNeg = s := nI_clamp (by omega)
  have hz : (e < fs_vn j a ∨ ¬ e + fs_gr j ≤ 8) → post (n, d, p, c, st, reg, cel, upd fo s 0, ft, ff, fd) := fun h =>
    hp _ _ _ _ ⟨fun _ => pk_us, fun h1 h2 => h.elim (fun h3 => absurd h3 h1) (fun h3 => absurd h2 h3)⟩ (fun q hq => ⟨pk_un hq, rfl, rfl, rfl⟩)
  unfold wpX_translateForDepth
  refine fs_xgr j hj _ ?_
  refine nm_e ?_
  refine fs_xvn a j hj _ ?_
  refine br_c (fun h1 => ⟨hi, nm_r (by rw [hc]) (hz (Or.inl h1))⟩) (fun h1 => ?_)
  refine br_c (fun h2 => ?_) (fun h2 => ⟨hi, nm_r (by rw [hc]) (hz (Or.inr h2))⟩)
  refine fs_xfo j hj _ ?_
  refine ⟨hi, nm_r (e' := upd fo s (fs_fo j)) (by rw [hc]) ?_⟩
  refine fs_xto e a j hj _ ?_
  refine ⟨hi, nm_r (e' := upd ft s (fs_to e j a)) (by rw [hc]) ?_⟩
  refine fs_xfr e a j hj _ ?_
  refine ⟨hi, nm_r (e' := upd ff s (fs_fr e j a)) (by rw [hc]) ?_⟩
  refine ⟨hi, nm_r (e' := upd fd s (e + fs_gr j)) (by rw [hc]) ?_⟩
  exact hp _ _ _ _ ⟨fun h => h.elim (fun h3 => absurd h3 h1) (fun h3 => absurd h2 h3), fun _ _ => ⟨pk_us, pk_us, pk_us, pk_us⟩⟩ (fun q hq => ⟨pk_un hq, pk_un hq, pk_un hq, pk_un hq⟩)
theorem fs_tl (post : SX → Prop) (n d p c st : Int32) (reg cel fo ft ff fd : Nat → Int32) (i : Nat) (hi : i < 32) (j : Nat) (hj : j < 14) (a : Int32)
    (hp : ∀ fo' ft' ff' fd' : Nat → Int32, (∀ e : Nat, e < 9 → fs_SL fo' ft' ff' fd' (i * 9 + e) (nI e) j a) → (∀ q, (q < i * 9 ∨ i * 9 + 9 ≤ q) → fo' q = fo q ∧ ft' q = ft q ∧ ff' q = ff q ∧ fd' q = fd q) → post (n, d, p, c, st, reg, cel, fo', ft', ff', fd')) :
    ∀ (m k : Nat) (go gt gf gd : Nat → Int32), k + m = 9 → (∀ e : Nat, e < k → fs_SL go gt gf gd (i * 9 + e) (nI e) j a) → (∀ q, (q < i * 9 ∨ i * 9 + 9 ≤ q) → go q = fo q ∧ gt q = ft q ∧ gf q = ff q ∧ gd q = fd q) →
      wX_translate_3 post (nI i) (nI j) a (m + 1) (nI k) n d p c st reg cel go gt gf gd := by
  intro m
  induction m with
  | zero =>
    intro k go gt gf gd hk hS hF
    have h9 : (9 : Int32) ≤ nI k := nI_le (a := 9) (by omega) (by omega)
    refine br_t h9 (hp go gt gf gd (fun e he => hS e (by omega)) hF)
  | succ m ih =>
    intro k go gt gf gd hk hS hF
    have h9 : ¬ (9 : Int32) ≤ nI k := nI_ge (b := 9) (by omega) (by decide)
    refine br_f h9 ?_
    have hs : nI i * 9 + nI k = nI (i * 9 + k) := by
      rw [show (9 : Int32) = nI 9 from rfl, pk_mul, nI_add]
    rw [hs]
    refine fs_td _ n d p c st reg cel go gt gf gd (i * 9 + k) (by omega) (nI k) j hj a ?_
    intro fo' ft' ff' fd' hN hQ
    refine nm_r (nI_1 k) ?_
    refine ih (k + 1) fo' ft' ff' fd' (by omega) ?_ ?_
    · intro e he
      by_cases hek : e = k
      · rw [hek]; exact hN
      · have hq := hQ (i * 9 + e) (by omega)
        have ho := hS e (by omega)
        unfold fs_SL at ho ⊢
        rw [hq.1, hq.2.1, hq.2.2.1, hq.2.2.2]
        exact ho
    · intro q hq
      have h1 := hQ q (by omega)
      have h2 := hF q hq
      exact ⟨h1.1.trans h2.1, h1.2.1.trans h2.2.1, h1.2.2.1.trans h2.2.2.1, h1.2.2.2.trans h2.2.2.2⟩
theorem fs_tr (post : SX → Prop) (n d p c st : Int32) (reg cel fo ft ff fd : Nat → Int32) (i : Nat) (hi : i < 32) (j : Nat) (hj : j < 14) (a : Int32)
    (hp : ∀ fo' ft' ff' fd' : Nat → Int32, (∀ e : Nat, e < 9 → fs_SL fo' ft' ff' fd' (i * 9 + e) (nI e) j a) → (∀ q, (q < i * 9 ∨ i * 9 + 9 ≤ q) → fo' q = fo q ∧ ft' q = ft q ∧ ff' q = ff q ∧ fd' q = fd q) → post (n, d, p, c, st, reg, cel, fo', ft', ff', fd')) :
    wpX_translate post (n, d, p, c, st, reg, cel, fo, ft, ff, fd) (nI i) (nI j) a :=
  ⟨10, fs_tl post n d p c st reg cel fo ft ff fd i hi j hj a hp 9 0 fo ft ff fd rfl (fun e he => absurd he (Nat.not_lt_zero _)) (fun q _ => ⟨rfl, rfl, rfl, rfl⟩)⟩
/-- one more, or another, instruction at i -/
theorem fs_put {n n' i j : Nat} {a : Int32} {op arg fo ft ff fd fo' ft' ff' fd' : Nat → Int32} (hP : fs_PR n op arg fo ft ff fd) (hok : fs_ok j a)
    (hS : ∀ e : Nat, e < 9 → fs_SL fo' ft' ff' fd' (i * 9 + e) (nI e) j a) (hF : ∀ q, (q < i * 9 ∨ i * 9 + 9 ≤ q) → fo' q = fo q ∧ ft' q = ft q ∧ ff' q = ff q ∧ fd' q = fd q)
    (hn : ∀ q, q < n' → q ≠ i → q < n) : fs_PR n' (upd op i (nI j)) (upd arg i a) fo' ft' ff' fd' := by
  intro q hq
  by_cases hqi : q = i
  · subst hqi
    refine ⟨j, pk_us, ?_, ?_⟩
    · rw [pk_us]; exact hok
    · rw [pk_us]; exact hS
  · obtain ⟨j', h1, h2, h3⟩ := hP q (hn q hq hqi)
    refine ⟨j', (pk_un hqi).trans h1, ?_, ?_⟩
    · rw [pk_un hqi]; exact h2
    · rw [pk_un hqi]
      intro e he
      have hk := hF (q * 9 + e) (by omega)
      have ho := h3 e he
      unfold fs_SL at ho ⊢
      rw [hk.1, hk.2.1, hk.2.2.1, hk.2.2.2]
      exact ho
