theorem fs_lo {b : Nat} {a : Int32} (hb : b + 1 < 2 ^ 31) (h : nI (b + 1) ≤ a) : nI b < a := by
  rw [Int32.le_iff_toInt_le, nI_toInt hb] at h
  rw [Int32.lt_iff_toInt_lt, nI_toInt (by omega)]
  omega
theorem fs_nl {b c : Nat} {a : Int32} (hb : b < 2 ^ 31) (hc : c ≤ b) (h : nI b ≤ a) : ¬ a < nI c := by
  rw [Int32.le_iff_toInt_le, nI_toInt hb] at h
  rw [Int32.lt_iff_toInt_lt, nI_toInt (by omega)]
  omega
theorem fs_l1 {a : Int32} (h : a < 0) : a < 1 := by
  rw [Int32.lt_iff_toInt_lt] at h ⊢
  rw [show (0 : Int32).toInt = 0 from by decide] at h
  rw [show (1 : Int32).toInt = 1 from by decide]
  omega
def fs_Is (o a b : Int32) : Prop := (∀ post : Int32 → Prop, post b → wpX_isInstruction post o a) ∧ (∀ (post : Int32 → Prop) (n d p c st : Int32) (op arg stk mem : Nat → Int32), post b → wpY_fits post (n, d, p, c, st, op, arg, stk, mem) o a)
theorem fs_is0 (a : Int32) : fs_Is (nI 0) a 1 := by
  refine ⟨fun post h => ?_, fun post n d p c st op arg stk mem h => ?_⟩ <;> repeat (first | exact h | refine br_t (by decide) ?_ | refine br_f (by decide) ?_)
theorem fs_is13 (a : Int32) : fs_Is (nI 13) a 1 := by
  refine ⟨fun post h => ?_, fun post n d p c st op arg stk mem h => ?_⟩ <;> repeat (first | exact h | refine br_t (by decide) ?_ | refine br_f (by decide) ?_)
theorem fs_is7 (a : Int32) : ∀ j, j < 14 → 1 ≤ j → j ≤ 7 → (fs_Is (nI j) a 1 ∧ ∃ m : Nat, m ≤ 7 ∧ a = nI m) ∨ fs_Is (nI j) a 0 := by
  rcases pk_ix a (n := 8) (by decide) with ha | ha | ⟨m, hm, rfl⟩
  · apply fs_14 <;> first
      | (intro h1 h2; exact absurd h1 (by decide))
      | (intro h1 h2; exact absurd h2 (by decide))
      | (intro h1 h2; right; refine ⟨fun post h => ?_, fun post n d p c st op arg stk mem h => ?_⟩ <;> repeat (first | exact h | refine br_t (by first | decide | assumption) ?_ | refine br_f (by first | decide | assumption) ?_))
  · have h1 : (8 : Int32) ≤ a := ha
    have h2 : (7 : Int32) < a := fs_lo (b := 7) (by decide) ha
    have h3 : ¬ a < (0 : Int32) := fs_nl (c := 0) (by decide) (by decide) ha
    apply fs_14 <;> first
      | (intro h1 h2; exact absurd h1 (by decide))
      | (intro h1 h2; exact absurd h2 (by decide))
      | (intro _ _; right; refine ⟨fun post h => ?_, fun post n d p c st op arg stk mem h => ?_⟩ <;> repeat (first | exact h | refine br_t (by first | decide | assumption) ?_ | refine br_f (by first | decide | assumption) ?_))
  · have h1 : ¬ (8 : Int32) ≤ nI m := nI_ge (b := 8) hm (by decide)
    have h2 : ¬ (7 : Int32) < nI m := nI_nlt (a := 7) (by omega) (by decide)
    have h3 : ¬ nI m < (0 : Int32) := nI_pos (by omega)
    apply fs_14 <;> first
      | (intro h1 h2; exact absurd h1 (by decide))
      | (intro h1 h2; exact absurd h2 (by decide))
      | (intro _ _; left; refine ⟨⟨fun post h => ?_, fun post n d p c st op arg stk mem h => ?_⟩, m, by omega, rfl⟩ <;> repeat (first | exact h | refine br_t (by first | decide | assumption) ?_ | refine br_f (by first | decide | assumption) ?_))
theorem fs_is9 (a : Int32) : ∀ j, j < 14 → 8 ≤ j → j ≤ 9 → (fs_Is (nI j) a 1 ∧ ∃ m : Nat, 1 ≤ m ∧ m ≤ 7 ∧ a = nI m) ∨ fs_Is (nI j) a 0 := by
  rcases pk_ix a (n := 8) (by decide) with ha | ha | ⟨m, hm, rfl⟩
  · have h4 := fs_l1 ha
    apply fs_14 <;> first
      | (intro h1 h2; exact absurd h1 (by decide))
      | (intro h1 h2; exact absurd h2 (by decide))
      | (intro h1 h2; right; refine ⟨fun post h => ?_, fun post n d p c st op arg stk mem h => ?_⟩ <;> repeat (first | exact h | refine br_t (by first | decide | assumption) ?_ | refine br_f (by first | decide | assumption) ?_))
  · have h1 : (8 : Int32) ≤ a := ha
    have h2 : (7 : Int32) < a := fs_lo (b := 7) (by decide) ha
    have h3 : ¬ a < (1 : Int32) := fs_nl (c := 1) (by decide) (by decide) ha
    apply fs_14 <;> first
      | (intro h1 h2; exact absurd h1 (by decide))
      | (intro h1 h2; exact absurd h2 (by decide))
      | (intro _ _; right; refine ⟨fun post h => ?_, fun post n d p c st op arg stk mem h => ?_⟩ <;> repeat (first | exact h | refine br_t (by first | decide | assumption) ?_ | refine br_f (by first | decide | assumption) ?_))
  · have h1 : ¬ (8 : Int32) ≤ nI m := nI_ge (b := 8) hm (by decide)
    have h2 : ¬ (7 : Int32) < nI m := nI_nlt (a := 7) (by omega) (by decide)
    by_cases h4 : 1 ≤ m
    · have h3 : ¬ nI m < (1 : Int32) := nI_nlt (b := 1) h4 (by omega)
      apply fs_14 <;> first
        | (intro h1 h2; exact absurd h1 (by decide))
        | (intro h1 h2; exact absurd h2 (by decide))
        | (intro _ _; left; refine ⟨⟨fun post h => ?_, fun post n d p c st op arg stk mem h => ?_⟩, m, h4, by omega, rfl⟩ <;> repeat (first | exact h | refine br_t (by first | decide | assumption) ?_ | refine br_f (by first | decide | assumption) ?_))
    · have h3 : nI m < (1 : Int32) := nI_lt (b := 1) (by omega) (by decide)
      apply fs_14 <;> first
        | (intro h1 h2; exact absurd h1 (by decide))
        | (intro h1 h2; exact absurd h2 (by decide))
        | (intro _ _; right; refine ⟨fun post h => ?_, fun post n d p c st op arg stk mem h => ?_⟩ <;> repeat (first | exact h | refine br_t (by first | decide | assumption) ?_ | refine br_f (by first | decide | assumption) ?_))
theorem fs_is12 (a : Int32) : ∀ j, j < 14 → 10 ≤ j → j ≤ 12 → (fs_Is (nI j) a 1 ∧ ∃ m : Nat, m ≤ 31 ∧ a = nI m) ∨ fs_Is (nI j) a 0 := by
  rcases pk_ix a (n := 32) (by decide) with ha | ha | ⟨m, hm, rfl⟩
  · apply fs_14 <;> first
      | (intro h1 h2; exact absurd h1 (by decide))
      | (intro h1 h2; exact absurd h2 (by decide))
      | (intro h1 h2; right; refine ⟨fun post h => ?_, fun post n d p c st op arg stk mem h => ?_⟩ <;> repeat (first | exact h | refine br_t (by first | decide | assumption) ?_ | refine br_f (by first | decide | assumption) ?_))
  · have h1 : (32 : Int32) ≤ a := ha
    have h2 : (31 : Int32) < a := fs_lo (b := 31) (by decide) ha
    have h3 : ¬ a < (0 : Int32) := fs_nl (c := 0) (by decide) (by decide) ha
    apply fs_14 <;> first
      | (intro h1 h2; exact absurd h1 (by decide))
      | (intro h1 h2; exact absurd h2 (by decide))
      | (intro _ _; right; refine ⟨fun post h => ?_, fun post n d p c st op arg stk mem h => ?_⟩ <;> repeat (first | exact h | refine br_t (by first | decide | assumption) ?_ | refine br_f (by first | decide | assumption) ?_))
  · have h1 : ¬ (32 : Int32) ≤ nI m := nI_ge (b := 32) hm (by decide)
    have h2 : ¬ (31 : Int32) < nI m := nI_nlt (a := 31) (by omega) (by decide)
    have h3 : ¬ nI m < (0 : Int32) := nI_pos (by omega)
    apply fs_14 <;> first
      | (intro h1 h2; exact absurd h1 (by decide))
      | (intro h1 h2; exact absurd h2 (by decide))
      | (intro _ _; left; refine ⟨⟨fun post h => ?_, fun post n d p c st op arg stk mem h => ?_⟩, m, by omega, rfl⟩ <;> repeat (first | exact h | refine br_t (by first | decide | assumption) ?_ | refine br_f (by first | decide | assumption) ?_))
theorem fs_is (o a : Int32) : (∃ j : Nat, o = nI j ∧ fs_ok j a ∧ fs_Is o a 1) ∨ fs_Is o a 0 := by
  by_cases h0 : o < 0
  · exact Or.inr ⟨fun post h => br_t h0 h, fun post n d p c st op arg stk mem h => br_t h0 h⟩
  by_cases h13 : o ≤ 13
  · obtain ⟨j, hj, rfl⟩ := nI_of2 (M := 13) (n := 13) (by decide) h0 h13
    by_cases j0 : j = 0
    · subst j0; exact Or.inl ⟨0, rfl, Or.inl rfl, fs_is0 a⟩
    by_cases j13 : j = 13
    · subst j13; exact Or.inl ⟨13, rfl, Or.inr (Or.inl rfl), fs_is13 a⟩
    by_cases j7 : j ≤ 7
    · rcases fs_is7 a j (by omega) (by omega) j7 with ⟨h, hm⟩ | h
      · exact Or.inl ⟨j, rfl, Or.inr (Or.inr (Or.inl ⟨by omega, j7, hm⟩)), h⟩
      · exact Or.inr h
    by_cases j9 : j ≤ 9
    · rcases fs_is9 a j (by omega) (by omega) j9 with ⟨h, hm⟩ | h
      · exact Or.inl ⟨j, rfl, Or.inr (Or.inr (Or.inr (Or.inl ⟨by omega, j9, hm⟩))), h⟩
      · exact Or.inr h
    · rcases fs_is12 a j (by omega) (by omega) (by omega) with ⟨h, hm⟩ | h
      · exact Or.inl ⟨j, rfl, Or.inr (Or.inr (Or.inr (Or.inr ⟨by omega, by omega, hm⟩))), h⟩
      · exact Or.inr h
  · exact Or.inr ⟨fun post h => br_f h0 (br_f h13 h), fun post n d p c st op arg stk mem h => br_f h0 (br_f h13 h)⟩
theorem i_vc_emit {k : Nat} {u : SX} {v : SY} (I : i_Rel k u v) (hk : k + 4 ≤ 2048) (v1 : Int32) (v2 : Int32) : wpX_emit (fun r u' => wpY_emit (fun r' v' => r' = r ∧ i_Rel (k + 4) u' v') v v1 v2) u v1 v2 := by
  obtain ⟨n, d, p, c, st, reg, cel, fo, ft, ff, fd, op, arg, stk, rfl, rfl, hn, hd, hp, hS, hP⟩ := I
  have hR : fs_R (nI n, nI d, nI p, c, st, reg, cel, fo, ft, ff, fd) (nI n, nI d, nI p, c, st, op, arg, stk, cel) := ⟨n, d, p, c, st, reg, cel, fo, ft, ff, fd, op, arg, stk, rfl, rfl, hn, hd, hp, hS, hP⟩
  by_cases h32 : n < 32
  · have hx : nI n < (32 : Int32) := nI_lt (b := 32) h32 (by decide)
    have hy : ¬ nI n = (32 : Int32) := fun z => absurd ((nI_eq (b := 32) (by omega) (by decide)).mp z) (by omega)
    have hi : vp_in (nI n) 32 := vp_in_nI h32 (by decide)
    have hc : (nI n).toNatClampNeg = n := nI_clamp (by omega)
    unfold wpX_emit
    refine br_t hx ?_
    rcases fs_is v1 v2 with ⟨j, rfl, hok, hI⟩ | hI
    · refine hI.1 _ ?_
      refine br_f (by decide) ?_
      refine fs_tr _ (nI n) (nI d) (nI p) c st reg cel fo ft ff fd n h32 j (fs_ok14 hok) v2 ?_
      intro fo' ft' ff' fd' hN hF
      refine nm_r (nI_1 n) ?_
      unfold wpY_emit
      refine br_f hy ?_
      refine hI.2 _ _ _ _ _ _ _ _ _ _ ?_
      refine br_f (by decide) ?_
      refine ⟨hi, nm_r (e' := upd op n (nI j)) (by rw [hc]) ?_⟩
      refine ⟨hi, nm_r (e' := upd arg n v2) (by rw [hc]) ?_⟩
      refine nm_r (nI_1 n) ?_
      exact ⟨rfl, n + 1, d, p, c, st, reg, cel, fo', ft', ff', fd', _, _, stk, rfl, rfl, h32, hd, hp, hS, fs_put hP hok hN hF (fun q h1 h2 => by omega)⟩
    · refine hI.1 _ ?_
      refine br_t rfl ?_
      unfold wpY_emit
      refine br_f hy ?_
      refine hI.2 _ _ _ _ _ _ _ _ _ _ ?_
      exact br_t rfl ⟨rfl, hR⟩
  · obtain rfl : n = 32 := by omega
    exact br_f (by decide) (br_t rfl ⟨rfl, hR⟩)
theorem i_vc_patch {k : Nat} {u : SX} {v : SY} (I : i_Rel k u v) (hk : k + 4 ≤ 2048) (v1 : Int32) (v2 : Int32) (v3 : Int32) : wpX_patch (fun r u' => wpY_patch (fun r' v' => r' = r ∧ i_Rel (k + 4) u' v') v v1 v2 v3) u v1 v2 v3 := by
  obtain ⟨n, d, p, c, st, reg, cel, fo, ft, ff, fd, op, arg, stk, rfl, rfl, hn, hd, hp, hS, hP⟩ := I
  have hR : fs_R (nI n, nI d, nI p, c, st, reg, cel, fo, ft, ff, fd) (nI n, nI d, nI p, c, st, op, arg, stk, cel) := ⟨n, d, p, c, st, reg, cel, fo, ft, ff, fd, op, arg, stk, rfl, rfl, hn, hd, hp, hS, hP⟩
  unfold wpX_patch wpY_patch
  by_cases h0 : v1 < 0
  · exact br_t h0 (br_t h0 ⟨rfl, hR⟩)
  obtain ⟨i, hi, rfl⟩ := nI_of h0
  by_cases hin : n ≤ i
  · have hx : nI n ≤ nI i := nI_le hin hi
    exact br_f h0 (br_t hx (br_f h0 (br_t hx ⟨rfl, hR⟩)))
  · have hx : ¬ nI n ≤ nI i := nI_ge (by omega) (by omega)
    have hv : vp_in (nI i) 32 := vp_in_nI (by omega) (by decide)
    have hc : (nI i).toNatClampNeg = i := nI_clamp hi
    refine br_f h0 (br_f hx ?_)
    rcases fs_is v2 v3 with ⟨j, rfl, hok, hI⟩ | hI
    · refine hI.1 _ ?_
      refine br_f (by decide) ?_
      refine fs_tr _ (nI n) (nI d) (nI p) c st reg cel fo ft ff fd i (by omega) j (fs_ok14 hok) v3 ?_
      intro fo' ft' ff' fd' hN hF
      refine br_f h0 (br_f hx ?_)
      refine hI.2 _ _ _ _ _ _ _ _ _ _ ?_
      refine br_f (by decide) ?_
      refine ⟨hv, nm_r (e' := upd op i (nI j)) (by rw [hc]) ?_⟩
      refine ⟨hv, nm_r (e' := upd arg i v3) (by rw [hc]) ?_⟩
      exact ⟨rfl, n, d, p, c, st, reg, cel, fo', ft', ff', fd', _, _, stk, rfl, rfl, hn, hd, hp, hS, fs_put hP hok hN hF (fun q h1 h2 => h1)⟩
    · refine hI.1 _ ?_
      refine br_t rfl ?_
      refine br_f h0 (br_f hx ?_)
      refine hI.2 _ _ _ _ _ _ _ _ _ _ ?_
      exact br_t rfl ⟨rfl, hR⟩
theorem i_vc_poke {k : Nat} {u : SX} {v : SY} (I : i_Rel k u v) (hk : k + 4 ≤ 2048) (v1 : Int32) (v2 : Int32) : wpX_poke (fun r u' => wpY_poke (fun r' v' => r' = r ∧ i_Rel (k + 4) u' v') v v1 v2) u v1 v2 := by
  obtain ⟨n, d, p, c, st, reg, cel, fo, ft, ff, fd, op, arg, stk, rfl, rfl, hn, hd, hp, hS, hP⟩ := I
  have hR : fs_R (nI n, nI d, nI p, c, st, reg, cel, fo, ft, ff, fd) (nI n, nI d, nI p, c, st, op, arg, stk, cel) := ⟨n, d, p, c, st, reg, cel, fo, ft, ff, fd, op, arg, stk, rfl, rfl, hn, hd, hp, hS, hP⟩
  unfold wpX_poke wpY_poke wpX_isCell
  rcases pk_ix v1 (n := 8) (by decide) with ha | ha | ⟨m, hm, rfl⟩
  · exact br_t ha (br_t rfl (br_t ha ⟨rfl, hR⟩))
  · have h0 : ¬ v1 < (0 : Int32) := fs_nl (c := 0) (by decide) (by decide) ha
    have h7 : ¬ v1 ≤ (7 : Int32) := fun z => absurd (fs_lo (b := 7) (by decide) ha) (Int32.not_lt.mpr z)
    exact br_f h0 (br_t ha (br_t rfl (br_f h0 (br_f h7 ⟨rfl, hR⟩))))
  · have h0 : ¬ nI m < (0 : Int32) := nI_pos (by omega)
    have h8 : ¬ (8 : Int32) ≤ nI m := nI_ge (b := 8) hm (by decide)
    have h7 : nI m ≤ (7 : Int32) := nI_le (b := 7) (by omega) (by decide)
    have hv : vp_in (nI m) 8 := vp_in_nI hm (by decide)
    refine br_f h0 (br_f h8 (br_f (by decide) ⟨hv, nm_e (br_f h0 (br_t h7 ⟨hv, nm_e ?_⟩))⟩))
    exact ⟨rfl, n, d, p, c, st, reg, _, fo, ft, ff, fd, op, arg, stk, rfl, rfl, hn, hd, hp, hS, hP⟩
theorem i_vc_start {k : Nat} {u : SX} {v : SY} (I : i_Rel k u v) (hk : k + 4 ≤ 2048) : wpX_start (fun u' => wpY_start (fun v' => i_Rel (k + 4) u' v') v) u := by
  obtain ⟨n, d, p, c, st, reg, cel, fo, ft, ff, fd, op, arg, stk, rfl, rfl, hn, hd, hp, hS, hP⟩ := I
  exact ⟨n, 0, 0, 0, 0, reg, cel, fo, ft, ff, fd, op, arg, stk, rfl, rfl, hn, by decide, by decide, fun _ h => absurd h (Nat.not_lt_zero _), hP⟩
theorem i_vc_depth {k : Nat} {u : SX} {v : SY} (I : i_Rel k u v) (hk : k + 4 ≤ 2048) : wpX_depth (fun r => wpY_depth (fun r' => r' = r ∧ i_Rel (k + 4) u v) v) u := by
  obtain ⟨n, d, p, c, st, reg, cel, fo, ft, ff, fd, op, arg, stk, rfl, rfl, hn, hd, hp, hS, hP⟩ := I
  exact ⟨rfl, n, d, p, c, st, reg, cel, fo, ft, ff, fd, op, arg, stk, rfl, rfl, hn, hd, hp, hS, hP⟩
theorem i_vc_place {k : Nat} {u : SX} {v : SY} (I : i_Rel k u v) (hk : k + 4 ≤ 2048) : wpX_place (fun r => wpY_place (fun r' => r' = r ∧ i_Rel (k + 4) u v) v) u := by
  obtain ⟨n, d, p, c, st, reg, cel, fo, ft, ff, fd, op, arg, stk, rfl, rfl, hn, hd, hp, hS, hP⟩ := I
  exact ⟨rfl, n, d, p, c, st, reg, cel, fo, ft, ff, fd, op, arg, stk, rfl, rfl, hn, hd, hp, hS, hP⟩
theorem i_vc_executed {k : Nat} {u : SX} {v : SY} (I : i_Rel k u v) (hk : k + 4 ≤ 2048) : wpX_executed (fun r => wpY_executed (fun r' => r' = r ∧ i_Rel (k + 4) u v) v) u := by
  obtain ⟨n, d, p, c, st, reg, cel, fo, ft, ff, fd, op, arg, stk, rfl, rfl, hn, hd, hp, hS, hP⟩ := I
  exact ⟨rfl, n, d, p, c, st, reg, cel, fo, ft, ff, fd, op, arg, stk, rfl, rfl, hn, hd, hp, hS, hP⟩
theorem fs_top {d i : Nat} (h : i < d) : nI d - 1 - nI i = nI (d - 1 - i) := by
  rw [show (1 : Int32) = nI 1 from rfl, pk_sub (by omega), pk_sub (by omega)]
theorem i_vc_st {k : Nat} {u : SX} {v : SY} (I : i_Rel k u v) (hk : k + 4 ≤ 2048) (v1 : Int32) : wpX_st (fun r => wpY_st (fun r' => r' = r ∧ i_Rel (k + 4) u v) v v1) u v1 := by
  obtain ⟨n, d, p, c, st, reg, cel, fo, ft, ff, fd, op, arg, stk, rfl, rfl, hn, hd, hp, hS, hP⟩ := I
  have hR : fs_R (nI n, nI d, nI p, c, st, reg, cel, fo, ft, ff, fd) (nI n, nI d, nI p, c, st, op, arg, stk, cel) := ⟨n, d, p, c, st, reg, cel, fo, ft, ff, fd, op, arg, stk, rfl, rfl, hn, hd, hp, hS, hP⟩
  unfold wpX_st wpY_st
  rcases pk_ix v1 (n := d) (by omega) with ha | ha | ⟨m, hm, rfl⟩
  · exact br_t ha (br_t ha ⟨rfl, hR⟩)
  · have h0 : ¬ v1 < (0 : Int32) := fs_nl (c := 0) (by omega) (by omega) ha
    have h1 : ¬ v1 < nI d := Int32.not_lt.mpr ha
    exact br_f h0 (br_f h1 (br_f h0 (br_t ha ⟨rfl, hR⟩)))
  · have h0 : ¬ nI m < (0 : Int32) := nI_pos (by omega)
    have h1 : nI m < nI d := nI_lt hm (by omega)
    have h2 : ¬ nI d ≤ nI m := nI_ge hm (by omega)
    have hv : vp_in (nI m) 8 := vp_in_nI (by omega) (by decide)
    refine br_f h0 (br_t h1 ?_)
    rw [fs_top hm]
    refine ⟨vp_in_nI (by omega) (by decide), br_f h0 (br_f h2 ⟨hv, ?_, hR⟩)⟩
    rw [nI_clamp (by omega), nI_clamp (by omega)]
    exact (hS m hm).symm
theorem i_vc_memory {k : Nat} {u : SX} {v : SY} (I : i_Rel k u v) (hk : k + 4 ≤ 2048) (v1 : Int32) : wpX_memory (fun r => wpY_memory (fun r' => r' = r ∧ i_Rel (k + 4) u v) v v1) u v1 := by
  obtain ⟨n, d, p, c, st, reg, cel, fo, ft, ff, fd, op, arg, stk, rfl, rfl, hn, hd, hp, hS, hP⟩ := I
  have hR : fs_R (nI n, nI d, nI p, c, st, reg, cel, fo, ft, ff, fd) (nI n, nI d, nI p, c, st, op, arg, stk, cel) := ⟨n, d, p, c, st, reg, cel, fo, ft, ff, fd, op, arg, stk, rfl, rfl, hn, hd, hp, hS, hP⟩
  unfold wpX_memory wpY_memory wpX_isCell
  rcases pk_ix v1 (n := 8) (by decide) with ha | ha | ⟨m, hm, rfl⟩
  · exact br_t ha (br_t rfl (br_t ha ⟨rfl, hR⟩))
  · have h0 : ¬ v1 < (0 : Int32) := fs_nl (c := 0) (by decide) (by decide) ha
    have h7 : (7 : Int32) < v1 := fs_lo (b := 7) (by decide) ha
    exact br_f h0 (br_t ha (br_t rfl (br_f h0 (br_t h7 ⟨rfl, hR⟩))))
  · have h0 : ¬ nI m < (0 : Int32) := nI_pos (by omega)
    have h8 : ¬ (8 : Int32) ≤ nI m := nI_ge (b := 8) hm (by decide)
    have h7 : ¬ (7 : Int32) < nI m := nI_nlt (a := 7) (by omega) (by decide)
    have hv : vp_in (nI m) 8 := vp_in_nI hm (by decide)
    exact br_f h0 (br_f h8 (br_f (by decide) ⟨hv, br_f h0 (br_f h7 ⟨hv, rfl, hR⟩)⟩))
