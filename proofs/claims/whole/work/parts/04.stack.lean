/-! the reference's stack: push and pop -/
def fs_psh (stk : Nat → Int32) (v : Int32) : Nat → Int32 := fun k => if k = 0 then v else if k ≤ 7 then stk (k - 1) else stk k
def fs_pp (stk : Nat → Int32) : Nat → Int32 := fun k => if k < 7 then stk (k + 1) else stk k
theorem fs_pul (post : SY → Prop) (v n d p c st : Int32) (op arg stk mem : Nat → Int32) (hp : post (n, d + 1, p, c, st, op, arg, fs_psh stk v, mem)) :
    ∀ (j : Nat) (s : Nat → Int32), j ≤ 7 → (∀ k, s k = if j < k ∧ k ≤ 7 then stk (k - 1) else stk k) → wY_push_3 post v n d p c st (j + 1) (nI j) op arg s mem := by
  intro j
  induction j with
  | zero =>
    intro s hj hs
    have e : upd s 0 v = fs_psh stk v := by
      funext k
      unfold upd fs_psh
      by_cases h0 : k = 0
      · rw [if_pos h0, if_pos h0]
      · rw [if_neg h0, if_neg h0, hs k]
        by_cases h7 : k ≤ 7
        · rw [if_pos ⟨by omega, h7⟩, if_pos h7]
        · rw [if_neg (fun z => h7 z.2), if_neg h7]
    refine br_t (by decide) ?_
    refine nm_r e ?_
    exact nm_e hp
  | succ j ih =>
    intro s hj hs
    have h0 : ¬ nI (j + 1) ≤ (0 : Int32) := nI_nle (by omega) (by omega)
    have e1 : nI (j + 1) - 1 = nI j := nI_pred j
    refine br_f h0 ?_
    rw [e1]
    refine ⟨vp_in_nI (by omega) (by decide), vp_in_nI (by omega) (by decide), ?_⟩
    refine nm_e (nm_r (pk_m1 j) ?_)
    refine ih _ (by omega) ?_
    intro k
    rw [nI_clamp (by omega), nI_clamp (by omega)]
    unfold upd
    by_cases hk : k = j + 1
    · subst hk
      rw [if_pos rfl, if_pos ⟨by omega, by omega⟩, hs j, if_neg (fun z => by omega)]
      rfl
    · rw [if_neg hk, hs k]
      by_cases h1 : j + 1 < k ∧ k ≤ 7
      · rw [if_pos h1, if_pos ⟨by omega, h1.2⟩]
      · rw [if_neg h1, if_neg (fun z => h1 ⟨by omega, z.2⟩)]
theorem fs_push (post : SY → Prop) (v n d p c st : Int32) (op arg stk mem : Nat → Int32) (hp : post (n, d + 1, p, c, st, op, arg, fs_psh stk v, mem)) :
    wpY_push post (n, d, p, c, st, op, arg, stk, mem) v :=
  ⟨8, fs_pul post v n d p c st op arg stk mem hp 7 stk (by decide) (fun k => by rw [if_neg (fun z => by omega)])⟩
theorem fs_pol (post : Int32 → SY → Prop) (x n d p c st : Int32) (op arg stk mem : Nat → Int32) (hp : post x (n, d - 1, p, c, st, op, arg, fs_pp stk, mem)) :
    ∀ (m i : Nat) (s : Nat → Int32), i + m = 7 → (∀ k, s k = if k < i then stk (k + 1) else stk k) → wY_pop_9 post x n d p c st (m + 1) (nI i) op arg s mem := by
  intro m
  induction m with
  | zero =>
    intro i s hi hs
    obtain rfl : i = 7 := by omega
    have e : s = fs_pp stk := funext hs
    refine br_t (by decide) (nm_e ?_)
    rw [e]
    exact hp
  | succ m ih =>
    intro i s hi hs
    have h7 : ¬ (7 : Int32) ≤ nI i := nI_ge (b := 7) (by omega) (by decide)
    refine br_f h7 ?_
    rw [nI_1 i]
    refine ⟨vp_in_nI (by omega) (by decide), vp_in_nI (by omega) (by decide), ?_⟩
    refine nm_e (nm_e ?_)
    refine ih (i + 1) _ (by omega) ?_
    intro k
    rw [nI_clamp (by omega), nI_clamp (by omega)]
    unfold upd
    by_cases hk : k = i
    · subst hk
      rw [if_pos rfl, if_pos (by omega), hs (k + 1), if_neg (by omega)]
    · rw [if_neg hk, hs k]
      by_cases h1 : k < i
      · rw [if_pos h1, if_pos (by omega)]
      · rw [if_neg h1, if_neg (by omega)]
theorem fs_pop (post : Int32 → SY → Prop) (n d p c st : Int32) (op arg stk mem : Nat → Int32) (hp : post (stk 0) (n, d - 1, p, c, st, op, arg, fs_pp stk, mem)) :
    wpY_pop post (n, d, p, c, st, op, arg, stk, mem) :=
  nm_e ⟨8, fs_pol post (stk 0) n d p c st op arg stk mem hp 7 0 stk rfl (fun k => by rw [if_neg (Nat.not_lt_zero _)])⟩
theorem fs_srpush {d : Nat} {reg stk : Nat → Int32} (h : fs_SR d reg stk) (hd : d < 8) (v : Int32) : fs_SR (d + 1) (upd reg d v) (fs_psh stk v) := by
  intro k hk
  unfold upd fs_psh
  by_cases h0 : k = 0
  · rw [if_pos (by omega), if_pos h0]
  · rw [if_neg (by omega), if_neg h0, if_pos (by omega), ← h (k - 1) (by omega)]
    exact congrArg reg (by omega)
theorem fs_srpop {d : Nat} {reg stk : Nat → Int32} (h : fs_SR d reg stk) (hd : d ≤ 8) : fs_SR (d - 1) reg (fs_pp stk) := by
  intro k hk
  unfold fs_pp
  rw [if_pos (by omega), ← h (k + 1) (by omega)]
  exact congrArg reg (by omega)
theorem fs_srupd {d t : Nat} {reg stk : Nat → Int32} (h : fs_SR d reg stk) (ht : t < d) (v : Int32) : fs_SR d (upd reg (d - 1 - t) v) (upd stk t v) := by
  intro k hk
  unfold upd
  by_cases h0 : k = t
  · rw [if_pos (by omega), if_pos h0]
  · rw [if_neg (by omega), if_neg h0]
    exact h k hk
