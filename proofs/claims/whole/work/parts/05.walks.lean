/-! the class: one flat instruction -/
theorem fs_cp1 (Q : SX → Prop) (n d p c st : Int32) (reg cel fo ft ff fd : Nat → Int32) {t : Nat} (ht : t < 8) (f : Int32) (h : Q (n, d, p, c, st, upd reg t f, cel, fo, ft, ff, fd)) : wpX_compute Q (n, d, p, c, st, reg, cel, fo, ft, ff, fd) 1 (nI t) f := by
  have vt : vp_in (nI t) 8 := vp_in_nI ht (by decide)
  have ct : (nI t).toNatClampNeg = t := nI_clamp (by omega)
  unfold wpX_compute
  repeat (first | refine br_t (by decide) ?_ | refine br_f (by decide) ?_)
  exact ⟨vt, nm_r (by rw [ct]) h⟩
theorem fs_cp2 (Q : SX → Prop) (n d p c st : Int32) (reg cel fo ft ff fd : Nat → Int32) {t f : Nat} (ht : t < 8) (hf : f < 8) (h : Q (n, d, p, c, st, upd reg t (reg f), cel, fo, ft, ff, fd)) : wpX_compute Q (n, d, p, c, st, reg, cel, fo, ft, ff, fd) 2 (nI t) (nI f) := by
  have vt : vp_in (nI t) 8 := vp_in_nI ht (by decide)
  have ct : (nI t).toNatClampNeg = t := nI_clamp (by omega)
  have vf : vp_in (nI f) 8 := vp_in_nI hf (by decide)
  have cf : (nI f).toNatClampNeg = f := nI_clamp (by omega)
  unfold wpX_compute
  repeat (first | refine br_t (by decide) ?_ | refine br_f (by decide) ?_)
  exact ⟨vf, vt, nm_r (by rw [ct, cf]) h⟩
theorem fs_cp3 (Q : SX → Prop) (n d p c st : Int32) (reg cel fo ft ff fd : Nat → Int32) {t f : Nat} (ht : t < 8) (hf : f < 8) (h : Q (n, d, p, c, st, upd reg t (cel f), cel, fo, ft, ff, fd)) : wpX_compute Q (n, d, p, c, st, reg, cel, fo, ft, ff, fd) 3 (nI t) (nI f) := by
  have vt : vp_in (nI t) 8 := vp_in_nI ht (by decide)
  have ct : (nI t).toNatClampNeg = t := nI_clamp (by omega)
  have vf : vp_in (nI f) 8 := vp_in_nI hf (by decide)
  have cf : (nI f).toNatClampNeg = f := nI_clamp (by omega)
  unfold wpX_compute
  repeat (first | refine br_t (by decide) ?_ | refine br_f (by decide) ?_)
  exact ⟨vf, vt, nm_r (by rw [ct, cf]) h⟩
theorem fs_cp4 (Q : SX → Prop) (n d p c st : Int32) (reg cel fo ft ff fd : Nat → Int32) {t f : Nat} (ht : t < 8) (hf : f < 8) (h : Q (n, d, p, c, st, reg, upd cel t (reg f), fo, ft, ff, fd)) : wpX_compute Q (n, d, p, c, st, reg, cel, fo, ft, ff, fd) 4 (nI t) (nI f) := by
  have vt : vp_in (nI t) 8 := vp_in_nI ht (by decide)
  have ct : (nI t).toNatClampNeg = t := nI_clamp (by omega)
  have vf : vp_in (nI f) 8 := vp_in_nI hf (by decide)
  have cf : (nI f).toNatClampNeg = f := nI_clamp (by omega)
  unfold wpX_compute
  repeat (first | refine br_t (by decide) ?_ | refine br_f (by decide) ?_)
  exact ⟨vf, vt, nm_r (by rw [ct, cf]) h⟩
theorem fs_cp5 (Q : SX → Prop) (n d p c st : Int32) (reg cel fo ft ff fd : Nat → Int32) {t f : Nat} (ht : t < 8) (hf : f < 8) (h : Q (n, d, p, c, st, upd (upd reg t (reg f)) f (reg t), cel, fo, ft, ff, fd)) : wpX_compute Q (n, d, p, c, st, reg, cel, fo, ft, ff, fd) 5 (nI t) (nI f) := by
  have vt : vp_in (nI t) 8 := vp_in_nI ht (by decide)
  have ct : (nI t).toNatClampNeg = t := nI_clamp (by omega)
  have vf : vp_in (nI f) 8 := vp_in_nI hf (by decide)
  have cf : (nI f).toNatClampNeg = f := nI_clamp (by omega)
  unfold wpX_compute
  repeat (first | refine br_t (by decide) ?_ | refine br_f (by decide) ?_)
  unfold wpX_swap
  refine ⟨vt, nm_r (e' := reg t) (by rw [ct]) ⟨vf, vt, nm_r (e' := upd reg t (reg f)) (by rw [ct, cf]) ⟨vf, nm_r (e' := upd (upd reg t (reg f)) f (reg t)) (by rw [cf]) ?_⟩⟩⟩
  exact h
theorem fs_cp6 (Q : SX → Prop) (n d p c st : Int32) (reg cel fo ft ff fd : Nat → Int32) {t f : Nat} (ht : t < 8) (hf : f < 8) (h : Q (n, d, p, c, st, upd reg t (reg t + reg f), cel, fo, ft, ff, fd)) : wpX_compute Q (n, d, p, c, st, reg, cel, fo, ft, ff, fd) 6 (nI t) (nI f) := by
  have vt : vp_in (nI t) 8 := vp_in_nI ht (by decide)
  have ct : (nI t).toNatClampNeg = t := nI_clamp (by omega)
  have vf : vp_in (nI f) 8 := vp_in_nI hf (by decide)
  have cf : (nI f).toNatClampNeg = f := nI_clamp (by omega)
  unfold wpX_compute
  repeat (first | refine br_t (by decide) ?_ | refine br_f (by decide) ?_)
  exact ⟨vt, vf, vt, nm_r (by rw [ct, cf]) h⟩
theorem fs_cp7 (Q : SX → Prop) (n d p c st : Int32) (reg cel fo ft ff fd : Nat → Int32) {t f : Nat} (ht : t < 8) (hf : f < 8) (h : Q (n, d, p, c, st, upd reg t (reg t - reg f), cel, fo, ft, ff, fd)) : wpX_compute Q (n, d, p, c, st, reg, cel, fo, ft, ff, fd) 7 (nI t) (nI f) := by
  have vt : vp_in (nI t) 8 := vp_in_nI ht (by decide)
  have ct : (nI t).toNatClampNeg = t := nI_clamp (by omega)
  have vf : vp_in (nI f) 8 := vp_in_nI hf (by decide)
  have cf : (nI f).toNatClampNeg = f := nI_clamp (by omega)
  unfold wpX_compute
  repeat (first | refine br_t (by decide) ?_ | refine br_f (by decide) ?_)
  exact ⟨vt, vf, vt, nm_r (by rw [ct, cf]) h⟩
theorem fs_cp8 (Q : SX → Prop) (n d p c st : Int32) (reg cel fo ft ff fd : Nat → Int32) {t f : Nat} (ht : t < 8) (hf : f < 8) (h : Q (n, d, p, c, st, upd reg t (reg t * reg f), cel, fo, ft, ff, fd)) : wpX_compute Q (n, d, p, c, st, reg, cel, fo, ft, ff, fd) 8 (nI t) (nI f) := by
  have vt : vp_in (nI t) 8 := vp_in_nI ht (by decide)
  have ct : (nI t).toNatClampNeg = t := nI_clamp (by omega)
  have vf : vp_in (nI f) 8 := vp_in_nI hf (by decide)
  have cf : (nI f).toNatClampNeg = f := nI_clamp (by omega)
  unfold wpX_compute
  repeat (first | refine br_t (by decide) ?_ | refine br_f (by decide) ?_)
  exact ⟨vt, vf, vt, nm_r (by rw [ct, cf]) h⟩
theorem fs_sz (Q : SX → Prop) (n d p c st : Int32) (reg cel fo ft ff fd : Nat → Int32) (t : Int32) {f : Nat} (hf : f < 8) (h1 : reg f = 0 → Q (n, d, t, c, st, reg, cel, fo, ft, ff, fd)) (h2 : ¬ reg f = 0 → Q (n, d, p + 1, c, st, reg, cel, fo, ft, ff, fd)) : wpX_steer Q (n, d, p, c, st, reg, cel, fo, ft, ff, fd) 9 t (nI f) := by
  have vf : vp_in (nI f) 8 := vp_in_nI hf (by decide)
  have cf : (nI f).toNatClampNeg = f := nI_clamp (by omega)
  unfold wpX_steer
  repeat (first | refine br_t (by decide) ?_ | refine br_f (by decide) ?_)
  refine ⟨vf, ?_⟩
  rw [cf]
  exact br_c h1 (fun z => nm_e (h2 z))
theorem fs_sn (Q : SX → Prop) (n d p c st : Int32) (reg cel fo ft ff fd : Nat → Int32) (t : Int32) {f : Nat} (hf : f < 8) (h1 : 0 ≤ reg f → Q (n, d, p + 1, c, st, reg, cel, fo, ft, ff, fd)) (h2 : ¬ 0 ≤ reg f → Q (n, d, t, c, st, reg, cel, fo, ft, ff, fd)) : wpX_steer Q (n, d, p, c, st, reg, cel, fo, ft, ff, fd) 10 t (nI f) := by
  have vf : vp_in (nI f) 8 := vp_in_nI hf (by decide)
  have cf : (nI f).toNatClampNeg = f := nI_clamp (by omega)
  unfold wpX_steer
  repeat (first | refine br_t (by decide) ?_ | refine br_f (by decide) ?_)
  refine ⟨vf, ?_⟩
  rw [cf]
  exact br_c (fun z => nm_e (h1 z)) h2
theorem fs_sg (Q : SX → Prop) (n d p c st : Int32) (reg cel fo ft ff fd : Nat → Int32) (t f : Int32) (h : Q (n, d, t, c, st, reg, cel, fo, ft, ff, fd)) : wpX_steer Q (n, d, p, c, st, reg, cel, fo, ft, ff, fd) 11 t f := by
  unfold wpX_steer
  repeat (first | refine br_t (by decide) ?_ | refine br_f (by decide) ?_)
  exact h
theorem fs_sh (Q : SX → Prop) (n d p c st : Int32) (reg cel fo ft ff fd : Nat → Int32) (t f : Int32) (h : Q (n, d, p, c, 1, reg, cel, fo, ft, ff, fd)) : wpX_steer Q (n, d, p, c, st, reg, cel, fo, ft, ff, fd) 12 t f := by
  unfold wpX_steer
  repeat (first | refine br_t (by decide) ?_ | refine br_f (by decide) ?_)
  exact h
theorem fs_xF (post : SX → Prop) {n d p : Nat} (hn : n ≤ 32) (hd : d ≤ 8) (hp : p < n) (c st : Int32) (reg cel fo ft ff fd : Nat → Int32) (h0 : fo (p * 9 + d) = 0) (h : post (nI n, nI d, nI p, c, 2, reg, cel, fo, ft, ff, fd)) : wpX_tryInstruction post (nI n, nI d, nI p, c, st, reg, cel, fo, ft, ff, fd) := by
  have hx : nI p < nI n := nI_lt hp (by omega)
  have hs : nI p * 9 + nI d = nI (p * 9 + d) := by
    rw [show (9 : Int32) = nI 9 from rfl, pk_mul, nI_add]
  have hv : vp_in (nI (p * 9 + d)) 288 := vp_in_nI (by omega) (by decide)
  have hc : (nI (p * 9 + d)).toNatClampNeg = p * 9 + d := nI_clamp (by omega)
  unfold wpX_tryInstruction
  refine br_t hx (nm_r hs ⟨hv, ?_⟩)
  refine nm_r (e' := 0) (by rw [hc]; exact h0) ?_
  exact br_t rfl h
theorem fs_xC (post : SX → Prop) {n d p : Nat} (hn : n ≤ 32) (hd : d ≤ 8) (hp : p < n) (c st : Int32) (reg cel fo ft ff fd : Nat → Int32) {o t f : Int32} {d' : Nat} {reg' cel' : Nat → Int32} (hz : ¬ o = 0) (h9 : o < 9) (h0 : fo (p * 9 + d) = o) (h1 : ft (p * 9 + d) = t) (h2 : ff (p * 9 + d) = f) (h3 : fd (p * 9 + d) = nI d')
    (hC : ∀ Q : SX → Prop, Q (nI n, nI d, nI p, c, st, reg', cel', fo, ft, ff, fd) → wpX_compute Q (nI n, nI d, nI p, c, st, reg, cel, fo, ft, ff, fd) o t f) (h : post (nI n, nI d', nI (p + 1), c + 1, st, reg', cel', fo, ft, ff, fd)) : wpX_tryInstruction post (nI n, nI d, nI p, c, st, reg, cel, fo, ft, ff, fd) := by
  have hx : nI p < nI n := nI_lt hp (by omega)
  have hs : nI p * 9 + nI d = nI (p * 9 + d) := by
    rw [show (9 : Int32) = nI 9 from rfl, pk_mul, nI_add]
  have hv : vp_in (nI (p * 9 + d)) 288 := vp_in_nI (by omega) (by decide)
  have hc : (nI (p * 9 + d)).toNatClampNeg = p * 9 + d := nI_clamp (by omega)
  unfold wpX_tryInstruction
  refine br_t hx (nm_r hs ⟨hv, ?_⟩)
  refine nm_r (e' := o) (by rw [hc]; exact h0) ?_
  refine br_f hz (br_t h9 ⟨hv, hv, ?_⟩)
  have e1 : ft (nI (p * 9 + d)).toNatClampNeg = t := by rw [hc]; exact h1
  have e2 : ff (nI (p * 9 + d)).toNatClampNeg = f := by rw [hc]; exact h2
  rw [e1, e2]
  refine hC _ ?_
  refine nm_r (nI_1 p) ?_
  refine ⟨hv, nm_r (e' := nI d') (by rw [hc]; exact h3) (nm_e h)⟩
theorem fs_xS (post : SX → Prop) {n d p : Nat} (hn : n ≤ 32) (hd : d ≤ 8) (hp : p < n) (c st : Int32) (reg cel fo ft ff fd : Nat → Int32) {o t f : Int32} {d' : Nat} {p' st' : Int32} (hz : ¬ o = 0) (h9 : ¬ o < 9) (h0 : fo (p * 9 + d) = o) (h1 : ft (p * 9 + d) = t) (h2 : ff (p * 9 + d) = f) (h3 : fd (p * 9 + d) = nI d')
    (hC : ∀ Q : SX → Prop, Q (nI n, nI d, p', c, st', reg, cel, fo, ft, ff, fd) → wpX_steer Q (nI n, nI d, nI p, c, st, reg, cel, fo, ft, ff, fd) o t f) (h : post (nI n, nI d', p', c + 1, st', reg, cel, fo, ft, ff, fd)) : wpX_tryInstruction post (nI n, nI d, nI p, c, st, reg, cel, fo, ft, ff, fd) := by
  have hx : nI p < nI n := nI_lt hp (by omega)
  have hs : nI p * 9 + nI d = nI (p * 9 + d) := by
    rw [show (9 : Int32) = nI 9 from rfl, pk_mul, nI_add]
  have hv : vp_in (nI (p * 9 + d)) 288 := vp_in_nI (by omega) (by decide)
  have hc : (nI (p * 9 + d)).toNatClampNeg = p * 9 + d := nI_clamp (by omega)
  unfold wpX_tryInstruction
  refine br_t hx (nm_r hs ⟨hv, ?_⟩)
  refine nm_r (e' := o) (by rw [hc]; exact h0) ?_
  refine br_f hz (br_f h9 ⟨hv, hv, ?_⟩)
  have e1 : ft (nI (p * 9 + d)).toNatClampNeg = t := by rw [hc]; exact h1
  have e2 : ff (nI (p * 9 + d)).toNatClampNeg = f := by rw [hc]; exact h2
  rw [e1, e2]
  refine hC _ ?_
  refine ⟨hv, nm_r (e' := nI d') (by rw [hc]; exact h3) (nm_e h)⟩
/-! the reference: one try -/
theorem fs_ynd (post : Int32 → Prop) (n d p c st : Int32) (op arg stk mem : Nat → Int32) (a : Int32) : ∀ j, j < 14 → post (fs_vn j a) → wpY_needs post (n, d, p, c, st, op, arg, stk, mem) (nI j) a := by
  apply fs_14 <;> (intro h; unfold wpY_needs; repeat (first | exact h | refine br_t (by decide) ?_ | refine br_f (by decide) ?_))
theorem fs_g3 : ∀ j, j < 14 → 2 < j → ∀ d, d < 9 → nI d + fs_gr j ≤ 8 := by decide +kernel
theorem fs_g2 : ∀ j, j < 3 → ∀ d, d < 9 → (nI d = 8 ↔ ¬ nI d + fs_gr j ≤ 8) := by decide +kernel
theorem fs_yf (post : Int32 → Prop) {d : Nat} (hd : d ≤ 8) {j : Nat} (hj : j < 14) (n p c st : Int32) (op arg stk mem : Nat → Int32) (a : Int32)
    (h1 : (nI d < fs_vn j a ∨ ¬ nI d + fs_gr j ≤ 8) → post 1) (h0 : ¬ (nI d < fs_vn j a ∨ ¬ nI d + fs_gr j ≤ 8) → post 0) : wpY_faulty post (n, nI d, p, c, st, op, arg, stk, mem) (nI j) a := by
  unfold wpY_faulty
  refine fs_ynd _ n (nI d) p c st op arg stk mem a j hj ?_
  refine br_c (fun z => h1 (Or.inl z)) (fun z => ?_)
  by_cases hj2 : 2 < j
  · refine br_t (nI_lt (a := 2) hj2 (by omega)) (h0 (fun y => y.elim z (fun y => y (fs_g3 j hj hj2 d (by omega)))))
  · refine br_f (nI_nlt (a := 2) (b := j) (by omega) (by decide)) ?_
    have e := fs_g2 j (by omega) d (by omega)
    exact br_c (fun y => h1 (Or.inr (e.mp y))) (fun y => h0 (fun x => x.elim z (fun x => y (e.mpr x))))
theorem fs_yc4 (Q : SY → Prop) (n d p c st : Int32) (op arg stk mem : Nat → Int32) {m : Nat} (hm : m < 8) (h : Q (n, d, p, c, st, op, arg, upd (upd stk 0 (stk m)) m (stk 0), mem)) : wpY_calculate Q (n, d, p, c, st, op, arg, stk, mem) (nI 4) (nI m) := by
  have hv : vp_in (nI m) 8 := vp_in_nI hm (by decide)
  have hc : (nI m).toNatClampNeg = m := nI_clamp (by omega)
  unfold wpY_calculate
  repeat (first | refine br_t (by decide) ?_ | refine br_f (by decide) ?_)
  refine nm_e ⟨hv, nm_r (e' := upd stk 0 (stk m)) (by rw [hc]) ⟨hv, nm_r (e' := upd (upd stk 0 (stk m)) m (stk 0)) (by rw [hc]) ?_⟩⟩
  repeat (first | refine br_t (by decide) ?_ | refine br_f (by decide) ?_)
  exact h
theorem fs_yc5 (Q : SY → Prop) (n d p c st : Int32) (op arg stk mem : Nat → Int32) {m : Nat} (hm : m < 8) (h : Q (n, d, p, c, st, op, arg, upd stk 0 (stk 0 + stk m), mem)) : wpY_calculate Q (n, d, p, c, st, op, arg, stk, mem) (nI 5) (nI m) := by
  have hv : vp_in (nI m) 8 := vp_in_nI hm (by decide)
  have hc : (nI m).toNatClampNeg = m := nI_clamp (by omega)
  unfold wpY_calculate
  repeat (first | refine br_t (by decide) ?_ | refine br_f (by decide) ?_)
  refine ⟨hv, nm_r (e' := upd stk 0 (stk 0 + stk m)) (by rw [hc]) ?_⟩
  repeat (first | refine br_t (by decide) ?_ | refine br_f (by decide) ?_)
  exact h
theorem fs_yc6 (Q : SY → Prop) (n d p c st : Int32) (op arg stk mem : Nat → Int32) {m : Nat} (hm : m < 8) (h : Q (n, d, p, c, st, op, arg, upd stk 0 (stk 0 - stk m), mem)) : wpY_calculate Q (n, d, p, c, st, op, arg, stk, mem) (nI 6) (nI m) := by
  have hv : vp_in (nI m) 8 := vp_in_nI hm (by decide)
  have hc : (nI m).toNatClampNeg = m := nI_clamp (by omega)
  unfold wpY_calculate
  repeat (first | refine br_t (by decide) ?_ | refine br_f (by decide) ?_)
  refine ⟨hv, nm_r (e' := upd stk 0 (stk 0 - stk m)) (by rw [hc]) ?_⟩
  repeat (first | refine br_t (by decide) ?_ | refine br_f (by decide) ?_)
  exact h
theorem fs_yc7 (Q : SY → Prop) (n d p c st : Int32) (op arg stk mem : Nat → Int32) {m : Nat} (hm : m < 8) (h : Q (n, d, p, c, st, op, arg, upd stk 0 (stk 0 * stk m), mem)) : wpY_calculate Q (n, d, p, c, st, op, arg, stk, mem) (nI 7) (nI m) := by
  have hv : vp_in (nI m) 8 := vp_in_nI hm (by decide)
  have hc : (nI m).toNatClampNeg = m := nI_clamp (by omega)
  unfold wpY_calculate
  repeat (first | refine br_t (by decide) ?_ | refine br_f (by decide) ?_)
  refine ⟨hv, nm_r (e' := upd stk 0 (stk 0 * stk m)) (by rw [hc]) ?_⟩
  repeat (first | refine br_t (by decide) ?_ | refine br_f (by decide) ?_)
  exact h
theorem fs_yc8 (Q : SY → Prop) (n d p c st : Int32) (op arg stk mem : Nat → Int32) {m : Nat} (hm : m < 8) (h : Q (n, d - 1, p, c, st, op, arg, fs_pp (upd stk m (stk m + stk 0)), mem)) : wpY_calculate Q (n, d, p, c, st, op, arg, stk, mem) (nI 8) (nI m) := by
  have hv : vp_in (nI m) 8 := vp_in_nI hm (by decide)
  have hc : (nI m).toNatClampNeg = m := nI_clamp (by omega)
  unfold wpY_calculate
  repeat (first | refine br_t (by decide) ?_ | refine br_f (by decide) ?_)
  refine ⟨hv, hv, nm_r (e' := upd stk m (stk m + stk 0)) (by rw [hc]) ?_⟩
  repeat (first | refine br_t (by decide) ?_ | refine br_f (by decide) ?_)
  unfold wY_calculate_167
  refine fs_pop _ _ _ _ _ _ _ _ _ _ ?_
  exact h
theorem fs_yc9 (Q : SY → Prop) (n d p c st : Int32) (op arg stk mem : Nat → Int32) {m : Nat} (hm : m < 8) (h : Q (n, d - 1, p, c, st, op, arg, fs_pp (upd stk m (stk m - stk 0)), mem)) : wpY_calculate Q (n, d, p, c, st, op, arg, stk, mem) (nI 9) (nI m) := by
  have hv : vp_in (nI m) 8 := vp_in_nI hm (by decide)
  have hc : (nI m).toNatClampNeg = m := nI_clamp (by omega)
  unfold wpY_calculate
  repeat (first | refine br_t (by decide) ?_ | refine br_f (by decide) ?_)
  refine ⟨hv, hv, nm_r (e' := upd stk m (stk m - stk 0)) (by rw [hc]) ?_⟩
  repeat (first | refine br_t (by decide) ?_ | refine br_f (by decide) ?_)
  unfold wY_calculate_167
  refine fs_pop _ _ _ _ _ _ _ _ _ _ ?_
  exact h
theorem fs_yaF (post : SY → Prop) {n d p : Nat} (hn : n ≤ 32) (hd : d ≤ 8) (hp : p < n) (c st : Int32) (op arg stk mem : Nat → Int32) {j : Nat} (hj : j < 14) (a : Int32) (ho : op p = nI j) (ha : arg p = a) (hF : nI d < fs_vn j a ∨ ¬ nI d + fs_gr j ≤ 8) (h : post (nI n, nI d, nI p, c, 2, op, arg, stk, mem)) : wpY_attempt post (nI n, nI d, nI p, c, st, op, arg, stk, mem) := by
  have hnp : ¬ nI n ≤ nI p := nI_ge hp (by omega)
  have hv : vp_in (nI p) 32 := vp_in_nI (by omega) (by decide)
  have hc : (nI p).toNatClampNeg = p := nI_clamp (by omega)
  unfold wpY_attempt
  refine br_f hnp ⟨hv, hv, ?_⟩
  rw [hc, ho, ha]
  refine fs_yf _ hd hj _ _ _ _ _ _ _ _ _ (fun _ => ?_) (fun z => absurd hF z)
  exact br_f (by decide) h
theorem fs_ya13 (post : SY → Prop) {n d p : Nat} (hn : n ≤ 32) (hd : d ≤ 8) (hp : p < n) (c st : Int32) (op arg stk mem : Nat → Int32) (a : Int32) (ho : op p = nI 13) (ha : arg p = a) (hF : ¬ (nI d < fs_vn 13 (a) ∨ ¬ nI d + fs_gr 13 ≤ 8)) (h : post (nI n, nI d, nI p, c + 1, 1, op, arg, stk, mem)) : wpY_attempt post (nI n, nI d, nI p, c, st, op, arg, stk, mem) := by
  have hnp : ¬ nI n ≤ nI p := nI_ge hp (by omega)
  have hv : vp_in (nI p) 32 := vp_in_nI (by omega) (by decide)
  have hc : (nI p).toNatClampNeg = p := nI_clamp (by omega)
  unfold wpY_attempt
  refine br_f hnp ⟨hv, hv, ?_⟩
  rw [hc, ho, ha]
  refine fs_yf _ hd (by decide) _ _ _ _ _ _ _ _ _ (fun z => absurd z hF) (fun _ => ?_)
  refine br_t rfl ⟨hv, nm_e ⟨hv, nm_e (nm_e ?_)⟩⟩
  repeat (first | refine br_t (by decide) ?_ | refine br_f (by decide) ?_)
  first | exact h | (refine br_t rfl ?_; exact h)
theorem fs_ya0 (post : SY → Prop) {n d p : Nat} (hn : n ≤ 32) (hd : d ≤ 8) (hp : p < n) (c st : Int32) (op arg stk mem : Nat → Int32) (a : Int32) (ho : op p = nI 0) (ha : arg p = a) (hF : ¬ (nI d < fs_vn 0 (a) ∨ ¬ nI d + fs_gr 0 ≤ 8)) (h : post (nI n, nI d + 1, nI (p + 1), c + 1, st, op, arg, fs_psh stk a, mem)) : wpY_attempt post (nI n, nI d, nI p, c, st, op, arg, stk, mem) := by
  have hnp : ¬ nI n ≤ nI p := nI_ge hp (by omega)
  have hv : vp_in (nI p) 32 := vp_in_nI (by omega) (by decide)
  have hc : (nI p).toNatClampNeg = p := nI_clamp (by omega)
  unfold wpY_attempt
  refine br_f hnp ⟨hv, hv, ?_⟩
  rw [hc, ho, ha]
  refine fs_yf _ hd (by decide) _ _ _ _ _ _ _ _ _ (fun z => absurd z hF) (fun _ => ?_)
  refine br_t rfl ⟨hv, nm_e ⟨hv, nm_e (nm_e ?_)⟩⟩
  refine br_f (by decide) (nm_r (nI_1 p) ?_)
  repeat (first | refine br_t (by decide) ?_ | refine br_f (by decide) ?_)
  refine fs_push _ _ _ _ _ _ _ _ _ _ _ ?_
  exact h
theorem fs_ya1 (post : SY → Prop) {n d p : Nat} (hn : n ≤ 32) (hd : d ≤ 8) (hp : p < n) (c st : Int32) (op arg stk mem : Nat → Int32) {m : Nat} (hm : m < 8) (ho : op p = nI 1) (ha : arg p = nI m) (hF : ¬ (nI d < fs_vn 1 (nI m) ∨ ¬ nI d + fs_gr 1 ≤ 8)) (h : post (nI n, nI d + 1, nI (p + 1), c + 1, st, op, arg, fs_psh stk (stk m), mem)) : wpY_attempt post (nI n, nI d, nI p, c, st, op, arg, stk, mem) := by
  have hnp : ¬ nI n ≤ nI p := nI_ge hp (by omega)
  have hv : vp_in (nI p) 32 := vp_in_nI (by omega) (by decide)
  have hc : (nI p).toNatClampNeg = p := nI_clamp (by omega)
  unfold wpY_attempt
  refine br_f hnp ⟨hv, hv, ?_⟩
  rw [hc, ho, ha]
  refine fs_yf _ hd (by decide) _ _ _ _ _ _ _ _ _ (fun z => absurd z hF) (fun _ => ?_)
  refine br_t rfl ⟨hv, nm_e ⟨hv, nm_e (nm_e ?_)⟩⟩
  refine br_f (by decide) (nm_r (nI_1 p) ?_)
  repeat (first | refine br_t (by decide) ?_ | refine br_f (by decide) ?_)
  have vm : vp_in (nI m) 8 := vp_in_nI hm (by decide)
  have cm : (nI m).toNatClampNeg = m := nI_clamp (by omega)
  refine ⟨vm, ?_⟩
  rw [cm]
  refine fs_push _ _ _ _ _ _ _ _ _ _ _ ?_
  exact h
theorem fs_ya2 (post : SY → Prop) {n d p : Nat} (hn : n ≤ 32) (hd : d ≤ 8) (hp : p < n) (c st : Int32) (op arg stk mem : Nat → Int32) {m : Nat} (hm : m < 8) (ho : op p = nI 2) (ha : arg p = nI m) (hF : ¬ (nI d < fs_vn 2 (nI m) ∨ ¬ nI d + fs_gr 2 ≤ 8)) (h : post (nI n, nI d + 1, nI (p + 1), c + 1, st, op, arg, fs_psh stk (mem m), mem)) : wpY_attempt post (nI n, nI d, nI p, c, st, op, arg, stk, mem) := by
  have hnp : ¬ nI n ≤ nI p := nI_ge hp (by omega)
  have hv : vp_in (nI p) 32 := vp_in_nI (by omega) (by decide)
  have hc : (nI p).toNatClampNeg = p := nI_clamp (by omega)
  unfold wpY_attempt
  refine br_f hnp ⟨hv, hv, ?_⟩
  rw [hc, ho, ha]
  refine fs_yf _ hd (by decide) _ _ _ _ _ _ _ _ _ (fun z => absurd z hF) (fun _ => ?_)
  refine br_t rfl ⟨hv, nm_e ⟨hv, nm_e (nm_e ?_)⟩⟩
  refine br_f (by decide) (nm_r (nI_1 p) ?_)
  repeat (first | refine br_t (by decide) ?_ | refine br_f (by decide) ?_)
  have vm : vp_in (nI m) 8 := vp_in_nI hm (by decide)
  have cm : (nI m).toNatClampNeg = m := nI_clamp (by omega)
  refine ⟨vm, ?_⟩
  rw [cm]
  refine fs_push _ _ _ _ _ _ _ _ _ _ _ ?_
  exact h
theorem fs_ya3 (post : SY → Prop) {n d p : Nat} (hn : n ≤ 32) (hd : d ≤ 8) (hp : p < n) (c st : Int32) (op arg stk mem : Nat → Int32) {m : Nat} (hm : m < 8) (ho : op p = nI 3) (ha : arg p = nI m) (hF : ¬ (nI d < fs_vn 3 (nI m) ∨ ¬ nI d + fs_gr 3 ≤ 8)) (h : post (nI n, nI d - 1, nI (p + 1), c + 1, st, op, arg, fs_pp stk, upd mem m (stk 0))) : wpY_attempt post (nI n, nI d, nI p, c, st, op, arg, stk, mem) := by
  have hnp : ¬ nI n ≤ nI p := nI_ge hp (by omega)
  have hv : vp_in (nI p) 32 := vp_in_nI (by omega) (by decide)
  have hc : (nI p).toNatClampNeg = p := nI_clamp (by omega)
  unfold wpY_attempt
  refine br_f hnp ⟨hv, hv, ?_⟩
  rw [hc, ho, ha]
  refine fs_yf _ hd (by decide) _ _ _ _ _ _ _ _ _ (fun z => absurd z hF) (fun _ => ?_)
  refine br_t rfl ⟨hv, nm_e ⟨hv, nm_e (nm_e ?_)⟩⟩
  refine br_f (by decide) (nm_r (nI_1 p) ?_)
  repeat (first | refine br_t (by decide) ?_ | refine br_f (by decide) ?_)
  have vm : vp_in (nI m) 8 := vp_in_nI hm (by decide)
  have cm : (nI m).toNatClampNeg = m := nI_clamp (by omega)
  refine fs_pop _ _ _ _ _ _ _ _ _ _ ?_
  exact ⟨vm, nm_r (by rw [cm]) h⟩
theorem fs_ya12 (post : SY → Prop) {n d p : Nat} (hn : n ≤ 32) (hd : d ≤ 8) (hp : p < n) (c st : Int32) (op arg stk mem : Nat → Int32) (a : Int32) (ho : op p = nI 12) (ha : arg p = a) (hF : ¬ (nI d < fs_vn 12 (a) ∨ ¬ nI d + fs_gr 12 ≤ 8)) (h : post (nI n, nI d, a, c + 1, st, op, arg, stk, mem)) : wpY_attempt post (nI n, nI d, nI p, c, st, op, arg, stk, mem) := by
  have hnp : ¬ nI n ≤ nI p := nI_ge hp (by omega)
  have hv : vp_in (nI p) 32 := vp_in_nI (by omega) (by decide)
  have hc : (nI p).toNatClampNeg = p := nI_clamp (by omega)
  unfold wpY_attempt
  refine br_f hnp ⟨hv, hv, ?_⟩
  rw [hc, ho, ha]
  refine fs_yf _ hd (by decide) _ _ _ _ _ _ _ _ _ (fun z => absurd z hF) (fun _ => ?_)
  refine br_t rfl ⟨hv, nm_e ⟨hv, nm_e (nm_e ?_)⟩⟩
  refine br_f (by decide) (nm_r (nI_1 p) ?_)
  repeat (first | refine br_t (by decide) ?_ | refine br_f (by decide) ?_)
  exact h
theorem fs_ya10 (post : SY → Prop) {n d p : Nat} (hn : n ≤ 32) (hd : d ≤ 8) (hp : p < n) (c st : Int32) (op arg stk mem : Nat → Int32) (a : Int32) (ho : op p = nI 10) (ha : arg p = a) (hF : ¬ (nI d < fs_vn 10 (a) ∨ ¬ nI d + fs_gr 10 ≤ 8)) (h1 : stk 0 = 0 → post (nI n, nI d - 1, a, c + 1, st, op, arg, fs_pp stk, mem)) (h2 : ¬ stk 0 = 0 → post (nI n, nI d - 1, nI (p + 1), c + 1, st, op, arg, fs_pp stk, mem)) : wpY_attempt post (nI n, nI d, nI p, c, st, op, arg, stk, mem) := by
  have hnp : ¬ nI n ≤ nI p := nI_ge hp (by omega)
  have hv : vp_in (nI p) 32 := vp_in_nI (by omega) (by decide)
  have hc : (nI p).toNatClampNeg = p := nI_clamp (by omega)
  unfold wpY_attempt
  refine br_f hnp ⟨hv, hv, ?_⟩
  rw [hc, ho, ha]
  refine fs_yf _ hd (by decide) _ _ _ _ _ _ _ _ _ (fun z => absurd z hF) (fun _ => ?_)
  refine br_t rfl ⟨hv, nm_e ⟨hv, nm_e (nm_e ?_)⟩⟩
  refine br_f (by decide) (nm_r (nI_1 p) ?_)
  repeat (first | refine br_t (by decide) ?_ | refine br_f (by decide) ?_)
  unfold wY_attempt_186
  refine fs_pop _ _ _ _ _ _ _ _ _ _ ?_
  exact br_t (by decide) (br_c h1 h2)
theorem fs_ya11 (post : SY → Prop) {n d p : Nat} (hn : n ≤ 32) (hd : d ≤ 8) (hp : p < n) (c st : Int32) (op arg stk mem : Nat → Int32) (a : Int32) (ho : op p = nI 11) (ha : arg p = a) (hF : ¬ (nI d < fs_vn 11 (a) ∨ ¬ nI d + fs_gr 11 ≤ 8)) (h1 : 0 ≤ stk 0 → post (nI n, nI d - 1, nI (p + 1), c + 1, st, op, arg, fs_pp stk, mem)) (h2 : ¬ 0 ≤ stk 0 → post (nI n, nI d - 1, a, c + 1, st, op, arg, fs_pp stk, mem)) : wpY_attempt post (nI n, nI d, nI p, c, st, op, arg, stk, mem) := by
  have hnp : ¬ nI n ≤ nI p := nI_ge hp (by omega)
  have hv : vp_in (nI p) 32 := vp_in_nI (by omega) (by decide)
  have hc : (nI p).toNatClampNeg = p := nI_clamp (by omega)
  unfold wpY_attempt
  refine br_f hnp ⟨hv, hv, ?_⟩
  rw [hc, ho, ha]
  refine fs_yf _ hd (by decide) _ _ _ _ _ _ _ _ _ (fun z => absurd z hF) (fun _ => ?_)
  refine br_t rfl ⟨hv, nm_e ⟨hv, nm_e (nm_e ?_)⟩⟩
  refine br_f (by decide) (nm_r (nI_1 p) ?_)
  repeat (first | refine br_t (by decide) ?_ | refine br_f (by decide) ?_)
  unfold wY_attempt_186
  refine fs_pop _ _ _ _ _ _ _ _ _ _ ?_
  exact br_f (by decide) (br_c h1 h2)
theorem fs_ya4 (post : SY → Prop) {n d p : Nat} (hn : n ≤ 32) (hd : d ≤ 8) (hp : p < n) (c st : Int32) (op arg stk mem : Nat → Int32) {m : Nat} (hm : m < 8) (ho : op p = nI 4) (ha : arg p = nI m) (hF : ¬ (nI d < fs_vn 4 (nI m) ∨ ¬ nI d + fs_gr 4 ≤ 8)) (h : post (nI n, nI d, nI (p + 1), c + 1, st, op, arg, upd (upd stk 0 (stk m)) m (stk 0), mem)) : wpY_attempt post (nI n, nI d, nI p, c, st, op, arg, stk, mem) := by
  have hnp : ¬ nI n ≤ nI p := nI_ge hp (by omega)
  have hv : vp_in (nI p) 32 := vp_in_nI (by omega) (by decide)
  have hc : (nI p).toNatClampNeg = p := nI_clamp (by omega)
  unfold wpY_attempt
  refine br_f hnp ⟨hv, hv, ?_⟩
  rw [hc, ho, ha]
  refine fs_yf _ hd (by decide) _ _ _ _ _ _ _ _ _ (fun z => absurd z hF) (fun _ => ?_)
  refine br_t rfl ⟨hv, nm_e ⟨hv, nm_e (nm_e ?_)⟩⟩
  refine br_f (by decide) (nm_r (nI_1 p) ?_)
  refine br_f (by decide) (br_f (by decide) (br_f (by decide) (br_f (by decide) (br_f (by decide) (br_f (by decide) (br_f (by decide) ?_))))))
  refine fs_yc4 _ _ _ _ _ _ _ _ _ _ hm ?_
  exact h
theorem fs_ya5 (post : SY → Prop) {n d p : Nat} (hn : n ≤ 32) (hd : d ≤ 8) (hp : p < n) (c st : Int32) (op arg stk mem : Nat → Int32) {m : Nat} (hm : m < 8) (ho : op p = nI 5) (ha : arg p = nI m) (hF : ¬ (nI d < fs_vn 5 (nI m) ∨ ¬ nI d + fs_gr 5 ≤ 8)) (h : post (nI n, nI d, nI (p + 1), c + 1, st, op, arg, upd stk 0 (stk 0 + stk m), mem)) : wpY_attempt post (nI n, nI d, nI p, c, st, op, arg, stk, mem) := by
  have hnp : ¬ nI n ≤ nI p := nI_ge hp (by omega)
  have hv : vp_in (nI p) 32 := vp_in_nI (by omega) (by decide)
  have hc : (nI p).toNatClampNeg = p := nI_clamp (by omega)
  unfold wpY_attempt
  refine br_f hnp ⟨hv, hv, ?_⟩
  rw [hc, ho, ha]
  refine fs_yf _ hd (by decide) _ _ _ _ _ _ _ _ _ (fun z => absurd z hF) (fun _ => ?_)
  refine br_t rfl ⟨hv, nm_e ⟨hv, nm_e (nm_e ?_)⟩⟩
  refine br_f (by decide) (nm_r (nI_1 p) ?_)
  refine br_f (by decide) (br_f (by decide) (br_f (by decide) (br_f (by decide) (br_f (by decide) (br_f (by decide) (br_f (by decide) ?_))))))
  refine fs_yc5 _ _ _ _ _ _ _ _ _ _ hm ?_
  exact h
theorem fs_ya6 (post : SY → Prop) {n d p : Nat} (hn : n ≤ 32) (hd : d ≤ 8) (hp : p < n) (c st : Int32) (op arg stk mem : Nat → Int32) {m : Nat} (hm : m < 8) (ho : op p = nI 6) (ha : arg p = nI m) (hF : ¬ (nI d < fs_vn 6 (nI m) ∨ ¬ nI d + fs_gr 6 ≤ 8)) (h : post (nI n, nI d, nI (p + 1), c + 1, st, op, arg, upd stk 0 (stk 0 - stk m), mem)) : wpY_attempt post (nI n, nI d, nI p, c, st, op, arg, stk, mem) := by
  have hnp : ¬ nI n ≤ nI p := nI_ge hp (by omega)
  have hv : vp_in (nI p) 32 := vp_in_nI (by omega) (by decide)
  have hc : (nI p).toNatClampNeg = p := nI_clamp (by omega)
  unfold wpY_attempt
  refine br_f hnp ⟨hv, hv, ?_⟩
  rw [hc, ho, ha]
  refine fs_yf _ hd (by decide) _ _ _ _ _ _ _ _ _ (fun z => absurd z hF) (fun _ => ?_)
  refine br_t rfl ⟨hv, nm_e ⟨hv, nm_e (nm_e ?_)⟩⟩
  refine br_f (by decide) (nm_r (nI_1 p) ?_)
  refine br_f (by decide) (br_f (by decide) (br_f (by decide) (br_f (by decide) (br_f (by decide) (br_f (by decide) (br_f (by decide) ?_))))))
  refine fs_yc6 _ _ _ _ _ _ _ _ _ _ hm ?_
  exact h
theorem fs_ya7 (post : SY → Prop) {n d p : Nat} (hn : n ≤ 32) (hd : d ≤ 8) (hp : p < n) (c st : Int32) (op arg stk mem : Nat → Int32) {m : Nat} (hm : m < 8) (ho : op p = nI 7) (ha : arg p = nI m) (hF : ¬ (nI d < fs_vn 7 (nI m) ∨ ¬ nI d + fs_gr 7 ≤ 8)) (h : post (nI n, nI d, nI (p + 1), c + 1, st, op, arg, upd stk 0 (stk 0 * stk m), mem)) : wpY_attempt post (nI n, nI d, nI p, c, st, op, arg, stk, mem) := by
  have hnp : ¬ nI n ≤ nI p := nI_ge hp (by omega)
  have hv : vp_in (nI p) 32 := vp_in_nI (by omega) (by decide)
  have hc : (nI p).toNatClampNeg = p := nI_clamp (by omega)
  unfold wpY_attempt
  refine br_f hnp ⟨hv, hv, ?_⟩
  rw [hc, ho, ha]
  refine fs_yf _ hd (by decide) _ _ _ _ _ _ _ _ _ (fun z => absurd z hF) (fun _ => ?_)
  refine br_t rfl ⟨hv, nm_e ⟨hv, nm_e (nm_e ?_)⟩⟩
  refine br_f (by decide) (nm_r (nI_1 p) ?_)
  refine br_f (by decide) (br_f (by decide) (br_f (by decide) (br_f (by decide) (br_f (by decide) (br_f (by decide) (br_f (by decide) ?_))))))
  refine fs_yc7 _ _ _ _ _ _ _ _ _ _ hm ?_
  exact h
theorem fs_ya8 (post : SY → Prop) {n d p : Nat} (hn : n ≤ 32) (hd : d ≤ 8) (hp : p < n) (c st : Int32) (op arg stk mem : Nat → Int32) {m : Nat} (hm : m < 8) (ho : op p = nI 8) (ha : arg p = nI m) (hF : ¬ (nI d < fs_vn 8 (nI m) ∨ ¬ nI d + fs_gr 8 ≤ 8)) (h : post (nI n, nI d - 1, nI (p + 1), c + 1, st, op, arg, fs_pp (upd stk m (stk m + stk 0)), mem)) : wpY_attempt post (nI n, nI d, nI p, c, st, op, arg, stk, mem) := by
  have hnp : ¬ nI n ≤ nI p := nI_ge hp (by omega)
  have hv : vp_in (nI p) 32 := vp_in_nI (by omega) (by decide)
  have hc : (nI p).toNatClampNeg = p := nI_clamp (by omega)
  unfold wpY_attempt
  refine br_f hnp ⟨hv, hv, ?_⟩
  rw [hc, ho, ha]
  refine fs_yf _ hd (by decide) _ _ _ _ _ _ _ _ _ (fun z => absurd z hF) (fun _ => ?_)
  refine br_t rfl ⟨hv, nm_e ⟨hv, nm_e (nm_e ?_)⟩⟩
  refine br_f (by decide) (nm_r (nI_1 p) ?_)
  refine br_f (by decide) (br_f (by decide) (br_f (by decide) (br_f (by decide) (br_f (by decide) (br_f (by decide) (br_f (by decide) ?_))))))
  refine fs_yc8 _ _ _ _ _ _ _ _ _ _ hm ?_
  exact h
theorem fs_ya9 (post : SY → Prop) {n d p : Nat} (hn : n ≤ 32) (hd : d ≤ 8) (hp : p < n) (c st : Int32) (op arg stk mem : Nat → Int32) {m : Nat} (hm : m < 8) (ho : op p = nI 9) (ha : arg p = nI m) (hF : ¬ (nI d < fs_vn 9 (nI m) ∨ ¬ nI d + fs_gr 9 ≤ 8)) (h : post (nI n, nI d - 1, nI (p + 1), c + 1, st, op, arg, fs_pp (upd stk m (stk m - stk 0)), mem)) : wpY_attempt post (nI n, nI d, nI p, c, st, op, arg, stk, mem) := by
  have hnp : ¬ nI n ≤ nI p := nI_ge hp (by omega)
  have hv : vp_in (nI p) 32 := vp_in_nI (by omega) (by decide)
  have hc : (nI p).toNatClampNeg = p := nI_clamp (by omega)
  unfold wpY_attempt
  refine br_f hnp ⟨hv, hv, ?_⟩
  rw [hc, ho, ha]
  refine fs_yf _ hd (by decide) _ _ _ _ _ _ _ _ _ (fun z => absurd z hF) (fun _ => ?_)
  refine br_t rfl ⟨hv, nm_e ⟨hv, nm_e (nm_e ?_)⟩⟩
  refine br_f (by decide) (nm_r (nI_1 p) ?_)
  refine br_f (by decide) (br_f (by decide) (br_f (by decide) (br_f (by decide) (br_f (by decide) (br_f (by decide) (br_f (by decide) ?_))))))
  refine fs_yc9 _ _ _ _ _ _ _ _ _ _ hm ?_
  exact h
