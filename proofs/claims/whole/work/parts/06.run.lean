def fs_St (u : SX) (v : SY) : Prop := ∃ (u' : SX) (v' : SY), fs_R u' v' ∧ (∀ post : SX → Prop, post u' → wpX_tryInstruction post u) ∧ (∀ post : SY → Prop, post v' → wpY_attempt post v)
theorem fs_p1 {d : Nat} (h : 1 ≤ d) : nI d - 1 = nI (d - 1) := by
  rw [show (1 : Int32) = nI 1 from rfl, pk_sub h]
theorem fs_m1 {d : Nat} (h : 1 ≤ d) : nI d + (-1) = nI (d - 1) := by
  obtain ⟨q, rfl⟩ : ∃ q, d = q + 1 := ⟨d - 1, by omega⟩
  exact pk_m1 q
theorem fs_d8 {d : Nat} (hd : d ≤ 8) (h : nI d + 1 ≤ 8) : d < 8 := by
  rw [nI_1] at h
  have := (nI_leI (b := 8) (by omega) (by decide)).mp h
  omega
theorem fs_dm {d m : Nat} (hd : d ≤ 8) (hm : m ≤ 7) (h : ¬ nI d < nI m + 1) : m < d := by
  rw [nI_1, nI_ltI (by omega) (by omega)] at h
  omega
theorem fs_d1 {d : Nat} (hd : d ≤ 8) (h : ¬ nI d < 1) : 1 ≤ d := by
  have h' : ¬ nI d < nI 1 := h
  rw [nI_ltI (by omega) (by omega)] at h'
  omega
theorem fs_s0 {n d p : Nat} (hn : n ≤ 32) (hd : d ≤ 8) (hp : p < n) (c st : Int32) (reg cel fo ft ff fd op arg stk : Nat → Int32) (hS : fs_SR d reg stk) (hP : fs_PR n op arg fo ft ff fd) (a : Int32) (ho : op p = nI 0) (ha : arg p = a) (hL : fs_SL fo ft ff fd (p * 9 + d) (nI d) 0 (a)) (hF : ¬ (nI d < fs_vn 0 (a) ∨ ¬ nI d + fs_gr 0 ≤ 8)) : fs_St (nI n, nI d, nI p, c, st, reg, cel, fo, ft, ff, fd) (nI n, nI d, nI p, c, st, op, arg, stk, cel) := by
  have f1 : ¬ nI d < fs_vn 0 (a) := fun z => hF (Or.inl z)
  have f2 : nI d + fs_gr 0 ≤ 8 := Classical.byContradiction (fun z => hF (Or.inr z))
  obtain ⟨l1, l2, l3, l4⟩ := hL.2 f1 f2
  have d8 : d < 8 := fs_d8 hd f2
  refine ⟨(nI n, nI (d + 1), nI (p + 1), c + 1, st, upd reg d a, cel, fo, ft, ff, fd), (nI n, nI (d + 1), nI (p + 1), c + 1, st, op, arg, fs_psh stk a, cel), ⟨n, d + 1, p + 1, c + 1, st, _, cel, fo, ft, ff, fd, op, arg, _, rfl, rfl, hn, by omega, by omega, fs_srpush hS d8 a, hP⟩, fun post h => ?_, fun post h => ?_⟩
  · refine fs_xC post hn hd hp c st reg cel fo ft ff fd (by decide) (by decide) l1 l2 l3 (l4.trans (nI_1 d)) (fun Q hQ => ?_) h
    exact fs_cp1 Q _ _ _ _ _ _ _ _ _ _ _ d8 a hQ
  · refine fs_ya0 post hn hd hp c st op arg stk cel a ho ha hF ?_
    first | exact h | (rw [nI_1 d]; exact h) | (rw [fs_p1 (d := d) (by omega)]; exact h)
theorem fs_s1 {n d p : Nat} (hn : n ≤ 32) (hd : d ≤ 8) (hp : p < n) (c st : Int32) (reg cel fo ft ff fd op arg stk : Nat → Int32) (hS : fs_SR d reg stk) (hP : fs_PR n op arg fo ft ff fd) {m : Nat} (hm : m ≤ 7) (ho : op p = nI 1) (ha : arg p = nI m) (hL : fs_SL fo ft ff fd (p * 9 + d) (nI d) 1 (nI m)) (hF : ¬ (nI d < fs_vn 1 (nI m) ∨ ¬ nI d + fs_gr 1 ≤ 8)) : fs_St (nI n, nI d, nI p, c, st, reg, cel, fo, ft, ff, fd) (nI n, nI d, nI p, c, st, op, arg, stk, cel) := by
  have f1 : ¬ nI d < fs_vn 1 (nI m) := fun z => hF (Or.inl z)
  have f2 : nI d + fs_gr 1 ≤ 8 := Classical.byContradiction (fun z => hF (Or.inr z))
  obtain ⟨l1, l2, l3, l4⟩ := hL.2 f1 f2
  have d8 : d < 8 := fs_d8 hd f2
  have dm : m < d := fs_dm hd hm f1
  have t1 : nI d - 1 - nI m = nI (d - 1 - m) := fs_top dm
  have e : reg (d - 1 - m) = stk m := hS m dm
  refine ⟨(nI n, nI (d + 1), nI (p + 1), c + 1, st, upd reg d (reg (d - 1 - m)), cel, fo, ft, ff, fd), (nI n, nI (d + 1), nI (p + 1), c + 1, st, op, arg, fs_psh stk (stk m), cel), ⟨n, d + 1, p + 1, c + 1, st, _, cel, fo, ft, ff, fd, op, arg, _, rfl, rfl, hn, by omega, by omega, by rw [e]; exact fs_srpush hS d8 _, hP⟩, fun post h => ?_, fun post h => ?_⟩
  · refine fs_xC post hn hd hp c st reg cel fo ft ff fd (by decide) (by decide) l1 l2 (l3.trans t1) (l4.trans (nI_1 d)) (fun Q hQ => ?_) h
    exact fs_cp2 Q _ _ _ _ _ _ _ _ _ _ _ d8 (by omega) hQ
  · refine fs_ya1 post hn hd hp c st op arg stk cel (by omega) ho ha hF ?_
    first | exact h | (rw [nI_1 d]; exact h) | (rw [fs_p1 (d := d) (by omega)]; exact h)
theorem fs_s2 {n d p : Nat} (hn : n ≤ 32) (hd : d ≤ 8) (hp : p < n) (c st : Int32) (reg cel fo ft ff fd op arg stk : Nat → Int32) (hS : fs_SR d reg stk) (hP : fs_PR n op arg fo ft ff fd) {m : Nat} (hm : m ≤ 7) (ho : op p = nI 2) (ha : arg p = nI m) (hL : fs_SL fo ft ff fd (p * 9 + d) (nI d) 2 (nI m)) (hF : ¬ (nI d < fs_vn 2 (nI m) ∨ ¬ nI d + fs_gr 2 ≤ 8)) : fs_St (nI n, nI d, nI p, c, st, reg, cel, fo, ft, ff, fd) (nI n, nI d, nI p, c, st, op, arg, stk, cel) := by
  have f1 : ¬ nI d < fs_vn 2 (nI m) := fun z => hF (Or.inl z)
  have f2 : nI d + fs_gr 2 ≤ 8 := Classical.byContradiction (fun z => hF (Or.inr z))
  obtain ⟨l1, l2, l3, l4⟩ := hL.2 f1 f2
  have d8 : d < 8 := fs_d8 hd f2
  refine ⟨(nI n, nI (d + 1), nI (p + 1), c + 1, st, upd reg d (cel m), cel, fo, ft, ff, fd), (nI n, nI (d + 1), nI (p + 1), c + 1, st, op, arg, fs_psh stk (cel m), cel), ⟨n, d + 1, p + 1, c + 1, st, _, cel, fo, ft, ff, fd, op, arg, _, rfl, rfl, hn, by omega, by omega, fs_srpush hS d8 _, hP⟩, fun post h => ?_, fun post h => ?_⟩
  · refine fs_xC post hn hd hp c st reg cel fo ft ff fd (by decide) (by decide) l1 l2 l3 (l4.trans (nI_1 d)) (fun Q hQ => ?_) h
    exact fs_cp3 Q _ _ _ _ _ _ _ _ _ _ _ d8 (by omega) hQ
  · refine fs_ya2 post hn hd hp c st op arg stk cel (by omega) ho ha hF ?_
    first | exact h | (rw [nI_1 d]; exact h) | (rw [fs_p1 (d := d) (by omega)]; exact h)
theorem fs_s3 {n d p : Nat} (hn : n ≤ 32) (hd : d ≤ 8) (hp : p < n) (c st : Int32) (reg cel fo ft ff fd op arg stk : Nat → Int32) (hS : fs_SR d reg stk) (hP : fs_PR n op arg fo ft ff fd) {m : Nat} (hm : m ≤ 7) (ho : op p = nI 3) (ha : arg p = nI m) (hL : fs_SL fo ft ff fd (p * 9 + d) (nI d) 3 (nI m)) (hF : ¬ (nI d < fs_vn 3 (nI m) ∨ ¬ nI d + fs_gr 3 ≤ 8)) : fs_St (nI n, nI d, nI p, c, st, reg, cel, fo, ft, ff, fd) (nI n, nI d, nI p, c, st, op, arg, stk, cel) := by
  have f1 : ¬ nI d < fs_vn 3 (nI m) := fun z => hF (Or.inl z)
  have f2 : nI d + fs_gr 3 ≤ 8 := Classical.byContradiction (fun z => hF (Or.inr z))
  obtain ⟨l1, l2, l3, l4⟩ := hL.2 f1 f2
  have d1 : 1 ≤ d := fs_d1 hd f1
  have t2 : nI d - 1 = nI (d - 1) := fs_p1 (by omega)
  have e : reg (d - 1) = stk 0 := hS 0 (by omega)
  refine ⟨(nI n, nI (d - 1), nI (p + 1), c + 1, st, reg, upd cel m (reg (d - 1)), fo, ft, ff, fd), (nI n, nI (d - 1), nI (p + 1), c + 1, st, op, arg, fs_pp stk, upd cel m (reg (d - 1))), ⟨n, d - 1, p + 1, c + 1, st, reg, _, fo, ft, ff, fd, op, arg, _, rfl, rfl, hn, by omega, by omega, fs_srpop hS hd, hP⟩, fun post h => ?_, fun post h => ?_⟩
  · refine fs_xC post hn hd hp c st reg cel fo ft ff fd (by decide) (by decide) l1 l2 (l3.trans t2) (l4.trans (fs_m1 d1)) (fun Q hQ => ?_) h
    exact fs_cp4 Q _ _ _ _ _ _ _ _ _ _ _ (by omega) (by omega) hQ
  · refine fs_ya3 post hn hd hp c st op arg stk cel (by omega) ho ha hF ?_
    rw [fs_p1 d1, ← e]
    exact h
theorem fs_s4 {n d p : Nat} (hn : n ≤ 32) (hd : d ≤ 8) (hp : p < n) (c st : Int32) (reg cel fo ft ff fd op arg stk : Nat → Int32) (hS : fs_SR d reg stk) (hP : fs_PR n op arg fo ft ff fd) {m : Nat} (hm : m ≤ 7) (ho : op p = nI 4) (ha : arg p = nI m) (hL : fs_SL fo ft ff fd (p * 9 + d) (nI d) 4 (nI m)) (hF : ¬ (nI d < fs_vn 4 (nI m) ∨ ¬ nI d + fs_gr 4 ≤ 8)) : fs_St (nI n, nI d, nI p, c, st, reg, cel, fo, ft, ff, fd) (nI n, nI d, nI p, c, st, op, arg, stk, cel) := by
  have f1 : ¬ nI d < fs_vn 4 (nI m) := fun z => hF (Or.inl z)
  have f2 : nI d + fs_gr 4 ≤ 8 := Classical.byContradiction (fun z => hF (Or.inr z))
  obtain ⟨l1, l2, l3, l4⟩ := hL.2 f1 f2
  have dm : m < d := fs_dm hd hm f1
  have t1 : nI d - 1 - nI m = nI (d - 1 - m) := fs_top dm
  have t2 : nI d - 1 = nI (d - 1) := fs_p1 (by omega)
  have e : reg (d - 1) = stk 0 := hS 0 (by omega)
  have em : reg (d - 1 - m) = stk m := hS m dm
  have z0 : nI d + 0 = nI d := Int32.add_zero _
  have s1 := fs_srupd (fs_srupd hS (t := 0) (by omega) (stk m)) dm (stk 0)
  refine ⟨(nI n, nI d, nI (p + 1), c + 1, st, upd (upd reg (d - 1) (reg (d - 1 - m))) (d - 1 - m) (reg (d - 1)), cel, fo, ft, ff, fd), (nI n, nI d, nI (p + 1), c + 1, st, op, arg, upd (upd stk 0 (stk m)) m (stk 0), cel), ⟨n, d, p + 1, c + 1, st, _, cel, fo, ft, ff, fd, op, arg, _, rfl, rfl, hn, by omega, by omega, by rw [e, em]; exact s1, hP⟩, fun post h => ?_, fun post h => ?_⟩
  · refine fs_xC post hn hd hp c st reg cel fo ft ff fd (by decide) (by decide) l1 (l2.trans t2) (l3.trans t1) (l4.trans z0) (fun Q hQ => ?_) h
    exact fs_cp5 Q _ _ _ _ _ _ _ _ _ _ _ (by omega) (by omega) hQ
  · refine fs_ya4 post hn hd hp c st op arg stk cel (by omega) ho ha hF ?_
    first | exact h | (rw [nI_1 d]; exact h) | (rw [fs_p1 (d := d) (by omega)]; exact h)
theorem fs_s5 {n d p : Nat} (hn : n ≤ 32) (hd : d ≤ 8) (hp : p < n) (c st : Int32) (reg cel fo ft ff fd op arg stk : Nat → Int32) (hS : fs_SR d reg stk) (hP : fs_PR n op arg fo ft ff fd) {m : Nat} (hm : m ≤ 7) (ho : op p = nI 5) (ha : arg p = nI m) (hL : fs_SL fo ft ff fd (p * 9 + d) (nI d) 5 (nI m)) (hF : ¬ (nI d < fs_vn 5 (nI m) ∨ ¬ nI d + fs_gr 5 ≤ 8)) : fs_St (nI n, nI d, nI p, c, st, reg, cel, fo, ft, ff, fd) (nI n, nI d, nI p, c, st, op, arg, stk, cel) := by
  have f1 : ¬ nI d < fs_vn 5 (nI m) := fun z => hF (Or.inl z)
  have f2 : nI d + fs_gr 5 ≤ 8 := Classical.byContradiction (fun z => hF (Or.inr z))
  obtain ⟨l1, l2, l3, l4⟩ := hL.2 f1 f2
  have dm : m < d := fs_dm hd hm f1
  have t1 : nI d - 1 - nI m = nI (d - 1 - m) := fs_top dm
  have t2 : nI d - 1 = nI (d - 1) := fs_p1 (by omega)
  have e : reg (d - 1) = stk 0 := hS 0 (by omega)
  have em : reg (d - 1 - m) = stk m := hS m dm
  have z0 : nI d + 0 = nI d := Int32.add_zero _
  have s1 := fs_srupd hS (t := 0) (by omega) (stk 0 + stk m)
  refine ⟨(nI n, nI d, nI (p + 1), c + 1, st, upd reg (d - 1) (reg (d - 1) + reg (d - 1 - m)), cel, fo, ft, ff, fd), (nI n, nI d, nI (p + 1), c + 1, st, op, arg, upd stk 0 (stk 0 + stk m), cel), ⟨n, d, p + 1, c + 1, st, _, cel, fo, ft, ff, fd, op, arg, _, rfl, rfl, hn, by omega, by omega, by rw [e, em]; exact s1, hP⟩, fun post h => ?_, fun post h => ?_⟩
  · refine fs_xC post hn hd hp c st reg cel fo ft ff fd (by decide) (by decide) l1 (l2.trans t2) (l3.trans t1) (l4.trans z0) (fun Q hQ => ?_) h
    exact fs_cp6 Q _ _ _ _ _ _ _ _ _ _ _ (by omega) (by omega) hQ
  · refine fs_ya5 post hn hd hp c st op arg stk cel (by omega) ho ha hF ?_
    first | exact h | (rw [nI_1 d]; exact h) | (rw [fs_p1 (d := d) (by omega)]; exact h)
theorem fs_s6 {n d p : Nat} (hn : n ≤ 32) (hd : d ≤ 8) (hp : p < n) (c st : Int32) (reg cel fo ft ff fd op arg stk : Nat → Int32) (hS : fs_SR d reg stk) (hP : fs_PR n op arg fo ft ff fd) {m : Nat} (hm : m ≤ 7) (ho : op p = nI 6) (ha : arg p = nI m) (hL : fs_SL fo ft ff fd (p * 9 + d) (nI d) 6 (nI m)) (hF : ¬ (nI d < fs_vn 6 (nI m) ∨ ¬ nI d + fs_gr 6 ≤ 8)) : fs_St (nI n, nI d, nI p, c, st, reg, cel, fo, ft, ff, fd) (nI n, nI d, nI p, c, st, op, arg, stk, cel) := by
  have f1 : ¬ nI d < fs_vn 6 (nI m) := fun z => hF (Or.inl z)
  have f2 : nI d + fs_gr 6 ≤ 8 := Classical.byContradiction (fun z => hF (Or.inr z))
  obtain ⟨l1, l2, l3, l4⟩ := hL.2 f1 f2
  have dm : m < d := fs_dm hd hm f1
  have t1 : nI d - 1 - nI m = nI (d - 1 - m) := fs_top dm
  have t2 : nI d - 1 = nI (d - 1) := fs_p1 (by omega)
  have e : reg (d - 1) = stk 0 := hS 0 (by omega)
  have em : reg (d - 1 - m) = stk m := hS m dm
  have z0 : nI d + 0 = nI d := Int32.add_zero _
  have s1 := fs_srupd hS (t := 0) (by omega) (stk 0 - stk m)
  refine ⟨(nI n, nI d, nI (p + 1), c + 1, st, upd reg (d - 1) (reg (d - 1) - reg (d - 1 - m)), cel, fo, ft, ff, fd), (nI n, nI d, nI (p + 1), c + 1, st, op, arg, upd stk 0 (stk 0 - stk m), cel), ⟨n, d, p + 1, c + 1, st, _, cel, fo, ft, ff, fd, op, arg, _, rfl, rfl, hn, by omega, by omega, by rw [e, em]; exact s1, hP⟩, fun post h => ?_, fun post h => ?_⟩
  · refine fs_xC post hn hd hp c st reg cel fo ft ff fd (by decide) (by decide) l1 (l2.trans t2) (l3.trans t1) (l4.trans z0) (fun Q hQ => ?_) h
    exact fs_cp7 Q _ _ _ _ _ _ _ _ _ _ _ (by omega) (by omega) hQ
  · refine fs_ya6 post hn hd hp c st op arg stk cel (by omega) ho ha hF ?_
    first | exact h | (rw [nI_1 d]; exact h) | (rw [fs_p1 (d := d) (by omega)]; exact h)
theorem fs_s7 {n d p : Nat} (hn : n ≤ 32) (hd : d ≤ 8) (hp : p < n) (c st : Int32) (reg cel fo ft ff fd op arg stk : Nat → Int32) (hS : fs_SR d reg stk) (hP : fs_PR n op arg fo ft ff fd) {m : Nat} (hm : m ≤ 7) (ho : op p = nI 7) (ha : arg p = nI m) (hL : fs_SL fo ft ff fd (p * 9 + d) (nI d) 7 (nI m)) (hF : ¬ (nI d < fs_vn 7 (nI m) ∨ ¬ nI d + fs_gr 7 ≤ 8)) : fs_St (nI n, nI d, nI p, c, st, reg, cel, fo, ft, ff, fd) (nI n, nI d, nI p, c, st, op, arg, stk, cel) := by
  have f1 : ¬ nI d < fs_vn 7 (nI m) := fun z => hF (Or.inl z)
  have f2 : nI d + fs_gr 7 ≤ 8 := Classical.byContradiction (fun z => hF (Or.inr z))
  obtain ⟨l1, l2, l3, l4⟩ := hL.2 f1 f2
  have dm : m < d := fs_dm hd hm f1
  have t1 : nI d - 1 - nI m = nI (d - 1 - m) := fs_top dm
  have t2 : nI d - 1 = nI (d - 1) := fs_p1 (by omega)
  have e : reg (d - 1) = stk 0 := hS 0 (by omega)
  have em : reg (d - 1 - m) = stk m := hS m dm
  have z0 : nI d + 0 = nI d := Int32.add_zero _
  have s1 := fs_srupd hS (t := 0) (by omega) (stk 0 * stk m)
  refine ⟨(nI n, nI d, nI (p + 1), c + 1, st, upd reg (d - 1) (reg (d - 1) * reg (d - 1 - m)), cel, fo, ft, ff, fd), (nI n, nI d, nI (p + 1), c + 1, st, op, arg, upd stk 0 (stk 0 * stk m), cel), ⟨n, d, p + 1, c + 1, st, _, cel, fo, ft, ff, fd, op, arg, _, rfl, rfl, hn, by omega, by omega, by rw [e, em]; exact s1, hP⟩, fun post h => ?_, fun post h => ?_⟩
  · refine fs_xC post hn hd hp c st reg cel fo ft ff fd (by decide) (by decide) l1 (l2.trans t2) (l3.trans t1) (l4.trans z0) (fun Q hQ => ?_) h
    exact fs_cp8 Q _ _ _ _ _ _ _ _ _ _ _ (by omega) (by omega) hQ
  · refine fs_ya7 post hn hd hp c st op arg stk cel (by omega) ho ha hF ?_
    first | exact h | (rw [nI_1 d]; exact h) | (rw [fs_p1 (d := d) (by omega)]; exact h)
theorem fs_s8 {n d p : Nat} (hn : n ≤ 32) (hd : d ≤ 8) (hp : p < n) (c st : Int32) (reg cel fo ft ff fd op arg stk : Nat → Int32) (hS : fs_SR d reg stk) (hP : fs_PR n op arg fo ft ff fd) {m : Nat} (hm : m ≤ 7) (ho : op p = nI 8) (ha : arg p = nI m) (hL : fs_SL fo ft ff fd (p * 9 + d) (nI d) 8 (nI m)) (hF : ¬ (nI d < fs_vn 8 (nI m) ∨ ¬ nI d + fs_gr 8 ≤ 8)) : fs_St (nI n, nI d, nI p, c, st, reg, cel, fo, ft, ff, fd) (nI n, nI d, nI p, c, st, op, arg, stk, cel) := by
  have f1 : ¬ nI d < fs_vn 8 (nI m) := fun z => hF (Or.inl z)
  have f2 : nI d + fs_gr 8 ≤ 8 := Classical.byContradiction (fun z => hF (Or.inr z))
  obtain ⟨l1, l2, l3, l4⟩ := hL.2 f1 f2
  have dm : m < d := fs_dm hd hm f1
  have t1 : nI d - 1 - nI m = nI (d - 1 - m) := fs_top dm
  have t2 : nI d - 1 = nI (d - 1) := fs_p1 (by omega)
  have e : reg (d - 1) = stk 0 := hS 0 (by omega)
  have em : reg (d - 1 - m) = stk m := hS m dm
  have s1 := fs_srpop (fs_srupd hS dm (stk m + stk 0)) hd
  refine ⟨(nI n, nI (d - 1), nI (p + 1), c + 1, st, upd reg (d - 1 - m) (reg (d - 1 - m) + reg (d - 1)), cel, fo, ft, ff, fd), (nI n, nI (d - 1), nI (p + 1), c + 1, st, op, arg, fs_pp (upd stk m (stk m + stk 0)), cel), ⟨n, d - 1, p + 1, c + 1, st, _, cel, fo, ft, ff, fd, op, arg, _, rfl, rfl, hn, by omega, by omega, by rw [e, em]; exact s1, hP⟩, fun post h => ?_, fun post h => ?_⟩
  · refine fs_xC post hn hd hp c st reg cel fo ft ff fd (by decide) (by decide) l1 (l2.trans t1) (l3.trans t2) (l4.trans (fs_m1 (by omega))) (fun Q hQ => ?_) h
    exact fs_cp6 Q _ _ _ _ _ _ _ _ _ _ _ (by omega) (by omega) hQ
  · refine fs_ya8 post hn hd hp c st op arg stk cel (by omega) ho ha hF ?_
    first | exact h | (rw [nI_1 d]; exact h) | (rw [fs_p1 (d := d) (by omega)]; exact h)
theorem fs_s9 {n d p : Nat} (hn : n ≤ 32) (hd : d ≤ 8) (hp : p < n) (c st : Int32) (reg cel fo ft ff fd op arg stk : Nat → Int32) (hS : fs_SR d reg stk) (hP : fs_PR n op arg fo ft ff fd) {m : Nat} (hm : m ≤ 7) (ho : op p = nI 9) (ha : arg p = nI m) (hL : fs_SL fo ft ff fd (p * 9 + d) (nI d) 9 (nI m)) (hF : ¬ (nI d < fs_vn 9 (nI m) ∨ ¬ nI d + fs_gr 9 ≤ 8)) : fs_St (nI n, nI d, nI p, c, st, reg, cel, fo, ft, ff, fd) (nI n, nI d, nI p, c, st, op, arg, stk, cel) := by
  have f1 : ¬ nI d < fs_vn 9 (nI m) := fun z => hF (Or.inl z)
  have f2 : nI d + fs_gr 9 ≤ 8 := Classical.byContradiction (fun z => hF (Or.inr z))
  obtain ⟨l1, l2, l3, l4⟩ := hL.2 f1 f2
  have dm : m < d := fs_dm hd hm f1
  have t1 : nI d - 1 - nI m = nI (d - 1 - m) := fs_top dm
  have t2 : nI d - 1 = nI (d - 1) := fs_p1 (by omega)
  have e : reg (d - 1) = stk 0 := hS 0 (by omega)
  have em : reg (d - 1 - m) = stk m := hS m dm
  have s1 := fs_srpop (fs_srupd hS dm (stk m - stk 0)) hd
  refine ⟨(nI n, nI (d - 1), nI (p + 1), c + 1, st, upd reg (d - 1 - m) (reg (d - 1 - m) - reg (d - 1)), cel, fo, ft, ff, fd), (nI n, nI (d - 1), nI (p + 1), c + 1, st, op, arg, fs_pp (upd stk m (stk m - stk 0)), cel), ⟨n, d - 1, p + 1, c + 1, st, _, cel, fo, ft, ff, fd, op, arg, _, rfl, rfl, hn, by omega, by omega, by rw [e, em]; exact s1, hP⟩, fun post h => ?_, fun post h => ?_⟩
  · refine fs_xC post hn hd hp c st reg cel fo ft ff fd (by decide) (by decide) l1 (l2.trans t1) (l3.trans t2) (l4.trans (fs_m1 (by omega))) (fun Q hQ => ?_) h
    exact fs_cp7 Q _ _ _ _ _ _ _ _ _ _ _ (by omega) (by omega) hQ
  · refine fs_ya9 post hn hd hp c st op arg stk cel (by omega) ho ha hF ?_
    first | exact h | (rw [nI_1 d]; exact h) | (rw [fs_p1 (d := d) (by omega)]; exact h)
theorem fs_s12 {n d p : Nat} (hn : n ≤ 32) (hd : d ≤ 8) (hp : p < n) (c st : Int32) (reg cel fo ft ff fd op arg stk : Nat → Int32) (hS : fs_SR d reg stk) (hP : fs_PR n op arg fo ft ff fd) {m : Nat} (hm : m ≤ 31) (ho : op p = nI 12) (ha : arg p = nI m) (hL : fs_SL fo ft ff fd (p * 9 + d) (nI d) 12 (nI m)) (hF : ¬ (nI d < fs_vn 12 (nI m) ∨ ¬ nI d + fs_gr 12 ≤ 8)) : fs_St (nI n, nI d, nI p, c, st, reg, cel, fo, ft, ff, fd) (nI n, nI d, nI p, c, st, op, arg, stk, cel) := by
  have f1 : ¬ nI d < fs_vn 12 (nI m) := fun z => hF (Or.inl z)
  have f2 : nI d + fs_gr 12 ≤ 8 := Classical.byContradiction (fun z => hF (Or.inr z))
  obtain ⟨l1, l2, l3, l4⟩ := hL.2 f1 f2
  have z0 : nI d + 0 = nI d := Int32.add_zero _
  refine ⟨(nI n, nI d, nI m, c + 1, st, reg, cel, fo, ft, ff, fd), (nI n, nI d, nI m, c + 1, st, op, arg, stk, cel), ⟨n, d, m, c + 1, st, reg, cel, fo, ft, ff, fd, op, arg, stk, rfl, rfl, hn, by omega, by omega, hS, hP⟩, fun post h => ?_, fun post h => ?_⟩
  · refine fs_xS post hn hd hp c st reg cel fo ft ff fd (by decide) (by decide) l1 l2 l3 (l4.trans z0) (fun Q hQ => ?_) h
    exact fs_sg Q _ _ _ _ _ _ _ _ _ _ _ _ _ hQ
  · exact fs_ya12 post hn hd hp c st op arg stk cel _ ho ha hF h
theorem fs_s13 {n d p : Nat} (hn : n ≤ 32) (hd : d ≤ 8) (hp : p < n) (c st : Int32) (reg cel fo ft ff fd op arg stk : Nat → Int32) (hS : fs_SR d reg stk) (hP : fs_PR n op arg fo ft ff fd) (a : Int32) (ho : op p = nI 13) (ha : arg p = a) (hL : fs_SL fo ft ff fd (p * 9 + d) (nI d) 13 (a)) (hF : ¬ (nI d < fs_vn 13 (a) ∨ ¬ nI d + fs_gr 13 ≤ 8)) : fs_St (nI n, nI d, nI p, c, st, reg, cel, fo, ft, ff, fd) (nI n, nI d, nI p, c, st, op, arg, stk, cel) := by
  have f1 : ¬ nI d < fs_vn 13 (a) := fun z => hF (Or.inl z)
  have f2 : nI d + fs_gr 13 ≤ 8 := Classical.byContradiction (fun z => hF (Or.inr z))
  obtain ⟨l1, l2, l3, l4⟩ := hL.2 f1 f2
  have z0 : nI d + 0 = nI d := Int32.add_zero _
  refine ⟨(nI n, nI d, nI p, c + 1, 1, reg, cel, fo, ft, ff, fd), (nI n, nI d, nI p, c + 1, 1, op, arg, stk, cel), ⟨n, d, p, c + 1, 1, reg, cel, fo, ft, ff, fd, op, arg, stk, rfl, rfl, hn, by omega, by omega, hS, hP⟩, fun post h => ?_, fun post h => ?_⟩
  · refine fs_xS post hn hd hp c st reg cel fo ft ff fd (by decide) (by decide) l1 l2 l3 (l4.trans z0) (fun Q hQ => ?_) h
    exact fs_sh Q _ _ _ _ _ _ _ _ _ _ _ _ _ hQ
  · exact fs_ya13 post hn hd hp c st op arg stk cel a ho ha hF h
theorem fs_s10t {n d p : Nat} (hn : n ≤ 32) (hd : d ≤ 8) (hp : p < n) (c st : Int32) (reg cel fo ft ff fd op arg stk : Nat → Int32) (hS : fs_SR d reg stk) (hP : fs_PR n op arg fo ft ff fd) {m : Nat} (hm : m ≤ 31) (hz : reg (d - 1) = 0) (ho : op p = nI 10) (ha : arg p = nI m) (hL : fs_SL fo ft ff fd (p * 9 + d) (nI d) 10 (nI m)) (hF : ¬ (nI d < fs_vn 10 (nI m) ∨ ¬ nI d + fs_gr 10 ≤ 8)) : fs_St (nI n, nI d, nI p, c, st, reg, cel, fo, ft, ff, fd) (nI n, nI d, nI p, c, st, op, arg, stk, cel) := by
  have f1 : ¬ nI d < fs_vn 10 (nI m) := fun z => hF (Or.inl z)
  have f2 : nI d + fs_gr 10 ≤ 8 := Classical.byContradiction (fun z => hF (Or.inr z))
  obtain ⟨l1, l2, l3, l4⟩ := hL.2 f1 f2
  have d1 : 1 ≤ d := fs_d1 hd f1
  have t2 : nI d - 1 = nI (d - 1) := fs_p1 (by omega)
  have e : reg (d - 1) = stk 0 := hS 0 (by omega)
  refine ⟨(nI n, nI (d - 1), nI m, c + 1, st, reg, cel, fo, ft, ff, fd), (nI n, nI (d - 1), nI m, c + 1, st, op, arg, fs_pp stk, cel), ⟨n, d - 1, m, c + 1, st, reg, cel, fo, ft, ff, fd, op, arg, _, rfl, rfl, hn, by omega, by omega, fs_srpop hS hd, hP⟩, fun post h => ?_, fun post h => ?_⟩
  · refine fs_xS post hn hd hp c st reg cel fo ft ff fd (by decide) (by decide) l1 l2 (l3.trans t2) (l4.trans (fs_m1 d1)) (fun Q hQ => ?_) h
    exact fs_sz Q _ _ _ _ _ _ _ _ _ _ _ _ (f := d - 1) (by omega) (fun _ => hQ) (fun z => absurd hz z)
  · rw [← fs_p1 d1] at h
    rw [e] at hz
    exact fs_ya10 post hn hd hp c st op arg stk cel _ ho ha hF (fun _ => h) (fun z => absurd hz z)
theorem fs_s10f {n d p : Nat} (hn : n ≤ 32) (hd : d ≤ 8) (hp : p < n) (c st : Int32) (reg cel fo ft ff fd op arg stk : Nat → Int32) (hS : fs_SR d reg stk) (hP : fs_PR n op arg fo ft ff fd) {m : Nat} (hm : m ≤ 31) (hz : ¬ reg (d - 1) = 0) (ho : op p = nI 10) (ha : arg p = nI m) (hL : fs_SL fo ft ff fd (p * 9 + d) (nI d) 10 (nI m)) (hF : ¬ (nI d < fs_vn 10 (nI m) ∨ ¬ nI d + fs_gr 10 ≤ 8)) : fs_St (nI n, nI d, nI p, c, st, reg, cel, fo, ft, ff, fd) (nI n, nI d, nI p, c, st, op, arg, stk, cel) := by
  have f1 : ¬ nI d < fs_vn 10 (nI m) := fun z => hF (Or.inl z)
  have f2 : nI d + fs_gr 10 ≤ 8 := Classical.byContradiction (fun z => hF (Or.inr z))
  obtain ⟨l1, l2, l3, l4⟩ := hL.2 f1 f2
  have d1 : 1 ≤ d := fs_d1 hd f1
  have t2 : nI d - 1 = nI (d - 1) := fs_p1 (by omega)
  have e : reg (d - 1) = stk 0 := hS 0 (by omega)
  refine ⟨(nI n, nI (d - 1), nI (p + 1), c + 1, st, reg, cel, fo, ft, ff, fd), (nI n, nI (d - 1), nI (p + 1), c + 1, st, op, arg, fs_pp stk, cel), ⟨n, d - 1, p + 1, c + 1, st, reg, cel, fo, ft, ff, fd, op, arg, _, rfl, rfl, hn, by omega, by omega, fs_srpop hS hd, hP⟩, fun post h => ?_, fun post h => ?_⟩
  · refine fs_xS post hn hd hp c st reg cel fo ft ff fd (by decide) (by decide) l1 l2 (l3.trans t2) (l4.trans (fs_m1 d1)) (fun Q hQ => ?_) h
    rw [← nI_1 p] at hQ
    exact fs_sz Q _ _ _ _ _ _ _ _ _ _ _ _ (f := d - 1) (by omega) (fun z => absurd z hz) (fun _ => hQ)
  · rw [← fs_p1 d1] at h
    rw [e] at hz
    exact fs_ya10 post hn hd hp c st op arg stk cel _ ho ha hF (fun z => absurd z hz) (fun _ => h)
theorem fs_s11t {n d p : Nat} (hn : n ≤ 32) (hd : d ≤ 8) (hp : p < n) (c st : Int32) (reg cel fo ft ff fd op arg stk : Nat → Int32) (hS : fs_SR d reg stk) (hP : fs_PR n op arg fo ft ff fd) {m : Nat} (hm : m ≤ 31) (hz : 0 ≤ reg (d - 1)) (ho : op p = nI 11) (ha : arg p = nI m) (hL : fs_SL fo ft ff fd (p * 9 + d) (nI d) 11 (nI m)) (hF : ¬ (nI d < fs_vn 11 (nI m) ∨ ¬ nI d + fs_gr 11 ≤ 8)) : fs_St (nI n, nI d, nI p, c, st, reg, cel, fo, ft, ff, fd) (nI n, nI d, nI p, c, st, op, arg, stk, cel) := by
  have f1 : ¬ nI d < fs_vn 11 (nI m) := fun z => hF (Or.inl z)
  have f2 : nI d + fs_gr 11 ≤ 8 := Classical.byContradiction (fun z => hF (Or.inr z))
  obtain ⟨l1, l2, l3, l4⟩ := hL.2 f1 f2
  have d1 : 1 ≤ d := fs_d1 hd f1
  have t2 : nI d - 1 = nI (d - 1) := fs_p1 (by omega)
  have e : reg (d - 1) = stk 0 := hS 0 (by omega)
  refine ⟨(nI n, nI (d - 1), nI (p + 1), c + 1, st, reg, cel, fo, ft, ff, fd), (nI n, nI (d - 1), nI (p + 1), c + 1, st, op, arg, fs_pp stk, cel), ⟨n, d - 1, p + 1, c + 1, st, reg, cel, fo, ft, ff, fd, op, arg, _, rfl, rfl, hn, by omega, by omega, fs_srpop hS hd, hP⟩, fun post h => ?_, fun post h => ?_⟩
  · refine fs_xS post hn hd hp c st reg cel fo ft ff fd (by decide) (by decide) l1 l2 (l3.trans t2) (l4.trans (fs_m1 d1)) (fun Q hQ => ?_) h
    rw [← nI_1 p] at hQ
    exact fs_sn Q _ _ _ _ _ _ _ _ _ _ _ _ (f := d - 1) (by omega) (fun _ => hQ) (fun z => absurd hz z)
  · rw [← fs_p1 d1] at h
    rw [e] at hz
    exact fs_ya11 post hn hd hp c st op arg stk cel _ ho ha hF (fun _ => h) (fun z => absurd hz z)
theorem fs_s11f {n d p : Nat} (hn : n ≤ 32) (hd : d ≤ 8) (hp : p < n) (c st : Int32) (reg cel fo ft ff fd op arg stk : Nat → Int32) (hS : fs_SR d reg stk) (hP : fs_PR n op arg fo ft ff fd) {m : Nat} (hm : m ≤ 31) (hz : ¬ 0 ≤ reg (d - 1)) (ho : op p = nI 11) (ha : arg p = nI m) (hL : fs_SL fo ft ff fd (p * 9 + d) (nI d) 11 (nI m)) (hF : ¬ (nI d < fs_vn 11 (nI m) ∨ ¬ nI d + fs_gr 11 ≤ 8)) : fs_St (nI n, nI d, nI p, c, st, reg, cel, fo, ft, ff, fd) (nI n, nI d, nI p, c, st, op, arg, stk, cel) := by
  have f1 : ¬ nI d < fs_vn 11 (nI m) := fun z => hF (Or.inl z)
  have f2 : nI d + fs_gr 11 ≤ 8 := Classical.byContradiction (fun z => hF (Or.inr z))
  obtain ⟨l1, l2, l3, l4⟩ := hL.2 f1 f2
  have d1 : 1 ≤ d := fs_d1 hd f1
  have t2 : nI d - 1 = nI (d - 1) := fs_p1 (by omega)
  have e : reg (d - 1) = stk 0 := hS 0 (by omega)
  refine ⟨(nI n, nI (d - 1), nI m, c + 1, st, reg, cel, fo, ft, ff, fd), (nI n, nI (d - 1), nI m, c + 1, st, op, arg, fs_pp stk, cel), ⟨n, d - 1, m, c + 1, st, reg, cel, fo, ft, ff, fd, op, arg, _, rfl, rfl, hn, by omega, by omega, fs_srpop hS hd, hP⟩, fun post h => ?_, fun post h => ?_⟩
  · refine fs_xS post hn hd hp c st reg cel fo ft ff fd (by decide) (by decide) l1 l2 (l3.trans t2) (l4.trans (fs_m1 d1)) (fun Q hQ => ?_) h
    exact fs_sn Q _ _ _ _ _ _ _ _ _ _ _ _ (f := d - 1) (by omega) (fun z => absurd z hz) (fun _ => hQ)
  · rw [← fs_p1 d1] at h
    rw [e] at hz
    exact fs_ya11 post hn hd hp c st op arg stk cel _ ho ha hF (fun z => absurd z hz) (fun _ => h)
theorem fs_step {u : SX} {v : SY} (h : fs_R u v) : fs_St u v := by
  obtain ⟨n, d, p, c, st, reg, cel, fo, ft, ff, fd, op, arg, stk, rfl, rfl, hn, hd, hp, hS, hP⟩ := h
  by_cases hpn : p < n
  · obtain ⟨j, ho, hok, hL⟩ := hP p hpn
    have hL := hL d (by omega)
    by_cases hF : nI d < fs_vn j (arg p) ∨ ¬ nI d + fs_gr j ≤ 8
    · exact ⟨_, _, ⟨n, d, p, c, 2, reg, cel, fo, ft, ff, fd, op, arg, stk, rfl, rfl, hn, hd, hp, hS, hP⟩, fun post h => fs_xF post hn hd hpn c st reg cel fo ft ff fd (hL.1 hF) h, fun post h => fs_yaF post hn hd hpn c st op arg stk cel (fs_ok14 hok) _ ho rfl hF h⟩
    · generalize ha : arg p = a at hok hL hF
      rcases hok with rfl | rfl | ⟨g1, g2, m, hm, rfl⟩ | ⟨g1, g2, m, _, hm, rfl⟩ | ⟨g1, g2, m, hm, rfl⟩
      · exact fs_s0 hn hd hpn c st reg cel fo ft ff fd op arg stk hS hP a ho ha hL hF
      · exact fs_s13 hn hd hpn c st reg cel fo ft ff fd op arg stk hS hP a ho ha hL hF
      · have h7 : j = 1 ∨ j = 2 ∨ j = 3 ∨ j = 4 ∨ j = 5 ∨ j = 6 ∨ j = 7 := by omega
        rcases h7 with rfl | rfl | rfl | rfl | rfl | rfl | rfl
        · exact fs_s1 hn hd hpn c st reg cel fo ft ff fd op arg stk hS hP hm ho ha hL hF
        · exact fs_s2 hn hd hpn c st reg cel fo ft ff fd op arg stk hS hP hm ho ha hL hF
        · exact fs_s3 hn hd hpn c st reg cel fo ft ff fd op arg stk hS hP hm ho ha hL hF
        · exact fs_s4 hn hd hpn c st reg cel fo ft ff fd op arg stk hS hP hm ho ha hL hF
        · exact fs_s5 hn hd hpn c st reg cel fo ft ff fd op arg stk hS hP hm ho ha hL hF
        · exact fs_s6 hn hd hpn c st reg cel fo ft ff fd op arg stk hS hP hm ho ha hL hF
        · exact fs_s7 hn hd hpn c st reg cel fo ft ff fd op arg stk hS hP hm ho ha hL hF
      · have h7 : j = 8 ∨ j = 9 := by omega
        rcases h7 with rfl | rfl
        · exact fs_s8 hn hd hpn c st reg cel fo ft ff fd op arg stk hS hP hm ho ha hL hF
        · exact fs_s9 hn hd hpn c st reg cel fo ft ff fd op arg stk hS hP hm ho ha hL hF
      · have h7 : j = 10 ∨ j = 11 ∨ j = 12 := by omega
        rcases h7 with rfl | rfl | rfl
        · by_cases hz : reg (d - 1) = 0
          · exact fs_s10t hn hd hpn c st reg cel fo ft ff fd op arg stk hS hP hm hz ho ha hL hF
          · exact fs_s10f hn hd hpn c st reg cel fo ft ff fd op arg stk hS hP hm hz ho ha hL hF
        · by_cases hz : 0 ≤ reg (d - 1)
          · exact fs_s11t hn hd hpn c st reg cel fo ft ff fd op arg stk hS hP hm hz ho ha hL hF
          · exact fs_s11f hn hd hpn c st reg cel fo ft ff fd op arg stk hS hP hm hz ho ha hL hF
        · exact fs_s12 hn hd hpn c st reg cel fo ft ff fd op arg stk hS hP hm ho ha hL hF
  · have hx : ¬ nI p < nI n := nI_nlt (by omega) (by omega)
    have hy : nI n ≤ nI p := nI_le (by omega) (by omega)
    exact ⟨_, _, ⟨n, d, p, c, 2, reg, cel, fo, ft, ff, fd, op, arg, stk, rfl, rfl, hn, hd, hp, hS, hP⟩, fun post h => br_f hx h, fun post h => br_t hy h⟩
theorem fs_run (t : Nat) (ht : t ≤ 200) : ∀ (m k : Nat) (u : SX) (v : SY), k + m = t → fs_R u v → ∃ (u' : SX) (v' : SY) (r : Int32), fs_R u' v' ∧
    (∀ post : Int32 → SX → Prop, post r u' → match u with | (n, d, p, c, st, reg, cel, fo, ft, ff, fd) => wX_run_17 post (nI t) (m + 1) (nI k) n d p c st reg cel fo ft ff fd) ∧
    (∀ post : Int32 → SY → Prop, post r v' → match v with | (n, d, p, c, st, op, arg, stk, mem) => wY_run_25 post (nI t) (m + 1) (nI k) n d p c st op arg stk mem) := by
  intro m
  induction m with
  | zero =>
    intro k u v hk hR
    obtain ⟨n, d, p, c, st, reg, cel, fo, ft, ff, fd, op, arg, stk, rfl, rfl, hrest⟩ := hR
    have h1 : nI t ≤ nI k := nI_le (by omega) (by omega)
    exact ⟨_, _, st, ⟨n, d, p, c, st, reg, cel, fo, ft, ff, fd, op, arg, stk, rfl, rfl, hrest⟩, fun post h => br_t h1 h, fun post h => br_t h1 h⟩
  | succ m ih =>
    intro k u v hk hR
    have hst := fs_step hR
    obtain ⟨n, d, p, c, st, reg, cel, fo, ft, ff, fd, op, arg, stk, rfl, rfl, hrest⟩ := hR
    have h1 : ¬ nI t ≤ nI k := nI_ge (by omega) (by omega)
    by_cases h0 : st = 0
    · obtain ⟨u1, v1, hR1, hX1, hY1⟩ := hst
      obtain ⟨u2, v2, r, hR2, hX2, hY2⟩ := ih (k + 1) u1 v1 (by omega) hR1
      obtain ⟨n1, d1, p1, c1, st1, reg1, cel1, fo1, ft1, ff1, fd1, op1, arg1, stk1, rfl, rfl, hrest1⟩ := hR1
      refine ⟨u2, v2, r, hR2, fun post h => br_f h1 (br_t h0 ?_), fun post h => br_f h1 (br_t h0 ?_)⟩
      · refine hX1 _ ?_
        exact nm_r (nI_1 k) (hX2 post h)
      · refine hY1 _ ?_
        exact nm_r (nI_1 k) (hY2 post h)
    · exact ⟨_, _, st, ⟨n, d, p, c, st, reg, cel, fo, ft, ff, fd, op, arg, stk, rfl, rfl, hrest⟩, fun post h => br_f h1 (br_f h0 h), fun post h => br_f h1 (br_f h0 h)⟩
theorem i_vc_run {k : Nat} {u : SX} {v : SY} (I : i_Rel k u v) (hk : k + 4 ≤ 2048) (v1 : Int32) : wpX_run (fun r u' => wpY_run (fun r' v' => r' = r ∧ i_Rel (k + 4) u' v') v v1) u v1 := by
  have hI : fs_R u v := I
  rcases pk_ix v1 (n := 201) (by decide) with ha | ha | ⟨m, hm, rfl⟩
  · obtain ⟨n, d, p, c, st, reg, cel, fo, ft, ff, fd, op, arg, stk, rfl, rfl, hrest⟩ := I
    have l0 : ¬ (0 : Int32) ≤ v1 := Int32.not_le.mpr ha
    have l1 : v1 ≤ (0 : Int32) := Int32.le_of_lt ha
    have l2 : v1 ≤ (200 : Int32) := Int32.le_trans l1 (by decide)
    exact br_t l2 ⟨1, br_t l1 (br_f l0 ⟨1, br_t (by decide) ⟨rfl, hI⟩⟩)⟩
  · have h0 : (0 : Int32) ≤ v1 := Int32.not_lt.mp (fs_nl (c := 0) (by decide) (by decide) ha)
    have h2 : ¬ v1 ≤ (200 : Int32) := fun z => absurd (fs_lo (b := 200) (by decide) ha) (Int32.not_lt.mpr z)
    obtain ⟨u', v', r, hR, hX, hY⟩ := fs_run 200 (by decide) 200 0 u v rfl hI
    obtain ⟨n, d, p, c, st, reg, cel, fo, ft, ff, fd, op, arg, stk, rfl, rfl, hrest⟩ := I
    refine br_f h2 ⟨201, hX _ ?_⟩
    exact br_t h0 (br_f h2 ⟨201, hY _ ⟨rfl, hR⟩⟩)
  · have h0 : (0 : Int32) ≤ nI m := nI_pos' (by omega)
    have h2 : nI m ≤ (200 : Int32) := nI_le (b := 200) (by omega) (by decide)
    obtain ⟨u', v', r, hR, hX, hY⟩ := fs_run m (by omega) m 0 u v (by omega) hI
    obtain ⟨n, d, p, c, st, reg, cel, fo, ft, ff, fd, op, arg, stk, rfl, rfl, hrest⟩ := I
    refine br_t h2 ⟨m + 1, hX _ ?_⟩
    exact br_t h0 (br_t h2 ⟨m + 1, hY _ ⟨rfl, hR⟩⟩)
