/-! a bit by X's test and by Y's -/
theorem vt_b1 : ∀ i, i < 32 → bt 1 i = decide (i = 0) := by decide +kernel
theorem vt_xbit (w : Int32) (k : Nat) (hk : k < 32) : (w &&& ((1 : Int32) <<< (nI k &&& 31))) = 0 ↔ bt w k = false := by
  constructor
  · intro h
    have e : bt (w &&& ((1 : Int32) <<< (nI k &&& 31))) k = bt 0 k := by rw [h]
    rw [b_and, b_shl k hk 1 hk, b_0, Nat.sub_self, vt_b1 0 (by omega)] at e
    simpa using e
  · intro h
    apply b_ext
    intro i hi
    rw [b_and, b_shl k hk 1 hi, b_0]
    by_cases e : i = k
    · rw [e, h, Bool.false_and]
    · by_cases l : k ≤ i
      · rw [vt_b1 (i - k) (by omega), decide_eq_false (p := i - k = 0) (by omega), Bool.and_false, Bool.and_false]
      · rw [decide_eq_false l, Bool.false_and, Bool.and_false]
theorem vt_ybit (w : Int32) (k : Nat) (hk : k < 32) : ((w >>> (nI k &&& 31)) &&& 1) = if bt w k = true then 1 else 0 := by
  apply b_ext
  intro i hi
  rw [b_and, b_sshr k hk w hi, vt_b1 i hi]
  by_cases e : i = 0
  · subst e
    rw [Nat.add_zero, if_pos hk]
    cases bt w k
    · rw [if_neg (by decide), b_0]; rfl
    · rw [if_pos rfl, vt_b1 0 (by omega)]; rfl
  · rw [decide_eq_false e, Bool.and_false]
    by_cases h : bt w k = true
    · rw [if_pos h, vt_b1 i hi, decide_eq_false e]
    · rw [if_neg h, b_0]
/-! X's place p is Y's table vt_rt p -/
def vt_rt (p : Nat) : Nat := if p = 4 then 0 else p + 1
theorem vt_rt4 : vt_rt 4 = 0 := rfl
theorem vt_rtl {p : Nat} (h : p < 4) : vt_rt p = p + 1 := if_neg (by omega)
theorem vt_rt_lt {p : Nat} (h : p < 5) : vt_rt p < 5 := by
  by_cases e : p = 4
  · rw [e, vt_rt4]; omega
  · rw [vt_rtl (by omega)]; omega
theorem vt_rt_inj {p q : Nat} (hp : p < 5) (hq : q < 5) (e : vt_rt p = vt_rt q) : p = q := by
  by_cases a : p = 4 <;> by_cases b : q = 4
  · omega
  · rw [a, vt_rt4, vt_rtl (p := q) (by omega)] at e; omega
  · rw [b, vt_rt4, vt_rtl (p := p) (by omega)] at e; omega
  · rw [vt_rtl (p := p) (by omega), vt_rtl (p := q) (by omega)] at e; omega
/-- the five tables are the same, each at its own place -/
def vt_T (pX vX kY vY : Nat → Int32) : Prop := ∀ p, p < 5 → kY (vt_rt p) = pX p ∧ ∀ i, i < 32 → vY (32 * vt_rt p + i) = vX (32 * p + i)
/-! a table copied, its first n cells -/
def vt_cp (v : Nat → Int32) (s t n : Nat) : Nat → Int32 := fun j => if 32 * t ≤ j ∧ j < 32 * t + n then v (32 * s + (j - 32 * t)) else v j
theorem vt_cp0 (v : Nat → Int32) (s t : Nat) : vt_cp v s t 0 = v := funext fun j => if_neg (by omega)
theorem vt_cps (v : Nat → Int32) (s t n : Nat) (hn : n < 32) : upd (vt_cp v s t n) (32 * t + n) (vt_cp v s t n (32 * s + n)) = vt_cp v s t (n + 1) := by
  have e : vt_cp v s t n (32 * s + n) = v (32 * s + n) := if_neg (by omega)
  rw [e]
  funext j
  by_cases h : j = 32 * t + n
  · subst h
    rw [pk_us]
    exact (Eq.trans (if_pos (by omega)) (congrArg v (by omega))).symm
  · rw [pk_un h]
    by_cases h2 : 32 * t ≤ j ∧ j < 32 * t + n
    · exact (if_pos h2).trans (if_pos (by omega)).symm
    · exact (if_neg h2).trans (if_neg (by omega)).symm
theorem vt_T_cp {pX vX kY vY : Nat → Int32} (h : vt_T pX vX kY vY) {s t : Nat} (hs : s < 5) (ht : t < 5) : vt_T (upd pX t (pX s)) (vt_cp vX s t 32) (upd kY (vt_rt t) (kY (vt_rt s))) (vt_cp vY (vt_rt s) (vt_rt t) 32) := by
  intro p hp
  by_cases e : p = t
  · subst e
    refine ⟨by rw [pk_us, pk_us]; exact (h s hs).1, fun i hi => ?_⟩
    have a : vt_cp vY (vt_rt s) (vt_rt p) 32 (32 * vt_rt p + i) = vY (32 * vt_rt s + i) := (if_pos (by omega)).trans (congrArg vY (by omega))
    have b : vt_cp vX s p 32 (32 * p + i) = vX (32 * s + i) := (if_pos (by omega)).trans (congrArg vX (by omega))
    rw [a, b]
    exact (h s hs).2 i hi
  · have ne : vt_rt p ≠ vt_rt t := fun z => e (vt_rt_inj hp ht z)
    refine ⟨by rw [pk_un ne, pk_un e]; exact (h p hp).1, fun i hi => ?_⟩
    have a : vt_cp vY (vt_rt s) (vt_rt t) 32 (32 * vt_rt p + i) = vY (32 * vt_rt p + i) := if_neg (by omega)
    have b : vt_cp vX s t 32 (32 * p + i) = vX (32 * p + i) := if_neg (by omega)
    rw [a, b]
    exact (h p hp).2 i hi
theorem vt_T_word {pX vX kY vY : Nat → Int32} (h : vt_T pX vX kY vY) (w : Int32) : vt_T (upd pX 4 w) vX (upd kY 0 w) vY := by
  intro p hp
  refine ⟨?_, (h p hp).2⟩
  by_cases e : p = 4
  · subst e
    rw [vt_rt4, pk_us, pk_us]
  · have a := (h p hp).1
    rw [vt_rtl (by omega)] at a ⊢
    rw [pk_un (by omega), pk_un e]
    exact a
theorem vt_T_cell {pX vX kY vY : Nat → Int32} (h : vt_T pX vX kY vY) {j : Nat} (hj : j < 32) (v : Int32) : vt_T pX (upd vX (128 + j) v) kY (upd vY j v) := by
  intro p hp
  refine ⟨(h p hp).1, fun i hi => ?_⟩
  have a := (h p hp).2 i hi
  by_cases e : p = 4
  · subst e
    rw [vt_rt4] at a ⊢
    by_cases f : i = j
    · subst f
      rw [show 32 * 0 + i = i by omega, show 32 * 4 + i = 128 + i by omega, pk_us, pk_us]
    · rw [pk_un (by omega), pk_un (by omega)]
      exact a
  · rw [vt_rtl (by omega)] at a ⊢
    rw [pk_un (by omega), pk_un (by omega)]
    exact a
/-! the number of keys below n -/
def vt_cn (c : Nat → Bool) : Nat → Nat
  | 0 => 0
  | n + 1 => vt_cn c n + (if c n = true then 1 else 0)
theorem vt_cn_t {c : Nat → Bool} {n : Nat} (h : c n = true) : vt_cn c (n + 1) = vt_cn c n + 1 := by
  show vt_cn c n + (if c n = true then 1 else 0) = _
  rw [if_pos h]
theorem vt_cn_f {c : Nat → Bool} {n : Nat} (h : c n = false) : vt_cn c (n + 1) = vt_cn c n := by
  show vt_cn c n + (if c n = true then 1 else 0) = _
  rw [if_neg (by rw [h]; decide), Nat.add_zero]
theorem vt_cn_le (c : Nat → Bool) : ∀ n, vt_cn c n ≤ n
  | 0 => Nat.le_refl 0
  | n + 1 => by
    have := vt_cn_le c n
    cases h : c n
    · rw [vt_cn_f h]; omega
    · rw [vt_cn_t h]; omega
theorem vt_cn_lo {c c' : Nat → Bool} : ∀ n, (∀ i, i < n → c i = c' i) → vt_cn c n = vt_cn c' n
  | 0, _ => rfl
  | n + 1, h => by
    have a := vt_cn_lo n (fun i hi => h i (by omega))
    have b := h n (by omega)
    show vt_cn c n + (if c n = true then 1 else 0) = vt_cn c' n + (if c' n = true then 1 else 0)
    rw [a, b]
theorem vt_cn_z {c : Nat → Bool} {a : Nat} : ∀ d, (∀ i, a ≤ i → c i = false) → vt_cn c (a + d) = vt_cn c a
  | 0, _ => rfl
  | d + 1, h => by
    show vt_cn c ((a + d) + 1) = _
    rw [vt_cn_f (h (a + d) (by omega))]
    exact vt_cn_z d h
theorem vt_cn_no {c : Nat → Bool} (n : Nat) (h : ∀ i, c i = false) : vt_cn c n = 0 := by
  have a := vt_cn_z (c := c) (a := 0) n (fun i _ => h i)
  rw [Nat.zero_add] at a
  exact a
/-- the number of keys below j, counted over all of them -/
theorem vt_cn_b (c : Nat → Bool) (j : Nat) (hj : j ≤ 32) : vt_cn (fun i => decide (nI i < nI j) && c i) 32 = vt_cn c j := by
  have h32 : ∀ i, i < 32 → (decide (nI i < nI j) && c i) = (decide (i < j) && c i) := fun i hi => by
    rw [show decide (nI i < nI j) = decide (i < j) from decide_eq_decide.mpr (nI_ltI (by omega) (by omega))]
  have e1 : vt_cn (fun i => decide (nI i < nI j) && c i) 32 = vt_cn (fun i => decide (i < j) && c i) 32 := vt_cn_lo 32 h32
  have e2 : vt_cn (fun i => decide (i < j) && c i) (j + (32 - j)) = vt_cn (fun i => decide (i < j) && c i) j := vt_cn_z (32 - j) (fun i hi => by
    show (decide (i < j) && c i) = false
    rw [decide_eq_false (by omega), Bool.false_and])
  have e3 : vt_cn (fun i => decide (i < j) && c i) j = vt_cn c j := vt_cn_lo j (fun i hi => by
    show (decide (i < j) && c i) = c i
    rw [decide_eq_true hi, Bool.true_and])
  rw [show j + (32 - j) = 32 by omega] at e2
  rw [e1, e2, e3]
