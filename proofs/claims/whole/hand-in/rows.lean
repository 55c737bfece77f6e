section
/-! pasted rows: stores, numbers, branches, masks, bits -/
theorem pk_us {f : Nat → Int32} {k : Nat} {x : Int32} : upd f k x k = x := if_pos rfl
theorem pk_un {f : Nat → Int32} {k j : Nat} {x : Int32} (h : j ≠ k) : upd f k x j = f j := if_neg h
theorem pk_sub {a b : Nat} (h : b ≤ a) : nI a - nI b = nI (a - b) := by
  obtain ⟨c, rfl⟩ : ∃ c, a = c + b := ⟨a - b, by omega⟩
  rw [← nI_add, Int32.add_sub_cancel, Nat.add_sub_cancel]
theorem pk_m1 (n : Nat) : nI (n + 1) + (-1) = nI n := by
  rw [← nI_1, Int32.add_assoc, show (1 : Int32) + (-1) = 0 from rfl, Int32.add_zero]
theorem pk_mul (a b : Nat) : nI a * nI b = nI (a * b) := (Int32.ofNat_mul a b).symm
theorem pk_div {a d : Nat} (ha : a < 2 ^ 31) (h0 : 0 < d) (hd : d < 2 ^ 31) : nI a / nI d = nI (a / d) := by
  apply Int32.toInt_inj.mp
  rw [lg_idiv_nonneg (by rw [nI_toInt ha]; omega) (by rw [nI_toInt hd]; omega), nI_toInt ha, nI_toInt hd, nI_toInt (Nat.lt_of_le_of_lt (Nat.div_le_self a d) ha)]
  first | rfl | exact (Int.natCast_ediv _ _).symm
theorem pk_rem {a d : Nat} (ha : a < 2 ^ 31) (h0 : 0 < d) (hd : d < 2 ^ 31) : nI a - nI a / nI d * nI d = nI (a % d) := by
  rw [pk_div ha h0 hd, pk_mul, pk_sub (Nat.div_mul_le_self a d)]
  exact congrArg nI (by have := Nat.div_add_mod' a d; omega)
theorem pk_sub_toInt {a b : Nat} (ha : a < 2 ^ 30) (hb : b < 2 ^ 30) : (nI a - nI b).toInt = (a : Int) - b := by
  rw [Int32.toInt_sub, nI_toInt (by omega), nI_toInt (by omega)]
  exact Int.bmod_eq_of_le (by omega) (by omega)
theorem pk_sneg {a b : Nat} (hb : b < 2 ^ 30) (h : a < b) : nI a - nI b < 0 := by
  rw [Int32.lt_iff_toInt_lt, pk_sub_toInt (by omega) hb, show (0 : Int32).toInt = 0 from by decide]
  omega
theorem pk_ix (x : Int32) {n : Nat} (hn : n < 2 ^ 31) : x < 0 ∨ nI n ≤ x ∨ ∃ j : Nat, j < n ∧ x = nI j := by
  by_cases h : x < 0
  · exact Or.inl h
  · obtain ⟨j, hj, rfl⟩ := nI_of h
    by_cases h2 : j < n
    · exact Or.inr (Or.inr ⟨j, h2, rfl⟩)
    · exact Or.inr (Or.inl (nI_le (by omega) hj))
theorem pk_le {x y : Int32} {A B : Prop} (a b : Nat) (f : a ≤ b → A) (g : b < a → B) (hx : x = nI a := by rfl) (hy : y = nI b := by rfl) (ha : a < 2 ^ 31 := by omega) (hb : b < 2 ^ 31 := by omega) : (x ≤ y → A) ∧ (¬ x ≤ y → B) := by
  subst hx hy
  rw [nI_leI ha hb]
  exact ⟨f, fun z => g (by omega)⟩
theorem pk_lt {x y : Int32} {A B : Prop} (a b : Nat) (f : a < b → A) (g : b ≤ a → B) (hx : x = nI a := by rfl) (hy : y = nI b := by rfl) (ha : a < 2 ^ 31 := by omega) (hb : b < 2 ^ 31 := by omega) : (x < y → A) ∧ (¬ x < y → B) := by
  subst hx hy
  rw [nI_ltI ha hb]
  exact ⟨f, fun z => g (by omega)⟩
theorem pk_eq {x y : Int32} {A B : Prop} (a b : Nat) (f : a = b → A) (g : a ≠ b → B) (hx : x = nI a := by rfl) (hy : y = nI b := by rfl) (ha : a < 2 ^ 31 := by omega) (hb : b < 2 ^ 31 := by omega) : (x = y → A) ∧ (¬ x = y → B) := by
  subst hx hy
  rw [nI_eq ha hb]
  exact ⟨f, g⟩
theorem pk_in {x : Int32} (n N : Nat) (h : n < N) (hx : x = nI n := by rfl) (hN : N < 2 ^ 31 := by omega) : vp_in x N := by
  subst hx
  exact vp_in_nI h hN
theorem pk_cl {x : Int32} (n : Nat) (hx : x = nI n := by rfl) (h : n < 2 ^ 31 := by omega) : x.toNatClampNeg = n := by
  subst hx
  exact nI_clamp h
theorem pk_tn {n : Nat} (h : n < 2 ^ 32) : (nI n).toBitVec.toNat = n := Nat.mod_eq_of_lt h
theorem pk_and (x : Int32) {m : Int32} (k : Nat) (hm : m.toBitVec.toNat = 2 ^ k - 1) : x &&& m = nI (x.toBitVec.toNat % 2 ^ k) := by
  apply Int32.toBitVec_inj.mp
  apply BitVec.eq_of_toNat_eq
  rw [Int32.toBitVec_and, BitVec.toNat_and, hm, Nat.and_two_pow_sub_one_eq_mod]
  show _ = (BitVec.ofNat 32 _).toNat
  rw [BitVec.toNat_ofNat]
  exact (Nat.mod_eq_of_lt (Nat.lt_of_le_of_lt (Nat.mod_le _ _) x.toBitVec.isLt)).symm
theorem pk_andN {n : Nat} (h : n < 2 ^ 32) {m : Int32} (k : Nat) (hm : m.toBitVec.toNat = 2 ^ k - 1) : nI n &&& m = nI (n % 2 ^ k) := by
  rw [pk_and _ k hm, pk_tn h]
theorem pk_andE (x : Int32) {m : Int32} (k : Nat) (hm : m.toBitVec.toNat = 2 ^ k - 1) : ∃ j : Nat, j < 2 ^ k ∧ x &&& m = nI j := ⟨_, Nat.mod_lt _ (Nat.two_pow_pos k), pk_and x k hm⟩
theorem pk_andIn (x : Int32) {m : Int32} (k : Nat) (hm : m.toBitVec.toNat = 2 ^ k - 1) (hk : k ≤ 30) : vp_in (x &&& m) (2 ^ k) := by
  obtain ⟨j, hj, e⟩ := pk_andE x k hm
  rw [e]
  exact vp_in_nI hj (Nat.lt_of_le_of_lt (Nat.pow_le_pow_right (by decide) hk) (by decide))
def bt (x : Int32) (i : Nat) : Bool := x.toBitVec.getLsbD i
theorem b_ext {x y : Int32} (h : ∀ i, i < 32 → bt x i = bt y i) : x = y := Int32.toBitVec_inj.mp (BitVec.eq_of_getLsbD_eq (fun i hi => h i hi))
theorem b_or (x y : Int32) (i : Nat) : bt (x ||| y) i = (bt x i || bt y i) := by unfold bt; rw [Int32.toBitVec_or, BitVec.getLsbD_or]
theorem b_and (x y : Int32) (i : Nat) : bt (x &&& y) i = (bt x i && bt y i) := by unfold bt; rw [Int32.toBitVec_and, BitVec.getLsbD_and]
theorem b_big {x : Int32} {i : Nat} (h : 32 ≤ i) : bt x i = false := BitVec.getLsbD_of_ge _ _ h
theorem b_m1 : ∀ i, i < 32 → bt (-1) i = true := by decide +kernel
theorem b_0 (i : Nat) : bt 0 i = false := BitVec.getLsbD_zero
theorem s_l : ∀ n, n < 32 → ((nI n &&& 31).toBitVec.smod 32).toNat = n := by decide +kernel
theorem b_shl (n : Nat) (hn : n < 32) (x : Int32) {i : Nat} (hi : i < 32) : bt (x <<< (nI n &&& 31)) i = (decide (n ≤ i) && bt x (i - n)) := by
  unfold bt
  rw [Int32.toBitVec_shiftLeft]
  show (x.toBitVec <<< ((nI n &&& 31).toBitVec.smod 32).toNat).getLsbD i = _
  rw [s_l n hn, BitVec.getLsbD_shiftLeft]
  rcases Nat.lt_or_ge i n with h | h
  · simp [h, Nat.not_le.mpr h]
  · simp [hi, h, Nat.not_lt.mpr h]
theorem b_sshr (n : Nat) (hn : n < 32) (x : Int32) {i : Nat} (hi : i < 32) : bt (x >>> (nI n &&& 31)) i = if n + i < 32 then bt x (n + i) else bt x 31 := by
  unfold bt
  rw [Int32.toBitVec_shiftRight]
  show (x.toBitVec.sshiftRight ((nI n &&& 31).toBitVec.smod 32).toNat).getLsbD i = _
  rw [s_l n hn, BitVec.getLsbD_sshiftRight, BitVec.msb_eq_getLsbD_last]
  simp [hi]
end
section
/-! a bit by X's test and by Y's -/
theorem vt_b1 : ∀ i, i < 32 → bt 1 i = decide (i = 0) := by decide +kernel
theorem vt_xbit (w : Int32) (k : Nat) (hk : k < 32) : (w &&& ((1 : Int32) <<< (nI k &&& 31))) = 0 ↔ bt w k = false := by
  constructor
  · intro h
    have e : bt (w &&& ((1 : Int32) <<< (nI k &&& 31))) k = bt 0 k := by rw [h]
    rw [b_and, b_shl k hk 1 hk, b_0, Nat.sub_self, vt_b1 0 (by omega)] at e
    simpa using e
  · intro h
    apply b_ext
    intro i hi
    rw [b_and, b_shl k hk 1 hi, b_0]
    by_cases e : i = k
    · rw [e, h, Bool.false_and]
    · by_cases l : k ≤ i
      · rw [vt_b1 (i - k) (by omega), decide_eq_false (p := i - k = 0) (by omega), Bool.and_false, Bool.and_false]
      · rw [decide_eq_false l, Bool.false_and, Bool.and_false]
theorem vt_ybit (w : Int32) (k : Nat) (hk : k < 32) : ((w >>> (nI k &&& 31)) &&& 1) = if bt w k = true then 1 else 0 := by
  apply b_ext
  intro i hi
  rw [b_and, b_sshr k hk w hi, vt_b1 i hi]
  by_cases e : i = 0
  · subst e
    rw [Nat.add_zero, if_pos hk]
    cases bt w k
    · rw [if_neg (by decide), b_0]; rfl
    · rw [if_pos rfl, vt_b1 0 (by omega)]; rfl
  · rw [decide_eq_false e, Bool.and_false]
    by_cases h : bt w k = true
    · rw [if_pos h, vt_b1 i hi, decide_eq_false e]
    · rw [if_neg h, b_0]
/-! X's place p is Y's table vt_rt p -/
def vt_rt (p : Nat) : Nat := if p = 4 then 0 else p + 1
theorem vt_rt4 : vt_rt 4 = 0 := rfl
theorem vt_rtl {p : Nat} (h : p < 4) : vt_rt p = p + 1 := if_neg (by omega)
theorem vt_rt_lt {p : Nat} (h : p < 5) : vt_rt p < 5 := by
  by_cases e : p = 4
  · rw [e, vt_rt4]; omega
  · rw [vt_rtl (by omega)]; omega
theorem vt_rt_inj {p q : Nat} (hp : p < 5) (hq : q < 5) (e : vt_rt p = vt_rt q) : p = q := by
  by_cases a : p = 4 <;> by_cases b : q = 4
  · omega
  · rw [a, vt_rt4, vt_rtl (p := q) (by omega)] at e; omega
  · rw [b, vt_rt4, vt_rtl (p := p) (by omega)] at e; omega
  · rw [vt_rtl (p := p) (by omega), vt_rtl (p := q) (by omega)] at e; omega
/-- the five tables are the same, each at its own place -/
def vt_T (pX vX kY vY : Nat → Int32) : Prop := ∀ p, p < 5 → kY (vt_rt p) = pX p ∧ ∀ i, i < 32 → vY (32 * vt_rt p + i) = vX (32 * p + i)
/-! a table copied, its first n cells -/
def vt_cp (v : Nat → Int32) (s t n : Nat) : Nat → Int32 := fun j => if 32 * t ≤ j ∧ j < 32 * t + n then v (32 * s + (j - 32 * t)) else v j
theorem vt_cp0 (v : Nat → Int32) (s t : Nat) : vt_cp v s t 0 = v := funext fun j => if_neg (by omega)
theorem vt_cps (v : Nat → Int32) (s t n : Nat) (hn : n < 32) : upd (vt_cp v s t n) (32 * t + n) (vt_cp v s t n (32 * s + n)) = vt_cp v s t (n + 1) := by
  have e : vt_cp v s t n (32 * s + n) = v (32 * s + n) := if_neg (by omega)
  rw [e]
  funext j
  by_cases h : j = 32 * t + n
  · subst h
    rw [pk_us]
    exact (Eq.trans (if_pos (by omega)) (congrArg v (by omega))).symm
  · rw [pk_un h]
    by_cases h2 : 32 * t ≤ j ∧ j < 32 * t + n
    · exact (if_pos h2).trans (if_pos (by omega)).symm
    · exact (if_neg h2).trans (if_neg (by omega)).symm
theorem vt_T_cp {pX vX kY vY : Nat → Int32} (h : vt_T pX vX kY vY) {s t : Nat} (hs : s < 5) (ht : t < 5) : vt_T (upd pX t (pX s)) (vt_cp vX s t 32) (upd kY (vt_rt t) (kY (vt_rt s))) (vt_cp vY (vt_rt s) (vt_rt t) 32) := by
  intro p hp
  by_cases e : p = t
  · subst e
    refine ⟨by rw [pk_us, pk_us]; exact (h s hs).1, fun i hi => ?_⟩
    have a : vt_cp vY (vt_rt s) (vt_rt p) 32 (32 * vt_rt p + i) = vY (32 * vt_rt s + i) := (if_pos (by omega)).trans (congrArg vY (by omega))
    have b : vt_cp vX s p 32 (32 * p + i) = vX (32 * s + i) := (if_pos (by omega)).trans (congrArg vX (by omega))
    rw [a, b]
    exact (h s hs).2 i hi
  · have ne : vt_rt p ≠ vt_rt t := fun z => e (vt_rt_inj hp ht z)
    refine ⟨by rw [pk_un ne, pk_un e]; exact (h p hp).1, fun i hi => ?_⟩
    have a : vt_cp vY (vt_rt s) (vt_rt t) 32 (32 * vt_rt p + i) = vY (32 * vt_rt p + i) := if_neg (by omega)
    have b : vt_cp vX s t 32 (32 * p + i) = vX (32 * p + i) := if_neg (by omega)
    rw [a, b]
    exact (h p hp).2 i hi
theorem vt_T_word {pX vX kY vY : Nat → Int32} (h : vt_T pX vX kY vY) (w : Int32) : vt_T (upd pX 4 w) vX (upd kY 0 w) vY := by
  intro p hp
  refine ⟨?_, (h p hp).2⟩
  by_cases e : p = 4
  · subst e
    rw [vt_rt4, pk_us, pk_us]
  · have a := (h p hp).1
    rw [vt_rtl (by omega)] at a ⊢
    rw [pk_un (by omega), pk_un e]
    exact a
theorem vt_T_cell {pX vX kY vY : Nat → Int32} (h : vt_T pX vX kY vY) {j : Nat} (hj : j < 32) (v : Int32) : vt_T pX (upd vX (128 + j) v) kY (upd vY j v) := by
  intro p hp
  refine ⟨(h p hp).1, fun i hi => ?_⟩
  have a := (h p hp).2 i hi
  by_cases e : p = 4
  · subst e
    rw [vt_rt4] at a ⊢
    by_cases f : i = j
    · subst f
      rw [show 32 * 0 + i = i by omega, show 32 * 4 + i = 128 + i by omega, pk_us, pk_us]
    · rw [pk_un (by omega), pk_un (by omega)]
      exact a
  · rw [vt_rtl (by omega)] at a ⊢
    rw [pk_un (by omega), pk_un (by omega)]
    exact a
/-! the number of keys below n -/
def vt_cn (c : Nat → Bool) : Nat → Nat
  | 0 => 0
  | n + 1 => vt_cn c n + (if c n = true then 1 else 0)
theorem vt_cn_t {c : Nat → Bool} {n : Nat} (h : c n = true) : vt_cn c (n + 1) = vt_cn c n + 1 := by
  show vt_cn c n + (if c n = true then 1 else 0) = _
  rw [if_pos h]
theorem vt_cn_f {c : Nat → Bool} {n : Nat} (h : c n = false) : vt_cn c (n + 1) = vt_cn c n := by
  show vt_cn c n + (if c n = true then 1 else 0) = _
  rw [if_neg (by rw [h]; decide), Nat.add_zero]
theorem vt_cn_le (c : Nat → Bool) : ∀ n, vt_cn c n ≤ n
  | 0 => Nat.le_refl 0
  | n + 1 => by
    have := vt_cn_le c n
    cases h : c n
    · rw [vt_cn_f h]; omega
    · rw [vt_cn_t h]; omega
theorem vt_cn_lo {c c' : Nat → Bool} : ∀ n, (∀ i, i < n → c i = c' i) → vt_cn c n = vt_cn c' n
  | 0, _ => rfl
  | n + 1, h => by
    have a := vt_cn_lo n (fun i hi => h i (by omega))
    have b := h n (by omega)
    show vt_cn c n + (if c n = true then 1 else 0) = vt_cn c' n + (if c' n = true then 1 else 0)
    rw [a, b]
theorem vt_cn_z {c : Nat → Bool} {a : Nat} : ∀ d, (∀ i, a ≤ i → c i = false) → vt_cn c (a + d) = vt_cn c a
  | 0, _ => rfl
  | d + 1, h => by
    show vt_cn c ((a + d) + 1) = _
    rw [vt_cn_f (h (a + d) (by omega))]
    exact vt_cn_z d h
theorem vt_cn_no {c : Nat → Bool} (n : Nat) (h : ∀ i, c i = false) : vt_cn c n = 0 := by
  have a := vt_cn_z (c := c) (a := 0) n (fun i _ => h i)
  rw [Nat.zero_add] at a
  exact a
/-- the number of keys below j, counted over all of them -/
theorem vt_cn_b (c : Nat → Bool) (j : Nat) (hj : j ≤ 32) : vt_cn (fun i => decide (nI i < nI j) && c i) 32 = vt_cn c j := by
  have h32 : ∀ i, i < 32 → (decide (nI i < nI j) && c i) = (decide (i < j) && c i) := fun i hi => by
    rw [show decide (nI i < nI j) = decide (i < j) from decide_eq_decide.mpr (nI_ltI (by omega) (by omega))]
  have e1 : vt_cn (fun i => decide (nI i < nI j) && c i) 32 = vt_cn (fun i => decide (i < j) && c i) 32 := vt_cn_lo 32 h32
  have e2 : vt_cn (fun i => decide (i < j) && c i) (j + (32 - j)) = vt_cn (fun i => decide (i < j) && c i) j := vt_cn_z (32 - j) (fun i hi => by
    show (decide (i < j) && c i) = false
    rw [decide_eq_false (by omega), Bool.false_and])
  have e3 : vt_cn (fun i => decide (i < j) && c i) j = vt_cn c j := vt_cn_lo j (fun i hi => by
    show (decide (i < j) && c i) = c i
    rw [decide_eq_true hi, Bool.true_and])
  rw [show j + (32 - j) = 32 by omega] at e2
  rw [e1, e2, e3]
end
section
/-! what isThere and in answer, of a table with the keys c -/
def vt_b (c : Nat → Bool) (k : Int32) : Int32 := if ¬ k < 0 ∧ ¬ nI 32 ≤ k ∧ c k.toNatClampNeg = true then 1 else 0
theorem vt_b_lo {c : Nat → Bool} {k : Int32} (h : k < 0) : vt_b c k = 0 := if_neg (fun z => z.1 h)
theorem vt_b_hi {c : Nat → Bool} {k : Int32} (h : nI 32 ≤ k) : vt_b c k = 0 := if_neg (fun z => z.2.1 h)
theorem vt_b_t {c : Nat → Bool} {i : Nat} (hi : i < 32) (h : c i = true) : vt_b c (nI i) = 1 := if_pos ⟨nI_pos (by omega), nI_ge hi (by decide), by rw [nI_clamp (by omega)]; exact h⟩
theorem vt_b_f {c : Nat → Bool} {i : Nat} (hi : i < 32) (h : c i = false) : vt_b c (nI i) = 0 := if_neg (fun z => by
  have a := z.2.2
  rw [nI_clamp (by omega), h] at a
  exact absurd a (by decide))
theorem vt_b_no (k : Int32) : vt_b (fun _ => false) k = 0 := if_neg (fun z => absurd z.2.2 Bool.false_ne_true)
theorem vt_b_ne {c : Nat → Bool} {k : Int32} (e : ¬ vt_b c k = 0) : ∃ i, i < 32 ∧ k = nI i ∧ c i = true := by
  rcases pk_ix k (n := 32) (by decide) with a | a | ⟨i, hi, rfl⟩
  · exact absurd (vt_b_lo a) e
  · exact absurd (vt_b_hi a) e
  · refine ⟨i, hi, rfl, ?_⟩
    cases h : c i
    · exact absurd (vt_b_f hi h) e
    · rfl
theorem vt_hi0 {k : Int32} (a : nI 32 ≤ k) : ¬ k < 0 := Int32.not_lt.mpr (Int32.le_trans (by decide) a)
theorem vt_hi31 {k : Int32} (a : nI 32 ≤ k) : (31 : Int32) < k := Int32.lt_of_lt_of_le (by decide) a
theorem vt_i32 {i : Nat} (hi : i < 32) : ¬ (32 : Int32) ≤ nI i := nI_ge (b := 32) hi (by decide)
theorem vt_i31 {i : Nat} (hi : i < 32) : ¬ (31 : Int32) < nI i := nI_nlt (a := 31) (b := i) (by omega) (by decide)
theorem vt_i31' {i : Nat} (hi : i < 32) : nI i ≤ (31 : Int32) := nI_le (a := i) (b := 31) (by omega) (by decide)
theorem vt_i0 {i : Nat} (hi : i < 32) : ¬ nI i < 0 := nI_pos (by omega)
theorem vt_ix (p i : Nat) : nI p * 32 + nI i = nI (32 * p + i) := by
  show nI p * nI 32 + nI i = _
  rw [pk_mul, nI_add, Nat.mul_comm]
theorem vt_iy (p i : Nat) : 32 * nI p + nI i = nI (32 * p + i) := by
  show nI 32 * nI p + nI i = _
  rw [pk_mul, nI_add]
theorem vx_isThere {post : Int32 → Prop} {l g : Int32} {pr va : Nat → Int32} {p : Nat} (hp : p < 5) (k : Int32) (h : post (vt_b (bt (pr p)) k)) : wpX_isThere post (l, g, pr, va) (nI p) k := by
  have h0 : ¬ nI p < 0 := nI_pos (by omega)
  have h5 : ¬ (5 : Int32) ≤ nI p := nI_ge (b := 5) hp (by decide)
  rcases pk_ix k (n := 32) (by decide) with a | a | ⟨i, hi, rfl⟩
  · rw [vt_b_lo a] at h
    exact br_f h0 (br_f h5 (br_t a (br_t rfl h)))
  · rw [vt_b_hi a] at h
    exact br_f h0 (br_f h5 (br_f (vt_hi0 a) (br_t a (br_t rfl h))))
  · have hin : vp_in (nI p) 5 := vp_in_nI hp (by decide)
    cases e : bt (pr p) i
    · rw [vt_b_f hi e] at h
      have z : (pr (nI p).toNatClampNeg &&& ((1 : Int32) <<< (nI i &&& 31))) = 0 := by
        rw [nI_clamp (by omega)]
        exact (vt_xbit (pr p) i hi).mpr e
      exact br_f h0 (br_f h5 (br_f (vt_i0 hi) (br_f (vt_i32 hi) (br_f (by decide) ⟨hin, br_t z h⟩))))
    · rw [vt_b_t hi e] at h
      have z : ¬ (pr (nI p).toNatClampNeg &&& ((1 : Int32) <<< (nI i &&& 31))) = 0 := by
        rw [nI_clamp (by omega)]
        intro q
        rw [(vt_xbit (pr p) i hi).mp q] at e
        exact absurd e (by decide)
      exact br_f h0 (br_f h5 (br_f (vt_i0 hi) (br_f (vt_i32 hi) (br_f (by decide) ⟨hin, br_f z h⟩))))
theorem vy_in {post : Int32 → Prop} {l g : Int32} {ke wa : Nat → Int32} {t : Nat} (ht : t < 5) (k : Int32) (h : post (vt_b (bt (ke t)) k)) : wpY_in post (l, g, ke, wa) (nI t) k := by
  have h0 : ¬ nI t < 0 := nI_pos (by omega)
  rcases pk_ix k (n := 32) (by decide) with a | a | ⟨i, hi, rfl⟩
  · rw [vt_b_lo a] at h
    exact br_f h0 (br_t a h)
  · rw [vt_b_hi a] at h
    exact br_f h0 (br_f (vt_hi0 a) (br_t (vt_hi31 a) h))
  · have hin : vp_in (nI t) 5 := vp_in_nI ht (by decide)
    cases e : bt (ke t) i
    · rw [vt_b_f hi e] at h
      have z : ¬ ((ke (nI t).toNatClampNeg >>> (nI i &&& 31)) &&& 1) = 1 := by
        rw [nI_clamp (by omega), vt_ybit (ke t) i hi, e, if_neg (by decide)]
        decide
      exact br_f h0 (br_f (vt_i0 hi) (br_f (vt_i31 hi) ⟨hin, br_f z h⟩))
    · rw [vt_b_t hi e] at h
      have z : ((ke (nI t).toNatClampNeg >>> (nI i &&& 31)) &&& 1) = 1 := by
        rw [nI_clamp (by omega), vt_ybit (ke t) i hi, if_pos e]
      exact br_f h0 (br_f (vt_i0 hi) (br_f (vt_i31 hi) ⟨hin, br_t z h⟩))
/-- X's place x and Y's table y are one table, with the keys c and the cells w -/
def vt_V (pr va ke wa : Nat → Int32) (x y : Int32) (c : Nat → Bool) (w : Nat → Int32) : Prop :=
  (x = -1 ∧ y = -1 ∧ c = fun _ => false) ∨ ∃ p, p < 5 ∧ x = nI p ∧ y = nI (vt_rt p) ∧ c = bt (pr p) ∧ ke (vt_rt p) = pr p ∧ ∀ i, i < 32 → va (32 * p + i) = w i ∧ wa (32 * vt_rt p + i) = w i
section
variable {pr va ke wa : Nat → Int32} {x y : Int32} {c : Nat → Bool} {w : Nat → Int32} {l g : Int32} {post : Int32 → Prop}
theorem vv_X (V : vt_V pr va ke wa x y c w) (k : Int32) (h : post (vt_b c k)) : wpX_isThere post (l, g, pr, va) x k := by
  rcases V with ⟨rfl, _, rfl⟩ | ⟨p, hp, rfl, _, rfl, _⟩
  · rw [vt_b_no] at h
    exact br_t (by decide) h
  · exact vx_isThere hp k h
theorem vv_Y (V : vt_V pr va ke wa x y c w) (k : Int32) (h : post (vt_b c k)) : wpY_in post (l, g, ke, wa) y k := by
  rcases V with ⟨_, rfl, rfl⟩ | ⟨p, hp, _, rfl, rfl, e, _⟩
  · rw [vt_b_no] at h
    exact br_t (by decide) h
  · rw [← e] at h
    exact vy_in (vt_rt_lt hp) k h
theorem vv_Xt (V : vt_V pr va ke wa x y c w) {i : Nat} (hi : i < 32) (e : c i = true) (h : post 1) : wpX_isThere post (l, g, pr, va) x (nI i) := vv_X V (nI i) (by rw [vt_b_t hi e]; exact h)
theorem vv_Xf (V : vt_V pr va ke wa x y c w) {i : Nat} (hi : i < 32) (e : c i = false) (h : post 0) : wpX_isThere post (l, g, pr, va) x (nI i) := vv_X V (nI i) (by rw [vt_b_f hi e]; exact h)
theorem vv_Yt (V : vt_V pr va ke wa x y c w) {i : Nat} (hi : i < 32) (e : c i = true) (h : post 1) : wpY_in post (l, g, ke, wa) y (nI i) := vv_Y V (nI i) (by rw [vt_b_t hi e]; exact h)
theorem vv_Yf (V : vt_V pr va ke wa x y c w) {i : Nat} (hi : i < 32) (e : c i = false) (h : post 0) : wpY_in post (l, g, ke, wa) y (nI i) := vv_Y V (nI i) (by rw [vt_b_f hi e]; exact h)
theorem vv_cx (V : vt_V pr va ke wa x y c w) {i : Nat} (hi : i < 32) (e : c i = true) : vp_in (x * 32 + nI i) 160 ∧ va (x * 32 + nI i).toNatClampNeg = w i := by
  rcases V with ⟨_, _, rfl⟩ | ⟨p, hp, rfl, _, _, _, hw⟩
  · exact absurd e Bool.false_ne_true
  · rw [vt_ix, nI_clamp (by omega)]
    exact ⟨vp_in_nI (by omega) (by decide), (hw i hi).1⟩
theorem vv_cy (V : vt_V pr va ke wa x y c w) {i : Nat} (hi : i < 32) (e : c i = true) : vp_in (32 * y + nI i) 160 ∧ wa (32 * y + nI i).toNatClampNeg = w i := by
  rcases V with ⟨_, _, rfl⟩ | ⟨p, hp, _, rfl, _, _, hw⟩
  · exact absurd e Bool.false_ne_true
  · have ht := vt_rt_lt hp
    rw [vt_iy, nI_clamp (by omega)]
    exact ⟨vp_in_nI (by omega) (by decide), (hw i hi).2⟩
theorem vv_wt (V : vt_V pr va ke wa x y c w) {i : Nat} (hi : i < 32) (e : c i = true) (h : post (w i)) : wpX_valueAt post (l, g, pr, va) x (nI i) := by
  have z := vv_cx V hi e
  unfold wpX_valueAt
  dsimp only
  refine vv_Xt V hi e (br_f (by decide) ⟨z.1, ?_⟩)
  rw [z.2]
  exact h
theorem vv_wf (V : vt_V pr va ke wa x y c w) {i : Nat} (hi : i < 32) (e : c i = false) (h : post 0) : wpX_valueAt post (l, g, pr, va) x (nI i) := by
  unfold wpX_valueAt
  dsimp only
  exact vv_Xf V hi e (br_t rfl h)
theorem vv_none (V : vt_V pr va ke wa x y c w) : (x = -1 ∧ y < 0 ∧ ¬ 0 ≤ y ∧ c = fun _ => false) ∨ (¬ x = -1 ∧ ¬ y < 0 ∧ 0 ≤ y) := by
  rcases V with ⟨rfl, rfl, e⟩ | ⟨p, hp, rfl, rfl, _⟩
  · exact Or.inl ⟨rfl, by decide, by decide, e⟩
  · have ht := vt_rt_lt hp
    refine Or.inr ⟨fun z => ?_, nI_pos (by omega), nI_pos' (by omega)⟩
    have a : ¬ nI p < 0 := nI_pos (by omega)
    rw [z] at a
    exact a (by decide)
end
theorem vv_of {pr va ke wa : Nat → Int32} (T : vt_T pr va ke wa) {p : Nat} (hp : p < 5) : vt_V pr va ke wa (nI p) (nI (vt_rt p)) (bt (pr p)) (fun i => va (32 * p + i)) := Or.inr ⟨p, hp, rfl, rfl, rfl, (T p hp).1, fun i hi => ⟨rfl, (T p hp).2 i hi⟩⟩
theorem vt_and3 {m : Nat} (h : m < 2 ^ 31) : nI m &&& 3 = nI (m % 4) := pk_andN (by omega) 2 (by decide)
theorem vt_rem4 {m : Nat} (h : m < 2 ^ 31) : 1 + (nI m - nI m / 4 * 4) = nI (vt_rt (m % 4)) := by
  have r : nI m - nI m / 4 * 4 = nI (m % 4) := pk_rem (d := 4) h (by decide) (by decide)
  rw [r, vt_rtl (Nat.mod_lt _ (by decide))]
  show nI 1 + nI (m % 4) = _
  rw [nI_add, Nat.add_comm]
/-- placeOf and table of any number answer one table -/
theorem vv_place {pr va ke wa : Nat → Int32} {lo gr : Nat} (T : vt_T pr va ke wa) (hl : lo < 2 ^ 31) (n : Int32) : ∃ x y c w, vt_V pr va ke wa x y c w ∧ (∀ post : Int32 → Prop, post x → wpX_placeOf post (nI lo, nI gr, pr, va) n) ∧ (∀ post : Int32 → Prop, post y → wpY_table post (nI lo, nI gr, ke, wa) n) := by
  by_cases z : n = 0
  · exact ⟨_, _, _, _, vv_of T (p := 4) (by decide), fun post h => br_t z h, fun post h => br_t z h⟩
  · have no : vt_V pr va ke wa (-1) (-1) (fun _ => false) (fun _ => 0) := Or.inl ⟨rfl, rfl, rfl⟩
    by_cases a : n < nI lo
    · exact ⟨_, _, _, _, no, fun post h => br_f z (br_t a (br_t rfl h)), fun post h => br_f z (br_t a h)⟩
    · by_cases b : nI gr < n
      · exact ⟨_, _, _, _, no, fun post h => br_f z (br_f a (br_t b (br_t rfl h))), fun post h => br_f z (br_f a (br_t b h))⟩
      · obtain ⟨m, hm, rfl⟩ := nI_of (x := n) (fun q => a (Int32.lt_of_lt_of_le q (nI_pos' hl)))
        have hp : m % 4 < 4 := Nat.mod_lt _ (by decide)
        refine ⟨_, _, _, _, vv_of T (p := m % 4) (by omega), fun post h => br_f z (br_f a (br_f b (br_f (by decide) ?_))), fun post h => br_f z (br_f a (br_f b ⟨by decide, ?_⟩))⟩
        · show post (nI m &&& 3)
          rw [vt_and3 hm]
          exact h
        · rw [vt_rem4 hm]
          exact h
end
section
section
variable {pr va ke wa : Nat → Int32} {x y : Int32} {c : Nat → Bool} {w : Nat → Int32} {l g : Int32}
/-! copies -/
theorem vx_cpL {post : SX → Prop} {s t : Nat} (hs : s < 5) (ht : t < 5) (h : post (l, g, pr, vt_cp va s t 32)) : ∀ d n, n + d = 32 → wX_copyTable_14 post (nI s) (nI t) l g (d + 1) (nI n) pr (vt_cp va s t n) := by
  intro d
  induction d with
  | zero =>
    intro n hn
    obtain rfl : n = 32 := by omega
    exact br_t (Int32.le_refl _) h
  | succ d ih =>
    intro n hn
    refine br_f (vt_i32 (by omega)) ⟨?_, ?_, nm_r (e' := vt_cp va s t (n + 1)) ?_ (nm_r (nI_1 n) (ih (n + 1) (by omega)))⟩
    · rw [vt_ix]
      exact vp_in_nI (by omega) (by decide)
    · rw [vt_ix]
      exact vp_in_nI (by omega) (by decide)
    · rw [vt_ix, vt_ix, nI_clamp (by omega), nI_clamp (by omega)]
      exact vt_cps va s t n (by omega)
theorem vx_cp {post : SX → Prop} {s t : Nat} (hs : s < 5) (ht : t < 5) (h : post (l, g, upd pr t (pr s), vt_cp va s t 32)) : wpX_copyTable post (l, g, pr, va) (nI s) (nI t) := by
  have H := vx_cpL hs ht h 32 0 rfl
  rw [vt_cp0] at H
  unfold wpX_copyTable
  dsimp only
  exact ⟨vp_in_nI hs (by decide), vp_in_nI ht (by decide), nm_r (e' := upd pr t (pr s)) (by rw [nI_clamp (by omega), nI_clamp (by omega)]) ⟨33, H⟩⟩
theorem vy_cpL {post : SY → Prop} {s t : Nat} (hs : s < 5) (ht : t < 5) (h : post (l, g, ke, vt_cp wa s t 32)) : ∀ d n, n + d = 32 → wY_copy_14 post (nI s) (nI t) l g (d + 1) (nI n) ke (vt_cp wa s t n) := by
  intro d
  induction d with
  | zero =>
    intro n hn
    obtain rfl : n = 32 := by omega
    exact br_t (Int32.le_refl _) h
  | succ d ih =>
    intro n hn
    refine br_f (vt_i32 (by omega)) ⟨?_, ?_, nm_r (e' := vt_cp wa s t (n + 1)) ?_ (nm_r (nI_1 n) (ih (n + 1) (by omega)))⟩
    · rw [vt_iy]
      exact vp_in_nI (by omega) (by decide)
    · rw [vt_iy]
      exact vp_in_nI (by omega) (by decide)
    · rw [vt_iy, vt_iy, nI_clamp (by omega), nI_clamp (by omega)]
      exact vt_cps wa s t n (by omega)
theorem vy_cp {post : SY → Prop} {s t : Nat} (hs : s < 5) (ht : t < 5) (h : post (l, g, upd ke t (ke s), vt_cp wa s t 32)) : wpY_copy post (l, g, ke, wa) (nI s) (nI t) := by
  have H := vy_cpL hs ht h 32 0 rfl
  rw [vt_cp0] at H
  unfold wpY_copy
  dsimp only
  exact ⟨vp_in_nI hs (by decide), vp_in_nI ht (by decide), nm_r (e' := upd ke t (ke s)) (by rw [nI_clamp (by omega), nI_clamp (by omega)]) ⟨33, H⟩⟩
/-! from, upTo: in lockstep -/
theorem vv_from (V : vt_V pr va ke wa x y c w) (k : Int32) : ∀ d n, n + d = 32 → ∃ r, (∀ post : Int32 → Prop, post r → wX_from_9 post k x l g pr va (d + 1) (nI n)) ∧ (∀ post : Int32 → Prop, post r → wY_from_9 post k y l g ke wa (d + 1) (nI n)) := by
  intro d
  induction d with
  | zero =>
    intro n hn
    obtain rfl : n = 32 := by omega
    exact ⟨-1, fun post h => br_t (Int32.le_refl _) h, fun post h => br_t (Int32.le_refl _) h⟩
  | succ d ih =>
    intro n hn
    have hi : n < 32 := by omega
    have h32 := vt_i32 hi
    obtain ⟨r, hX, hY⟩ := ih (n + 1) (by omega)
    by_cases q : nI n < k
    · exact ⟨r, fun post h => br_f h32 (br_t q (nm_r (nI_1 n) (hX post h))), fun post h => br_f h32 (br_t q (nm_r (nI_1 n) (hY post h)))⟩
    · cases e : c n
      · exact ⟨r, fun post h => br_f h32 (br_f q (vv_Xf V hi e (br_t rfl (nm_r (nI_1 n) (hX post h))))), fun post h => br_f h32 (br_f q (vv_Yf V hi e (br_t rfl (nm_r (nI_1 n) (hY post h)))))⟩
      · exact ⟨nI n, fun post h => br_f h32 (br_f q (vv_Xt V hi e (br_f (by decide) h))), fun post h => br_f h32 (br_f q (vv_Yt V hi e (br_f (by decide) h)))⟩
theorem vv_upTo (V : vt_V pr va ke wa x y c w) (k : Int32) : ∀ j, j ≤ 32 → ∃ r, (∀ post : Int32 → Prop, post r → wX_upTo_10 post k x l g pr va (j + 1) (nI j + (-1))) ∧ (∀ post : Int32 → Prop, post r → wY_upTo_10 post k y l g ke wa (j + 1) (nI j + (-1))) := by
  intro j
  induction j with
  | zero =>
    intro _
    exact ⟨-1, fun post h => br_t (by decide) h, fun post h => br_t (by decide) h⟩
  | succ j ih =>
    intro hj
    have hi : j < 32 := by omega
    have h0 := vt_i0 hi
    obtain ⟨r, hX, hY⟩ := ih (by omega)
    rw [pk_m1]
    by_cases q : k < nI j
    · exact ⟨r, fun post h => br_f h0 (br_t q (nm_e (hX post h))), fun post h => br_f h0 (br_t q (nm_e (hY post h)))⟩
    · cases e : c j
      · exact ⟨r, fun post h => br_f h0 (br_f q (vv_Xf V hi e (br_t rfl (nm_e (hX post h))))), fun post h => br_f h0 (br_f q (vv_Yf V hi e (br_t rfl (nm_e (hY post h)))))⟩
      · exact ⟨nI j, fun post h => br_f h0 (br_f q (vv_Xt V hi e (br_f (by decide) h))), fun post h => br_f h0 (br_f q (vv_Yt V hi e (br_f (by decide) h)))⟩
/-! the keys below a bound -/
def vt_c (c : Nat → Bool) (b : Int32) : Nat → Bool := fun i => decide (nI i < b) && c i
theorem vt_c_lo {c : Nat → Bool} {b : Int32} {n : Nat} (h : b ≤ nI n) : vt_c c b n = false := by
  show (decide (nI n < b) && c n) = false
  rw [decide_eq_false (Int32.not_lt.mpr h), Bool.false_and]
theorem vt_c_hi {c : Nat → Bool} {b : Int32} {n : Nat} (h : ¬ b ≤ nI n) : vt_c c b n = c n := by
  show (decide (nI n < b) && c n) = c n
  rw [decide_eq_true (Int32.not_le.mp h), Bool.true_and]
def vt_r (x : Int32) (c : Nat → Bool) (b : Int32) : Int32 := (if x = -1 then -1 else 0) + nI (vt_cn (vt_c c b) 32)
theorem vx_kbL (V : vt_V pr va ke wa x y c w) (b : Int32) {post : Int32 → Prop} (h : post (nI (vt_cn (vt_c c b) 32))) : ∀ d n, n + d = 32 → wX_keysBelow_12 post x b l g pr va (d + 1) (nI (vt_cn (vt_c c b) n)) (nI n) := by
  intro d
  induction d with
  | zero =>
    intro n hn
    obtain rfl : n = 32 := by omega
    exact br_t (Int32.le_refl _) h
  | succ d ih =>
    intro n hn
    have hi : n < 32 := by omega
    have h32 := vt_i32 hi
    have H := ih (n + 1) (by omega)
    by_cases q : b ≤ nI n
    · rw [vt_cn_f (vt_c_lo q)] at H
      exact br_f h32 (br_t q (nm_r (nI_1 n) H))
    · cases e : c n
      · rw [vt_cn_f ((vt_c_hi q).trans e)] at H
        exact br_f h32 (br_f q (vv_Xf V hi e (br_t rfl (nm_r (nI_1 n) H))))
      · rw [vt_cn_t ((vt_c_hi q).trans e)] at H
        exact br_f h32 (br_f q (vv_Xt V hi e (br_f (by decide) (nm_r (nI_1 _) (nm_r (nI_1 n) H)))))
theorem vy_rkL (V : vt_V pr va ke wa x y c w) (b z : Int32) {post : Int32 → Prop} (h : post (z + nI (vt_cn (vt_c c b) 32))) : ∀ d n, n + d = 32 → wY_rank_20 post b y l g ke wa (d + 1) (z + nI (vt_cn (vt_c c b) n)) (nI n) := by
  intro d
  induction d with
  | zero =>
    intro n hn
    obtain rfl : n = 32 := by omega
    exact br_t (Int32.le_refl _) h
  | succ d ih =>
    intro n hn
    have hi : n < 32 := by omega
    have h32 := vt_i32 hi
    have H := ih (n + 1) (by omega)
    by_cases q : b ≤ nI n
    · rw [vt_cn_f (vt_c_lo q)] at H
      exact br_f h32 (br_t q (nm_r (nI_1 n) H))
    · cases e : c n
      · rw [vt_cn_f ((vt_c_hi q).trans e)] at H
        exact br_f h32 (br_f q (vv_Yf V hi e (br_t rfl (nm_r (nI_1 n) H))))
      · rw [vt_cn_t ((vt_c_hi q).trans e)] at H
        exact br_f h32 (br_f q (vv_Yt V hi e (br_f (by decide) (nm_r (e' := z + nI (vt_cn (vt_c c b) n + 1)) (by rw [Int32.add_assoc, nI_1]) (nm_r (nI_1 n) H)))))
theorem vt_r_none {b : Int32} (e : x = -1) (ec : c = fun _ => false) : vt_r x c b = -1 := by
  unfold vt_r
  rw [if_pos e, vt_cn_no 32 (fun i => by rw [ec]; exact Bool.and_false _)]
  rfl
theorem vt_r_some {b : Int32} (e : ¬ x = -1) : vt_r x c b = nI (vt_cn (vt_c c b) 32) := by
  unfold vt_r
  rw [if_neg e, Int32.zero_add]
theorem vx_kb (V : vt_V pr va ke wa x y c w) (b : Int32) {post : Int32 → Prop} (h : post (vt_r x c b)) : wpX_keysBelow post (l, g, pr, va) x b := by
  unfold wpX_keysBelow
  dsimp only
  rcases vv_none V with ⟨e, _, _, ec⟩ | ⟨e, _, _⟩
  · rw [vt_r_none e ec] at h
    exact br_t e h
  · rw [vt_r_some e] at h
    exact br_f e ⟨33, vx_kbL V b h 32 0 rfl⟩
theorem vy_rk (V : vt_V pr va ke wa x y c w) {n : Int32} (hY : ∀ post : Int32 → Prop, post y → wpY_table post (l, g, ke, wa) n) (b : Int32) {r : Int32} (hr : vt_r x c b = r) {post : Int32 → Prop} (h : post r) : wpY_rank post (l, g, ke, wa) n b := by
  subst hr
  unfold wpY_rank
  dsimp only
  refine hY _ ?_
  rcases vv_none V with ⟨e, _, e2, _⟩ | ⟨e, _, e2⟩
  · unfold vt_r at h
    rw [if_pos e] at h
    have H := vy_rkL (l := l) (g := g) V b (-1) h 32 0 rfl
    rw [show (-1 : Int32) + nI (vt_cn (vt_c c b) 0) = -1 from Int32.add_zero _] at H
    exact br_f e2 ⟨33, H⟩
  · unfold vt_r at h
    rw [if_neg e] at h
    have H := vy_rkL (l := l) (g := g) V b 0 h 32 0 rfl
    rw [show (0 : Int32) + nI (vt_cn (vt_c c b) 0) = 0 from Int32.add_zero _] at H
    exact br_t e2 ⟨33, H⟩
end
end
section
section
variable {pr va ke wa : Nat → Int32} {x y : Int32} {c : Nat → Bool} {w : Nat → Int32} {l g : Int32}
theorem vv_notNone (V : vt_V pr va ke wa x y c w) {i : Nat} (e : c i = true) : ¬ x = -1 := by
  rcases vv_none V with ⟨_, _, _, ec⟩ | ⟨q, _, _⟩
  · rw [ec] at e
    exact absurd e Bool.false_ne_true
  · exact q
/-! keyAt: X counts, Y asks rank -/
theorem vv_keyAt (V : vt_V pr va ke wa x y c w) {m : Int32} (hT : ∀ post : Int32 → Prop, post y → wpY_table post (l, g, ke, wa) m) (i : Int32) : ∀ d n, n + d = 32 → ∃ r, (∀ post : Int32 → Prop, post r → wX_keyAt_12 post i x l g pr va (d + 1) (nI (vt_cn c n)) (nI n)) ∧ (∀ post : Int32 → Prop, post r → wY_keyAt_9 post m i y l g ke wa (d + 1) (nI n)) := by
  intro d
  induction d with
  | zero =>
    intro n hn
    obtain rfl : n = 32 := by omega
    exact ⟨-1, fun post h => br_t (Int32.le_refl _) h, fun post h => br_t (Int32.le_refl _) h⟩
  | succ d ih =>
    intro n hn
    have hi : n < 32 := by omega
    have h32 := vt_i32 hi
    obtain ⟨r, hX, hY⟩ := ih (n + 1) (by omega)
    cases e : c n
    · rw [vt_cn_f e] at hX
      exact ⟨r, fun post h => br_f h32 (vv_Xf V hi e (br_t rfl (nm_r (nI_1 n) (hX post h)))), fun post h => br_f h32 (vv_Yf V hi e (br_t rfl (nm_r (nI_1 n) (hY post h))))⟩
    · rw [vt_cn_t e] at hX
      have rr : vt_r x c (nI n) = nI (vt_cn c n) := (vt_r_some (vv_notNone V e)).trans (congrArg nI (vt_cn_b c n (by omega)))
      by_cases q : nI (vt_cn c n) = i
      · exact ⟨nI n, fun post h => br_f h32 (vv_Xt V hi e (br_f (by decide) (br_t q h))), fun post h => br_f h32 (vv_Yt V hi e (br_f (by decide) (vy_rk V hT (nI n) rr (br_t q h))))⟩
      · exact ⟨r, fun post h => br_f h32 (vv_Xt V hi e (br_f (by decide) (br_f q (nm_r (nI_1 _) (nm_r (nI_1 n) (hX post h)))))), fun post h => br_f h32 (vv_Yt V hi e (br_f (by decide) (vy_rk V hT (nI n) rr (br_f q (nm_r (nI_1 n) (hY post h))))))⟩
/-! sum -/
theorem vv_sum (V : vt_V pr va ke wa x y c w) (a b : Int32) : ∀ d n s, n + d = 32 → ∃ r, (∀ post : Int32 → Prop, post r → wX_sum_13 post a b x l g pr va (d + 1) s (nI n)) ∧ (∀ post : Int32 → Prop, post r → wY_sum_13 post a b y l g ke wa (d + 1) s (nI n)) := by
  intro d
  induction d with
  | zero =>
    intro n s hn
    obtain rfl : n = 32 := by omega
    exact ⟨s, fun post h => br_t (Int32.le_refl _) h, fun post h => br_t (Int32.le_refl _) h⟩
  | succ d ih =>
    intro n s hn
    have hi : n < 32 := by omega
    have h32 := vt_i32 hi
    obtain ⟨r, hX, hY⟩ := ih (n + 1) s (by omega)
    by_cases q : nI n < a
    · exact ⟨r, fun post h => br_f h32 (br_t q (nm_r (nI_1 n) (hX post h))), fun post h => br_f h32 (br_t q (nm_r (nI_1 n) (hY post h)))⟩
    · by_cases q2 : b < nI n
      · exact ⟨r, fun post h => br_f h32 (br_f q (br_t q2 (nm_r (nI_1 n) (hX post h)))), fun post h => br_f h32 (br_f q (br_t q2 (nm_r (nI_1 n) (hY post h))))⟩
      · cases e : c n
        · exact ⟨r, fun post h => br_f h32 (br_f q (br_f q2 (vv_wf V hi e (nm_r (Int32.add_zero s) (nm_r (nI_1 n) (hX post h)))))), fun post h => br_f h32 (br_f q (br_f q2 (vv_Yf V hi e (br_t rfl (nm_r (nI_1 n) (hY post h))))))⟩
        · obtain ⟨r', hX', hY'⟩ := ih (n + 1) (s + w n) (by omega)
          have z := vv_cy V hi e
          exact ⟨r', fun post h => br_f h32 (br_f q (br_f q2 (vv_wt V hi e (nm_e (nm_r (nI_1 n) (hX' post h)))))), fun post h => br_f h32 (br_f q (br_f q2 (vv_Yt V hi e (br_f (by decide) ⟨z.1, nm_r (e' := s + w n) (by rw [z.2]) (nm_r (nI_1 n) (hY' post h))⟩))))⟩
end
section
variable {pr va ke wa : Nat → Int32} {x1 y1 x2 y2 : Int32} {c1 c2 : Nat → Bool} {w1 w2 : Nat → Int32} {l g : Int32}
/-! difference -/
theorem vx_dF (V1 : vt_V pr va ke wa x1 y1 c1 w1) (V2 : vt_V pr va ke wa x2 y2 c2 w2) {i : Nat} (hi : i < 32) (hs : c1 i = c2 i ∧ (c1 i = true → w1 i = w2 i)) {post : Int32 → Prop} (h : post 0) : wpX_differsAt post (l, g, pr, va) x1 x2 (nI i) := by
  unfold wpX_differsAt
  dsimp only
  cases e : c1 i
  · have e2 : c2 i = false := hs.1.symm.trans e
    exact vv_Xf V1 hi e (vv_Xf V2 hi e2 (br_t rfl (vv_wf V1 hi e (vv_wf V2 hi e2 (br_t rfl h)))))
  · have e2 : c2 i = true := hs.1.symm.trans e
    exact vv_Xt V1 hi e (vv_Xt V2 hi e2 (br_t rfl (vv_wt V1 hi e (vv_wt V2 hi e2 (br_t (hs.2 e) h)))))
theorem vx_dT (V1 : vt_V pr va ke wa x1 y1 c1 w1) (V2 : vt_V pr va ke wa x2 y2 c2 w2) {i : Nat} (hi : i < 32) (hd : ¬ (c1 i = c2 i ∧ (c1 i = true → w1 i = w2 i))) {post : Int32 → Prop} (h : post 1) : wpX_differsAt post (l, g, pr, va) x1 x2 (nI i) := by
  unfold wpX_differsAt
  dsimp only
  cases e : c1 i <;> cases e2 : c2 i
  · exact absurd ⟨e.trans e2.symm, fun z => absurd (e.symm.trans z) Bool.false_ne_true⟩ hd
  · exact vv_Xf V1 hi e (vv_Xt V2 hi e2 (br_f (by decide) h))
  · exact vv_Xt V1 hi e (vv_Xf V2 hi e2 (br_f (by decide) h))
  · exact vv_Xt V1 hi e (vv_Xt V2 hi e2 (br_t rfl (vv_wt V1 hi e (vv_wt V2 hi e2 (br_f (fun z => hd ⟨e.trans e2.symm, fun _ => z⟩) h)))))
theorem vy_91 {post : Int32 → Prop} {J : Int32 → Int32 → Prop} {s : Int32} {i : Nat} (h : J s (nI (i + 1))) : wY_difference_91 post J y1 y2 s (nI i) l g ke wa := by
  unfold wY_difference_91 wY_difference_96
  exact br_f (by decide) (nm_r (nI_1 i) h)
theorem vy_95 {post : Int32 → Prop} {J : Int32 → Int32 → Prop} {s : Int32} {i : Nat} (h : J (s ||| ((1 : Int32) <<< (nI i &&& 31))) (nI (i + 1))) : wY_difference_95 post J y1 y2 s (nI i) l g ke wa := by
  unfold wY_difference_95 wY_difference_96
  exact br_t rfl (nm_e (nm_r (nI_1 i) h))
theorem vy_dF (V1 : vt_V pr va ke wa x1 y1 c1 w1) (V2 : vt_V pr va ke wa x2 y2 c2 w2) (h1 : ¬ y1 < 0) (h2 : ¬ y2 < 0) {i : Nat} (hi : i < 32) (hs : c1 i = c2 i ∧ (c1 i = true → w1 i = w2 i)) {post : Int32 → Prop} {f : Nat} {s : Int32} (h : wY_difference_19 post y1 y2 l g ke wa f s (nI (i + 1))) : wY_difference_19 post y1 y2 l g ke wa (f + 1) s (nI i) := by
  cases e : c1 i
  · have e2 : c2 i = false := hs.1.symm.trans e
    exact br_f (vt_i32 hi) (br_f h1 (br_f h2 (vv_Yf V1 hi e (vv_Yf V2 hi e2 (br_t rfl (vv_Yf V1 hi e (br_t rfl (vy_91 h))))))))
  · have e2 : c2 i = true := hs.1.symm.trans e
    have z1 := vv_cy V1 hi e
    have z2 := vv_cy V2 hi e2
    exact br_f (vt_i32 hi) (br_f h1 (br_f h2 (vv_Yt V1 hi e (vv_Yt V2 hi e2 (br_t rfl (vv_Yt V1 hi e (br_f (by decide) ⟨z1.1, z2.1, br_t (by rw [z1.2, z2.2]; exact hs.2 e) (vy_91 h)⟩)))))))
theorem vy_dT (V1 : vt_V pr va ke wa x1 y1 c1 w1) (V2 : vt_V pr va ke wa x2 y2 c2 w2) (h1 : ¬ y1 < 0) (h2 : ¬ y2 < 0) {i : Nat} (hi : i < 32) (hd : ¬ (c1 i = c2 i ∧ (c1 i = true → w1 i = w2 i))) {post : Int32 → Prop} {f : Nat} {s : Int32} (h : wY_difference_19 post y1 y2 l g ke wa f (s ||| ((1 : Int32) <<< (nI i &&& 31))) (nI (i + 1))) : wY_difference_19 post y1 y2 l g ke wa (f + 1) s (nI i) := by
  cases e : c1 i <;> cases e2 : c2 i
  · exact absurd ⟨e.trans e2.symm, fun z => absurd (e.symm.trans z) Bool.false_ne_true⟩ hd
  · exact br_f (vt_i32 hi) (br_f h1 (br_f h2 (vv_Yf V1 hi e (vv_Yt V2 hi e2 (br_f (by decide) (vy_95 h))))))
  · exact br_f (vt_i32 hi) (br_f h1 (br_f h2 (vv_Yt V1 hi e (vv_Yf V2 hi e2 (br_f (by decide) (vy_95 h))))))
  · have z1 := vv_cy V1 hi e
    have z2 := vv_cy V2 hi e2
    exact br_f (vt_i32 hi) (br_f h1 (br_f h2 (vv_Yt V1 hi e (vv_Yt V2 hi e2 (br_t rfl (vv_Yt V1 hi e (br_f (by decide) ⟨z1.1, z2.1, br_f (by rw [z1.2, z2.2]; exact fun z => hd ⟨e.trans e2.symm, fun _ => z⟩) (vy_95 h)⟩)))))))
theorem vv_diff (V1 : vt_V pr va ke wa x1 y1 c1 w1) (V2 : vt_V pr va ke wa x2 y2 c2 w2) (h1 : ¬ y1 < 0) (h2 : ¬ y2 < 0) : ∀ d n s, n + d = 32 → ∃ r, (∀ post : Int32 → Prop, post r → wX_difference_32 post x1 x2 l g pr va (d + 1) s (nI n)) ∧ (∀ post : Int32 → Prop, post r → wY_difference_19 post y1 y2 l g ke wa (d + 1) s (nI n)) := by
  intro d
  induction d with
  | zero =>
    intro n s hn
    obtain rfl : n = 32 := by omega
    exact ⟨s, fun post h => br_t (Int32.le_refl _) h, fun post h => br_t (Int32.le_refl _) h⟩
  | succ d ih =>
    intro n s hn
    have hi : n < 32 := by omega
    have h32 := vt_i32 hi
    by_cases q : c1 n = c2 n ∧ (c1 n = true → w1 n = w2 n)
    · obtain ⟨r, hX, hY⟩ := ih (n + 1) s (by omega)
      exact ⟨r, fun post h => br_f h32 (vx_dF V1 V2 hi q (br_t rfl (nm_r (nI_1 n) (hX post h)))), fun post h => vy_dF V1 V2 h1 h2 hi q (hY post h)⟩
    · obtain ⟨r, hX, hY⟩ := ih (n + 1) (s ||| ((1 : Int32) <<< (nI n &&& 31))) (by omega)
      exact ⟨r, fun post h => br_f h32 (vx_dT V1 V2 hi q (br_f (by decide) (nm_e (nm_r (nI_1 n) (hX post h))))), fun post h => vy_dT V1 V2 h1 h2 hi q (hY post h)⟩
end
end
section
/-- least and greatest are the same numbers on both sides, the five tables are the same, each at its own place -/
def i_Rel (k : Nat) (u : SX) (v : SY) : Prop := ∃ (lo gr : Nat) (pr va ke wa : Nat → Int32), u = (nI lo, nI gr, pr, va) ∧ v = (nI lo, nI gr, ke, wa) ∧ 1 ≤ lo ∧ lo ≤ gr + 1 ∧ gr < lo + 4 ∧ gr ≤ k ∧ vt_T pr va ke wa
theorem i_up {k : Nat} {u : SX} {v : SY} (h : i_Rel k u v) : i_Rel (k + 4) u v := by
  obtain ⟨lo, gr, pr, va, ke, wa, rfl, rfl, h1, h2, h3, h4, T⟩ := h
  exact ⟨lo, gr, pr, va, ke, wa, rfl, rfl, h1, h2, h3, by omega, T⟩
theorem i_vc0 : wpX_init (fun u => wpY_init (fun v => i_Rel 0 u v)) := ⟨1, 0, fun _ => 0, fun _ => 0, fun _ => 0, fun _ => 0, rfl, rfl, by omega, by omega, by omega, by omega, fun _ _ => ⟨rfl, fun _ _ => rfl⟩⟩
theorem i_vc_put {k : Nat} {u : SX} {v : SY} (I : i_Rel k u v) (hk : k + 4 ≤ 2048) (v1 : Int32) (v2 : Int32) : wpX_put (fun r u' => wpY_put (fun r' v' => r' = r ∧ i_Rel (k + 4) u' v') v v1 v2) u v1 v2 := by
  obtain ⟨lo, gr, pr, va, ke, wa, rfl, rfl, h1, h2, h3, h4, T⟩ := I
  have J : i_Rel (k + 4) (nI lo, nI gr, pr, va) (nI lo, nI gr, ke, wa) := ⟨lo, gr, pr, va, ke, wa, rfl, rfl, h1, h2, h3, by omega, T⟩
  unfold wpX_put wpY_put
  dsimp only
  rcases pk_ix v1 (n := 32) (by decide) with a | a | ⟨i, hi, rfl⟩
  · exact br_t a (br_t rfl (br_t a ⟨rfl, J⟩))
  · exact br_f (vt_hi0 a) (br_t a (br_t rfl (br_f (vt_hi0 a) (br_f (Int32.not_le.mpr (vt_hi31 a)) ⟨rfl, J⟩))))
  · have e0 : ke 0 = pr 4 := (T 4 (by decide)).1
    have e1 : (128 : Int32) + nI i = nI (128 + i) := nI_add 128 i
    rw [e1, nI_clamp (show 128 + i < 2 ^ 31 by omega), nI_clamp (show i < 2 ^ 31 by omega), e0]
    exact br_f (vt_i0 hi) (br_f (vt_i32 hi) (br_f (by decide) (nm_e ⟨vp_in_nI (by omega) (by decide), nm_e (br_f (vt_i0 hi) (br_t (vt_i31' hi) (nm_e ⟨vp_in_nI (by omega) (by decide), nm_e ⟨rfl, lo, gr, _, _, _, _, rfl, rfl, h1, h2, h3, by omega, vt_T_cell (vt_T_word T _) hi v2⟩⟩)))⟩)))
theorem i_vc_remove {k : Nat} {u : SX} {v : SY} (I : i_Rel k u v) (hk : k + 4 ≤ 2048) (v1 : Int32) : wpX_remove (fun r u' => wpY_remove (fun r' v' => r' = r ∧ i_Rel (k + 4) u' v') v v1) u v1 := by
  obtain ⟨lo, gr, pr, va, ke, wa, rfl, rfl, h1, h2, h3, h4, T⟩ := I
  have J : i_Rel (k + 4) (nI lo, nI gr, pr, va) (nI lo, nI gr, ke, wa) := ⟨lo, gr, pr, va, ke, wa, rfl, rfl, h1, h2, h3, by omega, T⟩
  have V := vv_of T (p := 4) (by decide)
  have e0 : ke 0 = pr 4 := (T 4 (by decide)).1
  unfold wpX_remove wpY_remove
  dsimp only
  by_cases q : vt_b (bt (pr 4)) v1 = 0
  · exact vv_X V v1 (br_t q (vv_Y V v1 (br_t q ⟨rfl, J⟩)))
  · rw [e0]
    exact vv_X V v1 (br_f q (nm_e (vv_Y V v1 (br_f q (nm_e ⟨rfl, lo, gr, _, _, _, _, rfl, rfl, h1, h2, h3, by omega, vt_T_word T _⟩)))))
theorem i_vc_save {k : Nat} {u : SX} {v : SY} (I : i_Rel k u v) (hk : k + 4 ≤ 2048) : wpX_save (fun r u' => wpY_save (fun r' v' => r' = r ∧ i_Rel (k + 4) u' v') v) u := by
  obtain ⟨lo, gr, pr, va, ke, wa, rfl, rfl, h1, h2, h3, h4, T⟩ := I
  unfold wpX_save wpY_save
  dsimp only
  have hg : gr + 1 < 2 ^ 31 := by omega
  have hp : (gr + 1) % 4 < 4 := Nat.mod_lt _ (by decide)
  have T' := vt_T_cp T (s := 4) (t := (gr + 1) % 4) (by decide) (by omega)
  have hr := vt_rt_lt (p := (gr + 1) % 4) (by omega)
  rw [nI_1]
  refine nm_e ?_
  unfold wpX_placeInRing
  rw [vt_and3 hg]
  refine vx_cp (s := 4) (by decide) (by omega) ?_
  dsimp only
  rw [pk_sub h2]
  by_cases q : gr + 1 - lo < 4
  · have q' : nI (gr + 1 - lo) < 4 := nI_lt (b := 4) q (by decide)
    refine br_t q' (nm_e ⟨by decide, ?_⟩)
    rw [vt_rem4 hg]
    refine vy_cp (s := 0) (by decide) hr ?_
    dsimp only
    rw [pk_sub h2]
    exact br_t q' ⟨rfl, lo, gr + 1, _, _, _, _, rfl, rfl, h1, by omega, by omega, by omega, T'⟩
  · have q' : ¬ nI (gr + 1 - lo) < 4 := nI_nlt (b := 4) (by omega) (by omega)
    refine br_f q' (nm_r (nI_1 lo) (nm_e ⟨by decide, ?_⟩))
    rw [vt_rem4 hg]
    refine vy_cp (s := 0) (by decide) hr ?_
    dsimp only
    rw [pk_sub h2]
    have e3 : nI (gr + 1) - 3 = nI (lo + 1) := (pk_sub (b := 3) (by omega)).trans (congrArg nI (by omega))
    exact br_f q' (nm_r e3 ⟨rfl, lo + 1, gr + 1, _, _, _, _, rfl, rfl, by omega, by omega, by omega, by omega, T'⟩)
theorem i_vc_goBack {k : Nat} {u : SX} {v : SY} (I : i_Rel k u v) (hk : k + 4 ≤ 2048) (v1 : Int32) : wpX_goBack (fun r u' => wpY_goBack (fun r' v' => r' = r ∧ i_Rel (k + 4) u' v') v v1) u v1 := by
  obtain ⟨lo, gr, pr, va, ke, wa, rfl, rfl, h1, h2, h3, h4, T⟩ := I
  have J : i_Rel (k + 4) (nI lo, nI gr, pr, va) (nI lo, nI gr, ke, wa) := ⟨lo, gr, pr, va, ke, wa, rfl, rfl, h1, h2, h3, by omega, T⟩
  unfold wpX_goBack wpY_goBack
  dsimp only
  have h0 : nI 0 < nI lo := nI_lt (by omega) (by omega)
  by_cases z : v1 = 0
  · subst z
    exact br_t h0 (br_t rfl (br_t rfl (br_f (by decide) ⟨rfl, J⟩)))
  · by_cases a : v1 < nI lo
    · exact br_t a (br_t rfl (br_f z (br_t a (br_f (by decide) ⟨rfl, J⟩))))
    · by_cases b : nI gr < v1
      · exact br_f a (br_t b (br_t rfl (br_f z (br_f a (br_t b (br_f (by decide) ⟨rfl, J⟩))))))
      · obtain ⟨m, hm, rfl⟩ := nI_of (x := v1) (fun q => a (Int32.lt_of_lt_of_le q (nI_pos' (by omega))))
        have hp : m % 4 < 4 := Nat.mod_lt _ (by decide)
        have hr := vt_rt_lt (p := m % 4) (by omega)
        have T' := vt_T_cp T (s := m % 4) (t := 4) (by omega) (by decide)
        have a' : lo ≤ m := by
          rw [nI_ltI (by omega) (by omega)] at a
          omega
        have b' : m ≤ gr := by
          rw [nI_ltI (by omega) (by omega)] at b
          omega
        refine br_f a (br_f b (br_f (by decide) ?_))
        unfold wpX_placeInRing
        rw [vt_and3 hm]
        refine vx_cp (t := 4) (by omega) (by decide) ?_
        dsimp only
        refine br_f z (br_f a (br_f b ⟨by decide, ?_⟩))
        rw [vt_rem4 hm]
        have g1 : (1 : Int32) ≤ nI (vt_rt (m % 4)) := nI_le (a := 1) (by rw [vt_rtl hp]; omega) (by omega)
        refine br_t g1 (vy_cp (t := 0) hr (by decide) ?_)
        exact ⟨rfl, lo, m, _, _, _, _, rfl, rfl, h1, by omega, by omega, by omega, T'⟩
theorem i_vc_kept {k : Nat} {u : SX} {v : SY} (I : i_Rel k u v) (hk : k + 4 ≤ 2048) : wpX_kept (fun r => wpY_kept (fun r' => r' = r ∧ i_Rel (k + 4) u v) v) u := by
  obtain ⟨lo, gr, pr, va, ke, wa, rfl, rfl, h1, h2, h3, h4, T⟩ := I
  have J : i_Rel (k + 4) (nI lo, nI gr, pr, va) (nI lo, nI gr, ke, wa) := ⟨lo, gr, pr, va, ke, wa, rfl, rfl, h1, h2, h3, by omega, T⟩
  unfold wpX_kept wpY_kept
  dsimp only
  by_cases q : nI lo ≤ nI gr
  · exact br_t q (br_t q ⟨rfl, J⟩)
  · exact br_f q (br_f q ⟨rfl, J⟩)
theorem i_vc_has {k : Nat} {u : SX} {v : SY} (I : i_Rel k u v) (hk : k + 4 ≤ 2048) (v1 : Int32) (v2 : Int32) : wpX_has (fun r => wpY_has (fun r' => r' = r ∧ i_Rel (k + 4) u v) v v1 v2) u v1 v2 := by
  obtain ⟨lo, gr, pr, va, ke, wa, rfl, rfl, h1, h2, h3, h4, T⟩ := I
  have J : i_Rel (k + 4) (nI lo, nI gr, pr, va) (nI lo, nI gr, ke, wa) := ⟨lo, gr, pr, va, ke, wa, rfl, rfl, h1, h2, h3, by omega, T⟩
  obtain ⟨x, y, c, w, V, hX, hY⟩ := vv_place (gr := gr) T (show lo < 2 ^ 31 by omega) v1
  unfold wpX_has wpY_has
  dsimp only
  have n01 : narrow .boolean (.int (vt_b c v2)) = .int (vt_b c v2) := by
    unfold vt_b
    split <;> rfl
  exact hX _ (vv_X V v2 ⟨n01, hY _ (vv_Y V v2 ⟨n01, rfl, J⟩)⟩)
theorem i_vc_get {k : Nat} {u : SX} {v : SY} (I : i_Rel k u v) (hk : k + 4 ≤ 2048) (v1 : Int32) (v2 : Int32) : wpX_get (fun r => wpY_get (fun r' => r' = r ∧ i_Rel (k + 4) u v) v v1 v2) u v1 v2 := by
  obtain ⟨lo, gr, pr, va, ke, wa, rfl, rfl, h1, h2, h3, h4, T⟩ := I
  have J : i_Rel (k + 4) (nI lo, nI gr, pr, va) (nI lo, nI gr, ke, wa) := ⟨lo, gr, pr, va, ke, wa, rfl, rfl, h1, h2, h3, by omega, T⟩
  obtain ⟨x, y, c, w, V, hX, hY⟩ := vv_place (gr := gr) T (show lo < 2 ^ 31 by omega) v1
  unfold wpX_get wpY_get
  dsimp only
  refine hX _ ?_
  by_cases q : vt_b c v2 = 0
  · unfold wpX_valueAt
    dsimp only
    exact vv_X V v2 (br_t q (hY _ (vv_Y V v2 (br_t q ⟨rfl, J⟩))))
  · obtain ⟨i, hi, rfl, e⟩ := vt_b_ne q
    have z := vv_cy V hi e
    exact vv_wt V hi e (hY _ (vv_Yt V hi e (br_f (by decide) ⟨z.1, z.2, J⟩)))
theorem i_vc_count {k : Nat} {u : SX} {v : SY} (I : i_Rel k u v) (hk : k + 4 ≤ 2048) (v1 : Int32) : wpX_count (fun r => wpY_count (fun r' => r' = r ∧ i_Rel (k + 4) u v) v v1) u v1 := by
  obtain ⟨lo, gr, pr, va, ke, wa, rfl, rfl, h1, h2, h3, h4, T⟩ := I
  have J : i_Rel (k + 4) (nI lo, nI gr, pr, va) (nI lo, nI gr, ke, wa) := ⟨lo, gr, pr, va, ke, wa, rfl, rfl, h1, h2, h3, by omega, T⟩
  obtain ⟨x, y, c, w, V, hX, hY⟩ := vv_place (gr := gr) T (show lo < 2 ^ 31 by omega) v1
  unfold wpX_count wpY_count
  dsimp only
  exact hX _ (vx_kb V 32 (vy_rk V hY 32 rfl ⟨rfl, J⟩))
theorem i_vc_from {k : Nat} {u : SX} {v : SY} (I : i_Rel k u v) (hk : k + 4 ≤ 2048) (v1 : Int32) (v2 : Int32) : wpX_from (fun r => wpY_from (fun r' => r' = r ∧ i_Rel (k + 4) u v) v v1 v2) u v1 v2 := by
  obtain ⟨lo, gr, pr, va, ke, wa, rfl, rfl, h1, h2, h3, h4, T⟩ := I
  have J : i_Rel (k + 4) (nI lo, nI gr, pr, va) (nI lo, nI gr, ke, wa) := ⟨lo, gr, pr, va, ke, wa, rfl, rfl, h1, h2, h3, by omega, T⟩
  obtain ⟨x, y, c, w, V, hX, hY⟩ := vv_place (gr := gr) T (show lo < 2 ^ 31 by omega) v1
  unfold wpX_from wpY_from
  dsimp only
  obtain ⟨r, fX, fY⟩ := vv_from (l := nI lo) (g := nI gr) V v2 32 0 rfl
  exact hX _ ⟨33, fX _ (hY _ ⟨33, fY _ ⟨rfl, J⟩⟩)⟩
theorem i_vc_upTo {k : Nat} {u : SX} {v : SY} (I : i_Rel k u v) (hk : k + 4 ≤ 2048) (v1 : Int32) (v2 : Int32) : wpX_upTo (fun r => wpY_upTo (fun r' => r' = r ∧ i_Rel (k + 4) u v) v v1 v2) u v1 v2 := by
  obtain ⟨lo, gr, pr, va, ke, wa, rfl, rfl, h1, h2, h3, h4, T⟩ := I
  have J : i_Rel (k + 4) (nI lo, nI gr, pr, va) (nI lo, nI gr, ke, wa) := ⟨lo, gr, pr, va, ke, wa, rfl, rfl, h1, h2, h3, by omega, T⟩
  obtain ⟨x, y, c, w, V, hX, hY⟩ := vv_place (gr := gr) T (show lo < 2 ^ 31 by omega) v1
  unfold wpX_upTo wpY_upTo
  dsimp only
  obtain ⟨r, fX, fY⟩ := vv_upTo (l := nI lo) (g := nI gr) V v2 32 (by omega)
  rw [show nI 32 + (-1) = 31 from pk_m1 31] at fX fY
  exact hX _ ⟨33, fX _ (hY _ ⟨33, fY _ ⟨rfl, J⟩⟩)⟩
theorem i_vc_keyAt {k : Nat} {u : SX} {v : SY} (I : i_Rel k u v) (hk : k + 4 ≤ 2048) (v1 : Int32) (v2 : Int32) : wpX_keyAt (fun r => wpY_keyAt (fun r' => r' = r ∧ i_Rel (k + 4) u v) v v1 v2) u v1 v2 := by
  obtain ⟨lo, gr, pr, va, ke, wa, rfl, rfl, h1, h2, h3, h4, T⟩ := I
  have J : i_Rel (k + 4) (nI lo, nI gr, pr, va) (nI lo, nI gr, ke, wa) := ⟨lo, gr, pr, va, ke, wa, rfl, rfl, h1, h2, h3, by omega, T⟩
  obtain ⟨x, y, c, w, V, hX, hY⟩ := vv_place (gr := gr) T (show lo < 2 ^ 31 by omega) v1
  unfold wpX_keyAt wpY_keyAt
  dsimp only
  obtain ⟨r, fX, fY⟩ := vv_keyAt V hY v2 32 0 rfl
  exact hX _ ⟨33, fX _ (hY _ ⟨33, fY _ ⟨rfl, J⟩⟩)⟩
theorem i_vc_rank {k : Nat} {u : SX} {v : SY} (I : i_Rel k u v) (hk : k + 4 ≤ 2048) (v1 : Int32) (v2 : Int32) : wpX_rank (fun r => wpY_rank (fun r' => r' = r ∧ i_Rel (k + 4) u v) v v1 v2) u v1 v2 := by
  obtain ⟨lo, gr, pr, va, ke, wa, rfl, rfl, h1, h2, h3, h4, T⟩ := I
  have J : i_Rel (k + 4) (nI lo, nI gr, pr, va) (nI lo, nI gr, ke, wa) := ⟨lo, gr, pr, va, ke, wa, rfl, rfl, h1, h2, h3, by omega, T⟩
  obtain ⟨x, y, c, w, V, hX, hY⟩ := vv_place (gr := gr) T (show lo < 2 ^ 31 by omega) v1
  unfold wpX_rank
  dsimp only
  exact hX _ (vx_kb V v2 (vy_rk V hY v2 rfl ⟨rfl, J⟩))
theorem i_vc_sum {k : Nat} {u : SX} {v : SY} (I : i_Rel k u v) (hk : k + 4 ≤ 2048) (v1 : Int32) (v2 : Int32) (v3 : Int32) : wpX_sum (fun r => wpY_sum (fun r' => r' = r ∧ i_Rel (k + 4) u v) v v1 v2 v3) u v1 v2 v3 := by
  obtain ⟨lo, gr, pr, va, ke, wa, rfl, rfl, h1, h2, h3, h4, T⟩ := I
  have J : i_Rel (k + 4) (nI lo, nI gr, pr, va) (nI lo, nI gr, ke, wa) := ⟨lo, gr, pr, va, ke, wa, rfl, rfl, h1, h2, h3, by omega, T⟩
  obtain ⟨x, y, c, w, V, hX, hY⟩ := vv_place (gr := gr) T (show lo < 2 ^ 31 by omega) v1
  unfold wpX_sum wpY_sum
  dsimp only
  obtain ⟨r, fX, fY⟩ := vv_sum (l := nI lo) (g := nI gr) V v2 v3 32 0 0 rfl
  exact hX _ ⟨33, fX _ (hY _ ⟨33, fY _ ⟨rfl, J⟩⟩)⟩
theorem i_vc_difference {k : Nat} {u : SX} {v : SY} (I : i_Rel k u v) (hk : k + 4 ≤ 2048) (v1 : Int32) (v2 : Int32) : wpX_difference (fun r => wpY_difference (fun r' => r' = r ∧ i_Rel (k + 4) u v) v v1 v2) u v1 v2 := by
  obtain ⟨lo, gr, pr, va, ke, wa, rfl, rfl, h1, h2, h3, h4, T⟩ := I
  have J : i_Rel (k + 4) (nI lo, nI gr, pr, va) (nI lo, nI gr, ke, wa) := ⟨lo, gr, pr, va, ke, wa, rfl, rfl, h1, h2, h3, by omega, T⟩
  obtain ⟨x, y, c, w, V, hX, hY⟩ := vv_place (gr := gr) T (show lo < 2 ^ 31 by omega) v1
  obtain ⟨x2, y2, c2, w2, V2, hX2, hY2⟩ := vv_place (gr := gr) T (show lo < 2 ^ 31 by omega) v2
  unfold wpX_difference wpY_difference
  dsimp only
  refine hX _ (hX2 _ ?_)
  rcases vv_none V with ⟨e, e1, _, _⟩ | ⟨e, e1, _⟩
  · exact br_t e (hY _ (hY2 _ ⟨1, br_f (by decide) (br_t e1 ⟨rfl, J⟩)⟩))
  · rcases vv_none V2 with ⟨f, f1, _, _⟩ | ⟨f, f1, _⟩
    · exact br_f e (br_t f (hY _ (hY2 _ ⟨1, br_f (by decide) (br_f e1 (br_t f1 ⟨rfl, J⟩))⟩)))
    · obtain ⟨r, fX, fY⟩ := vv_diff (l := nI lo) (g := nI gr) V V2 e1 f1 32 0 0 rfl
      exact br_f e (br_f f ⟨33, fX _ (hY _ (hY2 _ ⟨33, fY _ ⟨rfl, J⟩⟩))⟩)
theorem i_vc_keys {k : Nat} {u : SX} {v : SY} (I : i_Rel k u v) (hk : k + 4 ≤ 2048) (v1 : Int32) : wpX_keys (fun r => wpY_keys (fun r' => r' = r ∧ i_Rel (k + 4) u v) v v1) u v1 := by
  obtain ⟨lo, gr, pr, va, ke, wa, rfl, rfl, h1, h2, h3, h4, T⟩ := I
  have J : i_Rel (k + 4) (nI lo, nI gr, pr, va) (nI lo, nI gr, ke, wa) := ⟨lo, gr, pr, va, ke, wa, rfl, rfl, h1, h2, h3, by omega, T⟩
  obtain ⟨x, y, c, w, V, hX, hY⟩ := vv_place (gr := gr) T (show lo < 2 ^ 31 by omega) v1
  unfold wpX_keys wpY_keys
  dsimp only
  refine hX _ ?_
  rcases V with ⟨rfl, rfl, _⟩ | ⟨p, hp, rfl, rfl, _, e, _⟩
  · exact br_t rfl (hY _ (br_f (by decide) ⟨rfl, J⟩))
  · have ht := vt_rt_lt hp
    have n1 : ¬ nI p = -1 := fun z => by
      have a : ¬ nI p < 0 := nI_pos (by omega)
      rw [z] at a
      exact a (by decide)
    refine br_f n1 ⟨vp_in_nI hp (by decide), hY _ (br_t (nI_pos' (by omega)) ⟨vp_in_nI ht (by decide), ?_, J⟩)⟩
    rw [nI_clamp (by omega), nI_clamp (by omega)]
    exact e
end
