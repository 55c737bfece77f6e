section
variable {pr va ke wa : Nat → Int32} {x y : Int32} {c : Nat → Bool} {w : Nat → Int32} {l g : Int32}
/-! copies -/
theorem vx_cpL {post : SX → Prop} {s t : Nat} (hs : s < 5) (ht : t < 5) (h : post (l, g, pr, vt_cp va s t 32)) : ∀ d n, n + d = 32 → wX_copyTable_14 post (nI s) (nI t) l g (d + 1) (nI n) pr (vt_cp va s t n) := by
  intro d
  induction d with
  | zero =>
    intro n hn
    obtain rfl : n = 32 := by omega
    exact br_t (Int32.le_refl _) h
  | succ d ih =>
    intro n hn
    refine br_f (vt_i32 (by omega)) ⟨?_, ?_, nm_r (e' := vt_cp va s t (n + 1)) ?_ (nm_r (nI_1 n) (ih (n + 1) (by omega)))⟩
    · rw [vt_ix]
      exact vp_in_nI (by omega) (by decide)
    · rw [vt_ix]
      exact vp_in_nI (by omega) (by decide)
    · rw [vt_ix, vt_ix, nI_clamp (by omega), nI_clamp (by omega)]
      exact vt_cps va s t n (by omega)
theorem vx_cp {post : SX → Prop} {s t : Nat} (hs : s < 5) (ht : t < 5) (h : post (l, g, upd pr t (pr s), vt_cp va s t 32)) : wpX_copyTable post (l, g, pr, va) (nI s) (nI t) := by
  have H := vx_cpL hs ht h 32 0 rfl
  rw [vt_cp0] at H
  unfold wpX_copyTable
  dsimp only
  exact ⟨vp_in_nI hs (by decide), vp_in_nI ht (by decide), nm_r (e' := upd pr t (pr s)) (by rw [nI_clamp (by omega), nI_clamp (by omega)]) ⟨33, H⟩⟩
theorem vy_cpL {post : SY → Prop} {s t : Nat} (hs : s < 5) (ht : t < 5) (h : post (l, g, ke, vt_cp wa s t 32)) : ∀ d n, n + d = 32 → wY_copy_14 post (nI s) (nI t) l g (d + 1) (nI n) ke (vt_cp wa s t n) := by
  intro d
  induction d with
  | zero =>
    intro n hn
    obtain rfl : n = 32 := by omega
    exact br_t (Int32.le_refl _) h
  | succ d ih =>
    intro n hn
    refine br_f (vt_i32 (by omega)) ⟨?_, ?_, nm_r (e' := vt_cp wa s t (n + 1)) ?_ (nm_r (nI_1 n) (ih (n + 1) (by omega)))⟩
    · rw [vt_iy]
      exact vp_in_nI (by omega) (by decide)
    · rw [vt_iy]
      exact vp_in_nI (by omega) (by decide)
    · rw [vt_iy, vt_iy, nI_clamp (by omega), nI_clamp (by omega)]
      exact vt_cps wa s t n (by omega)
theorem vy_cp {post : SY → Prop} {s t : Nat} (hs : s < 5) (ht : t < 5) (h : post (l, g, upd ke t (ke s), vt_cp wa s t 32)) : wpY_copy post (l, g, ke, wa) (nI s) (nI t) := by
  have H := vy_cpL hs ht h 32 0 rfl
  rw [vt_cp0] at H
  unfold wpY_copy
  dsimp only
  exact ⟨vp_in_nI hs (by decide), vp_in_nI ht (by decide), nm_r (e' := upd ke t (ke s)) (by rw [nI_clamp (by omega), nI_clamp (by omega)]) ⟨33, H⟩⟩
/-! from, upTo: in lockstep -/
theorem vv_from (V : vt_V pr va ke wa x y c w) (k : Int32) : ∀ d n, n + d = 32 → ∃ r, (∀ post : Int32 → Prop, post r → wX_from_9 post k x l g pr va (d + 1) (nI n)) ∧ (∀ post : Int32 → Prop, post r → wY_from_9 post k y l g ke wa (d + 1) (nI n)) := by
  intro d
  induction d with
  | zero =>
    intro n hn
    obtain rfl : n = 32 := by omega
    exact ⟨-1, fun post h => br_t (Int32.le_refl _) h, fun post h => br_t (Int32.le_refl _) h⟩
  | succ d ih =>
    intro n hn
    have hi : n < 32 := by omega
    have h32 := vt_i32 hi
    obtain ⟨r, hX, hY⟩ := ih (n + 1) (by omega)
    by_cases q : nI n < k
    · exact ⟨r, fun post h => br_f h32 (br_t q (nm_r (nI_1 n) (hX post h))), fun post h => br_f h32 (br_t q (nm_r (nI_1 n) (hY post h)))⟩
    · cases e : c n
      · exact ⟨r, fun post h => br_f h32 (br_f q (vv_Xf V hi e (br_t rfl (nm_r (nI_1 n) (hX post h))))), fun post h => br_f h32 (br_f q (vv_Yf V hi e (br_t rfl (nm_r (nI_1 n) (hY post h)))))⟩
      · exact ⟨nI n, fun post h => br_f h32 (br_f q (vv_Xt V hi e (br_f (by decide) h))), fun post h => br_f h32 (br_f q (vv_Yt V hi e (br_f (by decide) h)))⟩
theorem vv_upTo (V : vt_V pr va ke wa x y c w) (k : Int32) : ∀ j, j ≤ 32 → ∃ r, (∀ post : Int32 → Prop, post r → wX_upTo_10 post k x l g pr va (j + 1) (nI j + (-1))) ∧ (∀ post : Int32 → Prop, post r → wY_upTo_10 post k y l g ke wa (j + 1) (nI j + (-1))) := by
  intro j
  induction j with
  | zero =>
    intro _
    exact ⟨-1, fun post h => br_t (by decide) h, fun post h => br_t (by decide) h⟩
  | succ j ih =>
    intro hj
    have hi : j < 32 := by omega
    have h0 := vt_i0 hi
    obtain ⟨r, hX, hY⟩ := ih (by omega)
    rw [pk_m1]
    by_cases q : k < nI j
    · exact ⟨r, fun post h => br_f h0 (br_t q (nm_e (hX post h))), fun post h => br_f h0 (br_t q (nm_e (hY post h)))⟩
    · cases e : c j
      · exact ⟨r, fun post h => br_f h0 (br_f q (vv_Xf V hi e (br_t rfl (nm_e (hX post h))))), fun post h => br_f h0 (br_f q (vv_Yf V hi e (br_t rfl (nm_e (hY post h)))))⟩
      · exact ⟨nI j, fun post h => br_f h0 (br_f q (vv_Xt V hi e (br_f (by decide) h))), fun post h => br_f h0 (br_f q (vv_Yt V hi e (br_f (by decide) h)))⟩
/-! the keys below a bound -/
def vt_c (c : Nat → Bool) (b : Int32) : Nat → Bool := fun i => decide (nI i < b) && c i
theorem vt_c_lo {c : Nat → Bool} {b : Int32} {n : Nat} (h : b ≤ nI n) : vt_c c b n = false := by
  show (decide (nI n < b) && c n) = false
  rw [decide_eq_false (Int32.not_lt.mpr h), Bool.false_and]
theorem vt_c_hi {c : Nat → Bool} {b : Int32} {n : Nat} (h : ¬ b ≤ nI n) : vt_c c b n = c n := by
  show (decide (nI n < b) && c n) = c n
  rw [decide_eq_true (Int32.not_le.mp h), Bool.true_and]
def vt_r (x : Int32) (c : Nat → Bool) (b : Int32) : Int32 := (if x = -1 then -1 else 0) + nI (vt_cn (vt_c c b) 32)
theorem vx_kbL (V : vt_V pr va ke wa x y c w) (b : Int32) {post : Int32 → Prop} (h : post (nI (vt_cn (vt_c c b) 32))) : ∀ d n, n + d = 32 → wX_keysBelow_12 post x b l g pr va (d + 1) (nI (vt_cn (vt_c c b) n)) (nI n) := by
  intro d
  induction d with
  | zero =>
    intro n hn
    obtain rfl : n = 32 := by omega
    exact br_t (Int32.le_refl _) h
  | succ d ih =>
    intro n hn
    have hi : n < 32 := by omega
    have h32 := vt_i32 hi
    have H := ih (n + 1) (by omega)
    by_cases q : b ≤ nI n
    · rw [vt_cn_f (vt_c_lo q)] at H
      exact br_f h32 (br_t q (nm_r (nI_1 n) H))
    · cases e : c n
      · rw [vt_cn_f ((vt_c_hi q).trans e)] at H
        exact br_f h32 (br_f q (vv_Xf V hi e (br_t rfl (nm_r (nI_1 n) H))))
      · rw [vt_cn_t ((vt_c_hi q).trans e)] at H
        exact br_f h32 (br_f q (vv_Xt V hi e (br_f (by decide) (nm_r (nI_1 _) (nm_r (nI_1 n) H)))))
theorem vy_rkL (V : vt_V pr va ke wa x y c w) (b z : Int32) {post : Int32 → Prop} (h : post (z + nI (vt_cn (vt_c c b) 32))) : ∀ d n, n + d = 32 → wY_rank_20 post b y l g ke wa (d + 1) (z + nI (vt_cn (vt_c c b) n)) (nI n) := by
  intro d
  induction d with
  | zero =>
    intro n hn
    obtain rfl : n = 32 := by omega
    exact br_t (Int32.le_refl _) h
  | succ d ih =>
    intro n hn
    have hi : n < 32 := by omega
    have h32 := vt_i32 hi
    have H := ih (n + 1) (by omega)
    by_cases q : b ≤ nI n
    · rw [vt_cn_f (vt_c_lo q)] at H
      exact br_f h32 (br_t q (nm_r (nI_1 n) H))
    · cases e : c n
      · rw [vt_cn_f ((vt_c_hi q).trans e)] at H
        exact br_f h32 (br_f q (vv_Yf V hi e (br_t rfl (nm_r (nI_1 n) H))))
      · rw [vt_cn_t ((vt_c_hi q).trans e)] at H
        exact br_f h32 (br_f q (vv_Yt V hi e (br_f (by decide) (nm_r (e' := z + nI (vt_cn (vt_c c b) n + 1)) (by rw [Int32.add_assoc, nI_1]) (nm_r (nI_1 n) H)))))
theorem vt_r_none {b : Int32} (e : x = -1) (ec : c = fun _ => false) : vt_r x c b = -1 := by
  unfold vt_r
  rw [if_pos e, vt_cn_no 32 (fun i => by rw [ec]; exact Bool.and_false _)]
  rfl
theorem vt_r_some {b : Int32} (e : ¬ x = -1) : vt_r x c b = nI (vt_cn (vt_c c b) 32) := by
  unfold vt_r
  rw [if_neg e, Int32.zero_add]
theorem vx_kb (V : vt_V pr va ke wa x y c w) (b : Int32) {post : Int32 → Prop} (h : post (vt_r x c b)) : wpX_keysBelow post (l, g, pr, va) x b := by
  unfold wpX_keysBelow
  dsimp only
  rcases vv_none V with ⟨e, _, _, ec⟩ | ⟨e, _, _⟩
  · rw [vt_r_none e ec] at h
    exact br_t e h
  · rw [vt_r_some e] at h
    exact br_f e ⟨33, vx_kbL V b h 32 0 rfl⟩
theorem vy_rk (V : vt_V pr va ke wa x y c w) {n : Int32} (hY : ∀ post : Int32 → Prop, post y → wpY_table post (l, g, ke, wa) n) (b : Int32) {r : Int32} (hr : vt_r x c b = r) {post : Int32 → Prop} (h : post r) : wpY_rank post (l, g, ke, wa) n b := by
  subst hr
  unfold wpY_rank
  dsimp only
  refine hY _ ?_
  rcases vv_none V with ⟨e, _, e2, _⟩ | ⟨e, _, e2⟩
  · unfold vt_r at h
    rw [if_pos e] at h
    have H := vy_rkL (l := l) (g := g) V b (-1) h 32 0 rfl
    rw [show (-1 : Int32) + nI (vt_cn (vt_c c b) 0) = -1 from Int32.add_zero _] at H
    exact br_f e2 ⟨33, H⟩
  · unfold vt_r at h
    rw [if_neg e] at h
    have H := vy_rkL (l := l) (g := g) V b 0 h 32 0 rfl
    rw [show (0 : Int32) + nI (vt_cn (vt_c c b) 0) = 0 from Int32.add_zero _] at H
    exact br_t e2 ⟨33, H⟩
end
