/-! what isThere and in answer, of a table with the keys c -/
def vt_b (c : Nat → Bool) (k : Int32) : Int32 := if ¬ k < 0 ∧ ¬ nI 32 ≤ k ∧ c k.toNatClampNeg = true then 1 else 0
theorem vt_b_lo {c : Nat → Bool} {k : Int32} (h : k < 0) : vt_b c k = 0 := if_neg (fun z => z.1 h)
theorem vt_b_hi {c : Nat → Bool} {k : Int32} (h : nI 32 ≤ k) : vt_b c k = 0 := if_neg (fun z => z.2.1 h)
theorem vt_b_t {c : Nat → Bool} {i : Nat} (hi : i < 32) (h : c i = true) : vt_b c (nI i) = 1 := if_pos ⟨nI_pos (by omega), nI_ge hi (by decide), by rw [nI_clamp (by omega)]; exact h⟩
theorem vt_b_f {c : Nat → Bool} {i : Nat} (hi : i < 32) (h : c i = false) : vt_b c (nI i) = 0 := if_neg (fun z => by
  have a := z.2.2
  rw [nI_clamp (by omega), h] at a
  exact absurd a (by decide))
theorem vt_b_no (k : Int32) : vt_b (fun _ => false) k = 0 := if_neg (fun z => absurd z.2.2 Bool.false_ne_true)
theorem vt_b_ne {c : Nat → Bool} {k : Int32} (e : ¬ vt_b c k = 0) : ∃ i, i < 32 ∧ k = nI i ∧ c i = true := by
  rcases pk_ix k (n := 32) (by decide) with a | a | ⟨i, hi, rfl⟩
  · exact absurd (vt_b_lo a) e
  · exact absurd (vt_b_hi a) e
  · refine ⟨i, hi, rfl, ?_⟩
    cases h : c i
    · exact absurd (vt_b_f hi h) e
    · rfl
theorem vt_hi0 {k : Int32} (a : nI 32 ≤ k) : ¬ k < 0 := Int32.not_lt.mpr (Int32.le_trans (by decide) a)
theorem vt_hi31 {k : Int32} (a : nI 32 ≤ k) : (31 : Int32) < k := Int32.lt_of_lt_of_le (by decide) a
theorem vt_i32 {i : Nat} (hi : i < 32) : ¬ (32 : Int32) ≤ nI i := nI_ge (b := 32) hi (by decide)
theorem vt_i31 {i : Nat} (hi : i < 32) : ¬ (31 : Int32) < nI i := nI_nlt (a := 31) (b := i) (by omega) (by decide)
theorem vt_i31' {i : Nat} (hi : i < 32) : nI i ≤ (31 : Int32) := nI_le (a := i) (b := 31) (by omega) (by decide)
theorem vt_i0 {i : Nat} (hi : i < 32) : ¬ nI i < 0 := nI_pos (by omega)
theorem vt_ix (p i : Nat) : nI p * 32 + nI i = nI (32 * p + i) := by
  show nI p * nI 32 + nI i = _
  rw [pk_mul, nI_add, Nat.mul_comm]
theorem vt_iy (p i : Nat) : 32 * nI p + nI i = nI (32 * p + i) := by
  show nI 32 * nI p + nI i = _
  rw [pk_mul, nI_add]
theorem vx_isThere {post : Int32 → Prop} {l g : Int32} {pr va : Nat → Int32} {p : Nat} (hp : p < 5) (k : Int32) (h : post (vt_b (bt (pr p)) k)) : wpX_isThere post (l, g, pr, va) (nI p) k := by
  have h0 : ¬ nI p < 0 := nI_pos (by omega)
  have h5 : ¬ (5 : Int32) ≤ nI p := nI_ge (b := 5) hp (by decide)
  rcases pk_ix k (n := 32) (by decide) with a | a | ⟨i, hi, rfl⟩
  · rw [vt_b_lo a] at h
    exact br_f h0 (br_f h5 (br_t a (br_t rfl h)))
  · rw [vt_b_hi a] at h
    exact br_f h0 (br_f h5 (br_f (vt_hi0 a) (br_t a (br_t rfl h))))
  · have hin : vp_in (nI p) 5 := vp_in_nI hp (by decide)
    cases e : bt (pr p) i
    · rw [vt_b_f hi e] at h
      have z : (pr (nI p).toNatClampNeg &&& ((1 : Int32) <<< (nI i &&& 31))) = 0 := by
        rw [nI_clamp (by omega)]
        exact (vt_xbit (pr p) i hi).mpr e
      exact br_f h0 (br_f h5 (br_f (vt_i0 hi) (br_f (vt_i32 hi) (br_f (by decide) ⟨hin, br_t z h⟩))))
    · rw [vt_b_t hi e] at h
      have z : ¬ (pr (nI p).toNatClampNeg &&& ((1 : Int32) <<< (nI i &&& 31))) = 0 := by
        rw [nI_clamp (by omega)]
        intro q
        rw [(vt_xbit (pr p) i hi).mp q] at e
        exact absurd e (by decide)
      exact br_f h0 (br_f h5 (br_f (vt_i0 hi) (br_f (vt_i32 hi) (br_f (by decide) ⟨hin, br_f z h⟩))))
theorem vy_in {post : Int32 → Prop} {l g : Int32} {ke wa : Nat → Int32} {t : Nat} (ht : t < 5) (k : Int32) (h : post (vt_b (bt (ke t)) k)) : wpY_in post (l, g, ke, wa) (nI t) k := by
  have h0 : ¬ nI t < 0 := nI_pos (by omega)
  rcases pk_ix k (n := 32) (by decide) with a | a | ⟨i, hi, rfl⟩
  · rw [vt_b_lo a] at h
    exact br_f h0 (br_t a h)
  · rw [vt_b_hi a] at h
    exact br_f h0 (br_f (vt_hi0 a) (br_t (vt_hi31 a) h))
  · have hin : vp_in (nI t) 5 := vp_in_nI ht (by decide)
    cases e : bt (ke t) i
    · rw [vt_b_f hi e] at h
      have z : ¬ ((ke (nI t).toNatClampNeg >>> (nI i &&& 31)) &&& 1) = 1 := by
        rw [nI_clamp (by omega), vt_ybit (ke t) i hi, e, if_neg (by decide)]
        decide
      exact br_f h0 (br_f (vt_i0 hi) (br_f (vt_i31 hi) ⟨hin, br_f z h⟩))
    · rw [vt_b_t hi e] at h
      have z : ((ke (nI t).toNatClampNeg >>> (nI i &&& 31)) &&& 1) = 1 := by
        rw [nI_clamp (by omega), vt_ybit (ke t) i hi, if_pos e]
      exact br_f h0 (br_f (vt_i0 hi) (br_f (vt_i31 hi) ⟨hin, br_t z h⟩))
/-- X's place x and Y's table y are one table, with the keys c and the cells w -/
def vt_V (pr va ke wa : Nat → Int32) (x y : Int32) (c : Nat → Bool) (w : Nat → Int32) : Prop :=
  (x = -1 ∧ y = -1 ∧ c = fun _ => false) ∨ ∃ p, p < 5 ∧ x = nI p ∧ y = nI (vt_rt p) ∧ c = bt (pr p) ∧ ke (vt_rt p) = pr p ∧ ∀ i, i < 32 → va (32 * p + i) = w i ∧ wa (32 * vt_rt p + i) = w i
section
variable {pr va ke wa : Nat → Int32} {x y : Int32} {c : Nat → Bool} {w : Nat → Int32} {l g : Int32} {post : Int32 → Prop}
theorem vv_X (V : vt_V pr va ke wa x y c w) (k : Int32) (h : post (vt_b c k)) : wpX_isThere post (l, g, pr, va) x k := by
  rcases V with ⟨rfl, _, rfl⟩ | ⟨p, hp, rfl, _, rfl, _⟩
  · rw [vt_b_no] at h
    exact br_t (by decide) h
  · exact vx_isThere hp k h
theorem vv_Y (V : vt_V pr va ke wa x y c w) (k : Int32) (h : post (vt_b c k)) : wpY_in post (l, g, ke, wa) y k := by
  rcases V with ⟨_, rfl, rfl⟩ | ⟨p, hp, _, rfl, rfl, e, _⟩
  · rw [vt_b_no] at h
    exact br_t (by decide) h
  · rw [← e] at h
    exact vy_in (vt_rt_lt hp) k h
theorem vv_Xt (V : vt_V pr va ke wa x y c w) {i : Nat} (hi : i < 32) (e : c i = true) (h : post 1) : wpX_isThere post (l, g, pr, va) x (nI i) := vv_X V (nI i) (by rw [vt_b_t hi e]; exact h)
theorem vv_Xf (V : vt_V pr va ke wa x y c w) {i : Nat} (hi : i < 32) (e : c i = false) (h : post 0) : wpX_isThere post (l, g, pr, va) x (nI i) := vv_X V (nI i) (by rw [vt_b_f hi e]; exact h)
theorem vv_Yt (V : vt_V pr va ke wa x y c w) {i : Nat} (hi : i < 32) (e : c i = true) (h : post 1) : wpY_in post (l, g, ke, wa) y (nI i) := vv_Y V (nI i) (by rw [vt_b_t hi e]; exact h)
theorem vv_Yf (V : vt_V pr va ke wa x y c w) {i : Nat} (hi : i < 32) (e : c i = false) (h : post 0) : wpY_in post (l, g, ke, wa) y (nI i) := vv_Y V (nI i) (by rw [vt_b_f hi e]; exact h)
theorem vv_cx (V : vt_V pr va ke wa x y c w) {i : Nat} (hi : i < 32) (e : c i = true) : vp_in (x * 32 + nI i) 160 ∧ va (x * 32 + nI i).toNatClampNeg = w i := by
  rcases V with ⟨_, _, rfl⟩ | ⟨p, hp, rfl, _, _, _, hw⟩
  · exact absurd e Bool.false_ne_true
  · rw [vt_ix, nI_clamp (by omega)]
    exact ⟨vp_in_nI (by omega) (by decide), (hw i hi).1⟩
theorem vv_cy (V : vt_V pr va ke wa x y c w) {i : Nat} (hi : i < 32) (e : c i = true) : vp_in (32 * y + nI i) 160 ∧ wa (32 * y + nI i).toNatClampNeg = w i := by
  rcases V with ⟨_, _, rfl⟩ | ⟨p, hp, _, rfl, _, _, hw⟩
  · exact absurd e Bool.false_ne_true
  · have ht := vt_rt_lt hp
    rw [vt_iy, nI_clamp (by omega)]
    exact ⟨vp_in_nI (by omega) (by decide), (hw i hi).2⟩
theorem vv_wt (V : vt_V pr va ke wa x y c w) {i : Nat} (hi : i < 32) (e : c i = true) (h : post (w i)) : wpX_valueAt post (l, g, pr, va) x (nI i) := by
  have z := vv_cx V hi e
  unfold wpX_valueAt
  dsimp only
  refine vv_Xt V hi e (br_f (by decide) ⟨z.1, ?_⟩)
  rw [z.2]
  exact h
theorem vv_wf (V : vt_V pr va ke wa x y c w) {i : Nat} (hi : i < 32) (e : c i = false) (h : post 0) : wpX_valueAt post (l, g, pr, va) x (nI i) := by
  unfold wpX_valueAt
  dsimp only
  exact vv_Xf V hi e (br_t rfl h)
theorem vv_none (V : vt_V pr va ke wa x y c w) : (x = -1 ∧ y < 0 ∧ ¬ 0 ≤ y ∧ c = fun _ => false) ∨ (¬ x = -1 ∧ ¬ y < 0 ∧ 0 ≤ y) := by
  rcases V with ⟨rfl, rfl, e⟩ | ⟨p, hp, rfl, rfl, _⟩
  · exact Or.inl ⟨rfl, by decide, by decide, e⟩
  · have ht := vt_rt_lt hp
    refine Or.inr ⟨fun z => ?_, nI_pos (by omega), nI_pos' (by omega)⟩
    have a : ¬ nI p < 0 := nI_pos (by omega)
    rw [z] at a
    exact a (by decide)
end
theorem vv_of {pr va ke wa : Nat → Int32} (T : vt_T pr va ke wa) {p : Nat} (hp : p < 5) : vt_V pr va ke wa (nI p) (nI (vt_rt p)) (bt (pr p)) (fun i => va (32 * p + i)) := Or.inr ⟨p, hp, rfl, rfl, rfl, (T p hp).1, fun i hi => ⟨rfl, (T p hp).2 i hi⟩⟩
theorem vt_and3 {m : Nat} (h : m < 2 ^ 31) : nI m &&& 3 = nI (m % 4) := pk_andN (by omega) 2 (by decide)
theorem vt_rem4 {m : Nat} (h : m < 2 ^ 31) : 1 + (nI m - nI m / 4 * 4) = nI (vt_rt (m % 4)) := by
  have r : nI m - nI m / 4 * 4 = nI (m % 4) := pk_rem (d := 4) h (by decide) (by decide)
  rw [r, vt_rtl (Nat.mod_lt _ (by decide))]
  show nI 1 + nI (m % 4) = _
  rw [nI_add, Nat.add_comm]
/-- placeOf and table of any number answer one table -/
theorem vv_place {pr va ke wa : Nat → Int32} {lo gr : Nat} (T : vt_T pr va ke wa) (hl : lo < 2 ^ 31) (n : Int32) : ∃ x y c w, vt_V pr va ke wa x y c w ∧ (∀ post : Int32 → Prop, post x → wpX_placeOf post (nI lo, nI gr, pr, va) n) ∧ (∀ post : Int32 → Prop, post y → wpY_table post (nI lo, nI gr, ke, wa) n) := by
  by_cases z : n = 0
  · exact ⟨_, _, _, _, vv_of T (p := 4) (by decide), fun post h => br_t z h, fun post h => br_t z h⟩
  · have no : vt_V pr va ke wa (-1) (-1) (fun _ => false) (fun _ => 0) := Or.inl ⟨rfl, rfl, rfl⟩
    by_cases a : n < nI lo
    · exact ⟨_, _, _, _, no, fun post h => br_f z (br_t a (br_t rfl h)), fun post h => br_f z (br_t a h)⟩
    · by_cases b : nI gr < n
      · exact ⟨_, _, _, _, no, fun post h => br_f z (br_f a (br_t b (br_t rfl h))), fun post h => br_f z (br_f a (br_t b h))⟩
      · obtain ⟨m, hm, rfl⟩ := nI_of (x := n) (fun q => a (Int32.lt_of_lt_of_le q (nI_pos' hl)))
        have hp : m % 4 < 4 := Nat.mod_lt _ (by decide)
        refine ⟨_, _, _, _, vv_of T (p := m % 4) (by omega), fun post h => br_f z (br_f a (br_f b (br_f (by decide) ?_))), fun post h => br_f z (br_f a (br_f b ⟨by decide, ?_⟩))⟩
        · show post (nI m &&& 3)
          rw [vt_and3 hm]
          exact h
        · rw [vt_rem4 hm]
          exact h
