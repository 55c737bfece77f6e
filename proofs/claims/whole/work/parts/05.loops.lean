section
variable {pr va ke wa : Nat → Int32} {x y : Int32} {c : Nat → Bool} {w : Nat → Int32} {l g : Int32}
theorem vv_notNone (V : vt_V pr va ke wa x y c w) {i : Nat} (e : c i = true) : ¬ x = -1 := by
  rcases vv_none V with ⟨_, _, _, ec⟩ | ⟨q, _, _⟩
  · rw [ec] at e
    exact absurd e Bool.false_ne_true
  · exact q
/-! keyAt: X counts, Y asks rank -/
theorem vv_keyAt (V : vt_V pr va ke wa x y c w) {m : Int32} (hT : ∀ post : Int32 → Prop, post y → wpY_table post (l, g, ke, wa) m) (i : Int32) : ∀ d n, n + d = 32 → ∃ r, (∀ post : Int32 → Prop, post r → wX_keyAt_12 post i x l g pr va (d + 1) (nI (vt_cn c n)) (nI n)) ∧ (∀ post : Int32 → Prop, post r → wY_keyAt_9 post m i y l g ke wa (d + 1) (nI n)) := by
  intro d
  induction d with
  | zero =>
    intro n hn
    obtain rfl : n = 32 := by omega
    exact ⟨-1, fun post h => br_t (Int32.le_refl _) h, fun post h => br_t (Int32.le_refl _) h⟩
  | succ d ih =>
    intro n hn
    have hi : n < 32 := by omega
    have h32 := vt_i32 hi
    obtain ⟨r, hX, hY⟩ := ih (n + 1) (by omega)
    cases e : c n
    · rw [vt_cn_f e] at hX
      exact ⟨r, fun post h => br_f h32 (vv_Xf V hi e (br_t rfl (nm_r (nI_1 n) (hX post h)))), fun post h => br_f h32 (vv_Yf V hi e (br_t rfl (nm_r (nI_1 n) (hY post h))))⟩
    · rw [vt_cn_t e] at hX
      have rr : vt_r x c (nI n) = nI (vt_cn c n) := (vt_r_some (vv_notNone V e)).trans (congrArg nI (vt_cn_b c n (by omega)))
      by_cases q : nI (vt_cn c n) = i
      · exact ⟨nI n, fun post h => br_f h32 (vv_Xt V hi e (br_f (by decide) (br_t q h))), fun post h => br_f h32 (vv_Yt V hi e (br_f (by decide) (vy_rk V hT (nI n) rr (br_t q h))))⟩
      · exact ⟨r, fun post h => br_f h32 (vv_Xt V hi e (br_f (by decide) (br_f q (nm_r (nI_1 _) (nm_r (nI_1 n) (hX post h)))))), fun post h => br_f h32 (vv_Yt V hi e (br_f (by decide) (vy_rk V hT (nI n) rr (br_f q (nm_r (nI_1 n) (hY post h))))))⟩
/-! sum -/
theorem vv_sum (V : vt_V pr va ke wa x y c w) (a b : Int32) : ∀ d n s, n + d = 32 → ∃ r, (∀ post : Int32 → Prop, post r → wX_sum_13 post a b x l g pr va (d + 1) s (nI n)) ∧ (∀ post : Int32 → Prop, post r → wY_sum_13 post a b y l g ke wa (d + 1) s (nI n)) := by
  intro d
  induction d with
  | zero =>
    intro n s hn
    obtain rfl : n = 32 := by omega
    exact ⟨s, fun post h => br_t (Int32.le_refl _) h, fun post h => br_t (Int32.le_refl _) h⟩
  | succ d ih =>
    intro n s hn
    have hi : n < 32 := by omega
    have h32 := vt_i32 hi
    obtain ⟨r, hX, hY⟩ := ih (n + 1) s (by omega)
    by_cases q : nI n < a
    · exact ⟨r, fun post h => br_f h32 (br_t q (nm_r (nI_1 n) (hX post h))), fun post h => br_f h32 (br_t q (nm_r (nI_1 n) (hY post h)))⟩
    · by_cases q2 : b < nI n
      · exact ⟨r, fun post h => br_f h32 (br_f q (br_t q2 (nm_r (nI_1 n) (hX post h)))), fun post h => br_f h32 (br_f q (br_t q2 (nm_r (nI_1 n) (hY post h))))⟩
      · cases e : c n
        · exact ⟨r, fun post h => br_f h32 (br_f q (br_f q2 (vv_wf V hi e (nm_r (Int32.add_zero s) (nm_r (nI_1 n) (hX post h)))))), fun post h => br_f h32 (br_f q (br_f q2 (vv_Yf V hi e (br_t rfl (nm_r (nI_1 n) (hY post h))))))⟩
        · obtain ⟨r', hX', hY'⟩ := ih (n + 1) (s + w n) (by omega)
          have z := vv_cy V hi e
          exact ⟨r', fun post h => br_f h32 (br_f q (br_f q2 (vv_wt V hi e (nm_e (nm_r (nI_1 n) (hX' post h)))))), fun post h => br_f h32 (br_f q (br_f q2 (vv_Yt V hi e (br_f (by decide) ⟨z.1, nm_r (e' := s + w n) (by rw [z.2]) (nm_r (nI_1 n) (hY' post h))⟩))))⟩
end
section
variable {pr va ke wa : Nat → Int32} {x1 y1 x2 y2 : Int32} {c1 c2 : Nat → Bool} {w1 w2 : Nat → Int32} {l g : Int32}
/-! difference -/
theorem vx_dF (V1 : vt_V pr va ke wa x1 y1 c1 w1) (V2 : vt_V pr va ke wa x2 y2 c2 w2) {i : Nat} (hi : i < 32) (hs : c1 i = c2 i ∧ (c1 i = true → w1 i = w2 i)) {post : Int32 → Prop} (h : post 0) : wpX_differsAt post (l, g, pr, va) x1 x2 (nI i) := by
  unfold wpX_differsAt
  dsimp only
  cases e : c1 i
  · have e2 : c2 i = false := hs.1.symm.trans e
    exact vv_Xf V1 hi e (vv_Xf V2 hi e2 (br_t rfl (vv_wf V1 hi e (vv_wf V2 hi e2 (br_t rfl h)))))
  · have e2 : c2 i = true := hs.1.symm.trans e
    exact vv_Xt V1 hi e (vv_Xt V2 hi e2 (br_t rfl (vv_wt V1 hi e (vv_wt V2 hi e2 (br_t (hs.2 e) h)))))
theorem vx_dT (V1 : vt_V pr va ke wa x1 y1 c1 w1) (V2 : vt_V pr va ke wa x2 y2 c2 w2) {i : Nat} (hi : i < 32) (hd : ¬ (c1 i = c2 i ∧ (c1 i = true → w1 i = w2 i))) {post : Int32 → Prop} (h : post 1) : wpX_differsAt post (l, g, pr, va) x1 x2 (nI i) := by
  unfold wpX_differsAt
  dsimp only
  cases e : c1 i <;> cases e2 : c2 i
  · exact absurd ⟨e.trans e2.symm, fun z => absurd (e.symm.trans z) Bool.false_ne_true⟩ hd
  · exact vv_Xf V1 hi e (vv_Xt V2 hi e2 (br_f (by decide) h))
  · exact vv_Xt V1 hi e (vv_Xf V2 hi e2 (br_f (by decide) h))
  · exact vv_Xt V1 hi e (vv_Xt V2 hi e2 (br_t rfl (vv_wt V1 hi e (vv_wt V2 hi e2 (br_f (fun z => hd ⟨e.trans e2.symm, fun _ => z⟩) h)))))
theorem vy_91 {post : Int32 → Prop} {J : Int32 → Int32 → Prop} {s : Int32} {i : Nat} (h : J s (nI (i + 1))) : wY_difference_91 post J y1 y2 s (nI i) l g ke wa := by
  unfold wY_difference_91 wY_difference_96
  exact br_f (by decide) (nm_r (nI_1 i) h)
theorem vy_95 {post : Int32 → Prop} {J : Int32 → Int32 → Prop} {s : Int32} {i : Nat} (h : J (s ||| ((1 : Int32) <<< (nI i &&& 31))) (nI (i + 1))) : wY_difference_95 post J y1 y2 s (nI i) l g ke wa := by
  unfold wY_difference_95 wY_difference_96
  exact br_t rfl (nm_e (nm_r (nI_1 i) h))
theorem vy_dF (V1 : vt_V pr va ke wa x1 y1 c1 w1) (V2 : vt_V pr va ke wa x2 y2 c2 w2) (h1 : ¬ y1 < 0) (h2 : ¬ y2 < 0) {i : Nat} (hi : i < 32) (hs : c1 i = c2 i ∧ (c1 i = true → w1 i = w2 i)) {post : Int32 → Prop} {f : Nat} {s : Int32} (h : wY_difference_19 post y1 y2 l g ke wa f s (nI (i + 1))) : wY_difference_19 post y1 y2 l g ke wa (f + 1) s (nI i) := by
  cases e : c1 i
  · have e2 : c2 i = false := hs.1.symm.trans e
    exact br_f (vt_i32 hi) (br_f h1 (br_f h2 (vv_Yf V1 hi e (vv_Yf V2 hi e2 (br_t rfl (vv_Yf V1 hi e (br_t rfl (vy_91 h))))))))
  · have e2 : c2 i = true := hs.1.symm.trans e
    have z1 := vv_cy V1 hi e
    have z2 := vv_cy V2 hi e2
    exact br_f (vt_i32 hi) (br_f h1 (br_f h2 (vv_Yt V1 hi e (vv_Yt V2 hi e2 (br_t rfl (vv_Yt V1 hi e (br_f (by decide) ⟨z1.1, z2.1, br_t (by rw [z1.2, z2.2]; exact hs.2 e) (vy_91 h)⟩)))))))
theorem vy_dT (V1 : vt_V pr va ke wa x1 y1 c1 w1) (V2 : vt_V pr va ke wa x2 y2 c2 w2) (h1 : ¬ y1 < 0) (h2 : ¬ y2 < 0) {i : Nat} (hi : i < 32) (hd : ¬ (c1 i = c2 i ∧ (c1 i = true → w1 i = w2 i))) {post : Int32 → Prop} {f : Nat} {s : Int32} (h : wY_difference_19 post y1 y2 l g ke wa f (s ||| ((1 : Int32) <<< (nI i &&& 31))) (nI (i + 1))) : wY_difference_19 post y1 y2 l g ke wa (f + 1) s (nI i) := by
  cases e : c1 i <;> cases e2 : c2 i
  · exact absurd ⟨e.trans e2.symm, fun z => absurd (e.symm.trans z) Bool.false_ne_true⟩ hd
  · exact br_f (vt_i32 hi) (br_f h1 (br_f h2 (vv_Yf V1 hi e (vv_Yt V2 hi e2 (br_f (by decide) (vy_95 h))))))
  · exact br_f (vt_i32 hi) (br_f h1 (br_f h2 (vv_Yt V1 hi e (vv_Yf V2 hi e2 (br_f (by decide) (vy_95 h))))))
  · have z1 := vv_cy V1 hi e
    have z2 := vv_cy V2 hi e2
    exact br_f (vt_i32 hi) (br_f h1 (br_f h2 (vv_Yt V1 hi e (vv_Yt V2 hi e2 (br_t rfl (vv_Yt V1 hi e (br_f (by decide) ⟨z1.1, z2.1, br_f (by rw [z1.2, z2.2]; exact fun z => hd ⟨e.trans e2.symm, fun _ => z⟩) (vy_95 h)⟩)))))))
theorem vv_diff (V1 : vt_V pr va ke wa x1 y1 c1 w1) (V2 : vt_V pr va ke wa x2 y2 c2 w2) (h1 : ¬ y1 < 0) (h2 : ¬ y2 < 0) : ∀ d n s, n + d = 32 → ∃ r, (∀ post : Int32 → Prop, post r → wX_difference_32 post x1 x2 l g pr va (d + 1) s (nI n)) ∧ (∀ post : Int32 → Prop, post r → wY_difference_19 post y1 y2 l g ke wa (d + 1) s (nI n)) := by
  intro d
  induction d with
  | zero =>
    intro n s hn
    obtain rfl : n = 32 := by omega
    exact ⟨s, fun post h => br_t (Int32.le_refl _) h, fun post h => br_t (Int32.le_refl _) h⟩
  | succ d ih =>
    intro n s hn
    have hi : n < 32 := by omega
    have h32 := vt_i32 hi
    by_cases q : c1 n = c2 n ∧ (c1 n = true → w1 n = w2 n)
    · obtain ⟨r, hX, hY⟩ := ih (n + 1) s (by omega)
      exact ⟨r, fun post h => br_f h32 (vx_dF V1 V2 hi q (br_t rfl (nm_r (nI_1 n) (hX post h)))), fun post h => vy_dF V1 V2 h1 h2 hi q (hY post h)⟩
    · obtain ⟨r, hX, hY⟩ := ih (n + 1) (s ||| ((1 : Int32) <<< (nI n &&& 31))) (by omega)
      exact ⟨r, fun post h => br_f h32 (vx_dT V1 V2 hi q (br_f (by decide) (nm_e (nm_r (nI_1 n) (hX post h))))), fun post h => vy_dT V1 V2 h1 h2 hi q (hY post h)⟩
end
