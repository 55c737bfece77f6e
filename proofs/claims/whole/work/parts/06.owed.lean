/-- least and greatest are the same numbers on both sides, the five tables are the same, each at its own place -/
def i_Rel (k : Nat) (u : SX) (v : SY) : Prop := ∃ (lo gr : Nat) (pr va ke wa : Nat → Int32), u = (nI lo, nI gr, pr, va) ∧ v = (nI lo, nI gr, ke, wa) ∧ 1 ≤ lo ∧ lo ≤ gr + 1 ∧ gr < lo + 4 ∧ gr ≤ k ∧ vt_T pr va ke wa
theorem i_up {k : Nat} {u : SX} {v : SY} (h : i_Rel k u v) : i_Rel (k + 4) u v := by
  obtain ⟨lo, gr, pr, va, ke, wa, rfl, rfl, h1, h2, h3, h4, T⟩ := h
  exact ⟨lo, gr, pr, va, ke, wa, rfl, rfl, h1, h2, h3, by omega, T⟩
theorem i_vc0 : wpX_init (fun u => wpY_init (fun v => i_Rel 0 u v)) := ⟨1, 0, fun _ => 0, fun _ => 0, fun _ => 0, fun _ => 0, rfl, rfl, by omega, by omega, by omega, by omega, fun _ _ => ⟨rfl, fun _ _ => rfl⟩⟩
theorem i_vc_put {k : Nat} {u : SX} {v : SY} (I : i_Rel k u v) (hk : k + 4 ≤ 2048) (v1 : Int32) (v2 : Int32) : wpX_put (fun r u' => wpY_put (fun r' v' => r' = r ∧ i_Rel (k + 4) u' v') v v1 v2) u v1 v2 := by
  obtain ⟨lo, gr, pr, va, ke, wa, rfl, rfl, h1, h2, h3, h4, T⟩ := I
  have J : i_Rel (k + 4) (nI lo, nI gr, pr, va) (nI lo, nI gr, ke, wa) := ⟨lo, gr, pr, va, ke, wa, rfl, rfl, h1, h2, h3, by omega, T⟩
  unfold wpX_put wpY_put
  dsimp only
  rcases pk_ix v1 (n := 32) (by decide) with a | a | ⟨i, hi, rfl⟩
  · exact br_t a (br_t rfl (br_t a ⟨rfl, J⟩))
  · exact br_f (vt_hi0 a) (br_t a (br_t rfl (br_f (vt_hi0 a) (br_f (Int32.not_le.mpr (vt_hi31 a)) ⟨rfl, J⟩))))
  · have e0 : ke 0 = pr 4 := (T 4 (by decide)).1
    have e1 : (128 : Int32) + nI i = nI (128 + i) := nI_add 128 i
    rw [e1, nI_clamp (show 128 + i < 2 ^ 31 by omega), nI_clamp (show i < 2 ^ 31 by omega), e0]
    exact br_f (vt_i0 hi) (br_f (vt_i32 hi) (br_f (by decide) (nm_e ⟨vp_in_nI (by omega) (by decide), nm_e (br_f (vt_i0 hi) (br_t (vt_i31' hi) (nm_e ⟨vp_in_nI (by omega) (by decide), nm_e ⟨rfl, lo, gr, _, _, _, _, rfl, rfl, h1, h2, h3, by omega, vt_T_cell (vt_T_word T _) hi v2⟩⟩)))⟩)))
theorem i_vc_remove {k : Nat} {u : SX} {v : SY} (I : i_Rel k u v) (hk : k + 4 ≤ 2048) (v1 : Int32) : wpX_remove (fun r u' => wpY_remove (fun r' v' => r' = r ∧ i_Rel (k + 4) u' v') v v1) u v1 := by
  obtain ⟨lo, gr, pr, va, ke, wa, rfl, rfl, h1, h2, h3, h4, T⟩ := I
  have J : i_Rel (k + 4) (nI lo, nI gr, pr, va) (nI lo, nI gr, ke, wa) := ⟨lo, gr, pr, va, ke, wa, rfl, rfl, h1, h2, h3, by omega, T⟩
  have V := vv_of T (p := 4) (by decide)
  have e0 : ke 0 = pr 4 := (T 4 (by decide)).1
  unfold wpX_remove wpY_remove
  dsimp only
  by_cases q : vt_b (bt (pr 4)) v1 = 0
  · exact vv_X V v1 (br_t q (vv_Y V v1 (br_t q ⟨rfl, J⟩)))
  · rw [e0]
    exact vv_X V v1 (br_f q (nm_e (vv_Y V v1 (br_f q (nm_e ⟨rfl, lo, gr, _, _, _, _, rfl, rfl, h1, h2, h3, by omega, vt_T_word T _⟩)))))
theorem i_vc_save {k : Nat} {u : SX} {v : SY} (I : i_Rel k u v) (hk : k + 4 ≤ 2048) : wpX_save (fun r u' => wpY_save (fun r' v' => r' = r ∧ i_Rel (k + 4) u' v') v) u := by
  obtain ⟨lo, gr, pr, va, ke, wa, rfl, rfl, h1, h2, h3, h4, T⟩ := I
  unfold wpX_save wpY_save
  dsimp only
  have hg : gr + 1 < 2 ^ 31 := by omega
  have hp : (gr + 1) % 4 < 4 := Nat.mod_lt _ (by decide)
  have T' := vt_T_cp T (s := 4) (t := (gr + 1) % 4) (by decide) (by omega)
  have hr := vt_rt_lt (p := (gr + 1) % 4) (by omega)
  rw [nI_1]
  refine nm_e ?_
  unfold wpX_placeInRing
  rw [vt_and3 hg]
  refine vx_cp (s := 4) (by decide) (by omega) ?_
  dsimp only
  rw [pk_sub h2]
  by_cases q : gr + 1 - lo < 4
  · have q' : nI (gr + 1 - lo) < 4 := nI_lt (b := 4) q (by decide)
    refine br_t q' (nm_e ⟨by decide, ?_⟩)
    rw [vt_rem4 hg]
    refine vy_cp (s := 0) (by decide) hr ?_
    dsimp only
    rw [pk_sub h2]
    exact br_t q' ⟨rfl, lo, gr + 1, _, _, _, _, rfl, rfl, h1, by omega, by omega, by omega, T'⟩
  · have q' : ¬ nI (gr + 1 - lo) < 4 := nI_nlt (b := 4) (by omega) (by omega)
    refine br_f q' (nm_r (nI_1 lo) (nm_e ⟨by decide, ?_⟩))
    rw [vt_rem4 hg]
    refine vy_cp (s := 0) (by decide) hr ?_
    dsimp only
    rw [pk_sub h2]
    have e3 : nI (gr + 1) - 3 = nI (lo + 1) := (pk_sub (b := 3) (by omega)).trans (congrArg nI (by omega))
    exact br_f q' (nm_r e3 ⟨rfl, lo + 1, gr + 1, _, _, _, _, rfl, rfl, by omega, by omega, by omega, by omega, T'⟩)
theorem i_vc_goBack {k : Nat} {u : SX} {v : SY} (I : i_Rel k u v) (hk : k + 4 ≤ 2048) (v1 : Int32) : wpX_goBack (fun r u' => wpY_goBack (fun r' v' => r' = r ∧ i_Rel (k + 4) u' v') v v1) u v1 := by
  obtain ⟨lo, gr, pr, va, ke, wa, rfl, rfl, h1, h2, h3, h4, T⟩ := I
  have J : i_Rel (k + 4) (nI lo, nI gr, pr, va) (nI lo, nI gr, ke, wa) := ⟨lo, gr, pr, va, ke, wa, rfl, rfl, h1, h2, h3, by omega, T⟩
  unfold wpX_goBack wpY_goBack
  dsimp only
  have h0 : nI 0 < nI lo := nI_lt (by omega) (by omega)
  by_cases z : v1 = 0
  · subst z
    exact br_t h0 (br_t rfl (br_t rfl (br_f (by decide) ⟨rfl, J⟩)))
  · by_cases a : v1 < nI lo
    · exact br_t a (br_t rfl (br_f z (br_t a (br_f (by decide) ⟨rfl, J⟩))))
    · by_cases b : nI gr < v1
      · exact br_f a (br_t b (br_t rfl (br_f z (br_f a (br_t b (br_f (by decide) ⟨rfl, J⟩))))))
      · obtain ⟨m, hm, rfl⟩ := nI_of (x := v1) (fun q => a (Int32.lt_of_lt_of_le q (nI_pos' (by omega))))
        have hp : m % 4 < 4 := Nat.mod_lt _ (by decide)
        have hr := vt_rt_lt (p := m % 4) (by omega)
        have T' := vt_T_cp T (s := m % 4) (t := 4) (by omega) (by decide)
        have a' : lo ≤ m := by
          rw [nI_ltI (by omega) (by omega)] at a
          omega
        have b' : m ≤ gr := by
          rw [nI_ltI (by omega) (by omega)] at b
          omega
        refine br_f a (br_f b (br_f (by decide) ?_))
        unfold wpX_placeInRing
        rw [vt_and3 hm]
        refine vx_cp (t := 4) (by omega) (by decide) ?_
        dsimp only
        refine br_f z (br_f a (br_f b ⟨by decide, ?_⟩))
        rw [vt_rem4 hm]
        have g1 : (1 : Int32) ≤ nI (vt_rt (m % 4)) := nI_le (a := 1) (by rw [vt_rtl hp]; omega) (by omega)
        refine br_t g1 (vy_cp (t := 0) hr (by decide) ?_)
        exact ⟨rfl, lo, m, _, _, _, _, rfl, rfl, h1, by omega, by omega, by omega, T'⟩
theorem i_vc_kept {k : Nat} {u : SX} {v : SY} (I : i_Rel k u v) (hk : k + 4 ≤ 2048) : wpX_kept (fun r => wpY_kept (fun r' => r' = r ∧ i_Rel (k + 4) u v) v) u := by
  obtain ⟨lo, gr, pr, va, ke, wa, rfl, rfl, h1, h2, h3, h4, T⟩ := I
  have J : i_Rel (k + 4) (nI lo, nI gr, pr, va) (nI lo, nI gr, ke, wa) := ⟨lo, gr, pr, va, ke, wa, rfl, rfl, h1, h2, h3, by omega, T⟩
  unfold wpX_kept wpY_kept
  dsimp only
  by_cases q : nI lo ≤ nI gr
  · exact br_t q (br_t q ⟨rfl, J⟩)
  · exact br_f q (br_f q ⟨rfl, J⟩)
theorem i_vc_has {k : Nat} {u : SX} {v : SY} (I : i_Rel k u v) (hk : k + 4 ≤ 2048) (v1 : Int32) (v2 : Int32) : wpX_has (fun r => wpY_has (fun r' => r' = r ∧ i_Rel (k + 4) u v) v v1 v2) u v1 v2 := by
  obtain ⟨lo, gr, pr, va, ke, wa, rfl, rfl, h1, h2, h3, h4, T⟩ := I
  have J : i_Rel (k + 4) (nI lo, nI gr, pr, va) (nI lo, nI gr, ke, wa) := ⟨lo, gr, pr, va, ke, wa, rfl, rfl, h1, h2, h3, by omega, T⟩
  obtain ⟨x, y, c, w, V, hX, hY⟩ := vv_place (gr := gr) T (show lo < 2 ^ 31 by omega) v1
  unfold wpX_has wpY_has
  dsimp only
  have n01 : narrow .boolean (.int (vt_b c v2)) = .int (vt_b c v2) := by
    unfold vt_b
    split <;> rfl
  exact hX _ (vv_X V v2 ⟨n01, hY _ (vv_Y V v2 ⟨n01, rfl, J⟩)⟩)
theorem i_vc_get {k : Nat} {u : SX} {v : SY} (I : i_Rel k u v) (hk : k + 4 ≤ 2048) (v1 : Int32) (v2 : Int32) : wpX_get (fun r => wpY_get (fun r' => r' = r ∧ i_Rel (k + 4) u v) v v1 v2) u v1 v2 := by
  obtain ⟨lo, gr, pr, va, ke, wa, rfl, rfl, h1, h2, h3, h4, T⟩ := I
  have J : i_Rel (k + 4) (nI lo, nI gr, pr, va) (nI lo, nI gr, ke, wa) := ⟨lo, gr, pr, va, ke, wa, rfl, rfl, h1, h2, h3, by omega, T⟩
  obtain ⟨x, y, c, w, V, hX, hY⟩ := vv_place (gr := gr) T (show lo < 2 ^ 31 by omega) v1
  unfold wpX_get wpY_get
  dsimp only
  refine hX _ ?_
  by_cases q : vt_b c v2 = 0
  · unfold wpX_valueAt
    dsimp only
    exact vv_X V v2 (br_t q (hY _ (vv_Y V v2 (br_t q ⟨rfl, J⟩))))
  · obtain ⟨i, hi, rfl, e⟩ := vt_b_ne q
    have z := vv_cy V hi e
    exact vv_wt V hi e (hY _ (vv_Yt V hi e (br_f (by decide) ⟨z.1, z.2, J⟩)))
theorem i_vc_count {k : Nat} {u : SX} {v : SY} (I : i_Rel k u v) (hk : k + 4 ≤ 2048) (v1 : Int32) : wpX_count (fun r => wpY_count (fun r' => r' = r ∧ i_Rel (k + 4) u v) v v1) u v1 := by
  obtain ⟨lo, gr, pr, va, ke, wa, rfl, rfl, h1, h2, h3, h4, T⟩ := I
  have J : i_Rel (k + 4) (nI lo, nI gr, pr, va) (nI lo, nI gr, ke, wa) := ⟨lo, gr, pr, va, ke, wa, rfl, rfl, h1, h2, h3, by omega, T⟩
  obtain ⟨x, y, c, w, V, hX, hY⟩ := vv_place (gr := gr) T (show lo < 2 ^ 31 by omega) v1
  unfold wpX_count wpY_count
  dsimp only
  exact hX _ (vx_kb V 32 (vy_rk V hY 32 rfl ⟨rfl, J⟩))
theorem i_vc_from {k : Nat} {u : SX} {v : SY} (I : i_Rel k u v) (hk : k + 4 ≤ 2048) (v1 : Int32) (v2 : Int32) : wpX_from (fun r => wpY_from (fun r' => r' = r ∧ i_Rel (k + 4) u v) v v1 v2) u v1 v2 := by
  obtain ⟨lo, gr, pr, va, ke, wa, rfl, rfl, h1, h2, h3, h4, T⟩ := I
  have J : i_Rel (k + 4) (nI lo, nI gr, pr, va) (nI lo, nI gr, ke, wa) := ⟨lo, gr, pr, va, ke, wa, rfl, rfl, h1, h2, h3, by omega, T⟩
  obtain ⟨x, y, c, w, V, hX, hY⟩ := vv_place (gr := gr) T (show lo < 2 ^ 31 by omega) v1
  unfold wpX_from wpY_from
  dsimp only
  obtain ⟨r, fX, fY⟩ := vv_from (l := nI lo) (g := nI gr) V v2 32 0 rfl
  exact hX _ ⟨33, fX _ (hY _ ⟨33, fY _ ⟨rfl, J⟩⟩)⟩
theorem i_vc_upTo {k : Nat} {u : SX} {v : SY} (I : i_Rel k u v) (hk : k + 4 ≤ 2048) (v1 : Int32) (v2 : Int32) : wpX_upTo (fun r => wpY_upTo (fun r' => r' = r ∧ i_Rel (k + 4) u v) v v1 v2) u v1 v2 := by
  obtain ⟨lo, gr, pr, va, ke, wa, rfl, rfl, h1, h2, h3, h4, T⟩ := I
  have J : i_Rel (k + 4) (nI lo, nI gr, pr, va) (nI lo, nI gr, ke, wa) := ⟨lo, gr, pr, va, ke, wa, rfl, rfl, h1, h2, h3, by omega, T⟩
  obtain ⟨x, y, c, w, V, hX, hY⟩ := vv_place (gr := gr) T (show lo < 2 ^ 31 by omega) v1
  unfold wpX_upTo wpY_upTo
  dsimp only
  obtain ⟨r, fX, fY⟩ := vv_upTo (l := nI lo) (g := nI gr) V v2 32 (by omega)
  rw [show nI 32 + (-1) = 31 from pk_m1 31] at fX fY
  exact hX _ ⟨33, fX _ (hY _ ⟨33, fY _ ⟨rfl, J⟩⟩)⟩
theorem i_vc_keyAt {k : Nat} {u : SX} {v : SY} (I : i_Rel k u v) (hk : k + 4 ≤ 2048) (v1 : Int32) (v2 : Int32) : wpX_keyAt (fun r => wpY_keyAt (fun r' => r' = r ∧ i_Rel (k + 4) u v) v v1 v2) u v1 v2 := by
  obtain ⟨lo, gr, pr, va, ke, wa, rfl, rfl, h1, h2, h3, h4, T⟩ := I
  have J : i_Rel (k + 4) (nI lo, nI gr, pr, va) (nI lo, nI gr, ke, wa) := ⟨lo, gr, pr, va, ke, wa, rfl, rfl, h1, h2, h3, by omega, T⟩
  obtain ⟨x, y, c, w, V, hX, hY⟩ := vv_place (gr := gr) T (show lo < 2 ^ 31 by omega) v1
  unfold wpX_keyAt wpY_keyAt
  dsimp only
  obtain ⟨r, fX, fY⟩ := vv_keyAt V hY v2 32 0 rfl
  exact hX _ ⟨33, fX _ (hY _ ⟨33, fY _ ⟨rfl, J⟩⟩)⟩
theorem i_vc_rank {k : Nat} {u : SX} {v : SY} (I : i_Rel k u v) (hk : k + 4 ≤ 2048) (v1 : Int32) (v2 : Int32) : wpX_rank (fun r => wpY_rank (fun r' => r' = r ∧ i_Rel (k + 4) u v) v v1 v2) u v1 v2 := by
  obtain ⟨lo, gr, pr, va, ke, wa, rfl, rfl, h1, h2, h3, h4, T⟩ := I
  have J : i_Rel (k + 4) (nI lo, nI gr, pr, va) (nI lo, nI gr, ke, wa) := ⟨lo, gr, pr, va, ke, wa, rfl, rfl, h1, h2, h3, by omega, T⟩
  obtain ⟨x, y, c, w, V, hX, hY⟩ := vv_place (gr := gr) T (show lo < 2 ^ 31 by omega) v1
  unfold wpX_rank
  dsimp only
  exact hX _ (vx_kb V v2 (vy_rk V hY v2 rfl ⟨rfl, J⟩))
theorem i_vc_sum {k : Nat} {u : SX} {v : SY} (I : i_Rel k u v) (hk : k + 4 ≤ 2048) (v1 : Int32) (v2 : Int32) (v3 : Int32) : wpX_sum (fun r => wpY_sum (fun r' => r' = r ∧ i_Rel (k + 4) u v) v v1 v2 v3) u v1 v2 v3 := by
  obtain ⟨lo, gr, pr, va, ke, wa, rfl, rfl, h1, h2, h3, h4, T⟩ := I
  have J : i_Rel (k + 4) (nI lo, nI gr, pr, va) (nI lo, nI gr, ke, wa) := ⟨lo, gr, pr, va, ke, wa, rfl, rfl, h1, h2, h3, by omega, T⟩
  obtain ⟨x, y, c, w, V, hX, hY⟩ := vv_place (gr := gr) T (show lo < 2 ^ 31 by omega) v1
  unfold wpX_sum wpY_sum
  dsimp only
  obtain ⟨r, fX, fY⟩ := vv_sum (l := nI lo) (g := nI gr) V v2 v3 32 0 0 rfl
  exact hX _ ⟨33, fX _ (hY _ ⟨33, fY _ ⟨rfl, J⟩⟩)⟩
theorem i_vc_difference {k : Nat} {u : SX} {v : SY} (I : i_Rel k u v) (hk : k + 4 ≤ 2048) (v1 : Int32) (v2 : Int32) : wpX_difference (fun r => wpY_difference (fun r' => r' = r ∧ i_Rel (k + 4) u v) v v1 v2) u v1 v2 := by
  obtain ⟨lo, gr, pr, va, ke, wa, rfl, rfl, h1, h2, h3, h4, T⟩ := I
  have J : i_Rel (k + 4) (nI lo, nI gr, pr, va) (nI lo, nI gr, ke, wa) := ⟨lo, gr, pr, va, ke, wa, rfl, rfl, h1, h2, h3, by omega, T⟩
  obtain ⟨x, y, c, w, V, hX, hY⟩ := vv_place (gr := gr) T (show lo < 2 ^ 31 by omega) v1
  obtain ⟨x2, y2, c2, w2, V2, hX2, hY2⟩ := vv_place (gr := gr) T (show lo < 2 ^ 31 by omega) v2
  unfold wpX_difference wpY_difference
  dsimp only
  refine hX _ (hX2 _ ?_)
  rcases vv_none V with ⟨e, e1, _, _⟩ | ⟨e, e1, _⟩
  · exact br_t e (hY _ (hY2 _ ⟨1, br_f (by decide) (br_t e1 ⟨rfl, J⟩)⟩))
  · rcases vv_none V2 with ⟨f, f1, _, _⟩ | ⟨f, f1, _⟩
    · exact br_f e (br_t f (hY _ (hY2 _ ⟨1, br_f (by decide) (br_f e1 (br_t f1 ⟨rfl, J⟩))⟩)))
    · obtain ⟨r, fX, fY⟩ := vv_diff (l := nI lo) (g := nI gr) V V2 e1 f1 32 0 0 rfl
      exact br_f e (br_f f ⟨33, fX _ (hY _ (hY2 _ ⟨33, fY _ ⟨rfl, J⟩⟩))⟩)
theorem i_vc_keys {k : Nat} {u : SX} {v : SY} (I : i_Rel k u v) (hk : k + 4 ≤ 2048) (v1 : Int32) : wpX_keys (fun r => wpY_keys (fun r' => r' = r ∧ i_Rel (k + 4) u v) v v1) u v1 := by
  obtain ⟨lo, gr, pr, va, ke, wa, rfl, rfl, h1, h2, h3, h4, T⟩ := I
  have J : i_Rel (k + 4) (nI lo, nI gr, pr, va) (nI lo, nI gr, ke, wa) := ⟨lo, gr, pr, va, ke, wa, rfl, rfl, h1, h2, h3, by omega, T⟩
  obtain ⟨x, y, c, w, V, hX, hY⟩ := vv_place (gr := gr) T (show lo < 2 ^ 31 by omega) v1
  unfold wpX_keys wpY_keys
  dsimp only
  refine hX _ ?_
  rcases V with ⟨rfl, rfl, _⟩ | ⟨p, hp, rfl, rfl, _, e, _⟩
  · exact br_t rfl (hY _ (br_f (by decide) ⟨rfl, J⟩))
  · have ht := vt_rt_lt hp
    have n1 : ¬ nI p = -1 := fun z => by
      have a : ¬ nI p < 0 := nI_pos (by omega)
      rw [z] at a
      exact a (by decide)
    refine br_f n1 ⟨vp_in_nI hp (by decide), hY _ (br_t (nI_pos' (by omega)) ⟨vp_in_nI ht (by decide), ?_, J⟩)⟩
    rw [nI_clamp (by omega), nI_clamp (by omega)]
    exact e
