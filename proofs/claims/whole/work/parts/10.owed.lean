def i_Rel (_ : Nat) (u : SX) (v : SY) : Prop := ∃ (n : Nat) (p m : Nat → Int32), n ≤ 40 ∧ oc_ok p n ∧ u = (nI n, p, m) ∧ v = (nI n, p, m)
theorem oc_R {k n : Nat} {p m : Nat → Int32} (hn : n ≤ 40) (ok : oc_ok p n) : i_Rel k (nI n, p, m) (nI n, p, m) := ⟨n, p, m, hn, ok, rfl, rfl⟩
theorem i_up {k : Nat} {u : SX} {v : SY} (h : i_Rel k u v) : i_Rel (k + 4) u v := h
theorem i_vc0 : wpX_init (fun u => wpY_init (fun v => i_Rel 0 u v)) := ⟨0, (fun _ => 0), (fun _ => 0), by decide, fun j hj => absurd hj (Nat.not_lt_zero j), rfl, rfl⟩
theorem i_vc_put {k : Nat} {u : SX} {v : SY} (I : i_Rel k u v) (hk : k + 4 ≤ 2048) (v1 : Int32) (v2 : Int32) : wpX_put (fun r u' => wpY_put (fun r' v' => r' = r ∧ i_Rel (k + 4) u' v') v v1 v2) u v1 v2 := by
  obtain ⟨n, p, m, hn, ok, rfl, rfl⟩ := I
  unfold wpX_put wpY_put
  dsimp only
  rcases oc_cs v1 (N := 192) (by decide) with h | ⟨a, ha, rfl⟩
  · refine oc_xP0 h (br_t rfl ?_)
    by_cases h0 : v1 < 0
    · exact br_t h0 ⟨rfl, oc_R hn ok⟩
    · exact br_f h0 (br_f (oc_n191 (h.resolve_left h0)) ⟨rfl, oc_R hn ok⟩)
  · refine oc_xP1 ha (br_f (by decide) ?_)
    have g0 : ¬ nI a < 0 := nI_pos (by omega)
    have g1 : nI a ≤ 191 := nI_le (b := 191) (by omega) (by decide)
    by_cases h1 : v2 < -1000
    · refine oc_xM0 (Or.inl h1) (br_t rfl ?_)
      exact br_f g0 (br_t g1 (br_t h1 ⟨rfl, oc_R hn ok⟩))
    · by_cases h2 : 1000 < v2
      · refine oc_xM0 (Or.inr h2) (br_t rfl ?_)
        exact br_f g0 (br_t g1 (br_f h1 (br_f (Int32.not_le.mpr h2) ⟨rfl, oc_R hn ok⟩)))
      · refine oc_xM1 h1 h2 (br_f (by decide) ?_)
        by_cases h40 : n < 40
        · have g2 : nI n < 40 := nI_lt (b := 40) h40 (by decide)
          refine br_t g2 ?_
          refine oc_xapp h40 ?_
          refine br_f g0 (br_t g1 (br_f h1 (br_t (Int32.not_lt.mp h2) (br_t g2 ?_))))
          refine oc_yapp h40 ?_
          exact ⟨rfl, oc_R (by omega) (oc_ok_a ok ha rfl)⟩
        · have g2 : ¬ nI n < 40 := nI_nlt (b := 40) (by omega) (by omega)
          refine br_f g2 ?_
          exact br_f g0 (br_t g1 (br_f h1 (br_t (Int32.not_lt.mp h2) (br_f g2 ⟨rfl, oc_R hn ok⟩))))
theorem i_vc_sow {k : Nat} {u : SX} {v : SY} (I : i_Rel k u v) (hk : k + 4 ≤ 2048) (v1 : Int32) (v2 : Int32) (v3 : Int32) : wpX_sow (fun r u' => wpY_sow (fun r' v' => r' = r ∧ i_Rel (k + 4) u' v') v v1 v2 v3) u v1 v2 v3 := by
  obtain ⟨n, p, m, hn, ok, rfl, rfl⟩ := I
  unfold wpX_sow wpY_sow
  dsimp only
  rcases oc_cs v1 (N := 192) (by decide) with h | ⟨a, ha, rfl⟩
  · refine oc_xP0 h (br_t rfl ?_)
    by_cases h0 : v1 < 0
    · exact br_t h0 ⟨rfl, oc_R hn ok⟩
    · exact br_f h0 (br_f (oc_n191 (h.resolve_left h0)) ⟨rfl, oc_R hn ok⟩)
  · refine oc_xP1 ha (br_f (by decide) ?_)
    have g0 : ¬ nI a < 0 := nI_pos (by omega)
    have g1 : nI a ≤ 191 := nI_le (b := 191) (by omega) (by decide)
    rcases oc_cs v2 (N := 192) (by decide) with h | ⟨b, hb, rfl⟩
    · refine oc_xP0 h (br_t rfl ?_)
      refine br_f g0 (br_t g1 ?_)
      by_cases h0 : v2 < 0
      · exact br_t h0 ⟨rfl, oc_R hn ok⟩
      · exact br_f h0 (br_f (oc_n191 (h.resolve_left h0)) ⟨rfl, oc_R hn ok⟩)
    · refine oc_xP1 hb (br_f (by decide) ?_)
      have g2 : ¬ nI b < 0 := nI_pos (by omega)
      have g3 : nI b ≤ 191 := nI_le (b := 191) (by omega) (by decide)
      by_cases h1 : v3 < 1
      · exact br_t h1 (br_f g0 (br_t g1 (br_f g2 (br_t g3 (br_t h1 ⟨rfl, oc_R hn ok⟩)))))
      · by_cases h2 : v3 ≤ 40
        · have h3 : ¬ v3 < 0 := fun z => h1 (Int32.lt_trans z (by decide))
          obtain ⟨c, hc, rfl⟩ := nI_of2 (n := 40) (by decide) h3 h2
          obtain ⟨n', p', m', hn', ok', hX, hY⟩ := oc_sow ha hb hc c 0 n p m (by omega) hn ok
          refine br_f h1 (br_t h2 ⟨c + 1, hX _ ?_⟩)
          refine br_f g0 (br_t g1 (br_f g2 (br_t g3 (br_f h1 (br_t h2 ⟨c + 1, hY _ ?_⟩)))))
          exact ⟨rfl, oc_R hn' ok'⟩
        · exact br_f h1 (br_f h2 (br_f g0 (br_t g1 (br_f g2 (br_t g3 (br_f h1 (br_f h2 ⟨rfl, oc_R hn ok⟩)))))))
theorem i_vc_measure {k : Nat} {u : SX} {v : SY} (I : i_Rel k u v) (hk : k + 4 ≤ 2048) (v1 : Int32) (v2 : Int32) : wpX_measure (fun r u' => wpY_measure (fun r' v' => r' = r ∧ i_Rel (k + 4) u' v') v v1 v2) u v1 v2 := by
  obtain ⟨n, p, m, hn, ok, rfl, rfl⟩ := I
  unfold wpX_measure wpY_measure
  dsimp only
  rcases oc_cs v1 (N := n) (by omega) with h | ⟨a, ha, rfl⟩
  · refine oc_xF0 h (br_t rfl ?_)
    refine oc_yF0 h ?_
    exact br_f (by decide) ⟨rfl, oc_R hn ok⟩
  · refine oc_xF1 hn ha (br_f (by decide) ?_)
    have hi : vp_in (nI a) 40 := vp_in_nI (by omega) (by decide)
    by_cases h1 : v2 < -1000
    · refine oc_xM0 (Or.inl h1) (br_t rfl ?_)
      refine oc_yF1 hn ha ?_
      exact br_t rfl (br_t h1 ⟨rfl, oc_R hn ok⟩)
    · by_cases h2 : 1000 < v2
      · refine oc_xM0 (Or.inr h2) (br_t rfl ?_)
        refine oc_yF1 hn ha ?_
        exact br_t rfl (br_f h1 (br_f (Int32.not_le.mpr h2) ⟨rfl, oc_R hn ok⟩))
      · refine oc_xM1 h1 h2 (br_f (by decide) ?_)
        refine ⟨hi, nm_e ⟨hi, nm_e ?_⟩⟩
        refine oc_yF1 hn ha ?_
        exact br_t rfl (br_f h1 (br_t (Int32.not_lt.mp h2) ⟨hi, nm_e ⟨hi, nm_e ⟨rfl, oc_R hn ok⟩⟩⟩))
theorem i_vc_drop {k : Nat} {u : SX} {v : SY} (I : i_Rel k u v) (hk : k + 4 ≤ 2048) (v1 : Int32) : wpX_drop (fun r u' => wpY_drop (fun r' v' => r' = r ∧ i_Rel (k + 4) u' v') v v1) u v1 := by
  obtain ⟨n, p, m, hn, ok, rfl, rfl⟩ := I
  unfold wpX_drop wpY_drop
  dsimp only
  rcases oc_cs v1 (N := n) (by omega) with h | ⟨a, ha, rfl⟩
  · refine oc_xF0 h (br_t rfl ?_)
    refine oc_yF0 h ?_
    exact br_f (by decide) ⟨rfl, oc_R hn ok⟩
  · refine oc_xF1 hn ha (br_f (by decide) ?_)
    obtain ⟨j, rfl⟩ : ∃ j, n = j + 1 := ⟨n - 1, by omega⟩
    obtain ⟨p', m', ok', hX, hY⟩ := oc_drop hn (j - a) a p m (by omega) ok
    refine ⟨j - a + 1, hX _ ?_⟩
    refine oc_yF1 hn ha ?_
    refine br_t rfl ⟨j - a + 1, hY _ ?_⟩
    exact ⟨rfl, oc_R (by omega) ok'⟩
theorem i_vc_prepare {k : Nat} {u : SX} {v : SY} (I : i_Rel k u v) (hk : k + 4 ≤ 2048) (v1 : Int32) : wpX_prepare (fun r => wpY_prepare (fun r' => r' = r ∧ i_Rel (k + 4) u v) v v1) u v1 := by
  obtain ⟨n, p, m, hn, ok, rfl, rfl⟩ := I
  unfold wpX_prepare wpY_prepare
  dsimp only
  rcases oc_cs v1 (N := 48) (by decide) with h | ⟨a, ha, rfl⟩
  · refine oc_xV0 h (br_t rfl ?_)
    unfold wpY_full
    dsimp only
    refine oc_yV0 h ?_
    exact br_f (by decide) ⟨rfl, oc_R hn ok⟩
  · refine oc_xV1 ha (br_f (by decide) ?_)
    refine oc_xfull ha hn ok ?_
    refine oc_yfull ha hn ok ?_
    exact ⟨rfl, oc_R hn ok⟩
theorem i_vc_facts {k : Nat} {u : SX} {v : SY} (I : i_Rel k u v) (hk : k + 4 ≤ 2048) : wpX_facts (fun r => wpY_facts (fun r' => r' = r ∧ i_Rel (k + 4) u v) v) u := by
  obtain ⟨n, p, m, hn, ok, rfl, rfl⟩ := I
  exact ⟨rfl, oc_R hn ok⟩
theorem i_vc_cellOf {k : Nat} {u : SX} {v : SY} (I : i_Rel k u v) (hk : k + 4 ≤ 2048) (v1 : Int32) (v2 : Int32) : wpX_cellOf (fun r => wpY_cellOf (fun r' => r' = r ∧ i_Rel (k + 4) u v) v v1 v2) u v1 v2 := by
  obtain ⟨n, p, m, hn, ok, rfl, rfl⟩ := I
  unfold wpX_cellOf wpY_cellOf
  dsimp only
  rcases oc_cs v1 (N := 48) (by decide) with h | ⟨a, ha, rfl⟩
  · refine oc_xV0 h (br_t rfl ?_)
    refine oc_yV0 h ?_
    exact br_f (by decide) ⟨rfl, oc_R hn ok⟩
  · refine oc_xV1 ha (br_f (by decide) ?_)
    rcases oc_cs v2 (N := n) (by omega) with h | ⟨b, hb, rfl⟩
    · refine oc_xF0 h (br_t rfl ?_)
      refine oc_yV1 ha (br_t rfl ?_)
      refine oc_yF0 h ?_
      exact br_f (by decide) ⟨rfl, oc_R hn ok⟩
    · refine oc_xF1 hn hb (br_f (by decide) ?_)
      have hi : vp_in (nI b) 40 := vp_in_nI (by omega) (by decide)
      rw [nI_clamp (by omega)]
      refine ⟨hi, ?_⟩
      refine oc_xcl ha ok hb ?_
      refine oc_yV1 ha (br_t rfl ?_)
      refine oc_yF1 hn hb (br_t rfl ?_)
      refine ⟨hi, ?_⟩
      refine oc_ycl ha ok hb ?_
      exact ⟨rfl, oc_R hn ok⟩
theorem i_vc_full {k : Nat} {u : SX} {v : SY} (I : i_Rel k u v) (hk : k + 4 ≤ 2048) (v1 : Int32) : wpX_full (fun r => wpY_full (fun r' => r' = r ∧ i_Rel (k + 4) u v) v v1) u v1 := by
  obtain ⟨n, p, m, hn, ok, rfl, rfl⟩ := I
  unfold wpX_full
  dsimp only
  rcases oc_cs v1 (N := 48) (by decide) with h | ⟨a, ha, rfl⟩
  · refine oc_xV0 h (br_t rfl ?_)
    unfold wpY_full
    dsimp only
    refine oc_yV0 h ?_
    exact br_f (by decide) ⟨rfl, oc_R hn ok⟩
  · refine oc_xV1 ha (br_f (by decide) ?_)
    refine oc_xfull ha hn ok ?_
    refine oc_yfull ha hn ok ?_
    exact ⟨rfl, oc_R hn ok⟩
theorem i_vc_count {k : Nat} {u : SX} {v : SY} (I : i_Rel k u v) (hk : k + 4 ≤ 2048) (v1 : Int32) (v2 : Int32) : wpX_count (fun r => wpY_count (fun r' => r' = r ∧ i_Rel (k + 4) u v) v v1 v2) u v1 v2 := by
  obtain ⟨n, p, m, hn, ok, rfl, rfl⟩ := I
  unfold wpX_count wpY_count
  dsimp only
  rcases oc_cs v1 (N := 48) (by decide) with h | ⟨a, ha, rfl⟩
  · refine oc_xV0 h (br_t rfl ?_)
    refine oc_yV0 h ?_
    exact br_f (by decide) ⟨rfl, oc_R hn ok⟩
  · refine oc_xV1 ha (br_f (by decide) ?_)
    rcases oc_cs v2 (N := 192) (by decide) with h | ⟨b, hb, rfl⟩
    · refine oc_xC0 h (br_t rfl ?_)
      refine oc_yV1 ha (br_t rfl ?_)
      refine oc_yC0 h ?_
      exact br_f (by decide) ⟨rfl, oc_R hn ok⟩
    · refine oc_xC1 hb (br_f (by decide) ?_)
      refine ⟨n + 1, oc_xct ha hb hn ok ?_ n 0 (by omega)⟩
      refine oc_yV1 ha (br_t rfl ?_)
      refine oc_yC1 hb (br_t rfl ?_)
      refine ⟨n + 1, oc_yct ha hb hn ok ?_ n 0 (by omega)⟩
      exact ⟨rfl, oc_R hn ok⟩
theorem i_vc_sum {k : Nat} {u : SX} {v : SY} (I : i_Rel k u v) (hk : k + 4 ≤ 2048) (v1 : Int32) (v2 : Int32) : wpX_sum (fun r => wpY_sum (fun r' => r' = r ∧ i_Rel (k + 4) u v) v v1 v2) u v1 v2 := by
  obtain ⟨n, p, m, hn, ok, rfl, rfl⟩ := I
  unfold wpX_sum wpY_sum
  dsimp only
  rcases oc_cs v1 (N := 48) (by decide) with h | ⟨a, ha, rfl⟩
  · refine oc_xV0 h (br_t rfl ?_)
    refine oc_yV0 h ?_
    exact br_f (by decide) ⟨rfl, oc_R hn ok⟩
  · refine oc_xV1 ha (br_f (by decide) ?_)
    rcases oc_cs v2 (N := 192) (by decide) with h | ⟨b, hb, rfl⟩
    · refine oc_xC0 h (br_t rfl ?_)
      refine oc_yV1 ha (br_t rfl ?_)
      refine oc_yC0 h ?_
      exact br_f (by decide) ⟨rfl, oc_R hn ok⟩
    · refine oc_xC1 hb (br_f (by decide) ?_)
      refine oc_xtot ha hb hn ok ?_
      refine oc_yV1 ha (br_t rfl ?_)
      refine oc_yC1 hb (br_t rfl ?_)
      refine ⟨n + 1, oc_ytot5 ha hb hn ok ?_ n 0 (by omega)⟩
      exact ⟨rfl, oc_R hn ok⟩
theorem i_vc_least {k : Nat} {u : SX} {v : SY} (I : i_Rel k u v) (hk : k + 4 ≤ 2048) (v1 : Int32) (v2 : Int32) : wpX_least (fun r => wpY_least (fun r' => r' = r ∧ i_Rel (k + 4) u v) v v1 v2) u v1 v2 := by
  obtain ⟨n, p, m, hn, ok, rfl, rfl⟩ := I
  unfold wpX_least wpY_least
  dsimp only
  rcases oc_cs v1 (N := 48) (by decide) with h | ⟨a, ha, rfl⟩
  · refine oc_xV0 h (br_t rfl ?_)
    refine oc_yV0 h ?_
    exact br_f (by decide) ⟨rfl, oc_R hn ok⟩
  · refine oc_xV1 ha (br_f (by decide) ?_)
    rcases oc_cs v2 (N := 192) (by decide) with h | ⟨b, hb, rfl⟩
    · refine oc_xC0 h (br_t rfl ?_)
      refine oc_yV1 ha (br_t rfl ?_)
      refine oc_yC0 h ?_
      exact br_f (by decide) ⟨rfl, oc_R hn ok⟩
    · refine oc_xC1 hb (br_f (by decide) ?_)
      refine ⟨n + 1, oc_xls ha hb hn ok ?_ n 0 (by omega)⟩
      refine oc_yV1 ha (br_t rfl ?_)
      refine oc_yC1 hb (br_t rfl ?_)
      refine ⟨n + 1, oc_yls ha hb hn ok ?_ n 0 (by omega)⟩
      exact ⟨rfl, oc_R hn ok⟩
theorem i_vc_most {k : Nat} {u : SX} {v : SY} (I : i_Rel k u v) (hk : k + 4 ≤ 2048) (v1 : Int32) (v2 : Int32) : wpX_most (fun r => wpY_most (fun r' => r' = r ∧ i_Rel (k + 4) u v) v v1 v2) u v1 v2 := by
  obtain ⟨n, p, m, hn, ok, rfl, rfl⟩ := I
  unfold wpX_most wpY_most
  dsimp only
  rcases oc_cs v1 (N := 48) (by decide) with h | ⟨a, ha, rfl⟩
  · refine oc_xV0 h (br_t rfl ?_)
    refine oc_yV0 h ?_
    exact br_f (by decide) ⟨rfl, oc_R hn ok⟩
  · refine oc_xV1 ha (br_f (by decide) ?_)
    rcases oc_cs v2 (N := 192) (by decide) with h | ⟨b, hb, rfl⟩
    · refine oc_xC0 h (br_t rfl ?_)
      refine oc_yV1 ha (br_t rfl ?_)
      refine oc_yC0 h ?_
      exact br_f (by decide) ⟨rfl, oc_R hn ok⟩
    · refine oc_xC1 hb (br_f (by decide) ?_)
      refine ⟨n + 1, oc_xms ha hb hn ok ?_ n 0 (by omega)⟩
      refine oc_yV1 ha (br_t rfl ?_)
      refine oc_yC1 hb (br_t rfl ?_)
      refine ⟨n + 1, oc_yms ha hb hn ok ?_ n 0 (by omega)⟩
      exact ⟨rfl, oc_R hn ok⟩
theorem i_vc_next {k : Nat} {u : SX} {v : SY} (I : i_Rel k u v) (hk : k + 4 ≤ 2048) (v1 : Int32) (v2 : Int32) : wpX_next (fun r => wpY_next (fun r' => r' = r ∧ i_Rel (k + 4) u v) v v1 v2) u v1 v2 := by
  obtain ⟨n, p, m, hn, ok, rfl, rfl⟩ := I
  rcases oc_cs v1 (N := 48) (by decide) with h | ⟨a, ha, rfl⟩
  · unfold wpX_next wpY_next
    dsimp only
    refine oc_xV0 h (br_t rfl ?_)
    refine oc_yV0 h ?_
    exact br_f (by decide) ⟨rfl, oc_R hn ok⟩
  · refine oc_xnext ha hn ok ?_
    refine oc_ynext ha hn ok ?_
    exact ⟨rfl, oc_R hn ok⟩
theorem i_vc_best {k : Nat} {u : SX} {v : SY} (I : i_Rel k u v) (hk : k + 4 ≤ 2048) (v1 : Int32) : wpX_best (fun r => wpY_best (fun r' => r' = r ∧ i_Rel (k + 4) u v) v v1) u v1 := by
  obtain ⟨n, p, m, hn, ok, rfl, rfl⟩ := I
  unfold wpX_best wpY_best
  dsimp only
  rcases oc_cs v1 (N := 48) (by decide) with h | ⟨a, ha, rfl⟩
  · refine oc_xV0 h (br_t rfl ?_)
    refine oc_yV0 h ?_
    exact br_f (by decide) ⟨rfl, oc_R hn ok⟩
  · refine oc_xV1 ha (br_f (by decide) ?_)
    refine ⟨n + 1, oc_xbest17 ha hn ok (fun f s hb => ?_) n 0 (-2) 0 (by omega) (Or.inl ⟨rfl, rfl, fun q hq => absurd (show false = true from hq) (by decide)⟩)⟩
    refine oc_yV1 ha (br_t rfl ?_)
    refine oc_ynext ha hn ok ?_
    refine ⟨193, oc_ybest23 ha hn ok (fun f' s' hb' => ?_) 192 0 (-1) (-2) 0 (by omega) (by omega) oc_af_0 (Or.inl ⟨rfl, rfl, fun q hq => absurd hq.2 (Nat.not_lt_zero q)⟩)⟩
    exact ⟨oc_bp_u (fun q => Iff.rfl) hb hb', oc_R hn ok⟩
theorem i_vc_having {k : Nat} {u : SX} {v : SY} (I : i_Rel k u v) (hk : k + 4 ≤ 2048) (v1 : Int32) (v2 : Int32) : wpX_having (fun r => wpY_having (fun r' => r' = r ∧ i_Rel (k + 4) u v) v v1 v2) u v1 v2 := by
  obtain ⟨n, p, m, hn, ok, rfl, rfl⟩ := I
  unfold wpX_having wpY_having
  dsimp only
  rcases oc_cs v1 (N := 48) (by decide) with h | ⟨a, ha, rfl⟩
  · refine oc_xV0 h (br_t rfl ?_)
    refine oc_yV0 h ?_
    exact br_f (by decide) ⟨rfl, oc_R hn ok⟩
  · refine oc_xV1 ha (br_f (by decide) ?_)
    refine ⟨n + 1, oc_xhv14 ha hn ok ?_ n 0 (by omega)⟩
    refine oc_yV1 ha (br_t rfl ?_)
    refine oc_ynext ha hn ok ?_
    refine ⟨193, oc_yhv20 ha hn ok 192 0 0 (-1) (by omega) (by omega) oc_af_0 ?_⟩
    rw [Nat.zero_add, oc_fc_D n (oc_ok_c a ok)]
    exact ⟨rfl, oc_R hn ok⟩
theorem i_vc_finer {k : Nat} {u : SX} {v : SY} (I : i_Rel k u v) (hk : k + 4 ≤ 2048) (v1 : Int32) (v2 : Int32) : wpX_finer (fun r => wpY_finer (fun r' => r' = r ∧ i_Rel (k + 4) u v) v v1 v2) u v1 v2 := by
  obtain ⟨n, p, m, hn, ok, rfl, rfl⟩ := I
  rcases oc_cs v1 (N := 48) (by decide) with h | ⟨a, ha, rfl⟩
  · unfold wpX_finer wpY_finer
    dsimp only
    refine oc_xV0 h (br_t rfl ?_)
    refine oc_yV0 h ?_
    exact br_f (by decide) ⟨rfl, oc_R hn ok⟩
  · rcases oc_cs v2 (N := 48) (by decide) with h | ⟨b, hb, rfl⟩
    · unfold wpX_finer wpY_finer
      dsimp only
      refine oc_xV1 ha (br_f (by decide) ?_)
      refine oc_xV0 h (br_t rfl ?_)
      refine oc_yV1 ha (br_t rfl ?_)
      refine oc_yV0 h ?_
      exact br_f (by decide) ⟨rfl, oc_R hn ok⟩
    · refine oc_xfin ha hb (fun z => ?_) (fun z => ?_)
      · exact oc_yfin ha hb (fun _ => ⟨rfl, oc_R hn ok⟩) (fun w => absurd z w)
      · exact oc_yfin ha hb (fun w => absurd w z) (fun _ => ⟨rfl, oc_R hn ok⟩)
theorem i_vc_viewsWith {k : Nat} {u : SX} {v : SY} (I : i_Rel k u v) (hk : k + 4 ≤ 2048) (v1 : Int32) : wpX_viewsWith (fun r => wpY_viewsWith (fun r' => r' = r ∧ i_Rel (k + 4) u v) v v1) u v1 := by
  obtain ⟨n, p, m, hn, ok, rfl, rfl⟩ := I
  unfold wpX_viewsWith wpY_viewsWith
  dsimp only
  by_cases h0 : v1 < 0
  · exact br_t h0 (br_t h0 ⟨rfl, oc_R hn ok⟩)
  · by_cases h1 : v1 ≤ 192
    · refine br_f h0 (br_t h1 ⟨49, oc_xvw hn ok ?_ 48 0 (by omega)⟩)
      refine br_f h0 (br_t h1 ⟨49, oc_yvw hn ok ?_ 48 0 (by omega)⟩)
      exact ⟨rfl, oc_R hn ok⟩
    · exact br_f h0 (br_f h1 (br_f h0 (br_f h1 ⟨rfl, oc_R hn ok⟩)))
