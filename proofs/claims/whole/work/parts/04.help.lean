def oc_tt : Nat → Bool := fun _ => true
theorem oc_cs (x : Int32) {N : Nat} (hN : N < 2 ^ 31) : (x < 0 ∨ nI N ≤ x) ∨ ∃ j : Nat, j < N ∧ x = nI j := by
  rcases pk_ix x hN with h | h | h
  · exact Or.inl (Or.inl h)
  · exact Or.inl (Or.inr h)
  · exact Or.inr h
theorem oc_n47 {x : Int32} (h : nI 48 ≤ x) : ¬ x ≤ 47 := fun z => absurd (Int32.le_trans h z) (by decide)
theorem oc_n191 {x : Int32} (h : nI 192 ≤ x) : ¬ x ≤ 191 := fun z => absurd (Int32.le_trans h z) (by decide)
theorem oc_xV1 {post : Int32 → Prop} {v : Nat} (hv : v < 48) (h : post 1) : wpX_isView post (nI v) := br_f (nI_pos (by omega)) (br_f (nI_ge (b := 48) hv (by decide)) h)
theorem oc_xV0 {post : Int32 → Prop} {x : Int32} (hx : x < 0 ∨ nI 48 ≤ x) (h : post 0) : wpX_isView post x := by
  by_cases h0 : x < 0
  · exact br_t h0 h
  · exact br_f h0 (br_t (hx.resolve_left h0) h)
theorem oc_xC1 {post : Int32 → Prop} {v : Nat} (hv : v < 192) (h : post 1) : wpX_isCell post (nI v) := br_f (nI_pos (by omega)) (br_f (nI_ge (b := 192) hv (by decide)) h)
theorem oc_xC0 {post : Int32 → Prop} {x : Int32} (hx : x < 0 ∨ nI 192 ≤ x) (h : post 0) : wpX_isCell post x := by
  by_cases h0 : x < 0
  · exact br_t h0 h
  · exact br_f h0 (br_t (hx.resolve_left h0) h)
theorem oc_xP1 {post : Int32 → Prop} {v : Nat} (hv : v < 192) (h : post 1) : wpX_isPlace post (nI v) := br_f (nI_pos (by omega)) (br_f (nI_ge (b := 192) hv (by decide)) h)
theorem oc_xP0 {post : Int32 → Prop} {x : Int32} (hx : x < 0 ∨ nI 192 ≤ x) (h : post 0) : wpX_isPlace post x := by
  by_cases h0 : x < 0
  · exact br_t h0 h
  · exact br_f h0 (br_t (hx.resolve_left h0) h)
theorem oc_xF1 {post : Int32 → Prop} {n i : Nat} {p m : Nat → Int32} (hn : n ≤ 40) (hi : i < n) (h : post 1) : wpX_isFact post (nI n, p, m) (nI i) := br_f (nI_pos (by omega)) (br_f (nI_ge hi (by omega)) h)
theorem oc_xF0 {post : Int32 → Prop} {n : Nat} {p m : Nat → Int32} {x : Int32} (hx : x < 0 ∨ nI n ≤ x) (h : post 0) : wpX_isFact post (nI n, p, m) x := by
  by_cases h0 : x < 0
  · exact br_t h0 h
  · exact br_f h0 (br_t (hx.resolve_left h0) h)
theorem oc_xM1 {post : Int32 → Prop} {x : Int32} (h1 : ¬ x < -1000) (h2 : ¬ 1000 < x) (h : post 1) : wpX_isMeasure post x := br_f h1 (br_f h2 h)
theorem oc_xM0 {post : Int32 → Prop} {x : Int32} (hx : x < -1000 ∨ 1000 < x) (h : post 0) : wpX_isMeasure post x := by
  by_cases h0 : x < -1000
  · exact br_t h0 h
  · exact br_f h0 (br_t (hx.resolve_left h0) h)
theorem oc_yV1 {post : Int32 → Prop} {f : Int32} {p m : Nat → Int32} {v : Nat} (hv : v < 48) (h : post 0) : wpY_badView post (f, p, m) (nI v) := br_f (nI_pos (by omega)) (br_t (nI_le (b := 47) (by omega) (by decide)) h)
theorem oc_yV0 {post : Int32 → Prop} {f : Int32} {p m : Nat → Int32} {x : Int32} (hx : x < 0 ∨ nI 48 ≤ x) (h : post 1) : wpY_badView post (f, p, m) x := by
  by_cases h0 : x < 0
  · exact br_t h0 h
  · exact br_f h0 (br_f (oc_n47 (hx.resolve_left h0)) h)
theorem oc_yC1 {post : Int32 → Prop} {f : Int32} {p m : Nat → Int32} {v : Nat} (hv : v < 192) (h : post 0) : wpY_badCell post (f, p, m) (nI v) := br_f (nI_pos (by omega)) (br_t (nI_le (b := 191) (by omega) (by decide)) h)
theorem oc_yC0 {post : Int32 → Prop} {f : Int32} {p m : Nat → Int32} {x : Int32} (hx : x < 0 ∨ nI 192 ≤ x) (h : post 1) : wpY_badCell post (f, p, m) x := by
  by_cases h0 : x < 0
  · exact br_t h0 h
  · exact br_f h0 (br_f (oc_n191 (hx.resolve_left h0)) h)
theorem oc_yF1 {post : Int32 → Prop} {n i : Nat} {p m : Nat → Int32} (hn : n ≤ 40) (hi : i < n) (h : post 0) : wpY_badFact post (nI n, p, m) (nI i) := br_f (nI_pos (by omega)) (br_t (nI_lt hi (by omega)) h)
theorem oc_yF0 {post : Int32 → Prop} {n : Nat} {p m : Nat → Int32} {x : Int32} (hx : x < 0 ∨ nI n ≤ x) (h : post 1) : wpY_badFact post (nI n, p, m) x := by
  by_cases h0 : x < 0
  · exact br_t h0 h
  · exact br_f h0 (br_f (Int32.not_lt.mpr (hx.resolve_left h0)) h)
theorem oc_xlA {post : Int32 → Prop} {v : Nat} (hv : v < 192) (h : post (nI (v / 16))) : wpX_levelOfA post (nI v) := by
  unfold wpX_levelOfA
  rw [oc_d16 hv]
  exact ⟨by decide, h⟩
theorem oc_xlB {post : Int32 → Prop} {v : Nat} (hv : v < 192) (h : post (nI (v / 4 % 4))) : wpX_levelOfB post (nI v) := by
  unfold wpX_levelOfB
  rw [oc_d4 hv, oc_r4 (by omega)]
  exact ⟨by decide, by decide, h⟩
theorem oc_xlC {post : Int32 → Prop} {v : Nat} (hv : v < 192) (h : post (nI (v % 4))) : wpX_levelOfC post (nI v) := by
  unfold wpX_levelOfC
  rw [oc_r4 hv]
  exact ⟨by decide, h⟩
theorem oc_xA {post : Int32 → Prop} {l a : Nat} (hl : l < 4) (ha : a < 192) (h : post (nI (oc_A l a))) : wpX_seenAsA post (nI l) (nI a) := by
  unfold wpX_seenAsA
  refine pk_eq l 0 (fun e => ?_) (fun e => pk_eq l 1 (fun e1 => ⟨by decide, ?_⟩) (fun e1 => ?_))
  · have w : oc_A l a = a := by simp [oc_A, e]
    rw [w] at h
    exact h
  · have w : oc_A l a = a / 2 := by simp [oc_A, e1]
    rw [w] at h
    rw [oc_d2 ha]
    exact h
  · have w : oc_A l a = 0 := by simp [oc_A, e, e1]
    rw [w] at h
    exact h
theorem oc_xB {post : Int32 → Prop} {l a : Nat} (hl : l < 4) (ha : a < 192) (h : post (nI (oc_B l a))) : wpX_seenAsB post (nI l) (nI a) := by
  unfold wpX_seenAsB
  refine br_f (nI_pos (by omega)) (pk_lt 2 l (fun h2 => ?_) (fun h2 => pk_eq l 0 (fun e => ?_) (fun e => pk_eq l 1 (fun e1 => ⟨by decide, ?_⟩) (fun e1 => pk_eq l 2 (fun e2 => ⟨by decide, ?_⟩) (fun _ => trivial)))))
  · have w : oc_B l a = 0 := by
      have e : l = 3 := by omega
      simp [oc_B, e]
    rw [w] at h
    exact h
  · have w : oc_B l a = a := by simp [oc_B, e]
    rw [w] at h
    exact h
  · have w : oc_B l a = a / 2 := by simp [oc_B, e1]
    rw [w] at h
    rw [oc_d2 ha]
    exact h
  · have w : oc_B l a = a / 3 := by simp [oc_B, e2]
    rw [w] at h
    rw [oc_d3 ha]
    exact h
theorem oc_xC {post : Int32 → Prop} {l a : Nat} (hl : l < 4) (ha : a < 192) (h : post (nI (oc_C l a))) : wpX_seenAsC post (nI l) (nI a) := by
  unfold wpX_seenAsC
  refine br_f (nI_pos (by omega)) (pk_lt 2 l (fun h2 => ?_) (fun h2 => pk_eq l 0 (fun e => ?_) (fun e => pk_eq l 1 (fun e1 => ⟨by decide, ?_⟩) (fun e1 => pk_eq l 2 (fun e2 => ⟨by decide, ?_⟩) (fun _ => trivial)))))
  · have w : oc_C l a = 0 := by
      have e : l = 3 := by omega
      simp [oc_C, e]
    rw [w] at h
    exact h
  · have w : oc_C l a = a := by simp [oc_C, e]
    rw [w] at h
    exact h
  · have w : oc_C l a = a / 2 := by simp [oc_C, e1]
    rw [w] at h
    rw [oc_d2 ha]
    exact h
  · have w : oc_C l a = a / 4 := by simp [oc_C, e2]
    rw [w] at h
    rw [oc_d4 ha]
    exact h
theorem oc_yA {post : Int32 → Prop} {f : Int32} {p m : Nat → Int32} {l a : Nat} (hl : l < 4) (ha : a < 192) (h : post (nI (oc_A l a))) : wpY_seenA post (f, p, m) (nI l) (nI a) := by
  unfold wpY_seenA
  dsimp only
  refine pk_eq l 0 (fun e => ?_) (fun e => pk_eq l 1 (fun e1 => ⟨by decide, ?_⟩) (fun e1 => ?_))
  · have w : oc_A l a = a := by simp [oc_A, e]
    rw [w] at h
    exact h
  · have w : oc_A l a = a / 2 := by simp [oc_A, e1]
    rw [w] at h
    rw [oc_d2 ha]
    exact h
  · have w : oc_A l a = 0 := by simp [oc_A, e, e1]
    rw [w] at h
    exact h
theorem oc_yB {post : Int32 → Prop} {f : Int32} {p m : Nat → Int32} {l a : Nat} (hl : l < 4) (ha : a < 192) (h : post (nI (oc_B l a))) : wpY_seenB post (f, p, m) (nI l) (nI a) := by
  unfold wpY_seenB
  dsimp only
  refine pk_eq l 0 (fun e => ?_) (fun e => pk_eq l 1 (fun e1 => ⟨by decide, ?_⟩) (fun e1 => pk_eq l 2 (fun e2 => ⟨by decide, ?_⟩) (fun e2 => ?_)))
  · have w : oc_B l a = a := by simp [oc_B, e]
    rw [w] at h
    exact h
  · have w : oc_B l a = a / 2 := by simp [oc_B, e1]
    rw [w] at h
    rw [oc_d2 ha]
    exact h
  · have w : oc_B l a = a / 3 := by simp [oc_B, e2]
    rw [w] at h
    rw [oc_d3 ha]
    exact h
  · have w : oc_B l a = 0 := by simp [oc_B, e, e1, e2]
    rw [w] at h
    exact h
theorem oc_yC {post : Int32 → Prop} {f : Int32} {p m : Nat → Int32} {l a : Nat} (hl : l < 4) (ha : a < 192) (h : post (nI (oc_C l a))) : wpY_seenC post (f, p, m) (nI l) (nI a) := by
  unfold wpY_seenC
  dsimp only
  refine pk_eq l 0 (fun e => ?_) (fun e => pk_eq l 1 (fun e1 => ⟨by decide, ?_⟩) (fun e1 => pk_eq l 2 (fun e2 => ⟨by decide, ?_⟩) (fun e2 => ?_)))
  · have w : oc_C l a = a := by simp [oc_C, e]
    rw [w] at h
    exact h
  · have w : oc_C l a = a / 2 := by simp [oc_C, e1]
    rw [w] at h
    rw [oc_d2 ha]
    exact h
  · have w : oc_C l a = a / 4 := by simp [oc_C, e2]
    rw [w] at h
    rw [oc_d4 ha]
    exact h
  · have w : oc_C l a = 0 := by simp [oc_C, e, e1, e2]
    rw [w] at h
    exact h
theorem oc_xcell {post : Int32 → Prop} {v q : Nat} (hv : v < 48) (hq : q < 192) (h : post (nI (oc_cl v q))) : wpX_cellAt post (nI v) (nI q) := by
  unfold wpX_cellAt
  rw [oc_r48 hq, oc_r8 hq, oc_d48 hq, oc_d8 (v := q % 48) (by omega)]
  refine oc_xlA (by omega) ?_
  refine oc_xlB (by omega) ?_
  refine oc_xlC (by omega) ?_
  refine ⟨by decide, ?_⟩
  refine oc_xA (by omega) (by omega) ?_
  refine ⟨by decide, by decide, ?_⟩
  refine oc_xB (by omega) (by omega) ?_
  refine ⟨by decide, ?_⟩
  refine oc_xC (by omega) (by omega) ?_
  rw [oc_mk, oc_b68]
  exact h
theorem oc_yfall {post : Int32 → Prop} {f : Int32} {p m : Nat → Int32} {v q : Nat} (hv : v < 48) (hq : q < 192) (h : post (nI (oc_cl v q))) : wpY_fall post (f, p, m) (nI v) (nI q) := by
  unfold wpY_fall
  dsimp only
  rw [oc_r4 (v := v) (by omega), oc_d4 (v := v) (by omega), oc_r4 (v := v / 4) (by omega), oc_d16 (v := v) (by omega), oc_r8 hq, oc_d8 hq, oc_r6 (v := q / 8) (by omega), oc_d48 hq]
  refine ⟨by decide, by decide, ?_⟩
  refine oc_yA (by omega) (by omega) ?_
  refine ⟨by decide, by decide, by decide, by decide, ?_⟩
  refine oc_yB (by omega) (by omega) ?_
  refine ⟨by decide, by decide, ?_⟩
  refine oc_yC (by omega) (by omega) ?_
  rw [oc_mk]
  exact h
theorem oc_xcl {post : Int32 → Prop} {p : Nat → Int32} {v i n : Nat} (hv : v < 48) (ok : oc_ok p n) (hi : i < n) (h : post (nI (oc_c v p i))) : wpX_cellAt post (nI v) (p i) := by
  rw [(oc_ok_g ok hi).2]
  exact oc_xcell hv (oc_ok_g ok hi).1 h
theorem oc_ycl {post : Int32 → Prop} {f : Int32} {p m : Nat → Int32} {v i n : Nat} (hv : v < 48) (ok : oc_ok p n) (hi : i < n) (h : post (nI (oc_c v p i))) : wpY_fall post (f, p, m) (nI v) (p i) := by
  have e := (oc_ok_g ok hi).2
  have w : wpY_fall post (f, p, m) (nI v) (nI (oc_g p i)) := oc_yfall hv (oc_ok_g ok hi).1 h
  rw [← e] at w
  exact w
theorem oc_xapp {post : SX → Prop} {n : Nat} {p m : Nat → Int32} {x y : Int32} (hn : n < 40) (h : post (nI (n + 1), upd p n x, upd m n y)) : wpX_append post (nI n, p, m) x y := by
  unfold wpX_append
  dsimp only
  rw [nI_clamp (by omega)]
  exact ⟨vp_in_nI hn (by decide), nm_e ⟨vp_in_nI hn (by decide), nm_e (nm_r (nI_1 n) h)⟩⟩
theorem oc_yapp {post : SY → Prop} {n : Nat} {p m : Nat → Int32} {x y : Int32} (hn : n < 40) (h : post (nI (n + 1), upd p n x, upd m n y)) : wpY_append post (nI n, p, m) x y := by
  unfold wpY_append
  dsimp only
  rw [nI_clamp (by omega)]
  exact ⟨vp_in_nI hn (by decide), nm_e ⟨vp_in_nI hn (by decide), nm_e (nm_r (nI_1 n) h)⟩⟩
