theorem oc_xfB {post : Int32 → Prop} {x y : Nat} (hx : x < 4) (hy : y < 4) (h1 : (x = 0 ∨ y = 3 ∨ x = y) → post 1) (h0 : ¬ (x = 0 ∨ y = 3 ∨ x = y) → post 0) : wpX_isFinerInB post (nI x) (nI y) := by
  unfold wpX_isFinerInB
  exact pk_eq x 0 (fun e => h1 (Or.inl e)) (fun e => pk_eq y 3 (fun e1 => h1 (Or.inr (Or.inl e1))) (fun e1 => pk_eq x y (fun e2 => h1 (Or.inr (Or.inr e2))) (fun e2 => h0 (by omega))))
theorem oc_x69a {post : Int32 → Prop} {f : Int32} {p m : Nat → Int32} {x y z : Int32} (h : x = 0 ∨ y = 0 ∨ z = 0) (hp : post 0) : wX_finer_69 post x y z f p m := by
  unfold wX_finer_69
  refine br_c (fun _ => hp) (fun h1 => br_c (fun _ => hp) (fun h2 => br_c (fun _ => hp) (fun h3 => ?_)))
  rcases h with h | h | h
  · exact absurd h h1
  · exact absurd h h2
  · exact absurd h h3
theorem oc_x69b {post : Int32 → Prop} {f : Int32} {p m : Nat → Int32} (hp : post 1) : wX_finer_69 post 1 1 1 f p m := br_f (by decide) (br_f (by decide) (br_f (by decide) hp))
theorem oc_x43a {post : Int32 → Prop} {F : Int32} {p m : Nat → Int32} {f g : Nat} (hf : f < 48) (hg : g < 48) (h0 : post 0) : wX_finer_43 post (nI f) (nI g) (nI (f / 4 % 4)) (nI (g / 4 % 4)) 0 F p m := by
  unfold wX_finer_43
  refine oc_xfB (by omega) (by omega) (fun hb => ?_) (fun hb => ?_)
  · refine oc_xlC (by omega) ?_
    refine oc_xlC (by omega) ?_
    exact br_c (fun _ => oc_x69a (Or.inl rfl) h0) (fun _ => oc_x69a (Or.inl rfl) h0)
  · refine oc_xlC (by omega) ?_
    refine oc_xlC (by omega) ?_
    exact br_c (fun _ => oc_x69a (Or.inl rfl) h0) (fun _ => oc_x69a (Or.inl rfl) h0)
theorem oc_x43b {post : Int32 → Prop} {F : Int32} {p m : Nat → Int32} {f g : Nat} (hf : f < 48) (hg : g < 48) (ha : f / 16 ≤ g / 16) (h1 : oc_fn f g → post 1) (h0 : ¬ oc_fn f g → post 0) : wX_finer_43 post (nI f) (nI g) (nI (f / 4 % 4)) (nI (g / 4 % 4)) 1 F p m := by
  unfold wX_finer_43
  refine oc_xfB (by omega) (by omega) (fun hb => ?_) (fun hb => ?_)
  · refine oc_xlC (by omega) ?_
    refine oc_xlC (by omega) ?_
    refine pk_lt (g % 4) (f % 4) (fun hc => oc_x69a (Or.inr (Or.inr rfl)) (h0 (fun z => ?_))) (fun hc => oc_x69b (h1 ⟨ha, hb, hc⟩))
    have w := z.2.2
    omega
  · refine oc_xlC (by omega) ?_
    refine oc_xlC (by omega) ?_
    have w : post 0 := h0 (fun z => hb z.2.1)
    exact br_c (fun _ => oc_x69a (Or.inr (Or.inl rfl)) w) (fun _ => oc_x69a (Or.inr (Or.inl rfl)) w)
theorem oc_xfin {post : Int32 → Prop} {F : Int32} {p m : Nat → Int32} {f g : Nat} (hf : f < 48) (hg : g < 48) (h1 : oc_fn f g → post 1) (h0 : ¬ oc_fn f g → post 0) : wpX_finer post (F, p, m) (nI f) (nI g) := by
  unfold wpX_finer
  dsimp only
  refine oc_xV1 hf ?_
  refine br_f (by decide) ?_
  refine oc_xV1 hg ?_
  refine br_f (by decide) ?_
  refine oc_xlB (by omega) ?_
  refine oc_xlB (by omega) ?_
  refine oc_xlA (by omega) ?_
  refine oc_xlA (by omega) ?_
  refine pk_lt (g / 16) (f / 16) (fun ha => oc_x43a hf hg (h0 (fun z => ?_))) (fun ha => oc_x43b hf hg ha h1 h0)
  have w := z.1
  omega
theorem oc_yfin46 {post : Int32 → Prop} {J : Int32 → Prop} {F : Int32} {p m : Nat → Int32} {f g P : Nat} (hf : f < 48) (hg : g < 48) (hP : P < 192) (h0 : (∃ q, q < P ∧ oc_bad f g P q) → post 0) (h1 : (∀ q, q < P → ¬ oc_bad f g P q) → J (nI (P + 1))) : ∀ d i : Nat, i + d = P → (∀ q, q < i → ¬ oc_bad f g P q) → wY_finer_46 post J (nI f) (nI g) (nI P) (nI (oc_cl f P)) (nI (oc_cl g P)) F p m (d + 1) (nI i) := by
  have c1 := oc_cl_lt (v := f) hP
  have c2 := oc_cl_lt (v := g) hP
  intro d
  induction d with
  | zero =>
    intro i hi hall
    have e : i = P := by omega
    subst e
    exact br_t (nI_le (Nat.le_refl _) (by omega)) (nm_r (nI_1 i) (h1 hall))
  | succ d ih =>
    intro i hi hall
    have hi2 : i < 192 := by omega
    have c3 := oc_cl_lt (v := f) hi2
    have c4 := oc_cl_lt (v := g) hi2
    have nx : ¬ oc_bad f g P i → wY_finer_46 post J (nI f) (nI g) (nI P) (nI (oc_cl f P)) (nI (oc_cl g P)) F p m (d + 1) (nI (i + 1)) := fun z => ih (i + 1) (by omega) (fun q hq => by
      by_cases w : q = i
      · rw [w]
        exact z
      · exact hall q (by omega))
    refine br_f (nI_ge (by omega) (by omega)) ?_
    refine oc_yfall hf hi2 ?_
    refine pk_eq (oc_cl f i) (oc_cl f P) (fun e => ?_) (fun e => nm_r (nI_1 i) (nx (fun z => e z.1)))
    refine oc_yfall hg hi2 ?_
    exact pk_eq (oc_cl g i) (oc_cl g P) (fun e2 => nm_r (nI_1 i) (nx (fun z => z.2 e2))) (fun e2 => h0 ⟨i, by omega, e, e2⟩)
theorem oc_yfin20 {post : Int32 → Prop} {F : Int32} {p m : Nat → Int32} {f g : Nat} (hf : f < 48) (hg : g < 48) (h1 : oc_fn f g → post 1) (h0 : ¬ oc_fn f g → post 0) : ∀ d P : Nat, P + d = 192 → (∀ a b, a < P → b < a → ¬ oc_bad f g a b) → wY_finer_20 post (nI f) (nI g) F p m (d + 1) (nI P) := by
  intro d
  induction d with
  | zero =>
    intro P hP hall
    have e : P = 192 := by omega
    subst e
    refine br_t (nI_le (a := 192) (b := 192) (by decide) (by decide)) (h1 ?_)
    by_cases w : oc_fn f g
    · exact w
    · obtain ⟨a, b, ha, hb, hbad⟩ := oc_fn_f hf hg w
      exact absurd hbad (hall a b ha hb)
  | succ d ih =>
    intro P hP hall
    refine br_f (nI_ge (b := 192) (by omega) (by decide)) ?_
    refine oc_yfall hf (by omega) ?_
    refine oc_yfall hg (by omega) ?_
    refine ⟨P + 1, oc_yfin46 hf hg (by omega) (fun z => ?_) (fun hq => ih (P + 1) (by omega) (fun a b ha hb => ?_)) P 0 (by omega) (fun q hq => absurd hq (Nat.not_lt_zero q))⟩
    · obtain ⟨q, hq, hbad⟩ := z
      exact h0 (fun w => oc_fn_t hf hg w (by omega) (by omega) hbad)
    · by_cases w : a = P
      · subst w
        exact hq b hb
      · exact hall a b (by omega) hb
theorem oc_yfin {post : Int32 → Prop} {F : Int32} {p m : Nat → Int32} {f g : Nat} (hf : f < 48) (hg : g < 48) (h1 : oc_fn f g → post 1) (h0 : ¬ oc_fn f g → post 0) : wpY_finer post (F, p, m) (nI f) (nI g) := by
  unfold wpY_finer
  dsimp only
  refine oc_yV1 hf ?_
  refine br_t rfl ?_
  refine oc_yV1 hg ?_
  refine br_t rfl ?_
  exact ⟨193, oc_yfin20 hf hg h1 h0 192 0 (by omega) (fun a b ha _ => absurd ha (Nat.not_lt_zero a))⟩
