theorem oc_ysowF {post : Int32 → SY → Prop} {s t : Int32} {c n : Nat} {p m : Nat → Int32} (hc : c ≤ 40) (h40 : 40 ≤ n) (hn : n ≤ 40) (h : post (nI n) (nI n, p, m)) : ∀ d k : Nat, k + d = c → wY_sow_44 post s t (nI c) (d + 1) (nI k) (nI n) p m := by
  intro d
  induction d with
  | zero =>
    intro k hk
    exact br_t (nI_le (by omega) (by omega)) h
  | succ d ih =>
    intro k hk
    exact br_f (nI_ge (by omega) (by omega)) (br_t (nI_le (a := 40) h40 (by omega)) (nm_r (nI_1 k) (ih (k + 1) (by omega))))
theorem oc_pl {s t k : Nat} (hs : s < 192) (ht : t < 192) (hk : k < 40) : ∃ q : Nat, q < 192 ∧ (nI s + nI k * nI t) - (nI s + nI k * nI t) / 192 * 192 = nI q := by
  have b1 : k * t ≤ 40 * 192 := Nat.mul_le_mul (by omega) (by omega)
  refine ⟨(s + k * t) % 192, Nat.mod_lt _ (by decide), ?_⟩
  rw [pk_mul, nI_add]
  exact pk_rem (d := 192) (by omega) (by decide) (by decide)
theorem oc_sow {s t c : Nat} (hs : s < 192) (ht : t < 192) (hc : c ≤ 40) : ∀ (d k n : Nat) (p m : Nat → Int32), k + d = c → n ≤ 40 → oc_ok p n → ∃ (n' : Nat) (p' m' : Nat → Int32), n' ≤ 40 ∧ oc_ok p' n' ∧ (∀ post : Int32 → SX → Prop, post (nI n') (nI n', p', m') → wX_sow_36 post (nI s) (nI t) (nI c) (d + 1) (nI k) (nI n) p m) ∧ (∀ post : Int32 → SY → Prop, post (nI n') (nI n', p', m') → wY_sow_44 post (nI s) (nI t) (nI c) (d + 1) (nI k) (nI n) p m) := by
  intro d
  induction d with
  | zero =>
    intro k n p m hk hn ok
    exact ⟨n, p, m, hn, ok, fun _ h => br_t (nI_le (by omega) (by omega)) h, fun _ h => br_t (nI_le (by omega) (by omega)) h⟩
  | succ d ih =>
    intro k n p m hk hn ok
    by_cases h40 : n < 40
    · obtain ⟨q, hq, e⟩ := oc_pl hs ht (show k < 40 by omega)
      obtain ⟨n', p', m', hn', ok', hX, hY⟩ := ih (k + 1) (n + 1) (upd p n ((nI s + nI k * nI t) - (nI s + nI k * nI t) / 192 * 192)) (upd m n ((((nI s * 7) + ((nI k * nI k) * 11)) - ((nI s * 7) + ((nI k * nI k) * 11)) / 300 * 300) - 100)) (by omega) (by omega) (oc_ok_a ok hq e)
      refine ⟨n', p', m', hn', ok', fun post h => ?_, fun post h => ?_⟩
      · refine br_f (nI_ge (by omega) (by omega)) (br_f (nI_ge (b := 40) h40 (by decide)) ⟨by decide, by decide, ?_⟩)
        refine oc_xapp h40 ?_
        exact nm_r (nI_1 k) (hX post h)
      · refine br_f (nI_ge (by omega) (by omega)) (br_f (nI_ge (b := 40) h40 (by decide)) ⟨by decide, by decide, ?_⟩)
        refine oc_yapp h40 ?_
        exact nm_r (nI_1 k) (hY post h)
    · refine ⟨n, p, m, hn, ok, fun post h => ?_, fun post h => ?_⟩
      · exact br_f (nI_ge (by omega) (by omega)) (br_t (nI_le (a := 40) (by omega) (by omega)) h)
      · exact oc_ysowF hc (by omega) hn h (d + 1) k hk
theorem oc_drop {n : Nat} (hn : n + 1 ≤ 40) : ∀ (d i : Nat) (p m : Nat → Int32), i + d = n → oc_ok p (n + 1) → ∃ p' m' : Nat → Int32, oc_ok p' n ∧ (∀ post : Int32 → SX → Prop, post (nI n) (nI n, p', m') → wX_drop_12 post (nI (n + 1)) (d + 1) (nI i) p m) ∧ (∀ post : Int32 → SY → Prop, post (nI n) (nI n, p', m') → wY_drop_12 post (nI (n + 1)) (d + 1) (nI i) p m) := by
  intro d
  induction d with
  | zero =>
    intro i p m hi ok
    have e : i = n := by omega
    subst e
    refine ⟨p, m, oc_ok_le ok (by omega), fun post h => ?_, fun post h => ?_⟩
    · refine br_t ?_ (nm_r (nI_pred i) h)
      rw [nI_pred]
      exact nI_le (Nat.le_refl _) (by omega)
    · refine br_t ?_ (nm_r (nI_pred i) h)
      rw [nI_1 i]
      exact nI_le (Nat.le_refl _) (by omega)
  | succ d ih =>
    intro i p m hi ok
    obtain ⟨p', m', ok', hX, hY⟩ := ih (i + 1) (upd p i (p (i + 1))) (upd m i (m (i + 1))) (by omega) (oc_ok_s ok (by omega))
    refine ⟨p', m', ok', fun post h => ?_, fun post h => ?_⟩
    · refine br_f ?_ ?_
      · rw [nI_pred]
        exact nI_ge (by omega) (by omega)
      · rw [nI_1 i, nI_clamp (n := i + 1) (by omega), nI_clamp (n := i) (by omega)]
        exact ⟨vp_in_nI (by omega) (by decide), vp_in_nI (by omega) (by decide), nm_e ⟨vp_in_nI (by omega) (by decide), vp_in_nI (by omega) (by decide), nm_e (nm_e (hX post h))⟩⟩
    · refine br_f ?_ ?_
      · rw [nI_1 i]
        exact nI_ge (by omega) (by omega)
      · rw [nI_1 i, nI_clamp (n := i + 1) (by omega), nI_clamp (n := i) (by omega)]
        exact ⟨vp_in_nI (by omega) (by decide), vp_in_nI (by omega) (by decide), nm_e ⟨vp_in_nI (by omega) (by decide), vp_in_nI (by omega) (by decide), nm_e (nm_e (hY post h))⟩⟩
