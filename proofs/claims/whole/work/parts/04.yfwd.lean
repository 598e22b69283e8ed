section
variable {yT tr ep yD yE lv yt : Int32} {c a stk em ce po yc ye : Nat → Int32}
theorem sy_bl {e : Bool} {x : Int32} {post : Int32 → Prop} {T : Nat} (hT : T ≤ 80) (he : x = 0 ↔ e = false) : ∀ (f q k : Nat), f + q = T → 1 ≤ q → k + f < 1000 → post (nI (sk_bh c e f q k)) → wY_behind_7 post x (nI T) tr ep yD yE lv yt c a stk em ce po yc ye (f + 1) (nI k) (nI q)
  | 0, q, k, hq, h1, _, hp => by
    obtain ⟨t, rfl⟩ : ∃ t, q = t + 1 := ⟨q - 1, by omega⟩
    have e1 : T = t + 1 := by omega
    subst e1
    refine br_t (nI_le (Nat.le_refl _) (by omega)) ?_
    rw [nI_pred]
    exact hp
  | f + 1, q, k, hq, h1, hk, hp => by
    have V : ∀ {N : Nat}, N = 80 → vp_in (nI q) N := fun e => by rw [e]; exact vp_in_nI (n := q) (by omega) (by decide)
    refine br_f (nI_ge (by omega) (by omega)) ?_
    have go : ¬ (k = 0 ∧ (sk_cl (c q) ∨ (e = true ∧ c q = 17))) → wY_behind_52 post (wY_behind_7 post x (nI T) tr ep yD yE lv yt c a stk em ce po yc ye (f + 1)) x (nI k) (nI q) (nI T) tr ep yD yE lv yt c a stk em ce po yc ye := by
      intro hm
      rw [sk_bh, if_neg hm] at hp
      refine ⟨V rfl, ?_⟩
      rw [nI_clamp (n := q) (by omega)]
      by_cases h1' : sk_op (c q)
      · rw [if_pos h1'] at hp
        refine sy_opT h1' (br_f (by decide) (nm_r (nI_1 k) ⟨V rfl, ?_⟩))
        rw [nI_clamp (n := q) (by omega)]
        exact sy_clF (fun y => sk_opcl y h1') (br_t rfl (nm_r (nI_1 q) (sy_bl hT he f (q + 1) (k + 1) (by omega) (by omega) (by omega) hp)))
      · rw [if_neg h1'] at hp
        refine sy_opF h1' (br_t rfl ⟨V rfl, ?_⟩)
        rw [nI_clamp (n := q) (by omega)]
        by_cases h2 : sk_cl (c q)
        · rw [if_pos h2] at hp
          cases k with
          | zero => exact absurd ⟨rfl, Or.inl h2⟩ hm
          | succ k => exact sy_clT h2 (br_f (by decide) (nm_r (pk_m1 k) (nm_r (nI_1 q) (sy_bl hT he f (q + 1) k (by omega) (by omega) (by omega) hp))))
        · rw [if_neg h2] at hp
          exact sy_clF h2 (br_t rfl (nm_r (nI_1 q) (sy_bl hT he f (q + 1) k (by omega) (by omega) (by omega) hp)))
    cases k with
    | succ k => exact br_f (nI_ne0 (by omega) (by omega)) (go (fun y => by omega))
    | zero =>
      refine br_t nI_0 ⟨V rfl, ?_⟩
      rw [nI_clamp (n := q) (by omega)]
      by_cases h2 : sk_cl (c q)
      · rw [sk_bh, if_pos ⟨rfl, Or.inl h2⟩] at hp
        exact sy_clT h2 (br_f (by decide) hp)
      · refine sy_clF h2 (br_t rfl ?_)
        cases e with
        | false => exact br_t (he.mpr rfl) (go (fun y => y.2.elim h2 (fun w => absurd w.1 (by decide))))
        | true =>
          refine br_f (fun y => absurd (he.mp y) (by decide)) ⟨V rfl, ?_⟩
          by_cases h17 : c q = 17
          · rw [sk_bh, if_pos ⟨rfl, Or.inr ⟨rfl, h17⟩⟩] at hp
            exact br_t h17 hp
          · exact br_f h17 (go (fun y => y.2.elim h2 (fun w => h17 w.2)))
theorem sy_behind {e : Bool} {x : Int32} {post : Int32 → Prop} {T p : Nat} (hT : T ≤ 80) (hp : p < T) (he : x = 0 ↔ e = false) (h : post (nI (sk_bh c e (T - (p + 1)) (p + 1) 0))) : wpY_behind post (nI T, tr, ep, yD, yE, lv, yt, c, a, stk, em, ce, po, yc, ye) (nI p) x :=
  nm_r (nI_1 p) ⟨T - (p + 1) + 1, by rw [← nI_0]; exact sy_bl hT he (T - (p + 1)) (p + 1) 0 (by omega) (by omega) (by omega) h⟩
theorem sy_dl {post : Int32 → Prop} {x : Int32} {b : Nat} (hb : b ≤ 80) : ∀ (n i r : Nat), i ≤ r → r ≤ b → b < n + i → (∀ q, i ≤ q → q < r → ¬ sk_df c a q x) → ((r < b ∧ sk_df c a r x ∧ post (nI r)) ∨ (r = b ∧ post (-1))) → wY_definition_2 post x (nI b) yT tr ep yD yE lv yt c a stk em ce po yc ye n (nI i)
  | 0, i, r, h1, h2, h3, _, _ => by omega
  | n + 1, i, r, h1, h2, h3, hn, hr => by
    have V : i < b → ∀ {N : Nat}, N = 80 → vp_in (nI i) N := fun w _ e => by rw [e]; exact vp_in_nI (n := i) (by omega) (by decide)
    by_cases hi : i = b
    · refine br_t (nI_le (by omega) (by omega)) ?_
      rcases hr with hr | hr
      · omega
      · exact hr.2
    · have W : ∀ {N : Nat}, N = 80 → vp_in (nI i) N := V (by omega)
      refine br_f (nI_ge (by omega) (by omega)) ⟨W rfl, ?_⟩
      rw [nI_clamp (n := i) (by omega)]
      by_cases hir : i = r
      · subst hir
        rcases hr with hr | hr
        · obtain ⟨hr1, ⟨hr2, hr4⟩, hr3⟩ := hr
          have go : wY_definition_29 post (wY_definition_2 post x (nI b) yT tr ep yD yE lv yt c a stk em ce po yc ye n) x (nI b) (nI i) yT tr ep yD yE lv yt c a stk em ce po yc ye := by
            refine ⟨W rfl, ?_⟩
            rw [nI_clamp (n := i) (by omega)]
            exact br_t hr4 hr3
          by_cases h26 : c i = 26
          · exact br_t h26 go
          · exact br_f h26 ⟨W rfl, br_t (hr2.resolve_left h26) go⟩
        · omega
      · have nx : wY_definition_2 post x (nI b) yT tr ep yD yE lv yt c a stk em ce po yc ye n (nI (i + 1)) := sy_dl hb n (i + 1) r (by omega) h2 (by omega) (fun q hq => hn q (by omega)) hr
        have hd := hn i (Nat.le_refl _) (by omega)
        have go : (c i = 26 ∨ c i = 28) → wY_definition_29 post (wY_definition_2 post x (nI b) yT tr ep yD yE lv yt c a stk em ce po yc ye n) x (nI b) (nI i) yT tr ep yD yE lv yt c a stk em ce po yc ye := by
          intro y
          refine ⟨W rfl, ?_⟩
          rw [nI_clamp (n := i) (by omega)]
          exact br_f (fun w => hd ⟨y, w⟩) (nm_r (nI_1 i) nx)
        by_cases h26 : c i = 26
        · exact br_t h26 (go (Or.inl h26))
        · refine br_f h26 ⟨W rfl, ?_⟩
          by_cases h28 : c i = 28
          · exact br_t h28 (go (Or.inr h28))
          · exact br_f h28 (nm_r (nI_1 i) nx)
theorem sy_dfS {post : Int32 → Prop} {x : Int32} {b r : Nat} (hb : b ≤ 80) (hr : r < b) (hd : sk_df c a r x) (hn : ∀ q, q < r → ¬ sk_df c a q x) (hp : post (nI r)) : wpY_definition post (yT, tr, ep, yD, yE, lv, yt, c, a, stk, em, ce, po, yc, ye) x (nI b) :=
  ⟨b + 1, by rw [← nI_0]; exact sy_dl hb (b + 1) 0 r (by omega) (by omega) (by omega) (fun q _ => hn q) (Or.inl ⟨hr, hd, hp⟩)⟩
theorem sy_dfN {post : Int32 → Prop} {x : Int32} {b : Nat} (hb : b ≤ 80) (hn : ∀ q, q < b → ¬ sk_df c a q x) (hp : post (-1)) : wpY_definition post (yT, tr, ep, yD, yE, lv, yt, c, a, stk, em, ce, po, yc, ye) x (nI b) :=
  ⟨b + 1, by rw [← nI_0]; exact sy_dl hb (b + 1) 0 b (by omega) (by omega) (by omega) (fun q _ => hn q) (Or.inr ⟨rfl, hp⟩)⟩
theorem sk_vsle (c : Nat → Int32) : ∀ p, sk_vs c p ≤ p
  | 0 => Nat.le_refl _
  | p + 1 => by
    have := sk_vsle c p
    rw [sk_vs]
    split <;> omega
theorem sy_vl {post : Int32 → Prop} {b : Nat} (hb : b ≤ 80) (hp : post (nI (sk_vs c b))) : ∀ (n i : Nat), i ≤ b → b < n + i → wY_variables_4 post (nI b) yT tr ep yD yE lv yt c a stk em ce po yc ye n (nI (sk_vs c i)) (nI i)
  | 0, i, h1, h2 => by omega
  | n + 1, i, h1, h2 => by
    by_cases hi : i = b
    · subst hi
      exact br_t (nI_le (by omega) (by omega)) hp
    · refine br_f (nI_ge (by omega) (by omega)) ⟨vp_in_nI (n := i) (by omega) (by decide), ?_⟩
      rw [nI_clamp (n := i) (by omega)]
      have ih := sy_vl hb hp n (i + 1) (by omega) (by omega)
      rw [sk_vs] at ih
      by_cases h : c i = 28
      · rw [if_pos h] at ih
        exact br_t h (nm_r (nI_1 _) (nm_r (nI_1 i) ih))
      · rw [if_neg h] at ih
        exact br_f h (nm_r (nI_1 i) ih)
theorem sy_vars {post : Int32 → Prop} {b : Nat} (hb : b ≤ 80) (hp : post (nI (sk_vs c b))) : wpY_variables post (yT, tr, ep, yD, yE, lv, yt, c, a, stk, em, ce, po, yc, ye) (nI b) :=
  ⟨b + 1, by rw [← nI_0]; exact sy_vl hb hp (b + 1) 0 (by omega) (by omega)⟩
theorem sy_nmT {post : Int32 → Prop} {x : Int32} (h : sk_nm x) (hp : post 1) : wpY_isName post x := br_f h.1 (br_f h.2 hp)
theorem sy_nmF {post : Int32 → Prop} {x : Int32} (h : ¬ sk_nm x) (hp : post 0) : wpY_isName post x := by
  by_cases h1 : x < 0
  · exact br_t h1 hp
  · exact br_f h1 (br_t (Classical.byContradiction (fun y => h ⟨h1, y⟩)) hp)
theorem sy_top {post : Int32 → Prop} {D j : Nat} (hD : D ≤ 16) (hj : j < D) (hp : post (stk (D - 1 - j))) : wpY_top post (yT, tr, ep, nI D, yE, lv, yt, c, a, stk, em, ce, po, yc, ye) (nI j) := by
  refine br_f (nI_pos (by omega)) (br_t (nI_lt hj (by omega)) ?_)
  obtain ⟨d, rfl⟩ : ∃ d, D = d + 1 := ⟨D - 1, by omega⟩
  rw [nI_pred, pk_sub (by omega), nI_clamp (n := d - j) (by omega)]
  exact ⟨vp_in_nI (by omega) (by decide), hp⟩
theorem sy_top0 {post : Int32 → Prop} {D j : Nat} (hD : D ≤ 16) (hj : D ≤ j) (hjj : j < 100) (hp : post 0) : wpY_top post (yT, tr, ep, nI D, yE, lv, yt, c, a, stk, em, ce, po, yc, ye) (nI j) :=
  br_f (nI_pos (by omega)) (br_f (nI_nlt hj (by omega)) hp)
theorem sy_push {post : Int32 → SY → Prop} {D : Nat} {x : Int32} (hD : D < 16) (hp : post (nI (D + 1)) (yT, tr, ep, nI (D + 1), yE, lv, yt, c, a, upd stk D x, em, ce, po, yc, ye)) : wpY_push post (yT, tr, ep, nI D, yE, lv, yt, c, a, stk, em, ce, po, yc, ye) x := by
  refine br_f (fun y => ?_) ⟨vp_in_nI (n := D) (by omega) (by decide), ?_⟩
  · have := (nI_eq (a := D) (b := 16) (by omega) (by omega)).mp y
    omega
  · rw [nI_clamp (n := D) (by omega)]
    exact nm_e (nm_r (nI_1 D) hp)
theorem sy_dp {post : SY → Prop} {D j : Nat} (hD : D ≤ 16) (hj : j ≤ D) (hp : post (yT, tr, ep, nI (D - j), yE, lv, yt, c, a, stk, em, ce, po, yc, ye)) : ∀ (n i : Nat), i ≤ j → j < n + i → wY_drop_2 post (nI j) yT tr ep yE lv yt c a stk em ce po yc ye n (nI i) (nI (D - i))
  | 0, i, h1, h2 => by omega
  | n + 1, i, h1, h2 => by
    by_cases hi : i = j
    · subst hi
      exact br_t (nI_le (by omega) (by omega)) hp
    · refine br_f (nI_ge (by omega) (by omega)) (br_f (nI_nle (by omega) (by omega)) (nm_r ?_ (nm_r (nI_1 i) (sy_dp hD hj hp n (i + 1) (by omega) (by omega)))))
      obtain ⟨d, hd⟩ : ∃ d, D - i = d + 1 := ⟨D - i - 1, by omega⟩
      rw [hd, nI_pred]
      exact congrArg nI (by omega)
theorem sy_drop {post : SY → Prop} {D j : Nat} (hD : D ≤ 16) (hj : j ≤ D) (hp : post (yT, tr, ep, nI (D - j), yE, lv, yt, c, a, stk, em, ce, po, yc, ye)) : wpY_drop post (yT, tr, ep, nI D, yE, lv, yt, c, a, stk, em, ce, po, yc, ye) (nI j) :=
  ⟨j + 1, by rw [← nI_0]; exact sy_dp hD hj hp (j + 1) 0 (by omega) (by omega)⟩
end
