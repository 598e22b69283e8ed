section
variable {yT tr ep yD yE lv yt : Int32} {c a stk em ce po yc ye : Nat → Int32}
theorem sy_opT {post : Int32 → Prop} {x : Int32} (h : sk_op x) (hp : post 1) : wpY_opens post x := by
  rcases h with h | h | h
  · exact br_t h hp
  · exact br_f (by rw [h]; decide) (br_t h hp)
  · exact br_f (by rw [h]; decide) (br_f (by rw [h]; decide) (br_t h hp))
theorem sy_opF {post : Int32 → Prop} {x : Int32} (h : ¬ sk_op x) (hp : post 0) : wpY_opens post x :=
  br_f (fun z => h (Or.inl z)) (br_f (fun z => h (Or.inr (Or.inl z))) (br_f (fun z => h (Or.inr (Or.inr z))) hp))
theorem sy_clT {post : Int32 → Prop} {x : Int32} (h : sk_cl x) (hp : post 1) : wpY_closes post x := by
  rcases h with h | h | h | h
  · exact br_t h hp
  · exact br_f (by rw [h]; decide) (br_t h hp)
  · exact br_f (by rw [h]; decide) (br_f (by rw [h]; decide) (br_t h hp))
  · exact br_f (by rw [h]; decide) (br_f (by rw [h]; decide) (br_f (by rw [h]; decide) (br_t h hp)))
theorem sy_clF {post : Int32 → Prop} {x : Int32} (h : ¬ sk_cl x) (hp : post 0) : wpY_closes post x :=
  br_f (fun z => h (Or.inl z)) (br_f (fun z => h (Or.inr (Or.inl z))) (br_f (fun z => h (Or.inr (Or.inr (Or.inl z)))) (br_f (fun z => h (Or.inr (Or.inr (Or.inr z)))) hp)))
def sy_pd : Nat → Int32
  | 0 => -1
  | q + 1 => nI q
theorem sy_pd2 (p : Nat) : nI p + (-1) = sy_pd p := by
  cases p with
  | zero => rw [nI_0]; rfl
  | succ q => exact pk_m1 q
theorem sy_pd1 (p : Nat) : nI p - 1 = sy_pd p := by
  cases p with
  | zero => rw [nI_0]; rfl
  | succ q => exact nI_pred q
def sk_fn (c : Nat → Int32) (s : Int32) : List (Nat × Nat) → Int32
  | [] => -1
  | (q, _) :: t => if s < 0 ∨ c q = s then nI q else sk_fn c s t
theorem sy_ar {s : Int32} {post : Int32 → Prop} : ∀ (p k : Nat), p ≤ 80 → k + p < 1000 → post (sk_fn c s ((sk_R c p).drop k)) → wY_around_7 post s yT tr ep yD yE lv yt c a stk em ce po yc ye (p + 1) (nI k) (sy_pd p)
  | 0, k, _, _, hp => by
    rw [sk_R, List.drop_nil] at hp
    exact br_t (by decide) hp
  | p + 1, k, h80, hk, hp => by
    refine br_f (nI_pos (n := p) (by omega)) ⟨vp_in_nI (n := p) (by omega) (by decide), ?_⟩
    show _ ∧ _
    rw [show sy_pd (p + 1) = nI p from rfl, nI_clamp (n := p) (by omega)]
    by_cases z : c p = 26
    · rw [sk_R26 z, List.drop_nil] at hp
      exact br_t z hp
    · refine br_f z ⟨vp_in_nI (n := p) (by omega) (by decide), ?_⟩
      by_cases h2 : sk_cl (c p)
      · refine sy_clT h2 (br_f (by decide) (nm_r (nI_1 k) (nm_r (sy_pd2 p) ?_)))
        refine sy_ar p (k + 1) (by omega) (by omega) ?_
        rw [sk_Rcl h2, List.drop_tail] at hp
        exact hp
      · refine sy_clF h2 (br_t rfl ⟨vp_in_nI (n := p) (by omega) (by decide), ?_⟩)
        by_cases h1 : sk_op (c p)
        · refine sy_opT h1 (br_f (by decide) ?_)
          rw [sk_Rop h1] at hp
          cases k with
          | zero =>
            have ih := sy_ar (s := s) (post := post) p 0 (by omega) (by omega)
            refine br_t nI_0 ?_
            have hp' : post (if s < 0 ∨ c p = s then nI p else sk_fn c s (sk_R c p)) := hp
            by_cases hs : s < 0
            · rw [if_pos (Or.inl hs)] at hp'
              exact br_t hs hp'
            · refine br_f hs ⟨vp_in_nI (n := p) (by omega) (by decide), ?_⟩
              by_cases hs2 : c p = s
              · rw [if_pos (Or.inr hs2)] at hp'
                exact br_t hs2 hp'
              · rw [if_neg (by intro y; exact y.elim hs hs2)] at hp'
                exact br_f hs2 (br_t (by rw [nI_0]; decide) (nm_r (sy_pd2 p) (ih hp')))
          | succ k =>
            refine br_f (nI_ne0 (by omega) (by omega)) (br_f (nI_nle (by omega) (by omega)) (nm_r (pk_m1 k) (nm_r (sy_pd2 p) ?_)))
            exact sy_ar p k (by omega) (by omega) hp
        · refine sy_opF h1 (br_t rfl (nm_r (sy_pd2 p) ?_))
          refine sy_ar p k (by omega) (by omega) ?_
          by_cases h3 : c p = 17 ∨ c p = 21
          · rw [sk_Rch h3] at hp
            revert hp
            cases sk_R c p with
            | nil => exact fun hp => hp
            | cons x t =>
              obtain ⟨q, y⟩ := x
              intro hp
              cases k with
              | zero => exact hp
              | succ k => exact hp
          · rw [sk_Rpl h1 h2 h3 z] at hp
            exact hp
theorem sy_around {s : Int32} {post : Int32 → Prop} {p : Nat} (h : p ≤ 80) (hp : post (sk_fn c s (sk_R c p))) : wpY_around post (yT, tr, ep, yD, yE, lv, yt, c, a, stk, em, ce, po, yc, ye) (nI p) s :=
  nm_r (sy_pd1 p) ⟨p + 1, by rw [← nI_0]; exact sy_ar p 0 h (by omega) hp⟩
theorem sy_so {post : Int32 → Prop} : ∀ (p k : Nat), p ≤ 80 → k + p < 1000 → (∀ q, q < p → (c q = 17 ∨ c q = 21) → sk_R c q ≠ []) → post (sk_hs c ((sk_R c p).drop k)) → wY_sort_6 post yT tr ep yD yE lv yt c a stk em ce po yc ye (p + 1) (nI k) (sy_pd p)
  | 0, k, _, _, _, hp => by
    rw [sk_R, List.drop_nil] at hp
    exact br_t (by decide) hp
  | p + 1, k, h80, hk, W, hp => by
    have V : ∀ {N : Nat}, N = 80 → vp_in (nI p) N := fun e => by rw [e]; exact vp_in_nI (n := p) (by omega) (by decide)
    refine br_f (nI_pos (n := p) (by omega)) ⟨V rfl, ?_⟩
    show _ ∧ _
    rw [show sy_pd (p + 1) = nI p from rfl, nI_clamp (n := p) (by omega)]
    by_cases z : c p = 26
    · rw [sk_R26 z, List.drop_nil] at hp
      exact br_t z hp
    · refine br_f z ⟨V rfl, ?_⟩
      have ih := fun k' => sy_so (post := post) p k' (by omega)
      have W' : ∀ q, q < p → (c q = 17 ∨ c q = 21) → sk_R c q ≠ [] := fun q hq => W q (by omega)
      by_cases h2 : sk_cl (c p)
      · refine sy_clT h2 (br_f (by decide) (nm_r (nI_1 k) (nm_r (sy_pd2 p) ?_)))
        refine ih (k + 1) (by omega) W' ?_
        rw [sk_Rcl h2, List.drop_tail] at hp
        exact hp
      · refine sy_clF h2 (br_t rfl ?_)
        by_cases h1 : sk_op (c p)
        · rw [sk_Rop h1] at hp
          cases k with
          | zero => exact br_t nI_0 ⟨V rfl, sy_opT h1 (br_f (by decide) ⟨V rfl, hp⟩)⟩
          | succ k =>
            refine br_f (nI_ne0 (by omega) (by omega)) ⟨V rfl, ?_⟩
            rw [nI_clamp (n := p) (by omega)]
            exact sy_opT h1 (br_f (by decide) (nm_r (pk_m1 k) (nm_r (sy_pd2 p) (ih k (by omega) W' hp))))
        · by_cases h3 : c p = 17 ∨ c p = 21
          · have W0 := W p (by omega) h3
            rw [sk_Rch h3] at hp
            revert hp W0
            generalize hL : sk_R c p = L
            intro hp W0
            cases L with
            | nil => exact absurd rfl W0
            | cons x t =>
              obtain ⟨q, y⟩ := x
              cases k with
              | zero =>
                refine br_t nI_0 ⟨V rfl, sy_opF h1 (br_t rfl ⟨V rfl, ?_⟩)⟩
                by_cases h17 : c p = 17
                · exact br_t h17 ⟨V rfl, hp⟩
                · have h21 : c p = 21 := h3.resolve_left h17
                  exact br_f h17 ⟨V rfl, br_t h21 ⟨V rfl, hp⟩⟩
              | succ k =>
                refine br_f (nI_ne0 (by omega) (by omega)) ⟨V rfl, ?_⟩
                rw [nI_clamp (n := p) (by omega)]
                refine sy_opF h1 (br_t rfl (nm_r (sy_pd2 p) (ih (k + 1) (by omega) W' ?_)))
                rw [hL]; exact hp
          · rw [sk_Rpl h1 h2 h3 z] at hp
            have go : wY_sort_84 post (wY_sort_6 post yT tr ep yD yE lv yt c a stk em ce po yc ye (p + 1)) (nI k) (nI p) yT tr ep yD yE lv yt c a stk em ce po yc ye := by
              refine ⟨V rfl, ?_⟩
              rw [nI_clamp (n := p) (by omega)]
              exact sy_opF h1 (br_t rfl (nm_r (sy_pd2 p) (ih k (by omega) W' hp)))
            cases k with
            | zero => exact br_t nI_0 ⟨V rfl, sy_opF h1 (br_t rfl ⟨V rfl, br_f (fun y => h3 (Or.inl y)) ⟨V rfl, br_f (fun y => h3 (Or.inr y)) go⟩⟩)⟩
            | succ k => exact br_f (nI_ne0 (by omega) (by omega)) go
theorem sy_sort {post : Int32 → Prop} {p : Nat} (h : p ≤ 80) (W : ∀ q, q < p → (c q = 17 ∨ c q = 21) → sk_R c q ≠ []) (hp : post (sk_hs c (sk_R c p))) : wpY_sort post (yT, tr, ep, yD, yE, lv, yt, c, a, stk, em, ce, po, yc, ye) (nI p) :=
  nm_r (sy_pd1 p) ⟨p + 1, by rw [← nI_0]; exact sy_so p 0 h (by omega) W hp⟩
theorem sy_a1 (x : Int32) (m : Nat) : x + 1 + nI m = x + nI (m + 1) := by
  rw [← nI_1, Int32.add_comm (nI m) 1, Int32.add_assoc]
theorem sy_a2 (x : Int32) (m : Nat) : x + (-1) + nI (m + 1) = x + nI m := by
  rw [Int32.add_assoc, Int32.add_comm (-1), pk_m1]
theorem sy_op {post : Int32 → Prop} : ∀ (p : Nat) (x : Int32), p ≤ 80 → (∀ q, q < p → sk_cl (c q) → sk_R c q ≠ []) → post (x + nI (sk_R c p).length) → wY_openParts_6 post yT tr ep yD yE lv yt c a stk em ce po yc ye (p + 1) x (sy_pd p)
  | 0, x, _, _, hp => by
    have hp : post (x + nI 0) := hp
    rw [nI_0, Int32.add_zero] at hp
    exact br_t (by decide) hp
  | p + 1, x, h80, W, hp => by
    have V : ∀ {N : Nat}, N = 80 → vp_in (nI p) N := fun e => by rw [e]; exact vp_in_nI (n := p) (by omega) (by decide)
    refine br_f (nI_pos (n := p) (by omega)) ⟨V rfl, ?_⟩
    show _ ∧ _
    rw [show sy_pd (p + 1) = nI p from rfl, nI_clamp (n := p) (by omega)]
    by_cases z : c p = 26
    · rw [sk_R26 z] at hp
      have hp : post (x + nI 0) := hp
      rw [nI_0, Int32.add_zero] at hp
      exact br_t z hp
    · refine br_f z ⟨V rfl, ?_⟩
      have ih := fun x' => sy_op (post := post) p x' (by omega) (fun q hq => W q (by omega))
      by_cases h1 : sk_op (c p)
      · rw [sk_Rop h1, List.length_cons, ← sy_a1] at hp
        refine sy_opT h1 (br_f (by decide) (nm_e ⟨V rfl, ?_⟩))
        rw [nI_clamp (n := p) (by omega)]
        exact sy_clF (fun y => sk_opcl y h1) (br_t rfl (nm_r (sy_pd2 p) (ih (x + 1) hp)))
      · refine sy_opF h1 (br_t rfl ⟨V rfl, ?_⟩)
        rw [nI_clamp (n := p) (by omega)]
        by_cases h2 : sk_cl (c p)
        · refine sy_clT h2 (br_f (by decide) (nm_e (nm_r (sy_pd2 p) (ih (x + (-1)) ?_))))
          have W0 := W p (by omega) h2
          rw [sk_Rcl h2] at hp
          revert hp W0
          cases sk_R c p with
          | nil => exact fun _ y => absurd rfl y
          | cons y t =>
            intro hp _
            rw [List.length_cons, sy_a2]; exact hp
        · refine sy_clF h2 (br_t rfl (nm_r (sy_pd2 p) (ih x ?_)))
          by_cases h3 : c p = 17 ∨ c p = 21
          · rw [sk_Rch h3] at hp
            revert hp
            cases sk_R c p with
            | nil => exact fun hp => hp
            | cons y t => exact fun hp => hp
          · rw [sk_Rpl h1 h2 h3 z] at hp
            exact hp
theorem sy_openParts {post : Int32 → Prop} {p : Nat} (h : p ≤ 80) (W : ∀ q, q < p → sk_cl (c q) → sk_R c q ≠ []) (hp : post (nI (sk_R c p).length)) : wpY_openParts post (yT, tr, ep, yD, yE, lv, yt, c, a, stk, em, ce, po, yc, ye) (nI p) :=
  nm_r (sy_pd1 p) ⟨p + 1, sy_op p 0 h W (by rw [Int32.zero_add]; exact hp)⟩
end
