section
variable {xT tr ep ind vc pc xD xE cur tu ca : Int32} {c a nm nv ps pst psk jm cp stk em ce rp ct cm : Nat → Int32}
def sk_LA (c ps pst psk : Nat → Int32) : List (Nat × Nat) → Prop
  | [] => True
  | (q, k) :: t => (ps t.length = c k ∧ pst t.length = nI q ∧ psk t.length = nI k) ∧ sk_LA c ps pst psk t
theorem sk_LAu {c : Nat → Int32} {m : Nat} {x y z : Int32} : ∀ {L : List (Nat × Nat)}, L.length ≤ m → sk_LA c ps pst psk L → sk_LA c (upd ps m x) (upd pst m y) (upd psk m z) L
  | [], _, _ => trivial
  | (_, _) :: t, hm, ⟨⟨h1, h2, h3⟩, h4⟩ => by
    rw [List.length_cons] at hm
    exact ⟨⟨by rw [pk_un (by omega)]; exact h1, by rw [pk_un (by omega)]; exact h2, by rw [pk_un (by omega)]; exact h3⟩, sk_LAu (by omega) h4⟩
theorem sk_LAv {c : Nat → Int32} {m : Nat} {x z : Int32} : ∀ {L : List (Nat × Nat)}, L.length ≤ m → sk_LA c ps pst psk L → sk_LA c (upd ps m x) pst (upd psk m z) L
  | [], _, _ => trivial
  | (_, _) :: t, hm, ⟨⟨h1, h2, h3⟩, h4⟩ => by
    rw [List.length_cons] at hm
    exact ⟨⟨by rw [pk_un (by omega)]; exact h1, h2, by rw [pk_un (by omega)]; exact h3⟩, sk_LAv (by omega) h4⟩
def sk_ti (c : Nat → Int32) : List (Nat × Nat) → Int32
  | [] => -1
  | (_, k) :: t => if c k = 23 then nI t.length else sk_ti c t
theorem sx_il {post : Int32 → Prop} : ∀ (L : List (Nat × Nat)), L.length ≤ 6 → sk_LA c ps pst psk L → post (sk_ti c L) → wX_innermostTimes_7 post xT tr ep ind vc pc xD xE cur tu ca c a nm nv ps pst psk jm cp stk em ce rp ct cm (L.length + 1) (sy_pd L.length)
  | [], _, _, hp => br_t (by decide) hp
  | (q, k) :: t, h6, ⟨⟨h1, _, _⟩, h4⟩, hp => by
    rw [List.length_cons] at h6
    refine br_f (nI_pos (n := t.length) (by omega)) ⟨vp_in_nI (n := t.length) (by omega) (by decide), ?_⟩
    rw [show sy_pd (List.length ((q, k) :: t)) = nI t.length from rfl, nI_clamp (n := t.length) (by omega), h1]
    rw [sk_ti] at hp
    by_cases h : c k = 23
    · rw [if_pos h] at hp
      exact br_t h hp
    · rw [if_neg h] at hp
      exact br_f h (nm_r (sy_pd2 _) (sx_il t (by omega) h4 hp))
theorem sx_inner {post : Int32 → Prop} {L : List (Nat × Nat)} (h6 : L.length ≤ 6) (h : sk_LA c ps pst psk L) (hp : post (sk_ti c L)) : wpX_innermostTimes post (xT, tr, ep, ind, vc, nI L.length, xD, xE, cur, tu, ca, c, a, nm, nv, ps, pst, psk, jm, cp, stk, em, ce, rp, ct, cm) :=
  nm_r (sy_pd1 _) ⟨L.length + 1, sx_il L h6 h hp⟩
theorem sx_last {post : Int32 → Prop} {x : Int32} : ∀ {L : List (Nat × Nat)} (_ : L.length ≤ 6) (_ : sk_LA c ps pst psk L) (_ : wX_fitsOpenParts_22 post x (sk_hs c L) xT tr ep ind vc (nI L.length) xD xE cur tu ca c a nm nv ps pst psk jm cp stk em ce rp ct cm), wpX_fitsOpenParts post (xT, tr, ep, ind, vc, nI L.length, xD, xE, cur, tu, ca, c, a, nm, nv, ps, pst, psk, jm, cp, stk, em, ce, rp, ct, cm) x
  | [], _, _, hp => br_t nI_0 hp
  | (q, k) :: t, h6, ⟨⟨h1, _, _⟩, _⟩, hp => by
    rw [List.length_cons] at h6
    refine br_f (nI_ne0 (n := t.length + 1) (by omega) (by omega)) ?_
    rw [show nI (List.length ((q, k) :: t)) - 1 = nI t.length from nI_pred _, nI_clamp (n := t.length) (by omega), h1]
    exact ⟨vp_in_nI (n := t.length) (by omega) (by decide), hp⟩
theorem sx_12 (x : Int32) : 12 ≤ x ↔ 11 < x := by
  rw [Int32.le_iff_toInt_le, Int32.lt_iff_toInt_lt, show (12 : Int32).toInt = 12 from by decide, show (11 : Int32).toInt = 11 from by decide]
  omega
theorem sx_nmT {post : Int32 → Prop} {x : Int32} (h : sk_nm x) (hp : post 1) : wpX_isName post (xT, tr, ep, ind, vc, pc, xD, xE, cur, tu, ca, c, a, nm, nv, ps, pst, psk, jm, cp, stk, em, ce, rp, ct, cm) x := br_f h.1 (br_f (fun y => h.2 ((sx_12 x).mp y)) hp)
theorem sx_nmF {post : Int32 → Prop} {x : Int32} (h : ¬ sk_nm x) (hp : post 0) : wpX_isName post (xT, tr, ep, ind, vc, pc, xD, xE, cur, tu, ca, c, a, nm, nv, ps, pst, psk, jm, cp, stk, em, ce, rp, ct, cm) x := by
  by_cases h1 : x < 0
  · exact br_t h1 hp
  · exact br_f h1 (br_t ((sx_12 x).mpr (Classical.byContradiction (fun y => h ⟨h1, y⟩))) hp)
theorem sk_nmI {x : Int32} (h : sk_nm x) : ∃ n, n < 12 ∧ x = nI n := by
  obtain ⟨j, hj, e⟩ := nI_of2 (M := 11) (n := 11) (by decide) h.1 (Int32.not_lt.mp h.2)
  exact ⟨j, by omega, e⟩
theorem sk_nmN {n : Nat} (h : n < 12) : sk_nm (nI n) := ⟨nI_pos (by omega), nI_nlt (b := n) (a := 11) (by omega) (by omega)⟩
def sk_z (f : Nat → Int32) : Nat → Nat → Int32
  | 0 => f
  | n + 1 => upd (sk_z f n) n 0
theorem sk_z0 (f : Nat → Int32) {j : Nat} : ∀ n, j < n → sk_z f n j = 0
  | 0, h => by omega
  | n + 1, h => by
    rw [sk_z]
    by_cases e : j = n
    · subst e; exact pk_us
    · rw [pk_un e]; exact sk_z0 f n (by omega)
theorem sx_sl {post : SX → Prop} (hp : post (xT, tr, ep, ind, vc, pc, xD, xE, cur, tu, ca, c, a, sk_z nm 12, nv, ps, pst, psk, jm, cp, stk, em, ce, rp, ct, cm)) : ∀ (n i : Nat), i ≤ 12 → 12 < n + i → wX_startTranslation_22 post xT tr ep ind vc pc xD xE cur tu ca n (nI i) c a (sk_z nm i) nv ps pst psk jm cp stk em ce rp ct cm
  | 0, i, h1, h2 => by omega
  | n + 1, i, h1, h2 => by
    by_cases hi : i = 12
    · subst hi
      exact br_t (nI_le (b := 12) (a := 12) (by omega) (by omega)) hp
    · refine br_f (nI_ge (b := 12) (by omega) (by omega)) ⟨vp_in_nI (n := i) (by omega) (by decide), ?_⟩
      rw [nI_clamp (n := i) (by omega)]
      exact nm_e (nm_r (nI_1 i) (sx_sl hp n (i + 1) (by omega) (by omega)))
theorem sx_start {post : SX → Prop} (hp : post (xT, 0, ep, 0, 0, 0, xD, xE, cur, tu, ca, c, a, sk_z nm 12, nv, ps, pst, psk, jm, cp, stk, em, ce, rp, ct, cm)) : wpX_startTranslation post (xT, tr, ep, ind, vc, pc, xD, xE, cur, tu, ca, c, a, nm, nv, ps, pst, psk, jm, cp, stk, em, ce, rp, ct, cm) :=
  ⟨13, by
    have := sx_sl hp 13 0 (by omega) (by omega)
    rw [nI_0] at this
    exact this⟩
theorem sx_rl {post : SX → Prop} (hp : post (xT, tr, ep, ind, vc, pc, xD, xE, cur, tu, ca, c, a, nm, nv, ps, pst, psk, jm, cp, stk, em, sk_z ce 12, rp, ct, cm)) : ∀ (n i : Nat), i ≤ 12 → 12 < n + i → wX_resetMachine_12 post xT tr ep ind vc pc xD xE cur tu ca n (nI i) c a nm nv ps pst psk jm cp stk em (sk_z ce i) rp ct cm
  | 0, i, h1, h2 => by omega
  | n + 1, i, h1, h2 => by
    by_cases hi : i = 12
    · subst hi
      exact br_t (nI_le (b := 12) (a := 12) (by omega) (by omega)) hp
    · refine br_f (nI_ge (b := 12) (by omega) (by omega)) ⟨vp_in_nI (n := i) (by omega) (by decide), ?_⟩
      rw [nI_clamp (n := i) (by omega)]
      exact nm_e (nm_r (nI_1 i) (sx_rl hp n (i + 1) (by omega) (by omega)))
theorem sx_reset {post : SX → Prop} (hp : post (xT, tr, ep, ind, vc, pc, 0, 0, cur, tu, ca, c, a, nm, nv, ps, pst, psk, jm, cp, stk, em, sk_z ce 12, rp, ct, cm)) : wpX_resetMachine post (xT, tr, ep, ind, vc, pc, xD, xE, cur, tu, ca, c, a, nm, nv, ps, pst, psk, jm, cp, stk, em, ce, rp, ct, cm) :=
  ⟨13, by
    have := sx_rl hp 13 0 (by omega) (by omega)
    rw [nI_0] at this
    exact this⟩
end
section
variable {yT tr ep yD yE lv yt : Int32} {c a stk em ce po yc ye : Nat → Int32}
theorem sy_rl {post : Int32 → SY → Prop} (hp : post 0 (yT, tr, ep, yD, yE, lv, yt, c, a, stk, em, sk_z ce 12, po, yc, ye)) : ∀ (n i : Nat), i ≤ 12 → 12 < n + i → wY_translate_157 post yT tr ep yD yE lv yt n (nI i) c a stk em (sk_z ce i) po yc ye
  | 0, i, h1, h2 => by omega
  | n + 1, i, h1, h2 => by
    by_cases hi : i = 12
    · subst hi
      exact br_t (nI_le (b := 12) (a := 12) (by omega) (by omega)) hp
    · refine br_f (nI_ge (b := 12) (by omega) (by omega)) ⟨vp_in_nI (n := i) (by omega) (by decide), ?_⟩
      rw [nI_clamp (n := i) (by omega)]
      exact nm_e (nm_r (nI_1 i) (sy_rl hp n (i + 1) (by omega) (by omega)))
end
theorem sk_Rk (c : Nat → Int32) : ∀ (p : Nat) (x : Nat × Nat), x ∈ sk_R c p → sk_op (c x.2) ∨ c x.2 = 17 ∨ c x.2 = 21
  | 0, x, h => by cases h
  | p + 1, x, h => by
    have ih := sk_Rk c p x
    by_cases h1 : sk_op (c p)
    · rw [sk_Rop h1] at h
      rcases List.mem_cons.mp h with h | h
      · subst h; exact Or.inl h1
      · exact ih h
    · by_cases h2 : sk_cl (c p)
      · rw [sk_Rcl h2] at h
        exact ih (List.mem_of_mem_tail h)
      · by_cases h3 : c p = 17 ∨ c p = 21
        · rw [sk_Rch h3] at h
          revert h ih
          cases sk_R c p with
          | nil => exact fun h ih => ih h
          | cons y t =>
            intro h ih
            rcases List.mem_cons.mp h with h | h
            · subst h; exact Or.inr h3
            · exact ih (List.mem_cons_of_mem _ h)
        · by_cases h4 : c p = 26
          · rw [sk_R26 h4] at h
            cases h
          · rw [sk_Rpl h1 h2 h3 h4] at h
            exact ih h
theorem sk_hsN {c : Nat → Int32} {p : Nat} (h : sk_R c p ≠ []) : ¬ sk_hs c (sk_R c p) < 0 ∧ ¬ sk_hs c (sk_R c p) = -1 := by
  have k := sk_Rk c p
  revert h k
  cases sk_R c p with
  | nil => exact fun h => absurd rfl h
  | cons x t =>
    intro _ k
    have := k x (List.mem_cons_self ..)
    show ¬ c x.2 < 0 ∧ ¬ c x.2 = -1
    rcases this with (h | h | h) | h | h <;> rw [h] <;> decide
theorem sk_hs0 {c : Nat → Int32} {L : List (Nat × Nat)} {x : Int32} (h : sk_hs c L = x) (hx : x ≠ -1) : L ≠ [] := by
  intro e
  subst e
  exact hx h.symm
theorem sk_tmS {c : Nat → Int32} {p : Nat} : ∀ {L : List (Nat × Nat)}, sk_HI c p L → (sk_tm c L = [] ∧ sk_ti c L = -1 ∧ sk_fn c 23 L = -1) ∨ (∃ q k t, sk_tm c L = (q, k) :: t ∧ sk_ti c L = nI t.length ∧ sk_fn c 23 L = nI q ∧ (q, k) ∈ L ∧ c q = 23 ∧ sk_R c q = t ∧ t.length < L.length)
  | [], _ => Or.inl ⟨rfl, rfl, rfl⟩
  | (q, k) :: t, ⟨h1, _, _, _, _, _, _, h8, h9⟩ => by
    by_cases h : c k = 23
    · refine Or.inr ⟨q, k, t, ?_, ?_, ?_, List.mem_cons_self .., h8.mp h, h1, by rw [List.length_cons]; omega⟩
      · rw [sk_tm, if_pos h]
      · rw [sk_ti, if_pos h]
      · rw [sk_fn, if_pos (Or.inr (h8.mp h))]
    · have e1 : sk_tm c ((q, k) :: t) = sk_tm c t := by rw [sk_tm, if_neg h]
      have e2 : sk_ti c ((q, k) :: t) = sk_ti c t := by rw [sk_ti, if_neg h]
      have e3 : sk_fn c 23 ((q, k) :: t) = sk_fn c 23 t := by
        rw [sk_fn, if_neg]
        intro y
        rcases y with y | y
        · exact absurd y (by decide)
        · exact h (h8.mpr y)
      rw [e1, e2, e3]
      rcases sk_tmS h9 with z | ⟨q', k', t', z1, z2, z3, z4, z5, z6, z7⟩
      · exact Or.inl z
      · exact Or.inr ⟨q', k', t', z1, z2, z3, List.mem_cons_of_mem _ z4, z5, z6, by rw [List.length_cons]; omega⟩
