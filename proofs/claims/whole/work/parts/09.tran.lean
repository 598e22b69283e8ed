def sk_G (T : Nat) (c a nm nv : Nat → Int32) (vc : Int32) (jm cp : Nat → Int32) : Prop :=
  (∀ q, q < T → sk_Tk c a q) ∧ sk_in c T = 0 ∧ vc = nI (sk_vs c T) ∧ sk_vs c T ≤ 12 ∧ sk_N c a T nm nv ∧ (∀ q, q < T → c q = 15 → ∃ n, n < 12 ∧ a q = nI n ∧ nm n ≠ 0) ∧ (∀ q, q < T → sk_J c jm T q) ∧ (∀ q, q < T → sk_C c cp q)
def sk_Rel (u : SX) (v : SY) : Prop :=
  ∃ (T D E : Nat) (tr ep ind vc pc cur tu ca lv yt : Int32) (c a nm nv ps pst psk jm cp stk em ce rp ct cm po yc ye : Nat → Int32), T ≤ 80 ∧ D ≤ 16 ∧ E ≤ 16 ∧ u = (nI T, tr, ep, ind, vc, pc, nI D, nI E, cur, tu, ca, c, a, nm, nv, ps, pst, psk, jm, cp, stk, em, ce, rp, ct, cm) ∧ v = (nI T, tr, ep, nI D, nI E, lv, yt, c, a, stk, em, ce, po, yc, ye) ∧ (tr = 0 ∨ (tr = 1 ∧ sk_G T c a nm nv vc jm cp))
section
variable {xT tr ep ind vc pc xD xE cur tu ca yT yD yE lv yt : Int32} {c a nm nv ps pst psk jm cp stk em ce rp ct cm po yc ye : Nat → Int32}
variable {T D E : Nat} {ytr : Int32}
theorem sf_l (h80 : T ≤ 80) (hq : ∀ q, q < T → sk_Tk c a q) (N : sk_N c a T nm nv) : ∀ (n i : Nat), i ≤ T → T < n + i → (∀ q, q < i → c q = 15 → ∃ m, m < 12 ∧ a q = nI m ∧ nm m ≠ 0) →
    (∃ j, j < T ∧ (∀ post : Int32 → SX → Prop, post 7 (nI T, tr, nI j, ind, vc, pc, xD, xE, cur, tu, ca, c, a, nm, nv, ps, pst, psk, jm, cp, stk, em, ce, rp, ct, cm) → wX_finishTranslation_20 post (nI T) tr ep ind vc pc xD xE cur tu ca c a nm nv ps pst psk jm cp stk em ce rp ct cm n (nI i)) ∧ (∀ post : Int32 → SY → Prop, post 7 (nI T, 0, nI j, yD, yE, lv, yt, c, a, stk, em, ce, po, yc, ye) → wY_translate_90 post (nI T) ytr ep yD yE lv yt c a stk em ce po yc ye n (nI i)))
    ∨ ((∀ q, q < T → c q = 15 → ∃ m, m < 12 ∧ a q = nI m ∧ nm m ≠ 0) ∧ (∀ post : Int32 → SX → Prop, post 0 (nI T, tr, ep, ind, vc, pc, xD, xE, cur, tu, ca, c, a, nm, nv, ps, pst, psk, jm, cp, stk, em, ce, rp, ct, cm) → wX_finishTranslation_20 post (nI T) tr ep ind vc pc xD xE cur tu ca c a nm nv ps pst psk jm cp stk em ce rp ct cm n (nI i)) ∧ (∀ post : Int32 → SY → Prop, post 0 (nI T, 1, ep, 0, 0, lv, yt, c, a, stk, em, sk_z ce 12, po, yc, ye) → wY_translate_90 post (nI T) ytr ep yD yE lv yt c a stk em ce po yc ye n (nI i)))
  | 0, i, h1, h2, _ => by omega
  | n + 1, i, h1, h2, hg => by
    by_cases hi : i = T
    · subst hi
      refine Or.inr ⟨hg, fun post hp => br_t (nI_le (Nat.le_refl _) (by omega)) hp, fun post hp => br_t (nI_le (Nat.le_refl _) (by omega)) ⟨13, ?_⟩⟩
      have := sy_rl hp 13 0 (by omega) (by omega)
      rw [nI_0] at this
      exact this
    · have V : ∀ {N : Nat}, N = 80 → vp_in (nI i) N := fun e => by rw [e]; exact vp_in_nI (n := i) (by omega) (by decide)
      have nle : ¬ nI T ≤ nI i := nI_ge (by omega) (by omega)
      by_cases h15 : c i = 15
      · have hin : sk_in c i = 1 := by
          rcases sk_in01 c i with y | y
          · have := ((hq i (by omega)).1 y).1
            rw [h15] at this
            exact absurd this (by decide)
          · exact y
        obtain ⟨m, hm, ha⟩ := sk_nmI (((hq i (by omega)).2 hin).2.1 h15)
        have Vm : ∀ {N : Nat}, N = 12 → vp_in (nI m) N := fun e => by rw [e]; exact vp_in_nI (n := m) (by omega) (by decide)
        rcases N m hm with ⟨z1, z2⟩ | ⟨q, hq', z2, z3, z4⟩
        · refine Or.inl ⟨i, by omega, fun post hp => br_f nle ⟨V rfl, ?_⟩, fun post hp => br_f nle ⟨V rfl, ?_⟩⟩
          · rw [nI_clamp (n := i) (by omega), ha, nI_clamp (n := m) (by omega)]
            exact br_t h15 ⟨V rfl, Vm rfl, br_t z1 hp⟩
          · rw [nI_clamp (n := i) (by omega), ha]
            exact br_t h15 ⟨V rfl, sy_dfN h80 z2 (br_f (by decide) hp)⟩
        · have nz : nm m ≠ 0 := by rcases z4 with z | z <;> rw [z.2.1] <;> decide
          have ih := sf_l h80 hq N n (i + 1) (by omega) (by omega) (sk_lts hg (fun _ => ⟨m, hm, ha, nz⟩))
          have gX : ∀ post : Int32 → SX → Prop, wX_finishTranslation_20 post (nI T) tr ep ind vc pc xD xE cur tu ca c a nm nv ps pst psk jm cp stk em ce rp ct cm n (nI (i + 1)) → wX_finishTranslation_20 post (nI T) tr ep ind vc pc xD xE cur tu ca c a nm nv ps pst psk jm cp stk em ce rp ct cm (n + 1) (nI i) := by
            intro post z
            refine br_f nle ⟨V rfl, ?_⟩
            rw [nI_clamp (n := i) (by omega), ha, nI_clamp (n := m) (by omega)]
            exact br_t h15 ⟨V rfl, Vm rfl, br_f nz (nm_r (nI_1 i) z)⟩
          have gY : ∀ post : Int32 → SY → Prop, wY_translate_90 post (nI T) ytr ep yD yE lv yt c a stk em ce po yc ye n (nI (i + 1)) → wY_translate_90 post (nI T) ytr ep yD yE lv yt c a stk em ce po yc ye (n + 1) (nI i) := by
            intro post z
            refine br_f nle ⟨V rfl, ?_⟩
            rw [nI_clamp (n := i) (by omega), ha]
            exact br_t h15 ⟨V rfl, sy_dfS h80 hq' z2 z3 (br_t (nI_pos' (by omega)) (nm_r (nI_1 i) z))⟩
          rcases ih with ⟨j, h1', h2', h3'⟩ | ⟨h1', h2', h3'⟩
          · exact Or.inl ⟨j, h1', fun post hp => gX post (h2' post hp), fun post hp => gY post (h3' post hp)⟩
          · exact Or.inr ⟨h1', fun post hp => gX post (h2' post hp), fun post hp => gY post (h3' post hp)⟩
      · have ih := sf_l h80 hq N n (i + 1) (by omega) (by omega) (sk_lts hg (fun y => absurd y h15))
        have gX : ∀ post : Int32 → SX → Prop, wX_finishTranslation_20 post (nI T) tr ep ind vc pc xD xE cur tu ca c a nm nv ps pst psk jm cp stk em ce rp ct cm n (nI (i + 1)) → wX_finishTranslation_20 post (nI T) tr ep ind vc pc xD xE cur tu ca c a nm nv ps pst psk jm cp stk em ce rp ct cm (n + 1) (nI i) := by
          intro post z
          refine br_f nle ⟨V rfl, ?_⟩
          rw [nI_clamp (n := i) (by omega)]
          exact br_f h15 (nm_r (nI_1 i) z)
        have gY : ∀ post : Int32 → SY → Prop, wY_translate_90 post (nI T) ytr ep yD yE lv yt c a stk em ce po yc ye n (nI (i + 1)) → wY_translate_90 post (nI T) ytr ep yD yE lv yt c a stk em ce po yc ye (n + 1) (nI i) := by
          intro post z
          refine br_f nle ⟨V rfl, ?_⟩
          rw [nI_clamp (n := i) (by omega)]
          exact br_f h15 (nm_r (nI_1 i) z)
        rcases ih with ⟨j, h1', h2', h3'⟩ | ⟨h1', h2', h3'⟩
        · exact Or.inl ⟨j, h1', fun post hp => gX post (h2' post hp), fun post hp => gY post (h3' post hp)⟩
        · exact Or.inr ⟨h1', fun post hp => gX post (h2' post hp), fun post hp => gY post (h3' post hp)⟩
theorem sf_end (h80 : T ≤ 80) (hD : D ≤ 16) (hE : E ≤ 16) (I : sk_I T T c a ind vc pc nm nv ps pst psk jm cp) : ∃ (r : Int32) (u' : SX) (v' : SY), sk_Rel u' v' ∧ (∀ post : Int32 → SX → Prop, post r u' → wX_translate_56 post 0 (nI T) 0 ep ind vc pc (nI D) (nI E) cur tu ca c a nm nv ps pst psk jm cp stk em ce rp ct cm)
    ∧ (∀ (n : Nat) (post : Int32 → SY → Prop), post r v' → wY_translate_4 post (nI T) ytr ep (nI D) (nI E) lv yt c a stk em ce po yc ye (n + 1) ind (nI T)) := by
  obtain ⟨i1, i2, i3, i4, i5, i6, i7, i8, i9, i10⟩ := I
  have le : nI T ≤ nI T := nI_le (Nat.le_refl _) (by omega)
  rcases sk_in01 c T with z | z
  · have z0 : ind = 0 := i1.trans z
    rcases sf_l (tr := 0) (ep := ep) (ind := ind) (vc := vc) (pc := pc) (xD := nI D) (xE := nI E) (cur := cur) (tu := tu) (ca := ca) (yD := nI D) (yE := nI E) (lv := lv) (yt := yt) (c := c) (a := a) (nm := nm) (nv := nv) (ps := ps) (pst := pst) (psk := psk) (jm := jm) (cp := cp) (stk := stk) (em := em) (ce := ce) (rp := rp) (ct := ct) (cm := cm) (po := po) (yc := yc) (ye := ye) (ytr := ytr) h80 i5 i7 (T + 1) 0 (by omega) (by omega) (fun q hq => absurd hq (by omega)) with ⟨j, h1, h2, h3⟩ | ⟨h1, h2, h3⟩
    · refine ⟨7, _, _, ⟨T, D, E, 0, nI j, ind, vc, pc, cur, tu, ca, lv, yt, c, a, nm, nv, ps, pst, psk, jm, cp, stk, em, ce, rp, ct, cm, po, yc, ye, h80, hD, hE, rfl, rfl, Or.inl rfl⟩, ?_, ?_⟩
      · intro post hp
        exact br_t rfl (br_t z0 ⟨T + 1, h2 _ (br_f (by decide) hp)⟩)
      · intro n post hp
        exact br_t le (br_t z0 ⟨T + 1, h3 _ hp⟩)
    · have hR := (sk_HIa i5).2 z
      rw [hR] at i9
      refine ⟨0, _, _, ⟨T, 0, 0, 1, ep, ind, vc, pc, cur, tu, ca, lv, yt, c, a, nm, nv, ps, pst, psk, jm, cp, stk, em, sk_z ce 12, rp, ct, cm, po, yc, ye, h80, by omega, by omega, rfl, rfl, Or.inr ⟨rfl, i5, z, i2, by rw [i8]; exact sk_cvle nm 12, i7, h1, fun q hq => i9 q hq (fun x hx => by cases hx), i10⟩⟩, ?_, ?_⟩
      · intro post hp
        exact br_t rfl (br_t z0 ⟨T + 1, h2 _ (br_t rfl (sx_reset hp))⟩)
      · intro n post hp
        exact br_t le (br_t z0 ⟨T + 1, h3 _ hp⟩)
  · have z0 : ¬ ind = 0 := by rw [i1, z]; decide
    refine ⟨6, _, _, ⟨T, D, E, 0, nI T, ind, vc, pc, cur, tu, ca, lv, yt, c, a, nm, nv, ps, pst, psk, jm, cp, stk, em, ce, rp, ct, cm, po, yc, ye, h80, hD, hE, rfl, rfl, Or.inl rfl⟩, ?_, ?_⟩
    · intro post hp
      exact br_t rfl (br_f z0 (br_f (by decide) hp))
    · intro n post hp
      exact br_t le (br_f z0 hp)
theorem st_err {e : Int32} {n p : Nat} (he : e ≠ 0) (h80 : T ≤ 80) (hp : p ≤ T) {post : Int32 → SX → Prop} (h : post e (nI T, tr, ep, ind, vc, pc, xD, xE, cur, tu, ca, c, a, nm, nv, ps, pst, psk, jm, cp, stk, em, ce, rp, ct, cm)) : wX_translate_8 post (n + 1) e (nI p) (nI T) tr ep ind vc pc xD xE cur tu ca c a nm nv ps pst psk jm cp stk em ce rp ct cm := by
  have z : wX_translate_56 post e (nI T) tr ep ind vc pc xD xE cur tu ca c a nm nv ps pst psk jm cp stk em ce rp ct cm := br_f he (br_f he h)
  by_cases y : p = T
  · subst y
    exact br_t (nI_le (Nat.le_refl _) (by omega)) z
  · exact br_f (nI_ge (by omega) (by omega)) (br_f he z)
theorem sk_W1 {p : Nat} (h : ∀ q, q < p → sk_Tk c a q) : (∀ q, q < p → (c q = 17 ∨ c q = 21) → sk_R c q ≠ []) ∧ (∀ q, q < p → sk_cl (c q) → sk_R c q ≠ []) := by
  have key : ∀ q, q < p → ¬ (c q = 26 ∨ c q = 28) → sk_Ok c a q := by
    intro q hq hn
    rcases sk_in01 c q with y | y
    · exact absurd ((h q hq).1 y).1 hn
    · exact (h q hq).2 y
  refine ⟨fun q hq y => ?_, fun q hq y => ?_⟩
  · have O := key q hq (by rcases y with y | y <;> rw [y] <;> decide)
    rcases y with y | y
    · exact sk_hs0 (O.2.2.2.1 y) (by decide)
    · exact sk_hs0 (O.2.2.2.2.2.2.1 y) (by decide)
  · have O := key q hq (by rcases y with y | y | y | y <;> rw [y] <;> decide)
    rcases y with y | y | y | y
    · rcases O.2.2.2.2.1 y with w | w
      · exact sk_hs0 w (by decide)
      · exact sk_hs0 w (by decide)
    · exact sk_hs0 (O.2.2.2.2.2.1 y) (by decide)
    · exact sk_hs0 (O.2.2.2.2.2.2.2.1 y) (by decide)
    · exact sk_hs0 (O.2.2.2.2.2.2.2.2.1 y) (by decide)
end
section
variable {yT tr ep yD yE lv yt : Int32} {c a stk em ce po yc ye : Nat → Int32}
variable {T D E : Nat} {ytr cur tu ca ep' : Int32} {rp ct cm : Nat → Int32}
theorem st_loop (h80 : T ≤ 80) (hD : D ≤ 16) (hE : E ≤ 16) : ∀ (n p : Nat) (ind vc pc : Int32) (nm nv ps pst psk jm cp : Nat → Int32), p ≤ T → T < n + p → sk_I T p c a ind vc pc nm nv ps pst psk jm cp →
    ∃ (r : Int32) (u' : SX) (v' : SY), sk_Rel u' v' ∧ (∀ post : Int32 → SX → Prop, post r u' → wX_translate_8 post (n + 1) 0 (nI p) (nI T) 0 ep ind vc pc (nI D) (nI E) cur tu ca c a nm nv ps pst psk jm cp stk em ce rp ct cm)
    ∧ (∀ post : Int32 → SY → Prop, post r v' → wY_translate_4 post (nI T) ytr ep (nI D) (nI E) lv yt c a stk em ce po yc ye n ind (nI p))
  | 0, p, ind, vc, pc, nm, nv, ps, pst, psk, jm, cp, h1, h2, I => by omega
  | n + 1, p, ind, vc, pc, nm, nv, ps, pst, psk, jm, cp, h1, h2, I => by
    by_cases hp : p = T
    · subst hp
      obtain ⟨r, u', v', R, hX, hY⟩ := sf_end (ep := ep) (ind := ind) (vc := vc) (pc := pc) (cur := cur) (tu := tu) (ca := ca) (lv := lv) (yt := yt) (c := c) (a := a) (nm := nm) (nv := nv) (ps := ps) (pst := pst) (psk := psk) (jm := jm) (cp := cp) (stk := stk) (em := em) (ce := ce) (rp := rp) (ct := ct) (cm := cm) (po := po) (yc := yc) (ye := ye) (ytr := ytr) h80 hD hE I
      exact ⟨r, u', v', R, fun post h => br_t (nI_le (Nat.le_refl _) (by omega)) (hX post h), fun post h => hY n post h⟩
    · have nle : ¬ nI T ≤ nI p := nI_ge (by omega) (by omega)
      have V : ∀ {N : Nat}, N = 80 → vp_in (nI p) N := fun e => by rw [e]; exact vp_in_nI (n := p) (by omega) (by decide)
      have e1 := I.1
      -- an error at p
      have bad : ∀ e : Int32, e ≠ 0 → (∀ post : Int32 → SX → Prop, post e (nI T, 0, nI p, ind, vc, pc, nI D, nI E, cur, tu, ca, c, a, nm, nv, ps, pst, psk, jm, cp, stk, em, ce, rp, ct, cm) → wX_translate_8 post (n + 1 + 1) 0 (nI p) (nI T) 0 ep ind vc pc (nI D) (nI E) cur tu ca c a nm nv ps pst psk jm cp stk em ce rp ct cm) → (∀ post : Int32 → SY → Prop, post e (nI T, 0, nI p, nI D, nI E, lv, yt, c, a, stk, em, ce, po, yc, ye) → wY_translate_4 post (nI T) ytr ep (nI D) (nI E) lv yt c a stk em ce po yc ye (n + 1) ind (nI p)) → ∃ (r : Int32) (u' : SX) (v' : SY), sk_Rel u' v' ∧ (∀ post : Int32 → SX → Prop, post r u' → wX_translate_8 post (n + 1 + 1) 0 (nI p) (nI T) 0 ep ind vc pc (nI D) (nI E) cur tu ca c a nm nv ps pst psk jm cp stk em ce rp ct cm)
          ∧ (∀ post : Int32 → SY → Prop, post r v' → wY_translate_4 post (nI T) ytr ep (nI D) (nI E) lv yt c a stk em ce po yc ye (n + 1) ind (nI p)) := by
        intro e he hX hY
        exact ⟨e, _, _, ⟨T, D, E, 0, nI p, ind, vc, pc, cur, tu, ca, lv, yt, c, a, nm, nv, ps, pst, psk, jm, cp, stk, em, ce, rp, ct, cm, po, yc, ye, h80, hD, hE, rfl, rfl, Or.inl rfl⟩, hX, hY⟩
      have y27 : ∀ post : Int32 → SY → Prop, ∀ x : Int32, (sk_in c (p + 1) = x) → (sk_in c p = 0 → c p = 26 ∨ c p = 28) → (sk_in c p = 1 → c p ≠ 26) → wY_translate_4 post (nI T) ytr ep (nI D) (nI E) lv yt c a stk em ce po yc ye n x (nI (p + 1)) → wY_translate_29 post (wY_translate_4 post (nI T) ytr ep (nI D) (nI E) lv yt c a stk em ce po yc ye n) ind (nI p) 0 (nI T) ytr ep (nI D) (nI E) lv yt c a stk em ce po yc ye := by
        intro post x hx k0 k1 h
        refine br_t rfl ⟨V rfl, ?_⟩
        have g : ∀ x1 : Int32, (c p = 27 → x = 0) → (c p ≠ 27 → x = x1) → wY_translate_54 post (wY_translate_4 post (nI T) ytr ep (nI D) (nI E) lv yt c a stk em ce po yc ye n) x1 (nI p) (nI T) ytr ep (nI D) (nI E) lv yt c a stk em ce po yc ye := by
          intro x1 q0 q1
          refine ⟨V rfl, ?_⟩
          rw [nI_clamp (n := p) (by omega)]
          by_cases h27 : c p = 27
          · rw [q0 h27] at h
            exact br_t h27 (nm_r (nI_1 p) h)
          · rw [q1 h27] at h
            exact br_f h27 (nm_r (nI_1 p) h)
        rw [nI_clamp (n := p) (by omega)]
        by_cases h26 : c p = 26
        · refine br_t h26 (g 1 (fun y => ?_) (fun _ => ?_))
          · rw [h26] at y; exact absurd y (by decide)
          · rw [← hx]; exact sk_in26 h26
        · refine br_f h26 (g ind (fun y => ?_) (fun y => ?_))
          · rw [← hx]; exact sk_in27 y
          · rw [← hx, sk_inS h26 y]; exact e1.symm
      rcases sk_in01 c p with z | z
      · have z0 : ind = 0 := e1.trans z
        obtain ⟨e, gY, gX⟩ := so_all (xT := nI T) (tr := 0) (ep := ep) (ind := ind) (vc := vc) (pc := pc) (xD := nI D) (xE := nI E) (cur := cur) (tu := tu) (ca := ca) (yT := nI T) (yD := nI D) (yE := nI E) (lv := lv) (yt := yt) (c := c) (a := a) (nm := nm) (nv := nv) (ps := ps) (pst := pst) (psk := psk) (jm := jm) (cp := cp) (stk := stk) (em := em) (ce := ce) (rp := rp) (ct := ct) (cm := cm) (po := po) (yc := yc) (ye := ye) (ytr := ytr) (by omega) h80 I z
        rcases gX with ⟨he, gX⟩ | ⟨he, ind0, vc0, nm0, nv0, gX, I'⟩
        · refine bad e he (fun post h => ?_) (fun post h => ?_)
          · exact br_f nle (br_t rfl (br_t z0 (gX _ (br_f he (nm_r (nI_1 p) (st_err he h80 (by omega) h))))))
          · exact br_f nle (br_t z0 (gY _ (br_f he h)))
        · subst he
          obtain ⟨r, u', v', R, hX, hY⟩ := st_loop h80 hD hE n (p + 1) ind0 vc0 pc nm0 nv0 ps pst psk jm cp (by omega) (by omega) I'
          have O := (I'.2.2.2.2.1 p (by omega)).1 z
          refine ⟨r, u', v', R, fun post h => ?_, fun post h => ?_⟩
          · exact br_f nle (br_t rfl (br_t z0 (gX _ (br_t rfl (nm_r (nI_1 p) (hX post h))))))
          · exact br_f nle (br_t z0 (gY _ (y27 post ind0 I'.1.symm (fun _ => O.1) (fun y => absurd (z.symm.trans y) (by decide)) (hY post h))))
      · have z0 : ¬ ind = 0 := by rw [e1, z]; decide
        have W := sk_W1 I.2.2.2.2.1
        have e3 := I.2.2.1
        subst e3
        obtain ⟨e, gX, gY, gO⟩ := se_all (xT := nI T) (tr := 0) (ep := ep) (ind := ind) (vc := vc) (xD := nI D) (xE := nI E) (cur := cur) (tu := tu) (ca := ca) (yT := nI T) (yD := nI D) (yE := nI E) (lv := lv) (yt := yt) (c := c) (a := a) (nm := nm) (nv := nv) (ps := ps) (pst := pst) (psk := psk) (jm := jm) (cp := cp) (stk := stk) (em := em) (ce := ce) (rp := rp) (ct := ct) (cm := cm) (po := po) (yc := yc) (ye := ye) (ytr := ytr) (p := p) (by omega) I.2.2.2.1 I.2.2.2.2.2.1 (sk_HIa I.2.2.2.2.1).1 W.1 W.2
        by_cases he : e = 0
        · have O := gO he
          subst he
          obtain ⟨ind0, pc0, ps0, pst0, psk0, jm0, cp0, gA, I'⟩ := sg_all (xT := nI T) (tr := 0) (ep := ep) (ind := ind) (vc := vc) (xD := nI D) (xE := nI E) (cur := cur) (tu := tu) (ca := ca) (c := c) (a := a) (nm := nm) (nv := nv) (ps := ps) (pst := pst) (psk := psk) (jm := jm) (cp := cp) (stk := stk) (em := em) (ce := ce) (rp := rp) (ct := ct) (cm := cm) (by omega) h80 I z O
          obtain ⟨r, u', v', R, hX, hY⟩ := st_loop h80 hD hE n (p + 1) ind0 vc pc0 nm nv ps0 pst0 psk0 jm0 cp0 (by omega) (by omega) I'
          refine ⟨r, u', v', R, fun post h => ?_, fun post h => ?_⟩
          · exact br_f nle (br_t rfl (br_f z0 (gX _ (br_t rfl (gA _ (br_t rfl (nm_r (nI_1 p) (hX post h))))))))
          · exact br_f nle (br_f z0 (gY _ (y27 post ind0 I'.1.symm (fun y => absurd (z.symm.trans y) (by decide)) (fun _ => O.1.2.2) (hY post h))))
        · refine bad e he (fun post h => ?_) (fun post h => ?_)
          · exact br_f nle (br_t rfl (br_f z0 (gX _ (br_f he (br_f he (nm_r (nI_1 p) (st_err he h80 (by omega) h)))))))
          · exact br_f nle (br_f z0 (gY _ (br_f he h)))
end
