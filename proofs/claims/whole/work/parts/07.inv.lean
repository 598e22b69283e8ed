def sk_J (c jm : Nat → Int32) (T q : Nat) : Prop :=
  ((c q = 16 ∨ c q = 17 ∨ c q = 21 ∨ c q = 23) → ∃ b, q < b ∧ b < T ∧ jm q = nI (b + 1) ∧ sk_bh c (decide (c q = 16)) (T - (q + 1)) (q + 1) 0 = b ∧ sk_in c (b + 1) = 1 ∧ ∀ x, x ∈ sk_R c (b + 1) → c x.1 = 23 → ∃ k, (x.1, k) ∈ sk_R c q)
  ∧ ((c q = 20 ∨ c q = 22 ∨ c q = 24) → ∃ s k t, sk_R c q = (s, k) :: t ∧ jm q = nI (s + 1))
def sk_C (c cp : Nat → Int32) (q : Nat) : Prop :=
  (c q = 23 → cp q = nI (sk_R c q).length) ∧ (c q = 24 → ∃ s k t, sk_R c q = (s, k) :: t ∧ cp q = nI t.length) ∧ (c q = 25 → cp q = sk_ti c (sk_R c q))
def sk_N (c a : Nat → Int32) (p : Nat) (nm nv : Nat → Int32) : Prop :=
  ∀ n, n < 12 → (nm n = 0 ∧ ∀ q, q < p → ¬ sk_df c a q (nI n)) ∨ (∃ q, q < p ∧ sk_df c a q (nI n) ∧ (∀ r, r < q → ¬ sk_df c a r (nI n)) ∧ ((c q = 26 ∧ nm n = 1 ∧ nv n = nI (q + 1)) ∨ (c q = 28 ∧ nm n = 2 ∧ nv n = nI (sk_vs c q))))
def sk_cv (nm : Nat → Int32) : Nat → Nat
  | 0 => 0
  | n + 1 => if nm n = 2 then sk_cv nm n + 1 else sk_cv nm n
theorem sk_cvle (nm : Nat → Int32) : ∀ n, sk_cv nm n ≤ n
  | 0 => Nat.le_refl _
  | n + 1 => by
    have := sk_cvle nm n
    rw [sk_cv]
    split <;> omega
theorem sk_cvo (nm : Nat → Int32) (j : Nat) (x : Int32) : ∀ n, n ≤ j → sk_cv (upd nm j x) n = sk_cv nm n
  | 0, _ => rfl
  | n + 1, h => by rw [sk_cv, sk_cv, pk_un (by omega), sk_cvo nm j x n (by omega)]
theorem sk_cv1 (nm : Nat → Int32) (j : Nat) (h0 : nm j ≠ 2) (x : Int32) (hx : x ≠ 2) : ∀ n, sk_cv (upd nm j x) n = sk_cv nm n
  | 0 => rfl
  | n + 1 => by
    rw [sk_cv, sk_cv, sk_cv1 nm j h0 x hx n]
    by_cases e : n = j
    · subst e; rw [pk_us, if_neg hx, if_neg h0]
    · rw [pk_un e]
theorem sk_cv2 (nm : Nat → Int32) (j : Nat) (h0 : nm j ≠ 2) : ∀ n, j < n → sk_cv (upd nm j 2) n = sk_cv nm n + 1
  | 0, h => by omega
  | n + 1, h => by
    rw [sk_cv, sk_cv]
    by_cases e : n = j
    · subst e; rw [pk_us, if_pos rfl, if_neg h0, sk_cvo nm n 2 n (Nat.le_refl _)]
    · rw [pk_un e, sk_cv2 nm j h0 n (by omega)]
      split <;> omega
def sk_I (T p : Nat) (c a : Nat → Int32) (ind vc pc : Int32) (nm nv ps pst psk jm cp : Nat → Int32) : Prop :=
  ind = sk_in c p ∧ vc = nI (sk_vs c p) ∧ pc = nI (sk_R c p).length ∧ (sk_R c p).length ≤ 6 ∧ (∀ q, q < p → sk_Tk c a q) ∧ sk_LA c ps pst psk (sk_R c p) ∧ sk_N c a p nm nv ∧ sk_vs c p = sk_cv nm 12
  ∧ (∀ q, q < p → (∀ x, x ∈ sk_R c p → x.2 ≠ q) → sk_J c jm T q) ∧ (∀ q, q < p → sk_C c cp q)
theorem sk_Jc {c jm jm' : Nat → Int32} {T q : Nat} (e : jm' q = jm q) (h : sk_J c jm T q) : sk_J c jm' T q := by
  unfold sk_J at h ⊢
  rw [e]
  exact h
theorem sk_Cc {c cp cp' : Nat → Int32} {q : Nat} (e : cp' q = cp q) (h : sk_C c cp q) : sk_C c cp' q := by
  unfold sk_C at h ⊢
  rw [e]
  exact h
theorem sk_Nin {c a nm nv : Nat → Int32} {p : Nat} (h1 : c p ≠ 26) (h2 : c p ≠ 28) (h : sk_N c a p nm nv) : sk_N c a (p + 1) nm nv := by
  intro n hn
  rcases h n hn with ⟨e, z⟩ | ⟨q, hq, z⟩
  · refine Or.inl ⟨e, fun q hq => ?_⟩
    by_cases y : q = p
    · subst y
      exact fun w => w.1.elim h1 h2
    · exact z q (by omega)
  · exact Or.inr ⟨q, by omega, z⟩
theorem sk_vsin {c : Nat → Int32} {p : Nat} (h : c p ≠ 28) : sk_vs c (p + 1) = sk_vs c p := by rw [sk_vs, if_neg h]
theorem sk_lts {p : Nat} {P : Nat → Prop} (h : ∀ q, q < p → P q) (h' : P p) : ∀ q, q < p + 1 → P q := by
  intro q hq
  by_cases y : q = p
  · subst y; exact h'
  · exact h q (by omega)
/-- the part that ends, or changes, at p: where its token goes on -/
theorem sk_Jend {c a jm : Nat → Int32} {T p s k : Nat} {t : List (Nat × Nat)} (hT : p < T) (hq : ∀ q, q < p → sk_Tk c a q) (hR : sk_R c p = (s, k) :: t) (hm : sk_cl (c p) ∨ (c k = 16 ∧ c p = 17)) (hi : sk_in c (p + 1) = 1) (hj : jm k = nI (p + 1))
    (hR' : sk_R c (p + 1) = t ∨ (sk_R c (p + 1) = (s, p) :: t ∧ c s ≠ 23)) : sk_J c jm T k := by
  have H := (sk_HIa hq).1
  have K := sk_SKa (c := c) (a := a) (T := T) (p := p) (by omega) hq
  have kk := sk_Rk c p (s, k) (by rw [hR]; exact List.mem_cons_self ..)
  rw [hR] at H K
  obtain ⟨h1, h2, h3, h4, h5, h6, h7, h8, h9⟩ := H
  refine ⟨fun hk => ⟨p, h4, hT, hj, ?_, hi, ?_⟩, fun hk => ?_⟩
  · rw [K.1 (by rcases hk with y | y | y | y <;> rw [y] <;> decide)]
    refine sk_bhT hT ⟨rfl, ?_⟩
    rcases hm with y | y
    · exact Or.inl y
    · exact Or.inr ⟨by rw [y.1]; rfl, y.2⟩
  · intro x hx hc
    have : x ∈ t := by
      rcases hR' with y | y
      · rw [y] at hx; exact hx
      · rw [y.1] at hx
        rcases List.mem_cons.mp hx with z | z
        · subst z; exact absurd hc y.2
        · exact z
    refine ⟨x.2, ?_⟩
    rcases h7 with y | ⟨k', y⟩
    · rw [y, h1]; exact this
    · rw [y]; exact List.mem_cons_of_mem _ this
  · rcases kk with (y | y | y) | y | y <;> (have y' : c k = _ := y) <;> rw [y'] at hk <;> exact absurd hk (by decide)
section
variable {xT tr ep ind vc pc xD xE cur tu ca : Int32} {c a nm nv ps pst psk jm cp stk em ce rp ct cm : Nat → Int32}
theorem sx_68 {post : SX → Prop} {p m : Nat} (hp : p < 80) (hm : m < 6) (h : post (xT, tr, ep, ind, vc, nI (m + 1), xD, xE, cur, tu, ca, c, a, nm, nv, upd ps m (c p), upd pst m (nI p), upd psk m (nI p), jm, upd cp p (nI m), stk, em, ce, rp, ct, cm)) : wX_arrangeParts_68 post (nI p) xT tr ep ind vc (nI m) xD xE cur tu ca c a nm nv ps pst psk jm cp stk em ce rp ct cm := by
  have V : ∀ {N : Nat}, N = 80 → vp_in (nI p) N := fun e => by rw [e]; exact vp_in_nI (n := p) (by omega) (by decide)
  have V6 : ∀ {N : Nat}, N = 6 → vp_in (nI m) N := fun e => by rw [e]; exact vp_in_nI (n := m) (by omega) (by decide)
  refine ⟨V rfl, V6 rfl, ?_⟩
  rw [nI_clamp (n := p) (by omega), nI_clamp (n := m) (by omega)]
  exact nm_e ⟨V6 rfl, nm_e ⟨V6 rfl, nm_e ⟨V rfl, nm_e (nm_r (nI_1 m) h)⟩⟩⟩
theorem sx_76 {post : SX → Prop} {p m k : Nat} (hp : p < 80) (hm : m < 6) (hk : k < 80) (e : psk m = nI k) (h : post (xT, tr, ep, ind, vc, nI (m + 1), xD, xE, cur, tu, ca, c, a, nm, nv, upd ps m (c p), pst, upd psk m (nI p), upd jm k (nI (p + 1)), cp, stk, em, ce, rp, ct, cm)) : wX_arrangeParts_76 post (nI p) xT tr ep ind vc (nI (m + 1)) xD xE cur tu ca c a nm nv ps pst psk jm cp stk em ce rp ct cm := by
  have V : ∀ {N : Nat}, N = 80 → vp_in (nI p) N := fun e => by rw [e]; exact vp_in_nI (n := p) (by omega) (by decide)
  have V6 : ∀ {N : Nat}, N = 6 → vp_in (nI m) N := fun e => by rw [e]; exact vp_in_nI (n := m) (by omega) (by decide)
  refine nm_r (nI_pred m) ⟨V6 rfl, ?_⟩
  rw [nI_clamp (n := p) (by omega), nI_clamp (n := m) (by omega), e, nI_clamp (n := k) (by omega)]
  exact ⟨vp_in_nI hk (by decide), nm_r (by rw [nI_1]) ⟨V6 rfl, nm_e ⟨V rfl, V6 rfl, nm_e h⟩⟩⟩
theorem sx_84 {post : SX → Prop} {p m k s : Nat} (hp : p < 80) (hm : m < 6) (hk : k < 80) (e : psk m = nI k) (es : pst m = nI s) (h : post (xT, tr, ep, ind, vc, nI m, xD, xE, cur, tu, ca, c, a, nm, nv, ps, pst, psk, upd (upd jm k (nI (p + 1))) p (nI (s + 1)), upd cp p (nI m), stk, em, ce, rp, ct, cm)) : wX_arrangeParts_84 post (nI p) xT tr ep ind vc (nI (m + 1)) xD xE cur tu ca c a nm nv ps pst psk jm cp stk em ce rp ct cm := by
  have V : ∀ {N : Nat}, N = 80 → vp_in (nI p) N := fun e => by rw [e]; exact vp_in_nI (n := p) (by omega) (by decide)
  have V6 : ∀ {N : Nat}, N = 6 → vp_in (nI m) N := fun e => by rw [e]; exact vp_in_nI (n := m) (by omega) (by decide)
  refine nm_r (nI_pred m) ⟨V6 rfl, ?_⟩
  rw [nI_clamp (n := p) (by omega), nI_clamp (n := m) (by omega), e, nI_clamp (n := k) (by omega), es]
  exact ⟨vp_in_nI hk (by decide), nm_r (by rw [nI_1]) ⟨V6 rfl, V rfl, nm_r (by rw [nI_1]) ⟨V rfl, nm_e h⟩⟩⟩
section
variable {T p : Nat}
theorem sg_pl (h0 : c p < 16 ∨ c p = 25 ∨ c p = 27) : ¬ sk_op (c p) ∧ ¬ sk_cl (c p) ∧ ¬ (c p = 17 ∨ c p = 21) := by
  rcases h0 with h | h | h
  · refine ⟨fun y => ?_, fun y => ?_, fun y => ?_⟩
    · rcases y with y | y | y <;> rw [y] at h <;> exact absurd h (by decide)
    · rcases y with y | y | y | y <;> rw [y] at h <;> exact absurd h (by decide)
    · rcases y with y | y <;> rw [y] at h <;> exact absurd h (by decide)
  · rw [h]; decide
  · rw [h]; decide
theorem sg_28 (O : sk_Ok c a p) : c p ≠ 28 := fun y => O.1.2.1 (by rw [y]; decide)
theorem sg_T (I : sk_I T p c a ind vc pc nm nv ps pst psk jm cp) (hi : sk_in c p = 1) (O : sk_Ok c a p) : ∀ q, q < p + 1 → sk_Tk c a q :=
  sk_lts I.2.2.2.2.1 ⟨fun y => absurd (y.symm.trans hi) (by decide), fun _ => O⟩
theorem sg_lo (I : sk_I T p c a ind vc pc nm nv ps pst psk jm cp) (hi : sk_in c p = 1) (O : sk_Ok c a p) (h0 : c p < 16 ∨ c p = 25 ∨ c p = 27) {cp' : Nat → Int32} (hcp : ∀ q, q ≠ p → cp' q = cp q) (hc25 : c p = 25 → cp' p = sk_ti c (sk_R c p)) : sk_I T (p + 1) c a (sk_in c (p + 1)) vc pc nm nv ps pst psk jm cp' := by
  have TT := sg_T I hi O
  obtain ⟨i1, i2, i3, i4, i5, i6, i7, i8, i9, i10⟩ := I
  have g := sg_pl h0
  have e := sk_Rpl g.1 g.2.1 g.2.2 O.1.2.2
  have n28 := sg_28 O
  have nn : ∀ k : Int32, (¬ k < 16) → k ≠ 25 → k ≠ 27 → c p ≠ k := by
    intro k h1 h2 h3 y
    rcases h0 with h | h | h
    · exact h1 (y ▸ h)
    · exact h2 (y.symm.trans h)
    · exact h3 (y.symm.trans h)
  refine ⟨rfl, by rw [sk_vsin n28]; exact i2, by rw [e]; exact i3, by rw [e]; exact i4, TT, by rw [e]; exact i6, sk_Nin O.1.2.2 n28 i7, by rw [sk_vsin n28]; exact i8, ?_, ?_⟩
  · rw [e]
    refine sk_lts i9 (fun _ => ⟨fun y => ?_, fun y => ?_⟩)
    · rcases y with y | y | y | y <;> exact absurd y (nn _ (by decide) (by decide) (by decide))
    · rcases y with y | y | y <;> exact absurd y (nn _ (by decide) (by decide) (by decide))
  · refine sk_lts (fun q hq => sk_Cc (hcp q (by omega)) (i10 q hq)) ⟨fun y => absurd y (nn _ (by decide) (by decide) (by decide)), fun y => absurd y (nn _ (by decide) (by decide) (by decide)), hc25⟩
theorem sg_op (I : sk_I T p c a ind vc pc nm nv ps pst psk jm cp) (hi : sk_in c p = 1) (O : sk_Ok c a p) (h0 : sk_op (c p)) : sk_I T (p + 1) c a ind vc (nI ((sk_R c p).length + 1)) nm nv (upd ps (sk_R c p).length (c p)) (upd pst (sk_R c p).length (nI p)) (upd psk (sk_R c p).length (nI p)) jm (upd cp p (nI (sk_R c p).length)) := by
  have TT := sg_T I hi O
  obtain ⟨i1, i2, i3, i4, i5, i6, i7, i8, i9, i10⟩ := I
  have n28 := sg_28 O
  have n27 : c p ≠ 27 := by rcases h0 with h | h | h <;> rw [h] <;> decide
  have e := sk_Rop h0
  have l6 := O.2.2.1 h0
  refine ⟨by rw [sk_inS O.1.2.2 n27]; exact i1, by rw [sk_vsin n28]; exact i2, by rw [e]; rfl, by rw [e, List.length_cons]; omega, TT, ?_, sk_Nin O.1.2.2 n28 i7, by rw [sk_vsin n28]; exact i8, ?_, ?_⟩
  · rw [e]
    exact ⟨⟨pk_us, pk_us, pk_us⟩, sk_LAu (Nat.le_refl _) i6⟩
  · rw [e]
    refine sk_lts (fun q hq hx => i9 q hq (fun x h => hx x (List.mem_cons_of_mem _ h))) (fun hx => absurd rfl (hx (p, p) (List.mem_cons_self ..)))
  · refine sk_lts (fun q hq => sk_Cc (pk_un (by omega)) (i10 q hq)) ⟨fun _ => pk_us, fun y => ?_, fun y => ?_⟩
    · rw [y] at h0; exact absurd h0 (by decide)
    · rw [y] at h0; exact absurd h0 (by decide)
theorem sg_ch (hT : p < T) (I : sk_I T p c a ind vc pc nm nv ps pst psk jm cp) (hi : sk_in c p = 1) (O : sk_Ok c a p) (h0 : (c p = 17 ∧ sk_hs c (sk_R c p) = 16) ∨ (c p = 21 ∧ sk_hs c (sk_R c p) = 19)) {s k : Nat} {t : List (Nat × Nat)} (hR : sk_R c p = (s, k) :: t) : sk_I T (p + 1) c a ind vc pc nm nv (upd ps t.length (c p)) pst (upd psk t.length (nI p)) (upd jm k (nI (p + 1))) cp := by
  have TT := sg_T I hi O
  obtain ⟨i1, i2, i3, i4, i5, i6, i7, i8, i9, i10⟩ := I
  have n28 := sg_28 O
  have h1 : c p = 17 ∨ c p = 21 := h0.elim (fun h => Or.inl h.1) (fun h => Or.inr h.1)
  have n27 : c p ≠ 27 := by rcases h1 with h | h <;> rw [h] <;> decide
  have e := sk_Rch h1
  rw [hR] at e i3 i4 i6 i9 h0
  have e : sk_R c (p + 1) = (s, p) :: t := e
  have hin : sk_in c (p + 1) = 1 := by rw [sk_inS O.1.2.2 n27]; exact hi
  have HH := (sk_HIa i5).1
  rw [hR] at HH
  refine ⟨by rw [sk_inS O.1.2.2 n27]; exact i1, by rw [sk_vsin n28]; exact i2, by rw [e]; exact i3, by rw [e]; exact i4, TT, ?_, sk_Nin O.1.2.2 n28 i7, by rw [sk_vsin n28]; exact i8, ?_, ?_⟩
  · rw [e]
    exact ⟨⟨pk_us, i6.1.2.1, pk_us⟩, sk_LAv (Nat.le_refl _) i6.2⟩
  · rw [e]
    intro q hq hx
    have qp : q ≠ p := fun y => hx (s, p) (List.mem_cons_self ..) y.symm
    by_cases qk : q = k
    · subst qk
      rcases h0 with ⟨h17, hs⟩ | ⟨h21, hs⟩
      · have hs : c q = 16 := hs
        refine sk_Jend hT i5 hR (Or.inr ⟨hs, h17⟩) hin pk_us (Or.inr ⟨e, ?_⟩)
        intro y
        have := HH.2.2.2.2.2.2.2.1.mpr y
        rw [hs] at this
        exact absurd this (by decide)
      · have hs : c q = 19 := hs
        refine ⟨fun y => ?_, fun y => ?_⟩
        · rw [hs] at y; exact absurd y (by decide)
        · rw [hs] at y; exact absurd y (by decide)
    · refine sk_Jc (pk_un qk) (i9 q (by omega) (fun x h => ?_))
      rcases List.mem_cons.mp h with h | h
      · subst h; exact fun y => qk y.symm
      · exact hx x (List.mem_cons_of_mem _ h)
  · refine sk_lts i10 ⟨fun y => ?_, fun y => ?_, fun y => ?_⟩ <;> rcases h1 with h | h <;> rw [h] at y <;> exact absurd y (by decide)
theorem sg_cl (hT : p < T) (I : sk_I T p c a ind vc pc nm nv ps pst psk jm cp) (hi : sk_in c p = 1) (O : sk_Ok c a p) (h0 : sk_cl (c p)) {s k : Nat} {t : List (Nat × Nat)} (hR : sk_R c p = (s, k) :: t) : sk_I T (p + 1) c a ind vc (nI t.length) nm nv ps pst psk (upd (upd jm k (nI (p + 1))) p (nI (s + 1))) (upd cp p (nI t.length)) := by
  have TT := sg_T I hi O
  obtain ⟨i1, i2, i3, i4, i5, i6, i7, i8, i9, i10⟩ := I
  have n28 := sg_28 O
  have n27 : c p ≠ 27 := by rcases h0 with h | h | h | h <;> rw [h] <;> decide
  have e := sk_Rcl h0
  rw [hR] at e i3 i4 i6 i9
  have e : sk_R c (p + 1) = t := e
  have hin : sk_in c (p + 1) = 1 := by rw [sk_inS O.1.2.2 n27]; exact hi
  have HH := (sk_HIa i5).1
  rw [hR] at HH
  have kp : k < p := HH.2.2.2.1
  rw [List.length_cons] at i4
  refine ⟨by rw [sk_inS O.1.2.2 n27]; exact i1, by rw [sk_vsin n28]; exact i2, by rw [e], by rw [e]; omega, TT, by rw [e]; exact i6.2, sk_Nin O.1.2.2 n28 i7, by rw [sk_vsin n28]; exact i8, ?_, ?_⟩
  · rw [e]
    intro q hq hx
    by_cases qp : q = p
    · subst qp
      refine ⟨fun y => ?_, fun _ => ⟨s, k, t, hR, pk_us⟩⟩
      rcases y with y | y | y | y <;> rw [y] at h0 <;> exact absurd h0 (by decide)
    · by_cases qk : q = k
      · subst qk
        exact sk_Jend hT i5 hR (Or.inl h0) hin (by rw [pk_un qp]; exact pk_us) (Or.inl e)
      · refine sk_Jc (by rw [pk_un qp, pk_un qk]) (i9 q (by omega) (fun x h => ?_))
        rcases List.mem_cons.mp h with h | h
        · subst h; exact fun y => qk y.symm
        · exact hx x h
  · refine sk_lts (fun q hq => sk_Cc (pk_un (by omega)) (i10 q hq)) ⟨fun y => ?_, fun _ => ⟨s, k, t, hR, pk_us⟩, fun y => ?_⟩
    · rw [y] at h0; exact absurd h0 (by decide)
    · rw [y] at h0; exact absurd h0 (by decide)
end
end
