section
variable {xT tr ep ind vc pc xD xE cur tu ca yT yD yE lv yt : Int32} {c a nm nv ps pst psk jm cp stk em ce rp ct cm po yc ye : Nat → Int32}
variable {T : Nat}
theorem sr_loop (h80 : T ≤ 80) (G : sk_G T c a nm nv (nI (sk_vs c T)) jm cp) : ∀ (m s D E p t l : Nat) (stk em ce rp ct cm po yc ye : Nat → Int32), sk_K T c D E p t l rp ct cm po yc ye → sk_M po l t < m → s + m ≤ 20000 →
    ∃ (r : Int32) (u' : SX) (v' : SY), sk_Rel u' v'
    ∧ (∀ post : Int32 → SX → Prop, post r u' → wX_run_56 post (m + 1) 0 (nI s) (nI T) 1 ep ind (nI (sk_vs c T)) pc (nI D) (nI E) (nI p) (nI t) (nI (l + 1)) c a nm nv ps pst psk jm cp stk em ce rp ct cm)
    ∧ (∀ post : Int32 → SY → Prop, post r v' → wY_run_71 post m (nI s) (nI T) 1 ep (nI D) (nI E) (nI l) (nI t) c a stk em ce po yc ye)
  | 0, s, D, E, p, t, l, stk, em, ce, rp, ct, cm, po, yc, ye, K, hM, hs => by omega
  | m + 1, s, D, E, p, t, l, stk, em, ce, rp, ct, cm, po, yc, ye, K, hM, hs => by
    have hp := K.2.2.2.2.1.1
    have hl := K.2.2.2.1
    have hpo := K.2.2.2.2.1.2.2.1
    have bX : ∀ k, k ≤ 20001 → ¬ (1000000 : Int32) ≤ nI k := fun k hk => nI_ge (b := 1000000) (by omega) (by omega)
    have bY : ∀ k, k ≤ 20001 → ¬ (128640 : Int32) ≤ nI k := fun k hk => nI_ge (b := 128640) (by omega) (by omega)
    have cl1 : ¬ nI (l + 1) ≤ 0 := nI_nle (by omega) (by omega)
    obtain ⟨e, wX, wY, wF⟩ := ss_all (xT := nI T) (tr := 1) (ep := ep) (ind := ind) (pc := pc) (c := c) (a := a) (nm := nm) (nv := nv) (ps := ps) (pst := pst) (psk := psk) (jm := jm) (cp := cp) (stk := stk) (em := em) (ce := ce) (rp := rp) (ct := ct) (cm := cm) (po := po) (yc := yc) (ye := ye) h80 G K
    have gX : ∀ post : Int32 → SX → Prop, ((e = 0 → wpX_carryOut (fun u => match u with | (xT2, tr2, ep2, ind2, vc2, pc2, xD2, xE2, cur2, tu2, ca2, c2, a2, nm2, nv2, ps2, pst2, psk2, jm2, cp2, stk2, em2, ce2, rp2, ct2, cm2) => ∀ x3 : Int32, x3 = nI s + 1 → wX_run_56 post (m + 1) e x3 xT2 tr2 ep2 ind2 vc2 pc2 xD2 xE2 cur2 tu2 ca2 c2 a2 nm2 nv2 ps2 pst2 psk2 jm2 cp2 stk2 em2 ce2 rp2 ct2 cm2) (nI T, 1, ep, ind, nI (sk_vs c T), pc, nI D, nI E, nI p, nI t, nI (l + 1), c, a, nm, nv, ps, pst, psk, jm, cp, stk, em, ce, rp, ct, cm)) ∧ (¬ e = 0 → ∀ x3 : Int32, x3 = nI s + 1 → wX_run_56 post (m + 1) e x3 (nI T) 1 ep ind (nI (sk_vs c T)) pc (nI D) (nI E) (nI p) (nI t) (nI (l + 1)) c a nm nv ps pst psk jm cp stk em ce rp ct cm)) →
        wX_run_56 post (m + 1 + 1) 0 (nI s) (nI T) 1 ep ind (nI (sk_vs c T)) pc (nI D) (nI E) (nI p) (nI t) (nI (l + 1)) c a nm nv ps pst psk jm cp stk em ce rp ct cm := by
      intro post h
      refine br_f (bX s (by omega)) (br_f cl1 (br_t rfl ?_))
      refine wX _ ?_
      exact h
    by_cases he : e = 0
    · have F := wF he
      subst he
      rcases F with ⟨D1, E1, p1, t1, l1, stk1, em1, ce1, rp1, ct1, cm1, po1, yc1, ye1, cX, cY, K1, M1⟩ | ⟨cur1, cX, cY⟩
      · obtain ⟨r, u', v', R, hX, hY⟩ := sr_loop h80 G m (s + 1) D1 E1 p1 t1 l1 stk1 em1 ce1 rp1 ct1 cm1 po1 yc1 ye1 K1 (by omega) (by omega)
        refine ⟨r, u', v', R, fun post h => gX post (br_t rfl ?_), fun post h => ?_⟩
        · refine cX _ ?_
          exact nm_r (nI_1 s) (hX post h)
        · refine br_f (bY s (by omega)) (br_f (nI_pos (by omega)) ⟨vp_in_nI (n := l) (by omega) (by decide), ?_⟩)
          rw [nI_clamp (n := l) (by omega), hpo]
          refine nm_e ?_
          refine wY _ ?_
          refine br_t rfl ?_
          refine cY _ ?_
          exact nm_r (nI_1 s) (hY post h)
      · have m1 : ∃ m', m = m' + 1 := by
          have : 1 ≤ sk_M po l t := by
            unfold sk_M
            rw [sk_sm, hpo, nI_clamp (n := p) (by omega)]
            omega
          exact ⟨m - 1, by omega⟩
        obtain ⟨m', rfl⟩ := m1
        refine ⟨0, _, _, ⟨T, D, E, 1, ep, ind, nI (sk_vs c T), pc, cur1, nI t, nI 0, nI 0 - 1, nI t, c, a, nm, nv, ps, pst, psk, jm, cp, stk, em, ce, rp, ct, cm, po, yc, ye, h80, K.1, K.2.1, rfl, rfl, Or.inr ⟨rfl, G⟩⟩, fun post h => gX post (br_t rfl ?_), fun post h => ?_⟩
        · refine cX _ ?_
          refine nm_r (nI_1 s) ?_
          exact br_f (bX (s + 1) (by omega)) (br_t (by decide) h)
        · refine br_f (bY s (by omega)) (br_f (nI_pos (by omega)) ⟨vp_in_nI (n := l) (by omega) (by decide), ?_⟩)
          rw [nI_clamp (n := l) (by omega), hpo]
          refine nm_e ?_
          refine wY _ ?_
          refine br_t rfl ?_
          refine cY _ ?_
          refine nm_r (nI_1 s) ?_
          exact br_f (bY (s + 1) (by omega)) (br_t (by decide) h)
    · refine ⟨e, _, _, ⟨T, D, E, 1, ep, ind, nI (sk_vs c T), pc, nI p, nI t, nI (l + 1), nI l, nI t, c, a, nm, nv, ps, pst, psk, jm, cp, stk, em, ce, rp, ct, cm, po, yc, ye, h80, K.1, K.2.1, rfl, rfl, Or.inr ⟨rfl, G⟩⟩, fun post h => gX post (br_f he ?_), fun post h => ?_⟩
      · refine nm_r (nI_1 s) ?_
        exact br_f (bX (s + 1) (by omega)) (br_f cl1 (br_f he h))
      · refine br_f (bY s (by omega)) (br_f (nI_pos (by omega)) ⟨vp_in_nI (n := l) (by omega) (by decide), ?_⟩)
        rw [nI_clamp (n := l) (by omega), hpo]
        refine nm_e ?_
        refine wY _ ?_
        exact br_f he h
theorem sr_run {D E : Nat} {v1 : Int32} (h80 : T ≤ 80) (hD : D ≤ 16) (hE : E ≤ 16) (G : sk_G T c a nm nv vc jm cp) : ∃ (r : Int32) (u' : SX) (v' : SY), sk_Rel u' v'
    ∧ (∀ post : Int32 → SX → Prop, post r u' → wpX_run post (nI T, 1, ep, ind, vc, pc, nI D, nI E, cur, tu, ca, c, a, nm, nv, ps, pst, psk, jm, cp, stk, em, ce, rp, ct, cm) v1)
    ∧ (∀ post : Int32 → SY → Prop, post r v' → wpY_run post (nI T, 1, ep, nI D, nI E, lv, yt, c, a, stk, em, ce, po, yc, ye) v1) := by
  have R0 : sk_Rel (nI T, 1, ep, ind, vc, pc, nI D, nI E, cur, tu, ca, c, a, nm, nv, ps, pst, psk, jm, cp, stk, em, ce, rp, ct, cm) (nI T, 1, ep, nI D, nI E, lv, yt, c, a, stk, em, ce, po, yc, ye) := ⟨T, D, E, 1, ep, ind, vc, pc, cur, tu, ca, lv, yt, c, a, nm, nv, ps, pst, psk, jm, cp, stk, em, ce, rp, ct, cm, po, yc, ye, h80, hD, hE, rfl, rfl, Or.inr ⟨rfl, G⟩⟩
  by_cases hn : sk_nm v1
  · obtain ⟨n, hn12, rfl⟩ := sk_nmI hn
    have Vn : ∀ {N : Nat}, N = 12 → vp_in (nI n) N := fun e => by rw [e]; exact vp_in_nI (n := n) (by omega) (by decide)
    rcases G.2.2.2.2.1 n hn12 with ⟨z1, z2⟩ | ⟨q, hq, z2, z3, z4⟩
    · refine ⟨-1, _, _, R0, fun post h => ?_, fun post h => ?_⟩
      · refine br_f (by decide) ?_
        refine sx_nmT hn ?_
        refine br_f (by decide) ⟨Vn rfl, ?_⟩
        rw [nI_clamp (n := n) (by omega), z1]
        exact br_f (by decide) h
      · refine br_f (by decide) ?_
        refine sy_nmT hn ?_
        refine br_f (by decide) ?_
        refine sy_dfN h80 z2 ?_
        exact br_t (by decide) h
    · rcases z4 with ⟨h26, m1, m2⟩ | ⟨h28, m1, m2⟩
      · have ev := G.2.2.1
        subst ev
        have i26 := sk_in26 h26
        have q1 := sk_lt G (p := q + 1) (by omega) i26
        have K : sk_K T c D 0 (q + 1) 0 0 rp ct cm (upd po 0 (nI (q + 1))) yc ye := by
          refine ⟨hD, by omega, by omega, by omega, ⟨q1, i26, pk_us, ?_⟩, fun j hj => by omega⟩
          intro x hx
          rw [sk_R26 h26] at hx
          cases hx
        have M : sk_M (upd po 0 (nI (q + 1))) 0 0 < 16100 := by
          unfold sk_M
          rw [sk_sm, sk_sm]
          omega
        obtain ⟨r, u', v', R, hX, hY⟩ := sr_loop (ep := ep) (ind := ind) (pc := pc) (c := c) (a := a) (nm := nm) (nv := nv) (ps := ps) (pst := pst) (psk := psk) (jm := jm) (cp := cp) h80 G 16100 0 D 0 (q + 1) 0 0 stk em ce rp ct cm (upd po 0 (nI (q + 1))) yc ye K M (by omega)
        refine ⟨r, u', v', R, fun post h => ?_, fun post h => ?_⟩
        · refine br_f (by decide) ?_
          refine sx_nmT hn ?_
          refine br_f (by decide) ⟨Vn rfl, ?_⟩
          rw [nI_clamp (n := n) (by omega), m2]
          exact br_t m1 ⟨Vn rfl, nm_e ⟨16101, hX post h⟩⟩
        · refine br_f (by decide) ?_
          refine sy_nmT hn ?_
          refine br_f (by decide) ?_
          refine sy_dfS h80 hq z2 z3 ?_
          refine br_f (nI_pos (by omega)) ⟨vp_in_nI (n := q) (by omega) (by decide), ?_⟩
          rw [nI_clamp (n := q) (by omega), nI_1]
          exact br_t h26 (nm_e ⟨16100, hY post h⟩)
      · refine ⟨-1, _, _, R0, fun post h => ?_, fun post h => ?_⟩
        · refine br_f (by decide) ?_
          refine sx_nmT hn ?_
          refine br_f (by decide) ⟨Vn rfl, ?_⟩
          rw [nI_clamp (n := n) (by omega), m1]
          exact br_f (by decide) h
        · refine br_f (by decide) ?_
          refine sy_nmT hn ?_
          refine br_f (by decide) ?_
          refine sy_dfS h80 hq z2 z3 ?_
          refine br_f (nI_pos (by omega)) ⟨vp_in_nI (n := q) (by omega) (by decide), ?_⟩
          rw [nI_clamp (n := q) (by omega), h28]
          exact br_f (by decide) h
  · refine ⟨-1, _, _, R0, fun post h => ?_, fun post h => ?_⟩
    · refine br_f (by decide) ?_
      refine sx_nmF hn ?_
      exact br_t rfl h
    · refine br_f (by decide) ?_
      refine sy_nmF hn ?_
      exact br_t rfl (br_t (by decide) h)
theorem sk_cvz (f : Nat → Int32) : ∀ n, n ≤ 12 → sk_cv (sk_z f 12) n = 0
  | 0, _ => rfl
  | n + 1, h => by rw [sk_cv, sk_z0 f 12 (by omega), if_neg (by decide)]; exact sk_cvz f n (by omega)
theorem sr_tr {D E : Nat} {ytr : Int32} (h80 : T ≤ 80) (hD : D ≤ 16) (hE : E ≤ 16) : ∃ (r : Int32) (u' : SX) (v' : SY), sk_Rel u' v'
    ∧ (∀ post : Int32 → SX → Prop, post r u' → wpX_translate post (nI T, tr, ep, ind, vc, pc, nI D, nI E, cur, tu, ca, c, a, nm, nv, ps, pst, psk, jm, cp, stk, em, ce, rp, ct, cm) )
    ∧ (∀ post : Int32 → SY → Prop, post r v' → wpY_translate post (nI T, ytr, ep, nI D, nI E, lv, yt, c, a, stk, em, ce, po, yc, ye)) := by
  have I : sk_I T 0 c a 0 0 0 (sk_z nm 12) nv ps pst psk jm cp := by
    refine ⟨rfl, nI_0.symm, nI_0.symm, Nat.zero_le _, fun q hq => by omega, trivial, ?_, (sk_cvz nm 12 (Nat.le_refl _)).symm, fun q hq => by omega, fun q hq => by omega⟩
    intro n hn
    exact Or.inl ⟨sk_z0 nm 12 hn, fun q hq => by omega⟩
  obtain ⟨r, u', v', R, hX, hY⟩ := st_loop (ep := ep) (lv := lv) (yt := yt) (c := c) (a := a) (stk := stk) (em := em) (ce := ce) (po := po) (yc := yc) (ye := ye) (cur := cur) (tu := tu) (ca := ca) (rp := rp) (ct := ct) (cm := cm) (ytr := ytr) h80 hD hE (T + 1) 0 0 0 0 (sk_z nm 12) nv ps pst psk jm cp (by omega) (by omega) I
  refine ⟨r, u', v', R, fun post h => ?_, fun post h => ⟨T + 1, ?_⟩⟩
  · unfold wpX_translate
    refine sx_start ?_
    refine ⟨T + 1 + 1, ?_⟩
    have := hX post h
    rw [nI_0] at this
    exact this
  · have := hY post h
    rw [nI_0] at this
    exact this
end
