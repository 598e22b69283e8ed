section
variable {xT tr ep ind vc pc xD xE cur tu ca yT yD yE lv yt : Int32} {c a nm nv ps pst psk jm cp stk em ce rp ct cm po yc ye : Nat → Int32}
variable {T D E p t l : Nat}
theorem ss_0 (h80 : T ≤ 80) (G : sk_G T c a nm nv (nI (sk_vs c T)) jm cp) (K : sk_K T c D E p t l rp ct cm po yc ye) (hc : c p = 0) : ∃ e : Int32, (∀ post : Int32 → Prop, post e → wpX_whyStop post (xT, tr, ep, ind, nI (sk_vs c T), pc, nI D, nI E, nI p, nI t, nI (l + 1), c, a, nm, nv, ps, pst, psk, jm, cp, stk, em, ce, rp, ct, cm)) ∧ (∀ post : Int32 → Prop, post e → wpY_obstacle post (nI T, tr, ep, nI D, nI E, nI l, nI t, c, a, stk, em, ce, po, yc, ye) (nI p)) ∧ (e = 0 →
    (∃ (D1 E1 p1 t1 l1 : Nat) (stk1 em1 ce1 rp1 ct1 cm1 po1 yc1 ye1 : Nat → Int32), (∀ post : SX → Prop, post (xT, tr, ep, ind, nI (sk_vs c T), pc, nI D1, nI E1, nI p1, nI t1, nI (l1 + 1), c, a, nm, nv, ps, pst, psk, jm, cp, stk1, em1, ce1, rp1, ct1, cm1) → wpX_carryOut post (xT, tr, ep, ind, nI (sk_vs c T), pc, nI D, nI E, nI p, nI t, nI (l + 1), c, a, nm, nv, ps, pst, psk, jm, cp, stk, em, ce, rp, ct, cm)) ∧ (∀ post : SY → Prop, post (nI T, tr, ep, nI D1, nI E1, nI l1, nI t1, c, a, stk1, em1, ce1, po1, yc1, ye1) → wpY_carryOut post (nI T, tr, ep, nI D, nI E, nI l, nI t, c, a, stk, em, ce, po, yc, ye) (nI p)) ∧ sk_K T c D1 E1 p1 t1 l1 rp1 ct1 cm1 po1 yc1 ye1 ∧ sk_M po1 l1 t1 < sk_M po l t)
    ∨ (∃ cur1 : Int32, (∀ post : SX → Prop, post (xT, tr, ep, ind, nI (sk_vs c T), pc, nI D, nI E, cur1, nI t, nI 0, c, a, nm, nv, ps, pst, psk, jm, cp, stk, em, ce, rp, ct, cm) → wpX_carryOut post (xT, tr, ep, ind, nI (sk_vs c T), pc, nI D, nI E, nI p, nI t, nI (l + 1), c, a, nm, nv, ps, pst, psk, jm, cp, stk, em, ce, rp, ct, cm)) ∧ (∀ post : SY → Prop, post (nI T, tr, ep, nI D, nI E, nI 0 - 1, nI t, c, a, stk, em, ce, po, yc, ye) → wpY_carryOut post (nI T, tr, ep, nI D, nI E, nI l, nI t, c, a, stk, em, ce, po, yc, ye) (nI p)))) := by
  have hp := K.2.2.2.2.1.1
  have hl := K.2.2.2.1
  have hi := K.2.2.2.2.1.2.1
  have O := (G.1 p hp).2 hi
  obtain ⟨e, wX, wY, wF⟩ := sw_0 (xT := xT) (tr := tr) (ep := ep) (ind := ind) (pc := pc) (a := a) (nm := nm) (nv := nv) (ps := ps) (pst := pst) (psk := psk) (jm := jm) (cp := cp) (stk := stk) (em := em) (ce := ce) (rp := rp) (ct := ct) (cm := cm) (po := po) (yc := yc) (ye := ye) h80 hp K.1 K.2.1 K.2.2.1 hl G.2.2.2.1 hc
  refine ⟨e, wX, wY, fun he => ?_⟩
  obtain ⟨F1, F2⟩ := wF he
  clear wX wY wF
  have hD := K.1
  have hE := K.2.1
  exact Or.inl ⟨D + 1, E, p + 1, t, l, _, _, _, _, _, _, _, _, _, fun post h => xc_0 (by omega) hc (by omega) h, fun post h => yc_0 (by omega) (by omega) hc (by omega) h, sk_Kn h80 G K (by omega) (by omega) rfl (by rw [hc]; decide) (sk_Sp (sk_Rpl (by rw [hc]; decide) (by rw [hc]; decide) (by rw [hc]; decide) (by rw [hc]; decide)))⟩
theorem ss_1 (h80 : T ≤ 80) (G : sk_G T c a nm nv (nI (sk_vs c T)) jm cp) (K : sk_K T c D E p t l rp ct cm po yc ye) (hc : c p = 1) : ∃ e : Int32, (∀ post : Int32 → Prop, post e → wpX_whyStop post (xT, tr, ep, ind, nI (sk_vs c T), pc, nI D, nI E, nI p, nI t, nI (l + 1), c, a, nm, nv, ps, pst, psk, jm, cp, stk, em, ce, rp, ct, cm)) ∧ (∀ post : Int32 → Prop, post e → wpY_obstacle post (nI T, tr, ep, nI D, nI E, nI l, nI t, c, a, stk, em, ce, po, yc, ye) (nI p)) ∧ (e = 0 →
    (∃ (D1 E1 p1 t1 l1 : Nat) (stk1 em1 ce1 rp1 ct1 cm1 po1 yc1 ye1 : Nat → Int32), (∀ post : SX → Prop, post (xT, tr, ep, ind, nI (sk_vs c T), pc, nI D1, nI E1, nI p1, nI t1, nI (l1 + 1), c, a, nm, nv, ps, pst, psk, jm, cp, stk1, em1, ce1, rp1, ct1, cm1) → wpX_carryOut post (xT, tr, ep, ind, nI (sk_vs c T), pc, nI D, nI E, nI p, nI t, nI (l + 1), c, a, nm, nv, ps, pst, psk, jm, cp, stk, em, ce, rp, ct, cm)) ∧ (∀ post : SY → Prop, post (nI T, tr, ep, nI D1, nI E1, nI l1, nI t1, c, a, stk1, em1, ce1, po1, yc1, ye1) → wpY_carryOut post (nI T, tr, ep, nI D, nI E, nI l, nI t, c, a, stk, em, ce, po, yc, ye) (nI p)) ∧ sk_K T c D1 E1 p1 t1 l1 rp1 ct1 cm1 po1 yc1 ye1 ∧ sk_M po1 l1 t1 < sk_M po l t)
    ∨ (∃ cur1 : Int32, (∀ post : SX → Prop, post (xT, tr, ep, ind, nI (sk_vs c T), pc, nI D, nI E, cur1, nI t, nI 0, c, a, nm, nv, ps, pst, psk, jm, cp, stk, em, ce, rp, ct, cm) → wpX_carryOut post (xT, tr, ep, ind, nI (sk_vs c T), pc, nI D, nI E, nI p, nI t, nI (l + 1), c, a, nm, nv, ps, pst, psk, jm, cp, stk, em, ce, rp, ct, cm)) ∧ (∀ post : SY → Prop, post (nI T, tr, ep, nI D, nI E, nI 0 - 1, nI t, c, a, stk, em, ce, po, yc, ye) → wpY_carryOut post (nI T, tr, ep, nI D, nI E, nI l, nI t, c, a, stk, em, ce, po, yc, ye) (nI p)))) := by
  have hp := K.2.2.2.2.1.1
  have hl := K.2.2.2.1
  have hi := K.2.2.2.2.1.2.1
  have O := (G.1 p hp).2 hi
  obtain ⟨e, wX, wY, wF⟩ := sw_1 (xT := xT) (tr := tr) (ep := ep) (ind := ind) (pc := pc) (a := a) (nm := nm) (nv := nv) (ps := ps) (pst := pst) (psk := psk) (jm := jm) (cp := cp) (stk := stk) (em := em) (ce := ce) (rp := rp) (ct := ct) (cm := cm) (po := po) (yc := yc) (ye := ye) h80 hp K.1 K.2.1 K.2.2.1 hl G.2.2.2.1 hc
  refine ⟨e, wX, wY, fun he => ?_⟩
  obtain ⟨F1, F2⟩ := wF he
  clear wX wY wF
  obtain ⟨d, rfl⟩ : ∃ d, D = d + 2 := ⟨D - 2, by omega⟩
  have hD := K.1
  have hE := K.2.1
  exact Or.inl ⟨d + 1, E, p + 1, t, l, _, _, _, _, _, _, _, _, _, fun post h => xc_1 (by omega) hc (by omega) h, fun post h => yc_1 (by omega) (by omega) hc (by omega) h, sk_Kn h80 G K (by omega) (by omega) rfl (by rw [hc]; decide) (sk_Sp (sk_Rpl (by rw [hc]; decide) (by rw [hc]; decide) (by rw [hc]; decide) (by rw [hc]; decide)))⟩
theorem ss_2 (h80 : T ≤ 80) (G : sk_G T c a nm nv (nI (sk_vs c T)) jm cp) (K : sk_K T c D E p t l rp ct cm po yc ye) (hc : c p = 2) : ∃ e : Int32, (∀ post : Int32 → Prop, post e → wpX_whyStop post (xT, tr, ep, ind, nI (sk_vs c T), pc, nI D, nI E, nI p, nI t, nI (l + 1), c, a, nm, nv, ps, pst, psk, jm, cp, stk, em, ce, rp, ct, cm)) ∧ (∀ post : Int32 → Prop, post e → wpY_obstacle post (nI T, tr, ep, nI D, nI E, nI l, nI t, c, a, stk, em, ce, po, yc, ye) (nI p)) ∧ (e = 0 →
    (∃ (D1 E1 p1 t1 l1 : Nat) (stk1 em1 ce1 rp1 ct1 cm1 po1 yc1 ye1 : Nat → Int32), (∀ post : SX → Prop, post (xT, tr, ep, ind, nI (sk_vs c T), pc, nI D1, nI E1, nI p1, nI t1, nI (l1 + 1), c, a, nm, nv, ps, pst, psk, jm, cp, stk1, em1, ce1, rp1, ct1, cm1) → wpX_carryOut post (xT, tr, ep, ind, nI (sk_vs c T), pc, nI D, nI E, nI p, nI t, nI (l + 1), c, a, nm, nv, ps, pst, psk, jm, cp, stk, em, ce, rp, ct, cm)) ∧ (∀ post : SY → Prop, post (nI T, tr, ep, nI D1, nI E1, nI l1, nI t1, c, a, stk1, em1, ce1, po1, yc1, ye1) → wpY_carryOut post (nI T, tr, ep, nI D, nI E, nI l, nI t, c, a, stk, em, ce, po, yc, ye) (nI p)) ∧ sk_K T c D1 E1 p1 t1 l1 rp1 ct1 cm1 po1 yc1 ye1 ∧ sk_M po1 l1 t1 < sk_M po l t)
    ∨ (∃ cur1 : Int32, (∀ post : SX → Prop, post (xT, tr, ep, ind, nI (sk_vs c T), pc, nI D, nI E, cur1, nI t, nI 0, c, a, nm, nv, ps, pst, psk, jm, cp, stk, em, ce, rp, ct, cm) → wpX_carryOut post (xT, tr, ep, ind, nI (sk_vs c T), pc, nI D, nI E, nI p, nI t, nI (l + 1), c, a, nm, nv, ps, pst, psk, jm, cp, stk, em, ce, rp, ct, cm)) ∧ (∀ post : SY → Prop, post (nI T, tr, ep, nI D, nI E, nI 0 - 1, nI t, c, a, stk, em, ce, po, yc, ye) → wpY_carryOut post (nI T, tr, ep, nI D, nI E, nI l, nI t, c, a, stk, em, ce, po, yc, ye) (nI p)))) := by
  have hp := K.2.2.2.2.1.1
  have hl := K.2.2.2.1
  have hi := K.2.2.2.2.1.2.1
  have O := (G.1 p hp).2 hi
  obtain ⟨e, wX, wY, wF⟩ := sw_2 (xT := xT) (tr := tr) (ep := ep) (ind := ind) (pc := pc) (a := a) (nm := nm) (nv := nv) (ps := ps) (pst := pst) (psk := psk) (jm := jm) (cp := cp) (stk := stk) (em := em) (ce := ce) (rp := rp) (ct := ct) (cm := cm) (po := po) (yc := yc) (ye := ye) h80 hp K.1 K.2.1 K.2.2.1 hl G.2.2.2.1 hc
  refine ⟨e, wX, wY, fun he => ?_⟩
  obtain ⟨F1, F2⟩ := wF he
  clear wX wY wF
  obtain ⟨d, rfl⟩ : ∃ d, D = d + 2 := ⟨D - 2, by omega⟩
  have hD := K.1
  have hE := K.2.1
  exact Or.inl ⟨d + 1, E, p + 1, t, l, _, _, _, _, _, _, _, _, _, fun post h => xc_2 (by omega) hc (by omega) h, fun post h => yc_2 (by omega) (by omega) hc (by omega) h, sk_Kn h80 G K (by omega) (by omega) rfl (by rw [hc]; decide) (sk_Sp (sk_Rpl (by rw [hc]; decide) (by rw [hc]; decide) (by rw [hc]; decide) (by rw [hc]; decide)))⟩
theorem ss_3 (h80 : T ≤ 80) (G : sk_G T c a nm nv (nI (sk_vs c T)) jm cp) (K : sk_K T c D E p t l rp ct cm po yc ye) (hc : c p = 3) : ∃ e : Int32, (∀ post : Int32 → Prop, post e → wpX_whyStop post (xT, tr, ep, ind, nI (sk_vs c T), pc, nI D, nI E, nI p, nI t, nI (l + 1), c, a, nm, nv, ps, pst, psk, jm, cp, stk, em, ce, rp, ct, cm)) ∧ (∀ post : Int32 → Prop, post e → wpY_obstacle post (nI T, tr, ep, nI D, nI E, nI l, nI t, c, a, stk, em, ce, po, yc, ye) (nI p)) ∧ (e = 0 →
    (∃ (D1 E1 p1 t1 l1 : Nat) (stk1 em1 ce1 rp1 ct1 cm1 po1 yc1 ye1 : Nat → Int32), (∀ post : SX → Prop, post (xT, tr, ep, ind, nI (sk_vs c T), pc, nI D1, nI E1, nI p1, nI t1, nI (l1 + 1), c, a, nm, nv, ps, pst, psk, jm, cp, stk1, em1, ce1, rp1, ct1, cm1) → wpX_carryOut post (xT, tr, ep, ind, nI (sk_vs c T), pc, nI D, nI E, nI p, nI t, nI (l + 1), c, a, nm, nv, ps, pst, psk, jm, cp, stk, em, ce, rp, ct, cm)) ∧ (∀ post : SY → Prop, post (nI T, tr, ep, nI D1, nI E1, nI l1, nI t1, c, a, stk1, em1, ce1, po1, yc1, ye1) → wpY_carryOut post (nI T, tr, ep, nI D, nI E, nI l, nI t, c, a, stk, em, ce, po, yc, ye) (nI p)) ∧ sk_K T c D1 E1 p1 t1 l1 rp1 ct1 cm1 po1 yc1 ye1 ∧ sk_M po1 l1 t1 < sk_M po l t)
    ∨ (∃ cur1 : Int32, (∀ post : SX → Prop, post (xT, tr, ep, ind, nI (sk_vs c T), pc, nI D, nI E, cur1, nI t, nI 0, c, a, nm, nv, ps, pst, psk, jm, cp, stk, em, ce, rp, ct, cm) → wpX_carryOut post (xT, tr, ep, ind, nI (sk_vs c T), pc, nI D, nI E, nI p, nI t, nI (l + 1), c, a, nm, nv, ps, pst, psk, jm, cp, stk, em, ce, rp, ct, cm)) ∧ (∀ post : SY → Prop, post (nI T, tr, ep, nI D, nI E, nI 0 - 1, nI t, c, a, stk, em, ce, po, yc, ye) → wpY_carryOut post (nI T, tr, ep, nI D, nI E, nI l, nI t, c, a, stk, em, ce, po, yc, ye) (nI p)))) := by
  have hp := K.2.2.2.2.1.1
  have hl := K.2.2.2.1
  have hi := K.2.2.2.2.1.2.1
  have O := (G.1 p hp).2 hi
  obtain ⟨e, wX, wY, wF⟩ := sw_3 (xT := xT) (tr := tr) (ep := ep) (ind := ind) (pc := pc) (a := a) (nm := nm) (nv := nv) (ps := ps) (pst := pst) (psk := psk) (jm := jm) (cp := cp) (stk := stk) (em := em) (ce := ce) (rp := rp) (ct := ct) (cm := cm) (po := po) (yc := yc) (ye := ye) h80 hp K.1 K.2.1 K.2.2.1 hl G.2.2.2.1 hc
  refine ⟨e, wX, wY, fun he => ?_⟩
  obtain ⟨F1, F2⟩ := wF he
  clear wX wY wF
  obtain ⟨d, rfl⟩ : ∃ d, D = d + 2 := ⟨D - 2, by omega⟩
  have hD := K.1
  have hE := K.2.1
  exact Or.inl ⟨d + 1, E, p + 1, t, l, _, _, _, _, _, _, _, _, _, fun post h => xc_3 (by omega) hc (by omega) h, fun post h => yc_3 (by omega) (by omega) hc (by omega) h, sk_Kn h80 G K (by omega) (by omega) rfl (by rw [hc]; decide) (sk_Sp (sk_Rpl (by rw [hc]; decide) (by rw [hc]; decide) (by rw [hc]; decide) (by rw [hc]; decide)))⟩
theorem ss_10 (h80 : T ≤ 80) (G : sk_G T c a nm nv (nI (sk_vs c T)) jm cp) (K : sk_K T c D E p t l rp ct cm po yc ye) (hc : c p = 10) : ∃ e : Int32, (∀ post : Int32 → Prop, post e → wpX_whyStop post (xT, tr, ep, ind, nI (sk_vs c T), pc, nI D, nI E, nI p, nI t, nI (l + 1), c, a, nm, nv, ps, pst, psk, jm, cp, stk, em, ce, rp, ct, cm)) ∧ (∀ post : Int32 → Prop, post e → wpY_obstacle post (nI T, tr, ep, nI D, nI E, nI l, nI t, c, a, stk, em, ce, po, yc, ye) (nI p)) ∧ (e = 0 →
    (∃ (D1 E1 p1 t1 l1 : Nat) (stk1 em1 ce1 rp1 ct1 cm1 po1 yc1 ye1 : Nat → Int32), (∀ post : SX → Prop, post (xT, tr, ep, ind, nI (sk_vs c T), pc, nI D1, nI E1, nI p1, nI t1, nI (l1 + 1), c, a, nm, nv, ps, pst, psk, jm, cp, stk1, em1, ce1, rp1, ct1, cm1) → wpX_carryOut post (xT, tr, ep, ind, nI (sk_vs c T), pc, nI D, nI E, nI p, nI t, nI (l + 1), c, a, nm, nv, ps, pst, psk, jm, cp, stk, em, ce, rp, ct, cm)) ∧ (∀ post : SY → Prop, post (nI T, tr, ep, nI D1, nI E1, nI l1, nI t1, c, a, stk1, em1, ce1, po1, yc1, ye1) → wpY_carryOut post (nI T, tr, ep, nI D, nI E, nI l, nI t, c, a, stk, em, ce, po, yc, ye) (nI p)) ∧ sk_K T c D1 E1 p1 t1 l1 rp1 ct1 cm1 po1 yc1 ye1 ∧ sk_M po1 l1 t1 < sk_M po l t)
    ∨ (∃ cur1 : Int32, (∀ post : SX → Prop, post (xT, tr, ep, ind, nI (sk_vs c T), pc, nI D, nI E, cur1, nI t, nI 0, c, a, nm, nv, ps, pst, psk, jm, cp, stk, em, ce, rp, ct, cm) → wpX_carryOut post (xT, tr, ep, ind, nI (sk_vs c T), pc, nI D, nI E, nI p, nI t, nI (l + 1), c, a, nm, nv, ps, pst, psk, jm, cp, stk, em, ce, rp, ct, cm)) ∧ (∀ post : SY → Prop, post (nI T, tr, ep, nI D, nI E, nI 0 - 1, nI t, c, a, stk, em, ce, po, yc, ye) → wpY_carryOut post (nI T, tr, ep, nI D, nI E, nI l, nI t, c, a, stk, em, ce, po, yc, ye) (nI p)))) := by
  have hp := K.2.2.2.2.1.1
  have hl := K.2.2.2.1
  have hi := K.2.2.2.2.1.2.1
  have O := (G.1 p hp).2 hi
  obtain ⟨e, wX, wY, wF⟩ := sw_10 (xT := xT) (tr := tr) (ep := ep) (ind := ind) (pc := pc) (a := a) (nm := nm) (nv := nv) (ps := ps) (pst := pst) (psk := psk) (jm := jm) (cp := cp) (stk := stk) (em := em) (ce := ce) (rp := rp) (ct := ct) (cm := cm) (po := po) (yc := yc) (ye := ye) h80 hp K.1 K.2.1 K.2.2.1 hl G.2.2.2.1 hc
  refine ⟨e, wX, wY, fun he => ?_⟩
  obtain ⟨F1, F2⟩ := wF he
  clear wX wY wF
  obtain ⟨d, rfl⟩ : ∃ d, D = d + 2 := ⟨D - 2, by omega⟩
  have hD := K.1
  have hE := K.2.1
  exact Or.inl ⟨d + 1, E, p + 1, t, l, _, _, _, _, _, _, _, _, _, fun post h => xc_10 (by omega) hc (by omega) h, fun post h => yc_10 (by omega) (by omega) hc (by omega) h, sk_Kn h80 G K (by omega) (by omega) rfl (by rw [hc]; decide) (sk_Sp (sk_Rpl (by rw [hc]; decide) (by rw [hc]; decide) (by rw [hc]; decide) (by rw [hc]; decide)))⟩
theorem ss_11 (h80 : T ≤ 80) (G : sk_G T c a nm nv (nI (sk_vs c T)) jm cp) (K : sk_K T c D E p t l rp ct cm po yc ye) (hc : c p = 11) : ∃ e : Int32, (∀ post : Int32 → Prop, post e → wpX_whyStop post (xT, tr, ep, ind, nI (sk_vs c T), pc, nI D, nI E, nI p, nI t, nI (l + 1), c, a, nm, nv, ps, pst, psk, jm, cp, stk, em, ce, rp, ct, cm)) ∧ (∀ post : Int32 → Prop, post e → wpY_obstacle post (nI T, tr, ep, nI D, nI E, nI l, nI t, c, a, stk, em, ce, po, yc, ye) (nI p)) ∧ (e = 0 →
    (∃ (D1 E1 p1 t1 l1 : Nat) (stk1 em1 ce1 rp1 ct1 cm1 po1 yc1 ye1 : Nat → Int32), (∀ post : SX → Prop, post (xT, tr, ep, ind, nI (sk_vs c T), pc, nI D1, nI E1, nI p1, nI t1, nI (l1 + 1), c, a, nm, nv, ps, pst, psk, jm, cp, stk1, em1, ce1, rp1, ct1, cm1) → wpX_carryOut post (xT, tr, ep, ind, nI (sk_vs c T), pc, nI D, nI E, nI p, nI t, nI (l + 1), c, a, nm, nv, ps, pst, psk, jm, cp, stk, em, ce, rp, ct, cm)) ∧ (∀ post : SY → Prop, post (nI T, tr, ep, nI D1, nI E1, nI l1, nI t1, c, a, stk1, em1, ce1, po1, yc1, ye1) → wpY_carryOut post (nI T, tr, ep, nI D, nI E, nI l, nI t, c, a, stk, em, ce, po, yc, ye) (nI p)) ∧ sk_K T c D1 E1 p1 t1 l1 rp1 ct1 cm1 po1 yc1 ye1 ∧ sk_M po1 l1 t1 < sk_M po l t)
    ∨ (∃ cur1 : Int32, (∀ post : SX → Prop, post (xT, tr, ep, ind, nI (sk_vs c T), pc, nI D, nI E, cur1, nI t, nI 0, c, a, nm, nv, ps, pst, psk, jm, cp, stk, em, ce, rp, ct, cm) → wpX_carryOut post (xT, tr, ep, ind, nI (sk_vs c T), pc, nI D, nI E, nI p, nI t, nI (l + 1), c, a, nm, nv, ps, pst, psk, jm, cp, stk, em, ce, rp, ct, cm)) ∧ (∀ post : SY → Prop, post (nI T, tr, ep, nI D, nI E, nI 0 - 1, nI t, c, a, stk, em, ce, po, yc, ye) → wpY_carryOut post (nI T, tr, ep, nI D, nI E, nI l, nI t, c, a, stk, em, ce, po, yc, ye) (nI p)))) := by
  have hp := K.2.2.2.2.1.1
  have hl := K.2.2.2.1
  have hi := K.2.2.2.2.1.2.1
  have O := (G.1 p hp).2 hi
  obtain ⟨e, wX, wY, wF⟩ := sw_11 (xT := xT) (tr := tr) (ep := ep) (ind := ind) (pc := pc) (a := a) (nm := nm) (nv := nv) (ps := ps) (pst := pst) (psk := psk) (jm := jm) (cp := cp) (stk := stk) (em := em) (ce := ce) (rp := rp) (ct := ct) (cm := cm) (po := po) (yc := yc) (ye := ye) h80 hp K.1 K.2.1 K.2.2.1 hl G.2.2.2.1 hc
  refine ⟨e, wX, wY, fun he => ?_⟩
  obtain ⟨F1, F2⟩ := wF he
  clear wX wY wF
  obtain ⟨d, rfl⟩ : ∃ d, D = d + 2 := ⟨D - 2, by omega⟩
  have hD := K.1
  have hE := K.2.1
  exact Or.inl ⟨d + 1, E, p + 1, t, l, _, _, _, _, _, _, _, _, _, fun post h => xc_11 (by omega) hc (by omega) h, fun post h => yc_11 (by omega) (by omega) hc (by omega) h, sk_Kn h80 G K (by omega) (by omega) rfl (by rw [hc]; decide) (sk_Sp (sk_Rpl (by rw [hc]; decide) (by rw [hc]; decide) (by rw [hc]; decide) (by rw [hc]; decide)))⟩
theorem ss_4 (h80 : T ≤ 80) (G : sk_G T c a nm nv (nI (sk_vs c T)) jm cp) (K : sk_K T c D E p t l rp ct cm po yc ye) (hc : c p = 4) : ∃ e : Int32, (∀ post : Int32 → Prop, post e → wpX_whyStop post (xT, tr, ep, ind, nI (sk_vs c T), pc, nI D, nI E, nI p, nI t, nI (l + 1), c, a, nm, nv, ps, pst, psk, jm, cp, stk, em, ce, rp, ct, cm)) ∧ (∀ post : Int32 → Prop, post e → wpY_obstacle post (nI T, tr, ep, nI D, nI E, nI l, nI t, c, a, stk, em, ce, po, yc, ye) (nI p)) ∧ (e = 0 →
    (∃ (D1 E1 p1 t1 l1 : Nat) (stk1 em1 ce1 rp1 ct1 cm1 po1 yc1 ye1 : Nat → Int32), (∀ post : SX → Prop, post (xT, tr, ep, ind, nI (sk_vs c T), pc, nI D1, nI E1, nI p1, nI t1, nI (l1 + 1), c, a, nm, nv, ps, pst, psk, jm, cp, stk1, em1, ce1, rp1, ct1, cm1) → wpX_carryOut post (xT, tr, ep, ind, nI (sk_vs c T), pc, nI D, nI E, nI p, nI t, nI (l + 1), c, a, nm, nv, ps, pst, psk, jm, cp, stk, em, ce, rp, ct, cm)) ∧ (∀ post : SY → Prop, post (nI T, tr, ep, nI D1, nI E1, nI l1, nI t1, c, a, stk1, em1, ce1, po1, yc1, ye1) → wpY_carryOut post (nI T, tr, ep, nI D, nI E, nI l, nI t, c, a, stk, em, ce, po, yc, ye) (nI p)) ∧ sk_K T c D1 E1 p1 t1 l1 rp1 ct1 cm1 po1 yc1 ye1 ∧ sk_M po1 l1 t1 < sk_M po l t)
    ∨ (∃ cur1 : Int32, (∀ post : SX → Prop, post (xT, tr, ep, ind, nI (sk_vs c T), pc, nI D, nI E, cur1, nI t, nI 0, c, a, nm, nv, ps, pst, psk, jm, cp, stk, em, ce, rp, ct, cm) → wpX_carryOut post (xT, tr, ep, ind, nI (sk_vs c T), pc, nI D, nI E, nI p, nI t, nI (l + 1), c, a, nm, nv, ps, pst, psk, jm, cp, stk, em, ce, rp, ct, cm)) ∧ (∀ post : SY → Prop, post (nI T, tr, ep, nI D, nI E, nI 0 - 1, nI t, c, a, stk, em, ce, po, yc, ye) → wpY_carryOut post (nI T, tr, ep, nI D, nI E, nI l, nI t, c, a, stk, em, ce, po, yc, ye) (nI p)))) := by
  have hp := K.2.2.2.2.1.1
  have hl := K.2.2.2.1
  have hi := K.2.2.2.2.1.2.1
  have O := (G.1 p hp).2 hi
  obtain ⟨e, wX, wY, wF⟩ := sw_4 (xT := xT) (tr := tr) (ep := ep) (ind := ind) (pc := pc) (a := a) (nm := nm) (nv := nv) (ps := ps) (pst := pst) (psk := psk) (jm := jm) (cp := cp) (stk := stk) (em := em) (ce := ce) (rp := rp) (ct := ct) (cm := cm) (po := po) (yc := yc) (ye := ye) h80 hp K.1 K.2.1 K.2.2.1 hl G.2.2.2.1 hc
  refine ⟨e, wX, wY, fun he => ?_⟩
  obtain ⟨F1, F2⟩ := wF he
  clear wX wY wF
  obtain ⟨d, rfl⟩ : ∃ d, D = d + 2 := ⟨D - 2, by omega⟩
  have hD := K.1
  have hE := K.2.1
  exact Or.inl ⟨d + 1, E, p + 1, t, l, _, _, _, _, _, _, _, _, _, fun post h => xc_4 (by omega) hc (by omega) (fun y => F2 y) h, fun post h => yc_4 (by omega) (by omega) hc (by omega) (fun y => F2 y) h, sk_Kn h80 G K (by omega) (by omega) rfl (by rw [hc]; decide) (sk_Sp (sk_Rpl (by rw [hc]; decide) (by rw [hc]; decide) (by rw [hc]; decide) (by rw [hc]; decide)))⟩
theorem ss_5 (h80 : T ≤ 80) (G : sk_G T c a nm nv (nI (sk_vs c T)) jm cp) (K : sk_K T c D E p t l rp ct cm po yc ye) (hc : c p = 5) : ∃ e : Int32, (∀ post : Int32 → Prop, post e → wpX_whyStop post (xT, tr, ep, ind, nI (sk_vs c T), pc, nI D, nI E, nI p, nI t, nI (l + 1), c, a, nm, nv, ps, pst, psk, jm, cp, stk, em, ce, rp, ct, cm)) ∧ (∀ post : Int32 → Prop, post e → wpY_obstacle post (nI T, tr, ep, nI D, nI E, nI l, nI t, c, a, stk, em, ce, po, yc, ye) (nI p)) ∧ (e = 0 →
    (∃ (D1 E1 p1 t1 l1 : Nat) (stk1 em1 ce1 rp1 ct1 cm1 po1 yc1 ye1 : Nat → Int32), (∀ post : SX → Prop, post (xT, tr, ep, ind, nI (sk_vs c T), pc, nI D1, nI E1, nI p1, nI t1, nI (l1 + 1), c, a, nm, nv, ps, pst, psk, jm, cp, stk1, em1, ce1, rp1, ct1, cm1) → wpX_carryOut post (xT, tr, ep, ind, nI (sk_vs c T), pc, nI D, nI E, nI p, nI t, nI (l + 1), c, a, nm, nv, ps, pst, psk, jm, cp, stk, em, ce, rp, ct, cm)) ∧ (∀ post : SY → Prop, post (nI T, tr, ep, nI D1, nI E1, nI l1, nI t1, c, a, stk1, em1, ce1, po1, yc1, ye1) → wpY_carryOut post (nI T, tr, ep, nI D, nI E, nI l, nI t, c, a, stk, em, ce, po, yc, ye) (nI p)) ∧ sk_K T c D1 E1 p1 t1 l1 rp1 ct1 cm1 po1 yc1 ye1 ∧ sk_M po1 l1 t1 < sk_M po l t)
    ∨ (∃ cur1 : Int32, (∀ post : SX → Prop, post (xT, tr, ep, ind, nI (sk_vs c T), pc, nI D, nI E, cur1, nI t, nI 0, c, a, nm, nv, ps, pst, psk, jm, cp, stk, em, ce, rp, ct, cm) → wpX_carryOut post (xT, tr, ep, ind, nI (sk_vs c T), pc, nI D, nI E, nI p, nI t, nI (l + 1), c, a, nm, nv, ps, pst, psk, jm, cp, stk, em, ce, rp, ct, cm)) ∧ (∀ post : SY → Prop, post (nI T, tr, ep, nI D, nI E, nI 0 - 1, nI t, c, a, stk, em, ce, po, yc, ye) → wpY_carryOut post (nI T, tr, ep, nI D, nI E, nI l, nI t, c, a, stk, em, ce, po, yc, ye) (nI p)))) := by
  have hp := K.2.2.2.2.1.1
  have hl := K.2.2.2.1
  have hi := K.2.2.2.2.1.2.1
  have O := (G.1 p hp).2 hi
  obtain ⟨e, wX, wY, wF⟩ := sw_5 (xT := xT) (tr := tr) (ep := ep) (ind := ind) (pc := pc) (a := a) (nm := nm) (nv := nv) (ps := ps) (pst := pst) (psk := psk) (jm := jm) (cp := cp) (stk := stk) (em := em) (ce := ce) (rp := rp) (ct := ct) (cm := cm) (po := po) (yc := yc) (ye := ye) h80 hp K.1 K.2.1 K.2.2.1 hl G.2.2.2.1 hc
  refine ⟨e, wX, wY, fun he => ?_⟩
  obtain ⟨F1, F2⟩ := wF he
  clear wX wY wF
  obtain ⟨d, rfl⟩ : ∃ d, D = d + 1 := ⟨D - 1, by omega⟩
  have hD := K.1
  have hE := K.2.1
  exact Or.inl ⟨d + 2, E, p + 1, t, l, _, _, _, _, _, _, _, _, _, fun post h => xc_5 (by omega) hc (by omega) h, fun post h => yc_5 (by omega) (by omega) hc (by omega) h, sk_Kn h80 G K (by omega) (by omega) rfl (by rw [hc]; decide) (sk_Sp (sk_Rpl (by rw [hc]; decide) (by rw [hc]; decide) (by rw [hc]; decide) (by rw [hc]; decide)))⟩
theorem ss_6 (h80 : T ≤ 80) (G : sk_G T c a nm nv (nI (sk_vs c T)) jm cp) (K : sk_K T c D E p t l rp ct cm po yc ye) (hc : c p = 6) : ∃ e : Int32, (∀ post : Int32 → Prop, post e → wpX_whyStop post (xT, tr, ep, ind, nI (sk_vs c T), pc, nI D, nI E, nI p, nI t, nI (l + 1), c, a, nm, nv, ps, pst, psk, jm, cp, stk, em, ce, rp, ct, cm)) ∧ (∀ post : Int32 → Prop, post e → wpY_obstacle post (nI T, tr, ep, nI D, nI E, nI l, nI t, c, a, stk, em, ce, po, yc, ye) (nI p)) ∧ (e = 0 →
    (∃ (D1 E1 p1 t1 l1 : Nat) (stk1 em1 ce1 rp1 ct1 cm1 po1 yc1 ye1 : Nat → Int32), (∀ post : SX → Prop, post (xT, tr, ep, ind, nI (sk_vs c T), pc, nI D1, nI E1, nI p1, nI t1, nI (l1 + 1), c, a, nm, nv, ps, pst, psk, jm, cp, stk1, em1, ce1, rp1, ct1, cm1) → wpX_carryOut post (xT, tr, ep, ind, nI (sk_vs c T), pc, nI D, nI E, nI p, nI t, nI (l + 1), c, a, nm, nv, ps, pst, psk, jm, cp, stk, em, ce, rp, ct, cm)) ∧ (∀ post : SY → Prop, post (nI T, tr, ep, nI D1, nI E1, nI l1, nI t1, c, a, stk1, em1, ce1, po1, yc1, ye1) → wpY_carryOut post (nI T, tr, ep, nI D, nI E, nI l, nI t, c, a, stk, em, ce, po, yc, ye) (nI p)) ∧ sk_K T c D1 E1 p1 t1 l1 rp1 ct1 cm1 po1 yc1 ye1 ∧ sk_M po1 l1 t1 < sk_M po l t)
    ∨ (∃ cur1 : Int32, (∀ post : SX → Prop, post (xT, tr, ep, ind, nI (sk_vs c T), pc, nI D, nI E, cur1, nI t, nI 0, c, a, nm, nv, ps, pst, psk, jm, cp, stk, em, ce, rp, ct, cm) → wpX_carryOut post (xT, tr, ep, ind, nI (sk_vs c T), pc, nI D, nI E, nI p, nI t, nI (l + 1), c, a, nm, nv, ps, pst, psk, jm, cp, stk, em, ce, rp, ct, cm)) ∧ (∀ post : SY → Prop, post (nI T, tr, ep, nI D, nI E, nI 0 - 1, nI t, c, a, stk, em, ce, po, yc, ye) → wpY_carryOut post (nI T, tr, ep, nI D, nI E, nI l, nI t, c, a, stk, em, ce, po, yc, ye) (nI p)))) := by
  have hp := K.2.2.2.2.1.1
  have hl := K.2.2.2.1
  have hi := K.2.2.2.2.1.2.1
  have O := (G.1 p hp).2 hi
  obtain ⟨e, wX, wY, wF⟩ := sw_6 (xT := xT) (tr := tr) (ep := ep) (ind := ind) (pc := pc) (a := a) (nm := nm) (nv := nv) (ps := ps) (pst := pst) (psk := psk) (jm := jm) (cp := cp) (stk := stk) (em := em) (ce := ce) (rp := rp) (ct := ct) (cm := cm) (po := po) (yc := yc) (ye := ye) h80 hp K.1 K.2.1 K.2.2.1 hl G.2.2.2.1 hc
  refine ⟨e, wX, wY, fun he => ?_⟩
  obtain ⟨F1, F2⟩ := wF he
  clear wX wY wF
  obtain ⟨d, rfl⟩ : ∃ d, D = d + 1 := ⟨D - 1, by omega⟩
  have hD := K.1
  have hE := K.2.1
  exact Or.inl ⟨d, E, p + 1, t, l, _, _, _, _, _, _, _, _, _, fun post h => xc_6 (by omega) hc  h, fun post h => yc_6 (by omega) (by omega) hc (by omega) h, sk_Kn h80 G K (by omega) (by omega) rfl (by rw [hc]; decide) (sk_Sp (sk_Rpl (by rw [hc]; decide) (by rw [hc]; decide) (by rw [hc]; decide) (by rw [hc]; decide)))⟩
theorem ss_7 (h80 : T ≤ 80) (G : sk_G T c a nm nv (nI (sk_vs c T)) jm cp) (K : sk_K T c D E p t l rp ct cm po yc ye) (hc : c p = 7) : ∃ e : Int32, (∀ post : Int32 → Prop, post e → wpX_whyStop post (xT, tr, ep, ind, nI (sk_vs c T), pc, nI D, nI E, nI p, nI t, nI (l + 1), c, a, nm, nv, ps, pst, psk, jm, cp, stk, em, ce, rp, ct, cm)) ∧ (∀ post : Int32 → Prop, post e → wpY_obstacle post (nI T, tr, ep, nI D, nI E, nI l, nI t, c, a, stk, em, ce, po, yc, ye) (nI p)) ∧ (e = 0 →
    (∃ (D1 E1 p1 t1 l1 : Nat) (stk1 em1 ce1 rp1 ct1 cm1 po1 yc1 ye1 : Nat → Int32), (∀ post : SX → Prop, post (xT, tr, ep, ind, nI (sk_vs c T), pc, nI D1, nI E1, nI p1, nI t1, nI (l1 + 1), c, a, nm, nv, ps, pst, psk, jm, cp, stk1, em1, ce1, rp1, ct1, cm1) → wpX_carryOut post (xT, tr, ep, ind, nI (sk_vs c T), pc, nI D, nI E, nI p, nI t, nI (l + 1), c, a, nm, nv, ps, pst, psk, jm, cp, stk, em, ce, rp, ct, cm)) ∧ (∀ post : SY → Prop, post (nI T, tr, ep, nI D1, nI E1, nI l1, nI t1, c, a, stk1, em1, ce1, po1, yc1, ye1) → wpY_carryOut post (nI T, tr, ep, nI D, nI E, nI l, nI t, c, a, stk, em, ce, po, yc, ye) (nI p)) ∧ sk_K T c D1 E1 p1 t1 l1 rp1 ct1 cm1 po1 yc1 ye1 ∧ sk_M po1 l1 t1 < sk_M po l t)
    ∨ (∃ cur1 : Int32, (∀ post : SX → Prop, post (xT, tr, ep, ind, nI (sk_vs c T), pc, nI D, nI E, cur1, nI t, nI 0, c, a, nm, nv, ps, pst, psk, jm, cp, stk, em, ce, rp, ct, cm) → wpX_carryOut post (xT, tr, ep, ind, nI (sk_vs c T), pc, nI D, nI E, nI p, nI t, nI (l + 1), c, a, nm, nv, ps, pst, psk, jm, cp, stk, em, ce, rp, ct, cm)) ∧ (∀ post : SY → Prop, post (nI T, tr, ep, nI D, nI E, nI 0 - 1, nI t, c, a, stk, em, ce, po, yc, ye) → wpY_carryOut post (nI T, tr, ep, nI D, nI E, nI l, nI t, c, a, stk, em, ce, po, yc, ye) (nI p)))) := by
  have hp := K.2.2.2.2.1.1
  have hl := K.2.2.2.1
  have hi := K.2.2.2.2.1.2.1
  have O := (G.1 p hp).2 hi
  obtain ⟨e, wX, wY, wF⟩ := sw_7 (xT := xT) (tr := tr) (ep := ep) (ind := ind) (pc := pc) (a := a) (nm := nm) (nv := nv) (ps := ps) (pst := pst) (psk := psk) (jm := jm) (cp := cp) (stk := stk) (em := em) (ce := ce) (rp := rp) (ct := ct) (cm := cm) (po := po) (yc := yc) (ye := ye) h80 hp K.1 K.2.1 K.2.2.1 hl G.2.2.2.1 hc
  refine ⟨e, wX, wY, fun he => ?_⟩
  obtain ⟨F1, F2⟩ := wF he
  clear wX wY wF
  obtain ⟨d, rfl⟩ : ∃ d, D = d + 2 := ⟨D - 2, by omega⟩
  have hD := K.1
  have hE := K.2.1
  exact Or.inl ⟨d + 2, E, p + 1, t, l, _, _, _, _, _, _, _, _, _, fun post h => xc_7 (by omega) hc (by omega) h, fun post h => yc_7 (by omega) (by omega) hc (by omega) h, sk_Kn h80 G K (by omega) (by omega) rfl (by rw [hc]; decide) (sk_Sp (sk_Rpl (by rw [hc]; decide) (by rw [hc]; decide) (by rw [hc]; decide) (by rw [hc]; decide)))⟩
theorem ss_8 (h80 : T ≤ 80) (G : sk_G T c a nm nv (nI (sk_vs c T)) jm cp) (K : sk_K T c D E p t l rp ct cm po yc ye) (hc : c p = 8) : ∃ e : Int32, (∀ post : Int32 → Prop, post e → wpX_whyStop post (xT, tr, ep, ind, nI (sk_vs c T), pc, nI D, nI E, nI p, nI t, nI (l + 1), c, a, nm, nv, ps, pst, psk, jm, cp, stk, em, ce, rp, ct, cm)) ∧ (∀ post : Int32 → Prop, post e → wpY_obstacle post (nI T, tr, ep, nI D, nI E, nI l, nI t, c, a, stk, em, ce, po, yc, ye) (nI p)) ∧ (e = 0 →
    (∃ (D1 E1 p1 t1 l1 : Nat) (stk1 em1 ce1 rp1 ct1 cm1 po1 yc1 ye1 : Nat → Int32), (∀ post : SX → Prop, post (xT, tr, ep, ind, nI (sk_vs c T), pc, nI D1, nI E1, nI p1, nI t1, nI (l1 + 1), c, a, nm, nv, ps, pst, psk, jm, cp, stk1, em1, ce1, rp1, ct1, cm1) → wpX_carryOut post (xT, tr, ep, ind, nI (sk_vs c T), pc, nI D, nI E, nI p, nI t, nI (l + 1), c, a, nm, nv, ps, pst, psk, jm, cp, stk, em, ce, rp, ct, cm)) ∧ (∀ post : SY → Prop, post (nI T, tr, ep, nI D1, nI E1, nI l1, nI t1, c, a, stk1, em1, ce1, po1, yc1, ye1) → wpY_carryOut post (nI T, tr, ep, nI D, nI E, nI l, nI t, c, a, stk, em, ce, po, yc, ye) (nI p)) ∧ sk_K T c D1 E1 p1 t1 l1 rp1 ct1 cm1 po1 yc1 ye1 ∧ sk_M po1 l1 t1 < sk_M po l t)
    ∨ (∃ cur1 : Int32, (∀ post : SX → Prop, post (xT, tr, ep, ind, nI (sk_vs c T), pc, nI D, nI E, cur1, nI t, nI 0, c, a, nm, nv, ps, pst, psk, jm, cp, stk, em, ce, rp, ct, cm) → wpX_carryOut post (xT, tr, ep, ind, nI (sk_vs c T), pc, nI D, nI E, nI p, nI t, nI (l + 1), c, a, nm, nv, ps, pst, psk, jm, cp, stk, em, ce, rp, ct, cm)) ∧ (∀ post : SY → Prop, post (nI T, tr, ep, nI D, nI E, nI 0 - 1, nI t, c, a, stk, em, ce, po, yc, ye) → wpY_carryOut post (nI T, tr, ep, nI D, nI E, nI l, nI t, c, a, stk, em, ce, po, yc, ye) (nI p)))) := by
  have hp := K.2.2.2.2.1.1
  have hl := K.2.2.2.1
  have hi := K.2.2.2.2.1.2.1
  have O := (G.1 p hp).2 hi
  obtain ⟨e, wX, wY, wF⟩ := sw_8 (xT := xT) (tr := tr) (ep := ep) (ind := ind) (pc := pc) (a := a) (nm := nm) (nv := nv) (ps := ps) (pst := pst) (psk := psk) (jm := jm) (cp := cp) (stk := stk) (em := em) (ce := ce) (rp := rp) (ct := ct) (cm := cm) (po := po) (yc := yc) (ye := ye) h80 hp K.1 K.2.1 K.2.2.1 hl G.2.2.2.1 hc
  refine ⟨e, wX, wY, fun he => ?_⟩
  obtain ⟨F1, F2⟩ := wF he
  clear wX wY wF
  obtain ⟨d, rfl⟩ : ∃ d, D = d + 2 := ⟨D - 2, by omega⟩
  have hD := K.1
  have hE := K.2.1
  exact Or.inl ⟨d + 3, E, p + 1, t, l, _, _, _, _, _, _, _, _, _, fun post h => xc_8 (by omega) hc (by omega) h, fun post h => yc_8 (by omega) (by omega) hc (by omega) h, sk_Kn h80 G K (by omega) (by omega) rfl (by rw [hc]; decide) (sk_Sp (sk_Rpl (by rw [hc]; decide) (by rw [hc]; decide) (by rw [hc]; decide) (by rw [hc]; decide)))⟩
theorem ss_9 (h80 : T ≤ 80) (G : sk_G T c a nm nv (nI (sk_vs c T)) jm cp) (K : sk_K T c D E p t l rp ct cm po yc ye) (hc : c p = 9) : ∃ e : Int32, (∀ post : Int32 → Prop, post e → wpX_whyStop post (xT, tr, ep, ind, nI (sk_vs c T), pc, nI D, nI E, nI p, nI t, nI (l + 1), c, a, nm, nv, ps, pst, psk, jm, cp, stk, em, ce, rp, ct, cm)) ∧ (∀ post : Int32 → Prop, post e → wpY_obstacle post (nI T, tr, ep, nI D, nI E, nI l, nI t, c, a, stk, em, ce, po, yc, ye) (nI p)) ∧ (e = 0 →
    (∃ (D1 E1 p1 t1 l1 : Nat) (stk1 em1 ce1 rp1 ct1 cm1 po1 yc1 ye1 : Nat → Int32), (∀ post : SX → Prop, post (xT, tr, ep, ind, nI (sk_vs c T), pc, nI D1, nI E1, nI p1, nI t1, nI (l1 + 1), c, a, nm, nv, ps, pst, psk, jm, cp, stk1, em1, ce1, rp1, ct1, cm1) → wpX_carryOut post (xT, tr, ep, ind, nI (sk_vs c T), pc, nI D, nI E, nI p, nI t, nI (l + 1), c, a, nm, nv, ps, pst, psk, jm, cp, stk, em, ce, rp, ct, cm)) ∧ (∀ post : SY → Prop, post (nI T, tr, ep, nI D1, nI E1, nI l1, nI t1, c, a, stk1, em1, ce1, po1, yc1, ye1) → wpY_carryOut post (nI T, tr, ep, nI D, nI E, nI l, nI t, c, a, stk, em, ce, po, yc, ye) (nI p)) ∧ sk_K T c D1 E1 p1 t1 l1 rp1 ct1 cm1 po1 yc1 ye1 ∧ sk_M po1 l1 t1 < sk_M po l t)
    ∨ (∃ cur1 : Int32, (∀ post : SX → Prop, post (xT, tr, ep, ind, nI (sk_vs c T), pc, nI D, nI E, cur1, nI t, nI 0, c, a, nm, nv, ps, pst, psk, jm, cp, stk, em, ce, rp, ct, cm) → wpX_carryOut post (xT, tr, ep, ind, nI (sk_vs c T), pc, nI D, nI E, nI p, nI t, nI (l + 1), c, a, nm, nv, ps, pst, psk, jm, cp, stk, em, ce, rp, ct, cm)) ∧ (∀ post : SY → Prop, post (nI T, tr, ep, nI D, nI E, nI 0 - 1, nI t, c, a, stk, em, ce, po, yc, ye) → wpY_carryOut post (nI T, tr, ep, nI D, nI E, nI l, nI t, c, a, stk, em, ce, po, yc, ye) (nI p)))) := by
  have hp := K.2.2.2.2.1.1
  have hl := K.2.2.2.1
  have hi := K.2.2.2.2.1.2.1
  have O := (G.1 p hp).2 hi
  obtain ⟨e, wX, wY, wF⟩ := sw_9 (xT := xT) (tr := tr) (ep := ep) (ind := ind) (pc := pc) (a := a) (nm := nm) (nv := nv) (ps := ps) (pst := pst) (psk := psk) (jm := jm) (cp := cp) (stk := stk) (em := em) (ce := ce) (rp := rp) (ct := ct) (cm := cm) (po := po) (yc := yc) (ye := ye) h80 hp K.1 K.2.1 K.2.2.1 hl G.2.2.2.1 hc
  refine ⟨e, wX, wY, fun he => ?_⟩
  obtain ⟨F1, F2⟩ := wF he
  clear wX wY wF
  obtain ⟨d, rfl⟩ : ∃ d, D = d + 3 := ⟨D - 3, by omega⟩
  have hD := K.1
  have hE := K.2.1
  exact Or.inl ⟨d + 3, E, p + 1, t, l, _, _, _, _, _, _, _, _, _, fun post h => xc_9 (by omega) hc (by omega) h, fun post h => yc_9 (by omega) (by omega) hc (by omega) h, sk_Kn h80 G K (by omega) (by omega) rfl (by rw [hc]; decide) (sk_Sp (sk_Rpl (by rw [hc]; decide) (by rw [hc]; decide) (by rw [hc]; decide) (by rw [hc]; decide)))⟩
theorem ss_12 (h80 : T ≤ 80) (G : sk_G T c a nm nv (nI (sk_vs c T)) jm cp) (K : sk_K T c D E p t l rp ct cm po yc ye) (hc : c p = 12) : ∃ e : Int32, (∀ post : Int32 → Prop, post e → wpX_whyStop post (xT, tr, ep, ind, nI (sk_vs c T), pc, nI D, nI E, nI p, nI t, nI (l + 1), c, a, nm, nv, ps, pst, psk, jm, cp, stk, em, ce, rp, ct, cm)) ∧ (∀ post : Int32 → Prop, post e → wpY_obstacle post (nI T, tr, ep, nI D, nI E, nI l, nI t, c, a, stk, em, ce, po, yc, ye) (nI p)) ∧ (e = 0 →
    (∃ (D1 E1 p1 t1 l1 : Nat) (stk1 em1 ce1 rp1 ct1 cm1 po1 yc1 ye1 : Nat → Int32), (∀ post : SX → Prop, post (xT, tr, ep, ind, nI (sk_vs c T), pc, nI D1, nI E1, nI p1, nI t1, nI (l1 + 1), c, a, nm, nv, ps, pst, psk, jm, cp, stk1, em1, ce1, rp1, ct1, cm1) → wpX_carryOut post (xT, tr, ep, ind, nI (sk_vs c T), pc, nI D, nI E, nI p, nI t, nI (l + 1), c, a, nm, nv, ps, pst, psk, jm, cp, stk, em, ce, rp, ct, cm)) ∧ (∀ post : SY → Prop, post (nI T, tr, ep, nI D1, nI E1, nI l1, nI t1, c, a, stk1, em1, ce1, po1, yc1, ye1) → wpY_carryOut post (nI T, tr, ep, nI D, nI E, nI l, nI t, c, a, stk, em, ce, po, yc, ye) (nI p)) ∧ sk_K T c D1 E1 p1 t1 l1 rp1 ct1 cm1 po1 yc1 ye1 ∧ sk_M po1 l1 t1 < sk_M po l t)
    ∨ (∃ cur1 : Int32, (∀ post : SX → Prop, post (xT, tr, ep, ind, nI (sk_vs c T), pc, nI D, nI E, cur1, nI t, nI 0, c, a, nm, nv, ps, pst, psk, jm, cp, stk, em, ce, rp, ct, cm) → wpX_carryOut post (xT, tr, ep, ind, nI (sk_vs c T), pc, nI D, nI E, nI p, nI t, nI (l + 1), c, a, nm, nv, ps, pst, psk, jm, cp, stk, em, ce, rp, ct, cm)) ∧ (∀ post : SY → Prop, post (nI T, tr, ep, nI D, nI E, nI 0 - 1, nI t, c, a, stk, em, ce, po, yc, ye) → wpY_carryOut post (nI T, tr, ep, nI D, nI E, nI l, nI t, c, a, stk, em, ce, po, yc, ye) (nI p)))) := by
  have hp := K.2.2.2.2.1.1
  have hl := K.2.2.2.1
  have hi := K.2.2.2.2.1.2.1
  have O := (G.1 p hp).2 hi
  obtain ⟨e, wX, wY, wF⟩ := sw_12 (xT := xT) (tr := tr) (ep := ep) (ind := ind) (pc := pc) (a := a) (nm := nm) (nv := nv) (ps := ps) (pst := pst) (psk := psk) (jm := jm) (cp := cp) (stk := stk) (em := em) (ce := ce) (rp := rp) (ct := ct) (cm := cm) (po := po) (yc := yc) (ye := ye) h80 hp K.1 K.2.1 K.2.2.1 hl G.2.2.2.1 hc
  refine ⟨e, wX, wY, fun he => ?_⟩
  obtain ⟨F1, F2⟩ := wF he
  clear wX wY wF
  obtain ⟨d, rfl⟩ : ∃ d, D = d + 1 := ⟨D - 1, by omega⟩
  have hD := K.1
  have hE := K.2.1
  obtain ⟨n, hn, en⟩ := F2
  have hV := G.2.2.2.1
  exact Or.inl ⟨d + 1, E, p + 1, t, l, _, _, _, _, _, _, _, _, _, fun post h => xc_12 (by omega) hc (n := n) (by omega) (by omega) en h, fun post h => yc_12 (by omega) (by omega) hc (n := n) (by omega) (by omega) en h, sk_Kn h80 G K (by omega) (by omega) rfl (by rw [hc]; decide) (sk_Sp (sk_Rpl (by rw [hc]; decide) (by rw [hc]; decide) (by rw [hc]; decide) (by rw [hc]; decide)))⟩
theorem ss_13 (h80 : T ≤ 80) (G : sk_G T c a nm nv (nI (sk_vs c T)) jm cp) (K : sk_K T c D E p t l rp ct cm po yc ye) (hc : c p = 13) : ∃ e : Int32, (∀ post : Int32 → Prop, post e → wpX_whyStop post (xT, tr, ep, ind, nI (sk_vs c T), pc, nI D, nI E, nI p, nI t, nI (l + 1), c, a, nm, nv, ps, pst, psk, jm, cp, stk, em, ce, rp, ct, cm)) ∧ (∀ post : Int32 → Prop, post e → wpY_obstacle post (nI T, tr, ep, nI D, nI E, nI l, nI t, c, a, stk, em, ce, po, yc, ye) (nI p)) ∧ (e = 0 →
    (∃ (D1 E1 p1 t1 l1 : Nat) (stk1 em1 ce1 rp1 ct1 cm1 po1 yc1 ye1 : Nat → Int32), (∀ post : SX → Prop, post (xT, tr, ep, ind, nI (sk_vs c T), pc, nI D1, nI E1, nI p1, nI t1, nI (l1 + 1), c, a, nm, nv, ps, pst, psk, jm, cp, stk1, em1, ce1, rp1, ct1, cm1) → wpX_carryOut post (xT, tr, ep, ind, nI (sk_vs c T), pc, nI D, nI E, nI p, nI t, nI (l + 1), c, a, nm, nv, ps, pst, psk, jm, cp, stk, em, ce, rp, ct, cm)) ∧ (∀ post : SY → Prop, post (nI T, tr, ep, nI D1, nI E1, nI l1, nI t1, c, a, stk1, em1, ce1, po1, yc1, ye1) → wpY_carryOut post (nI T, tr, ep, nI D, nI E, nI l, nI t, c, a, stk, em, ce, po, yc, ye) (nI p)) ∧ sk_K T c D1 E1 p1 t1 l1 rp1 ct1 cm1 po1 yc1 ye1 ∧ sk_M po1 l1 t1 < sk_M po l t)
    ∨ (∃ cur1 : Int32, (∀ post : SX → Prop, post (xT, tr, ep, ind, nI (sk_vs c T), pc, nI D, nI E, cur1, nI t, nI 0, c, a, nm, nv, ps, pst, psk, jm, cp, stk, em, ce, rp, ct, cm) → wpX_carryOut post (xT, tr, ep, ind, nI (sk_vs c T), pc, nI D, nI E, nI p, nI t, nI (l + 1), c, a, nm, nv, ps, pst, psk, jm, cp, stk, em, ce, rp, ct, cm)) ∧ (∀ post : SY → Prop, post (nI T, tr, ep, nI D, nI E, nI 0 - 1, nI t, c, a, stk, em, ce, po, yc, ye) → wpY_carryOut post (nI T, tr, ep, nI D, nI E, nI l, nI t, c, a, stk, em, ce, po, yc, ye) (nI p)))) := by
  have hp := K.2.2.2.2.1.1
  have hl := K.2.2.2.1
  have hi := K.2.2.2.2.1.2.1
  have O := (G.1 p hp).2 hi
  obtain ⟨e, wX, wY, wF⟩ := sw_13 (xT := xT) (tr := tr) (ep := ep) (ind := ind) (pc := pc) (a := a) (nm := nm) (nv := nv) (ps := ps) (pst := pst) (psk := psk) (jm := jm) (cp := cp) (stk := stk) (em := em) (ce := ce) (rp := rp) (ct := ct) (cm := cm) (po := po) (yc := yc) (ye := ye) h80 hp K.1 K.2.1 K.2.2.1 hl G.2.2.2.1 hc
  refine ⟨e, wX, wY, fun he => ?_⟩
  obtain ⟨F1, F2⟩ := wF he
  clear wX wY wF
  obtain ⟨d, rfl⟩ : ∃ d, D = d + 2 := ⟨D - 2, by omega⟩
  have hD := K.1
  have hE := K.2.1
  obtain ⟨n, hn, en⟩ := F2
  have hV := G.2.2.2.1
  exact Or.inl ⟨d, E, p + 1, t, l, _, _, _, _, _, _, _, _, _, fun post h => xc_13 (by omega) hc (n := n) (by omega) (by omega) en h, fun post h => yc_13 (by omega) (by omega) hc (n := n) (by omega) (by omega) en h, sk_Kn h80 G K (by omega) (by omega) rfl (by rw [hc]; decide) (sk_Sp (sk_Rpl (by rw [hc]; decide) (by rw [hc]; decide) (by rw [hc]; decide) (by rw [hc]; decide)))⟩
theorem ss_14 (h80 : T ≤ 80) (G : sk_G T c a nm nv (nI (sk_vs c T)) jm cp) (K : sk_K T c D E p t l rp ct cm po yc ye) (hc : c p = 14) : ∃ e : Int32, (∀ post : Int32 → Prop, post e → wpX_whyStop post (xT, tr, ep, ind, nI (sk_vs c T), pc, nI D, nI E, nI p, nI t, nI (l + 1), c, a, nm, nv, ps, pst, psk, jm, cp, stk, em, ce, rp, ct, cm)) ∧ (∀ post : Int32 → Prop, post e → wpY_obstacle post (nI T, tr, ep, nI D, nI E, nI l, nI t, c, a, stk, em, ce, po, yc, ye) (nI p)) ∧ (e = 0 →
    (∃ (D1 E1 p1 t1 l1 : Nat) (stk1 em1 ce1 rp1 ct1 cm1 po1 yc1 ye1 : Nat → Int32), (∀ post : SX → Prop, post (xT, tr, ep, ind, nI (sk_vs c T), pc, nI D1, nI E1, nI p1, nI t1, nI (l1 + 1), c, a, nm, nv, ps, pst, psk, jm, cp, stk1, em1, ce1, rp1, ct1, cm1) → wpX_carryOut post (xT, tr, ep, ind, nI (sk_vs c T), pc, nI D, nI E, nI p, nI t, nI (l + 1), c, a, nm, nv, ps, pst, psk, jm, cp, stk, em, ce, rp, ct, cm)) ∧ (∀ post : SY → Prop, post (nI T, tr, ep, nI D1, nI E1, nI l1, nI t1, c, a, stk1, em1, ce1, po1, yc1, ye1) → wpY_carryOut post (nI T, tr, ep, nI D, nI E, nI l, nI t, c, a, stk, em, ce, po, yc, ye) (nI p)) ∧ sk_K T c D1 E1 p1 t1 l1 rp1 ct1 cm1 po1 yc1 ye1 ∧ sk_M po1 l1 t1 < sk_M po l t)
    ∨ (∃ cur1 : Int32, (∀ post : SX → Prop, post (xT, tr, ep, ind, nI (sk_vs c T), pc, nI D, nI E, cur1, nI t, nI 0, c, a, nm, nv, ps, pst, psk, jm, cp, stk, em, ce, rp, ct, cm) → wpX_carryOut post (xT, tr, ep, ind, nI (sk_vs c T), pc, nI D, nI E, nI p, nI t, nI (l + 1), c, a, nm, nv, ps, pst, psk, jm, cp, stk, em, ce, rp, ct, cm)) ∧ (∀ post : SY → Prop, post (nI T, tr, ep, nI D, nI E, nI 0 - 1, nI t, c, a, stk, em, ce, po, yc, ye) → wpY_carryOut post (nI T, tr, ep, nI D, nI E, nI l, nI t, c, a, stk, em, ce, po, yc, ye) (nI p)))) := by
  have hp := K.2.2.2.2.1.1
  have hl := K.2.2.2.1
  have hi := K.2.2.2.2.1.2.1
  have O := (G.1 p hp).2 hi
  obtain ⟨e, wX, wY, wF⟩ := sw_14 (xT := xT) (tr := tr) (ep := ep) (ind := ind) (pc := pc) (a := a) (nm := nm) (nv := nv) (ps := ps) (pst := pst) (psk := psk) (jm := jm) (cp := cp) (stk := stk) (em := em) (ce := ce) (rp := rp) (ct := ct) (cm := cm) (po := po) (yc := yc) (ye := ye) h80 hp K.1 K.2.1 K.2.2.1 hl G.2.2.2.1 hc
  refine ⟨e, wX, wY, fun he => ?_⟩
  obtain ⟨F1, F2⟩ := wF he
  clear wX wY wF
  obtain ⟨d, rfl⟩ : ∃ d, D = d + 1 := ⟨D - 1, by omega⟩
  have hD := K.1
  have hE := K.2.1
  exact Or.inl ⟨d, E + 1, p + 1, t, l, _, _, _, _, _, _, _, _, _, fun post h => xc_14 (by omega) hc F2 (by omega) h, fun post h => yc_14 (by omega) (by omega) hc F2 (by omega) h, sk_Kn h80 G K (by omega) (by omega) rfl (by rw [hc]; decide) (sk_Sp (sk_Rpl (by rw [hc]; decide) (by rw [hc]; decide) (by rw [hc]; decide) (by rw [hc]; decide)))⟩
theorem ss_16 (h80 : T ≤ 80) (G : sk_G T c a nm nv (nI (sk_vs c T)) jm cp) (K : sk_K T c D E p t l rp ct cm po yc ye) (hc : c p = 16) : ∃ e : Int32, (∀ post : Int32 → Prop, post e → wpX_whyStop post (xT, tr, ep, ind, nI (sk_vs c T), pc, nI D, nI E, nI p, nI t, nI (l + 1), c, a, nm, nv, ps, pst, psk, jm, cp, stk, em, ce, rp, ct, cm)) ∧ (∀ post : Int32 → Prop, post e → wpY_obstacle post (nI T, tr, ep, nI D, nI E, nI l, nI t, c, a, stk, em, ce, po, yc, ye) (nI p)) ∧ (e = 0 →
    (∃ (D1 E1 p1 t1 l1 : Nat) (stk1 em1 ce1 rp1 ct1 cm1 po1 yc1 ye1 : Nat → Int32), (∀ post : SX → Prop, post (xT, tr, ep, ind, nI (sk_vs c T), pc, nI D1, nI E1, nI p1, nI t1, nI (l1 + 1), c, a, nm, nv, ps, pst, psk, jm, cp, stk1, em1, ce1, rp1, ct1, cm1) → wpX_carryOut post (xT, tr, ep, ind, nI (sk_vs c T), pc, nI D, nI E, nI p, nI t, nI (l + 1), c, a, nm, nv, ps, pst, psk, jm, cp, stk, em, ce, rp, ct, cm)) ∧ (∀ post : SY → Prop, post (nI T, tr, ep, nI D1, nI E1, nI l1, nI t1, c, a, stk1, em1, ce1, po1, yc1, ye1) → wpY_carryOut post (nI T, tr, ep, nI D, nI E, nI l, nI t, c, a, stk, em, ce, po, yc, ye) (nI p)) ∧ sk_K T c D1 E1 p1 t1 l1 rp1 ct1 cm1 po1 yc1 ye1 ∧ sk_M po1 l1 t1 < sk_M po l t)
    ∨ (∃ cur1 : Int32, (∀ post : SX → Prop, post (xT, tr, ep, ind, nI (sk_vs c T), pc, nI D, nI E, cur1, nI t, nI 0, c, a, nm, nv, ps, pst, psk, jm, cp, stk, em, ce, rp, ct, cm) → wpX_carryOut post (xT, tr, ep, ind, nI (sk_vs c T), pc, nI D, nI E, nI p, nI t, nI (l + 1), c, a, nm, nv, ps, pst, psk, jm, cp, stk, em, ce, rp, ct, cm)) ∧ (∀ post : SY → Prop, post (nI T, tr, ep, nI D, nI E, nI 0 - 1, nI t, c, a, stk, em, ce, po, yc, ye) → wpY_carryOut post (nI T, tr, ep, nI D, nI E, nI l, nI t, c, a, stk, em, ce, po, yc, ye) (nI p)))) := by
  have hp := K.2.2.2.2.1.1
  have hl := K.2.2.2.1
  have hi := K.2.2.2.2.1.2.1
  have O := (G.1 p hp).2 hi
  obtain ⟨e, wX, wY, wF⟩ := sw_16 (xT := xT) (tr := tr) (ep := ep) (ind := ind) (pc := pc) (a := a) (nm := nm) (nv := nv) (ps := ps) (pst := pst) (psk := psk) (jm := jm) (cp := cp) (stk := stk) (em := em) (ce := ce) (rp := rp) (ct := ct) (cm := cm) (po := po) (yc := yc) (ye := ye) h80 hp K.1 K.2.1 K.2.2.1 hl G.2.2.2.1 hc
  refine ⟨e, wX, wY, fun he => ?_⟩
  obtain ⟨F1, F2⟩ := wF he
  clear wX wY wF
  obtain ⟨d, rfl⟩ : ∃ d, D = d + 1 := ⟨D - 1, by omega⟩
  have hD := K.1
  by_cases hz : stk d = 0
  · obtain ⟨b, b1, b2, b3, b4, b5, b6⟩ := (G.2.2.2.2.2.2.1 p hp).1 (Or.inl hc)
    have b7 := sk_lt G (p := b + 1) (by omega) b5
    rw [show decide (c p = 16) = true from decide_eq_true hc] at b4
    exact Or.inl ⟨d, E, b + 1, t, l, _, _, _, _, _, _, _, _, _, fun post h => xc_16T (by omega) hc (by omega) hz b3 h, fun post h => yc_16T h80 hp hl hc (by omega) hz b4 h, sk_Ka h80 G K (by omega) K.2.1 b7 b5 (Or.inl ⟨rfl, by omega⟩) b6⟩
  · exact Or.inl ⟨d, E, p + 1, t, l, _, _, _, _, _, _, _, _, _, fun post h => xc_16F (by omega) hc (by omega) hz h, fun post h => yc_16F h80 hp hl hc (by omega) hz h, sk_Kn h80 G K (by omega) K.2.1 rfl (by rw [hc]; decide) (sk_So (by rw [hc]; decide) (by rw [hc]; decide))⟩
theorem ss_21 (h80 : T ≤ 80) (G : sk_G T c a nm nv (nI (sk_vs c T)) jm cp) (K : sk_K T c D E p t l rp ct cm po yc ye) (hc : c p = 21) : ∃ e : Int32, (∀ post : Int32 → Prop, post e → wpX_whyStop post (xT, tr, ep, ind, nI (sk_vs c T), pc, nI D, nI E, nI p, nI t, nI (l + 1), c, a, nm, nv, ps, pst, psk, jm, cp, stk, em, ce, rp, ct, cm)) ∧ (∀ post : Int32 → Prop, post e → wpY_obstacle post (nI T, tr, ep, nI D, nI E, nI l, nI t, c, a, stk, em, ce, po, yc, ye) (nI p)) ∧ (e = 0 →
    (∃ (D1 E1 p1 t1 l1 : Nat) (stk1 em1 ce1 rp1 ct1 cm1 po1 yc1 ye1 : Nat → Int32), (∀ post : SX → Prop, post (xT, tr, ep, ind, nI (sk_vs c T), pc, nI D1, nI E1, nI p1, nI t1, nI (l1 + 1), c, a, nm, nv, ps, pst, psk, jm, cp, stk1, em1, ce1, rp1, ct1, cm1) → wpX_carryOut post (xT, tr, ep, ind, nI (sk_vs c T), pc, nI D, nI E, nI p, nI t, nI (l + 1), c, a, nm, nv, ps, pst, psk, jm, cp, stk, em, ce, rp, ct, cm)) ∧ (∀ post : SY → Prop, post (nI T, tr, ep, nI D1, nI E1, nI l1, nI t1, c, a, stk1, em1, ce1, po1, yc1, ye1) → wpY_carryOut post (nI T, tr, ep, nI D, nI E, nI l, nI t, c, a, stk, em, ce, po, yc, ye) (nI p)) ∧ sk_K T c D1 E1 p1 t1 l1 rp1 ct1 cm1 po1 yc1 ye1 ∧ sk_M po1 l1 t1 < sk_M po l t)
    ∨ (∃ cur1 : Int32, (∀ post : SX → Prop, post (xT, tr, ep, ind, nI (sk_vs c T), pc, nI D, nI E, cur1, nI t, nI 0, c, a, nm, nv, ps, pst, psk, jm, cp, stk, em, ce, rp, ct, cm) → wpX_carryOut post (xT, tr, ep, ind, nI (sk_vs c T), pc, nI D, nI E, nI p, nI t, nI (l + 1), c, a, nm, nv, ps, pst, psk, jm, cp, stk, em, ce, rp, ct, cm)) ∧ (∀ post : SY → Prop, post (nI T, tr, ep, nI D, nI E, nI 0 - 1, nI t, c, a, stk, em, ce, po, yc, ye) → wpY_carryOut post (nI T, tr, ep, nI D, nI E, nI l, nI t, c, a, stk, em, ce, po, yc, ye) (nI p)))) := by
  have hp := K.2.2.2.2.1.1
  have hl := K.2.2.2.1
  have hi := K.2.2.2.2.1.2.1
  have O := (G.1 p hp).2 hi
  obtain ⟨e, wX, wY, wF⟩ := sw_21 (xT := xT) (tr := tr) (ep := ep) (ind := ind) (pc := pc) (a := a) (nm := nm) (nv := nv) (ps := ps) (pst := pst) (psk := psk) (jm := jm) (cp := cp) (stk := stk) (em := em) (ce := ce) (rp := rp) (ct := ct) (cm := cm) (po := po) (yc := yc) (ye := ye) h80 hp K.1 K.2.1 K.2.2.1 hl G.2.2.2.1 hc
  refine ⟨e, wX, wY, fun he => ?_⟩
  obtain ⟨F1, F2⟩ := wF he
  clear wX wY wF
  obtain ⟨d, rfl⟩ : ∃ d, D = d + 1 := ⟨D - 1, by omega⟩
  have hD := K.1
  by_cases hz : stk d = 0
  · obtain ⟨b, b1, b2, b3, b4, b5, b6⟩ := (G.2.2.2.2.2.2.1 p hp).1 (Or.inr (Or.inr (Or.inl hc)))
    have b7 := sk_lt G (p := b + 1) (by omega) b5
    rw [show decide (c p = 16) = false from decide_eq_false (by rw [hc]; decide)] at b4
    exact Or.inl ⟨d, E, b + 1, t, l, _, _, _, _, _, _, _, _, _, fun post h => xc_21T (by omega) hc (by omega) hz b3 h, fun post h => yc_21T h80 hp hl hc (by omega) hz b4 h, sk_Ka h80 G K (by omega) K.2.1 b7 b5 (Or.inl ⟨rfl, by omega⟩) b6⟩
  · exact Or.inl ⟨d, E, p + 1, t, l, _, _, _, _, _, _, _, _, _, fun post h => xc_21F (by omega) hc (by omega) hz h, fun post h => yc_21F h80 hp hl hc (by omega) hz h, sk_Kn h80 G K (by omega) K.2.1 rfl (by rw [hc]; decide) (sk_Sh (Or.inr hc))⟩
theorem ss_17 (h80 : T ≤ 80) (G : sk_G T c a nm nv (nI (sk_vs c T)) jm cp) (K : sk_K T c D E p t l rp ct cm po yc ye) (hc : c p = 17) : ∃ e : Int32, (∀ post : Int32 → Prop, post e → wpX_whyStop post (xT, tr, ep, ind, nI (sk_vs c T), pc, nI D, nI E, nI p, nI t, nI (l + 1), c, a, nm, nv, ps, pst, psk, jm, cp, stk, em, ce, rp, ct, cm)) ∧ (∀ post : Int32 → Prop, post e → wpY_obstacle post (nI T, tr, ep, nI D, nI E, nI l, nI t, c, a, stk, em, ce, po, yc, ye) (nI p)) ∧ (e = 0 →
    (∃ (D1 E1 p1 t1 l1 : Nat) (stk1 em1 ce1 rp1 ct1 cm1 po1 yc1 ye1 : Nat → Int32), (∀ post : SX → Prop, post (xT, tr, ep, ind, nI (sk_vs c T), pc, nI D1, nI E1, nI p1, nI t1, nI (l1 + 1), c, a, nm, nv, ps, pst, psk, jm, cp, stk1, em1, ce1, rp1, ct1, cm1) → wpX_carryOut post (xT, tr, ep, ind, nI (sk_vs c T), pc, nI D, nI E, nI p, nI t, nI (l + 1), c, a, nm, nv, ps, pst, psk, jm, cp, stk, em, ce, rp, ct, cm)) ∧ (∀ post : SY → Prop, post (nI T, tr, ep, nI D1, nI E1, nI l1, nI t1, c, a, stk1, em1, ce1, po1, yc1, ye1) → wpY_carryOut post (nI T, tr, ep, nI D, nI E, nI l, nI t, c, a, stk, em, ce, po, yc, ye) (nI p)) ∧ sk_K T c D1 E1 p1 t1 l1 rp1 ct1 cm1 po1 yc1 ye1 ∧ sk_M po1 l1 t1 < sk_M po l t)
    ∨ (∃ cur1 : Int32, (∀ post : SX → Prop, post (xT, tr, ep, ind, nI (sk_vs c T), pc, nI D, nI E, cur1, nI t, nI 0, c, a, nm, nv, ps, pst, psk, jm, cp, stk, em, ce, rp, ct, cm) → wpX_carryOut post (xT, tr, ep, ind, nI (sk_vs c T), pc, nI D, nI E, nI p, nI t, nI (l + 1), c, a, nm, nv, ps, pst, psk, jm, cp, stk, em, ce, rp, ct, cm)) ∧ (∀ post : SY → Prop, post (nI T, tr, ep, nI D, nI E, nI 0 - 1, nI t, c, a, stk, em, ce, po, yc, ye) → wpY_carryOut post (nI T, tr, ep, nI D, nI E, nI l, nI t, c, a, stk, em, ce, po, yc, ye) (nI p)))) := by
  have hp := K.2.2.2.2.1.1
  have hl := K.2.2.2.1
  have hi := K.2.2.2.2.1.2.1
  have O := (G.1 p hp).2 hi
  obtain ⟨e, wX, wY, wF⟩ := sw_17 (xT := xT) (tr := tr) (ep := ep) (ind := ind) (pc := pc) (a := a) (nm := nm) (nv := nv) (ps := ps) (pst := pst) (psk := psk) (jm := jm) (cp := cp) (stk := stk) (em := em) (ce := ce) (rp := rp) (ct := ct) (cm := cm) (po := po) (yc := yc) (ye := ye) h80 hp K.1 K.2.1 K.2.2.1 hl G.2.2.2.1 hc
  refine ⟨e, wX, wY, fun he => ?_⟩
  obtain ⟨F1, F2⟩ := wF he
  clear wX wY wF
  have hD := K.1
  obtain ⟨b, b1, b2, b3, b4, b5, b6⟩ := (G.2.2.2.2.2.2.1 p hp).1 (Or.inr (Or.inl hc))
  have b7 := sk_lt G (p := b + 1) (by omega) b5
  rw [show decide (c p = 16) = false from decide_eq_false (by rw [hc]; decide)] at b4
  exact Or.inl ⟨D, E, b + 1, t, l, _, _, _, _, _, _, _, _, _, fun post h => xc_17 (by omega) hc b3 h, fun post h => yc_17 h80 hp hl hc hD b4 h, sk_Ka h80 G K (by omega) K.2.1 b7 b5 (Or.inl ⟨rfl, by omega⟩) b6⟩
theorem ss_18 (h80 : T ≤ 80) (G : sk_G T c a nm nv (nI (sk_vs c T)) jm cp) (K : sk_K T c D E p t l rp ct cm po yc ye) (hc : c p = 18) : ∃ e : Int32, (∀ post : Int32 → Prop, post e → wpX_whyStop post (xT, tr, ep, ind, nI (sk_vs c T), pc, nI D, nI E, nI p, nI t, nI (l + 1), c, a, nm, nv, ps, pst, psk, jm, cp, stk, em, ce, rp, ct, cm)) ∧ (∀ post : Int32 → Prop, post e → wpY_obstacle post (nI T, tr, ep, nI D, nI E, nI l, nI t, c, a, stk, em, ce, po, yc, ye) (nI p)) ∧ (e = 0 →
    (∃ (D1 E1 p1 t1 l1 : Nat) (stk1 em1 ce1 rp1 ct1 cm1 po1 yc1 ye1 : Nat → Int32), (∀ post : SX → Prop, post (xT, tr, ep, ind, nI (sk_vs c T), pc, nI D1, nI E1, nI p1, nI t1, nI (l1 + 1), c, a, nm, nv, ps, pst, psk, jm, cp, stk1, em1, ce1, rp1, ct1, cm1) → wpX_carryOut post (xT, tr, ep, ind, nI (sk_vs c T), pc, nI D, nI E, nI p, nI t, nI (l + 1), c, a, nm, nv, ps, pst, psk, jm, cp, stk, em, ce, rp, ct, cm)) ∧ (∀ post : SY → Prop, post (nI T, tr, ep, nI D1, nI E1, nI l1, nI t1, c, a, stk1, em1, ce1, po1, yc1, ye1) → wpY_carryOut post (nI T, tr, ep, nI D, nI E, nI l, nI t, c, a, stk, em, ce, po, yc, ye) (nI p)) ∧ sk_K T c D1 E1 p1 t1 l1 rp1 ct1 cm1 po1 yc1 ye1 ∧ sk_M po1 l1 t1 < sk_M po l t)
    ∨ (∃ cur1 : Int32, (∀ post : SX → Prop, post (xT, tr, ep, ind, nI (sk_vs c T), pc, nI D, nI E, cur1, nI t, nI 0, c, a, nm, nv, ps, pst, psk, jm, cp, stk, em, ce, rp, ct, cm) → wpX_carryOut post (xT, tr, ep, ind, nI (sk_vs c T), pc, nI D, nI E, nI p, nI t, nI (l + 1), c, a, nm, nv, ps, pst, psk, jm, cp, stk, em, ce, rp, ct, cm)) ∧ (∀ post : SY → Prop, post (nI T, tr, ep, nI D, nI E, nI 0 - 1, nI t, c, a, stk, em, ce, po, yc, ye) → wpY_carryOut post (nI T, tr, ep, nI D, nI E, nI l, nI t, c, a, stk, em, ce, po, yc, ye) (nI p)))) := by
  have hp := K.2.2.2.2.1.1
  have hl := K.2.2.2.1
  have hi := K.2.2.2.2.1.2.1
  have O := (G.1 p hp).2 hi
  obtain ⟨e, wX, wY, wF⟩ := sw_18 (xT := xT) (tr := tr) (ep := ep) (ind := ind) (pc := pc) (a := a) (nm := nm) (nv := nv) (ps := ps) (pst := pst) (psk := psk) (jm := jm) (cp := cp) (stk := stk) (em := em) (ce := ce) (rp := rp) (ct := ct) (cm := cm) (po := po) (yc := yc) (ye := ye) h80 hp K.1 K.2.1 K.2.2.1 hl G.2.2.2.1 hc
  refine ⟨e, wX, wY, fun he => ?_⟩
  obtain ⟨F1, F2⟩ := wF he
  clear wX wY wF
  have hD := K.1
  exact Or.inl ⟨D, E, p + 1, t, l, _, _, _, _, _, _, _, _, _, fun post h => xc_18 (by omega) hc h, fun post h => yc_18 h80 hp hl hc hD h, sk_Kn h80 G K hD K.2.1 rfl (by rw [hc]; decide) (sk_Sc (by rw [hc]; decide))⟩
theorem ss_19 (h80 : T ≤ 80) (G : sk_G T c a nm nv (nI (sk_vs c T)) jm cp) (K : sk_K T c D E p t l rp ct cm po yc ye) (hc : c p = 19) : ∃ e : Int32, (∀ post : Int32 → Prop, post e → wpX_whyStop post (xT, tr, ep, ind, nI (sk_vs c T), pc, nI D, nI E, nI p, nI t, nI (l + 1), c, a, nm, nv, ps, pst, psk, jm, cp, stk, em, ce, rp, ct, cm)) ∧ (∀ post : Int32 → Prop, post e → wpY_obstacle post (nI T, tr, ep, nI D, nI E, nI l, nI t, c, a, stk, em, ce, po, yc, ye) (nI p)) ∧ (e = 0 →
    (∃ (D1 E1 p1 t1 l1 : Nat) (stk1 em1 ce1 rp1 ct1 cm1 po1 yc1 ye1 : Nat → Int32), (∀ post : SX → Prop, post (xT, tr, ep, ind, nI (sk_vs c T), pc, nI D1, nI E1, nI p1, nI t1, nI (l1 + 1), c, a, nm, nv, ps, pst, psk, jm, cp, stk1, em1, ce1, rp1, ct1, cm1) → wpX_carryOut post (xT, tr, ep, ind, nI (sk_vs c T), pc, nI D, nI E, nI p, nI t, nI (l + 1), c, a, nm, nv, ps, pst, psk, jm, cp, stk, em, ce, rp, ct, cm)) ∧ (∀ post : SY → Prop, post (nI T, tr, ep, nI D1, nI E1, nI l1, nI t1, c, a, stk1, em1, ce1, po1, yc1, ye1) → wpY_carryOut post (nI T, tr, ep, nI D, nI E, nI l, nI t, c, a, stk, em, ce, po, yc, ye) (nI p)) ∧ sk_K T c D1 E1 p1 t1 l1 rp1 ct1 cm1 po1 yc1 ye1 ∧ sk_M po1 l1 t1 < sk_M po l t)
    ∨ (∃ cur1 : Int32, (∀ post : SX → Prop, post (xT, tr, ep, ind, nI (sk_vs c T), pc, nI D, nI E, cur1, nI t, nI 0, c, a, nm, nv, ps, pst, psk, jm, cp, stk, em, ce, rp, ct, cm) → wpX_carryOut post (xT, tr, ep, ind, nI (sk_vs c T), pc, nI D, nI E, nI p, nI t, nI (l + 1), c, a, nm, nv, ps, pst, psk, jm, cp, stk, em, ce, rp, ct, cm)) ∧ (∀ post : SY → Prop, post (nI T, tr, ep, nI D, nI E, nI 0 - 1, nI t, c, a, stk, em, ce, po, yc, ye) → wpY_carryOut post (nI T, tr, ep, nI D, nI E, nI l, nI t, c, a, stk, em, ce, po, yc, ye) (nI p)))) := by
  have hp := K.2.2.2.2.1.1
  have hl := K.2.2.2.1
  have hi := K.2.2.2.2.1.2.1
  have O := (G.1 p hp).2 hi
  obtain ⟨e, wX, wY, wF⟩ := sw_19 (xT := xT) (tr := tr) (ep := ep) (ind := ind) (pc := pc) (a := a) (nm := nm) (nv := nv) (ps := ps) (pst := pst) (psk := psk) (jm := jm) (cp := cp) (stk := stk) (em := em) (ce := ce) (rp := rp) (ct := ct) (cm := cm) (po := po) (yc := yc) (ye := ye) h80 hp K.1 K.2.1 K.2.2.1 hl G.2.2.2.1 hc
  refine ⟨e, wX, wY, fun he => ?_⟩
  obtain ⟨F1, F2⟩ := wF he
  clear wX wY wF
  have hD := K.1
  exact Or.inl ⟨D, E, p + 1, t, l, _, _, _, _, _, _, _, _, _, fun post h => xc_19 (by omega) hc h, fun post h => yc_19 h80 hp hl hc hD h, sk_Kn h80 G K hD K.2.1 rfl (by rw [hc]; decide) (sk_So (by rw [hc]; decide) (by rw [hc]; decide))⟩
theorem ss_20 (h80 : T ≤ 80) (G : sk_G T c a nm nv (nI (sk_vs c T)) jm cp) (K : sk_K T c D E p t l rp ct cm po yc ye) (hc : c p = 20) : ∃ e : Int32, (∀ post : Int32 → Prop, post e → wpX_whyStop post (xT, tr, ep, ind, nI (sk_vs c T), pc, nI D, nI E, nI p, nI t, nI (l + 1), c, a, nm, nv, ps, pst, psk, jm, cp, stk, em, ce, rp, ct, cm)) ∧ (∀ post : Int32 → Prop, post e → wpY_obstacle post (nI T, tr, ep, nI D, nI E, nI l, nI t, c, a, stk, em, ce, po, yc, ye) (nI p)) ∧ (e = 0 →
    (∃ (D1 E1 p1 t1 l1 : Nat) (stk1 em1 ce1 rp1 ct1 cm1 po1 yc1 ye1 : Nat → Int32), (∀ post : SX → Prop, post (xT, tr, ep, ind, nI (sk_vs c T), pc, nI D1, nI E1, nI p1, nI t1, nI (l1 + 1), c, a, nm, nv, ps, pst, psk, jm, cp, stk1, em1, ce1, rp1, ct1, cm1) → wpX_carryOut post (xT, tr, ep, ind, nI (sk_vs c T), pc, nI D, nI E, nI p, nI t, nI (l + 1), c, a, nm, nv, ps, pst, psk, jm, cp, stk, em, ce, rp, ct, cm)) ∧ (∀ post : SY → Prop, post (nI T, tr, ep, nI D1, nI E1, nI l1, nI t1, c, a, stk1, em1, ce1, po1, yc1, ye1) → wpY_carryOut post (nI T, tr, ep, nI D, nI E, nI l, nI t, c, a, stk, em, ce, po, yc, ye) (nI p)) ∧ sk_K T c D1 E1 p1 t1 l1 rp1 ct1 cm1 po1 yc1 ye1 ∧ sk_M po1 l1 t1 < sk_M po l t)
    ∨ (∃ cur1 : Int32, (∀ post : SX → Prop, post (xT, tr, ep, ind, nI (sk_vs c T), pc, nI D, nI E, cur1, nI t, nI 0, c, a, nm, nv, ps, pst, psk, jm, cp, stk, em, ce, rp, ct, cm) → wpX_carryOut post (xT, tr, ep, ind, nI (sk_vs c T), pc, nI D, nI E, nI p, nI t, nI (l + 1), c, a, nm, nv, ps, pst, psk, jm, cp, stk, em, ce, rp, ct, cm)) ∧ (∀ post : SY → Prop, post (nI T, tr, ep, nI D, nI E, nI 0 - 1, nI t, c, a, stk, em, ce, po, yc, ye) → wpY_carryOut post (nI T, tr, ep, nI D, nI E, nI l, nI t, c, a, stk, em, ce, po, yc, ye) (nI p)))) := by
  have hp := K.2.2.2.2.1.1
  have hl := K.2.2.2.1
  have hi := K.2.2.2.2.1.2.1
  have O := (G.1 p hp).2 hi
  obtain ⟨e, wX, wY, wF⟩ := sw_20 (xT := xT) (tr := tr) (ep := ep) (ind := ind) (pc := pc) (a := a) (nm := nm) (nv := nv) (ps := ps) (pst := pst) (psk := psk) (jm := jm) (cp := cp) (stk := stk) (em := em) (ce := ce) (rp := rp) (ct := ct) (cm := cm) (po := po) (yc := yc) (ye := ye) h80 hp K.1 K.2.1 K.2.2.1 hl G.2.2.2.1 hc
  refine ⟨e, wX, wY, fun he => ?_⟩
  obtain ⟨F1, F2⟩ := wF he
  clear wX wY wF
  obtain ⟨d, rfl⟩ : ∃ d, D = d + 1 := ⟨D - 1, by omega⟩
  have hD := K.1
  by_cases hz : stk d = 0
  · obtain ⟨s, k, u, hR, hj⟩ := (G.2.2.2.2.2.2.1 p hp).2 (Or.inl hc)
    have TT : ∀ q, q < p → sk_Tk c a q := fun q hq => G.1 q (by omega)
    obtain ⟨s1, s2, s3, s4, s5⟩ := sk_Sb TT hR
    exact Or.inl ⟨d, E, s + 1, t + 1, l, _, _, _, _, _, _, _, _, _, fun post h => xc_20T (by omega) hc (by omega) hz hj h, fun post h => yc_20T h80 hp hl hc (by omega) hz hR h, sk_Ka h80 G K (by omega) K.2.1 (by omega) s2 (Or.inr ⟨rfl, F2 hz⟩) s5⟩
  · exact Or.inl ⟨d, E, p + 1, t, l, _, _, _, _, _, _, _, _, _, fun post h => xc_20F (by omega) hc (by omega) hz h, fun post h => yc_20F h80 hp hl hc (by omega) hz h, sk_Kn h80 G K (by omega) K.2.1 rfl (by rw [hc]; decide) (sk_Sc (by rw [hc]; decide))⟩
theorem ss_22 (h80 : T ≤ 80) (G : sk_G T c a nm nv (nI (sk_vs c T)) jm cp) (K : sk_K T c D E p t l rp ct cm po yc ye) (hc : c p = 22) : ∃ e : Int32, (∀ post : Int32 → Prop, post e → wpX_whyStop post (xT, tr, ep, ind, nI (sk_vs c T), pc, nI D, nI E, nI p, nI t, nI (l + 1), c, a, nm, nv, ps, pst, psk, jm, cp, stk, em, ce, rp, ct, cm)) ∧ (∀ post : Int32 → Prop, post e → wpY_obstacle post (nI T, tr, ep, nI D, nI E, nI l, nI t, c, a, stk, em, ce, po, yc, ye) (nI p)) ∧ (e = 0 →
    (∃ (D1 E1 p1 t1 l1 : Nat) (stk1 em1 ce1 rp1 ct1 cm1 po1 yc1 ye1 : Nat → Int32), (∀ post : SX → Prop, post (xT, tr, ep, ind, nI (sk_vs c T), pc, nI D1, nI E1, nI p1, nI t1, nI (l1 + 1), c, a, nm, nv, ps, pst, psk, jm, cp, stk1, em1, ce1, rp1, ct1, cm1) → wpX_carryOut post (xT, tr, ep, ind, nI (sk_vs c T), pc, nI D, nI E, nI p, nI t, nI (l + 1), c, a, nm, nv, ps, pst, psk, jm, cp, stk, em, ce, rp, ct, cm)) ∧ (∀ post : SY → Prop, post (nI T, tr, ep, nI D1, nI E1, nI l1, nI t1, c, a, stk1, em1, ce1, po1, yc1, ye1) → wpY_carryOut post (nI T, tr, ep, nI D, nI E, nI l, nI t, c, a, stk, em, ce, po, yc, ye) (nI p)) ∧ sk_K T c D1 E1 p1 t1 l1 rp1 ct1 cm1 po1 yc1 ye1 ∧ sk_M po1 l1 t1 < sk_M po l t)
    ∨ (∃ cur1 : Int32, (∀ post : SX → Prop, post (xT, tr, ep, ind, nI (sk_vs c T), pc, nI D, nI E, cur1, nI t, nI 0, c, a, nm, nv, ps, pst, psk, jm, cp, stk, em, ce, rp, ct, cm) → wpX_carryOut post (xT, tr, ep, ind, nI (sk_vs c T), pc, nI D, nI E, nI p, nI t, nI (l + 1), c, a, nm, nv, ps, pst, psk, jm, cp, stk, em, ce, rp, ct, cm)) ∧ (∀ post : SY → Prop, post (nI T, tr, ep, nI D, nI E, nI 0 - 1, nI t, c, a, stk, em, ce, po, yc, ye) → wpY_carryOut post (nI T, tr, ep, nI D, nI E, nI l, nI t, c, a, stk, em, ce, po, yc, ye) (nI p)))) := by
  have hp := K.2.2.2.2.1.1
  have hl := K.2.2.2.1
  have hi := K.2.2.2.2.1.2.1
  have O := (G.1 p hp).2 hi
  obtain ⟨e, wX, wY, wF⟩ := sw_22 (xT := xT) (tr := tr) (ep := ep) (ind := ind) (pc := pc) (a := a) (nm := nm) (nv := nv) (ps := ps) (pst := pst) (psk := psk) (jm := jm) (cp := cp) (stk := stk) (em := em) (ce := ce) (rp := rp) (ct := ct) (cm := cm) (po := po) (yc := yc) (ye := ye) h80 hp K.1 K.2.1 K.2.2.1 hl G.2.2.2.1 hc
  refine ⟨e, wX, wY, fun he => ?_⟩
  obtain ⟨F1, F2⟩ := wF he
  clear wX wY wF
  have hD := K.1
  obtain ⟨s, k, u, hR, hj⟩ := (G.2.2.2.2.2.2.1 p hp).2 (Or.inr (Or.inl hc))
  have TT : ∀ q, q < p → sk_Tk c a q := fun q hq => G.1 q (by omega)
  obtain ⟨s1, s2, s3, s4, s5⟩ := sk_Sb TT hR
  exact Or.inl ⟨D, E, s + 1, t + 1, l, _, _, _, _, _, _, _, _, _, fun post h => xc_22 (by omega) hc hj h, fun post h => yc_22 h80 hp hl hc hD hR h, sk_Ka h80 G K hD K.2.1 (by omega) s2 (Or.inr ⟨rfl, F2⟩) s5⟩
theorem ss_23 (h80 : T ≤ 80) (G : sk_G T c a nm nv (nI (sk_vs c T)) jm cp) (K : sk_K T c D E p t l rp ct cm po yc ye) (hc : c p = 23) : ∃ e : Int32, (∀ post : Int32 → Prop, post e → wpX_whyStop post (xT, tr, ep, ind, nI (sk_vs c T), pc, nI D, nI E, nI p, nI t, nI (l + 1), c, a, nm, nv, ps, pst, psk, jm, cp, stk, em, ce, rp, ct, cm)) ∧ (∀ post : Int32 → Prop, post e → wpY_obstacle post (nI T, tr, ep, nI D, nI E, nI l, nI t, c, a, stk, em, ce, po, yc, ye) (nI p)) ∧ (e = 0 →
    (∃ (D1 E1 p1 t1 l1 : Nat) (stk1 em1 ce1 rp1 ct1 cm1 po1 yc1 ye1 : Nat → Int32), (∀ post : SX → Prop, post (xT, tr, ep, ind, nI (sk_vs c T), pc, nI D1, nI E1, nI p1, nI t1, nI (l1 + 1), c, a, nm, nv, ps, pst, psk, jm, cp, stk1, em1, ce1, rp1, ct1, cm1) → wpX_carryOut post (xT, tr, ep, ind, nI (sk_vs c T), pc, nI D, nI E, nI p, nI t, nI (l + 1), c, a, nm, nv, ps, pst, psk, jm, cp, stk, em, ce, rp, ct, cm)) ∧ (∀ post : SY → Prop, post (nI T, tr, ep, nI D1, nI E1, nI l1, nI t1, c, a, stk1, em1, ce1, po1, yc1, ye1) → wpY_carryOut post (nI T, tr, ep, nI D, nI E, nI l, nI t, c, a, stk, em, ce, po, yc, ye) (nI p)) ∧ sk_K T c D1 E1 p1 t1 l1 rp1 ct1 cm1 po1 yc1 ye1 ∧ sk_M po1 l1 t1 < sk_M po l t)
    ∨ (∃ cur1 : Int32, (∀ post : SX → Prop, post (xT, tr, ep, ind, nI (sk_vs c T), pc, nI D, nI E, cur1, nI t, nI 0, c, a, nm, nv, ps, pst, psk, jm, cp, stk, em, ce, rp, ct, cm) → wpX_carryOut post (xT, tr, ep, ind, nI (sk_vs c T), pc, nI D, nI E, nI p, nI t, nI (l + 1), c, a, nm, nv, ps, pst, psk, jm, cp, stk, em, ce, rp, ct, cm)) ∧ (∀ post : SY → Prop, post (nI T, tr, ep, nI D, nI E, nI 0 - 1, nI t, c, a, stk, em, ce, po, yc, ye) → wpY_carryOut post (nI T, tr, ep, nI D, nI E, nI l, nI t, c, a, stk, em, ce, po, yc, ye) (nI p)))) := by
  have hp := K.2.2.2.2.1.1
  have hl := K.2.2.2.1
  have hi := K.2.2.2.2.1.2.1
  have O := (G.1 p hp).2 hi
  obtain ⟨e, wX, wY, wF⟩ := sw_23 (xT := xT) (tr := tr) (ep := ep) (ind := ind) (pc := pc) (a := a) (nm := nm) (nv := nv) (ps := ps) (pst := pst) (psk := psk) (jm := jm) (cp := cp) (stk := stk) (em := em) (ce := ce) (rp := rp) (ct := ct) (cm := cm) (po := po) (yc := yc) (ye := ye) h80 hp K.1 K.2.1 K.2.2.1 hl G.2.2.2.1 hc
  refine ⟨e, wX, wY, fun he => ?_⟩
  obtain ⟨F1, F2⟩ := wF he
  clear wX wY wF
  obtain ⟨d, rfl⟩ : ∃ d, D = d + 1 := ⟨D - 1, by omega⟩
  have hD := K.1
  have l6 := O.2.2.1 (by rw [hc]; decide)
  have hcp := (G.2.2.2.2.2.2.2 p hp).1 hc
  by_cases hz : 0 < stk d
  · exact Or.inl ⟨d, E, p + 1, t, l, _, _, _, _, _, _, _, _, _, fun post h => xc_23T (by omega) hc (by omega) hz hcp (by omega) h, fun post h => yc_23T h80 hp hl hc (by omega) hz h, sk_Kt h80 G K (by omega) hc⟩
  · obtain ⟨b, b1, b2, b3, b4, b5, b6⟩ := (G.2.2.2.2.2.2.1 p hp).1 (Or.inr (Or.inr (Or.inr hc)))
    have b7 := sk_lt G (p := b + 1) (by omega) b5
    rw [show decide (c p = 16) = false from decide_eq_false (by rw [hc]; decide)] at b4
    exact Or.inl ⟨d, E, b + 1, t, l, _, _, _, _, _, _, _, _, _, fun post h => xc_23F (by omega) hc (by omega) hz b3 h, fun post h => yc_23F h80 hp hl hc (by omega) hz b4 h, sk_Ku h80 G K (by omega) b7 b5 (by omega) b6⟩
theorem ss_24 (h80 : T ≤ 80) (G : sk_G T c a nm nv (nI (sk_vs c T)) jm cp) (K : sk_K T c D E p t l rp ct cm po yc ye) (hc : c p = 24) : ∃ e : Int32, (∀ post : Int32 → Prop, post e → wpX_whyStop post (xT, tr, ep, ind, nI (sk_vs c T), pc, nI D, nI E, nI p, nI t, nI (l + 1), c, a, nm, nv, ps, pst, psk, jm, cp, stk, em, ce, rp, ct, cm)) ∧ (∀ post : Int32 → Prop, post e → wpY_obstacle post (nI T, tr, ep, nI D, nI E, nI l, nI t, c, a, stk, em, ce, po, yc, ye) (nI p)) ∧ (e = 0 →
    (∃ (D1 E1 p1 t1 l1 : Nat) (stk1 em1 ce1 rp1 ct1 cm1 po1 yc1 ye1 : Nat → Int32), (∀ post : SX → Prop, post (xT, tr, ep, ind, nI (sk_vs c T), pc, nI D1, nI E1, nI p1, nI t1, nI (l1 + 1), c, a, nm, nv, ps, pst, psk, jm, cp, stk1, em1, ce1, rp1, ct1, cm1) → wpX_carryOut post (xT, tr, ep, ind, nI (sk_vs c T), pc, nI D, nI E, nI p, nI t, nI (l + 1), c, a, nm, nv, ps, pst, psk, jm, cp, stk, em, ce, rp, ct, cm)) ∧ (∀ post : SY → Prop, post (nI T, tr, ep, nI D1, nI E1, nI l1, nI t1, c, a, stk1, em1, ce1, po1, yc1, ye1) → wpY_carryOut post (nI T, tr, ep, nI D, nI E, nI l, nI t, c, a, stk, em, ce, po, yc, ye) (nI p)) ∧ sk_K T c D1 E1 p1 t1 l1 rp1 ct1 cm1 po1 yc1 ye1 ∧ sk_M po1 l1 t1 < sk_M po l t)
    ∨ (∃ cur1 : Int32, (∀ post : SX → Prop, post (xT, tr, ep, ind, nI (sk_vs c T), pc, nI D, nI E, cur1, nI t, nI 0, c, a, nm, nv, ps, pst, psk, jm, cp, stk, em, ce, rp, ct, cm) → wpX_carryOut post (xT, tr, ep, ind, nI (sk_vs c T), pc, nI D, nI E, nI p, nI t, nI (l + 1), c, a, nm, nv, ps, pst, psk, jm, cp, stk, em, ce, rp, ct, cm)) ∧ (∀ post : SY → Prop, post (nI T, tr, ep, nI D, nI E, nI 0 - 1, nI t, c, a, stk, em, ce, po, yc, ye) → wpY_carryOut post (nI T, tr, ep, nI D, nI E, nI l, nI t, c, a, stk, em, ce, po, yc, ye) (nI p)))) := by
  have hp := K.2.2.2.2.1.1
  have hl := K.2.2.2.1
  have hi := K.2.2.2.2.1.2.1
  have O := (G.1 p hp).2 hi
  obtain ⟨e, wX, wY, wF⟩ := sw_24 (xT := xT) (tr := tr) (ep := ep) (ind := ind) (pc := pc) (a := a) (nm := nm) (nv := nv) (ps := ps) (pst := pst) (psk := psk) (jm := jm) (cp := cp) (stk := stk) (em := em) (ce := ce) (rp := rp) (ct := ct) (cm := cm) (po := po) (yc := yc) (ye := ye) h80 hp K.1 K.2.1 K.2.2.1 hl G.2.2.2.1 hc
  refine ⟨e, wX, wY, fun he => ?_⟩
  obtain ⟨F1, F2⟩ := wF he
  clear wX wY wF
  have hD := K.1
  obtain ⟨s, k, u, hR, hj⟩ := (G.2.2.2.2.2.2.1 p hp).2 (Or.inr (Or.inr hc))
  have TT : ∀ q, q < p → sk_Tk c a q := fun q hq => G.1 q (by omega)
  obtain ⟨s1, s2, s3, s4, s5⟩ := sk_Sb TT hR
  obtain ⟨s', k', u', hR', hcp⟩ := (G.2.2.2.2.2.2.2 p hp).2.1 hc
  rw [hR] at hR'
  cases hR'
  have hk23 : c k = 23 := by
    have := O.2.2.2.2.2.2.2.2.1 hc
    rw [hR] at this
    exact this
  have l6 := sk_R6 TT
  rw [hR, List.length_cons] at l6
  have cn := K.2.2.2.2.1.2.2.2 (s, k) (by rw [hR]; exact List.mem_cons_self ..) (s4.mp hk23)
  have cn : ct (l * 6 + (sk_R c s).length) = yc (80 * l + s) ∧ cm (l * 6 + (sk_R c s).length) = ye (80 * l + s) := cn
  rw [s3] at cn
  obtain ⟨cn1, cn2⟩ := cn
  have nn := sk_nx G hp hi (by rw [hc]; decide)
  by_cases hk : cm (l * 6 + u.length) ≤ ct (l * 6 + u.length) + 1
  · exact Or.inl ⟨D, E, p + 1, t + 1, l, stk, em, ce, rp, upd ct (l * 6 + u.length) (ct (l * 6 + u.length) + 1), cm, upd po l (nI (p + 1)), upd yc (80 * l + s) (ct (l * 6 + u.length) + 1), ye, fun post h => xc_24T (by omega) hc hcp (by omega) hk h, fun post h => yc_24T h80 hp hl hc hD hR (by omega) (by rw [← cn1, ← cn2]; exact hk) (by rw [← cn1]; exact h), sk_Kx h80 G K F2 hR s3 nn.1 nn.2 (sk_Sc (by rw [hc]; decide))⟩
  · exact Or.inl ⟨D, E, s + 1, t + 1, l, stk, em, ce, rp, upd ct (l * 6 + u.length) (ct (l * 6 + u.length) + 1), cm, upd po l (nI (s + 1)), upd yc (80 * l + s) (ct (l * 6 + u.length) + 1), ye, fun post h => xc_24F (by omega) hc hcp (by omega) hk hj h, fun post h => yc_24F h80 hp hl hc hD hR (by omega) (by rw [← cn1, ← cn2]; exact hk) (by rw [← cn1]; exact h), sk_Kx h80 G K F2 hR s3 (by omega) s2 s5⟩
theorem ss_25 (h80 : T ≤ 80) (G : sk_G T c a nm nv (nI (sk_vs c T)) jm cp) (K : sk_K T c D E p t l rp ct cm po yc ye) (hc : c p = 25) : ∃ e : Int32, (∀ post : Int32 → Prop, post e → wpX_whyStop post (xT, tr, ep, ind, nI (sk_vs c T), pc, nI D, nI E, nI p, nI t, nI (l + 1), c, a, nm, nv, ps, pst, psk, jm, cp, stk, em, ce, rp, ct, cm)) ∧ (∀ post : Int32 → Prop, post e → wpY_obstacle post (nI T, tr, ep, nI D, nI E, nI l, nI t, c, a, stk, em, ce, po, yc, ye) (nI p)) ∧ (e = 0 →
    (∃ (D1 E1 p1 t1 l1 : Nat) (stk1 em1 ce1 rp1 ct1 cm1 po1 yc1 ye1 : Nat → Int32), (∀ post : SX → Prop, post (xT, tr, ep, ind, nI (sk_vs c T), pc, nI D1, nI E1, nI p1, nI t1, nI (l1 + 1), c, a, nm, nv, ps, pst, psk, jm, cp, stk1, em1, ce1, rp1, ct1, cm1) → wpX_carryOut post (xT, tr, ep, ind, nI (sk_vs c T), pc, nI D, nI E, nI p, nI t, nI (l + 1), c, a, nm, nv, ps, pst, psk, jm, cp, stk, em, ce, rp, ct, cm)) ∧ (∀ post : SY → Prop, post (nI T, tr, ep, nI D1, nI E1, nI l1, nI t1, c, a, stk1, em1, ce1, po1, yc1, ye1) → wpY_carryOut post (nI T, tr, ep, nI D, nI E, nI l, nI t, c, a, stk, em, ce, po, yc, ye) (nI p)) ∧ sk_K T c D1 E1 p1 t1 l1 rp1 ct1 cm1 po1 yc1 ye1 ∧ sk_M po1 l1 t1 < sk_M po l t)
    ∨ (∃ cur1 : Int32, (∀ post : SX → Prop, post (xT, tr, ep, ind, nI (sk_vs c T), pc, nI D, nI E, cur1, nI t, nI 0, c, a, nm, nv, ps, pst, psk, jm, cp, stk, em, ce, rp, ct, cm) → wpX_carryOut post (xT, tr, ep, ind, nI (sk_vs c T), pc, nI D, nI E, nI p, nI t, nI (l + 1), c, a, nm, nv, ps, pst, psk, jm, cp, stk, em, ce, rp, ct, cm)) ∧ (∀ post : SY → Prop, post (nI T, tr, ep, nI D, nI E, nI 0 - 1, nI t, c, a, stk, em, ce, po, yc, ye) → wpY_carryOut post (nI T, tr, ep, nI D, nI E, nI l, nI t, c, a, stk, em, ce, po, yc, ye) (nI p)))) := by
  have hp := K.2.2.2.2.1.1
  have hl := K.2.2.2.1
  have hi := K.2.2.2.2.1.2.1
  have O := (G.1 p hp).2 hi
  obtain ⟨e, wX, wY, wF⟩ := sw_25 (xT := xT) (tr := tr) (ep := ep) (ind := ind) (pc := pc) (a := a) (nm := nm) (nv := nv) (ps := ps) (pst := pst) (psk := psk) (jm := jm) (cp := cp) (stk := stk) (em := em) (ce := ce) (rp := rp) (ct := ct) (cm := cm) (po := po) (yc := yc) (ye := ye) h80 hp K.1 K.2.1 K.2.2.1 hl G.2.2.2.1 hc
  refine ⟨e, wX, wY, fun he => ?_⟩
  obtain ⟨F1, F2⟩ := wF he
  clear wX wY wF
  have hD := K.1
  have TT : ∀ q, q < p → sk_Tk c a q := fun q hq => G.1 q (by omega)
  have hcp := (G.2.2.2.2.2.2.2 p hp).2.2 hc
  have l6 := sk_R6 TT
  have H := (sk_HIa TT).1
  rcases sk_tmS H with ⟨z, _⟩ | ⟨q, k, u, _, z2, z3, z4, z5, z6, z7⟩
  · exact absurd z (O.2.2.2.2.2.2.2.2.2.1 hc)
  · rw [z2] at hcp
    have hq := sk_HIlt (x := (q, k)) H z4
    have hq : q < p := hq
    have cn := K.2.2.2.2.1.2.2.2 (q, k) z4 z5
    have cn : ct (l * 6 + (sk_R c q).length) = yc (80 * l + q) ∧ cm (l * 6 + (sk_R c q).length) = ye (80 * l + q) := cn
    rw [z6] at cn
    exact Or.inl ⟨D + 1, E, p + 1, t, l, upd stk D (ct (l * 6 + u.length)), em, ce, rp, ct, cm, upd po l (nI (p + 1)), yc, ye, fun post h => xc_25 (by omega) hc F2 hcp (by omega) h, fun post h => yc_25 (by omega) hl hc (by omega) z3 F2 (by rw [← cn.1]; exact h), sk_Kn h80 G K (by omega) K.2.1 rfl (by rw [hc]; decide) (sk_Sp (sk_Rpl (by rw [hc]; decide) (by rw [hc]; decide) (by rw [hc]; decide) (by rw [hc]; decide)))⟩
theorem ss_27 (h80 : T ≤ 80) (G : sk_G T c a nm nv (nI (sk_vs c T)) jm cp) (K : sk_K T c D E p t l rp ct cm po yc ye) (hc : c p = 27) : ∃ e : Int32, (∀ post : Int32 → Prop, post e → wpX_whyStop post (xT, tr, ep, ind, nI (sk_vs c T), pc, nI D, nI E, nI p, nI t, nI (l + 1), c, a, nm, nv, ps, pst, psk, jm, cp, stk, em, ce, rp, ct, cm)) ∧ (∀ post : Int32 → Prop, post e → wpY_obstacle post (nI T, tr, ep, nI D, nI E, nI l, nI t, c, a, stk, em, ce, po, yc, ye) (nI p)) ∧ (e = 0 →
    (∃ (D1 E1 p1 t1 l1 : Nat) (stk1 em1 ce1 rp1 ct1 cm1 po1 yc1 ye1 : Nat → Int32), (∀ post : SX → Prop, post (xT, tr, ep, ind, nI (sk_vs c T), pc, nI D1, nI E1, nI p1, nI t1, nI (l1 + 1), c, a, nm, nv, ps, pst, psk, jm, cp, stk1, em1, ce1, rp1, ct1, cm1) → wpX_carryOut post (xT, tr, ep, ind, nI (sk_vs c T), pc, nI D, nI E, nI p, nI t, nI (l + 1), c, a, nm, nv, ps, pst, psk, jm, cp, stk, em, ce, rp, ct, cm)) ∧ (∀ post : SY → Prop, post (nI T, tr, ep, nI D1, nI E1, nI l1, nI t1, c, a, stk1, em1, ce1, po1, yc1, ye1) → wpY_carryOut post (nI T, tr, ep, nI D, nI E, nI l, nI t, c, a, stk, em, ce, po, yc, ye) (nI p)) ∧ sk_K T c D1 E1 p1 t1 l1 rp1 ct1 cm1 po1 yc1 ye1 ∧ sk_M po1 l1 t1 < sk_M po l t)
    ∨ (∃ cur1 : Int32, (∀ post : SX → Prop, post (xT, tr, ep, ind, nI (sk_vs c T), pc, nI D, nI E, cur1, nI t, nI 0, c, a, nm, nv, ps, pst, psk, jm, cp, stk, em, ce, rp, ct, cm) → wpX_carryOut post (xT, tr, ep, ind, nI (sk_vs c T), pc, nI D, nI E, nI p, nI t, nI (l + 1), c, a, nm, nv, ps, pst, psk, jm, cp, stk, em, ce, rp, ct, cm)) ∧ (∀ post : SY → Prop, post (nI T, tr, ep, nI D, nI E, nI 0 - 1, nI t, c, a, stk, em, ce, po, yc, ye) → wpY_carryOut post (nI T, tr, ep, nI D, nI E, nI l, nI t, c, a, stk, em, ce, po, yc, ye) (nI p)))) := by
  have hp := K.2.2.2.2.1.1
  have hl := K.2.2.2.1
  have hi := K.2.2.2.2.1.2.1
  have O := (G.1 p hp).2 hi
  obtain ⟨e, wX, wY, wF⟩ := sw_27 (xT := xT) (tr := tr) (ep := ep) (ind := ind) (pc := pc) (a := a) (nm := nm) (nv := nv) (ps := ps) (pst := pst) (psk := psk) (jm := jm) (cp := cp) (stk := stk) (em := em) (ce := ce) (rp := rp) (ct := ct) (cm := cm) (po := po) (yc := yc) (ye := ye) h80 hp K.1 K.2.1 K.2.2.1 hl G.2.2.2.1 hc
  refine ⟨e, wX, wY, fun he => ?_⟩
  obtain ⟨F1, F2⟩ := wF he
  clear wX wY wF
  have hD := K.1
  cases l with
  | zero => exact Or.inr ⟨rp 0, fun post h => xc_27 (by omega) hc (by omega) h, fun post h => yc_27 (by omega) hc h⟩
  | succ l =>
    obtain ⟨p1, hrp, K1, M1⟩ := sk_Ke h80 K
    refine Or.inl ⟨D, E, p1, t, l, stk, em, ce, rp, ct, cm, po, yc, ye, fun post h => xc_27 (by omega) hc (by omega) ?_, fun post h => yc_27 (by omega) hc ?_, K1, M1⟩
    · rw [hrp]; exact h
    · rw [nI_pred]; exact h
theorem ss_15 (h80 : T ≤ 80) (G : sk_G T c a nm nv (nI (sk_vs c T)) jm cp) (K : sk_K T c D E p t l rp ct cm po yc ye) (hc : c p = 15) : ∃ e : Int32, (∀ post : Int32 → Prop, post e → wpX_whyStop post (xT, tr, ep, ind, nI (sk_vs c T), pc, nI D, nI E, nI p, nI t, nI (l + 1), c, a, nm, nv, ps, pst, psk, jm, cp, stk, em, ce, rp, ct, cm)) ∧ (∀ post : Int32 → Prop, post e → wpY_obstacle post (nI T, tr, ep, nI D, nI E, nI l, nI t, c, a, stk, em, ce, po, yc, ye) (nI p)) ∧ (e = 0 →
    (∃ (D1 E1 p1 t1 l1 : Nat) (stk1 em1 ce1 rp1 ct1 cm1 po1 yc1 ye1 : Nat → Int32), (∀ post : SX → Prop, post (xT, tr, ep, ind, nI (sk_vs c T), pc, nI D1, nI E1, nI p1, nI t1, nI (l1 + 1), c, a, nm, nv, ps, pst, psk, jm, cp, stk1, em1, ce1, rp1, ct1, cm1) → wpX_carryOut post (xT, tr, ep, ind, nI (sk_vs c T), pc, nI D, nI E, nI p, nI t, nI (l + 1), c, a, nm, nv, ps, pst, psk, jm, cp, stk, em, ce, rp, ct, cm)) ∧ (∀ post : SY → Prop, post (nI T, tr, ep, nI D1, nI E1, nI l1, nI t1, c, a, stk1, em1, ce1, po1, yc1, ye1) → wpY_carryOut post (nI T, tr, ep, nI D, nI E, nI l, nI t, c, a, stk, em, ce, po, yc, ye) (nI p)) ∧ sk_K T c D1 E1 p1 t1 l1 rp1 ct1 cm1 po1 yc1 ye1 ∧ sk_M po1 l1 t1 < sk_M po l t)
    ∨ (∃ cur1 : Int32, (∀ post : SX → Prop, post (xT, tr, ep, ind, nI (sk_vs c T), pc, nI D, nI E, cur1, nI t, nI 0, c, a, nm, nv, ps, pst, psk, jm, cp, stk, em, ce, rp, ct, cm) → wpX_carryOut post (xT, tr, ep, ind, nI (sk_vs c T), pc, nI D, nI E, nI p, nI t, nI (l + 1), c, a, nm, nv, ps, pst, psk, jm, cp, stk, em, ce, rp, ct, cm)) ∧ (∀ post : SY → Prop, post (nI T, tr, ep, nI D, nI E, nI 0 - 1, nI t, c, a, stk, em, ce, po, yc, ye) → wpY_carryOut post (nI T, tr, ep, nI D, nI E, nI l, nI t, c, a, stk, em, ce, po, yc, ye) (nI p)))) := by
  have hp := K.2.2.2.2.1.1
  have hl := K.2.2.2.1
  have hi := K.2.2.2.2.1.2.1
  have O := (G.1 p hp).2 hi
  obtain ⟨n, hn, ha, hnz⟩ := G.2.2.2.2.2.1 p hp hc
  rcases G.2.2.2.2.1 n hn with ⟨z, _⟩ | ⟨q, hq, hd, hlq, hm⟩
  · exact absurd z hnz
  · obtain ⟨e, wX, wY, wF⟩ := sw_15 (xT := xT) (tr := tr) (ep := ep) (ind := ind) (pc := pc) (a := a) (nm := nm) (nv := nv) (ps := ps) (pst := pst) (psk := psk) (jm := jm) (cp := cp) (stk := stk) (em := em) (ce := ce) (rp := rp) (ct := ct) (cm := cm) (po := po) (yc := yc) (ye := ye) h80 hp K.1 K.2.1 K.2.2.1 hl G.2.2.2.1 hc hn ha hq hd hlq (hm.elim (fun y => Or.inl ⟨y.1, y.2.1⟩) (fun y => Or.inr ⟨y.1, y.2.1⟩))
    refine ⟨e, wX, wY, fun he => ?_⟩
    obtain ⟨F1, F2⟩ := wF he
    clear wX wY wF
    rcases hm with ⟨h26, m1, m2⟩ | ⟨h28, m1, m2⟩
    · obtain ⟨f1, f2⟩ := F1 m1
      exact Or.inl ⟨D, E, q + 1, t + 1, l + 1, stk, em, ce, upd rp (l + 1) (nI (p + 1)), ct, cm, upd (upd po l (nI (p + 1))) (l + 1) (nI (q + 1)), yc, ye, fun post h => xc_15W (by omega) hc hn ha f2 (by rw [m1]; decide) (by rw [m2]; exact h), fun post h => yc_15W h80 hp f2 hc ha hq hd hlq h26 h, sk_Kc h80 G K f1 f2 hc hq h26⟩
    · exact Or.inl ⟨D + 1, E, p + 1, t, l, upd stk D (nI (sk_vs c q)), em, ce, rp, ct, cm, upd po l (nI (p + 1)), yc, ye, fun post h => xc_15V (by omega) hc hn ha (F2 m1) m1 (by rw [m2]; exact h), fun post h => yc_15V h80 hp hl hc ha hq hd hlq (by rw [h28]; decide) (F2 m1) h, sk_Kn h80 G K (F2 m1) K.2.1 rfl (by rw [hc]; decide) (sk_Sp (sk_Rpl (by rw [hc]; decide) (by rw [hc]; decide) (by rw [hc]; decide) (by rw [hc]; decide)))⟩
theorem sk_28 {x : Int32} (h0 : ¬ x < 0) (h27 : ¬ 27 < x) : x = 0 ∨ x = 1 ∨ x = 2 ∨ x = 3 ∨ x = 4 ∨ x = 5 ∨ x = 6 ∨ x = 7 ∨ x = 8 ∨ x = 9 ∨ x = 10 ∨ x = 11 ∨ x = 12 ∨ x = 13 ∨ x = 14 ∨ x = 15 ∨ x = 16 ∨ x = 17 ∨ x = 18 ∨ x = 19 ∨ x = 20 ∨ x = 21 ∨ x = 22 ∨ x = 23 ∨ x = 24 ∨ x = 25 ∨ x = 26 ∨ x = 27 := by
  obtain ⟨j, hj, rfl⟩ := nI_of2 (M := 27) (n := 27) (by decide) h0 (Int32.not_lt.mp h27)
  have : j = 0 ∨ j = 1 ∨ j = 2 ∨ j = 3 ∨ j = 4 ∨ j = 5 ∨ j = 6 ∨ j = 7 ∨ j = 8 ∨ j = 9 ∨ j = 10 ∨ j = 11 ∨ j = 12 ∨ j = 13 ∨ j = 14 ∨ j = 15 ∨ j = 16 ∨ j = 17 ∨ j = 18 ∨ j = 19 ∨ j = 20 ∨ j = 21 ∨ j = 22 ∨ j = 23 ∨ j = 24 ∨ j = 25 ∨ j = 26 ∨ j = 27 := by omega
  rcases this with h | h | h | h | h | h | h | h | h | h | h | h | h | h | h | h | h | h | h | h | h | h | h | h | h | h | h | h <;> subst h <;> decide
theorem ss_all (h80 : T ≤ 80) (G : sk_G T c a nm nv (nI (sk_vs c T)) jm cp) (K : sk_K T c D E p t l rp ct cm po yc ye) : ∃ e : Int32, (∀ post : Int32 → Prop, post e → wpX_whyStop post (xT, tr, ep, ind, nI (sk_vs c T), pc, nI D, nI E, nI p, nI t, nI (l + 1), c, a, nm, nv, ps, pst, psk, jm, cp, stk, em, ce, rp, ct, cm)) ∧ (∀ post : Int32 → Prop, post e → wpY_obstacle post (nI T, tr, ep, nI D, nI E, nI l, nI t, c, a, stk, em, ce, po, yc, ye) (nI p)) ∧ (e = 0 →
    (∃ (D1 E1 p1 t1 l1 : Nat) (stk1 em1 ce1 rp1 ct1 cm1 po1 yc1 ye1 : Nat → Int32), (∀ post : SX → Prop, post (xT, tr, ep, ind, nI (sk_vs c T), pc, nI D1, nI E1, nI p1, nI t1, nI (l1 + 1), c, a, nm, nv, ps, pst, psk, jm, cp, stk1, em1, ce1, rp1, ct1, cm1) → wpX_carryOut post (xT, tr, ep, ind, nI (sk_vs c T), pc, nI D, nI E, nI p, nI t, nI (l + 1), c, a, nm, nv, ps, pst, psk, jm, cp, stk, em, ce, rp, ct, cm)) ∧ (∀ post : SY → Prop, post (nI T, tr, ep, nI D1, nI E1, nI l1, nI t1, c, a, stk1, em1, ce1, po1, yc1, ye1) → wpY_carryOut post (nI T, tr, ep, nI D, nI E, nI l, nI t, c, a, stk, em, ce, po, yc, ye) (nI p)) ∧ sk_K T c D1 E1 p1 t1 l1 rp1 ct1 cm1 po1 yc1 ye1 ∧ sk_M po1 l1 t1 < sk_M po l t)
    ∨ (∃ cur1 : Int32, (∀ post : SX → Prop, post (xT, tr, ep, ind, nI (sk_vs c T), pc, nI D, nI E, cur1, nI t, nI 0, c, a, nm, nv, ps, pst, psk, jm, cp, stk, em, ce, rp, ct, cm) → wpX_carryOut post (xT, tr, ep, ind, nI (sk_vs c T), pc, nI D, nI E, nI p, nI t, nI (l + 1), c, a, nm, nv, ps, pst, psk, jm, cp, stk, em, ce, rp, ct, cm)) ∧ (∀ post : SY → Prop, post (nI T, tr, ep, nI D, nI E, nI 0 - 1, nI t, c, a, stk, em, ce, po, yc, ye) → wpY_carryOut post (nI T, tr, ep, nI D, nI E, nI l, nI t, c, a, stk, em, ce, po, yc, ye) (nI p)))) := by
  have O := (G.1 p K.2.2.2.2.1.1).2 K.2.2.2.2.1.2.1
  rcases sk_28 O.1.1 O.1.2.1 with h | h | h | h | h | h | h | h | h | h | h | h | h | h | h | h | h | h | h | h | h | h | h | h | h | h | h | h
  · exact ss_0 h80 G K h
  · exact ss_1 h80 G K h
  · exact ss_2 h80 G K h
  · exact ss_3 h80 G K h
  · exact ss_4 h80 G K h
  · exact ss_5 h80 G K h
  · exact ss_6 h80 G K h
  · exact ss_7 h80 G K h
  · exact ss_8 h80 G K h
  · exact ss_9 h80 G K h
  · exact ss_10 h80 G K h
  · exact ss_11 h80 G K h
  · exact ss_12 h80 G K h
  · exact ss_13 h80 G K h
  · exact ss_14 h80 G K h
  · exact ss_15 h80 G K h
  · exact ss_16 h80 G K h
  · exact ss_17 h80 G K h
  · exact ss_18 h80 G K h
  · exact ss_19 h80 G K h
  · exact ss_20 h80 G K h
  · exact ss_21 h80 G K h
  · exact ss_22 h80 G K h
  · exact ss_23 h80 G K h
  · exact ss_24 h80 G K h
  · exact ss_25 h80 G K h
  · exact absurd h O.1.2.2
  · exact ss_27 h80 G K h
end
