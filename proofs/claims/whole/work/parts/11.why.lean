section
variable {xT tr ep ind vc pc xD xE cur tu ca yT yD yE lv yt : Int32} {c a nm nv ps pst psk jm cp stk em ce rp ct cm po yc ye : Nat → Int32}
variable {T D E p t l : Nat}
theorem sx_nt0 {post : Int32 → Prop} (h : post 0) : wpX_numbersTaken post (xT, tr, ep, ind, vc, pc, xD, xE, cur, tu, ca, c, a, nm, nv, ps, pst, psk, jm, cp, stk, em, ce, rp, ct, cm) 0 := br_t (by decide) (h)
theorem sy_tk0 {post : Int32 → Prop} (h : post 0) : wpY_takes post 0 := br_t (by decide) (br_f (by decide) (br_f (by decide) (br_f (by decide) (br_f (by decide) (br_f (by decide) (br_f (by decide) (br_f (by decide) (br_f (by decide) (br_f (by decide) (br_f (by decide) (br_f (by decide) (br_f (by decide) (br_f (by decide) (br_f (by decide) (h)))))))))))))))
theorem sx_ns0 {post : Int32 → Prop} (h : post 0) : wpX_namedStop post (xT, tr, ep, ind, vc, pc, xD, xE, cur, tu, ca, c, a, nm, nv, ps, pst, psk, jm, cp, stk, em, ce, rp, ct, cm) 0 := br_t (by decide) (h)
theorem sx_ad0 {post : Int32 → Prop} (h : post 1) : wpX_addsNumber post (xT, tr, ep, ind, vc, pc, xD, xE, cur, tu, ca, c, a, nm, nv, ps, pst, psk, jm, cp, stk, em, ce, rp, ct, cm) 0 := br_t rfl (h)
theorem sx_nt1 {post : Int32 → Prop} (h : post 2) : wpX_numbersTaken post (xT, tr, ep, ind, vc, pc, xD, xE, cur, tu, ca, c, a, nm, nv, ps, pst, psk, jm, cp, stk, em, ce, rp, ct, cm) 1 := br_f (by decide) (br_f (by decide) (br_t rfl (h)))
theorem sy_tk1 {post : Int32 → Prop} (h : post 2) : wpY_takes post 1 := br_f (by decide) (br_t (by decide) (h))
theorem sx_ns1 {post : Int32 → Prop} (h : post 0) : wpX_namedStop post (xT, tr, ep, ind, vc, pc, xD, xE, cur, tu, ca, c, a, nm, nv, ps, pst, psk, jm, cp, stk, em, ce, rp, ct, cm) 1 := br_t (by decide) (h)
theorem sx_ad1 {post : Int32 → Prop} (h : post 0) : wpX_addsNumber post (xT, tr, ep, ind, vc, pc, xD, xE, cur, tu, ca, c, a, nm, nv, ps, pst, psk, jm, cp, stk, em, ce, rp, ct, cm) 1 := br_f (by decide) (br_f (by decide) (br_f (by decide) (br_f (by decide) (br_f (by decide) (h)))))
theorem sx_nt2 {post : Int32 → Prop} (h : post 2) : wpX_numbersTaken post (xT, tr, ep, ind, vc, pc, xD, xE, cur, tu, ca, c, a, nm, nv, ps, pst, psk, jm, cp, stk, em, ce, rp, ct, cm) 2 := br_f (by decide) (br_f (by decide) (br_f (by decide) (br_t rfl (h))))
theorem sy_tk2 {post : Int32 → Prop} (h : post 2) : wpY_takes post 2 := br_f (by decide) (br_t (by decide) (h))
theorem sx_ns2 {post : Int32 → Prop} (h : post 0) : wpX_namedStop post (xT, tr, ep, ind, vc, pc, xD, xE, cur, tu, ca, c, a, nm, nv, ps, pst, psk, jm, cp, stk, em, ce, rp, ct, cm) 2 := br_t (by decide) (h)
theorem sx_ad2 {post : Int32 → Prop} (h : post 0) : wpX_addsNumber post (xT, tr, ep, ind, vc, pc, xD, xE, cur, tu, ca, c, a, nm, nv, ps, pst, psk, jm, cp, stk, em, ce, rp, ct, cm) 2 := br_f (by decide) (br_f (by decide) (br_f (by decide) (br_f (by decide) (br_f (by decide) (h)))))
theorem sx_nt3 {post : Int32 → Prop} (h : post 2) : wpX_numbersTaken post (xT, tr, ep, ind, vc, pc, xD, xE, cur, tu, ca, c, a, nm, nv, ps, pst, psk, jm, cp, stk, em, ce, rp, ct, cm) 3 := br_f (by decide) (br_f (by decide) (br_f (by decide) (br_f (by decide) (br_t rfl (h)))))
theorem sy_tk3 {post : Int32 → Prop} (h : post 2) : wpY_takes post 3 := br_f (by decide) (br_t (by decide) (h))
theorem sx_ns3 {post : Int32 → Prop} (h : post 0) : wpX_namedStop post (xT, tr, ep, ind, vc, pc, xD, xE, cur, tu, ca, c, a, nm, nv, ps, pst, psk, jm, cp, stk, em, ce, rp, ct, cm) 3 := br_t (by decide) (h)
theorem sx_ad3 {post : Int32 → Prop} (h : post 0) : wpX_addsNumber post (xT, tr, ep, ind, vc, pc, xD, xE, cur, tu, ca, c, a, nm, nv, ps, pst, psk, jm, cp, stk, em, ce, rp, ct, cm) 3 := br_f (by decide) (br_f (by decide) (br_f (by decide) (br_f (by decide) (br_f (by decide) (h)))))
theorem sx_nt4 {post : Int32 → Prop} (h : post 2) : wpX_numbersTaken post (xT, tr, ep, ind, vc, pc, xD, xE, cur, tu, ca, c, a, nm, nv, ps, pst, psk, jm, cp, stk, em, ce, rp, ct, cm) 4 := br_f (by decide) (br_f (by decide) (br_f (by decide) (br_f (by decide) (br_f (by decide) (br_t rfl (h))))))
theorem sy_tk4 {post : Int32 → Prop} (h : post 2) : wpY_takes post 4 := br_f (by decide) (br_t (by decide) (h))
theorem sx_ad4 {post : Int32 → Prop} (h : post 0) : wpX_addsNumber post (xT, tr, ep, ind, vc, pc, xD, xE, cur, tu, ca, c, a, nm, nv, ps, pst, psk, jm, cp, stk, em, ce, rp, ct, cm) 4 := br_f (by decide) (br_f (by decide) (br_f (by decide) (br_f (by decide) (br_f (by decide) (h)))))
theorem sx_nt5 {post : Int32 → Prop} (h : post 1) : wpX_numbersTaken post (xT, tr, ep, ind, vc, pc, xD, xE, cur, tu, ca, c, a, nm, nv, ps, pst, psk, jm, cp, stk, em, ce, rp, ct, cm) 5 := br_f (by decide) (br_f (by decide) (br_f (by decide) (br_f (by decide) (br_f (by decide) (br_f (by decide) (br_t rfl (h)))))))
theorem sy_tk5 {post : Int32 → Prop} (h : post 1) : wpY_takes post 5 := br_f (by decide) (br_f (by decide) (br_f (by decide) (br_f (by decide) (br_f (by decide) (br_f (by decide) (br_f (by decide) (br_f (by decide) (br_t rfl (h)))))))))
theorem sx_ns5 {post : Int32 → Prop} (h : post 0) : wpX_namedStop post (xT, tr, ep, ind, vc, pc, xD, xE, cur, tu, ca, c, a, nm, nv, ps, pst, psk, jm, cp, stk, em, ce, rp, ct, cm) 5 := br_f (by decide) (br_f (by decide) (br_f (by decide) (br_t rfl (h))))
theorem sx_ad5 {post : Int32 → Prop} (h : post 1) : wpX_addsNumber post (xT, tr, ep, ind, vc, pc, xD, xE, cur, tu, ca, c, a, nm, nv, ps, pst, psk, jm, cp, stk, em, ce, rp, ct, cm) 5 := br_f (by decide) (br_t rfl (h))
theorem sx_nt6 {post : Int32 → Prop} (h : post 1) : wpX_numbersTaken post (xT, tr, ep, ind, vc, pc, xD, xE, cur, tu, ca, c, a, nm, nv, ps, pst, psk, jm, cp, stk, em, ce, rp, ct, cm) 6 := br_f (by decide) (br_f (by decide) (br_f (by decide) (br_f (by decide) (br_f (by decide) (br_f (by decide) (br_f (by decide) (br_t rfl (h))))))))
theorem sy_tk6 {post : Int32 → Prop} (h : post 1) : wpY_takes post 6 := br_f (by decide) (br_f (by decide) (br_f (by decide) (br_f (by decide) (br_f (by decide) (br_f (by decide) (br_f (by decide) (br_f (by decide) (br_f (by decide) (br_t rfl (h))))))))))
theorem sx_ns6 {post : Int32 → Prop} (h : post 0) : wpX_namedStop post (xT, tr, ep, ind, vc, pc, xD, xE, cur, tu, ca, c, a, nm, nv, ps, pst, psk, jm, cp, stk, em, ce, rp, ct, cm) 6 := br_f (by decide) (br_f (by decide) (br_f (by decide) (br_f (by decide) (br_t rfl (h)))))
theorem sx_ad6 {post : Int32 → Prop} (h : post 0) : wpX_addsNumber post (xT, tr, ep, ind, vc, pc, xD, xE, cur, tu, ca, c, a, nm, nv, ps, pst, psk, jm, cp, stk, em, ce, rp, ct, cm) 6 := br_f (by decide) (br_f (by decide) (br_f (by decide) (br_f (by decide) (br_f (by decide) (h)))))
theorem sx_nt7 {post : Int32 → Prop} (h : post 2) : wpX_numbersTaken post (xT, tr, ep, ind, vc, pc, xD, xE, cur, tu, ca, c, a, nm, nv, ps, pst, psk, jm, cp, stk, em, ce, rp, ct, cm) 7 := br_f (by decide) (br_f (by decide) (br_f (by decide) (br_f (by decide) (br_f (by decide) (br_f (by decide) (br_f (by decide) (br_f (by decide) (br_t rfl (h)))))))))
theorem sy_tk7 {post : Int32 → Prop} (h : post 2) : wpY_takes post 7 := br_f (by decide) (br_f (by decide) (br_t rfl (h)))
theorem sx_ns7 {post : Int32 → Prop} (h : post 0) : wpX_namedStop post (xT, tr, ep, ind, vc, pc, xD, xE, cur, tu, ca, c, a, nm, nv, ps, pst, psk, jm, cp, stk, em, ce, rp, ct, cm) 7 := br_f (by decide) (br_f (by decide) (br_f (by decide) (br_f (by decide) (br_f (by decide) (br_t rfl (h))))))
theorem sx_ad7 {post : Int32 → Prop} (h : post 0) : wpX_addsNumber post (xT, tr, ep, ind, vc, pc, xD, xE, cur, tu, ca, c, a, nm, nv, ps, pst, psk, jm, cp, stk, em, ce, rp, ct, cm) 7 := br_f (by decide) (br_f (by decide) (br_f (by decide) (br_f (by decide) (br_f (by decide) (h)))))
theorem sx_nt8 {post : Int32 → Prop} (h : post 2) : wpX_numbersTaken post (xT, tr, ep, ind, vc, pc, xD, xE, cur, tu, ca, c, a, nm, nv, ps, pst, psk, jm, cp, stk, em, ce, rp, ct, cm) 8 := br_f (by decide) (br_f (by decide) (br_f (by decide) (br_f (by decide) (br_f (by decide) (br_f (by decide) (br_f (by decide) (br_f (by decide) (br_f (by decide) (br_t rfl (h))))))))))
theorem sy_tk8 {post : Int32 → Prop} (h : post 2) : wpY_takes post 8 := br_f (by decide) (br_f (by decide) (br_f (by decide) (br_t rfl (h))))
theorem sx_ns8 {post : Int32 → Prop} (h : post 0) : wpX_namedStop post (xT, tr, ep, ind, vc, pc, xD, xE, cur, tu, ca, c, a, nm, nv, ps, pst, psk, jm, cp, stk, em, ce, rp, ct, cm) 8 := br_f (by decide) (br_f (by decide) (br_f (by decide) (br_f (by decide) (br_f (by decide) (br_f (by decide) (br_t rfl (h)))))))
theorem sx_ad8 {post : Int32 → Prop} (h : post 1) : wpX_addsNumber post (xT, tr, ep, ind, vc, pc, xD, xE, cur, tu, ca, c, a, nm, nv, ps, pst, psk, jm, cp, stk, em, ce, rp, ct, cm) 8 := br_f (by decide) (br_f (by decide) (br_t rfl (h)))
theorem sx_nt9 {post : Int32 → Prop} (h : post 3) : wpX_numbersTaken post (xT, tr, ep, ind, vc, pc, xD, xE, cur, tu, ca, c, a, nm, nv, ps, pst, psk, jm, cp, stk, em, ce, rp, ct, cm) 9 := br_f (by decide) (br_f (by decide) (br_f (by decide) (br_f (by decide) (br_f (by decide) (br_f (by decide) (br_f (by decide) (br_f (by decide) (br_f (by decide) (br_f (by decide) (br_t rfl (h)))))))))))
theorem sy_tk9 {post : Int32 → Prop} (h : post 3) : wpY_takes post 9 := br_f (by decide) (br_f (by decide) (br_f (by decide) (br_f (by decide) (br_f (by decide) (br_f (by decide) (br_f (by decide) (br_t rfl (h))))))))
theorem sx_ns9 {post : Int32 → Prop} (h : post 0) : wpX_namedStop post (xT, tr, ep, ind, vc, pc, xD, xE, cur, tu, ca, c, a, nm, nv, ps, pst, psk, jm, cp, stk, em, ce, rp, ct, cm) 9 := br_f (by decide) (br_f (by decide) (br_f (by decide) (br_f (by decide) (br_f (by decide) (br_f (by decide) (br_f (by decide) (br_t rfl (h))))))))
theorem sx_ad9 {post : Int32 → Prop} (h : post 0) : wpX_addsNumber post (xT, tr, ep, ind, vc, pc, xD, xE, cur, tu, ca, c, a, nm, nv, ps, pst, psk, jm, cp, stk, em, ce, rp, ct, cm) 9 := br_f (by decide) (br_f (by decide) (br_f (by decide) (br_f (by decide) (br_f (by decide) (h)))))
theorem sx_nt10 {post : Int32 → Prop} (h : post 2) : wpX_numbersTaken post (xT, tr, ep, ind, vc, pc, xD, xE, cur, tu, ca, c, a, nm, nv, ps, pst, psk, jm, cp, stk, em, ce, rp, ct, cm) 10 := br_f (by decide) (br_f (by decide) (br_f (by decide) (br_f (by decide) (br_f (by decide) (br_f (by decide) (br_f (by decide) (br_f (by decide) (br_f (by decide) (br_f (by decide) (br_f (by decide) (br_t rfl (h))))))))))))
theorem sy_tk10 {post : Int32 → Prop} (h : post 2) : wpY_takes post 10 := br_f (by decide) (br_f (by decide) (br_f (by decide) (br_f (by decide) (br_t rfl (h)))))
theorem sx_ns10 {post : Int32 → Prop} (h : post 0) : wpX_namedStop post (xT, tr, ep, ind, vc, pc, xD, xE, cur, tu, ca, c, a, nm, nv, ps, pst, psk, jm, cp, stk, em, ce, rp, ct, cm) 10 := br_f (by decide) (br_f (by decide) (br_f (by decide) (br_f (by decide) (br_f (by decide) (br_f (by decide) (br_f (by decide) (br_f (by decide) (br_t rfl (h)))))))))
theorem sx_ad10 {post : Int32 → Prop} (h : post 0) : wpX_addsNumber post (xT, tr, ep, ind, vc, pc, xD, xE, cur, tu, ca, c, a, nm, nv, ps, pst, psk, jm, cp, stk, em, ce, rp, ct, cm) 10 := br_f (by decide) (br_f (by decide) (br_f (by decide) (br_f (by decide) (br_f (by decide) (h)))))
theorem sx_nt11 {post : Int32 → Prop} (h : post 2) : wpX_numbersTaken post (xT, tr, ep, ind, vc, pc, xD, xE, cur, tu, ca, c, a, nm, nv, ps, pst, psk, jm, cp, stk, em, ce, rp, ct, cm) 11 := br_f (by decide) (br_f (by decide) (br_f (by decide) (br_f (by decide) (br_f (by decide) (br_f (by decide) (br_f (by decide) (br_f (by decide) (br_f (by decide) (br_f (by decide) (br_f (by decide) (br_f (by decide) (br_t rfl (h)))))))))))))
theorem sy_tk11 {post : Int32 → Prop} (h : post 2) : wpY_takes post 11 := br_f (by decide) (br_f (by decide) (br_f (by decide) (br_f (by decide) (br_f (by decide) (br_t rfl (h))))))
theorem sx_ns11 {post : Int32 → Prop} (h : post 0) : wpX_namedStop post (xT, tr, ep, ind, vc, pc, xD, xE, cur, tu, ca, c, a, nm, nv, ps, pst, psk, jm, cp, stk, em, ce, rp, ct, cm) 11 := br_f (by decide) (br_f (by decide) (br_f (by decide) (br_f (by decide) (br_f (by decide) (br_f (by decide) (br_f (by decide) (br_f (by decide) (br_f (by decide) (br_t rfl (h))))))))))
theorem sx_ad11 {post : Int32 → Prop} (h : post 0) : wpX_addsNumber post (xT, tr, ep, ind, vc, pc, xD, xE, cur, tu, ca, c, a, nm, nv, ps, pst, psk, jm, cp, stk, em, ce, rp, ct, cm) 11 := br_f (by decide) (br_f (by decide) (br_f (by decide) (br_f (by decide) (br_f (by decide) (h)))))
theorem sx_nt12 {post : Int32 → Prop} (h : post 1) : wpX_numbersTaken post (xT, tr, ep, ind, vc, pc, xD, xE, cur, tu, ca, c, a, nm, nv, ps, pst, psk, jm, cp, stk, em, ce, rp, ct, cm) 12 := br_f (by decide) (br_f (by decide) (br_f (by decide) (br_f (by decide) (br_f (by decide) (br_f (by decide) (br_f (by decide) (br_f (by decide) (br_f (by decide) (br_f (by decide) (br_f (by decide) (br_f (by decide) (br_f (by decide) (br_t rfl (h))))))))))))))
theorem sy_tk12 {post : Int32 → Prop} (h : post 1) : wpY_takes post 12 := br_f (by decide) (br_f (by decide) (br_f (by decide) (br_f (by decide) (br_f (by decide) (br_f (by decide) (br_f (by decide) (br_f (by decide) (br_f (by decide) (br_f (by decide) (br_t rfl (h)))))))))))
theorem sx_ad12 {post : Int32 → Prop} (h : post 0) : wpX_addsNumber post (xT, tr, ep, ind, vc, pc, xD, xE, cur, tu, ca, c, a, nm, nv, ps, pst, psk, jm, cp, stk, em, ce, rp, ct, cm) 12 := br_f (by decide) (br_f (by decide) (br_f (by decide) (br_f (by decide) (br_f (by decide) (h)))))
theorem sx_nt13 {post : Int32 → Prop} (h : post 2) : wpX_numbersTaken post (xT, tr, ep, ind, vc, pc, xD, xE, cur, tu, ca, c, a, nm, nv, ps, pst, psk, jm, cp, stk, em, ce, rp, ct, cm) 13 := br_f (by decide) (br_f (by decide) (br_f (by decide) (br_f (by decide) (br_f (by decide) (br_f (by decide) (br_f (by decide) (br_f (by decide) (br_f (by decide) (br_f (by decide) (br_f (by decide) (br_f (by decide) (br_f (by decide) (br_f (by decide) (br_t rfl (h)))))))))))))))
theorem sy_tk13 {post : Int32 → Prop} (h : post 2) : wpY_takes post 13 := br_f (by decide) (br_f (by decide) (br_f (by decide) (br_f (by decide) (br_f (by decide) (br_f (by decide) (br_t rfl (h)))))))
theorem sx_ad13 {post : Int32 → Prop} (h : post 0) : wpX_addsNumber post (xT, tr, ep, ind, vc, pc, xD, xE, cur, tu, ca, c, a, nm, nv, ps, pst, psk, jm, cp, stk, em, ce, rp, ct, cm) 13 := br_f (by decide) (br_f (by decide) (br_f (by decide) (br_f (by decide) (br_f (by decide) (h)))))
theorem sx_nt14 {post : Int32 → Prop} (h : post 1) : wpX_numbersTaken post (xT, tr, ep, ind, vc, pc, xD, xE, cur, tu, ca, c, a, nm, nv, ps, pst, psk, jm, cp, stk, em, ce, rp, ct, cm) 14 := br_f (by decide) (br_f (by decide) (br_f (by decide) (br_f (by decide) (br_f (by decide) (br_f (by decide) (br_f (by decide) (br_f (by decide) (br_f (by decide) (br_f (by decide) (br_f (by decide) (br_f (by decide) (br_f (by decide) (br_f (by decide) (br_f (by decide) (br_t rfl (h))))))))))))))))
theorem sy_tk14 {post : Int32 → Prop} (h : post 1) : wpY_takes post 14 := br_f (by decide) (br_f (by decide) (br_f (by decide) (br_f (by decide) (br_f (by decide) (br_f (by decide) (br_f (by decide) (br_f (by decide) (br_f (by decide) (br_f (by decide) (br_f (by decide) (br_t rfl (h))))))))))))
theorem sx_ad14 {post : Int32 → Prop} (h : post 0) : wpX_addsNumber post (xT, tr, ep, ind, vc, pc, xD, xE, cur, tu, ca, c, a, nm, nv, ps, pst, psk, jm, cp, stk, em, ce, rp, ct, cm) 14 := br_f (by decide) (br_f (by decide) (br_f (by decide) (br_f (by decide) (br_f (by decide) (h)))))
theorem sx_nt15 {post : Int32 → Prop} (h : post 0) : wpX_numbersTaken post (xT, tr, ep, ind, vc, pc, xD, xE, cur, tu, ca, c, a, nm, nv, ps, pst, psk, jm, cp, stk, em, ce, rp, ct, cm) 15 := br_f (by decide) (br_f (by decide) (br_f (by decide) (br_f (by decide) (br_f (by decide) (br_f (by decide) (br_f (by decide) (br_f (by decide) (br_f (by decide) (br_f (by decide) (br_f (by decide) (br_f (by decide) (br_f (by decide) (br_f (by decide) (br_f (by decide) (br_f (by decide) (br_t rfl (h)))))))))))))))))
theorem sy_tk15 {post : Int32 → Prop} (h : post 0) : wpY_takes post 15 := br_f (by decide) (br_f (by decide) (br_f (by decide) (br_f (by decide) (br_f (by decide) (br_f (by decide) (br_f (by decide) (br_f (by decide) (br_f (by decide) (br_f (by decide) (br_f (by decide) (br_f (by decide) (br_f (by decide) (br_f (by decide) (br_f (by decide) (br_f (by decide) (h))))))))))))))))
theorem sx_nt16 {post : Int32 → Prop} (h : post 1) : wpX_numbersTaken post (xT, tr, ep, ind, vc, pc, xD, xE, cur, tu, ca, c, a, nm, nv, ps, pst, psk, jm, cp, stk, em, ce, rp, ct, cm) 16 := br_f (by decide) (br_f (by decide) (br_f (by decide) (br_f (by decide) (br_f (by decide) (br_f (by decide) (br_f (by decide) (br_f (by decide) (br_f (by decide) (br_f (by decide) (br_f (by decide) (br_f (by decide) (br_f (by decide) (br_f (by decide) (br_f (by decide) (br_f (by decide) (br_f (by decide) (br_t rfl (h))))))))))))))))))
theorem sy_tk16 {post : Int32 → Prop} (h : post 1) : wpY_takes post 16 := br_f (by decide) (br_f (by decide) (br_f (by decide) (br_f (by decide) (br_f (by decide) (br_f (by decide) (br_f (by decide) (br_f (by decide) (br_f (by decide) (br_f (by decide) (br_f (by decide) (br_f (by decide) (br_t rfl (h)))))))))))))
theorem sx_ns16 {post : Int32 → Prop} (h : post 0) : wpX_namedStop post (xT, tr, ep, ind, vc, pc, xD, xE, cur, tu, ca, c, a, nm, nv, ps, pst, psk, jm, cp, stk, em, ce, rp, ct, cm) 16 := br_f (by decide) (br_f (by decide) (br_f (by decide) (br_f (by decide) (br_f (by decide) (br_f (by decide) (br_f (by decide) (br_f (by decide) (br_f (by decide) (br_f (by decide) (br_f (by decide) (br_f (by decide) (br_f (by decide) (br_f (by decide) (br_t rfl (h)))))))))))))))
theorem sx_ad16 {post : Int32 → Prop} (h : post 0) : wpX_addsNumber post (xT, tr, ep, ind, vc, pc, xD, xE, cur, tu, ca, c, a, nm, nv, ps, pst, psk, jm, cp, stk, em, ce, rp, ct, cm) 16 := br_f (by decide) (br_f (by decide) (br_f (by decide) (br_f (by decide) (br_f (by decide) (h)))))
theorem sx_nt17 {post : Int32 → Prop} (h : post 0) : wpX_numbersTaken post (xT, tr, ep, ind, vc, pc, xD, xE, cur, tu, ca, c, a, nm, nv, ps, pst, psk, jm, cp, stk, em, ce, rp, ct, cm) 17 := br_f (by decide) (br_f (by decide) (br_f (by decide) (br_f (by decide) (br_f (by decide) (br_f (by decide) (br_f (by decide) (br_f (by decide) (br_f (by decide) (br_f (by decide) (br_f (by decide) (br_f (by decide) (br_f (by decide) (br_f (by decide) (br_f (by decide) (br_f (by decide) (br_f (by decide) (br_f (by decide) (br_t rfl (h)))))))))))))))))))
theorem sy_tk17 {post : Int32 → Prop} (h : post 0) : wpY_takes post 17 := br_f (by decide) (br_f (by decide) (br_f (by decide) (br_f (by decide) (br_f (by decide) (br_f (by decide) (br_f (by decide) (br_f (by decide) (br_f (by decide) (br_f (by decide) (br_f (by decide) (br_f (by decide) (br_f (by decide) (br_f (by decide) (br_f (by decide) (br_f (by decide) (h))))))))))))))))
theorem sx_ns17 {post : Int32 → Prop} (h : post 0) : wpX_namedStop post (xT, tr, ep, ind, vc, pc, xD, xE, cur, tu, ca, c, a, nm, nv, ps, pst, psk, jm, cp, stk, em, ce, rp, ct, cm) 17 := br_f (by decide) (br_f (by decide) (br_f (by decide) (br_f (by decide) (br_f (by decide) (br_f (by decide) (br_f (by decide) (br_f (by decide) (br_f (by decide) (br_f (by decide) (br_f (by decide) (br_f (by decide) (br_f (by decide) (br_f (by decide) (br_f (by decide) (br_t rfl (h))))))))))))))))
theorem sx_ad17 {post : Int32 → Prop} (h : post 0) : wpX_addsNumber post (xT, tr, ep, ind, vc, pc, xD, xE, cur, tu, ca, c, a, nm, nv, ps, pst, psk, jm, cp, stk, em, ce, rp, ct, cm) 17 := br_f (by decide) (br_f (by decide) (br_f (by decide) (br_f (by decide) (br_f (by decide) (h)))))
theorem sx_nt18 {post : Int32 → Prop} (h : post 0) : wpX_numbersTaken post (xT, tr, ep, ind, vc, pc, xD, xE, cur, tu, ca, c, a, nm, nv, ps, pst, psk, jm, cp, stk, em, ce, rp, ct, cm) 18 := br_f (by decide) (br_f (by decide) (br_f (by decide) (br_f (by decide) (br_f (by decide) (br_f (by decide) (br_f (by decide) (br_f (by decide) (br_f (by decide) (br_f (by decide) (br_f (by decide) (br_f (by decide) (br_f (by decide) (br_f (by decide) (br_f (by decide) (br_f (by decide) (br_f (by decide) (br_f (by decide) (br_f (by decide) (br_t rfl (h))))))))))))))))))))
theorem sy_tk18 {post : Int32 → Prop} (h : post 0) : wpY_takes post 18 := br_f (by decide) (br_f (by decide) (br_f (by decide) (br_f (by decide) (br_f (by decide) (br_f (by decide) (br_f (by decide) (br_f (by decide) (br_f (by decide) (br_f (by decide) (br_f (by decide) (br_f (by decide) (br_f (by decide) (br_f (by decide) (br_f (by decide) (br_f (by decide) (h))))))))))))))))
theorem sx_ns18 {post : Int32 → Prop} (h : post 0) : wpX_namedStop post (xT, tr, ep, ind, vc, pc, xD, xE, cur, tu, ca, c, a, nm, nv, ps, pst, psk, jm, cp, stk, em, ce, rp, ct, cm) 18 := br_f (by decide) (br_f (by decide) (br_f (by decide) (br_f (by decide) (br_f (by decide) (br_f (by decide) (br_f (by decide) (br_f (by decide) (br_f (by decide) (br_f (by decide) (br_f (by decide) (br_f (by decide) (br_f (by decide) (br_f (by decide) (br_f (by decide) (br_f (by decide) (br_t rfl (h)))))))))))))))))
theorem sx_ad18 {post : Int32 → Prop} (h : post 0) : wpX_addsNumber post (xT, tr, ep, ind, vc, pc, xD, xE, cur, tu, ca, c, a, nm, nv, ps, pst, psk, jm, cp, stk, em, ce, rp, ct, cm) 18 := br_f (by decide) (br_f (by decide) (br_f (by decide) (br_f (by decide) (br_f (by decide) (h)))))
theorem sx_nt19 {post : Int32 → Prop} (h : post 0) : wpX_numbersTaken post (xT, tr, ep, ind, vc, pc, xD, xE, cur, tu, ca, c, a, nm, nv, ps, pst, psk, jm, cp, stk, em, ce, rp, ct, cm) 19 := br_f (by decide) (br_f (by decide) (br_f (by decide) (br_f (by decide) (br_f (by decide) (br_f (by decide) (br_f (by decide) (br_f (by decide) (br_f (by decide) (br_f (by decide) (br_f (by decide) (br_f (by decide) (br_f (by decide) (br_f (by decide) (br_f (by decide) (br_f (by decide) (br_f (by decide) (br_f (by decide) (br_f (by decide) (br_f (by decide) (br_t rfl (h)))))))))))))))))))))
theorem sy_tk19 {post : Int32 → Prop} (h : post 0) : wpY_takes post 19 := br_f (by decide) (br_f (by decide) (br_f (by decide) (br_f (by decide) (br_f (by decide) (br_f (by decide) (br_f (by decide) (br_f (by decide) (br_f (by decide) (br_f (by decide) (br_f (by decide) (br_f (by decide) (br_f (by decide) (br_f (by decide) (br_f (by decide) (br_f (by decide) (h))))))))))))))))
theorem sx_ns19 {post : Int32 → Prop} (h : post 0) : wpX_namedStop post (xT, tr, ep, ind, vc, pc, xD, xE, cur, tu, ca, c, a, nm, nv, ps, pst, psk, jm, cp, stk, em, ce, rp, ct, cm) 19 := br_f (by decide) (br_f (by decide) (br_f (by decide) (br_f (by decide) (br_f (by decide) (br_f (by decide) (br_f (by decide) (br_f (by decide) (br_f (by decide) (br_f (by decide) (br_f (by decide) (br_f (by decide) (br_f (by decide) (br_f (by decide) (br_f (by decide) (br_f (by decide) (br_f (by decide) (br_t rfl (h))))))))))))))))))
theorem sx_ad19 {post : Int32 → Prop} (h : post 0) : wpX_addsNumber post (xT, tr, ep, ind, vc, pc, xD, xE, cur, tu, ca, c, a, nm, nv, ps, pst, psk, jm, cp, stk, em, ce, rp, ct, cm) 19 := br_f (by decide) (br_f (by decide) (br_f (by decide) (br_f (by decide) (br_f (by decide) (h)))))
theorem sx_nt20 {post : Int32 → Prop} (h : post 1) : wpX_numbersTaken post (xT, tr, ep, ind, vc, pc, xD, xE, cur, tu, ca, c, a, nm, nv, ps, pst, psk, jm, cp, stk, em, ce, rp, ct, cm) 20 := br_f (by decide) (br_f (by decide) (br_f (by decide) (br_f (by decide) (br_f (by decide) (br_f (by decide) (br_f (by decide) (br_f (by decide) (br_f (by decide) (br_f (by decide) (br_f (by decide) (br_f (by decide) (br_f (by decide) (br_f (by decide) (br_f (by decide) (br_f (by decide) (br_f (by decide) (br_f (by decide) (br_f (by decide) (br_f (by decide) (br_f (by decide) (br_t rfl (h))))))))))))))))))))))
theorem sy_tk20 {post : Int32 → Prop} (h : post 1) : wpY_takes post 20 := br_f (by decide) (br_f (by decide) (br_f (by decide) (br_f (by decide) (br_f (by decide) (br_f (by decide) (br_f (by decide) (br_f (by decide) (br_f (by decide) (br_f (by decide) (br_f (by decide) (br_f (by decide) (br_f (by decide) (br_t rfl (h))))))))))))))
theorem sx_ad20 {post : Int32 → Prop} (h : post 0) : wpX_addsNumber post (xT, tr, ep, ind, vc, pc, xD, xE, cur, tu, ca, c, a, nm, nv, ps, pst, psk, jm, cp, stk, em, ce, rp, ct, cm) 20 := br_f (by decide) (br_f (by decide) (br_f (by decide) (br_f (by decide) (br_f (by decide) (h)))))
theorem sx_nt21 {post : Int32 → Prop} (h : post 1) : wpX_numbersTaken post (xT, tr, ep, ind, vc, pc, xD, xE, cur, tu, ca, c, a, nm, nv, ps, pst, psk, jm, cp, stk, em, ce, rp, ct, cm) 21 := br_f (by decide) (br_f (by decide) (br_f (by decide) (br_f (by decide) (br_f (by decide) (br_f (by decide) (br_f (by decide) (br_f (by decide) (br_f (by decide) (br_f (by decide) (br_f (by decide) (br_f (by decide) (br_f (by decide) (br_f (by decide) (br_f (by decide) (br_f (by decide) (br_f (by decide) (br_f (by decide) (br_f (by decide) (br_f (by decide) (br_f (by decide) (br_f (by decide) (br_t rfl (h)))))))))))))))))))))))
theorem sy_tk21 {post : Int32 → Prop} (h : post 1) : wpY_takes post 21 := br_f (by decide) (br_f (by decide) (br_f (by decide) (br_f (by decide) (br_f (by decide) (br_f (by decide) (br_f (by decide) (br_f (by decide) (br_f (by decide) (br_f (by decide) (br_f (by decide) (br_f (by decide) (br_f (by decide) (br_f (by decide) (br_t rfl (h)))))))))))))))
theorem sx_ns21 {post : Int32 → Prop} (h : post 0) : wpX_namedStop post (xT, tr, ep, ind, vc, pc, xD, xE, cur, tu, ca, c, a, nm, nv, ps, pst, psk, jm, cp, stk, em, ce, rp, ct, cm) 21 := br_f (by decide) (br_f (by decide) (br_f (by decide) (br_f (by decide) (br_f (by decide) (br_f (by decide) (br_f (by decide) (br_f (by decide) (br_f (by decide) (br_f (by decide) (br_f (by decide) (br_f (by decide) (br_f (by decide) (br_f (by decide) (br_f (by decide) (br_f (by decide) (br_f (by decide) (br_f (by decide) (br_f (by decide) (br_t rfl (h))))))))))))))))))))
theorem sx_ad21 {post : Int32 → Prop} (h : post 0) : wpX_addsNumber post (xT, tr, ep, ind, vc, pc, xD, xE, cur, tu, ca, c, a, nm, nv, ps, pst, psk, jm, cp, stk, em, ce, rp, ct, cm) 21 := br_f (by decide) (br_f (by decide) (br_f (by decide) (br_f (by decide) (br_f (by decide) (h)))))
theorem sx_nt22 {post : Int32 → Prop} (h : post 0) : wpX_numbersTaken post (xT, tr, ep, ind, vc, pc, xD, xE, cur, tu, ca, c, a, nm, nv, ps, pst, psk, jm, cp, stk, em, ce, rp, ct, cm) 22 := br_f (by decide) (br_f (by decide) (br_f (by decide) (br_f (by decide) (br_f (by decide) (br_f (by decide) (br_f (by decide) (br_f (by decide) (br_f (by decide) (br_f (by decide) (br_f (by decide) (br_f (by decide) (br_f (by decide) (br_f (by decide) (br_f (by decide) (br_f (by decide) (br_f (by decide) (br_f (by decide) (br_f (by decide) (br_f (by decide) (br_f (by decide) (br_f (by decide) (br_f (by decide) (br_t rfl (h))))))))))))))))))))))))
theorem sy_tk22 {post : Int32 → Prop} (h : post 0) : wpY_takes post 22 := br_f (by decide) (br_f (by decide) (br_f (by decide) (br_f (by decide) (br_f (by decide) (br_f (by decide) (br_f (by decide) (br_f (by decide) (br_f (by decide) (br_f (by decide) (br_f (by decide) (br_f (by decide) (br_f (by decide) (br_f (by decide) (br_f (by decide) (br_f (by decide) (h))))))))))))))))
theorem sx_ad22 {post : Int32 → Prop} (h : post 0) : wpX_addsNumber post (xT, tr, ep, ind, vc, pc, xD, xE, cur, tu, ca, c, a, nm, nv, ps, pst, psk, jm, cp, stk, em, ce, rp, ct, cm) 22 := br_f (by decide) (br_f (by decide) (br_f (by decide) (br_f (by decide) (br_f (by decide) (h)))))
theorem sx_nt23 {post : Int32 → Prop} (h : post 1) : wpX_numbersTaken post (xT, tr, ep, ind, vc, pc, xD, xE, cur, tu, ca, c, a, nm, nv, ps, pst, psk, jm, cp, stk, em, ce, rp, ct, cm) 23 := br_f (by decide) (br_f (by decide) (br_f (by decide) (br_f (by decide) (br_f (by decide) (br_f (by decide) (br_f (by decide) (br_f (by decide) (br_f (by decide) (br_f (by decide) (br_f (by decide) (br_f (by decide) (br_f (by decide) (br_f (by decide) (br_f (by decide) (br_f (by decide) (br_f (by decide) (br_f (by decide) (br_f (by decide) (br_f (by decide) (br_f (by decide) (br_f (by decide) (br_f (by decide) (br_f (by decide) (br_t rfl (h)))))))))))))))))))))))))
theorem sy_tk23 {post : Int32 → Prop} (h : post 1) : wpY_takes post 23 := br_f (by decide) (br_f (by decide) (br_f (by decide) (br_f (by decide) (br_f (by decide) (br_f (by decide) (br_f (by decide) (br_f (by decide) (br_f (by decide) (br_f (by decide) (br_f (by decide) (br_f (by decide) (br_f (by decide) (br_f (by decide) (br_f (by decide) (br_t rfl (h))))))))))))))))
theorem sx_ns23 {post : Int32 → Prop} (h : post 0) : wpX_namedStop post (xT, tr, ep, ind, vc, pc, xD, xE, cur, tu, ca, c, a, nm, nv, ps, pst, psk, jm, cp, stk, em, ce, rp, ct, cm) 23 := br_f (by decide) (br_f (by decide) (br_f (by decide) (br_f (by decide) (br_f (by decide) (br_f (by decide) (br_f (by decide) (br_f (by decide) (br_f (by decide) (br_f (by decide) (br_f (by decide) (br_f (by decide) (br_f (by decide) (br_f (by decide) (br_f (by decide) (br_f (by decide) (br_f (by decide) (br_f (by decide) (br_f (by decide) (br_f (by decide) (br_f (by decide) (br_t rfl (h))))))))))))))))))))))
theorem sx_ad23 {post : Int32 → Prop} (h : post 0) : wpX_addsNumber post (xT, tr, ep, ind, vc, pc, xD, xE, cur, tu, ca, c, a, nm, nv, ps, pst, psk, jm, cp, stk, em, ce, rp, ct, cm) 23 := br_f (by decide) (br_f (by decide) (br_f (by decide) (br_f (by decide) (br_f (by decide) (h)))))
theorem sx_nt24 {post : Int32 → Prop} (h : post 0) : wpX_numbersTaken post (xT, tr, ep, ind, vc, pc, xD, xE, cur, tu, ca, c, a, nm, nv, ps, pst, psk, jm, cp, stk, em, ce, rp, ct, cm) 24 := br_f (by decide) (br_t (by decide) (h))
theorem sy_tk24 {post : Int32 → Prop} (h : post 0) : wpY_takes post 24 := br_f (by decide) (br_f (by decide) (br_f (by decide) (br_f (by decide) (br_f (by decide) (br_f (by decide) (br_f (by decide) (br_f (by decide) (br_f (by decide) (br_f (by decide) (br_f (by decide) (br_f (by decide) (br_f (by decide) (br_f (by decide) (br_f (by decide) (br_f (by decide) (h))))))))))))))))
theorem sx_ad24 {post : Int32 → Prop} (h : post 0) : wpX_addsNumber post (xT, tr, ep, ind, vc, pc, xD, xE, cur, tu, ca, c, a, nm, nv, ps, pst, psk, jm, cp, stk, em, ce, rp, ct, cm) 24 := br_f (by decide) (br_f (by decide) (br_f (by decide) (br_f (by decide) (br_f (by decide) (h)))))
theorem sx_nt25 {post : Int32 → Prop} (h : post 0) : wpX_numbersTaken post (xT, tr, ep, ind, vc, pc, xD, xE, cur, tu, ca, c, a, nm, nv, ps, pst, psk, jm, cp, stk, em, ce, rp, ct, cm) 25 := br_f (by decide) (br_t (by decide) (h))
theorem sy_tk25 {post : Int32 → Prop} (h : post 0) : wpY_takes post 25 := br_f (by decide) (br_f (by decide) (br_f (by decide) (br_f (by decide) (br_f (by decide) (br_f (by decide) (br_f (by decide) (br_f (by decide) (br_f (by decide) (br_f (by decide) (br_f (by decide) (br_f (by decide) (br_f (by decide) (br_f (by decide) (br_f (by decide) (br_f (by decide) (h))))))))))))))))
theorem sx_ns25 {post : Int32 → Prop} (h : post 0) : wpX_namedStop post (xT, tr, ep, ind, vc, pc, xD, xE, cur, tu, ca, c, a, nm, nv, ps, pst, psk, jm, cp, stk, em, ce, rp, ct, cm) 25 := br_f (by decide) (br_t (by decide) (h))
theorem sx_ad25 {post : Int32 → Prop} (h : post 1) : wpX_addsNumber post (xT, tr, ep, ind, vc, pc, xD, xE, cur, tu, ca, c, a, nm, nv, ps, pst, psk, jm, cp, stk, em, ce, rp, ct, cm) 25 := br_f (by decide) (br_f (by decide) (br_f (by decide) (br_f (by decide) (br_t rfl (h)))))
theorem sx_nt27 {post : Int32 → Prop} (h : post 0) : wpX_numbersTaken post (xT, tr, ep, ind, vc, pc, xD, xE, cur, tu, ca, c, a, nm, nv, ps, pst, psk, jm, cp, stk, em, ce, rp, ct, cm) 27 := br_f (by decide) (br_t (by decide) (h))
theorem sy_tk27 {post : Int32 → Prop} (h : post 0) : wpY_takes post 27 := br_f (by decide) (br_f (by decide) (br_f (by decide) (br_f (by decide) (br_f (by decide) (br_f (by decide) (br_f (by decide) (br_f (by decide) (br_f (by decide) (br_f (by decide) (br_f (by decide) (br_f (by decide) (br_f (by decide) (br_f (by decide) (br_f (by decide) (br_f (by decide) (h))))))))))))))))
theorem sx_ns27 {post : Int32 → Prop} (h : post 0) : wpX_namedStop post (xT, tr, ep, ind, vc, pc, xD, xE, cur, tu, ca, c, a, nm, nv, ps, pst, psk, jm, cp, stk, em, ce, rp, ct, cm) 27 := br_f (by decide) (br_t (by decide) (h))
theorem sx_ad27 {post : Int32 → Prop} (h : post 0) : wpX_addsNumber post (xT, tr, ep, ind, vc, pc, xD, xE, cur, tu, ca, c, a, nm, nv, ps, pst, psk, jm, cp, stk, em, ce, rp, ct, cm) 27 := br_f (by decide) (br_f (by decide) (br_f (by decide) (br_f (by decide) (br_f (by decide) (h)))))
theorem sx_ns4 {post : Int32 → Prop} {r : Int32} (hD : D < 16) (hz : (stk D = 0 ∧ r = 13) ∨ (¬ stk D = 0 ∧ r = 0)) (h : post r) : wpX_namedStop post (xT, tr, ep, ind, vc, pc, nI (D + 1), xE, cur, tu, ca, c, a, nm, nv, ps, pst, psk, jm, cp, stk, em, ce, rp, ct, cm) 4 := by
  refine br_f (by decide) (br_f (by decide) (br_t rfl (?_)))
  rw [nI_pred, nI_clamp (n := D) (by omega)]
  refine ⟨vp_in_nI hD (by decide), ?_⟩
  rcases hz with ⟨h1, h2⟩ | ⟨h1, h2⟩
  · rw [h2] at h; exact br_t h1 h
  · rw [h2] at h; exact br_f h1 h
theorem sx_121 {post : Int32 → Prop} {r : Int32} {V : Nat} (hD : D < 16) (hV : V ≤ 12) (hz : ((stk D < 0 ∨ nI V ≤ stk D) ∧ r = 14) ∨ (¬ stk D < 0 ∧ ¬ nI V ≤ stk D ∧ r = 0)) (h : post r) : wX_namedStop_121 post xT tr ep ind (nI V) pc (nI (D + 1)) xE cur tu ca c a nm nv ps pst psk jm cp stk em ce rp ct cm := by
  unfold wX_namedStop_121
  rw [nI_pred, nI_clamp (n := D) (by omega)]
  refine ⟨vp_in_nI hD (by decide), ?_⟩
  rcases hz with ⟨h1, h2⟩ | ⟨h0, h1, h2⟩
  · rw [h2] at h
    by_cases h0 : stk D < 0
    · exact br_t h0 (br_t rfl h)
    · exact br_f h0 (br_t (h1.resolve_left h0) (br_t rfl h))
  · rw [h2] at h
    exact br_f h0 (br_f h1 (br_f (by decide) h))
theorem sx_ns12 {post : Int32 → Prop} (h : wX_namedStop_121 post xT tr ep ind vc pc xD xE cur tu ca c a nm nv ps pst psk jm cp stk em ce rp ct cm) : wpX_namedStop post (xT, tr, ep, ind, vc, pc, xD, xE, cur, tu, ca, c, a, nm, nv, ps, pst, psk, jm, cp, stk, em, ce, rp, ct, cm) 12 := br_f (by decide) (br_f (by decide) (br_f (by decide) (br_f (by decide) (br_f (by decide) (br_f (by decide) (br_f (by decide) (br_f (by decide) (br_f (by decide) (br_f (by decide) (br_t rfl (h)))))))))))
theorem sx_ns13 {post : Int32 → Prop} (h : wX_namedStop_121 post xT tr ep ind vc pc xD xE cur tu ca c a nm nv ps pst psk jm cp stk em ce rp ct cm) : wpX_namedStop post (xT, tr, ep, ind, vc, pc, xD, xE, cur, tu, ca, c, a, nm, nv, ps, pst, psk, jm, cp, stk, em, ce, rp, ct, cm) 13 := br_f (by decide) (br_f (by decide) (br_f (by decide) (br_f (by decide) (br_f (by decide) (br_f (by decide) (br_f (by decide) (br_f (by decide) (br_f (by decide) (br_f (by decide) (br_f (by decide) (br_t rfl (h))))))))))))
theorem sx_ns14 {post : Int32 → Prop} {r : Int32} (hE : E ≤ 16) (hz : (E = 16 ∧ r = 15) ∨ (¬ E = 16 ∧ r = 0)) (h : post r) : wpX_namedStop post (xT, tr, ep, ind, vc, pc, xD, nI E, cur, tu, ca, c, a, nm, nv, ps, pst, psk, jm, cp, stk, em, ce, rp, ct, cm) 14 := by
  refine br_f (by decide) (br_f (by decide) (br_f (by decide) (br_f (by decide) (br_f (by decide) (br_f (by decide) (br_f (by decide) (br_f (by decide) (br_f (by decide) (br_f (by decide) (br_f (by decide) (br_f (by decide) (br_t rfl (?_)))))))))))))
  rcases hz with ⟨h1, h2⟩ | ⟨h1, h2⟩
  · subst h1; rw [h2] at h; exact br_t rfl h
  · rw [h2] at h; exact br_f (fun y => h1 ((nI_eq (b := 16) (by omega) (by omega)).mp y)) h
theorem sx_ts {post : Int32 → Prop} {r : Int32} (ht : t ≤ 200) (hz : (t = 200 ∧ r = 16) ∨ (¬ t = 200 ∧ r = 0)) (h : post r) : wpX_turnStop post (xT, tr, ep, ind, vc, pc, xD, xE, cur, nI t, ca, c, a, nm, nv, ps, pst, psk, jm, cp, stk, em, ce, rp, ct, cm) := by
  rcases hz with ⟨h1, h2⟩ | ⟨h1, h2⟩
  · subst h1; rw [h2] at h; exact br_t rfl h
  · rw [h2] at h; exact br_f (fun y => h1 ((nI_eq (b := 200) (by omega) (by omega)).mp y)) h
theorem sx_ns20 {post : Int32 → Prop} {r : Int32} (hD : D < 16) (ht : t ≤ 200) (hz : (stk D = 0 ∧ t = 200 ∧ r = 16) ∨ (stk D = 0 ∧ ¬ t = 200 ∧ r = 0) ∨ (¬ stk D = 0 ∧ r = 0)) (h : post r) : wpX_namedStop post (xT, tr, ep, ind, vc, pc, nI (D + 1), xE, cur, nI t, ca, c, a, nm, nv, ps, pst, psk, jm, cp, stk, em, ce, rp, ct, cm) 20 := by
  refine br_f (by decide) (br_f (by decide) (br_f (by decide) (br_f (by decide) (br_f (by decide) (br_f (by decide) (br_f (by decide) (br_f (by decide) (br_f (by decide) (br_f (by decide) (br_f (by decide) (br_f (by decide) (br_f (by decide) (br_f (by decide) (br_f (by decide) (br_f (by decide) (br_f (by decide) (br_f (by decide) (br_t rfl (?_)))))))))))))))))))
  rw [nI_pred, nI_clamp (n := D) (by omega)]
  refine ⟨vp_in_nI hD (by decide), ?_⟩
  rcases hz with ⟨h1, h2⟩ | ⟨h1, h2⟩ | ⟨h1, h2⟩
  · refine br_t h1 ?_
    exact sx_ts ht (Or.inl h2) h
  · refine br_t h1 ?_
    exact sx_ts ht (Or.inr h2) h
  · rw [h2] at h; exact br_f h1 h
theorem sx_ns22 {post : Int32 → Prop} {r : Int32} (ht : t ≤ 200) (hz : (t = 200 ∧ r = 16) ∨ (¬ t = 200 ∧ r = 0)) (h : post r) : wpX_namedStop post (xT, tr, ep, ind, vc, pc, xD, xE, cur, nI t, ca, c, a, nm, nv, ps, pst, psk, jm, cp, stk, em, ce, rp, ct, cm) 22 := by
  refine br_f (by decide) (br_f (by decide) (br_f (by decide) (br_f (by decide) (br_f (by decide) (br_f (by decide) (br_f (by decide) (br_f (by decide) (br_f (by decide) (br_f (by decide) (br_f (by decide) (br_f (by decide) (br_f (by decide) (br_f (by decide) (br_f (by decide) (br_f (by decide) (br_f (by decide) (br_f (by decide) (br_f (by decide) (br_f (by decide) (br_t rfl (?_)))))))))))))))))))))
  unfold wX_namedStop_190
  exact sx_ts ht hz h
theorem sx_ns24 {post : Int32 → Prop} {r : Int32} (ht : t ≤ 200) (hz : (t = 200 ∧ r = 16) ∨ (¬ t = 200 ∧ r = 0)) (h : post r) : wpX_namedStop post (xT, tr, ep, ind, vc, pc, xD, xE, cur, nI t, ca, c, a, nm, nv, ps, pst, psk, jm, cp, stk, em, ce, rp, ct, cm) 24 := by
  refine br_f (by decide) (br_f (by decide) (br_f (by decide) (br_f (by decide) (br_f (by decide) (br_f (by decide) (br_f (by decide) (br_f (by decide) (br_f (by decide) (br_f (by decide) (br_f (by decide) (br_f (by decide) (br_f (by decide) (br_f (by decide) (br_f (by decide) (br_f (by decide) (br_f (by decide) (br_f (by decide) (br_f (by decide) (br_f (by decide) (br_f (by decide) (br_f (by decide) (br_t rfl (?_)))))))))))))))))))))))
  unfold wX_namedStop_190
  exact sx_ts ht hz h
theorem sx_csV {post : Int32 → Prop} {n : Nat} (hp : p < 80) (hn : n < 12) (ha : a p = nI n) (e : nm n = 2) (h : post 0) : wpX_callStop post (xT, tr, ep, ind, vc, pc, xD, xE, nI p, tu, ca, c, a, nm, nv, ps, pst, psk, jm, cp, stk, em, ce, rp, ct, cm) := by
  refine ⟨vp_in_nI (n := p) hp (by decide), ?_⟩
  rw [nI_clamp (n := p) (by omega), ha, nI_clamp (n := n) (by omega)]
  exact ⟨vp_in_nI (n := n) hn (by decide), br_t e h⟩
theorem sx_csW {post : Int32 → Prop} {n : Nat} {r : Int32} (hp : p < 80) (hn : n < 12) (ht : t ≤ 200) (hl : l ≤ 7) (ha : a p = nI n) (e : ¬ nm n = 2) (hz : (t = 200 ∧ r = 16) ∨ (¬ t = 200 ∧ l = 7 ∧ r = 17) ∨ (¬ t = 200 ∧ ¬ l = 7 ∧ r = 0)) (h : post r) : wpX_callStop post (xT, tr, ep, ind, vc, pc, xD, xE, nI p, nI t, nI (l + 1), c, a, nm, nv, ps, pst, psk, jm, cp, stk, em, ce, rp, ct, cm) := by
  refine ⟨vp_in_nI (n := p) hp (by decide), ?_⟩
  rw [nI_clamp (n := p) (by omega), ha, nI_clamp (n := n) (by omega)]
  refine ⟨vp_in_nI (n := n) hn (by decide), br_f e ?_⟩
  rcases hz with ⟨h1, h2⟩ | ⟨h1, h2, h3⟩ | ⟨h1, h2, h3⟩
  · refine sx_ts ht (r := 16) (Or.inl ⟨h1, rfl⟩) ?_
    rw [h2] at h; exact br_f (by decide) h
  · refine sx_ts ht (r := 0) (Or.inr ⟨h1, rfl⟩) ?_
    subst h2
    rw [h3] at h; exact br_t rfl (br_t rfl h)
  · refine sx_ts ht (r := 0) (Or.inr ⟨h1, rfl⟩) ?_
    rw [h3] at h; exact br_t rfl (br_f (fun y => h2 (by have := (nI_eq (a := l + 1) (b := 8) (by omega) (by omega)).mp y; omega)) h)
theorem sx_ns15 {post : Int32 → Prop} (h : wpX_callStop post (xT, tr, ep, ind, vc, pc, xD, xE, cur, tu, ca, c, a, nm, nv, ps, pst, psk, jm, cp, stk, em, ce, rp, ct, cm)) : wpX_namedStop post (xT, tr, ep, ind, vc, pc, xD, xE, cur, tu, ca, c, a, nm, nv, ps, pst, psk, jm, cp, stk, em, ce, rp, ct, cm) 15 := br_f (by decide) (br_f (by decide) (br_f (by decide) (br_f (by decide) (br_f (by decide) (br_f (by decide) (br_f (by decide) (br_f (by decide) (br_f (by decide) (br_f (by decide) (br_f (by decide) (br_f (by decide) (br_f (by decide) (br_t rfl (h))))))))))))))
theorem sx_ad15V {post : Int32 → Prop} {n : Nat} (hp : p < 80) (hn : n < 12) (ha : a p = nI n) (e : nm n = 2) (h : post 1) : wpX_addsNumber post (xT, tr, ep, ind, vc, pc, xD, xE, nI p, tu, ca, c, a, nm, nv, ps, pst, psk, jm, cp, stk, em, ce, rp, ct, cm) 15 := by
  refine br_f (by decide) (br_f (by decide) (br_f (by decide) (br_t rfl (?_))))
  rw [nI_clamp (n := p) (by omega), ha, nI_clamp (n := n) (by omega)]
  exact ⟨vp_in_nI (n := p) hp (by decide), vp_in_nI (n := n) hn (by decide), br_t e h⟩
theorem sx_ad15W {post : Int32 → Prop} {n : Nat} (hp : p < 80) (hn : n < 12) (ha : a p = nI n) (e : ¬ nm n = 2) (h : post 0) : wpX_addsNumber post (xT, tr, ep, ind, vc, pc, xD, xE, nI p, tu, ca, c, a, nm, nv, ps, pst, psk, jm, cp, stk, em, ce, rp, ct, cm) 15 := by
  refine br_f (by decide) (br_f (by decide) (br_f (by decide) (br_t rfl (?_))))
  rw [nI_clamp (n := p) (by omega), ha, nI_clamp (n := n) (by omega)]
  exact ⟨vp_in_nI (n := p) hp (by decide), vp_in_nI (n := n) hn (by decide), br_f e h⟩

theorem sx_whU {post : Int32 → Prop} {x : Int32} {k : Nat} (hp : p < 80) (hD : D ≤ 16) (hk3 : k ≤ 3) (e : c p = x) (nt : ∀ post : Int32 → Prop, post (nI k) → wpX_numbersTaken post (xT, tr, ep, ind, nI (sk_vs c T), pc, nI D, nI E, nI p, nI t, nI (l + 1), c, a, nm, nv, ps, pst, psk, jm, cp, stk, em, ce, rp, ct, cm) x) (hk : D < k) (h : post 11) : wpX_whyStop post (xT, tr, ep, ind, nI (sk_vs c T), pc, nI D, nI E, nI p, nI t, nI (l + 1), c, a, nm, nv, ps, pst, psk, jm, cp, stk, em, ce, rp, ct, cm) := by
  refine ⟨vp_in_nI (n := p) hp (by decide), ?_⟩
  rw [nI_clamp (n := p) (by omega), e]
  refine nm_e ?_
  refine nt _ ?_
  exact br_f (nI_ge hk (by omega)) h
theorem sx_wh {post : Int32 → Prop} {x r : Int32} {k : Nat} (hp : p < 80) (hD : D ≤ 16) (hk3 : k ≤ 3) (e : c p = x) (nt : ∀ post : Int32 → Prop, post (nI k) → wpX_numbersTaken post (xT, tr, ep, ind, nI (sk_vs c T), pc, nI D, nI E, nI p, nI t, nI (l + 1), c, a, nm, nv, ps, pst, psk, jm, cp, stk, em, ce, rp, ct, cm) x) (hk : k ≤ D) (ns : ∀ post : Int32 → Prop, post r → wpX_namedStop post (xT, tr, ep, ind, nI (sk_vs c T), pc, nI D, nI E, nI p, nI t, nI (l + 1), c, a, nm, nv, ps, pst, psk, jm, cp, stk, em, ce, rp, ct, cm) x)
    (h : (¬ r = 0 ∧ post r) ∨ (r = 0 ∧ ((D = 16 → wpX_addsNumber (fun r => ((r = 0 → post 0) ∧ (¬ r = 0 → post 12))) (xT, tr, ep, ind, nI (sk_vs c T), pc, nI D, nI E, nI p, nI t, nI (l + 1), c, a, nm, nv, ps, pst, psk, jm, cp, stk, em, ce, rp, ct, cm) x) ∧ (¬ D = 16 → post 0)))) : wpX_whyStop post (xT, tr, ep, ind, nI (sk_vs c T), pc, nI D, nI E, nI p, nI t, nI (l + 1), c, a, nm, nv, ps, pst, psk, jm, cp, stk, em, ce, rp, ct, cm) := by
  refine ⟨vp_in_nI (n := p) hp (by decide), ?_⟩
  rw [nI_clamp (n := p) (by omega), e]
  refine nm_e ?_
  refine nt _ ?_
  refine br_t (nI_le hk (by omega)) ?_
  refine ns _ ?_
  rcases h with ⟨h1, h2⟩ | ⟨h1, h2⟩
  · exact br_f h1 h2
  · refine br_t h1 ?_
    by_cases h16 : D = 16
    · have h3 := h2.1 h16
      subst h16
      exact br_t rfl h3
    · exact br_f (fun y => h16 ((nI_eq (b := 16) (by omega) (by omega)).mp y)) (h2.2 h16)
theorem sy_obU {post : Int32 → Prop} {x : Int32} {k : Nat} (hp : p < 80) (hD : D ≤ 16) (hk3 : k ≤ 3) (e : c p = x) (tk : ∀ post : Int32 → Prop, post (nI k) → wpY_takes post x) (hk : D < k) (h : post 11) : wpY_obstacle post (nI T, tr, ep, nI D, nI E, nI l, nI t, c, a, stk, em, ce, po, yc, ye) (nI p) := by
  refine ⟨vp_in_nI (n := p) hp (by decide), ?_⟩
  rw [nI_clamp (n := p) (by omega), e]
  refine nm_e ?_
  refine tk _ ?_
  exact br_f (nI_ge hk (by omega)) h
theorem sy_ob {post : Int32 → Prop} {x w : Int32} {k : Nat} (hp : p < 80) (hD : D ≤ 16) (hk3 : k ≤ 3) (e : c p = x) (tk : ∀ post : Int32 → Prop, post (nI k) → wpY_takes post x) (hk : k ≤ D) (cw : ∀ post : Int32 → Prop, post w → wpY_callsWord post (nI T, tr, ep, nI D, nI E, nI l, nI t, c, a, stk, em, ce, po, yc, ye) (nI p))
    (h : ∀ z : Int32, (0 < D → z = stk (D - 1)) → ((x = 4 → (((z = 0 → (post 13)) ∧ (¬ z = 0 → (wY_obstacle_46 post x z w (nI T) tr ep (nI D) (nI E) (nI l) (nI t) c a stk em ce po yc ye))))) ∧ (¬ x = 4 → (wY_obstacle_46 post x z w (nI T) tr ep (nI D) (nI E) (nI l) (nI t) c a stk em ce po yc ye)))) : wpY_obstacle post (nI T, tr, ep, nI D, nI E, nI l, nI t, c, a, stk, em, ce, po, yc, ye) (nI p) := by
  refine ⟨vp_in_nI (n := p) hp (by decide), ?_⟩
  rw [nI_clamp (n := p) (by omega), e]
  refine nm_e ?_
  refine tk _ ?_
  refine br_t (nI_le hk (by omega)) ?_
  refine sy_topz (j := 0) (by omega) hD ?_
  intro z hz
  refine cw _ ?_
  exact h z hz
theorem sy_95n {post : Int32 → Prop} {x z : Int32} (h20 : ¬ x = 20) (h22 : ¬ x = 22) (h24 : ¬ x = 24) (h : wY_obstacle_135 post x 0 yT tr ep yD yE lv yt c a stk em ce po yc ye) : wY_obstacle_95 post x z 0 yT tr ep yD yE lv yt c a stk em ce po yc ye := by
  by_cases ht : yt = 200
  · exact br_t ht (br_t rfl (br_f h20 (br_f h22 (br_f h24 h))))
  · exact br_f ht h
theorem sy_58 {post : Int32 → Prop} {x z w : Int32} (h80 : T ≤ 80) (h : (¬ z < 0 ∧ ¬ nI (sk_vs c T) ≤ z ∧ wY_obstacle_77 post x z w (nI T) tr ep yD yE lv yt c a stk em ce po yc ye) ∨ ((z < 0 ∨ nI (sk_vs c T) ≤ z) ∧ post 14)) : wY_obstacle_58 post x z w (nI T) tr ep yD yE lv yt c a stk em ce po yc ye := by
  unfold wY_obstacle_58
  by_cases h0 : z < 0
  · rcases h with h | h
    · exact absurd h0 h.1
    · exact br_t h0 h.2
  · refine br_f h0 ?_
    refine sy_vars h80 ?_
    rcases h with ⟨_, h1, h2⟩ | ⟨h1, h2⟩
    · exact br_t (Int32.not_le.mp h1) h2
    · exact br_f (Int32.not_lt.mpr (h1.resolve_left h0)) h2

theorem sw_0 (h80 : T ≤ 80) (hp : p < T) (hD : D ≤ 16) (hE : E ≤ 16) (ht : t ≤ 200) (hl : l ≤ 7) (hV : sk_vs c T ≤ 12) (hc : c p = 0) : ∃ e : Int32, (∀ post : Int32 → Prop, post e → wpX_whyStop post (xT, tr, ep, ind, nI (sk_vs c T), pc, nI D, nI E, nI p, nI t, nI (l + 1), c, a, nm, nv, ps, pst, psk, jm, cp, stk, em, ce, rp, ct, cm)) ∧ (∀ post : Int32 → Prop, post e → wpY_obstacle post (nI T, tr, ep, nI D, nI E, nI l, nI t, c, a, stk, em, ce, po, yc, ye) (nI p)) ∧ (e = 0 → 0 ≤ D ∧ D < 16) := by
  have cw : ∀ post : Int32 → Prop, post 0 → wpY_callsWord post (nI T, tr, ep, nI D, nI E, nI l, nI t, c, a, stk, em, ce, po, yc, ye) (nI p) := fun post h => sy_cwN (by omega) (by rw [hc]; decide) h
  by_cases h16 : D = 16
  · refine ⟨12, ?_, ?_, ?_⟩
    · intro post hpost
      exact sx_wh (r := 0) (k := 0) (by omega) hD (by omega) hc (fun _ h => sx_nt0 h) (by omega) (fun _ h => sx_ns0 h) (Or.inr ⟨rfl, (fun _ => sx_ad0 (br_f (by decide) hpost)), fun y => absurd h16 y⟩)
    · intro post hpost
      exact sy_ob (w := 0) (k := 0) (by omega) hD (by omega) hc (fun _ h => sy_tk0 h) (by omega) cw (fun z hz => br_f (by decide) (br_f (by decide) (br_f (by decide) (br_f (by decide) (sy_95n (by decide) (by decide) (by decide) (br_t rfl (br_t rfl (br_f (by decide) (br_t (by rw [h16]; rfl) hpost)))))))))
    · exact fun y => absurd y (by decide)
  · refine ⟨0, ?_, ?_, ?_⟩
    · intro post hpost
      exact sx_wh (r := 0) (k := 0) (by omega) hD (by omega) hc (fun _ h => sx_nt0 h) (by omega) (fun _ h => sx_ns0 h) (Or.inr ⟨rfl, (fun y => absurd y (by omega)), fun _ => hpost⟩)
    · intro post hpost
      exact sy_ob (w := 0) (k := 0) (by omega) hD (by omega) hc (fun _ h => sy_tk0 h) (by omega) cw (fun z hz => br_f (by decide) (br_f (by decide) (br_f (by decide) (br_f (by decide) (sy_95n (by decide) (by decide) (by decide) (br_t rfl (br_t rfl (br_f (by decide) (br_f (fun y => h16 ((nI_eq (b := 16) (by omega) (by omega)).mp y)) hpost)))))))))
    · exact fun _ => ⟨by omega, by omega⟩
theorem sw_1 (h80 : T ≤ 80) (hp : p < T) (hD : D ≤ 16) (hE : E ≤ 16) (ht : t ≤ 200) (hl : l ≤ 7) (hV : sk_vs c T ≤ 12) (hc : c p = 1) : ∃ e : Int32, (∀ post : Int32 → Prop, post e → wpX_whyStop post (xT, tr, ep, ind, nI (sk_vs c T), pc, nI D, nI E, nI p, nI t, nI (l + 1), c, a, nm, nv, ps, pst, psk, jm, cp, stk, em, ce, rp, ct, cm)) ∧ (∀ post : Int32 → Prop, post e → wpY_obstacle post (nI T, tr, ep, nI D, nI E, nI l, nI t, c, a, stk, em, ce, po, yc, ye) (nI p)) ∧ (e = 0 → 2 ≤ D ∧ True) := by
  have cw : ∀ post : Int32 → Prop, post 0 → wpY_callsWord post (nI T, tr, ep, nI D, nI E, nI l, nI t, c, a, stk, em, ce, po, yc, ye) (nI p) := fun post h => sy_cwN (by omega) (by rw [hc]; decide) h
  by_cases hu : D < 2
  · refine ⟨11, ?_, ?_, ?_⟩
    · intro post hpost
      exact sx_whU (k := 2) (by omega) hD (by omega) hc (fun _ h => sx_nt1 h) hu hpost
    · intro post hpost
      exact sy_obU (k := 2) (by omega) hD (by omega) hc (fun _ h => sy_tk1 h) hu hpost
    · exact fun y => absurd y (by decide)
  · skip
    · refine ⟨0, ?_, ?_, ?_⟩
      · intro post hpost
        exact sx_wh (r := 0) (k := 2) (by omega) hD (by omega) hc (fun _ h => sx_nt1 h) (by omega) (fun _ h => sx_ns1 h) (Or.inr ⟨rfl, (fun _ => sx_ad1 (br_t rfl hpost)), fun _ => hpost⟩)
      · intro post hpost
        exact sy_ob (w := 0) (k := 2) (by omega) hD (by omega) hc (fun _ h => sy_tk1 h) (by omega) cw (fun z hz => br_f (by decide) (br_f (by decide) (br_f (by decide) (br_f (by decide) (sy_95n (by decide) (by decide) (by decide) (br_t rfl (br_f (by decide) (br_f (by decide) (br_f (by decide) (br_f (by decide) (br_f (by decide) (br_t rfl hpost))))))))))))
      · exact fun _ => ⟨by omega, trivial⟩
theorem sw_2 (h80 : T ≤ 80) (hp : p < T) (hD : D ≤ 16) (hE : E ≤ 16) (ht : t ≤ 200) (hl : l ≤ 7) (hV : sk_vs c T ≤ 12) (hc : c p = 2) : ∃ e : Int32, (∀ post : Int32 → Prop, post e → wpX_whyStop post (xT, tr, ep, ind, nI (sk_vs c T), pc, nI D, nI E, nI p, nI t, nI (l + 1), c, a, nm, nv, ps, pst, psk, jm, cp, stk, em, ce, rp, ct, cm)) ∧ (∀ post : Int32 → Prop, post e → wpY_obstacle post (nI T, tr, ep, nI D, nI E, nI l, nI t, c, a, stk, em, ce, po, yc, ye) (nI p)) ∧ (e = 0 → 2 ≤ D ∧ True) := by
  have cw : ∀ post : Int32 → Prop, post 0 → wpY_callsWord post (nI T, tr, ep, nI D, nI E, nI l, nI t, c, a, stk, em, ce, po, yc, ye) (nI p) := fun post h => sy_cwN (by omega) (by rw [hc]; decide) h
  by_cases hu : D < 2
  · refine ⟨11, ?_, ?_, ?_⟩
    · intro post hpost
      exact sx_whU (k := 2) (by omega) hD (by omega) hc (fun _ h => sx_nt2 h) hu hpost
    · intro post hpost
      exact sy_obU (k := 2) (by omega) hD (by omega) hc (fun _ h => sy_tk2 h) hu hpost
    · exact fun y => absurd y (by decide)
  · skip
    · refine ⟨0, ?_, ?_, ?_⟩
      · intro post hpost
        exact sx_wh (r := 0) (k := 2) (by omega) hD (by omega) hc (fun _ h => sx_nt2 h) (by omega) (fun _ h => sx_ns2 h) (Or.inr ⟨rfl, (fun _ => sx_ad2 (br_t rfl hpost)), fun _ => hpost⟩)
      · intro post hpost
        exact sy_ob (w := 0) (k := 2) (by omega) hD (by omega) hc (fun _ h => sy_tk2 h) (by omega) cw (fun z hz => br_f (by decide) (br_f (by decide) (br_f (by decide) (br_f (by decide) (sy_95n (by decide) (by decide) (by decide) (br_t rfl (br_f (by decide) (br_f (by decide) (br_f (by decide) (br_f (by decide) (br_f (by decide) (br_t rfl hpost))))))))))))
      · exact fun _ => ⟨by omega, trivial⟩
theorem sw_3 (h80 : T ≤ 80) (hp : p < T) (hD : D ≤ 16) (hE : E ≤ 16) (ht : t ≤ 200) (hl : l ≤ 7) (hV : sk_vs c T ≤ 12) (hc : c p = 3) : ∃ e : Int32, (∀ post : Int32 → Prop, post e → wpX_whyStop post (xT, tr, ep, ind, nI (sk_vs c T), pc, nI D, nI E, nI p, nI t, nI (l + 1), c, a, nm, nv, ps, pst, psk, jm, cp, stk, em, ce, rp, ct, cm)) ∧ (∀ post : Int32 → Prop, post e → wpY_obstacle post (nI T, tr, ep, nI D, nI E, nI l, nI t, c, a, stk, em, ce, po, yc, ye) (nI p)) ∧ (e = 0 → 2 ≤ D ∧ True) := by
  have cw : ∀ post : Int32 → Prop, post 0 → wpY_callsWord post (nI T, tr, ep, nI D, nI E, nI l, nI t, c, a, stk, em, ce, po, yc, ye) (nI p) := fun post h => sy_cwN (by omega) (by rw [hc]; decide) h
  by_cases hu : D < 2
  · refine ⟨11, ?_, ?_, ?_⟩
    · intro post hpost
      exact sx_whU (k := 2) (by omega) hD (by omega) hc (fun _ h => sx_nt3 h) hu hpost
    · intro post hpost
      exact sy_obU (k := 2) (by omega) hD (by omega) hc (fun _ h => sy_tk3 h) hu hpost
    · exact fun y => absurd y (by decide)
  · skip
    · refine ⟨0, ?_, ?_, ?_⟩
      · intro post hpost
        exact sx_wh (r := 0) (k := 2) (by omega) hD (by omega) hc (fun _ h => sx_nt3 h) (by omega) (fun _ h => sx_ns3 h) (Or.inr ⟨rfl, (fun _ => sx_ad3 (br_t rfl hpost)), fun _ => hpost⟩)
      · intro post hpost
        exact sy_ob (w := 0) (k := 2) (by omega) hD (by omega) hc (fun _ h => sy_tk3 h) (by omega) cw (fun z hz => br_f (by decide) (br_f (by decide) (br_f (by decide) (br_f (by decide) (sy_95n (by decide) (by decide) (by decide) (br_t rfl (br_f (by decide) (br_f (by decide) (br_f (by decide) (br_f (by decide) (br_f (by decide) (br_t rfl hpost))))))))))))
      · exact fun _ => ⟨by omega, trivial⟩
theorem sw_4 (h80 : T ≤ 80) (hp : p < T) (hD : D ≤ 16) (hE : E ≤ 16) (ht : t ≤ 200) (hl : l ≤ 7) (hV : sk_vs c T ≤ 12) (hc : c p = 4) : ∃ e : Int32, (∀ post : Int32 → Prop, post e → wpX_whyStop post (xT, tr, ep, ind, nI (sk_vs c T), pc, nI D, nI E, nI p, nI t, nI (l + 1), c, a, nm, nv, ps, pst, psk, jm, cp, stk, em, ce, rp, ct, cm)) ∧ (∀ post : Int32 → Prop, post e → wpY_obstacle post (nI T, tr, ep, nI D, nI E, nI l, nI t, c, a, stk, em, ce, po, yc, ye) (nI p)) ∧ (e = 0 → 2 ≤ D ∧ stk (D - 1) ≠ 0) := by
  have cw : ∀ post : Int32 → Prop, post 0 → wpY_callsWord post (nI T, tr, ep, nI D, nI E, nI l, nI t, c, a, stk, em, ce, po, yc, ye) (nI p) := fun post h => sy_cwN (by omega) (by rw [hc]; decide) h
  by_cases hu : D < 2
  · refine ⟨11, ?_, ?_, ?_⟩
    · intro post hpost
      exact sx_whU (k := 2) (by omega) hD (by omega) hc (fun _ h => sx_nt4 h) hu hpost
    · intro post hpost
      exact sy_obU (k := 2) (by omega) hD (by omega) hc (fun _ h => sy_tk4 h) hu hpost
    · exact fun y => absurd y (by decide)
  · obtain ⟨d, rfl⟩ : ∃ d, D = d + 1 := ⟨D - 1, by omega⟩
    have hzz : ∀ {z : Int32}, (0 < d + 1 → z = stk (d + 1 - 1)) → z = stk d := fun h => h (by omega)
    by_cases hz0 : stk d = 0
    · refine ⟨13, ?_, ?_, ?_⟩
      · intro post hpost
        exact sx_wh (r := 13) (k := 2) (by omega) hD (by omega) hc (fun _ h => sx_nt4 h) (by omega) (fun _ h => sx_ns4 (by omega) (Or.inl ⟨hz0, rfl⟩) h) (Or.inl ⟨by decide, hpost⟩)
      · intro post hpost
        exact sy_ob (w := 0) (k := 2) (by omega) hD (by omega) hc (fun _ h => sy_tk4 h) (by omega) cw (fun z hz => br_t rfl (br_t ((hzz hz).trans hz0) hpost))
      · exact fun y => absurd y (by decide)
    · refine ⟨0, ?_, ?_, ?_⟩
      · intro post hpost
        exact sx_wh (r := 0) (k := 2) (by omega) hD (by omega) hc (fun _ h => sx_nt4 h) (by omega) (fun _ h => sx_ns4 (by omega) (Or.inr ⟨hz0, rfl⟩) h) (Or.inr ⟨rfl, (fun _ => sx_ad4 (br_t rfl hpost)), fun _ => hpost⟩)
      · intro post hpost
        exact sy_ob (w := 0) (k := 2) (by omega) hD (by omega) hc (fun _ h => sy_tk4 h) (by omega) cw (fun z hz => br_t rfl (br_f (fun y => hz0 ((hzz hz).symm.trans y)) (br_f (by decide) (br_f (by decide) (br_f (by decide) (sy_95n (by decide) (by decide) (by decide) (br_t rfl (br_f (by decide) (br_f (by decide) (br_f (by decide) (br_f (by decide) (br_f (by decide) (br_t rfl hpost)))))))))))))
      · exact fun _ => ⟨by omega, hz0⟩
theorem sw_5 (h80 : T ≤ 80) (hp : p < T) (hD : D ≤ 16) (hE : E ≤ 16) (ht : t ≤ 200) (hl : l ≤ 7) (hV : sk_vs c T ≤ 12) (hc : c p = 5) : ∃ e : Int32, (∀ post : Int32 → Prop, post e → wpX_whyStop post (xT, tr, ep, ind, nI (sk_vs c T), pc, nI D, nI E, nI p, nI t, nI (l + 1), c, a, nm, nv, ps, pst, psk, jm, cp, stk, em, ce, rp, ct, cm)) ∧ (∀ post : Int32 → Prop, post e → wpY_obstacle post (nI T, tr, ep, nI D, nI E, nI l, nI t, c, a, stk, em, ce, po, yc, ye) (nI p)) ∧ (e = 0 → 1 ≤ D ∧ D < 16) := by
  have cw : ∀ post : Int32 → Prop, post 0 → wpY_callsWord post (nI T, tr, ep, nI D, nI E, nI l, nI t, c, a, stk, em, ce, po, yc, ye) (nI p) := fun post h => sy_cwN (by omega) (by rw [hc]; decide) h
  by_cases hu : D < 1
  · refine ⟨11, ?_, ?_, ?_⟩
    · intro post hpost
      exact sx_whU (k := 1) (by omega) hD (by omega) hc (fun _ h => sx_nt5 h) hu hpost
    · intro post hpost
      exact sy_obU (k := 1) (by omega) hD (by omega) hc (fun _ h => sy_tk5 h) hu hpost
    · exact fun y => absurd y (by decide)
  · obtain ⟨d, rfl⟩ : ∃ d, D = d + 1 := ⟨D - 1, by omega⟩
    have hzz : ∀ {z : Int32}, (0 < d + 1 → z = stk (d + 1 - 1)) → z = stk d := fun h => h (by omega)
    by_cases h16 : d + 1 = 16
    · refine ⟨12, ?_, ?_, ?_⟩
      · intro post hpost
        exact sx_wh (r := 0) (k := 1) (by omega) hD (by omega) hc (fun _ h => sx_nt5 h) (by omega) (fun _ h => sx_ns5 h) (Or.inr ⟨rfl, (fun _ => sx_ad5 (br_f (by decide) hpost)), fun y => absurd h16 y⟩)
      · intro post hpost
        exact sy_ob (w := 0) (k := 1) (by omega) hD (by omega) hc (fun _ h => sy_tk5 h) (by omega) cw (fun z hz => br_f (by decide) (br_f (by decide) (br_f (by decide) (br_f (by decide) (sy_95n (by decide) (by decide) (by decide) (br_t rfl (br_f (by decide) (br_t rfl (br_f (by decide) (br_t (by rw [h16]; rfl) hpost))))))))))
      · exact fun y => absurd y (by decide)
    · refine ⟨0, ?_, ?_, ?_⟩
      · intro post hpost
        exact sx_wh (r := 0) (k := 1) (by omega) hD (by omega) hc (fun _ h => sx_nt5 h) (by omega) (fun _ h => sx_ns5 h) (Or.inr ⟨rfl, (fun y => absurd y (by omega)), fun _ => hpost⟩)
      · intro post hpost
        exact sy_ob (w := 0) (k := 1) (by omega) hD (by omega) hc (fun _ h => sy_tk5 h) (by omega) cw (fun z hz => br_f (by decide) (br_f (by decide) (br_f (by decide) (br_f (by decide) (sy_95n (by decide) (by decide) (by decide) (br_t rfl (br_f (by decide) (br_t rfl (br_f (by decide) (br_f (fun y => h16 ((nI_eq (b := 16) (by omega) (by omega)).mp y)) hpost))))))))))
      · exact fun _ => ⟨by omega, by omega⟩
theorem sw_6 (h80 : T ≤ 80) (hp : p < T) (hD : D ≤ 16) (hE : E ≤ 16) (ht : t ≤ 200) (hl : l ≤ 7) (hV : sk_vs c T ≤ 12) (hc : c p = 6) : ∃ e : Int32, (∀ post : Int32 → Prop, post e → wpX_whyStop post (xT, tr, ep, ind, nI (sk_vs c T), pc, nI D, nI E, nI p, nI t, nI (l + 1), c, a, nm, nv, ps, pst, psk, jm, cp, stk, em, ce, rp, ct, cm)) ∧ (∀ post : Int32 → Prop, post e → wpY_obstacle post (nI T, tr, ep, nI D, nI E, nI l, nI t, c, a, stk, em, ce, po, yc, ye) (nI p)) ∧ (e = 0 → 1 ≤ D ∧ True) := by
  have cw : ∀ post : Int32 → Prop, post 0 → wpY_callsWord post (nI T, tr, ep, nI D, nI E, nI l, nI t, c, a, stk, em, ce, po, yc, ye) (nI p) := fun post h => sy_cwN (by omega) (by rw [hc]; decide) h
  by_cases hu : D < 1
  · refine ⟨11, ?_, ?_, ?_⟩
    · intro post hpost
      exact sx_whU (k := 1) (by omega) hD (by omega) hc (fun _ h => sx_nt6 h) hu hpost
    · intro post hpost
      exact sy_obU (k := 1) (by omega) hD (by omega) hc (fun _ h => sy_tk6 h) hu hpost
    · exact fun y => absurd y (by decide)
  · obtain ⟨d, rfl⟩ : ∃ d, D = d + 1 := ⟨D - 1, by omega⟩
    have hzz : ∀ {z : Int32}, (0 < d + 1 → z = stk (d + 1 - 1)) → z = stk d := fun h => h (by omega)
    · refine ⟨0, ?_, ?_, ?_⟩
      · intro post hpost
        exact sx_wh (r := 0) (k := 1) (by omega) hD (by omega) hc (fun _ h => sx_nt6 h) (by omega) (fun _ h => sx_ns6 h) (Or.inr ⟨rfl, (fun _ => sx_ad6 (br_t rfl hpost)), fun _ => hpost⟩)
      · intro post hpost
        exact sy_ob (w := 0) (k := 1) (by omega) hD (by omega) hc (fun _ h => sy_tk6 h) (by omega) cw (fun z hz => br_f (by decide) (br_f (by decide) (br_f (by decide) (br_f (by decide) (sy_95n (by decide) (by decide) (by decide) (br_t rfl (br_f (by decide) (br_f (by decide) (br_f (by decide) (br_f (by decide) (br_f (by decide) (br_t rfl hpost))))))))))))
      · exact fun _ => ⟨by omega, trivial⟩
theorem sw_7 (h80 : T ≤ 80) (hp : p < T) (hD : D ≤ 16) (hE : E ≤ 16) (ht : t ≤ 200) (hl : l ≤ 7) (hV : sk_vs c T ≤ 12) (hc : c p = 7) : ∃ e : Int32, (∀ post : Int32 → Prop, post e → wpX_whyStop post (xT, tr, ep, ind, nI (sk_vs c T), pc, nI D, nI E, nI p, nI t, nI (l + 1), c, a, nm, nv, ps, pst, psk, jm, cp, stk, em, ce, rp, ct, cm)) ∧ (∀ post : Int32 → Prop, post e → wpY_obstacle post (nI T, tr, ep, nI D, nI E, nI l, nI t, c, a, stk, em, ce, po, yc, ye) (nI p)) ∧ (e = 0 → 2 ≤ D ∧ True) := by
  have cw : ∀ post : Int32 → Prop, post 0 → wpY_callsWord post (nI T, tr, ep, nI D, nI E, nI l, nI t, c, a, stk, em, ce, po, yc, ye) (nI p) := fun post h => sy_cwN (by omega) (by rw [hc]; decide) h
  by_cases hu : D < 2
  · refine ⟨11, ?_, ?_, ?_⟩
    · intro post hpost
      exact sx_whU (k := 2) (by omega) hD (by omega) hc (fun _ h => sx_nt7 h) hu hpost
    · intro post hpost
      exact sy_obU (k := 2) (by omega) hD (by omega) hc (fun _ h => sy_tk7 h) hu hpost
    · exact fun y => absurd y (by decide)
  · skip
    · refine ⟨0, ?_, ?_, ?_⟩
      · intro post hpost
        exact sx_wh (r := 0) (k := 2) (by omega) hD (by omega) hc (fun _ h => sx_nt7 h) (by omega) (fun _ h => sx_ns7 h) (Or.inr ⟨rfl, (fun _ => sx_ad7 (br_t rfl hpost)), fun _ => hpost⟩)
      · intro post hpost
        exact sy_ob (w := 0) (k := 2) (by omega) hD (by omega) hc (fun _ h => sy_tk7 h) (by omega) cw (fun z hz => br_f (by decide) (br_f (by decide) (br_f (by decide) (br_f (by decide) (sy_95n (by decide) (by decide) (by decide) (br_t rfl (br_f (by decide) (br_f (by decide) (br_f (by decide) (br_f (by decide) (br_f (by decide) (br_t rfl hpost))))))))))))
      · exact fun _ => ⟨by omega, trivial⟩
theorem sw_8 (h80 : T ≤ 80) (hp : p < T) (hD : D ≤ 16) (hE : E ≤ 16) (ht : t ≤ 200) (hl : l ≤ 7) (hV : sk_vs c T ≤ 12) (hc : c p = 8) : ∃ e : Int32, (∀ post : Int32 → Prop, post e → wpX_whyStop post (xT, tr, ep, ind, nI (sk_vs c T), pc, nI D, nI E, nI p, nI t, nI (l + 1), c, a, nm, nv, ps, pst, psk, jm, cp, stk, em, ce, rp, ct, cm)) ∧ (∀ post : Int32 → Prop, post e → wpY_obstacle post (nI T, tr, ep, nI D, nI E, nI l, nI t, c, a, stk, em, ce, po, yc, ye) (nI p)) ∧ (e = 0 → 2 ≤ D ∧ D < 16) := by
  have cw : ∀ post : Int32 → Prop, post 0 → wpY_callsWord post (nI T, tr, ep, nI D, nI E, nI l, nI t, c, a, stk, em, ce, po, yc, ye) (nI p) := fun post h => sy_cwN (by omega) (by rw [hc]; decide) h
  by_cases hu : D < 2
  · refine ⟨11, ?_, ?_, ?_⟩
    · intro post hpost
      exact sx_whU (k := 2) (by omega) hD (by omega) hc (fun _ h => sx_nt8 h) hu hpost
    · intro post hpost
      exact sy_obU (k := 2) (by omega) hD (by omega) hc (fun _ h => sy_tk8 h) hu hpost
    · exact fun y => absurd y (by decide)
  · skip
    by_cases h16 : D = 16
    · refine ⟨12, ?_, ?_, ?_⟩
      · intro post hpost
        exact sx_wh (r := 0) (k := 2) (by omega) hD (by omega) hc (fun _ h => sx_nt8 h) (by omega) (fun _ h => sx_ns8 h) (Or.inr ⟨rfl, (fun _ => sx_ad8 (br_f (by decide) hpost)), fun y => absurd h16 y⟩)
      · intro post hpost
        exact sy_ob (w := 0) (k := 2) (by omega) hD (by omega) hc (fun _ h => sy_tk8 h) (by omega) cw (fun z hz => br_f (by decide) (br_f (by decide) (br_f (by decide) (br_f (by decide) (sy_95n (by decide) (by decide) (by decide) (br_t rfl (br_f (by decide) (br_f (by decide) (br_t rfl (br_f (by decide) (br_t (by rw [h16]; rfl) hpost)))))))))))
      · exact fun y => absurd y (by decide)
    · refine ⟨0, ?_, ?_, ?_⟩
      · intro post hpost
        exact sx_wh (r := 0) (k := 2) (by omega) hD (by omega) hc (fun _ h => sx_nt8 h) (by omega) (fun _ h => sx_ns8 h) (Or.inr ⟨rfl, (fun y => absurd y (by omega)), fun _ => hpost⟩)
      · intro post hpost
        exact sy_ob (w := 0) (k := 2) (by omega) hD (by omega) hc (fun _ h => sy_tk8 h) (by omega) cw (fun z hz => br_f (by decide) (br_f (by decide) (br_f (by decide) (br_f (by decide) (sy_95n (by decide) (by decide) (by decide) (br_t rfl (br_f (by decide) (br_f (by decide) (br_t rfl (br_f (by decide) (br_f (fun y => h16 ((nI_eq (b := 16) (by omega) (by omega)).mp y)) hpost)))))))))))
      · exact fun _ => ⟨by omega, by omega⟩
theorem sw_9 (h80 : T ≤ 80) (hp : p < T) (hD : D ≤ 16) (hE : E ≤ 16) (ht : t ≤ 200) (hl : l ≤ 7) (hV : sk_vs c T ≤ 12) (hc : c p = 9) : ∃ e : Int32, (∀ post : Int32 → Prop, post e → wpX_whyStop post (xT, tr, ep, ind, nI (sk_vs c T), pc, nI D, nI E, nI p, nI t, nI (l + 1), c, a, nm, nv, ps, pst, psk, jm, cp, stk, em, ce, rp, ct, cm)) ∧ (∀ post : Int32 → Prop, post e → wpY_obstacle post (nI T, tr, ep, nI D, nI E, nI l, nI t, c, a, stk, em, ce, po, yc, ye) (nI p)) ∧ (e = 0 → 3 ≤ D ∧ True) := by
  have cw : ∀ post : Int32 → Prop, post 0 → wpY_callsWord post (nI T, tr, ep, nI D, nI E, nI l, nI t, c, a, stk, em, ce, po, yc, ye) (nI p) := fun post h => sy_cwN (by omega) (by rw [hc]; decide) h
  by_cases hu : D < 3
  · refine ⟨11, ?_, ?_, ?_⟩
    · intro post hpost
      exact sx_whU (k := 3) (by omega) hD (by omega) hc (fun _ h => sx_nt9 h) hu hpost
    · intro post hpost
      exact sy_obU (k := 3) (by omega) hD (by omega) hc (fun _ h => sy_tk9 h) hu hpost
    · exact fun y => absurd y (by decide)
  · skip
    · refine ⟨0, ?_, ?_, ?_⟩
      · intro post hpost
        exact sx_wh (r := 0) (k := 3) (by omega) hD (by omega) hc (fun _ h => sx_nt9 h) (by omega) (fun _ h => sx_ns9 h) (Or.inr ⟨rfl, (fun _ => sx_ad9 (br_t rfl hpost)), fun _ => hpost⟩)
      · intro post hpost
        exact sy_ob (w := 0) (k := 3) (by omega) hD (by omega) hc (fun _ h => sy_tk9 h) (by omega) cw (fun z hz => br_f (by decide) (br_f (by decide) (br_f (by decide) (br_f (by decide) (sy_95n (by decide) (by decide) (by decide) (br_t rfl (br_f (by decide) (br_f (by decide) (br_f (by decide) (br_f (by decide) (br_f (by decide) (br_t rfl hpost))))))))))))
      · exact fun _ => ⟨by omega, trivial⟩
theorem sw_10 (h80 : T ≤ 80) (hp : p < T) (hD : D ≤ 16) (hE : E ≤ 16) (ht : t ≤ 200) (hl : l ≤ 7) (hV : sk_vs c T ≤ 12) (hc : c p = 10) : ∃ e : Int32, (∀ post : Int32 → Prop, post e → wpX_whyStop post (xT, tr, ep, ind, nI (sk_vs c T), pc, nI D, nI E, nI p, nI t, nI (l + 1), c, a, nm, nv, ps, pst, psk, jm, cp, stk, em, ce, rp, ct, cm)) ∧ (∀ post : Int32 → Prop, post e → wpY_obstacle post (nI T, tr, ep, nI D, nI E, nI l, nI t, c, a, stk, em, ce, po, yc, ye) (nI p)) ∧ (e = 0 → 2 ≤ D ∧ True) := by
  have cw : ∀ post : Int32 → Prop, post 0 → wpY_callsWord post (nI T, tr, ep, nI D, nI E, nI l, nI t, c, a, stk, em, ce, po, yc, ye) (nI p) := fun post h => sy_cwN (by omega) (by rw [hc]; decide) h
  by_cases hu : D < 2
  · refine ⟨11, ?_, ?_, ?_⟩
    · intro post hpost
      exact sx_whU (k := 2) (by omega) hD (by omega) hc (fun _ h => sx_nt10 h) hu hpost
    · intro post hpost
      exact sy_obU (k := 2) (by omega) hD (by omega) hc (fun _ h => sy_tk10 h) hu hpost
    · exact fun y => absurd y (by decide)
  · skip
    · refine ⟨0, ?_, ?_, ?_⟩
      · intro post hpost
        exact sx_wh (r := 0) (k := 2) (by omega) hD (by omega) hc (fun _ h => sx_nt10 h) (by omega) (fun _ h => sx_ns10 h) (Or.inr ⟨rfl, (fun _ => sx_ad10 (br_t rfl hpost)), fun _ => hpost⟩)
      · intro post hpost
        exact sy_ob (w := 0) (k := 2) (by omega) hD (by omega) hc (fun _ h => sy_tk10 h) (by omega) cw (fun z hz => br_f (by decide) (br_f (by decide) (br_f (by decide) (br_f (by decide) (sy_95n (by decide) (by decide) (by decide) (br_t rfl (br_f (by decide) (br_f (by decide) (br_f (by decide) (br_f (by decide) (br_f (by decide) (br_t rfl hpost))))))))))))
      · exact fun _ => ⟨by omega, trivial⟩
theorem sw_11 (h80 : T ≤ 80) (hp : p < T) (hD : D ≤ 16) (hE : E ≤ 16) (ht : t ≤ 200) (hl : l ≤ 7) (hV : sk_vs c T ≤ 12) (hc : c p = 11) : ∃ e : Int32, (∀ post : Int32 → Prop, post e → wpX_whyStop post (xT, tr, ep, ind, nI (sk_vs c T), pc, nI D, nI E, nI p, nI t, nI (l + 1), c, a, nm, nv, ps, pst, psk, jm, cp, stk, em, ce, rp, ct, cm)) ∧ (∀ post : Int32 → Prop, post e → wpY_obstacle post (nI T, tr, ep, nI D, nI E, nI l, nI t, c, a, stk, em, ce, po, yc, ye) (nI p)) ∧ (e = 0 → 2 ≤ D ∧ True) := by
  have cw : ∀ post : Int32 → Prop, post 0 → wpY_callsWord post (nI T, tr, ep, nI D, nI E, nI l, nI t, c, a, stk, em, ce, po, yc, ye) (nI p) := fun post h => sy_cwN (by omega) (by rw [hc]; decide) h
  by_cases hu : D < 2
  · refine ⟨11, ?_, ?_, ?_⟩
    · intro post hpost
      exact sx_whU (k := 2) (by omega) hD (by omega) hc (fun _ h => sx_nt11 h) hu hpost
    · intro post hpost
      exact sy_obU (k := 2) (by omega) hD (by omega) hc (fun _ h => sy_tk11 h) hu hpost
    · exact fun y => absurd y (by decide)
  · skip
    · refine ⟨0, ?_, ?_, ?_⟩
      · intro post hpost
        exact sx_wh (r := 0) (k := 2) (by omega) hD (by omega) hc (fun _ h => sx_nt11 h) (by omega) (fun _ h => sx_ns11 h) (Or.inr ⟨rfl, (fun _ => sx_ad11 (br_t rfl hpost)), fun _ => hpost⟩)
      · intro post hpost
        exact sy_ob (w := 0) (k := 2) (by omega) hD (by omega) hc (fun _ h => sy_tk11 h) (by omega) cw (fun z hz => br_f (by decide) (br_f (by decide) (br_f (by decide) (br_f (by decide) (sy_95n (by decide) (by decide) (by decide) (br_t rfl (br_f (by decide) (br_f (by decide) (br_f (by decide) (br_f (by decide) (br_f (by decide) (br_t rfl hpost))))))))))))
      · exact fun _ => ⟨by omega, trivial⟩
theorem sw_12 (h80 : T ≤ 80) (hp : p < T) (hD : D ≤ 16) (hE : E ≤ 16) (ht : t ≤ 200) (hl : l ≤ 7) (hV : sk_vs c T ≤ 12) (hc : c p = 12) : ∃ e : Int32, (∀ post : Int32 → Prop, post e → wpX_whyStop post (xT, tr, ep, ind, nI (sk_vs c T), pc, nI D, nI E, nI p, nI t, nI (l + 1), c, a, nm, nv, ps, pst, psk, jm, cp, stk, em, ce, rp, ct, cm)) ∧ (∀ post : Int32 → Prop, post e → wpY_obstacle post (nI T, tr, ep, nI D, nI E, nI l, nI t, c, a, stk, em, ce, po, yc, ye) (nI p)) ∧ (e = 0 → 1 ≤ D ∧ ∃ n, n < sk_vs c T ∧ stk (D - 1) = nI n) := by
  have cw : ∀ post : Int32 → Prop, post 0 → wpY_callsWord post (nI T, tr, ep, nI D, nI E, nI l, nI t, c, a, stk, em, ce, po, yc, ye) (nI p) := fun post h => sy_cwN (by omega) (by rw [hc]; decide) h
  by_cases hu : D < 1
  · refine ⟨11, ?_, ?_, ?_⟩
    · intro post hpost
      exact sx_whU (k := 1) (by omega) hD (by omega) hc (fun _ h => sx_nt12 h) hu hpost
    · intro post hpost
      exact sy_obU (k := 1) (by omega) hD (by omega) hc (fun _ h => sy_tk12 h) hu hpost
    · exact fun y => absurd y (by decide)
  · obtain ⟨d, rfl⟩ : ∃ d, D = d + 1 := ⟨D - 1, by omega⟩
    have hzz : ∀ {z : Int32}, (0 < d + 1 → z = stk (d + 1 - 1)) → z = stk d := fun h => h (by omega)
    by_cases hz0 : stk d < 0 ∨ nI (sk_vs c T) ≤ stk d
    · refine ⟨14, ?_, ?_, ?_⟩
      · intro post hpost
        exact sx_wh (r := 14) (k := 1) (by omega) hD (by omega) hc (fun _ h => sx_nt12 h) (by omega) (fun _ h => sx_ns12 (sx_121 (by omega) hV (Or.inl ⟨hz0, rfl⟩) h)) (Or.inl ⟨by decide, hpost⟩)
      · intro post hpost
        exact sy_ob (w := 0) (k := 1) (by omega) hD (by omega) hc (fun _ h => sy_tk12 h) (by omega) cw (fun z hz => by
          have hz1 := hzz hz
          subst hz1
          exact br_f (by decide) (br_t rfl (sy_58 h80 (Or.inr ⟨hz0, hpost⟩))))
      · exact fun y => absurd y (by decide)
    · have n0 : ¬ stk d < 0 := fun y => hz0 (Or.inl y)
      have n1 : ¬ nI (sk_vs c T) ≤ stk d := fun y => hz0 (Or.inr y)
      obtain ⟨n, hn, en⟩ := nI_of n0
      have hn2 : n < sk_vs c T := by
        rw [en, nI_leI (by omega) hn] at n1
        omega
      · refine ⟨0, ?_, ?_, ?_⟩
        · intro post hpost
          exact sx_wh (r := 0) (k := 1) (by omega) hD (by omega) hc (fun _ h => sx_nt12 h) (by omega) (fun _ h => sx_ns12 (sx_121 (by omega) hV (Or.inr ⟨n0, n1, rfl⟩) h)) (Or.inr ⟨rfl, (fun _ => sx_ad12 (br_t rfl hpost)), fun _ => hpost⟩)
        · intro post hpost
          exact sy_ob (w := 0) (k := 1) (by omega) hD (by omega) hc (fun _ h => sy_tk12 h) (by omega) cw (fun z hz => by
            have hz1 := hzz hz
            subst hz1
            exact br_f (by decide) (br_t rfl (sy_58 h80 (Or.inl ⟨n0, n1, br_f (by decide) (sy_95n (by decide) (by decide) (by decide) (br_t rfl (br_f (by decide) (br_f (by decide) (br_f (by decide) (br_f (by decide) (br_f (by decide) (br_t rfl hpost))))))))⟩))))
        · exact fun _ => ⟨by omega, n, hn2, en⟩
theorem sw_13 (h80 : T ≤ 80) (hp : p < T) (hD : D ≤ 16) (hE : E ≤ 16) (ht : t ≤ 200) (hl : l ≤ 7) (hV : sk_vs c T ≤ 12) (hc : c p = 13) : ∃ e : Int32, (∀ post : Int32 → Prop, post e → wpX_whyStop post (xT, tr, ep, ind, nI (sk_vs c T), pc, nI D, nI E, nI p, nI t, nI (l + 1), c, a, nm, nv, ps, pst, psk, jm, cp, stk, em, ce, rp, ct, cm)) ∧ (∀ post : Int32 → Prop, post e → wpY_obstacle post (nI T, tr, ep, nI D, nI E, nI l, nI t, c, a, stk, em, ce, po, yc, ye) (nI p)) ∧ (e = 0 → 2 ≤ D ∧ ∃ n, n < sk_vs c T ∧ stk (D - 1) = nI n) := by
  have cw : ∀ post : Int32 → Prop, post 0 → wpY_callsWord post (nI T, tr, ep, nI D, nI E, nI l, nI t, c, a, stk, em, ce, po, yc, ye) (nI p) := fun post h => sy_cwN (by omega) (by rw [hc]; decide) h
  by_cases hu : D < 2
  · refine ⟨11, ?_, ?_, ?_⟩
    · intro post hpost
      exact sx_whU (k := 2) (by omega) hD (by omega) hc (fun _ h => sx_nt13 h) hu hpost
    · intro post hpost
      exact sy_obU (k := 2) (by omega) hD (by omega) hc (fun _ h => sy_tk13 h) hu hpost
    · exact fun y => absurd y (by decide)
  · obtain ⟨d, rfl⟩ : ∃ d, D = d + 1 := ⟨D - 1, by omega⟩
    have hzz : ∀ {z : Int32}, (0 < d + 1 → z = stk (d + 1 - 1)) → z = stk d := fun h => h (by omega)
    by_cases hz0 : stk d < 0 ∨ nI (sk_vs c T) ≤ stk d
    · refine ⟨14, ?_, ?_, ?_⟩
      · intro post hpost
        exact sx_wh (r := 14) (k := 2) (by omega) hD (by omega) hc (fun _ h => sx_nt13 h) (by omega) (fun _ h => sx_ns13 (sx_121 (by omega) hV (Or.inl ⟨hz0, rfl⟩) h)) (Or.inl ⟨by decide, hpost⟩)
      · intro post hpost
        exact sy_ob (w := 0) (k := 2) (by omega) hD (by omega) hc (fun _ h => sy_tk13 h) (by omega) cw (fun z hz => by
          have hz1 := hzz hz
          subst hz1
          exact br_f (by decide) (br_f (by decide) (br_t rfl (sy_58 h80 (Or.inr ⟨hz0, hpost⟩)))))
      · exact fun y => absurd y (by decide)
    · have n0 : ¬ stk d < 0 := fun y => hz0 (Or.inl y)
      have n1 : ¬ nI (sk_vs c T) ≤ stk d := fun y => hz0 (Or.inr y)
      obtain ⟨n, hn, en⟩ := nI_of n0
      have hn2 : n < sk_vs c T := by
        rw [en, nI_leI (by omega) hn] at n1
        omega
      · refine ⟨0, ?_, ?_, ?_⟩
        · intro post hpost
          exact sx_wh (r := 0) (k := 2) (by omega) hD (by omega) hc (fun _ h => sx_nt13 h) (by omega) (fun _ h => sx_ns13 (sx_121 (by omega) hV (Or.inr ⟨n0, n1, rfl⟩) h)) (Or.inr ⟨rfl, (fun _ => sx_ad13 (br_t rfl hpost)), fun _ => hpost⟩)
        · intro post hpost
          exact sy_ob (w := 0) (k := 2) (by omega) hD (by omega) hc (fun _ h => sy_tk13 h) (by omega) cw (fun z hz => by
            have hz1 := hzz hz
            subst hz1
            exact br_f (by decide) (br_f (by decide) (br_t rfl (sy_58 h80 (Or.inl ⟨n0, n1, br_f (by decide) (sy_95n (by decide) (by decide) (by decide) (br_t rfl (br_f (by decide) (br_f (by decide) (br_f (by decide) (br_f (by decide) (br_f (by decide) (br_t rfl hpost))))))))⟩)))))
        · exact fun _ => ⟨by omega, n, hn2, en⟩
theorem sw_14 (h80 : T ≤ 80) (hp : p < T) (hD : D ≤ 16) (hE : E ≤ 16) (ht : t ≤ 200) (hl : l ≤ 7) (hV : sk_vs c T ≤ 12) (hc : c p = 14) : ∃ e : Int32, (∀ post : Int32 → Prop, post e → wpX_whyStop post (xT, tr, ep, ind, nI (sk_vs c T), pc, nI D, nI E, nI p, nI t, nI (l + 1), c, a, nm, nv, ps, pst, psk, jm, cp, stk, em, ce, rp, ct, cm)) ∧ (∀ post : Int32 → Prop, post e → wpY_obstacle post (nI T, tr, ep, nI D, nI E, nI l, nI t, c, a, stk, em, ce, po, yc, ye) (nI p)) ∧ (e = 0 → 1 ≤ D ∧ E < 16) := by
  have cw : ∀ post : Int32 → Prop, post 0 → wpY_callsWord post (nI T, tr, ep, nI D, nI E, nI l, nI t, c, a, stk, em, ce, po, yc, ye) (nI p) := fun post h => sy_cwN (by omega) (by rw [hc]; decide) h
  by_cases hu : D < 1
  · refine ⟨11, ?_, ?_, ?_⟩
    · intro post hpost
      exact sx_whU (k := 1) (by omega) hD (by omega) hc (fun _ h => sx_nt14 h) hu hpost
    · intro post hpost
      exact sy_obU (k := 1) (by omega) hD (by omega) hc (fun _ h => sy_tk14 h) hu hpost
    · exact fun y => absurd y (by decide)
  · obtain ⟨d, rfl⟩ : ∃ d, D = d + 1 := ⟨D - 1, by omega⟩
    have hzz : ∀ {z : Int32}, (0 < d + 1 → z = stk (d + 1 - 1)) → z = stk d := fun h => h (by omega)
    by_cases hz0 : E = 16
    · refine ⟨15, ?_, ?_, ?_⟩
      · intro post hpost
        exact sx_wh (r := 15) (k := 1) (by omega) hD (by omega) hc (fun _ h => sx_nt14 h) (by omega) (fun _ h => sx_ns14 hE (Or.inl ⟨hz0, rfl⟩) h) (Or.inl ⟨by decide, hpost⟩)
      · intro post hpost
        exact sy_ob (w := 0) (k := 1) (by omega) hD (by omega) hc (fun _ h => sy_tk14 h) (by omega) cw (fun z hz => br_f (by decide) (br_f (by decide) (br_f (by decide) (br_t rfl (br_t (by rw [hz0]; rfl) hpost)))))
      · exact fun y => absurd y (by decide)
    · refine ⟨0, ?_, ?_, ?_⟩
      · intro post hpost
        exact sx_wh (r := 0) (k := 1) (by omega) hD (by omega) hc (fun _ h => sx_nt14 h) (by omega) (fun _ h => sx_ns14 hE (Or.inr ⟨hz0, rfl⟩) h) (Or.inr ⟨rfl, (fun _ => sx_ad14 (br_t rfl hpost)), fun _ => hpost⟩)
      · intro post hpost
        exact sy_ob (w := 0) (k := 1) (by omega) hD (by omega) hc (fun _ h => sy_tk14 h) (by omega) cw (fun z hz => br_f (by decide) (br_f (by decide) (br_f (by decide) (br_t rfl (br_f (fun y => hz0 ((nI_eq (b := 16) (by omega) (by omega)).mp y)) (sy_95n (by decide) (by decide) (by decide) (br_t rfl (br_f (by decide) (br_f (by decide) (br_f (by decide) (br_f (by decide) (br_f (by decide) (br_t rfl hpost)))))))))))))
      · exact fun _ => ⟨by omega, by omega⟩
theorem sw_16 (h80 : T ≤ 80) (hp : p < T) (hD : D ≤ 16) (hE : E ≤ 16) (ht : t ≤ 200) (hl : l ≤ 7) (hV : sk_vs c T ≤ 12) (hc : c p = 16) : ∃ e : Int32, (∀ post : Int32 → Prop, post e → wpX_whyStop post (xT, tr, ep, ind, nI (sk_vs c T), pc, nI D, nI E, nI p, nI t, nI (l + 1), c, a, nm, nv, ps, pst, psk, jm, cp, stk, em, ce, rp, ct, cm)) ∧ (∀ post : Int32 → Prop, post e → wpY_obstacle post (nI T, tr, ep, nI D, nI E, nI l, nI t, c, a, stk, em, ce, po, yc, ye) (nI p)) ∧ (e = 0 → 1 ≤ D ∧ True) := by
  have cw : ∀ post : Int32 → Prop, post 0 → wpY_callsWord post (nI T, tr, ep, nI D, nI E, nI l, nI t, c, a, stk, em, ce, po, yc, ye) (nI p) := fun post h => sy_cwN (by omega) (by rw [hc]; decide) h
  by_cases hu : D < 1
  · refine ⟨11, ?_, ?_, ?_⟩
    · intro post hpost
      exact sx_whU (k := 1) (by omega) hD (by omega) hc (fun _ h => sx_nt16 h) hu hpost
    · intro post hpost
      exact sy_obU (k := 1) (by omega) hD (by omega) hc (fun _ h => sy_tk16 h) hu hpost
    · exact fun y => absurd y (by decide)
  · obtain ⟨d, rfl⟩ : ∃ d, D = d + 1 := ⟨D - 1, by omega⟩
    have hzz : ∀ {z : Int32}, (0 < d + 1 → z = stk (d + 1 - 1)) → z = stk d := fun h => h (by omega)
    · refine ⟨0, ?_, ?_, ?_⟩
      · intro post hpost
        exact sx_wh (r := 0) (k := 1) (by omega) hD (by omega) hc (fun _ h => sx_nt16 h) (by omega) (fun _ h => sx_ns16 h) (Or.inr ⟨rfl, (fun _ => sx_ad16 (br_t rfl hpost)), fun _ => hpost⟩)
      · intro post hpost
        exact sy_ob (w := 0) (k := 1) (by omega) hD (by omega) hc (fun _ h => sy_tk16 h) (by omega) cw (fun z hz => br_f (by decide) (br_f (by decide) (br_f (by decide) (br_f (by decide) (sy_95n (by decide) (by decide) (by decide) (br_t rfl (br_f (by decide) (br_f (by decide) (br_f (by decide) (br_f (by decide) (br_f (by decide) (br_t rfl hpost))))))))))))
      · exact fun _ => ⟨by omega, trivial⟩
theorem sw_17 (h80 : T ≤ 80) (hp : p < T) (hD : D ≤ 16) (hE : E ≤ 16) (ht : t ≤ 200) (hl : l ≤ 7) (hV : sk_vs c T ≤ 12) (hc : c p = 17) : ∃ e : Int32, (∀ post : Int32 → Prop, post e → wpX_whyStop post (xT, tr, ep, ind, nI (sk_vs c T), pc, nI D, nI E, nI p, nI t, nI (l + 1), c, a, nm, nv, ps, pst, psk, jm, cp, stk, em, ce, rp, ct, cm)) ∧ (∀ post : Int32 → Prop, post e → wpY_obstacle post (nI T, tr, ep, nI D, nI E, nI l, nI t, c, a, stk, em, ce, po, yc, ye) (nI p)) ∧ (e = 0 → 0 ≤ D ∧ True) := by
  have cw : ∀ post : Int32 → Prop, post 0 → wpY_callsWord post (nI T, tr, ep, nI D, nI E, nI l, nI t, c, a, stk, em, ce, po, yc, ye) (nI p) := fun post h => sy_cwN (by omega) (by rw [hc]; decide) h
  · refine ⟨0, ?_, ?_, ?_⟩
    · intro post hpost
      exact sx_wh (r := 0) (k := 0) (by omega) hD (by omega) hc (fun _ h => sx_nt17 h) (by omega) (fun _ h => sx_ns17 h) (Or.inr ⟨rfl, (fun _ => sx_ad17 (br_t rfl hpost)), fun _ => hpost⟩)
    · intro post hpost
      exact sy_ob (w := 0) (k := 0) (by omega) hD (by omega) hc (fun _ h => sy_tk17 h) (by omega) cw (fun z hz => br_f (by decide) (br_f (by decide) (br_f (by decide) (br_f (by decide) (sy_95n (by decide) (by decide) (by decide) (br_t rfl (br_f (by decide) (br_f (by decide) (br_f (by decide) (br_f (by decide) (br_f (by decide) (br_t rfl hpost))))))))))))
    · exact fun _ => ⟨by omega, trivial⟩
theorem sw_18 (h80 : T ≤ 80) (hp : p < T) (hD : D ≤ 16) (hE : E ≤ 16) (ht : t ≤ 200) (hl : l ≤ 7) (hV : sk_vs c T ≤ 12) (hc : c p = 18) : ∃ e : Int32, (∀ post : Int32 → Prop, post e → wpX_whyStop post (xT, tr, ep, ind, nI (sk_vs c T), pc, nI D, nI E, nI p, nI t, nI (l + 1), c, a, nm, nv, ps, pst, psk, jm, cp, stk, em, ce, rp, ct, cm)) ∧ (∀ post : Int32 → Prop, post e → wpY_obstacle post (nI T, tr, ep, nI D, nI E, nI l, nI t, c, a, stk, em, ce, po, yc, ye) (nI p)) ∧ (e = 0 → 0 ≤ D ∧ True) := by
  have cw : ∀ post : Int32 → Prop, post 0 → wpY_callsWord post (nI T, tr, ep, nI D, nI E, nI l, nI t, c, a, stk, em, ce, po, yc, ye) (nI p) := fun post h => sy_cwN (by omega) (by rw [hc]; decide) h
  · refine ⟨0, ?_, ?_, ?_⟩
    · intro post hpost
      exact sx_wh (r := 0) (k := 0) (by omega) hD (by omega) hc (fun _ h => sx_nt18 h) (by omega) (fun _ h => sx_ns18 h) (Or.inr ⟨rfl, (fun _ => sx_ad18 (br_t rfl hpost)), fun _ => hpost⟩)
    · intro post hpost
      exact sy_ob (w := 0) (k := 0) (by omega) hD (by omega) hc (fun _ h => sy_tk18 h) (by omega) cw (fun z hz => br_f (by decide) (br_f (by decide) (br_f (by decide) (br_f (by decide) (sy_95n (by decide) (by decide) (by decide) (br_t rfl (br_f (by decide) (br_f (by decide) (br_f (by decide) (br_f (by decide) (br_f (by decide) (br_t rfl hpost))))))))))))
    · exact fun _ => ⟨by omega, trivial⟩
theorem sw_19 (h80 : T ≤ 80) (hp : p < T) (hD : D ≤ 16) (hE : E ≤ 16) (ht : t ≤ 200) (hl : l ≤ 7) (hV : sk_vs c T ≤ 12) (hc : c p = 19) : ∃ e : Int32, (∀ post : Int32 → Prop, post e → wpX_whyStop post (xT, tr, ep, ind, nI (sk_vs c T), pc, nI D, nI E, nI p, nI t, nI (l + 1), c, a, nm, nv, ps, pst, psk, jm, cp, stk, em, ce, rp, ct, cm)) ∧ (∀ post : Int32 → Prop, post e → wpY_obstacle post (nI T, tr, ep, nI D, nI E, nI l, nI t, c, a, stk, em, ce, po, yc, ye) (nI p)) ∧ (e = 0 → 0 ≤ D ∧ True) := by
  have cw : ∀ post : Int32 → Prop, post 0 → wpY_callsWord post (nI T, tr, ep, nI D, nI E, nI l, nI t, c, a, stk, em, ce, po, yc, ye) (nI p) := fun post h => sy_cwN (by omega) (by rw [hc]; decide) h
  · refine ⟨0, ?_, ?_, ?_⟩
    · intro post hpost
      exact sx_wh (r := 0) (k := 0) (by omega) hD (by omega) hc (fun _ h => sx_nt19 h) (by omega) (fun _ h => sx_ns19 h) (Or.inr ⟨rfl, (fun _ => sx_ad19 (br_t rfl hpost)), fun _ => hpost⟩)
    · intro post hpost
      exact sy_ob (w := 0) (k := 0) (by omega) hD (by omega) hc (fun _ h => sy_tk19 h) (by omega) cw (fun z hz => br_f (by decide) (br_f (by decide) (br_f (by decide) (br_f (by decide) (sy_95n (by decide) (by decide) (by decide) (br_t rfl (br_f (by decide) (br_f (by decide) (br_f (by decide) (br_f (by decide) (br_f (by decide) (br_t rfl hpost))))))))))))
    · exact fun _ => ⟨by omega, trivial⟩
theorem sw_20 (h80 : T ≤ 80) (hp : p < T) (hD : D ≤ 16) (hE : E ≤ 16) (ht : t ≤ 200) (hl : l ≤ 7) (hV : sk_vs c T ≤ 12) (hc : c p = 20) : ∃ e : Int32, (∀ post : Int32 → Prop, post e → wpX_whyStop post (xT, tr, ep, ind, nI (sk_vs c T), pc, nI D, nI E, nI p, nI t, nI (l + 1), c, a, nm, nv, ps, pst, psk, jm, cp, stk, em, ce, rp, ct, cm)) ∧ (∀ post : Int32 → Prop, post e → wpY_obstacle post (nI T, tr, ep, nI D, nI E, nI l, nI t, c, a, stk, em, ce, po, yc, ye) (nI p)) ∧ (e = 0 → 1 ≤ D ∧ (stk (D - 1) = 0 → t < 200)) := by
  have cw : ∀ post : Int32 → Prop, post 0 → wpY_callsWord post (nI T, tr, ep, nI D, nI E, nI l, nI t, c, a, stk, em, ce, po, yc, ye) (nI p) := fun post h => sy_cwN (by omega) (by rw [hc]; decide) h
  by_cases hu : D < 1
  · refine ⟨11, ?_, ?_, ?_⟩
    · intro post hpost
      exact sx_whU (k := 1) (by omega) hD (by omega) hc (fun _ h => sx_nt20 h) hu hpost
    · intro post hpost
      exact sy_obU (k := 1) (by omega) hD (by omega) hc (fun _ h => sy_tk20 h) hu hpost
    · exact fun y => absurd y (by decide)
  · obtain ⟨d, rfl⟩ : ∃ d, D = d + 1 := ⟨D - 1, by omega⟩
    have hzz : ∀ {z : Int32}, (0 < d + 1 → z = stk (d + 1 - 1)) → z = stk d := fun h => h (by omega)
    by_cases hz0 : stk d = 0
    · by_cases ht2 : t = 200
      · refine ⟨16, ?_, ?_, ?_⟩
        · intro post hpost
          exact sx_wh (r := 16) (k := 1) (by omega) hD (by omega) hc (fun _ h => sx_nt20 h) (by omega) (fun _ h => sx_ns20 (by omega) ht (Or.inl ⟨hz0, ht2, rfl⟩) h) (Or.inl ⟨by decide, hpost⟩)
        · intro post hpost
          exact sy_ob (w := 0) (k := 1) (by omega) hD (by omega) hc (fun _ h => sy_tk20 h) (by omega) cw (fun z hz => br_f (by decide) (br_f (by decide) (br_f (by decide) (br_f (by decide) (br_t (by rw [ht2]; rfl) (br_t rfl (br_t rfl (br_t ((hzz hz).trans hz0) hpost))))))))
        · exact fun y => absurd y (by decide)
      · refine ⟨0, ?_, ?_, ?_⟩
        · intro post hpost
          exact sx_wh (r := 0) (k := 1) (by omega) hD (by omega) hc (fun _ h => sx_nt20 h) (by omega) (fun _ h => sx_ns20 (by omega) ht (Or.inr (Or.inl ⟨hz0, ht2, rfl⟩)) h) (Or.inr ⟨rfl, (fun _ => sx_ad20 (br_t rfl hpost)), fun _ => hpost⟩)
        · intro post hpost
          exact sy_ob (w := 0) (k := 1) (by omega) hD (by omega) hc (fun _ h => sy_tk20 h) (by omega) cw (fun z hz => br_f (by decide) (br_f (by decide) (br_f (by decide) (br_f (by decide) (br_f (fun y => ht2 ((nI_eq (b := 200) (by omega) (by omega)).mp y)) (br_t rfl (br_f (by decide) (br_f (by decide) (br_f (by decide) (br_f (by decide) (br_f (by decide) (br_t rfl hpost))))))))))))
        · exact fun _ => ⟨by omega, fun _ => by omega⟩
    · by_cases ht2 : t = 200
      · refine ⟨0, ?_, ?_, ?_⟩
        · intro post hpost
          exact sx_wh (r := 0) (k := 1) (by omega) hD (by omega) hc (fun _ h => sx_nt20 h) (by omega) (fun _ h => sx_ns20 (by omega) ht (Or.inr (Or.inr ⟨hz0, rfl⟩)) h) (Or.inr ⟨rfl, (fun _ => sx_ad20 (br_t rfl hpost)), fun _ => hpost⟩)
        · intro post hpost
          exact sy_ob (w := 0) (k := 1) (by omega) hD (by omega) hc (fun _ h => sy_tk20 h) (by omega) cw (fun z hz => br_f (by decide) (br_f (by decide) (br_f (by decide) (br_f (by decide) (br_t (by rw [ht2]; rfl) (br_t rfl (br_t rfl (br_f (fun y => hz0 ((hzz hz).symm.trans y)) (br_f (by decide) (br_f (by decide) (br_t rfl (br_f (by decide) (br_f (by decide) (br_f (by decide) (br_f (by decide) (br_f (by decide) (br_t rfl hpost)))))))))))))))))
        · exact fun _ => ⟨by omega, fun y => absurd y hz0⟩
      · refine ⟨0, ?_, ?_, ?_⟩
        · intro post hpost
          exact sx_wh (r := 0) (k := 1) (by omega) hD (by omega) hc (fun _ h => sx_nt20 h) (by omega) (fun _ h => sx_ns20 (by omega) ht (Or.inr (Or.inr ⟨hz0, rfl⟩)) h) (Or.inr ⟨rfl, (fun _ => sx_ad20 (br_t rfl hpost)), fun _ => hpost⟩)
        · intro post hpost
          exact sy_ob (w := 0) (k := 1) (by omega) hD (by omega) hc (fun _ h => sy_tk20 h) (by omega) cw (fun z hz => br_f (by decide) (br_f (by decide) (br_f (by decide) (br_f (by decide) (br_f (fun y => ht2 ((nI_eq (b := 200) (by omega) (by omega)).mp y)) (br_t rfl (br_f (by decide) (br_f (by decide) (br_f (by decide) (br_f (by decide) (br_f (by decide) (br_t rfl hpost))))))))))))
        · exact fun _ => ⟨by omega, fun y => absurd y hz0⟩
theorem sw_21 (h80 : T ≤ 80) (hp : p < T) (hD : D ≤ 16) (hE : E ≤ 16) (ht : t ≤ 200) (hl : l ≤ 7) (hV : sk_vs c T ≤ 12) (hc : c p = 21) : ∃ e : Int32, (∀ post : Int32 → Prop, post e → wpX_whyStop post (xT, tr, ep, ind, nI (sk_vs c T), pc, nI D, nI E, nI p, nI t, nI (l + 1), c, a, nm, nv, ps, pst, psk, jm, cp, stk, em, ce, rp, ct, cm)) ∧ (∀ post : Int32 → Prop, post e → wpY_obstacle post (nI T, tr, ep, nI D, nI E, nI l, nI t, c, a, stk, em, ce, po, yc, ye) (nI p)) ∧ (e = 0 → 1 ≤ D ∧ True) := by
  have cw : ∀ post : Int32 → Prop, post 0 → wpY_callsWord post (nI T, tr, ep, nI D, nI E, nI l, nI t, c, a, stk, em, ce, po, yc, ye) (nI p) := fun post h => sy_cwN (by omega) (by rw [hc]; decide) h
  by_cases hu : D < 1
  · refine ⟨11, ?_, ?_, ?_⟩
    · intro post hpost
      exact sx_whU (k := 1) (by omega) hD (by omega) hc (fun _ h => sx_nt21 h) hu hpost
    · intro post hpost
      exact sy_obU (k := 1) (by omega) hD (by omega) hc (fun _ h => sy_tk21 h) hu hpost
    · exact fun y => absurd y (by decide)
  · obtain ⟨d, rfl⟩ : ∃ d, D = d + 1 := ⟨D - 1, by omega⟩
    have hzz : ∀ {z : Int32}, (0 < d + 1 → z = stk (d + 1 - 1)) → z = stk d := fun h => h (by omega)
    · refine ⟨0, ?_, ?_, ?_⟩
      · intro post hpost
        exact sx_wh (r := 0) (k := 1) (by omega) hD (by omega) hc (fun _ h => sx_nt21 h) (by omega) (fun _ h => sx_ns21 h) (Or.inr ⟨rfl, (fun _ => sx_ad21 (br_t rfl hpost)), fun _ => hpost⟩)
      · intro post hpost
        exact sy_ob (w := 0) (k := 1) (by omega) hD (by omega) hc (fun _ h => sy_tk21 h) (by omega) cw (fun z hz => br_f (by decide) (br_f (by decide) (br_f (by decide) (br_f (by decide) (sy_95n (by decide) (by decide) (by decide) (br_t rfl (br_f (by decide) (br_f (by decide) (br_f (by decide) (br_f (by decide) (br_f (by decide) (br_t rfl hpost))))))))))))
      · exact fun _ => ⟨by omega, trivial⟩
theorem sw_22 (h80 : T ≤ 80) (hp : p < T) (hD : D ≤ 16) (hE : E ≤ 16) (ht : t ≤ 200) (hl : l ≤ 7) (hV : sk_vs c T ≤ 12) (hc : c p = 22) : ∃ e : Int32, (∀ post : Int32 → Prop, post e → wpX_whyStop post (xT, tr, ep, ind, nI (sk_vs c T), pc, nI D, nI E, nI p, nI t, nI (l + 1), c, a, nm, nv, ps, pst, psk, jm, cp, stk, em, ce, rp, ct, cm)) ∧ (∀ post : Int32 → Prop, post e → wpY_obstacle post (nI T, tr, ep, nI D, nI E, nI l, nI t, c, a, stk, em, ce, po, yc, ye) (nI p)) ∧ (e = 0 → 0 ≤ D ∧ t < 200) := by
  have cw : ∀ post : Int32 → Prop, post 0 → wpY_callsWord post (nI T, tr, ep, nI D, nI E, nI l, nI t, c, a, stk, em, ce, po, yc, ye) (nI p) := fun post h => sy_cwN (by omega) (by rw [hc]; decide) h
  by_cases ht2 : t = 200
  · refine ⟨16, ?_, ?_, ?_⟩
    · intro post hpost
      exact sx_wh (r := 16) (k := 0) (by omega) hD (by omega) hc (fun _ h => sx_nt22 h) (by omega) (fun _ h => sx_ns22 ht (Or.inl ⟨ht2, rfl⟩) h) (Or.inl ⟨by decide, hpost⟩)
    · intro post hpost
      exact sy_ob (w := 0) (k := 0) (by omega) hD (by omega) hc (fun _ h => sy_tk22 h) (by omega) cw (fun z hz => br_f (by decide) (br_f (by decide) (br_f (by decide) (br_f (by decide) (br_t (by rw [ht2]; rfl) (br_t rfl (br_f (by decide) (br_t rfl hpost))))))))
    · exact fun y => absurd y (by decide)
  · refine ⟨0, ?_, ?_, ?_⟩
    · intro post hpost
      exact sx_wh (r := 0) (k := 0) (by omega) hD (by omega) hc (fun _ h => sx_nt22 h) (by omega) (fun _ h => sx_ns22 ht (Or.inr ⟨ht2, rfl⟩) h) (Or.inr ⟨rfl, (fun _ => sx_ad22 (br_t rfl hpost)), fun _ => hpost⟩)
    · intro post hpost
      exact sy_ob (w := 0) (k := 0) (by omega) hD (by omega) hc (fun _ h => sy_tk22 h) (by omega) cw (fun z hz => br_f (by decide) (br_f (by decide) (br_f (by decide) (br_f (by decide) (br_f (fun y => ht2 ((nI_eq (b := 200) (by omega) (by omega)).mp y)) (br_t rfl (br_f (by decide) (br_f (by decide) (br_f (by decide) (br_f (by decide) (br_f (by decide) (br_t rfl hpost))))))))))))
    · exact fun _ => ⟨by omega, by omega⟩
theorem sw_23 (h80 : T ≤ 80) (hp : p < T) (hD : D ≤ 16) (hE : E ≤ 16) (ht : t ≤ 200) (hl : l ≤ 7) (hV : sk_vs c T ≤ 12) (hc : c p = 23) : ∃ e : Int32, (∀ post : Int32 → Prop, post e → wpX_whyStop post (xT, tr, ep, ind, nI (sk_vs c T), pc, nI D, nI E, nI p, nI t, nI (l + 1), c, a, nm, nv, ps, pst, psk, jm, cp, stk, em, ce, rp, ct, cm)) ∧ (∀ post : Int32 → Prop, post e → wpY_obstacle post (nI T, tr, ep, nI D, nI E, nI l, nI t, c, a, stk, em, ce, po, yc, ye) (nI p)) ∧ (e = 0 → 1 ≤ D ∧ True) := by
  have cw : ∀ post : Int32 → Prop, post 0 → wpY_callsWord post (nI T, tr, ep, nI D, nI E, nI l, nI t, c, a, stk, em, ce, po, yc, ye) (nI p) := fun post h => sy_cwN (by omega) (by rw [hc]; decide) h
  by_cases hu : D < 1
  · refine ⟨11, ?_, ?_, ?_⟩
    · intro post hpost
      exact sx_whU (k := 1) (by omega) hD (by omega) hc (fun _ h => sx_nt23 h) hu hpost
    · intro post hpost
      exact sy_obU (k := 1) (by omega) hD (by omega) hc (fun _ h => sy_tk23 h) hu hpost
    · exact fun y => absurd y (by decide)
  · obtain ⟨d, rfl⟩ : ∃ d, D = d + 1 := ⟨D - 1, by omega⟩
    have hzz : ∀ {z : Int32}, (0 < d + 1 → z = stk (d + 1 - 1)) → z = stk d := fun h => h (by omega)
    · refine ⟨0, ?_, ?_, ?_⟩
      · intro post hpost
        exact sx_wh (r := 0) (k := 1) (by omega) hD (by omega) hc (fun _ h => sx_nt23 h) (by omega) (fun _ h => sx_ns23 h) (Or.inr ⟨rfl, (fun _ => sx_ad23 (br_t rfl hpost)), fun _ => hpost⟩)
      · intro post hpost
        exact sy_ob (w := 0) (k := 1) (by omega) hD (by omega) hc (fun _ h => sy_tk23 h) (by omega) cw (fun z hz => br_f (by decide) (br_f (by decide) (br_f (by decide) (br_f (by decide) (sy_95n (by decide) (by decide) (by decide) (br_t rfl (br_f (by decide) (br_f (by decide) (br_f (by decide) (br_f (by decide) (br_f (by decide) (br_t rfl hpost))))))))))))
      · exact fun _ => ⟨by omega, trivial⟩
theorem sw_24 (h80 : T ≤ 80) (hp : p < T) (hD : D ≤ 16) (hE : E ≤ 16) (ht : t ≤ 200) (hl : l ≤ 7) (hV : sk_vs c T ≤ 12) (hc : c p = 24) : ∃ e : Int32, (∀ post : Int32 → Prop, post e → wpX_whyStop post (xT, tr, ep, ind, nI (sk_vs c T), pc, nI D, nI E, nI p, nI t, nI (l + 1), c, a, nm, nv, ps, pst, psk, jm, cp, stk, em, ce, rp, ct, cm)) ∧ (∀ post : Int32 → Prop, post e → wpY_obstacle post (nI T, tr, ep, nI D, nI E, nI l, nI t, c, a, stk, em, ce, po, yc, ye) (nI p)) ∧ (e = 0 → 0 ≤ D ∧ t < 200) := by
  have cw : ∀ post : Int32 → Prop, post 0 → wpY_callsWord post (nI T, tr, ep, nI D, nI E, nI l, nI t, c, a, stk, em, ce, po, yc, ye) (nI p) := fun post h => sy_cwN (by omega) (by rw [hc]; decide) h
  by_cases ht2 : t = 200
  · refine ⟨16, ?_, ?_, ?_⟩
    · intro post hpost
      exact sx_wh (r := 16) (k := 0) (by omega) hD (by omega) hc (fun _ h => sx_nt24 h) (by omega) (fun _ h => sx_ns24 ht (Or.inl ⟨ht2, rfl⟩) h) (Or.inl ⟨by decide, hpost⟩)
    · intro post hpost
      exact sy_ob (w := 0) (k := 0) (by omega) hD (by omega) hc (fun _ h => sy_tk24 h) (by omega) cw (fun z hz => br_f (by decide) (br_f (by decide) (br_f (by decide) (br_f (by decide) (br_t (by rw [ht2]; rfl) (br_t rfl (br_f (by decide) (br_f (by decide) (br_t rfl hpost)))))))))
    · exact fun y => absurd y (by decide)
  · refine ⟨0, ?_, ?_, ?_⟩
    · intro post hpost
      exact sx_wh (r := 0) (k := 0) (by omega) hD (by omega) hc (fun _ h => sx_nt24 h) (by omega) (fun _ h => sx_ns24 ht (Or.inr ⟨ht2, rfl⟩) h) (Or.inr ⟨rfl, (fun _ => sx_ad24 (br_t rfl hpost)), fun _ => hpost⟩)
    · intro post hpost
      exact sy_ob (w := 0) (k := 0) (by omega) hD (by omega) hc (fun _ h => sy_tk24 h) (by omega) cw (fun z hz => br_f (by decide) (br_f (by decide) (br_f (by decide) (br_f (by decide) (br_f (fun y => ht2 ((nI_eq (b := 200) (by omega) (by omega)).mp y)) (br_t rfl (br_f (by decide) (br_f (by decide) (br_f (by decide) (br_f (by decide) (br_f (by decide) (br_t rfl hpost))))))))))))
    · exact fun _ => ⟨by omega, by omega⟩
theorem sw_25 (h80 : T ≤ 80) (hp : p < T) (hD : D ≤ 16) (hE : E ≤ 16) (ht : t ≤ 200) (hl : l ≤ 7) (hV : sk_vs c T ≤ 12) (hc : c p = 25) : ∃ e : Int32, (∀ post : Int32 → Prop, post e → wpX_whyStop post (xT, tr, ep, ind, nI (sk_vs c T), pc, nI D, nI E, nI p, nI t, nI (l + 1), c, a, nm, nv, ps, pst, psk, jm, cp, stk, em, ce, rp, ct, cm)) ∧ (∀ post : Int32 → Prop, post e → wpY_obstacle post (nI T, tr, ep, nI D, nI E, nI l, nI t, c, a, stk, em, ce, po, yc, ye) (nI p)) ∧ (e = 0 → 0 ≤ D ∧ D < 16) := by
  have cw : ∀ post : Int32 → Prop, post 0 → wpY_callsWord post (nI T, tr, ep, nI D, nI E, nI l, nI t, c, a, stk, em, ce, po, yc, ye) (nI p) := fun post h => sy_cwN (by omega) (by rw [hc]; decide) h
  by_cases h16 : D = 16
  · refine ⟨12, ?_, ?_, ?_⟩
    · intro post hpost
      exact sx_wh (r := 0) (k := 0) (by omega) hD (by omega) hc (fun _ h => sx_nt25 h) (by omega) (fun _ h => sx_ns25 h) (Or.inr ⟨rfl, (fun _ => sx_ad25 (br_f (by decide) hpost)), fun y => absurd h16 y⟩)
    · intro post hpost
      exact sy_ob (w := 0) (k := 0) (by omega) hD (by omega) hc (fun _ h => sy_tk25 h) (by omega) cw (fun z hz => br_f (by decide) (br_f (by decide) (br_f (by decide) (br_f (by decide) (sy_95n (by decide) (by decide) (by decide) (br_t rfl (br_f (by decide) (br_f (by decide) (br_f (by decide) (br_t rfl (br_f (by decide) (br_t (by rw [h16]; rfl) hpost))))))))))))
    · exact fun y => absurd y (by decide)
  · refine ⟨0, ?_, ?_, ?_⟩
    · intro post hpost
      exact sx_wh (r := 0) (k := 0) (by omega) hD (by omega) hc (fun _ h => sx_nt25 h) (by omega) (fun _ h => sx_ns25 h) (Or.inr ⟨rfl, (fun y => absurd y (by omega)), fun _ => hpost⟩)
    · intro post hpost
      exact sy_ob (w := 0) (k := 0) (by omega) hD (by omega) hc (fun _ h => sy_tk25 h) (by omega) cw (fun z hz => br_f (by decide) (br_f (by decide) (br_f (by decide) (br_f (by decide) (sy_95n (by decide) (by decide) (by decide) (br_t rfl (br_f (by decide) (br_f (by decide) (br_f (by decide) (br_t rfl (br_f (by decide) (br_f (fun y => h16 ((nI_eq (b := 16) (by omega) (by omega)).mp y)) hpost))))))))))))
    · exact fun _ => ⟨by omega, by omega⟩
theorem sw_27 (h80 : T ≤ 80) (hp : p < T) (hD : D ≤ 16) (hE : E ≤ 16) (ht : t ≤ 200) (hl : l ≤ 7) (hV : sk_vs c T ≤ 12) (hc : c p = 27) : ∃ e : Int32, (∀ post : Int32 → Prop, post e → wpX_whyStop post (xT, tr, ep, ind, nI (sk_vs c T), pc, nI D, nI E, nI p, nI t, nI (l + 1), c, a, nm, nv, ps, pst, psk, jm, cp, stk, em, ce, rp, ct, cm)) ∧ (∀ post : Int32 → Prop, post e → wpY_obstacle post (nI T, tr, ep, nI D, nI E, nI l, nI t, c, a, stk, em, ce, po, yc, ye) (nI p)) ∧ (e = 0 → 0 ≤ D ∧ True) := by
  have cw : ∀ post : Int32 → Prop, post 0 → wpY_callsWord post (nI T, tr, ep, nI D, nI E, nI l, nI t, c, a, stk, em, ce, po, yc, ye) (nI p) := fun post h => sy_cwN (by omega) (by rw [hc]; decide) h
  · refine ⟨0, ?_, ?_, ?_⟩
    · intro post hpost
      exact sx_wh (r := 0) (k := 0) (by omega) hD (by omega) hc (fun _ h => sx_nt27 h) (by omega) (fun _ h => sx_ns27 h) (Or.inr ⟨rfl, (fun _ => sx_ad27 (br_t rfl hpost)), fun _ => hpost⟩)
    · intro post hpost
      exact sy_ob (w := 0) (k := 0) (by omega) hD (by omega) hc (fun _ h => sy_tk27 h) (by omega) cw (fun z hz => br_f (by decide) (br_f (by decide) (br_f (by decide) (br_f (by decide) (sy_95n (by decide) (by decide) (by decide) (br_t rfl (br_f (by decide) (br_f (by decide) (br_f (by decide) (br_f (by decide) (br_f (by decide) (br_t rfl hpost))))))))))))
    · exact fun _ => ⟨by omega, trivial⟩
theorem sw_15 (h80 : T ≤ 80) (hp : p < T) (hD : D ≤ 16) (hE : E ≤ 16) (ht : t ≤ 200) (hl : l ≤ 7) (hV : sk_vs c T ≤ 12) (hc : c p = 15) {n q : Nat} (hn : n < 12) (ha : a p = nI n) (hq : q < T) (hd : sk_df c a q (nI n)) (hlq : ∀ r, r < q → ¬ sk_df c a r (nI n)) (hm : (c q = 26 ∧ nm n = 1) ∨ (c q = 28 ∧ nm n = 2)) : ∃ e : Int32, (∀ post : Int32 → Prop, post e → wpX_whyStop post (xT, tr, ep, ind, nI (sk_vs c T), pc, nI D, nI E, nI p, nI t, nI (l + 1), c, a, nm, nv, ps, pst, psk, jm, cp, stk, em, ce, rp, ct, cm)) ∧ (∀ post : Int32 → Prop, post e → wpY_obstacle post (nI T, tr, ep, nI D, nI E, nI l, nI t, c, a, stk, em, ce, po, yc, ye) (nI p)) ∧ (e = 0 → (nm n = 1 → t < 200 ∧ l < 7) ∧ (nm n = 2 → D < 16)) := by
  rcases hm with ⟨h26, hm⟩ | ⟨h28, hm⟩
  · have cw : ∀ post : Int32 → Prop, post 1 → wpY_callsWord post (nI T, tr, ep, nI D, nI E, nI l, nI t, c, a, stk, em, ce, po, yc, ye) (nI p) := fun post h => sy_cwW h80 hp hq hc ha hd hlq h26 h
    have m2 : ¬ nm n = 2 := by rw [hm]; decide
    by_cases ht2 : t = 200
    · refine ⟨16, ?_, ?_, ?_⟩
      · intro post hpost
        exact sx_wh (r := 16) (k := 0) (by omega) hD (by omega) hc (fun _ h => sx_nt15 h) (by omega) (fun _ h => sx_ns15 (sx_csW (by omega) hn ht hl ha m2 (Or.inl ⟨ht2, rfl⟩) h)) (Or.inl ⟨by decide, hpost⟩)
      · intro post hpost
        exact sy_ob (w := 1) (k := 0) (by omega) hD (by omega) hc (fun _ h => sy_tk15 h) (by omega) cw (fun z hz => br_f (by decide) (br_f (by decide) (br_f (by decide) (br_f (by decide) (br_t (by rw [ht2]; rfl) (br_f (by decide) hpost))))))
      · exact fun y => absurd y (by decide)
    · by_cases hl2 : l = 7
      · refine ⟨17, ?_, ?_, ?_⟩
        · intro post hpost
          exact sx_wh (r := 17) (k := 0) (by omega) hD (by omega) hc (fun _ h => sx_nt15 h) (by omega) (fun _ h => sx_ns15 (sx_csW (by omega) hn ht hl ha m2 (Or.inr (Or.inl ⟨ht2, hl2, rfl⟩)) h)) (Or.inl ⟨by decide, hpost⟩)
        · intro post hpost
          exact sy_ob (w := 1) (k := 0) (by omega) hD (by omega) hc (fun _ h => sy_tk15 h) (by omega) cw (fun z hz => br_f (by decide) (br_f (by decide) (br_f (by decide) (br_f (by decide) (br_f (fun y => ht2 ((nI_eq (b := 200) (by omega) (by omega)).mp y)) (br_f (by decide) (br_t (by rw [hl2]; rfl) hpost)))))))
        · exact fun y => absurd y (by decide)
      · refine ⟨0, ?_, ?_, ?_⟩
        · intro post hpost
          exact sx_wh (r := 0) (k := 0) (by omega) hD (by omega) hc (fun _ h => sx_nt15 h) (by omega) (fun _ h => sx_ns15 (sx_csW (by omega) hn ht hl ha m2 (Or.inr (Or.inr ⟨ht2, hl2, rfl⟩)) h)) (Or.inr ⟨rfl, (fun _ => sx_ad15W (by omega) hn ha m2 (br_t rfl hpost)), fun _ => hpost⟩)
        · intro post hpost
          exact sy_ob (w := 1) (k := 0) (by omega) hD (by omega) hc (fun _ h => sy_tk15 h) (by omega) cw (fun z hz => br_f (by decide) (br_f (by decide) (br_f (by decide) (br_f (by decide) (br_f (fun y => ht2 ((nI_eq (b := 200) (by omega) (by omega)).mp y)) (br_f (by decide) (br_f (fun y => hl2 ((nI_eq (b := 7) (by omega) (by omega)).mp y)) (br_f (by decide) (br_f (by decide) (br_f (by decide) (br_f (by decide) (br_t rfl (br_f (by decide) (br_t rfl hpost))))))))))))))
        · exact fun _ => ⟨fun _ => ⟨by omega, by omega⟩, fun y => absurd y m2⟩
  · have cw : ∀ post : Int32 → Prop, post 0 → wpY_callsWord post (nI T, tr, ep, nI D, nI E, nI l, nI t, c, a, stk, em, ce, po, yc, ye) (nI p) := fun post h => sy_cwV h80 hp hq hc ha hd hlq (by rw [h28]; decide) h
    have m1 : ¬ nm n = 1 := by rw [hm]; decide
    by_cases h16 : D = 16
    · refine ⟨12, ?_, ?_, ?_⟩
      · intro post hpost
        exact sx_wh (r := 0) (k := 0) (by omega) hD (by omega) hc (fun _ h => sx_nt15 h) (by omega) (fun _ h => sx_ns15 (sx_csV (by omega) hn ha hm h)) (Or.inr ⟨rfl, (fun _ => sx_ad15V (by omega) hn ha hm (br_f (by decide) hpost)), fun y => absurd h16 y⟩)
      · intro post hpost
        exact sy_ob (w := 0) (k := 0) (by omega) hD (by omega) hc (fun _ h => sy_tk15 h) (by omega) cw (fun z hz => br_f (by decide) (br_f (by decide) (br_f (by decide) (br_f (by decide) (sy_95n (by decide) (by decide) (by decide) (br_t rfl (br_f (by decide) (br_f (by decide) (br_f (by decide) (br_f (by decide) (br_t rfl (br_t rfl (br_f (by decide) (br_t (by rw [h16]; rfl) hpost))))))))))))))
      · exact fun y => absurd y (by decide)
    · refine ⟨0, ?_, ?_, ?_⟩
      · intro post hpost
        exact sx_wh (r := 0) (k := 0) (by omega) hD (by omega) hc (fun _ h => sx_nt15 h) (by omega) (fun _ h => sx_ns15 (sx_csV (by omega) hn ha hm h)) (Or.inr ⟨rfl, (fun y => absurd y h16), fun _ => hpost⟩)
      · intro post hpost
        exact sy_ob (w := 0) (k := 0) (by omega) hD (by omega) hc (fun _ h => sy_tk15 h) (by omega) cw (fun z hz => br_f (by decide) (br_f (by decide) (br_f (by decide) (br_f (by decide) (sy_95n (by decide) (by decide) (by decide) (br_t rfl (br_f (by decide) (br_f (by decide) (br_f (by decide) (br_f (by decide) (br_t rfl (br_t rfl (br_f (by decide) (br_f (fun y => h16 ((nI_eq (b := 16) (by omega) (by omega)).mp y)) hpost))))))))))))))
      · exact fun _ => ⟨fun y => absurd y m1, fun _ => by omega⟩
end
